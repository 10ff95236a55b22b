/-! RUIN, CUT, PAIR -/
/-- the first of the greatest -/
def yArS (W : Nat → Nat) (s : Nat) (a : Option Nat) : Option Nat := match a with
  | none => some s
  | some j => if W j < W s then some s else some j
def yAr (W : Nat → Nat) (i : Nat) : Option Nat := wfold (yArS W) none i
theorem yAr_s (W : Nat → Nat) (i : Nat) : yAr W (i + 1) = yArS W i (yAr W i) := rfl
theorem yAr_lt {W : Nat → Nat} : ∀ {i j : Nat}, yAr W i = some j → j < i
  | 0, j, h => by cases h
  | i + 1, j, h => by
    rw [yAr_s] at h
    cases e : yAr W i with
    | none => rw [e] at h; cases h; omega
    | some q =>
      have := yAr_lt e
      rw [e] at h
      unfold yArS at h
      dsimp only at h
      split at h <;> cases h <;> omega
def yArM (W : Nat → Nat) : Option Nat → Int32
  | none => -1
  | some j => nI (W j)
theorem wnle_m1 {a : Nat} (ha : a < 2 ^ 31) : ¬ nI a ≤ -1 := by
  rw [Int32.le_iff_toInt_le, nI_toInt ha]
  have e0 : (-1 : Int32).toInt = -1 := rfl
  omega
theorem wgre_m1 {a : Nat} (ha : a < 2 ^ 31) : zf_greater (-1) (nI a) = nI a := by
  unfold zf_greater
  rw [if_neg]
  rw [Int32.lt_iff_toInt_lt, nI_toInt ha]
  have e0 : (-1 : Int32).toInt = -1 := rfl
  omega
section RUIN
variable {h : zK} {oo o k n s f away : Nat} {c : wC} {pl : Nat → Nat} {nd ne : Nat → Nat}
def yRuW (c : wC) (nd ne : Nat → Nat) (s : Nat) : Nat := wWitOf c (yCl nd ne c.1 s)
theorem qTr_ruin_ev (hc : cC h o c) (ok : wCok c) (T : yT h oo c.1 nd ne) : qTr_ruin oo o h = some (wO (yAr (yRuW c nd ne) c.1)) := by
  have n7 := ok.1
  have e : zloop (qTr_ruin_b7 o oo h) zfu (-1, -1, 0) = some (wO (yAr (yRuW c nd ne) c.1)) := by
    refine zloop_for (fun i => (yArM (yRuW c nd ne) (yAr (yRuW c nd ne) i), wO (yAr (yRuW c nd ne) i), nI i)) c.1 (fun i hi => ?_) ?_ (zfu_lt (by omega))
    · unfold qTr_ruin_b7
      dsimp only
      have w := wWitOf_le ok (yCl nd ne c.1 i)
      rw [T.2.1, if_neg (nI_ge hi (by omega)), qTr_from_ev T hi, Option.bind_some, qLk_witOf_ev hc ok (yCl_128 n7 hi), Option.bind_some, yAr_s, nI_1, show nI (wWitOf c (yCl nd ne c.1 i)) = nI (yRuW c nd ne i) from rfl]
      have wi : yRuW c nd ne i ≤ 210 := w
      simp only [zlet]
      cases e : yAr (yRuW c nd ne) i with
      | none =>
        rw [show yArM (yRuW c nd ne) none = -1 from rfl, if_neg (wnle_m1 (by omega))]
        rfl
      | some j =>
        have wj : yRuW c nd ne j ≤ 210 := wWitOf_le ok (yCl nd ne c.1 j)
        rw [show yArM (yRuW c nd ne) (some j) = nI (yRuW c nd ne j) from rfl]
        unfold yArS
        dsimp only
        by_cases hl : yRuW c nd ne j < yRuW c nd ne i
        · rw [if_neg (nI_ge hl (by omega)), if_pos hl]
          rfl
        · rw [if_pos (nI_le (Nat.not_lt.mp hl) (by omega)), if_neg hl]
          rfl
    · unfold qTr_ruin_b7
      dsimp only
      rw [T.2.1, if_pos (nI_le (Nat.le_refl _) (by omega))]
  unfold qTr_ruin
  rw [e]; rfl
def yArV (W : Nat → Nat) : Option Nat → Int32
  | none => 0
  | some j => nI (W j)
theorem qTr_ruinWit_ev (hc : cC h o c) (ok : wCok c) (T : yT h oo c.1 nd ne) : qTr_ruinWit oo o h = some (yArV (yRuW c nd ne) (yAr (yRuW c nd ne) c.1)) := by
  have n7 := ok.1
  unfold qTr_ruinWit
  rw [qTr_ruin_ev hc ok T, Option.bind_some]
  cases e : yAr (yRuW c nd ne) c.1 with
  | none => rw [if_neg (show ¬ ¬ wO none = -1 from fun z => z rfl)]; rfl
  | some j =>
    have hj := yAr_lt e
    rw [if_pos (show ¬ wO (some j) = -1 from nI_nm1 (by omega)), show wO (some j) = nI j from rfl, qTr_from_ev T hj, Option.bind_some, qLk_witOf_ev hc ok (yCl_128 n7 hj)]
    rfl
theorem qM_ruin_ev (ok : wCok c) (M : yM h k c pl) (x1 : Int32) : ∃ h', qM_ruin x1 h = some (if x1 = 0 then wO (yAr (yRuW c (yNd c) (yNe c.2.2.1 pl c.1)) c.1) else yArV (yRuW c (yNd c) (yNe c.2.2.1 pl c.1)) (yAr (yRuW c (yNd c) (yNe c.2.2.1 pl c.1)) c.1), h') := by
  have n7 := ok.1
  let W := yRuW c (yNd c) (yNe c.2.2.1 pl c.1)
  have wl : ∀ j, W j ≤ 210 := fun j => wWitOf_le ok _
  have key : ∃ t, zloop (qM_ruin_b7 x1) zfu (-1, -1, 0, h) = some t ∧ ∃ g, t = (wO (yAr W c.1), yArM W (yAr W c.1), g) := by
    refine zloop_fx (S := fun i x => ∃ g, x = (wO (yAr W i), yArM W (yAr W i), nI i, g) ∧ yM g k c pl) c.1 ?_ ?_ (zfu_lt (by omega)) ⟨h, rfl, M⟩
    · rintro i x hi ⟨g, rfl, Mg⟩
      unfold qM_ruin_b7
      dsimp only
      obtain ⟨h', e1, e2⟩ := qM_trainOf_0 ok Mg hi
      have wi := wl i
      rw [Mg.1.2.2.1, if_neg (nI_ge hi (by omega)), e1, Option.bind_some]
      dsimp only
      rw [qM_witsOf_ev e2.1 ok (yCl_128 n7 hi), Option.bind_some]
      simp only [zlet]
      refine ⟨_, rfl, h', ?_, e2⟩
      rw [yAr_s, nI_1, show nI (wWitOf c (yCl (yNd c) (yNe c.2.2.1 pl c.1) c.1 i)) = nI (W i) from rfl]
      cases e : yAr W i with
      | none =>
        rw [show yArM W none = -1 from rfl, if_neg (wnle_m1 (by omega)), wgre_m1 (by omega)]
        rfl
      | some j =>
        have wj := wl j
        rw [show yArM W (some j) = nI (W j) from rfl, wgren (by omega) (by omega)]
        unfold yArS
        dsimp only
        by_cases hl : W j < W i
        · rw [if_neg (nI_ge hl (by omega)), if_pos hl, if_pos hl]
          rfl
        · rw [if_pos (nI_le (Nat.not_lt.mp hl) (by omega)), if_neg hl, if_neg hl]
          rfl
    · rintro x ⟨g, rfl, Mg⟩
      unfold qM_ruin_b7
      dsimp only
      rw [Mg.1.2.2.1, if_pos (nI_le (Nat.le_refl _) (by omega))]
      exact ⟨_, rfl, g, rfl⟩
  obtain ⟨t, e1, g, rfl⟩ := key
  refine ⟨g, ?_⟩
  unfold qM_ruin
  rw [e1, Option.bind_some]
  dsimp only
  by_cases hx : x1 = 0
  · rw [if_pos hx, if_pos hx]
  · rw [if_neg hx, if_neg hx]
    congr 2
    show zf_greater 0 (yArM W (yAr W c.1)) = yArV W (yAr W c.1)
    cases e : yAr W c.1 with
    | none =>
      show zf_greater 0 (-1) = 0
      decide
    | some j =>
      have wj := wl j
      show zf_greater (nI 0) (nI (W j)) = nI (W j)
      rw [wgren (by omega) (by omega)]
      by_cases hl : 0 < W j
      · rw [if_pos hl]
      · rw [if_neg hl, show W j = 0 by omega]
/-! cut -/
def yBad (nd ne : Nat → Nat) (away s t : Nat) : Bool := !decide (s = t) && (!away.testBit s && (!away.testBit t && decide (nd t ≤ if (ne t).testBit s then 1 else 0)))
def yBadS (nd ne : Nat → Nat) (n away s : Nat) : Bool := decide (fa_first (yBad nd ne away s) n < n)
def yCalm (nd ne : Nat → Nat) (n away : Nat) : Bool := !decide (fa_first (yBadS nd ne n away) n < n)
theorem qTr_isCalmWithout_b12_ev (T : yT h oo n nd ne) (ha : away < 128) (hs : s < n) : zloop (qTr_isCalmWithout_b12 oo (nI away) (nI s) h) zfu 0 = some (if yBadS nd ne n away s then Sum.inr 0 else Sum.inl ()) := by
  have n7 := T.1
  have fl := fa_first_le (yBad nd ne away s) n
  refine zloop_for (fun i => nI i) (fa_first (yBad nd ne away s) n) (fun i hi => ?_) ?_ (zfu_lt (by omega))
  · have q := fa_first_no (yBad nd ne away s) n i hi
    obtain ⟨a1, a2, a3, a4⟩ := T.2.2 i (by omega)
    unfold qTr_isCalmWithout_b12
    simp only [zlet]
    rw [T.2.1, if_neg (nI_ge (show i < n by omega) (by omega)), wcin away ha s (by omega), wcin away ha i (by omega), nI_1]
    unfold yBad at q
    by_cases h1 : s = i
    · subst h1
      rw [if_pos rfl, if_pos rfl]
    · rw [if_neg (show ¬ nI s = nI i from fun z => h1 ((nI_eq (by omega) (by omega)).mp z))]
      by_cases h2 : away.testBit s = true
      · rw [if_pos h2, if_pos (show ¬ (1 : Int32) = 0 by decide), if_pos rfl]
      · rw [if_neg h2, if_neg (show ¬ ¬ (0 : Int32) = 0 from fun z => z rfl)]
        by_cases h3 : away.testBit i = true
        · rw [if_pos h3, if_pos (show ¬ (1 : Int32) = 0 by decide), if_pos rfl]
        · rw [if_neg h3, if_neg (show ¬ ¬ (0 : Int32) = 0 from fun z => z rfl), if_neg (show ¬ (1 : Int32) = 0 by decide), zix_nI (by omega) (by omega), Option.bind_some, a1, a2, wcin _ a4 s (by omega)]
          rw [decide_eq_false h1, ybf h2, ybf h3] at q
          have q2 := of_decide_eq_false (by simpa using q : decide (nd i ≤ if (ne i).testBit s then 1 else 0) = false)
          by_cases h4 : (ne i).testBit s = true
          · rw [if_pos h4] at q2
            rw [if_pos h4, if_neg (show ¬ (1 : Int32) = 0 by decide), if_pos (show (1 : Int32) < nI (nd i) from nI_lt (a := 1) (by omega) (by omega))]
          · rw [if_neg h4] at q2
            rw [if_neg h4, if_pos rfl, if_pos (show (0 : Int32) < nI (nd i) from nI_lt (a := 0) (by omega) (by omega))]
  · unfold qTr_isCalmWithout_b12 yBadS
    simp only [zlet]
    by_cases hl : fa_first (yBad nd ne away s) n < n
    · have q := fa_first_yes (yBad nd ne away s) n hl
      generalize fa_first (yBad nd ne away s) n = i at *
      obtain ⟨a1, a2, a3, a4⟩ := T.2.2 i hl
      rw [T.2.1, if_neg (nI_ge hl (by omega)), wcin away ha s (by omega), wcin away ha i (by omega), if_pos (decide_eq_true hl)]
      unfold yBad at q
      simp only [Bool.and_eq_true, Bool.not_eq_true', decide_eq_true_eq, decide_eq_false_iff_not] at q
      obtain ⟨h1, h2, h3, h4⟩ := q
      rw [if_neg (show ¬ nI s = nI i from fun z => h1 ((nI_eq (by omega) (by omega)).mp z)), h2, h3, if_neg (show ¬ false = true by decide), if_neg (show ¬ ¬ (0 : Int32) = 0 from fun z => z rfl), if_neg (show ¬ ¬ (0 : Int32) = 0 from fun z => z rfl), if_neg (show ¬ (1 : Int32) = 0 by decide), zix_nI (by omega) (by omega), Option.bind_some, a1, a2, wcin _ a4 s (by omega)]
      by_cases h5 : (ne i).testBit s = true
      · rw [if_pos h5] at h4
        rw [if_pos h5, if_neg (show ¬ (1 : Int32) = 0 by decide), if_neg (show ¬ (1 : Int32) < nI (nd i) from nI_nlt (a := 1) (by omega) (by omega))]
      · rw [if_neg h5] at h4
        rw [if_neg h5, if_pos rfl, if_neg (show ¬ (0 : Int32) < nI (nd i) from nI_nlt (a := 0) (by omega) (by omega))]
    · rw [T.2.1, if_pos (nI_le (by omega) (by omega)), if_neg (by rw [decide_eq_false hl]; decide)]
theorem qTr_isCalmWithout_ev (T : yT h oo n nd ne) (ha : away < 128) : qTr_isCalmWithout oo (nI away) h = some (if yCalm nd ne n away then 1 else 0) := by
  have n7 := T.1
  have fl := fa_first_le (yBadS nd ne n away) n
  have e : zloop (qTr_isCalmWithout_b2 oo (nI away) h) zfu 0 = some (if yCalm nd ne n away then Sum.inl () else Sum.inr 0) := by
    refine zloop_for (fun i => nI i) (fa_first (yBadS nd ne n away) n) (fun i hi => ?_) ?_ (zfu_lt (by omega))
    · have q := fa_first_no (yBadS nd ne n away) n i hi
      unfold qTr_isCalmWithout_b2
      rw [T.2.1, if_neg (nI_ge (show i < n by omega) (by omega)), qTr_isCalmWithout_b12_ev T ha (by omega), Option.bind_some, q, nI_1]
      rfl
    · unfold qTr_isCalmWithout_b2 yCalm
      by_cases hl : fa_first (yBadS nd ne n away) n < n
      · have q := fa_first_yes (yBadS nd ne n away) n hl
        rw [T.2.1, if_neg (nI_ge hl (by omega)), qTr_isCalmWithout_b12_ev T ha hl, Option.bind_some, q, decide_eq_true hl]
        rfl
      · rw [T.2.1, if_pos (nI_le (by omega) (by omega)), decide_eq_false hl]
        rfl
  unfold qTr_isCalmWithout
  rw [e, Option.bind_some]
  cases yCalm nd ne n away <;> rfl
theorem yBad_cl (hn : n ≤ 7) (hs : s < n) (hne : ∀ t, t < n → ne t < 128) (hsa : away.testBit s = false) : yCl (fun t => if away.testBit t then 8 else nd t) ne n s = 2 ^ s ↔ yBadS nd ne n away s = false := by
  have ps : ∀ t, t ≠ s → (2 ^ s).testBit t = false := fun t ht => by
    rw [Nat.testBit_two_pow]; exact decide_eq_false (fun e => ht e.symm)
  constructor
  · intro e
    refine decide_eq_false (fun hl => ?_)
    have q := fa_first_yes (yBad nd ne away s) n hl
    generalize fa_first (yBad nd ne away s) n = i at *
    unfold yBad at q
    simp only [Bool.and_eq_true, Bool.not_eq_true', decide_eq_true_eq, decide_eq_false_iff_not] at q
    obtain ⟨h1, -, h3, h4⟩ := q
    have z := yCl_closed (nd := fun t => if away.testBit t then 8 else nd t) (ne := ne) hn hs i hl (by rw [e]; exact ps i (fun e => h1 e.symm))
    rw [e, wones_andp _ (hne i hl) s (by omega)] at z
    dsimp only at z
    rw [h3, if_neg (show ¬ false = true by decide)] at z
    omega
  · intro e
    have hl := of_decide_eq_false e
    have cl : yClosed (fun t => if away.testBit t then 8 else nd t) ne n (2 ^ s) := by
      intro t ht hb
      have ne_ : t ≠ s := fun e => by rw [e, yp_self] at hb; cases hb
      dsimp only
      by_cases h3 : away.testBit t = true
      · rw [if_pos h3]
        have := wones_le (ne t &&& 2 ^ s)
        omega
      · rw [if_neg h3, wones_andp _ (hne t ht) s (by omega)]
        have l2 := fa_first_le (yBad nd ne away s) n
        have q := fa_first_no (yBad nd ne away s) n t (by omega)
        unfold yBad at q
        rw [decide_eq_false (fun e : s = t => ne_ e.symm), hsa, ybf h3] at q
        have := of_decide_eq_false (by simpa using q : decide (nd t ≤ if (ne t).testBit s then 1 else 0) = false)
        omega
    exact ySub_as (yCl_min cl (yp_self s)) (ySub_p yCl_has)
theorem qM_isCut_ev (ok : wCok c) (M : yM h k c pl) (ha : away < 128) : ∃ h', qM_isCut (nI away) h = some (if yCalm (yNd c) (yNe c.2.2.1 pl c.1) c.1 away then 1 else 0, h') ∧ yM h' k c pl := by
  have n7 := ok.1
  have fl := fa_first_le (yBadS (yNd c) (yNe c.2.2.1 pl c.1) c.1 away) c.1
  have hne : ∀ t, t < c.1 → yNe c.2.2.1 pl c.1 t < 128 := fun t _ => yNe_lt _ _ t n7
  have bs : ∀ s, s < c.1 → away.testBit s = true → yBadS (yNd c) (yNe c.2.2.1 pl c.1) c.1 away s = false := fun s hs hb => by
    refine decide_eq_false (fun hl => ?_)
    have q := fa_first_yes (yBad (yNd c) (yNe c.2.2.1 pl c.1) away s) c.1 hl
    unfold yBad at q
    rw [hb] at q
    simp at q
  have key : ∃ t, zloop (qM_isCut_b2 (nI away)) zfu (0, h) = some t ∧ ∃ g, t = (if yCalm (yNd c) (yNe c.2.2.1 pl c.1) c.1 away then Sum.inl g else Sum.inr (0, g)) ∧ yM g k c pl := by
    refine zloop_fx (S := fun i x => ∃ g, x = (nI i, g) ∧ yM g k c pl) (fa_first (yBadS (yNd c) (yNe c.2.2.1 pl c.1) c.1 away) c.1) ?_ ?_ (zfu_lt (by omega)) ⟨h, rfl, M⟩
    · rintro i x hi ⟨g, rfl, Mg⟩
      have q := fa_first_no (yBadS (yNd c) (yNe c.2.2.1 pl c.1) c.1 away) c.1 i hi
      unfold qM_isCut_b2
      dsimp only
      rw [Mg.1.2.2.1, if_neg (nI_ge (show i < c.1 by omega) (by omega)), whas away ha i (by omega)]
      by_cases h1 : away.testBit i = true
      · rw [if_pos h1, if_pos (show ¬ (1 : Int32) = 0 by decide), nI_1]
        exact ⟨_, rfl, g, rfl, Mg⟩
      · obtain ⟨h', e1, e2⟩ := qM_trainOf_ev ok Mg ha (show i < c.1 by omega) (ybf h1)
        have e3 := (yBad_cl (nd := yNd c) (ne := yNe c.2.2.1 pl c.1) n7 (show i < c.1 by omega) hne (ybf h1)).mpr q
        rw [if_neg h1, if_neg (show ¬ ¬ (0 : Int32) = 0 from fun z => z rfl), e1, Option.bind_some]
        dsimp only
        rw [show yCl (yNdA c away) (yNe c.2.2.1 pl c.1) c.1 i = 2 ^ i from e3, wshl i (by omega), if_pos rfl, nI_1]
        exact ⟨_, rfl, h', rfl, e2⟩
    · rintro x ⟨g, rfl, Mg⟩
      unfold qM_isCut_b2 yCalm
      dsimp only
      by_cases hl : fa_first (yBadS (yNd c) (yNe c.2.2.1 pl c.1) c.1 away) c.1 < c.1
      · have q := fa_first_yes (yBadS (yNd c) (yNe c.2.2.1 pl c.1) c.1 away) c.1 hl
        rw [decide_eq_true hl]
        generalize fa_first (yBadS (yNd c) (yNe c.2.2.1 pl c.1) c.1 away) c.1 = i at *
        have h1 : ¬ away.testBit i = true := fun z => by rw [bs i hl z] at q; cases q
        obtain ⟨h', e1, e2⟩ := qM_trainOf_ev ok Mg ha hl (ybf h1)
        have e3 : ¬ yCl (yNdA c away) (yNe c.2.2.1 pl c.1) c.1 i = 2 ^ i := fun z => by
          rw [(yBad_cl (nd := yNd c) (ne := yNe c.2.2.1 pl c.1) n7 hl hne (ybf h1)).mp z] at q; cases q
        rw [Mg.1.2.2.1, if_neg (nI_ge hl (by omega)), whas away ha i (by omega), if_neg h1, if_neg (show ¬ ¬ (0 : Int32) = 0 from fun z => z rfl), e1, Option.bind_some]
        dsimp only
        rw [wshl i (by omega), if_neg (fun z => e3 ((nI_eq (by have := yCl_128 (nd := yNdA c away) (ne := yNe c.2.2.1 pl c.1) n7 hl; omega) (by have := wpow7 i (by omega); omega)).mp z))]
        exact ⟨_, rfl, h', rfl, e2⟩
      · rw [Mg.1.2.2.1, if_pos (nI_le (by omega) (by omega)), decide_eq_false hl]
        exact ⟨_, rfl, g, rfl, Mg⟩
  obtain ⟨t, e1, g, rfl, e2⟩ := key
  refine ⟨g, ?_, e2⟩
  unfold qM_isCut
  rw [e1, Option.bind_some]
  cases yCalm (yNd c) (yNe c.2.2.1 pl c.1) c.1 away <;> rfl
def yCuS (P : Nat → Bool) (i : Nat) (a : Option Nat) : Option Nat := if wFew i a then (if P i then some i else a) else a
def yCu (P : Nat → Bool) (i : Nat) : Option Nat := wfold (yCuS P) none i
theorem yCu_s (P : Nat → Bool) (i : Nat) : yCu P (i + 1) = yCuS P i (yCu P i) := rfl
theorem yCu_lt {P : Nat → Bool} : ∀ {i j : Nat}, yCu P i = some j → j < i
  | 0, j, h => by cases h
  | i + 1, j, h => by
    rw [yCu_s] at h
    unfold yCuS at h
    split at h
    · split at h
      · cases h; omega
      · have := yCu_lt h; omega
    · have := yCu_lt h; omega
theorem qM_cut_ev (ok : wCok c) (M : yM h k c pl) : ∃ h', qM_cut h = some (wO (yCu (yCalm (yNd c) (yNe c.2.2.1 pl c.1) c.1) (2 ^ c.1)), h') := by
  have n7 := ok.1
  have p7 := w2n n7
  let P := yCalm (yNd c) (yNe c.2.2.1 pl c.1) c.1
  have key : ∃ t, zloop qM_cut_b4 zfu (-1, 0, h) = some t ∧ ∃ g, t = (wO (yCu P (2 ^ c.1)), g) := by
    refine zloop_fx (S := fun i x => ∃ g, x = (wO (yCu P i), nI i, g) ∧ yM g k c pl) (2 ^ c.1) ?_ ?_ (zfu_lt (by omega)) ⟨h, rfl, M⟩
    · rintro i x hi ⟨g, rfl, Mg⟩
      unfold qM_cut_b4
      dsimp only
      obtain ⟨h', e1, e2⟩ := qM_isCut_ev ok Mg (away := i) (by omega)
      have oi := wones_le i
      rw [Mg.1.2.2.1, wshl c.1 (by omega), if_neg (nI_ge hi (by omega)), yCu_s]
      unfold yCuS
      have fin : ∀ a : Option Nat, wFew i a = true → ((qM_isCut (nI i) g).bind fun p9 => if p9.1 = 0 then some (wO a, p9.2) else some (nI i, p9.2)) = some (wO (if P i then some i else a), h') := fun a _ => by
        rw [e1, Option.bind_some]
        dsimp only
        show (if (if P i then (1 : Int32) else 0) = 0 then _ else _) = _
        cases P i <;> rfl
      cases e : yCu P i with
      | none =>
        rw [if_pos (show wO none = -1 from rfl), Option.bind_some, if_neg (show ¬ (1 : Int32) = 0 by decide), fin none rfl, Option.bind_some, nI_1]
        exact ⟨_, rfl, h', rfl, e2⟩
      | some j =>
        have hj := yCu_lt e
        have oj := wones_le j
        rw [if_neg (show ¬ wO (some j) = -1 from nI_nm1 (by omega)), qM_ones_ev (by omega), Option.bind_some, show wO (some j) = nI j from rfl, qM_ones_ev (by omega), Option.bind_some]
        by_cases hl : wones i < wones j
        · have hf : wFew i (some j) = true := decide_eq_true hl
          have := fin (some j) hf
          rw [if_neg (nI_ge hl (by omega)), Option.bind_some, if_neg (show ¬ (1 : Int32) = 0 by decide), show nI j = wO (some j) from rfl, this, Option.bind_some, nI_1, hf]
          exact ⟨_, rfl, h', rfl, e2⟩
        · have hf : wFew i (some j) = false := decide_eq_false hl
          rw [if_pos (nI_le (by omega) (by omega)), Option.bind_some, if_pos rfl, Option.bind_some, nI_1, hf]
          exact ⟨_, rfl, g, rfl, Mg⟩
    · rintro x ⟨g, rfl, Mg⟩
      unfold qM_cut_b4
      dsimp only
      rw [Mg.1.2.2.1, wshl c.1 (by omega), if_pos (nI_le (Nat.le_refl _) (by omega))]
      exact ⟨_, rfl, g, rfl⟩
  obtain ⟨t, e1, g, rfl⟩ := key
  refine ⟨g, ?_⟩
  unfold qM_cut
  rw [e1]; rfl
def yCuB (n : Nat) : Option Nat → Nat
  | none => 2 ^ n - 1
  | some j => j
theorem wones_all : ∀ n, n < 8 → ∀ i, i < 2 ^ n - 1 → wones i < wones (2 ^ n - 1) := by decide +kernel
theorem wones_all2 : ∀ n, n < 8 → ∀ i, i < 2 ^ n → wones i ≤ wones (2 ^ n - 1) := by decide +kernel
theorem yCalm_all : yCalm nd ne n (2 ^ n - 1) = true := by
  unfold yCalm
  rw [Bool.not_eq_true']
  refine decide_eq_false fun hl => ?_
  have q := fa_first_yes (yBadS nd ne n (2 ^ n - 1)) n hl
  generalize fa_first (yBadS nd ne n (2 ^ n - 1)) n = i at *
  have q1 := of_decide_eq_true q
  have q2 := fa_first_yes (yBad nd ne (2 ^ n - 1) i) n q1
  unfold yBad at q2
  rw [Nat.testBit_two_pow_sub_one, decide_eq_true hl] at q2
  simp at q2
theorem yCu_end (hn : n ≤ 7) : yCu (yCalm nd ne n) (2 ^ n) = some (yCuB n (yCu (yCalm nd ne n) (2 ^ n - 1))) := by
  have p0 := w2p n
  have e : 2 ^ n = 2 ^ n - 1 + 1 := by omega
  have s := yCu_s (yCalm nd ne n) (2 ^ n - 1)
  rw [← e] at s
  rw [s]
  unfold yCuS
  rw [yCalm_all]
  cases q : yCu (yCalm nd ne n) (2 ^ n - 1) with
  | none => rfl
  | some j =>
    have hj := yCu_lt q
    have o := wones_all2 n (by omega) j (by omega)
    have hf : wFew (2 ^ n - 1) (some j) = false := decide_eq_false (by omega)
    rw [hf]
    rfl
theorem qTr_cut_ev (T : yT h oo n nd ne) : qTr_cut oo h = some (wO (yCu (yCalm nd ne n) (2 ^ n))) := by
  have n7 := T.1
  have p7 := w2n n7
  have p0 := w2p n
  have e : zloop (qTr_cut_b13 oo (nI (2 ^ n - 1)) h) zfu (nI (2 ^ n - 1), 0) = some (nI (yCuB n (yCu (yCalm nd ne n) (2 ^ n - 1)))) := by
    refine zloop_for (fun i => (nI (yCuB n (yCu (yCalm nd ne n) i)), nI i)) (2 ^ n - 1) (fun i hi => ?_) ?_ (zfu_lt (by omega))
    · unfold qTr_cut_b13
      dsimp only
      have oi := wones_le i
      have bl : yCuB n (yCu (yCalm nd ne n) i) < 128 := by
        cases q : yCu (yCalm nd ne n) i with
        | none => show 2 ^ n - 1 < 128; omega
        | some j => have := yCu_lt q; show j < 128; omega
      have ob := wones_le (yCuB n (yCu (yCalm nd ne n) i))
      have fw : wFew i (yCu (yCalm nd ne n) i) = decide (wones i < wones (yCuB n (yCu (yCalm nd ne n) i))) := by
        cases q : yCu (yCalm nd ne n) i with
        | none => exact (decide_eq_true (wones_all n (by omega) i hi)).symm
        | some j => rfl
      rw [if_neg (nI_ge hi (by omega)), wbc _ bl, wbc i (by omega), yCu_s]
      unfold yCuS
      rw [fw]
      by_cases hl : wones i < wones (yCuB n (yCu (yCalm nd ne n) i))
      · rw [if_neg (nI_ge hl (by omega)), qTr_isCalmWithout_ev T (by omega), Option.bind_some, decide_eq_true hl, if_pos rfl]
        cases yCalm nd ne n i with
        | true => rw [if_pos rfl, if_neg (show ¬ (1 : Int32) = 0 by decide), Option.bind_some, nI_1]; rfl
        | false => rw [if_neg (show ¬ false = true by decide), if_pos rfl, Option.bind_some, nI_1]; rfl
      · rw [if_pos (nI_le (by omega) (by omega)), Option.bind_some, decide_eq_false hl, nI_1]
        rfl
    · unfold qTr_cut_b13
      dsimp only
      rw [if_pos (nI_le (Nat.le_refl _) (by omega))]
  unfold qTr_cut
  rw [T.2.1, wall1 n (by omega), e, yCu_end n7]
  rfl
end RUIN
