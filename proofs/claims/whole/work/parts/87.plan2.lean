/-! PLAN: the reference -/
theorem mB_rI {h : zK} {k a : Nat} {c : wC} {T : Nat → Int32} (ha : a ≠ 215) (hb : a ≠ 221) (B : mB h k c) : mB (rI h a T) k c := mB_l' B (fun j _ _ => gI_rn (fun e => ha e.symm)) (by
  unfold rI
  dsimp only
  rw [zrow_ne _ _ (fun e => hb e.symm)])
theorem wpm1 {n : Nat} (hn : n ≤ 1000) : (nI n - 1).toInt = (n : Int) - 1 := by
  have e1 : (1 : Int32).toInt = 1 := rfl
  rw [fb_subI, nI_toInt (by omega), e1]
  · rw [nI_toInt (by omega), e1]; omega
  · rw [nI_toInt (by omega), e1]; omega
theorem wkin {n : Nat} (hn : n ≤ 1000) (x : Int32) : (x = -1 ∧ zf_in x (-1) (nI n - 1) = 1) ∨ (∃ k, k < n ∧ x = nI k ∧ zf_in x (-1) (nI n - 1) = 1) ∨ ((x < -1 ∨ ∃ j, n ≤ j ∧ j < 2 ^ 31 ∧ x = nI j) ∧ zf_in x (-1) (nI n - 1) = 0) := by
  have em : (-1 : Int32).toInt = -1 := rfl
  by_cases h1 : x < -1
  · refine Or.inr (Or.inr ⟨Or.inl h1, ?_⟩)
    unfold zf_in
    rw [if_neg (Int32.not_le.mpr h1)]
  · by_cases h2 : x = -1
    · subst h2
      refine Or.inl ⟨rfl, ?_⟩
      unfold zf_in
      rw [if_pos (Int32.le_refl _), if_pos]
      rw [Int32.le_iff_toInt_le, wpm1 hn, em]
      omega
    · have h3 : ¬ x < 0 := fun z => by
        rw [Int32.lt_iff_toInt_lt, em] at h1
        rw [Int32.lt_iff_toInt_lt] at z
        have e0 : (0 : Int32).toInt = 0 := rfl
        exact h2 (Int32.toInt_inj.mp (by rw [em]; omega))
      obtain ⟨j, hj, rfl⟩ := nI_of h3
      have le : (-1 : Int32) ≤ nI j := by rw [Int32.le_iff_toInt_le, em, nI_toInt hj]; omega
      by_cases h4 : j < n
      · refine Or.inr (Or.inl ⟨j, h4, rfl, ?_⟩)
        unfold zf_in
        rw [if_pos le, if_pos]
        rw [Int32.le_iff_toInt_le, wpm1 hn, nI_toInt hj]
        omega
      · refine Or.inr (Or.inr ⟨Or.inr ⟨j, by omega, hj, rfl⟩, ?_⟩)
        unfold zf_in
        rw [if_pos le, if_neg]
        rw [Int32.le_iff_toInt_le, wpm1 hn, nI_toInt hj]
        omega
def yOv : Option Int → Int
  | none => -1000000
  | some u => u
theorem yBo_va {f : Nat → Option Int} {i : Nat} (hf : ∀ s u, s ≤ i → f s = some u → 0 ≤ u ∧ u ≤ 1000000) : zf_greater (iI (yVa (-1000000) (yBo f i))) (iI (yOv (f i))) = iI (yVa (-1000000) (yBo f (i + 1))) := by
  have b1 : -1000000 ≤ yVa (-1000000) (yBo f i) ∧ yVa (-1000000) (yBo f i) ≤ 1000000 := yBo_bd (fun s u hs hu => by have := hf s u (by omega) hu; omega) (by omega)
  have b2 : -1000000 ≤ yOv (f i) ∧ yOv (f i) ≤ 1000000 := by
    cases e : f i with
    | none => exact ⟨Int.le_refl _, by show (-1000000 : Int) ≤ 1000000; omega⟩
    | some u => have := hf i u (Nat.le_refl _) e; show -1000000 ≤ u ∧ u ≤ 1000000; omega
  rw [iI_gre (by unfold iB; omega) (by unfold iB; omega), yBo_s]
  congr 1
  unfold yBoS
  cases e : f i with
  | none =>
    dsimp only
    show (if (-1000000 : Int) < yVa (-1000000) (yBo f i) then _ else (-1000000 : Int)) = _
    by_cases hl : (-1000000 : Int) < yVa (-1000000) (yBo f i)
    · rw [if_pos hl]
    · rw [if_neg hl]; omega
  | some u =>
    have := hf i u (Nat.le_refl _) e
    dsimp only
    show (if u < yVa (-1000000) (yBo f i) then _ else u) = _
    cases e2 : yBo f i with
    | none =>
      dsimp only
      show (if u < (-1000000 : Int) then _ else u) = u
      rw [if_neg (by omega)]
    | some p =>
      dsimp only
      show (if u < p.2 then p.2 else u) = _
      by_cases hl : p.2 < u
      · rw [if_neg (by omega), if_pos hl]; rfl
      · rw [if_neg hl]
        show _ = p.2
        by_cases hq : u < p.2
        · rw [if_pos hq]
        · rw [if_neg hq]; omega
section PLAN2
variable {h : zK} {o k n t b s : Nat} {c : wC} {W : Nat → Int}
theorem qM_planBy_ev (B : mB h k c) (ok : wCok c) (ht : t < 10) (hb : b < 128) (hs : s ≤ 7) (T : ∀ b, b < 128 → gI h 231 (128 * (t + 1) + b) = iI (W b)) (hW : ∀ b, 0 ≤ W b ∧ W b ≤ 1000) : qM_planBy (nI t) (nI b) (nI s) h = some (iI (yOv (yPf c t W b s))) := by
  have n7 := ok.1
  unfold qM_planBy
  rw [nI_1, show (128 : Int32) = nI 128 from rfl, nI_mul, nI_add]
  by_cases h7 : s = 7
  · subst h7
    rw [if_neg (show ¬ ¬ nI 7 = 7 from fun z => z rfl), zix_nI (by omega) (by omega), Option.bind_some, T b hb, yPf_7]
    rfl
  · rw [if_pos (show ¬ nI s = 7 from fun z => h7 ((nI_eq (b := 7) (by omega) (by omega)).mp z)), B.2.2.1]
    by_cases h1 : s < c.1
    · rw [if_neg (nI_ge h1 (by omega)), whas b hb s (by omega)]
      by_cases h2 : b.testBit s = true
      · rw [if_pos h2, if_pos (show ¬ (1 : Int32) = 0 by decide), Option.bind_some, if_pos rfl, yPf_n (by omega) (fun z => by rw [h2] at z; cases z.2.1)]
        exact congrArg some iI_far.symm
      · have pw := wpow7 s (by omega)
        have ob : b ||| 2 ^ s < 128 := wor_lt hb pw
        have a := hW (b ||| 2 ^ s)
        have wl := wWit_lt ok h1 t
        have ll := wLife_le c s
        rw [if_neg h2, if_neg (show ¬ ¬ (0 : Int32) = 0 from fun z => z rfl), qM_lifeOf_ev B ok h1, Option.bind_some, Option.bind_some, wshl s (by omega), fa_or, nI_add, zix_nI (show 128 * (t + 1) + (b ||| 2 ^ s) < 1408 by omega) (by omega)]
        have yes : t < wLife c s → (some (nI (wWit c s t) + iI (W (b ||| 2 ^ s)))) = some (iI (yOv (yPf c t W b s))) := fun h3 => by
          rw [yPf_s (by omega) ⟨h1, ybf h2, h3⟩, iI_nat (by omega), iI_add (iB_nat (by omega)) (by unfold iB; omega) (by unfold iB; omega)]
          rfl
        unfold wLifeI
        by_cases h3 : wLife c s < 51
        · rw [if_pos h3, if_neg (nI_nm1 (by omega))]
          by_cases h4 : t < wLife c s
          · rw [if_neg (nI_ge h4 (by omega)), Option.bind_some, if_neg (show ¬ (1 : Int32) = 0 by decide), qM_witIn_ev B ok h1 (by omega), Option.bind_some, Option.bind_some, T _ ob]
            exact yes h4
          · rw [if_pos (nI_le (by omega) (by omega)), Option.bind_some, if_pos rfl, yPf_n (by omega) (fun z => h4 z.2.2)]
            exact congrArg some iI_far.symm
        · rw [if_neg h3, if_pos rfl, Option.bind_some, if_neg (show ¬ (1 : Int32) = 0 by decide), qM_witIn_ev B ok h1 (by omega), Option.bind_some, Option.bind_some, T _ ob]
          exact yes (by omega)
    · rw [if_pos (nI_le (by omega) (by omega)), Option.bind_some, if_pos rfl, yPf_n (by omega) (fun z => h1 z.1)]
      exact congrArg some iI_far.symm
/-- the reference's table -/
def yPM (c : wC) (n t i : Nat) (T : Nat → Int32) : Prop := ∀ t' b, b < 128 → ((t < t' ∧ t' ≤ n) ∨ (t' = t ∧ b < i)) → T (128 * t' + b) = iI (yPl c n (n - t') b)
theorem yPl_va (ht : t < n) (b : Nat) : yPl c n (n - t) b = yVa (-1000000) (yBo (yPf c t (yPl c n (n - (t + 1))) b) 8) := by
  rw [yPl_e ht]
  obtain ⟨w, v, e1, -⟩ := yPf_best (yPf c t (yPl c n (n - (t + 1))) b) yPf_7
  rw [e1]
  rfl
theorem yPM_tb {T : Nat → Int32} (ht : t < n) {i : Nat} (H : yPM c n t i T) : ∀ b, b < 128 → gI (rI h 231 T) 231 (128 * (t + 1) + b) = iI (yPl c n (n - (t + 1)) b) := fun b hb => by
  rw [gI_rI]
  exact H (t + 1) b hb (Or.inl ⟨by omega, by omega⟩)
theorem qM_plan_b80_ev (B : mB h k c) (ok : wCok c) (ht : t < n) (hn : n ≤ 10) (x3 : Int32) {T : Nat → Int32} (H : yPM c n t 0 T) : ∃ x, zloop (qM_plan_b80 x3 (nI t)) zfu (0, rI h 231 T) = some x ∧ ∃ T', x = rI h 231 T' ∧ yPM c n t 128 T' := by
  have n7 := ok.1
  have hW := yPl_1000 (n := n) ok (r := n - (t + 1)) (by omega)
  refine zloop_fx (S := fun i x => ∃ T', x = (nI i, rI h 231 T') ∧ yPM c n t i T') 128 ?_ ?_ (zfu_lt (by omega)) ⟨T, rfl, H⟩
  · rintro i x hi ⟨T', rfl, H'⟩
    unfold qM_plan_b80
    dsimp only
    have B' : mB (rI h 231 T') k c := mB_rI (by omega) (by omega) B
    have tb := yPM_tb (h := h) ht H'
    have inner : zloop (qM_plan_b96 x3 (nI t) (nI i) (rI h 231 T')) zfu (-1000000, 0) = some (iI (yVa (-1000000) (yBo (yPf c t (yPl c n (n - (t + 1))) i) 8))) := by
      refine zloop_for (fun j => (iI (yVa (-1000000) (yBo (yPf c t (yPl c n (n - (t + 1))) i) j)), nI j)) 8 (fun j hj => ?_) ?_ (zfu_lt (by omega))
      · unfold qM_plan_b96
        dsimp only
        have bd := yPf_bd (t := t) (b := i) ok hW
        rw [if_neg (show ¬ (7 : Int32) < nI j from nI_nlt (a := 7) (by omega) (by decide)), qM_planBy_ev B' ok (by omega) hi (by omega) tb hW, Option.bind_some, yBo_va (fun s u hs hu => by have := bd s u (by omega) hu; omega), nI_1]
      · unfold qM_plan_b96
        dsimp only
        rw [if_pos (show (7 : Int32) < nI 8 from nI_lt (a := 7) (by omega) (by decide))]
    rw [if_neg (show ¬ (128 : Int32) ≤ nI i from nI_ge (b := 128) hi (by decide)), inner, Option.bind_some, show (128 : Int32) = nI 128 from rfl, nI_mul, nI_add, zix_nI (by omega) (by omega), Option.bind_some]
    simp only [zlet]
    rw [rI_set, nI_1]
    refine ⟨_, rfl, _, rfl, fun t' b hb hq => ?_⟩
    by_cases e : 128 * t' + b = 128 * t + i
    · have e3 : t' = t := by omega
      have e4 : b = i := by omega
      subst e3
      subst e4
      rw [upd_e, yPl_va ht]
    · rw [upd_n e]
      exact H' t' b hb (by omega)
  · rintro x ⟨T', rfl, H'⟩
    unfold qM_plan_b80
    dsimp only
    rw [if_pos (show (128 : Int32) ≤ nI 128 from nI_le (a := 128) (Nat.le_refl _) (by decide))]
    exact ⟨_, rfl, T', rfl, H'⟩
theorem qM_plan_b72_ev (B : mB h k c) (ok : wCok c) (hn : n ≤ 10) (x3 : Int32) {T : Nat → Int32} (H : yPM c n n 128 T) : ∃ x, zloop (qM_plan_b72 x3) zfu (nI n - 1, rI h 231 T) = some x ∧ ∃ T', x = rI h 231 T' ∧ yPM c n 0 128 T' := by
  refine zloop_me (Q := fun q x => ∃ T', q ≤ n ∧ x = (nI q - 1, rI h 231 T') ∧ yPM c n q 128 T') ?_ zfu n _ ⟨T, Nat.le_refl _, rfl, H⟩ (zfu_lt (by omega))
  rintro q x ⟨T', hq, rfl, H'⟩
  unfold qM_plan_b72
  dsimp only
  cases q with
  | zero =>
    rw [if_pos ((wnm_lt 0 (by omega)).mpr rfl)]
    exact Or.inl ⟨_, rfl, T', rfl, H'⟩
  | succ q =>
    have H0 : yPM c n q 0 T' := fun t' b hb hz => H' t' b hb (by omega)
    obtain ⟨x, e1, T2, rfl, H2⟩ := qM_plan_b80_ev B ok (show q < n by omega) hn x3 H0
    rw [nI_pred, if_neg (nI_pos (by omega)), e1, Option.bind_some, wsubm]
    exact Or.inr ⟨q, _, rfl, by omega, T2, by omega, rfl, H2⟩
theorem qM_plan_b39_ev (h : zK) (c : wC) (hn : n ≤ 10) (x3 : Int32) : ∃ x, zloop (qM_plan_b39 (nI n) x3) zfu (0, h) = some x ∧ ∃ T', x = rI h 231 T' ∧ yPM c n n 128 T' := by
  refine zloop_fx (S := fun i x => ∃ T', x = (nI i, rI h 231 T') ∧ yPM c n n i T') 128 ?_ ?_ (zfu_lt (by omega)) ⟨h.2.1 231, by rw [rI_self rfl]; rfl, fun t' b hb hq => absurd hq (by omega)⟩
  · rintro i x hi ⟨T', rfl, H'⟩
    unfold qM_plan_b39
    dsimp only
    rw [if_neg (show ¬ (128 : Int32) ≤ nI i from nI_ge (b := 128) hi (by decide)), show (128 : Int32) = nI 128 from rfl, nI_mul, nI_add, zix_nI (by omega) (by omega), Option.bind_some]
    simp only [zlet]
    rw [rI_set, nI_1]
    refine ⟨_, rfl, _, rfl, fun t' b hb hq => ?_⟩
    by_cases e : 128 * t' + b = 128 * n + i
    · have e3 : t' = n := by omega
      rw [e, upd_e, e3, Nat.sub_self]
      exact iI_0.symm
    · rw [upd_n e]
      exact H' t' b hb (by omega)
  · rintro x ⟨T', rfl, H'⟩
    unfold qM_plan_b39
    dsimp only
    rw [if_pos (show (128 : Int32) ≤ nI 128 from nI_le (a := 128) (Nat.le_refl _) (by decide))]
    exact ⟨_, rfl, T', rfl, H'⟩
def yPq (c : wC) (n : Nat) : Nat → Nat
  | 0 => 7
  | t + 1 => yPc c n t
theorem qM_plan_b164_ev (B : mB h k c) (ok : wCok c) (hn : n ≤ 10) {T : Nat → Int32} (H : yPM c n 0 128 T) {q : Nat} (hq : q < n) : zloop (qM_plan_b164 (nI q) (rI h 231 T)) zfu (0, 7, 0) = some (nI (yPc c n q)) := by
  have n7 := ok.1
  have p7 := w2n n7
  refine zloop_for (fun i => (nI (yPs2 c n i), nI (yPq c n i), nI i)) (q + 1) (fun i hi => ?_) ?_ (zfu_lt (by omega))
  · unfold qM_plan_b164
    dsimp only
    obtain ⟨s1, s2⟩ := yPs2_ok (n := n) ok i
    obtain ⟨v, v1, v2⟩ := yPc_ib c n i
    have B' : mB (rI h 231 T) k c := mB_rI (by omega) (by omega) B
    have H0 : yPM c n i 0 T := fun t' b hb hz => H t' b hb (by omega)
    have tb := yPM_tb (h := h) (show i < n by omega) H0
    have hW := yPl_1000 (n := n) ok (r := n - (i + 1)) (by omega)
    have bd := yPf_bd (t := i) (b := yPs2 c n i) ok hW
    have w7 := v2.1
    have vb := bd _ v v2.1 v2.2.1
    have tv : gI (rI h 231 T) 231 (128 * i + yPs2 c n i) = iI v := by
      rw [gI_rI, H i (yPs2 c n i) (by omega) (by omega), yPl_e (by omega), v1]
      rfl
    have find : zloop (qM_plan_b173 (nI q) (nI (yPs2 c n i)) (nI i) (rI h 231 T)) zfu 0 = some (nI (yPc c n i)) := by
      refine zloop_for (fun j => nI j) (yPc c n i) (fun j hj => ?_) ?_ (zfu_lt (by omega))
      · unfold qM_plan_b173
        rw [qM_planBy_ev B' ok (by omega) (by omega) (by omega) tb hW, Option.bind_some, show (128 : Int32) = nI 128 from rfl, nI_mul, nI_add, zix_nI (by omega) (by omega), Option.bind_some, tv, nI_1, if_neg]
        cases e : yPf c i (yPl c n (n - (i + 1))) (yPs2 c n i) j with
        | none =>
          intro z
          have := (iI_eq (a := -1000000) (b := v) (by unfold iB; omega) (by unfold iB; omega)).mp z
          omega
        | some u =>
          have ul := v2.2.2.2 j u hj e
          have ub := bd j u (by omega) e
          intro z
          have := (iI_eq (a := u) (b := v) (by unfold iB; omega) (by unfold iB; omega)).mp z
          omega
      · unfold qM_plan_b173
        rw [qM_planBy_ev B' ok (by omega) (by omega) (by omega) tb hW, Option.bind_some, show (128 : Int32) = nI 128 from rfl, nI_mul, nI_add, zix_nI (by omega) (by omega), Option.bind_some, tv, v2.2.1, if_pos (show iI (yOv (some v)) = iI v from rfl)]
    rw [if_neg (nI_nlt (by omega) (by omega)), find, Option.bind_some]
    simp only [zlet]
    rw [nI_1, yPs2_s, show yPq c n (i + 1) = yPc c n i from rfl]
    unfold yWi
    by_cases h7 : yPc c n i = 7
    · rw [h7, if_pos (show (7 : Int32) ≤ nI 7 from nI_le (a := 7) (Nat.le_refl _) (by decide)), if_pos rfl, show (0 : Int32) = nI 0 from rfl, fa_or, Nat.or_zero]
    · rw [if_neg (show ¬ (7 : Int32) ≤ nI (yPc c n i) from nI_ge (b := 7) (by omega) (by decide)), wshl _ (by omega), fa_or, if_neg h7]
  · unfold qM_plan_b164
    dsimp only
    rw [if_pos (nI_lt (by omega) (by omega))]
    rfl
end PLAN2
theorem wo_plan {h : zK} (H : InvB h) (a x y : Int32) : ∃ w h1 h2, qC_plan a x y h = some (w, h1) ∧ qM_plan a x y h1 = some (w, h2) := by
  have e11 : nI 11 - 1 = (10 : Int32) := by decide
  unfold qC_plan qM_plan
  simp only [zlet]
  rcases wcell H a with ⟨e1, e2⟩ | ⟨k, c, hk, rfl, c1, c2, c3, e1, e2, e4⟩
  · rw [e1, Option.bind_some]
    refine ⟨-1, h, sI h 215 0 0, rfl, ?_⟩
    rw [e2 _ (wEq_s (by unfold wKp; omega)), Option.bind_some]
    split <;> rfl
  · rw [e1, Option.bind_some]
    dsimp only
    rcases zf_in_n (m := 11) (by omega) x with ⟨n, hn, rfl, hz⟩ | ⟨hx, hz⟩
    · rw [e11] at hz
      rw [hz, if_neg (nI_pos (by omega)), if_neg (show ¬ (10 : Int32) < nI n from nI_nlt (a := 10) (by omega) (by decide))]
      have HD : ∀ g, wEq h g → ∃ h2, qM_hand (nI k) (sI g 215 0 0) = some (1, h2) ∧ mB h2 k c := fun g e => by
        obtain ⟨h2, p1, B, B2, B3, -⟩ := e4 (sI g 215 0 0) (wEq_t e (wEq_s (by unfold wKp; omega)))
        exact ⟨h2, p1, B⟩
      have good : (y = -1 ∨ ∃ q, q < n ∧ y = nI q) → zf_in y (-1) (nI n - 1) = 1 → ∃ w h1 h2, (if 7 + 15 * k = 7 ∨ 7 + 15 * k = 22 then (qOr_bestPlan (7 + 15 * k) (nI n) h).bind fun p8 => if ¬ y = -1 then (zix y 10).bind fun j10 => some (gI p8 193 j10, p8) else some (gI p8 192 0, p8) else none) = some (w, h1) ∧ (if (1 : Int32) = 0 then some (-1, sI h1 215 0 0) else (qM_hand (nI k) (sI h1 215 0 0)).bind fun p3 => if p3.1 = 0 then some (-1, p3.2) else if ¬ zf_in y (-1) (nI n - 1) = 0 then (zloop (qM_plan_b39 (nI n) y) zfu (0, p3.2)).bind fun t9 => (zloop (qM_plan_b72 y) zfu (nI n - 1, t9)).bind fun t21 => (zloop (qM_plan_b164 y t21) zfu (0, 7, 0)).bind fun t31 => if ¬ y = -1 then some (t31, t21) else some (gI t21 231 0, t21) else some (-1, p3.2)) = some (w, h2) := by
        intro hy hz2
        obtain ⟨h1, b1, b2, b3⟩ := qOr_bestPlan_ev e2 c2 c1 (show n ≤ 10 by omega)
        have eq1 := wEq_2 (wEq2_f (f_qOr_bestPlan e2 b1) (by decide))
        obtain ⟨h2, p1, B⟩ := HD h1 eq1
        obtain ⟨g1, r1, T1, rfl, r2⟩ := qM_plan_b39_ev h2 c (show n ≤ 10 by omega) y
        obtain ⟨g2, r3, T2, rfl, r4⟩ := qM_plan_b72_ev B c1 (show n ≤ 10 by omega) y r2
        rw [if_pos e2, b1, Option.bind_some, hz2]
        rcases hy with rfl | ⟨q, hq, rfl⟩
        · refine ⟨iI (yPl c n n 0), h1, rI h2 231 T2, ?_, ?_⟩
          · rw [if_neg (show ¬ ¬ (-1 : Int32) = -1 from fun z => z rfl), b2]
          · rw [if_neg (show ¬ (1 : Int32) = 0 by decide), p1, Option.bind_some]
            dsimp only
            have l0 : zloop (qM_plan_b164 (-1) (rI h2 231 T2)) zfu (0, 7, 0) = some 7 := zloop_e (n := 19999) (by
              unfold qM_plan_b164
              dsimp only
              rw [if_pos (show (-1 : Int32) < 0 by decide)])
            rw [if_neg (show ¬ (1 : Int32) = 0 by decide), if_pos (show ¬ (1 : Int32) = 0 by decide), r1, Option.bind_some, r3, Option.bind_some, l0, Option.bind_some, if_neg (show ¬ ¬ (-1 : Int32) = -1 from fun z => z rfl), gI_rI]
            have := r4 0 0 (by omega) (Or.inr ⟨rfl, by omega⟩)
            rw [Nat.sub_zero] at this
            rw [show T2 0 = iI (yPl c n n 0) from this]
        · refine ⟨nI (yPc c n q), h1, rI h2 231 T2, ?_, ?_⟩
          · rw [if_pos (nI_nm1 (by omega)), zix_nI (by omega) (by omega), Option.bind_some, b3 q hq]
          · rw [if_neg (show ¬ (1 : Int32) = 0 by decide), p1, Option.bind_some]
            dsimp only
            rw [if_neg (show ¬ (1 : Int32) = 0 by decide), if_pos (show ¬ (1 : Int32) = 0 by decide), r1, Option.bind_some, r3, Option.bind_some, qM_plan_b164_ev B c1 (by omega) r4 hq, Option.bind_some, if_pos (nI_nm1 (by omega))]
      rcases wkin (show n ≤ 1000 by omega) y with ⟨rfl, hz2⟩ | ⟨q, hq, rfl, hz2⟩ | ⟨hy, hz2⟩
      · rw [if_neg (show ¬ (-1 : Int32) < -1 by decide), if_pos (show (-1 : Int32) < nI n by
          rw [Int32.lt_iff_toInt_lt, nI_toInt (by omega)]
          have em : (-1 : Int32).toInt = -1 := rfl
          omega)]
        exact good (Or.inl rfl) hz2
      · rw [if_neg (show ¬ nI q < -1 by
          rw [Int32.lt_iff_toInt_lt, nI_toInt (by omega)]
          have em : (-1 : Int32).toInt = -1 := rfl
          omega), if_pos (nI_lt hq (by omega))]
        exact good (Or.inr ⟨q, hq, rfl⟩) hz2
      · obtain ⟨h2, p1, B⟩ := HD h wEq_r
        refine ⟨-1, h, h2, ?_, ?_⟩
        · rcases hy with hy | ⟨j, j1, j2, rfl⟩
          · rw [if_pos hy]
          · rw [if_neg (show ¬ nI j < -1 by
              rw [Int32.lt_iff_toInt_lt, nI_toInt (by omega)]
              have em : (-1 : Int32).toInt = -1 := rfl
              omega), if_neg (nI_nlt j1 j2)]
        · rw [if_neg (show ¬ (1 : Int32) = 0 by decide), p1, Option.bind_some, hz2]
          rfl
    · rw [e11] at hz
      rw [hz]
      refine ⟨-1, h, sI h 215 0 0, ?_, rfl⟩
      rcases hx with hx | ⟨j, j1, j2, rfl⟩
      · rw [if_pos hx]
      · rw [if_neg (nI_pos j2), if_pos (show (10 : Int32) < nI j from nI_lt (a := 10) (by omega) j2)]
