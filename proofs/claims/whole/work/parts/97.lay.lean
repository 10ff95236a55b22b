/-! LAWS: what the reference finds -/
section LLOG
variable {h : zK} {k kl : Nat} {c : wC} {l : wLg}
def yMa (c : wC) (l : wLg) (L i : Nat) : Bool := wfold (fun j b => b && decide (yB c L (l.2 0 j) = l.2 1 j)) true i
theorem yMa_s (c : wC) (l : wLg) (L i : Nat) : yMa c l L (i + 1) = (yMa c l L i && decide (yB c L (l.2 0 i) = l.2 1 i)) := rfl
theorem yMa_t (c : wC) (l : wLg) (L : Nat) : ∀ i, yMa c l L i = true ↔ ∀ j, j < i → yB c L (l.2 0 j) = l.2 1 j
  | 0 => ⟨fun _ j hj => absurd hj (Nat.not_lt_zero _), fun _ => rfl⟩
  | i + 1 => by
    rw [yMa_s, Bool.and_eq_true, yMa_t c l L i]
    constructor
    · rintro ⟨a, b⟩ j hj
      by_cases e : j = i
      · subst e; exact of_decide_eq_true b
      · exact a j (by omega)
    · intro a
      exact ⟨fun j hj => a j (by omega), decide_eq_true (a i (by omega))⟩
theorem yMa_fit (c : wC) (l : wLg) (L : Nat) : yMa c l L l.1 = yFit c l L := by
  have key : yMa c l L l.1 = true ↔ yFit c l L = true := by
    rw [yMa_t]
    unfold yFit
    rw [Bool.not_eq_true', decide_eq_false_iff_not]
    constructor
    · intro a hl
      have q := fa_first_yes (fun i => !decide (yB c L (l.2 0 i) = l.2 1 i)) l.1 hl
      have := a _ hl
      simp [this] at q
    · intro a j hj
      have fl := fa_first_le (fun i => !decide (yB c L (l.2 0 i) = l.2 1 i)) l.1
      have q := fa_first_no (fun i => !decide (yB c L (l.2 0 i) = l.2 1 i)) l.1 j (by omega)
      simpa using q
  cases e : yFit c l L with
  | true => exact key.mpr e
  | false => exact ybf (fun z => by rw [key.mp z] at e; cases e)
/-- the reference's state while it goes through the laws -/
def yMg (g : zK) (k kl : Nat) (c : wC) (l : wLg) : Prop := mB g k c ∧ gI g 215 43 = nI kl ∧ lM g (17 * kl) l
theorem qM_isFit_ev (ok : wCok c) (lo : wLok l) (hkl : kl < 2) (M : yMg h k kl c l) {f L : Nat} (hf : f < 100) (hL : L < 100) (h46 : gI h 215 46 = nI f) : ∃ h', qM_isFit (nI L) h = some (if yFit c l L then 1 else 0, h') ∧ yMg h' k kl c l ∧ gI h' 215 46 = nI f ∧ (∀ j, gI h' 234 j = gI h 234 j) ∧ (∀ j, j ≤ 21 * f → gI h' 235 j = gI h 235 j) ∧ ∀ y, 1 ≤ y → y ≤ 20 → gI h' 235 (21 * f + y) = nI (yB c L y) := by
  have n7 := ok.1
  have l8 := lo.1
  obtain ⟨M1, M2, M3⟩ := M
  have d10 : nI L / 10 = nI (L / 10) := nI_div (b := 10) (by omega) (by omega)
  have m10 : nI L - nI (L / 10) * 10 = nI (L % 10) := by
    have := nI_rem (a := L) (b := 10) (by omega) (by omega)
    rw [show nI L / nI 10 = nI (L / 10) from d10] at this
    exact this
  let h2 : zK := sI (sI h 215 25 (nI (L / 10))) 215 24 (nI (L % 10))
  have q2 : ∀ a j, (a ≠ 215 ∨ (j ≠ 25 ∧ j ≠ 24)) → gI h2 a j = gI h a j := fun a j hh => by
    show gI (sI (sI _ _ _ _) _ _ _) _ _ = _
    rcases hh with hh | hh
    · rw [gI_ne hh, gI_ne hh]
    · rw [gI_nk hh.2, gI_nk hh.1]
  have B2 : mB h2 k c := mB_l' M1 (fun j h1 h2 => q2 215 j (Or.inr (by omega))) rfl
  obtain ⟨p3, a1, a2, a3, a4, a5⟩ := qM_asTold_ev B2 n7
  have Fa := f_qM_asTold a1
  have N3 : mN p3 (nI (L / 10)) (nI (L % 10)) := by
    refine ⟨(a4 24 (by omega) (by omega)).trans gI_eq, (a4 25 (by omega) (by omega)).trans ?_⟩
    show gI (sI (sI _ _ _ _) _ _ _) _ _ = _
    rw [gI_nk (by decide), gI_eq]
  have c46 : gI p3 215 46 = nI f := (a5 46 (by omega)).trans ((q2 215 46 (Or.inr (by omega))).trans h46)
  have c43 : gI p3 215 43 = nI kl := (a5 43 (by omega)).trans ((q2 215 43 (Or.inr (by omega))).trans M2)
  have c223 : ∀ j, gI p3 223 j = gI h 223 j := fun j => (congrFun (Fa.2.1 223 (by decide)) j).trans (q2 223 j (Or.inl (by decide)))
  have c234 : ∀ j, gI p3 234 j = gI h 234 j := fun j => (congrFun (Fa.2.1 234 (by decide)) j).trans (q2 234 j (Or.inl (by decide)))
  have c235 : ∀ j, gI p3 235 j = gI h 235 j := fun j => (congrFun (Fa.2.1 235 (by decide)) j).trans (q2 235 j (Or.inl (by decide)))
  have Lm := wLm_ok c.1
  have out : ∀ v σ g j, sI (lS (wLm c.1) g σ) 235 j v = lS (wLm c.1) (sI g 235 j v) σ := fun v σ g j => lS_out (fun i hi e => by have := (Prod.mk.inj e).1; omega) (fun r hr e => by
    have : 226 + r = 235 := e
    have : r < 4 := hr
    omega)
  have l0 : lS (wLm c.1) p3 (wS0 c) = p3 := mB3_l a3
  have years : ∃ x, zloop qM_isFit_b22 zfu (1, p3) = some x ∧ ∃ g, x = lS (wLm c.1) g (yLy c L 20) ∧ mB g k c ∧ (∀ a j, a ≠ 235 → gI g a j = gI p3 a j) ∧ (∀ j, j ≤ 21 * f → gI g 235 j = gI h 235 j) ∧ ∀ y, 1 ≤ y → y ≤ 20 → gI g 235 (21 * f + y) = nI (yB c L y) := by
    refine zloop_fx (S := fun i x => ∃ g, x = (nI (i + 1), lS (wLm c.1) g (yLy c L i)) ∧ mB g k c ∧ mN g (nI (L / 10)) (nI (L % 10)) ∧ (∀ a j, a ≠ 235 → gI g a j = gI p3 a j) ∧ (∀ j, j ≤ 21 * f → gI g 235 j = gI h 235 j) ∧ ∀ y, 1 ≤ y → y ≤ i → gI g 235 (21 * f + y) = nI (yB c L y)) 20 ?_ ?_ (zfu_lt (by omega)) ⟨p3, ?_, a2, N3, fun _ _ _ => rfl, fun j _ => c235 j, fun y h1 h2 => by omega⟩
    · rintro i x hi ⟨g, rfl, g1, g2, g3, g4, g5⟩
      obtain ⟨w1, w2, w3⟩ := wYr_ok (re := nI (L / 10)) (sh := nI (L % 10)) ok i (by omega)
      have go := qM_goesOn_ev g1 g2 ok w1 (show i < 50 by omega) w2
      have go' : qM_goesOn (lS (wLm c.1) g (yLy c L i)) = some (1, lS (wLm c.1) g (yLy c L (i + 1))) := go
      have s28 : ∀ τ : wS, gI (lS (wLm c.1) g τ) 215 28 = τ.1 2 := fun τ => lS_sc Lm (i := 2) (show 2 < 7 by decide) rfl
      have s46 : gI (lS (wLm c.1) g (yLy c L (i + 1))) 215 46 = nI f := (lS_m3 (by omega)).trans ((g3 215 46 (by decide)).trans c46)
      unfold qM_isFit_b22
      dsimp only
      rw [if_neg (show ¬ (20 : Int32) < nI (i + 1) from nI_nlt (a := 20) (by omega) (by decide)), go', Option.bind_some]
      simp only [zlet]
      rw [s46, show (21 : Int32) = nI 21 from rfl, nI_mul, nI_add, zix_nI (by omega) (by omega), Option.bind_some, s28, s28, (yN_ok ok (i + 1)).1, (yN_ok ok i).1, nI_sub (yN_mono ok i), out, nI_1]
      refine ⟨_, rfl, sI g 235 (21 * f + (i + 1)) (nI (yN c L (i + 1) - yN c L i)), rfl, mB_l' g1 (fun j _ _ => gI_ne (by decide)) rfl, ⟨(gI_ne (by decide)).trans g2.1, (gI_ne (by decide)).trans g2.2⟩, fun a j ha => (gI_ne ha).trans (g3 a j ha), fun j hj => (gI_nk (by omega)).trans (g4 j hj), fun y h1 h2 => ?_⟩
      by_cases e : y = i + 1
      · subst e; rw [gI_eq]; rfl
      · rw [gI_nk (by omega)]; exact g5 y h1 (by omega)
    · rintro x ⟨g, rfl, g1, g2, g3, g4, g5⟩
      unfold qM_isFit_b22
      dsimp only
      rw [if_pos (show (20 : Int32) < nI (20 + 1) from nI_lt (a := 20) (by omega) (by decide))]
      exact ⟨_, rfl, g, rfl, g1, g3, g4, g5⟩
    · show (1, p3) = (nI (0 + 1), lS (wLm c.1) p3 (wS0 c))
      rw [l0]
      rfl
  obtain ⟨x, e1, g, rfl, g1, g3, g4, g5⟩ := years
  have v43 : gI (lS (wLm c.1) g (yLy c L 20)) 215 43 = nI kl := (lS_m3 (by omega)).trans ((g3 215 43 (by decide)).trans c43)
  have v46 : gI (lS (wLm c.1) g (yLy c L 20)) 215 46 = nI f := (lS_m3 (by omega)).trans ((g3 215 46 (by decide)).trans c46)
  have v223 : ∀ j, gI (lS (wLm c.1) g (yLy c L 20)) 223 j = gI h 223 j := fun j => (lS_m2 (by decide) (by omega)).trans ((g3 223 j (by decide)).trans (c223 j))
  have v234 : ∀ j, gI (lS (wLm c.1) g (yLy c L 20)) 234 j = gI h 234 j := fun j => (lS_m2 (by decide) (by omega)).trans ((g3 234 j (by decide)).trans (c234 j))
  have v235 : ∀ j, gI (lS (wLm c.1) g (yLy c L 20)) 235 j = gI g 235 j := fun j => lS_m2 (by decide) (by omega)
  have lm : lM (lS (wLm c.1) g (yLy c L 20)) (17 * kl) l := ⟨(v223 _).trans M3.1, fun r i hr hi => (v223 _).trans (M3.2 r i hr hi)⟩
  have fa : qM_facts (lS (wLm c.1) g (yLy c L 20)) = some (nI l.1) := by
    unfold qM_facts
    rw [v43, show (17 : Int32) = nI 17 from rfl, nI_mul, zix_nI (by omega) (by omega), Option.bind_some]
    exact congrArg some lm.1
  have fo : ∀ i r, i < l.1 → r < 2 → qM_factOf (nI i) (nI r) (lS (wLm c.1) g (yLy c L 20)) = some (nI (l.2 r i)) := fun i r hi hr => by
    unfold qM_factOf
    rw [v43, show (17 : Int32) = nI 17 from rfl, show (1 : Int32) = nI 1 from rfl, show (2 : Int32) = nI 2 from rfl, nI_mul, nI_mul, nI_add, nI_add, nI_add, zix_nI (by omega) (by omega), Option.bind_some]
    exact congrArg some (lm.2 r i hr hi)
  have facts : zloop (qM_isFit_b68 (lS (wLm c.1) g (yLy c L 20))) zfu (1, 0) = some (if yFit c l L then 1 else 0) := by
    rw [← yMa_fit]
    refine zloop_for (fun i => (if yMa c l L i then 1 else 0, nI i)) l.1 (fun i hi => ?_) ?_ (zfu_lt (by omega))
    · unfold qM_isFit_b68
      dsimp only
      obtain ⟨b1, b2, b3⟩ := lo.2 i hi
      have f0 : qM_factOf (nI i) 0 (lS (wLm c.1) g (yLy c L 20)) = some (nI (l.2 0 i)) := fo i 0 hi (by omega)
      have f1 : qM_factOf (nI i) 1 (lS (wLm c.1) g (yLy c L 20)) = some (nI (l.2 1 i)) := fo i 1 hi (by omega)
      have b7 := yB_7 (L := L) ok (l.2 0 i)
      rw [fa, Option.bind_some, if_neg (nI_ge hi (by omega)), f0, Option.bind_some, v46, show (21 : Int32) = nI 21 from rfl, nI_mul, nI_add, zix_nI (by omega) (by omega), Option.bind_some, f1, Option.bind_some, v235, g5 _ b1 b2, nI_1, yMa_s]
      cases yMa c l L i with
      | false => rw [if_neg (show ¬ false = true by decide), if_pos rfl, Option.bind_some]; rfl
      | true =>
        rw [if_pos rfl, if_neg (show ¬ (1 : Int32) = 0 by decide)]
        by_cases hm : yB c L (l.2 0 i) = l.2 1 i
        · rw [if_neg (show ¬ ¬ nI (yB c L (l.2 0 i)) = nI (l.2 1 i) from fun z => z (by rw [hm])), Option.bind_some, decide_eq_true hm]
          rfl
        · rw [if_pos (show ¬ nI (yB c L (l.2 0 i)) = nI (l.2 1 i) from fun z => hm ((nI_eq (by omega) (by omega)).mp z)), Option.bind_some, decide_eq_false hm]
          rfl
    · unfold qM_isFit_b68
      dsimp only
      rw [fa, Option.bind_some, if_pos (nI_le (Nat.le_refl _) (by omega))]
  refine ⟨lS (wLm c.1) g (yLy c L 20), ?_, ⟨mB_l g1, v43, lm⟩, v46, v234, fun j hj => (v235 j).trans (g4 j hj), fun y h1 h2 => (v235 _).trans (g5 y h1 h2)⟩
  unfold qM_isFit
  simp only [zlet]
  rw [d10, m10]
  show ((qM_asTold h2).bind _) = _
  rw [a1, Option.bind_some, e1, Option.bind_some, facts, Option.bind_some]
  cases yFit c l L
  · rfl
  · rfl
/-- what the reference has found -/
def yMd (x : zK) (c : wC) (l : wLg) (i : Nat) : Prop := gI x 215 46 = nI (yFn c l i) ∧ ∀ L, L < i → yFit c l L = true → gI x 234 (yFn c l L) = nI L ∧ ∀ y, 1 ≤ y → y ≤ 20 → gI x 235 (21 * yFn c l L + y) = nI (yB c L y)
theorem qM_layLog_b25_ev (ok : wCok c) (lo : wLok l) (hkl : kl < 2) (M : yMg h k kl c l) (h46 : gI h 215 46 = 0) : ∃ x, zloop qM_layLog_b25 zfu (0, h) = some x ∧ yMd x c l 100 := by
  refine zloop_fx (S := fun i x => ∃ g, x = (nI i, g) ∧ yMg g k kl c l ∧ yMd g c l i) 100 ?_ ?_ (zfu_lt (by omega)) ⟨h, rfl, M, h46, fun L hL => absurd hL (Nat.not_lt_zero _)⟩
  · rintro i x hi ⟨g, rfl, g1, g2, g3⟩
    have fl := yFn_le c l i
    obtain ⟨h', e1, e2, e3, e4, e5, e6⟩ := qM_isFit_ev ok lo hkl g1 (show yFn c l i < 100 by omega) hi g2
    unfold qM_layLog_b25
    dsimp only
    rw [if_neg (show ¬ (100 : Int32) ≤ nI i from nI_ge (b := 100) hi (by decide)), e1, Option.bind_some, nI_1]
    dsimp only
    cases hf : yFit c l i with
    | true =>
      rw [if_pos rfl, if_neg (show ¬ (1 : Int32) = 0 by decide), e3, zix_nI (by omega) (by omega), Option.bind_some]
      simp only [zlet]
      rw [Option.bind_some, gI_ne (show 215 ≠ 234 by decide), e3, nI_1]
      have qq : ∀ a j, (a ≠ 215 ∨ j ≠ 46) → a ≠ 234 → gI (sI (sI h' 234 (yFn c l i) (nI i)) 215 46 (nI (yFn c l i + 1))) a j = gI h' a j := fun a j h1 h2 => by
        rcases h1 with h1 | h1
        · rw [gI_ne h1, gI_ne h2]
        · rw [gI_nk h1, gI_ne h2]
      refine ⟨_, rfl, sI (sI h' 234 (yFn c l i) (nI i)) 215 46 (nI (yFn c l i + 1)), rfl, ⟨mB_l' e2.1 (fun j _ _ => qq 215 j (Or.inr (by omega)) (by decide)) rfl, (qq 215 43 (Or.inr (by decide)) (by decide)).trans e2.2.1, ⟨(qq 223 _ (Or.inl (by decide)) (by decide)).trans e2.2.2.1, fun r j hr hj => (qq 223 _ (Or.inl (by decide)) (by decide)).trans (e2.2.2.2 r j hr hj)⟩⟩, ?_, fun L hL hfL => ?_⟩
      · rw [gI_eq, yFn_s, hf]; rfl
      · by_cases e : L = i
        · subst e
          refine ⟨?_, fun y h1 h2 => ?_⟩
          · rw [gI_ne (by decide), gI_eq]
          · rw [qq 235 _ (Or.inl (by decide)) (by decide)]; exact e6 y h1 h2
        · have lt := yFn_lt (show L < i by omega) hfL
          obtain ⟨a, b⟩ := g3 L (by omega) hfL
          refine ⟨?_, fun y h1 h2 => ?_⟩
          · rw [gI_ne (by decide), gI_nk (by omega), e4]; exact a
          · rw [qq 235 _ (Or.inl (by decide)) (by decide), e5 _ (by omega)]; exact b y h1 h2
    | false =>
      rw [if_neg (show ¬ false = true by decide), if_pos rfl, Option.bind_some]
      refine ⟨_, rfl, h', rfl, e2, ?_, fun L hL hfL => ?_⟩
      · rw [yFn_s, hf]; exact e3
      · have : L ≠ i := fun e => by rw [e, hf] at hfL; cases hfL
        have lt := yFn_lt (show L < i by omega) hfL
        obtain ⟨a, b⟩ := g3 L (by omega) hfL
        refine ⟨(e4 _).trans a, fun y h1 h2 => ?_⟩
        rw [e5 _ (by omega)]; exact b y h1 h2
  · rintro x ⟨g, rfl, g1, g2⟩
    unfold qM_layLog_b25
    dsimp only
    rw [if_pos (show (100 : Int32) ≤ nI 100 from nI_le (a := 100) (Nat.le_refl _) (by decide))]
    exact ⟨_, rfl, g2⟩
end LLOG
/-! the k-th law that fits -/
def yKt (c : wC) (l : wLg) (j : Nat) : Nat := fa_first (fun L => yFit c l L && decide (yFn c l L = j)) 100
theorem yKt_ok {c : wC} {l : wLg} {j : Nat} (hj : j < yFn c l 100) : yKt c l j < 100 ∧ yFit c l (yKt c l j) = true ∧ yFn c l (yKt c l j) = j := by
  obtain ⟨L, h1, h2, h3⟩ := fb_ct_kth (p := yFit c l) hj
  have e : yKt c l j = L := fa_first_eq h1 (by rw [h2, decide_eq_true (show yFn c l L = j from h3)]; rfl) (fun q hq hp => by
    rw [Bool.and_eq_true] at hp
    exact fb_ct_kth_one hp.1 h2 ((of_decide_eq_true hp.2).trans h3.symm))
  rw [e]
  exact ⟨h1, h2, h3⟩
theorem yKt_mono {c : wC} {l : wLg} {i j : Nat} (hij : i ≤ j) (hj : j < yFn c l 100) : yKt c l i ≤ yKt c l j := by
  obtain ⟨a1, a2, a3⟩ := yKt_ok (show i < yFn c l 100 by omega)
  obtain ⟨b1, b2, b3⟩ := yKt_ok hj
  apply Nat.le_of_not_lt
  intro z
  have := yFn_lt z b2
  omega
theorem yFd_k {h : zK} {c : wC} {l : wLg} (F : yFd h c l 100) {j : Nat} (hj : j < yFn c l 100) : gI h 197 j = nI (yKt c l j) := by
  obtain ⟨a1, a2, a3⟩ := yKt_ok hj
  have := F.2 _ a1 a2
  rw [a3] at this
  exact this
theorem yMd_k {h : zK} {c : wC} {l : wLg} (F : yMd h c l 100) {j : Nat} (hj : j < yFn c l 100) : gI h 234 j = nI (yKt c l j) ∧ ∀ y, 1 ≤ y → y ≤ 20 → gI h 235 (21 * j + y) = nI (yB c (yKt c l j) y) := by
  obtain ⟨a1, a2, a3⟩ := yKt_ok hj
  have := F.2 _ a1 a2
  rw [a3] at this
  exact this
