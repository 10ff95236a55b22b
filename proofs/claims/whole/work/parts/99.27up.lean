/-! LAYING: a saying is taken up -/
section UP
variable {h : zK} {c : wC} {pl : Nat → Nat} {m : Nat}
theorem y127 : ∀ m, m < 7 → ∀ j, j < 7 → (127 ^^^ 2 ^ m).testBit j = !decide (j = m) := by decide +kernel
theorem yNe_cut {re t : Nat} (hm : m < 7) : yNe re pl (m + 1) t &&& (127 ^^^ 2 ^ m) = yNe re pl m t := by
  apply Nat.eq_of_testBit_eq
  intro j
  rw [Nat.testBit_and, yNe_t, yNe_t]
  by_cases hj : j < 7
  · rw [y127 m hm j hj]
    by_cases e : j = m
    · rw [decide_eq_true e, decide_eq_false (show ¬ j < m by omega)]
      simp
    · rw [decide_eq_false e]
      by_cases l : j < m
      · rw [decide_eq_true l, decide_eq_true (show j < m + 1 by omega)]; simp
      · rw [decide_eq_false l, decide_eq_false (show ¬ j < m + 1 by omega)]; simp
  · rw [decide_eq_false (show ¬ j < m + 1 by omega), decide_eq_false (show ¬ j < m by omega)]; simp
theorem yPt_up (ok : wCok c) (hm : m < c.1) (P : yPt h c pl (m + 1)) : ∃ h', qTr_takeUp 186 (nI m) h = some h' ∧ yPt h' c pl m ∧ ∀ a j, a ≠ 188 → gI h' a j = gI h a j := by
  have n7 := ok.1
  obtain ⟨p1, p2, p3, p4, p5⟩ := P
  have key : ∃ h', zloop (qTr_takeUp_b9 186 (nI m)) zfu (0, sI h 188 m 0) = some h' ∧ (∀ a j, a ≠ 188 → gI h' a j = gI h a j) ∧ ∀ t, t < c.1 → gI h' 188 t = nI (yNp c pl m t) := by
    refine zloop_me (Q := fun q x => ∃ i h', q + i = m ∧ x = (nI i, h') ∧ (∀ a j, a ≠ 188 → gI h' a j = gI h a j) ∧ (∀ t, t < i → gI h' 188 t = nI (yNe c.2.2.1 pl m t)) ∧ ∀ t, i ≤ t → gI h' 188 t = gI (sI h 188 m 0) 188 t) ?_ zfu m _ ⟨0, sI h 188 m 0, by omega, rfl, fun a j ha => gI_ne ha, fun t ht => absurd ht (Nat.not_lt_zero _), fun _ _ => rfl⟩ (zfu_lt (by omega))
    rintro q x ⟨i, h', hq, rfl, f1, f2, f3⟩
    unfold qTr_takeUp_b9
    dsimp only
    by_cases hi : i < m
    · have v : gI h' 188 i = nI (yNe c.2.2.1 pl (m + 1) i) := by
        rw [f3 i (Nat.le_refl _), gI_nk (by omega), p4 i (by omega)]
        unfold yNp
        rw [if_pos (by omega)]
      have v' : gI h' (186 + 2) i = nI (yNe c.2.2.1 pl (m + 1) i) := v
      have pw : 2 ^ m < 128 := by have : 2 ^ m ≤ 2 ^ 6 := Nat.pow_le_pow_right (by omega) (by omega); omega
      rw [if_neg (nI_ge hi (by omega)), zix_nI (by omega) (by omega), Option.bind_some, v', wshl m (by omega), wnot _ (yNe_lt _ _ _ (by omega)) _ pw, yNe_cut (by omega), nI_1]
      simp only [zlet]
      refine Or.inr ⟨q - 1, _, rfl, by omega, i + 1, _, by omega, rfl, fun a j ha => (gI_ne ha).trans (f1 a j ha), fun t ht => ?_, fun t ht => ?_⟩
      · by_cases e : t = i
        · subst e; exact gI_eq
        · exact (gI_nk e).trans (f2 t (by omega))
      · exact (gI_nk (by omega)).trans (f3 t (by omega))
    · have ei : i = m := by omega
      subst ei
      rw [if_pos (nI_le (Nat.le_refl _) (by omega))]
      refine Or.inl ⟨_, rfl, f1, fun t ht => ?_⟩
      unfold yNp
      by_cases tm : t < i
      · rw [if_pos tm]; exact f2 t tm
      · rw [if_neg tm, f3 t (by omega)]
        by_cases e : t = i
        · subst e; rw [gI_eq]; rfl
        · rw [gI_nk e, p4 t ht]
          unfold yNp
          rw [if_neg (by omega)]
  obtain ⟨h', e, f1, f2⟩ := key
  refine ⟨h', ?_, ⟨(f1 _ _ (by decide)).trans p1, (f1 _ _ (by decide)).trans p2, fun t ht => (f1 _ _ (by decide)).trans (p3 t ht), f2, fun t ht => ⟨(f1 _ _ (by decide)).trans (p5 t (by omega)).1, (p5 t (by omega)).2⟩⟩, f1⟩
  unfold qTr_takeUp
  rw [zix_nI (by omega) (by omega), Option.bind_some]
  simp only [zlet]
  show (zloop (qTr_takeUp_b9 186 (nI m)) zfu (0, sI h 188 m 0)).bind _ = _
  rw [e]; rfl
end UP
