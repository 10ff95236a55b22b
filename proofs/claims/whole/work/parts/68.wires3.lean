/-! WIRES: the fewest -/
theorem wones_sub : ∀ a, a < 128 → ∀ b, b < 128 → a &&& b = a → a ≠ b → wones a < wones b := by decide +kernel
section WIRES3
variable {c : wC} {re sh : Int32}
theorem wWz_q (ok : wCok c) {b m : Nat} (hm : m ≤ 20) : wWz re sh c m b = true ↔ (m = 0 ∨ wQu c b m) := by
  unfold wWz
  rw [decide_eq_true_iff]
  exact wWy_z ok (by omega)
theorem wWa_none {m : Nat} : ∀ i, (∀ b, b < i → ¬ wWz re sh c m b = true) → wWa re sh c m i = none
  | 0, _ => rfl
  | i + 1, H => by
    rw [wWa_s, wWa_none i (fun b hb => H b (by omega))]
    unfold wWaS
    rw [if_neg (H i (by omega))]
    split <;> rfl
theorem wWa_min {m B N : Nat} (pB : wWz re sh c m B = true) (mn : ∀ b, b < N → wWz re sh c m b = true → b ≠ B → wones B < wones b) : ∀ i, i ≤ N → B < i → wWa re sh c m i = some B
  | 0, _, h => absurd h (Nat.not_lt_zero _)
  | i + 1, hi, hB => by
    rw [wWa_s]
    by_cases e : B = i
    · subst e
      unfold wWaS
      have hf : wFew B (wWa re sh c m B) = true := by
        cases eq : wWa re sh c m B with
        | none => rfl
        | some j =>
          have hj := wWa_lt eq
          unfold wFew
          exact decide_eq_true (mn j (by omega) hj.2 (by omega))
      rw [if_pos hf, if_pos pB]
    · rw [wWa_min pB mn i (by omega) (by omega)]
      unfold wWaS
      by_cases hf : wFew i (some B) = true
      · rw [if_pos hf]
        by_cases hz : wWz re sh c m i = true
        · have := mn i (by omega) hz (fun z => e z.symm)
          unfold wFew at hf
          have := of_decide_eq_true hf
          omega
        · rw [if_neg hz]
      · rw [if_neg hf]
theorem wWa_Wr (ok : wCok c) {m : Nat} (hm : m ≤ 20) : wWa re sh c m (2 ^ c.1) = wWr c m := by
  have n7 := ok.1
  have p7 := w2n n7
  have p1 := w2p c.1
  unfold wWr
  by_cases m0 : m = 0
  · rw [if_pos m0]
    refine wWa_min (N := 2 ^ c.1) ((wWz_q ok hm).mpr (Or.inl m0)) (fun b hb _ hne => ?_) _ (Nat.le_refl _) (by omega)
    exact wones_sub 0 (by omega) b (by omega) (Nat.zero_and b) (fun z => hne z.symm)
  · rw [if_neg m0]
    by_cases hq : fa_first (fun t => !wWf c m t) c.1 < c.1
    · rw [if_pos hq]
      refine wWa_none _ (fun b hb z => ?_)
      rcases (wWz_q ok hm).mp z with z | z
      · exact m0 z
      · have n1 := fa_first_yes (fun t => !wWf c m t) c.1 hq
        have n2 := z _ hq
        unfold wCk at n2
        revert n1 n2
        generalize fa_first (fun t => !wWf c m t) c.1 = q
        intro n1 n2
        simp [wWf] at n1
        split at n2 <;> omega
    · rw [if_neg hq]
      have hB := wBits_lt (wOv c m) c.1
      refine wWa_min (N := 2 ^ c.1) ((wWz_q ok hm).mpr (Or.inr (fun t ht => ?_))) (fun b hb hz hne => ?_) _ (Nat.le_refl _) hB
      · have n1 := fa_first_no (fun t => !wWf c m t) c.1 t (by have := fa_first_le (fun t => !wWf c m t) c.1; omega)
        simp [wWf] at n1
        unfold wCk
        rw [wBits_t]
        by_cases ho : wOv c m t = true
        · rw [ho, decide_eq_true ht, if_pos (show (true && true) = true from rfl)]
          exact n1
        · have : ¬ c.2.2.2 4 t < c.2.2.2 2 t + c.2.2.2 3 t * m := fun z => ho (decide_eq_true z)
          omega
      · rcases (wWz_q ok hm).mp hz with z | z
        · exact absurd z m0
        · refine wones_sub _ (by omega) b (by omega) ?_ (fun z => hne z.symm)
          apply Nat.eq_of_testBit_eq
          intro t
          rw [Nat.testBit_and, wBits_t]
          by_cases ht : t < c.1
          · by_cases ho : wOv c m t = true
            · have z1 := z t ht
              have o1 : c.2.2.2 4 t < c.2.2.2 2 t + c.2.2.2 3 t * m := of_decide_eq_true ho
              unfold wCk at z1
              have : b.testBit t = true := by
                by_cases hb : b.testBit t = true
                · exact hb
                · rw [if_neg hb] at z1
                  omega
              rw [this, Bool.and_true]
            · simp [ho]
          · simp [ht]
end WIRES3
theorem wWr_lt {c : wC} {m j : Nat} (ok : wCok c) (e : wWr c m = some j) : j < 128 := by
  unfold wWr at e
  split at e
  · cases e
    omega
  · split at e
    · cases e
    · cases e
      exact wBits_128 _ ok.1
theorem wo_wires {h : zK} (H : InvB h) (a x y : Int32) : ∃ w h2, qC_wires a x y h = some w ∧ qM_wires a x y h = some (w, h2) := by
  have e21 : nI 21 - 1 = (20 : Int32) := by decide
  unfold qC_wires qM_wires
  simp only [zlet]
  rcases wcell H a with ⟨e1, e2⟩ | ⟨k, c, hk, rfl, c1, c2, c3, e1, e2, e4⟩
  · rw [e1, e2 _ (wEq_s (by unfold wKp; omega)), Option.bind_some, Option.bind_some]
    refine ⟨-1, sI h 215 0 0, rfl, ?_⟩
    split <;> rfl
  · obtain ⟨h2, q1, B, -, -⟩ := e4 (sI h 215 0 0) (wEq_s (by unfold wKp; omega))
    rw [e1, q1, Option.bind_some, Option.bind_some]
    simp only [if_pos e2]
    rw [if_pos (show ¬ (1 : Int32) = 0 by decide)]
    rcases zf_in_n (m := 21) (by omega) x with ⟨q, hq, rfl, hz⟩ | ⟨ha, hz⟩
    · rw [e21] at hz
      obtain ⟨g, eg⟩ := qM_wires_b31_ev (re := gI h2 215 25) (sh := gI h2 215 24) B ⟨rfl, rfl⟩ c1 (m := q) (by omega) y
      rw [hz, if_neg (show ¬ (1 : Int32) = 0 by decide), if_neg (nI_pos (by omega)), if_pos (show nI q ≤ (20 : Int32) from nI_le (b := 20) (by omega) (by decide)), qLk_wiresFor_ev c2 c1 (by omega), eg, Option.bind_some, Option.bind_some, wWa_Wr c1 (by omega)]
      dsimp only
      cases eq : wWr c q with
      | none =>
        rw [if_pos (show wO none = -1 from rfl), if_neg (show ¬ ¬ wO none = -1 from fun z => z rfl)]
        refine ⟨wO none, g, ?_, rfl⟩
        split <;> rfl
      | some j =>
        have hj := wWr_lt c1 eq
        rw [if_neg (show ¬ wO (some j) = -1 from nI_nm1 (by omega)), if_pos (show ¬ wO (some j) = -1 from nI_nm1 (by omega)), show wO (some j) = nI j from rfl, wbc j hj, qM_ones_ev hj, Option.bind_some]
        by_cases hy : y = 0
        · rw [if_pos hy, if_neg (fun z => z hy)]
          exact ⟨_, _, rfl, rfl⟩
        · rw [if_neg hy, if_pos hy]
          exact ⟨_, _, rfl, rfl⟩
    · rw [e21] at hz
      rw [hz, if_pos rfl]
      refine ⟨-1, _, ?_, rfl⟩
      rcases ha with ha | ⟨j, h1, h2, rfl⟩
      · rw [if_pos ha]
      · rw [if_neg (nI_pos h2), if_neg (show ¬ nI j ≤ (20 : Int32) from nI_ge (a := 20) (by omega) h2)]
