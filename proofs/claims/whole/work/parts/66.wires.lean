/-! WIRES -/
section WIRES
variable {h : zK} {o k : Nat} {c : wC} {re sh : Int32}
def wOv (c : wC) (m t : Nat) : Bool := decide (c.2.2.2 4 t < c.2.2.2 2 t + c.2.2.2 3 t * m)
def wWf (c : wC) (m t : Nat) : Bool := decide (c.2.2.2 2 t + c.2.2.2 3 t * m ≤ c.2.2.2 4 t + 5)
/-- by which wires: none, if there is one too strong for a wire -/
def wWr (c : wC) (m : Nat) : Option Nat := if m = 0 then some 0 else if fa_first (fun t => !wWf c m t) c.1 < c.1 then none else some (wBits (wOv c m) c.1)
theorem qLk_wiresFor_ev (hc : cC h o c) (ok : wCok c) {m : Nat} (hm : m ≤ 20) : qLk_wiresFor o (nI m) h = some (wO (wWr c m)) := by
  have n7 := ok.1
  unfold qLk_wiresFor wWr
  by_cases m0 : m = 0
  · subst m0
    have e : zloop (qLk_wiresFor_b4 o (nI 0) h) zfu (0, 0) = some (.inl 0) := by
      refine zloop_for (fun _ => ((0 : Int32), (0 : Int32))) 0 (fun i hi => absurd hi (Nat.not_lt_zero _)) ?_ (zfu_lt (by omega))
      unfold qLk_wiresFor_b4
      dsimp only
      rw [if_pos (show nI 0 ≤ (0 : Int32) by decide)]
      split <;> rfl
    rw [e, if_pos rfl]
    rfl
  · obtain ⟨q, hq⟩ : ∃ q, q = fa_first (fun t => !wWf c m t) c.1 := ⟨_, rfl⟩
    have q1 : q ≤ c.1 := by rw [hq]; exact fa_first_le _ _
    have rng : ∀ t, t < c.1 → c.2.2.2 2 t + c.2.2.2 3 t * m < 2 ^ 30 ∧ c.2.2.2 4 t < 2 ^ 30 := fun t ht => by
      obtain ⟨-, -, r2, r3, -, r4, -⟩ := ok.2.2.2 t ht
      have : c.2.2.2 3 t * m ≤ 5 * 20 := Nat.mul_le_mul r3 hm
      omega
    have le5 : ∀ t, t < c.1 → (nI (c.2.2.2 2 t + c.2.2.2 3 t * m) - nI (c.2.2.2 4 t) ≤ 5 ↔ c.2.2.2 2 t + c.2.2.2 3 t * m ≤ c.2.2.2 4 t + 5) := fun t ht => by
      have := rng t ht
      have e := wsubs (a := c.2.2.2 2 t + c.2.2.2 3 t * m) (b := c.2.2.2 4 t) (a' := 5) (b' := 0) (by omega) (by omega) (by omega) (by omega)
      rw [show nI 5 - nI 0 = (5 : Int32) from by decide] at e
      rw [e]
      omega
    have le0 : ∀ t, t < c.1 → (nI (c.2.2.2 2 t + c.2.2.2 3 t * m) - nI (c.2.2.2 4 t) ≤ 0 ↔ c.2.2.2 2 t + c.2.2.2 3 t * m ≤ c.2.2.2 4 t) := fun t ht => by
      have := rng t ht
      have e := wsubs (a := c.2.2.2 2 t + c.2.2.2 3 t * m) (b := c.2.2.2 4 t) (a' := 0) (b' := 0) (by omega) (by omega) (by omega) (by omega)
      rw [show nI 0 - nI 0 = (0 : Int32) from by decide] at e
      rw [e]
      omega
    have e : zloop (qLk_wiresFor_b4 o (nI m) h) zfu (0, 0) = some (if q < c.1 then .inr (-1) else .inl (nI (wBits (wOv c m) q))) := by
      refine zloop_for (fun i => (nI (wBits (wOv c m) i), nI i)) q (fun i hi => ?_) ?_ (zfu_lt (by omega))
      · have n1 := fa_first_no (fun t => !wWf c m t) c.1 i (by omega)
        have n2 : c.2.2.2 2 i + c.2.2.2 3 i * m ≤ c.2.2.2 4 i + 5 := by
          simp [wWf] at n1
          exact n1
        unfold qLk_wiresFor_b4
        dsimp only
        rw [cC_n hc, if_neg (nI_ge (by omega) (by omega)), if_neg (show ¬ nI m ≤ 0 from nI_nle (by omega) (by omega)), zix_nI (by omega) (by omega), Option.bind_some, cC_2 hc (by omega), cC_3 hc (by omega), cC_4 hc (by omega), nI_mul, nI_add, if_pos ((le5 i (by omega)).mpr n2), nI_1, wBits_s]
        simp only [zlet]
        by_cases h0 : c.2.2.2 2 i + c.2.2.2 3 i * m ≤ c.2.2.2 4 i
        · rw [if_pos ((le0 i (by omega)).mpr h0), if_neg (show ¬ wOv c m i = true by simp [wOv]; omega), Nat.or_zero]
        · rw [if_neg (fun z => h0 ((le0 i (by omega)).mp z)), if_pos (show wOv c m i = true by simp [wOv]; omega), wshl i (by omega), fa_or]
      · unfold qLk_wiresFor_b4
        dsimp only
        by_cases hl : q < c.1
        · have n1 := fa_first_yes (fun t => !wWf c m t) c.1 (by omega)
          rw [← hq] at n1
          have n2 : ¬ c.2.2.2 2 q + c.2.2.2 3 q * m ≤ c.2.2.2 4 q + 5 := by
            simp [wWf] at n1
            omega
          rw [cC_n hc, if_neg (nI_ge hl (by omega)), if_neg (show ¬ nI m ≤ 0 from nI_nle (by omega) (by omega)), zix_nI (by omega) (by omega), Option.bind_some, cC_2 hc hl, cC_3 hc hl, cC_4 hc hl, nI_mul, nI_add, if_neg (fun z => n2 ((le5 q hl).mp z)), if_pos hl]
        · rw [cC_n hc, if_pos (nI_le (by omega) (by omega)), if_neg hl]
    rw [e, if_neg m0, ← hq]
    by_cases hl : q < c.1
    · rw [if_pos hl, if_pos hl]
      rfl
    · rw [if_neg hl, if_neg hl, show q = c.1 by omega]
      rfl
end WIRES
