/-! MUTE: both are one -/
section MUTE3
variable {c : wC}
theorem wMu_t (t : Nat) : ∀ i, (wMu c i).testBit t = true ↔ ∃ s, s < i ∧ ((c.2.2.2 6 s).testBit t = true ∨ (s = t ∧ c.2.2.2 6 s ≠ 0))
  | 0 => by
    constructor
    · intro z
      exact absurd z (by show ¬ (0 : Nat).testBit t = true; simp)
    · rintro ⟨s, hs, -⟩
      omega
  | i + 1 => by
    have ih := wMu_t t i
    have st : (wMu c (i + 1)).testBit t = true ↔ ((wMu c i).testBit t = true ∨ ((c.2.2.2 6 i).testBit t = true ∨ (i = t ∧ c.2.2.2 6 i ≠ 0))) := by
      rw [wMu_s]
      unfold wMuS
      by_cases h0 : c.2.2.2 6 i = 0
      · rw [if_pos h0, h0]
        simp
      · rw [if_neg h0, Nat.testBit_or, Nat.testBit_or, Nat.testBit_two_pow]
        simp [h0]
    rw [st, ih]
    constructor
    · rintro (⟨s, hs, q⟩ | q)
      · exact ⟨s, by omega, q⟩
      · exact ⟨i, by omega, q⟩
    · rintro ⟨s, hs, q⟩
      by_cases e : s = i
      · subst e
        exact Or.inr q
      · exact Or.inl ⟨s, by omega, q⟩
theorem wMt_t (t : Nat) : ∀ i, wMt c t i = true ↔ (c.2.2.2 6 t = 0 ∧ ∀ s, s < i → (c.2.2.2 6 s).testBit t = false)
  | 0 => by
    show decide (c.2.2.2 6 t = 0) = true ↔ _
    rw [decide_eq_true_iff]
    exact ⟨fun z => ⟨z, fun s hs => absurd hs (Nat.not_lt_zero _)⟩, fun z => z.1⟩
  | i + 1 => by
    rw [wMt_s, Bool.and_eq_true, wMt_t t i, Bool.not_eq_true']
    constructor
    · rintro ⟨⟨a, b⟩, d⟩
      refine ⟨a, fun s hs => ?_⟩
      by_cases e : s = i
      · rw [e]; exact d
      · exact b s (by omega)
    · rintro ⟨a, b⟩
      exact ⟨⟨a, fun s hs => b s (by omega)⟩, b i (by omega)⟩
theorem wMu_eq (ok : wCok c) : (2 ^ c.1 - 1) &&& (127 ^^^ wMu c c.1) = wBits (fun t => wMt c t c.1) c.1 := by
  have n7 := ok.1
  apply Nat.eq_of_testBit_eq
  intro t
  rw [Nat.testBit_and, Nat.testBit_xor, wBits_t, Nat.testBit_two_pow_sub_one, show (127 : Nat) = 2 ^ 7 - 1 from rfl, Nat.testBit_two_pow_sub_one]
  by_cases ht : t < c.1
  · rw [decide_eq_true ht, decide_eq_true (show t < 7 by omega), Bool.true_and, Bool.true_and]
    have key : (wMu c c.1).testBit t = true ↔ ¬ wMt c t c.1 = true := by
      rw [wMu_t, wMt_t]
      constructor
      · rintro ⟨s, hs, q | ⟨rfl, q⟩⟩ ⟨z1, z2⟩
        · rw [z2 s hs] at q
          cases q
        · exact q z1
      · intro z
        by_cases h0 : c.2.2.2 6 t = 0
        · by_cases ex : ∃ s, s < c.1 ∧ (c.2.2.2 6 s).testBit t = true
          · obtain ⟨s, hs, q⟩ := ex
            exact ⟨s, hs, Or.inl q⟩
          · refine absurd ⟨h0, fun s hs => ?_⟩ z
            cases q : (c.2.2.2 6 s).testBit t with
            | false => rfl
            | true => exact absurd ⟨s, hs, q⟩ ex
        · exact ⟨t, ht, Or.inr ⟨rfl, h0⟩⟩
    revert key
    cases (wMu c c.1).testBit t <;> cases wMt c t c.1 <;> simp
  · rw [decide_eq_false ht, Bool.false_and, Bool.false_and]
end MUTE3
