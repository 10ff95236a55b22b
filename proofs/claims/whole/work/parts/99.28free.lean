/-! LAYING: which places are tried -/
section FREE
variable {h : zK} {c : wC} {pl : Nat → Nat} {m n : Nat}
/-- the first free place of its value -/
def yFre (A : Nat → Nat) (U i : Nat) : Prop := U.testBit i = false ∧ ¬ (0 < i ∧ A (i - 1) = A i ∧ U.testBit (i - 1) = false)
theorem qLa_isNextFree_ev {A : Nat → Nat} {U i : Nat} (hn : n ≤ 7) (P : yP9 h A n) (hi : i < n) (hU : U < 128) (e5 : gI h 184 5 = nI U) : ∃ v : Int32, qLa_isNextFree (nI i) h = some v ∧ ((v = 1 ∧ yFre A U i) ∨ (v = 0 ∧ ¬ yFre A U i)) := by
  unfold qLa_isNextFree
  have fst : ∃ w : Int32, (if nI i ≤ 0 then some 0 else (zix (nI i - 1) 7).bind fun j3 => (zix (nI i) 7).bind fun j4 => if ¬ (gI h 190 j3) = (gI h 190 j4) then some 0 else if ¬ (zf_cin (gI h 184 5) (nI i - 1)) = 0 then some 0 else some (1 : Int32)) = some w ∧ ((w = 1 ∧ (0 < i ∧ A (i - 1) = A i ∧ U.testBit (i - 1) = false)) ∨ (w = 0 ∧ ¬ (0 < i ∧ A (i - 1) = A i ∧ U.testBit (i - 1) = false))) := by
    by_cases i0 : i = 0
    · subst i0
      rw [if_pos (show nI 0 ≤ 0 by decide)]
      exact ⟨0, rfl, Or.inr ⟨rfl, fun z => absurd z.1 (Nat.lt_irrefl _)⟩⟩
    · have a20 := (P i hi).2
      have b20 := (P (i - 1) (by omega)).2
      rw [if_neg (show ¬ nI i ≤ 0 from nI_ge (a := 0) (by omega) (by omega)), show nI i - 1 = nI (i - 1) from nI_sub (b := 1) (by omega), zix_nI (by omega) (by omega), Option.bind_some, zix_nI (by omega) (by omega), Option.bind_some, (P i hi).1, (P (i - 1) (by omega)).1, e5, wcin U hU (i - 1) (by omega)]
      by_cases hA : A (i - 1) = A i
      · rw [if_neg (show ¬ ¬ nI (A (i - 1)) = nI (A i) from fun z => z (by rw [hA]))]
        cases hb : U.testBit (i - 1)
        · exact ⟨1, rfl, Or.inl ⟨rfl, by omega, hA, rfl⟩⟩
        · exact ⟨0, rfl, Or.inr ⟨rfl, fun z => by cases z.2.2⟩⟩
      · rw [if_pos (show ¬ nI (A (i - 1)) = nI (A i) from fun z => hA ((nI_eq (by omega) (by omega)).mp z))]
        exact ⟨0, rfl, Or.inr ⟨rfl, fun z => hA z.2.1⟩⟩
  obtain ⟨w, e, hw⟩ := fst
  rw [e, Option.bind_some, e5, wcin U hU i (by omega)]
  unfold yFre
  cases hb : U.testBit i
  · rw [if_neg (show ¬ ¬ (if false = true then (1 : Int32) else 0) = 0 from fun z => z rfl)]
    rcases hw with ⟨rfl, q⟩ | ⟨rfl, q⟩
    · rw [if_pos (show ¬ (1 : Int32) = 0 by decide)]
      exact ⟨0, rfl, Or.inr ⟨rfl, fun z => z.2 q⟩⟩
    · rw [if_neg (show ¬ ¬ (0 : Int32) = 0 from fun z => z rfl)]
      exact ⟨1, rfl, Or.inl ⟨rfl, rfl, q⟩⟩
  · rw [if_pos (show ¬ (if true = true then (1 : Int32) else 0) = 0 by decide)]
    exact ⟨0, rfl, Or.inr ⟨rfl, fun z => by cases z.1⟩⟩
theorem qLa_firstPlaceFor_ev (ok : wCok c) (hm : m < c.1) (nd : ∀ t, t < c.1 → gI h 187 t = nI (yNd c t)) {ix : Nat → Nat} (hx : ∀ s, s < m → gI h 191 s = nI (ix s)) : ∃ f, qLa_firstPlaceFor (nI m) h = some (nI f) ∧ ((f = 0 ∧ ∀ s, s < m → yNd c s ≠ yNd c m) ∨ ∃ s, s < m ∧ yNd c s = yNd c m ∧ (∀ t, s < t → t < m → yNd c t ≠ yNd c m) ∧ f = ix s + 1) := by
  have n7 := ok.1
  have key : ∃ r, zloop (qLa_firstPlaceFor_b4 (nI m) h) zfu (nI m - 1) = some r ∧ ((r = Sum.inl () ∧ ∀ s, s < m → yNd c s ≠ yNd c m) ∨ ∃ s, s < m ∧ yNd c s = yNd c m ∧ (∀ t, s < t → t < m → yNd c t ≠ yNd c m) ∧ r = Sum.inr (nI (ix s + 1))) := by
    refine zloop_me (Q := fun q x => ∃ s, q = s ∧ s ≤ m ∧ x = nI s - 1 ∧ ∀ t, s ≤ t → t < m → yNd c t ≠ yNd c m) ?_ zfu m _ ⟨m, rfl, Nat.le_refl _, rfl, fun t h1 h2 => by omega⟩ (zfu_lt (by omega))
    rintro q x ⟨s, rfl, sm, rfl, no⟩
    unfold qLa_firstPlaceFor_b4
    by_cases s0 : q = 0
    · subst s0
      rw [if_pos (show nI 0 - 1 < 0 by decide)]
      exact Or.inl ⟨_, rfl, Or.inl ⟨rfl, fun s hs => no s (by omega) hs⟩⟩
    · have b1 := yNd_7 c (q - 1)
      have b2 := yNd_7 c m
      rw [show nI q - 1 = nI (q - 1) from nI_sub (b := 1) (by omega), if_neg (nI_pos (by omega)), zix_nI (by omega) (by omega), Option.bind_some, zix_nI (by omega) (by omega), Option.bind_some, nd (q - 1) (by omega), nd m hm]
      by_cases e : yNd c (q - 1) = yNd c m
      · rw [if_neg (show ¬ ¬ nI (yNd c (q - 1)) = nI (yNd c m) from fun z => z (by rw [e])), hx (q - 1) (by omega), nI_1]
        exact Or.inl ⟨_, rfl, Or.inr ⟨q - 1, by omega, e, fun t h1 h2 => no t (by omega) h2, rfl⟩⟩
      · rw [if_pos (show ¬ nI (yNd c (q - 1)) = nI (yNd c m) from fun z => e ((nI_eq (by omega) (by omega)).mp z)), wsubm]
        refine Or.inr ⟨q - 1, _, rfl, by omega, q - 1, rfl, by omega, rfl, fun t h1 h2 => ?_⟩
        by_cases et : t = q - 1
        · subst et; exact e
        · exact no t (by omega) h2
  obtain ⟨r, e, ⟨rfl, q⟩ | ⟨s, q1, q2, q3, rfl⟩⟩ := key
  · refine ⟨0, ?_, Or.inl ⟨rfl, q⟩⟩
    unfold qLa_firstPlaceFor
    rw [e]; rfl
  · refine ⟨ix s + 1, ?_, Or.inr ⟨s, q1, q2, q3, rfl⟩⟩
    unfold qLa_firstPlaceFor
    rw [e]; rfl
end FREE
