/-! LAYING: which places are tried -/
section FREE
variable {h : zK} {c : wC} {pl : Nat → Nat} {m n : Nat}
/-- free, and not behind a free twin -/
def yFre (T U i : Nat) : Prop := U.testBit i = false ∧ ¬ (T.testBit i = true ∧ U.testBit (i - 1) = false)
theorem qLa_isNextFree_ev {T U i : Nat} (hT : T < 128) (T0 : T.testBit 0 = false) (hi : i < 7) (hU : U < 128) (e5 : gI h 184 5 = nI T) (e6 : gI h 184 6 = nI U) : (qLa_isNextFree (nI i) h = 1 ∧ yFre T U i) ∨ (qLa_isNextFree (nI i) h = 0 ∧ ¬ yFre T U i) := by
  have fst : ∃ w : Int32, (if (zf_cin (nI T) (nI i)) = 0 then 0 else if ¬ (zf_cin (nI U) (nI i - 1)) = 0 then 0 else (1 : Int32)) = w ∧ ((w = 1 ∧ (T.testBit i = true ∧ U.testBit (i - 1) = false)) ∨ (w = 0 ∧ ¬ (T.testBit i = true ∧ U.testBit (i - 1) = false))) := by
    rw [wcin T hT i (by omega)]
    cases ht : T.testBit i
    · rw [if_pos (show (if false = true then (1 : Int32) else 0) = 0 from rfl)]
      exact ⟨0, rfl, Or.inr ⟨rfl, fun z => by cases z.1⟩⟩
    · have i0 : i ≠ 0 := fun e => by rw [e, T0] at ht; cases ht
      rw [if_neg (show ¬ (if true = true then (1 : Int32) else 0) = 0 by decide), show nI i - 1 = nI (i - 1) from nI_sub (b := 1) (by omega), wcin U hU (i - 1) (by omega)]
      cases hb : U.testBit (i - 1)
      · rw [if_neg (show ¬ ¬ (if false = true then (1 : Int32) else 0) = 0 from fun z => z rfl)]
        exact ⟨1, rfl, Or.inl ⟨rfl, rfl, rfl⟩⟩
      · rw [if_pos (show ¬ (if true = true then (1 : Int32) else 0) = 0 by decide)]
        exact ⟨0, rfl, Or.inr ⟨rfl, fun z => by cases z.2⟩⟩
  obtain ⟨w, e, hw⟩ := fst
  unfold qLa_isNextFree
  simp only [zlet]
  rw [e5, e6, e, wcin U hU i (by omega)]
  unfold yFre
  cases hb : U.testBit i
  · rw [if_neg (show ¬ ¬ (if false = true then (1 : Int32) else 0) = 0 from fun z => z rfl)]
    rcases hw with ⟨rfl, q⟩ | ⟨rfl, q⟩
    · rw [if_pos (show ¬ (1 : Int32) = 0 by decide)]
      exact Or.inr ⟨rfl, fun z => z.2 q⟩
    · rw [if_neg (show ¬ ¬ (0 : Int32) = 0 from fun z => z rfl)]
      exact Or.inl ⟨rfl, rfl, q⟩
  · rw [if_pos (show ¬ (if true = true then (1 : Int32) else 0) = 0 by decide)]
    exact Or.inr ⟨rfl, fun z => by cases z.1⟩
theorem qLa_firstPlaceFor_ev (ok : wCok c) (hm : m < c.1) (nd : ∀ t, t < c.1 → gI h 187 t = nI (yNd c t)) {ix : Nat → Nat} (hx : ∀ s, s < m → gI h 191 s = nI (ix s)) : ∃ f, qLa_firstPlaceFor (nI m) h = some (nI f) ∧ ((f = 0 ∧ ∀ s, s < m → yNd c s ≠ yNd c m) ∨ ∃ s, s < m ∧ yNd c s = yNd c m ∧ (∀ t, s < t → t < m → yNd c t ≠ yNd c m) ∧ f = ix s + 1) := by
  have n7 := ok.1
  have key : ∃ r, zloop (qLa_firstPlaceFor_b4 (nI m) h) zfu (nI m - 1) = some r ∧ ((r = Sum.inl () ∧ ∀ s, s < m → yNd c s ≠ yNd c m) ∨ ∃ s, s < m ∧ yNd c s = yNd c m ∧ (∀ t, s < t → t < m → yNd c t ≠ yNd c m) ∧ r = Sum.inr (nI (ix s + 1))) := by
    refine zloop_me (Q := fun q x => ∃ s, q = s ∧ s ≤ m ∧ x = nI s - 1 ∧ ∀ t, s ≤ t → t < m → yNd c t ≠ yNd c m) ?_ zfu m _ ⟨m, rfl, Nat.le_refl _, rfl, fun t h1 h2 => by omega⟩ (zfu_lt (by omega))
    rintro q x ⟨s, rfl, sm, rfl, no⟩
    unfold qLa_firstPlaceFor_b4
    by_cases s0 : q = 0
    · subst s0
      rw [if_pos (show nI 0 - 1 < 0 by decide)]
      exact Or.inl ⟨_, rfl, Or.inl ⟨rfl, fun s hs => no s (by omega) hs⟩⟩
    · have b1 := yNd_7 c (q - 1)
      have b2 := yNd_7 c m
      rw [show nI q - 1 = nI (q - 1) from nI_sub (b := 1) (by omega), if_neg (nI_pos (by omega)), zix_nI (by omega) (by omega), Option.bind_some, zix_nI (by omega) (by omega), Option.bind_some, nd (q - 1) (by omega), nd m hm]
      by_cases e : yNd c (q - 1) = yNd c m
      · rw [if_neg (show ¬ ¬ nI (yNd c (q - 1)) = nI (yNd c m) from fun z => z (by rw [e])), hx (q - 1) (by omega), nI_1]
        exact Or.inl ⟨_, rfl, Or.inr ⟨q - 1, by omega, e, fun t h1 h2 => no t (by omega) h2, rfl⟩⟩
      · rw [if_pos (show ¬ nI (yNd c (q - 1)) = nI (yNd c m) from fun z => e ((nI_eq (by omega) (by omega)).mp z)), wsubm]
        refine Or.inr ⟨q - 1, _, rfl, by omega, q - 1, rfl, by omega, rfl, fun t h1 h2 => ?_⟩
        by_cases et : t = q - 1
        · subst et; exact e
        · exact no t (by omega) h2
  obtain ⟨r, e, ⟨rfl, q⟩ | ⟨s, q1, q2, q3, rfl⟩⟩ := key
  · refine ⟨0, ?_, Or.inl ⟨rfl, q⟩⟩
    unfold qLa_firstPlaceFor
    rw [e]; rfl
  · refine ⟨ix s + 1, ?_, Or.inr ⟨s, q1, q2, q3, rfl⟩⟩
    unfold qLa_firstPlaceFor
    rw [e]; rfl
end FREE
