/-! LAYING: the reference sorts -/
section SORT
variable {h : zK} {k : Nat} {c : wC} {pl : Nat → Nat}
theorem ySw_a (pl : Nat → Nat) (a b : Nat) : ySw pl a b a = pl b := if_pos rfl
theorem ySw_b (pl : Nat → Nat) (a b : Nat) : ySw pl a b b = pl a := by
  unfold ySw
  by_cases e : b = a
  · rw [if_pos e, e]
  · rw [if_neg e, if_pos rfl]
theorem ySw_o {a b t : Nat} (h1 : t ≠ a) (h2 : t ≠ b) : ySw pl a b t = pl t := by
  unfold ySw
  rw [if_neg h1, if_neg h2]
theorem qM_sortIn_ev (ok : wCok c) (M : yM h k c pl) {i : Nat} (hi : i < c.1) (pre : ∀ s t, s < i → s ≤ t → t < c.1 → pl s ≤ pl t) : ∃ h' pl', zloop (qM_sortPlaces_b14 (nI i)) zfu (nI i + 1, h) = some h' ∧ yM h' k c pl' ∧ yPm pl' pl c.1 ∧ ∀ s t, s < i + 1 → s ≤ t → t < c.1 → pl' s ≤ pl' t := by
  have n7 := ok.1
  have key : ∃ h', zloop (qM_sortPlaces_b14 (nI i)) zfu (nI i + 1, h) = some h' ∧ ∃ pl', yM h' k c pl' ∧ yPm pl' pl c.1 ∧ ∀ s t, s < i + 1 → s ≤ t → t < c.1 → pl' s ≤ pl' t := by
    refine zloop_me (Q := fun q s => ∃ j h' pl', q + j = c.1 ∧ i < j ∧ s = (nI j, h') ∧ yM h' k c pl' ∧ yPm pl' pl c.1 ∧ (∀ s t, s < i → s ≤ t → t < c.1 → pl' s ≤ pl' t) ∧ ∀ t, i < t → t < j → pl' i ≤ pl' t) ?_ zfu (c.1 - (i + 1)) _ ⟨i + 1, h, pl, by omega, by omega, by rw [nI_1], M, fun _ => rfl, pre, fun t h1 h2 => by omega⟩ (zfu_lt (by omega))
    rintro q s ⟨j, h', pl', hq, hij, rfl, M', pm, pr, mi⟩
    unfold qM_sortPlaces_b14
    dsimp only
    rw [M'.1.2.2.1]
    by_cases hj : j < c.1
    · have vi := M'.2.2.2 i hi
      have vj := M'.2.2.2 j hj
      rw [if_neg (nI_ge hj (by omega)), zix_nI (by omega) (by omega), Option.bind_some, zix_nI (by omega) (by omega), Option.bind_some, vi.2.1, vj.2.1, nI_1]
      by_cases hl : pl' i ≤ pl' j
      · rw [if_pos (nI_le hl (by omega)), Option.bind_some]
        refine Or.inr ⟨q - 1, _, rfl, by omega, j + 1, h', pl', by omega, by omega, rfl, M', pm, pr, fun t h1 h2 => ?_⟩
        by_cases e : t = j
        · subst e; exact hl
        · exact mi t h1 (by omega)
      · obtain ⟨h2, e1, e2, -⟩ := qM_swapPlaces_ev ok M' hi hj
        rw [if_neg (nI_ge (by omega) (by omega)), e1, Option.bind_some, Option.bind_some]
        refine Or.inr ⟨q - 1, _, rfl, by omega, j + 1, h2, ySw pl' i j, by omega, by omega, rfl, e2, yPm_t (yPm_sw hi hj) pm, fun s t h1 h2 h3 => ?_, fun t h1 h2 => ?_⟩
        · rw [ySw_o (t := s) (by omega) (by omega)]
          by_cases ti : t = i
          · subst ti; rw [ySw_a]; exact pr s j h1 (by omega) hj
          · by_cases tj : t = j
            · subst tj; rw [ySw_b]; exact pr s i h1 (by omega) hi
            · rw [ySw_o ti tj]; exact pr s t h1 h2 h3
        · rw [ySw_a]
          by_cases tj : t = j
          · subst tj; rw [ySw_b]; omega
          · rw [ySw_o (by omega) tj]
            have := mi t h1 (by omega)
            omega
    · rw [if_pos (nI_le (by omega) (by omega))]
      refine Or.inl ⟨_, rfl, pl', M', pm, fun s t h1 h2 h3 => ?_⟩
      by_cases e : s = i
      · subst e
        by_cases e2 : t = s
        · subst e2; exact Nat.le_refl _
        · exact mi t (by omega) (by omega)
      · exact pr s t (by omega) h2 h3
  obtain ⟨h', e, pl', q⟩ := key
  exact ⟨h', pl', e, q⟩
theorem qM_sortPlaces_ev (ok : wCok c) (M : yM h k c pl) : ∃ h' pl', qM_sortPlaces h = some h' ∧ yM h' k c pl' ∧ yPm pl' pl c.1 ∧ ∀ s t, s ≤ t → t < c.1 → pl' s ≤ pl' t := by
  have n7 := ok.1
  have key : ∃ h', zloop qM_sortPlaces_b2 zfu (0, h) = some h' ∧ ∃ pl', yM h' k c pl' ∧ yPm pl' pl c.1 ∧ ∀ s t, s ≤ t → t < c.1 → pl' s ≤ pl' t := by
    refine zloop_me (Q := fun q s => ∃ i h' pl', q + i = c.1 ∧ s = (nI i, h') ∧ yM h' k c pl' ∧ yPm pl' pl c.1 ∧ ∀ s t, s < i → s ≤ t → t < c.1 → pl' s ≤ pl' t) ?_ zfu c.1 _ ⟨0, h, pl, by omega, rfl, M, fun _ => rfl, fun s t h1 => absurd h1 (Nat.not_lt_zero _)⟩ (zfu_lt (by omega))
    rintro q s ⟨i, h', pl', hq, rfl, M', pm, pr⟩
    unfold qM_sortPlaces_b2
    dsimp only
    rw [M'.1.2.2.1]
    by_cases hi : i < c.1
    · obtain ⟨h2, pl2, e1, e2, e3, e4⟩ := qM_sortIn_ev ok M' hi pr
      rw [if_neg (nI_ge hi (by omega)), e1, Option.bind_some, nI_1]
      exact Or.inr ⟨q - 1, _, rfl, by omega, i + 1, h2, pl2, by omega, rfl, e2, yPm_t e3 pm, e4⟩
    · rw [if_pos (nI_le (by omega) (by omega))]
      exact Or.inl ⟨_, rfl, pl', M', pm, fun s t h1 h2 => pr s t (by omega) h1 h2⟩
  obtain ⟨h', e, pl', q⟩ := key
  refine ⟨h', pl', ?_, q⟩
  unfold qM_sortPlaces
  rw [e]; rfl
/-! the next arrangement -/
theorem qM_nextI_ev (ok : wCok c) (M : yM h k c pl) : ∃ t, zloop (qM_nextPlaces_b7 h) zfu (nI c.1 - 2) = some t ∧ ((¬ 0 ≤ t ∧ ∀ s t, s ≤ t → t < c.1 → pl t ≤ pl s) ∨ ∃ i, t = nI i ∧ i + 1 < c.1 ∧ pl i < pl (i + 1) ∧ ∀ s t, i < s → s ≤ t → t < c.1 → pl t ≤ pl s) := by
  have n7 := ok.1
  by_cases hn : c.1 < 2
  · have neg : nI c.1 - 2 < 0 := by
      rcases (by omega : c.1 = 0 ∨ c.1 = 1) with e | e <;> rw [e] <;> decide
    refine ⟨nI c.1 - 2, zloop_e (n := 19999) ?_, Or.inl ⟨Int32.not_le.mpr neg, fun s t h1 h2 => ?_⟩⟩
    · unfold qM_nextPlaces_b7
      rw [if_pos neg]
    · have : s = t := by omega
      subst this
      exact Nat.le_refl _
  · have e2 : nI c.1 - 2 = nI (c.1 - 2) := nI_sub (b := 2) (by omega)
    rw [e2]
    refine zloop_me (Q := fun q s => (∃ i, q = i + 1 ∧ s = nI i ∧ i + 1 < c.1 ∧ ∀ s t, i < s → s ≤ t → t < c.1 → pl t ≤ pl s) ∨ (s = -1 ∧ ∀ s t, s ≤ t → t < c.1 → pl t ≤ pl s)) ?_ zfu (c.1 - 2 + 1) _ (Or.inl ⟨c.1 - 2, rfl, rfl, by omega, fun s t h1 h2 h3 => by
      have : s = t := by omega
      subst this
      exact Nat.le_refl _⟩) (zfu_lt (by omega))
    rintro q s (⟨i, hq, rfl, hi, fa⟩ | ⟨rfl, fa⟩)
    · unfold qM_nextPlaces_b7
      rw [if_neg (nI_pos (by omega)), zix_nI (by omega) (by omega), Option.bind_some, nI_1, zix_nI (by omega) (by omega), Option.bind_some, (M.2.2.2 i (by omega)).2.1, (M.2.2.2 (i + 1) hi).2.1]
      have b1 := (M.2.2.2 i (by omega)).2.2
      have b2 := (M.2.2.2 (i + 1) hi).2.2
      by_cases hl : pl i < pl (i + 1)
      · rw [if_pos (nI_lt hl (by omega))]
        exact Or.inl ⟨_, rfl, Or.inr ⟨i, rfl, hi, hl, fa⟩⟩
      · rw [if_neg (nI_nlt (by omega) (by omega))]
        have fa' : ∀ s t, i ≤ s → s ≤ t → t < c.1 → pl t ≤ pl s := fun s t h1 h2 h3 => by
          by_cases e : s = i
          · subst e
            by_cases e2 : t = s
            · subst e2; exact Nat.le_refl _
            · have := fa (s + 1) t (by omega) (by omega) h3
              omega
          · exact fa s t (by omega) h2 h3
        by_cases i0 : i = 0
        · subst i0
          refine Or.inr ⟨0, _, rfl, by omega, Or.inr ⟨by decide, fun s t h1 h2 => fa' s t (by omega) h1 h2⟩⟩
        · refine Or.inr ⟨i, _, rfl, by omega, Or.inl ⟨i - 1, by omega, ?_, by omega, fun s t h1 h2 h3 => fa' s t (by omega) h2 h3⟩⟩
          rw [wsubm, ← show i - 1 + 1 = i by omega, nI_pred]
          congr 1
    · unfold qM_nextPlaces_b7
      rw [if_pos (show (-1 : Int32) < 0 by decide)]
      exact Or.inl ⟨_, rfl, Or.inl ⟨by decide, fa⟩⟩
theorem qM_nextJ_ev (ok : wCok c) (M : yM h k c pl) {i : Nat} (hi : i + 1 < c.1) (hl : pl i < pl (i + 1)) : ∃ t, zloop (qM_nextPlaces_b47 (nI i) h) zfu (nI c.1 - 1) = some t ∧ ∃ j, t = nI j ∧ i < j ∧ j < c.1 ∧ pl i < pl j ∧ ∀ t, j < t → t < c.1 → pl t ≤ pl i := by
  have n7 := ok.1
  have e2 : nI c.1 - 1 = nI (c.1 - 1) := nI_sub (b := 1) (by omega)
  rw [e2]
  refine zloop_me (Q := fun q s => ∃ j, q = j ∧ s = nI j ∧ i < j ∧ j < c.1 ∧ ∀ t, j < t → t < c.1 → pl t ≤ pl i) ?_ zfu (c.1 - 1) _ ⟨c.1 - 1, rfl, rfl, by omega, by omega, fun t h1 h2 => by omega⟩ (zfu_lt (by omega))
  rintro q s ⟨j, rfl, rfl, ij, hj, la⟩
  unfold qM_nextPlaces_b47
  rw [zix_nI (by omega) (by omega), Option.bind_some, zix_nI (by omega) (by omega), Option.bind_some, (M.2.2.2 i (by omega)).2.1, (M.2.2.2 q hj).2.1]
  have b1 := (M.2.2.2 i (by omega)).2.2
  have b2 := (M.2.2.2 q hj).2.2
  by_cases hh : pl i < pl q
  · rw [if_pos (nI_lt hh (by omega))]
    exact Or.inl ⟨_, rfl, q, rfl, ij, hj, hh, la⟩
  · rw [if_neg (nI_nlt (by omega) (by omega))]
    have ne : q ≠ i + 1 := fun e => by subst e; omega
    refine Or.inr ⟨q - 1, _, rfl, by omega, q - 1, rfl, ?_, by omega, by omega, fun t h1 h2 => ?_⟩
    · rw [wsubm]
      exact nI_sub (b := 1) (by omega)
    · by_cases e : t = q
      · subst e; omega
      · exact la t (by omega) h2
end SORT
