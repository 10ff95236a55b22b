/-! LAYING: the reference's next arrangement -/
section NEXT
variable {h : zK} {k : Nat} {c : wC} {pl : Nat → Nat}
theorem qM_reverse_ev (ok : wCok c) (M : yM h k c pl) {i : Nat} (hi : i + 1 < c.1) : ∃ h', zloop qM_nextPlaces_b84 zfu (nI (i + 1), nI (c.1 - 1), h) = some h' ∧ ∃ r, yM h' k c r ∧ yPm r pl c.1 ∧ (∀ t, t ≤ i → r t = pl t) ∧ ∀ t, i < t → t < c.1 → r t = pl (i + c.1 - t) := by
  have n7 := ok.1
  refine zloop_me (Q := fun q s => ∃ m h' r, q + m = c.1 ∧ i + 1 + m ≤ c.1 - m ∧ s = (nI (i + 1 + m), nI (c.1 - 1 - m), h') ∧ yM h' k c r ∧ yPm r pl c.1 ∧ ∀ t, t < c.1 → r t = if i < t ∧ (t < i + 1 + m ∨ c.1 - 1 - m < t) then pl (i + c.1 - t) else pl t) ?_ zfu c.1 _ ⟨0, h, pl, by omega, by omega, rfl, M, fun _ => rfl, fun t ht => by rw [if_neg (by omega)]⟩ (zfu_lt (by omega))
  rintro q s ⟨m, h', r, hq, hm, rfl, M', pm, rr⟩
  unfold qM_nextPlaces_b84
  dsimp only
  by_cases hl : i + 1 + m < c.1 - 1 - m
  · obtain ⟨h2, e1, e2, -⟩ := qM_swapPlaces_ev ok M' (a := i + 1 + m) (b := c.1 - 1 - m) (by omega) (by omega)
    rw [if_neg (nI_ge hl (by omega)), e1, Option.bind_some, nI_1, wsubm, show nI (c.1 - 1 - m) - 1 = nI (c.1 - 1 - m - 1) from nI_sub (b := 1) (by omega)]
    refine Or.inr ⟨q - 1, _, rfl, by omega, m + 1, h2, ySw r (i + 1 + m) (c.1 - 1 - m), by omega, by omega, by rw [show i + 1 + (m + 1) = i + 1 + m + 1 by omega, show c.1 - 1 - (m + 1) = c.1 - 1 - m - 1 by omega], e2, yPm_t (yPm_sw (by omega) (by omega)) pm, fun t ht => ?_⟩
    by_cases t1 : t = i + 1 + m
    · rw [if_pos (by omega), t1, ySw_a, rr _ (by omega), if_neg (by omega)]
      congr 1
      omega
    · by_cases t2 : t = c.1 - 1 - m
      · rw [if_pos (by omega), t2, ySw_b, rr _ (by omega), if_neg (by omega)]
        congr 1
        omega
      · rw [ySw_o t1 t2, rr t ht]
        by_cases e : i < t ∧ (t < i + 1 + m ∨ c.1 - 1 - m < t)
        · rw [if_pos e, if_pos (by omega)]
        · rw [if_neg e, if_neg (by omega)]
  · rw [if_pos (nI_le (by omega) (by omega))]
    refine Or.inl ⟨_, rfl, r, M', pm, fun t ht => ?_, fun t h1 h2 => ?_⟩
    · rw [rr t (by omega), if_neg (by omega)]
    · rw [rr t h2]
      by_cases e : i < t ∧ (t < i + 1 + m ∨ c.1 - 1 - m < t)
      · rw [if_pos e]
      · rw [if_neg e]
        congr 1
        omega
theorem qM_nextPlaces_ev (ok : wCok c) (M : yM h k c pl) : ∃ w h', qM_nextPlaces h = some (w, h') ∧ ((w = 0 ∧ yM h' k c pl ∧ ∀ s t, s ≤ t → t < c.1 → pl t ≤ pl s) ∨ (w = 1 ∧ ∃ r, yM h' k c r ∧ yPm r pl c.1 ∧ yCo pl c.1 < yCo r c.1 ∧ ∀ p, yPm p pl c.1 → (∀ s, s < c.1 → p s ≤ 20) → yCo pl c.1 < yCo p c.1 → yCo r c.1 ≤ yCo p c.1)) := by
  have n7 := ok.1
  have l20 : ∀ s, s < c.1 → pl s ≤ 20 := fun s hs => (M.2.2.2 s hs).2.2
  unfold qM_nextPlaces
  rw [M.1.2.2.1]
  obtain ⟨t, e1, ⟨n0, fa⟩ | ⟨i, rfl, hi, hl, fa⟩⟩ := qM_nextI_ev ok M
  · rw [e1, Option.bind_some, if_neg n0]
    exact ⟨0, h, rfl, Or.inl ⟨rfl, M, fa⟩⟩
  · obtain ⟨t2, e2, j, rfl, ij, hj, qj, la⟩ := qM_nextJ_ev ok M hi hl
    obtain ⟨h2, e3, M2, -⟩ := qM_swapPlaces_ev ok M (a := i) (b := j) (by omega) hj
    obtain ⟨h3, e4, r, M3, pm, lo, up⟩ := qM_reverse_ev ok M2 hi
    rw [e1, Option.bind_some, if_pos (show (0 : Int32) ≤ nI i from nI_le (a := 0) (by omega) (by omega)), e2, Option.bind_some, e3, Option.bind_some, M2.1.2.2.1, nI_1, show nI c.1 - 1 = nI (c.1 - 1) from nI_sub (b := 1) (by omega), e4, Option.bind_some]
    have r20 : ∀ s, s < c.1 → r s ≤ 20 := fun s hs => (M3.2.2.2 s hs).2.2
    have pm' : yPm r pl c.1 := yPm_t pm (yPm_sw (by omega) hj)
    have ag : ∀ s, s < i → r s = pl s := fun s hs => by rw [lo s (by omega), ySw_o (by omega) (by omega)]
    have ri : r i = pl j := by rw [lo i (by omega), ySw_a]
    have fa1 : ∀ s t, i < s → s ≤ t → t < c.1 → ySw pl i j t ≤ ySw pl i j s := fun s t h1 h2 h3 => by
      by_cases es : s = j
      · subst es
        rw [ySw_b]
        by_cases et : t = s
        · subst et; rw [ySw_b]; exact Nat.le_refl _
        · rw [ySw_o (by omega) et]; exact la t (by omega) h3
      · rw [ySw_o (t := s) (by omega) es]
        by_cases et : t = j
        · subst et
          rw [ySw_b]
          have := fa s t h1 h2 h3
          omega
        · rw [ySw_o (by omega) et]; exact fa s t h1 h2 h3
    have rise : ∀ s t, i < s → s ≤ t → t < c.1 → r s ≤ r t := fun s t h1 h2 h3 => by
      rw [up s h1 (by omega), up t (by omega) h3]
      exact fa1 _ _ (by omega) (by omega) (by omega)
    exact ⟨1, h3, rfl, Or.inr ⟨rfl, r, M3, pm', ysucc_lt l20 (by omega) qj ag ri, fun p pp p20 lt => ysucc p20 l20 r20 pp pm' ij hj fa qj la ag ri rise lt⟩⟩
/-! all arrangements -/
/-- b is the least among the arrangements of K, and row 230 the first with it -/
def yBf (c : wC) (b : Nat) (h : zK) (K : (Nat → Nat) → Prop) : Prop := (∀ p, yPm p (c.2.2.2 5) c.1 → (∀ s, s < c.1 → p s ≤ 20) → K p → b ≤ yGs c p) ∧ ((b = 1000000 ∧ ∀ p, yPm p (c.2.2.2 5) c.1 → (∀ s, s < c.1 → p s ≤ 20) → ¬ K p) ∨ ∃ r, b ≤ 7 ∧ yPm r (c.2.2.2 5) c.1 ∧ (∀ s, s < c.1 → r s ≤ 20) ∧ K r ∧ yGs c r = b ∧ (∀ s, s < c.1 → gI h 230 s = nI (r s)) ∧ ∀ p, yPm p (c.2.2.2 5) c.1 → (∀ s, s < c.1 → p s ≤ 20) → yCo p c.1 < yCo r c.1 → b < yGs c p)
theorem yGs_7 (ok : wCok c) (p : Nat → Nat) : yGs c p ≤ 7 := Nat.le_trans (yGr_le _ _ ok.1) ok.1
theorem qM_copyBest_ev (ok : wCok c) (M : yM h k c pl) {b T : Nat} (hb : b ≤ 1000000) (hT : T ≤ 7) (x2 : Int32) : ∃ h', zloop (qM_laying_b54 x2 (nI b) (nI T)) zfu (0, h) = some h' ∧ yM h' k c pl ∧ (b ≤ T → ∀ s, gI h' 230 s = gI h 230 s) ∧ (T < b → ∀ s, s < c.1 → gI h' 230 s = nI (pl s)) := by
  have n7 := ok.1
  have fr : ∀ h' : zK, h'.2.2 = h.2.2 → h'.1 = h.1 → (∀ a j, a ≠ 230 → gI h' a j = gI h a j) → yM h' k c pl := fun h' _ _ q => by
    obtain ⟨m1, m2, m3, m4⟩ := M
    refine ⟨⟨m1.1, (q 215 22 (by decide)).trans m1.2.1, (q 215 23 (by decide)).trans m1.2.2.1, ?_⟩, ⟨(q 215 24 (by decide)).trans m2.1, (q 215 25 (by decide)).trans m2.2⟩, (q 215 26 (by decide)).trans m3, fun t ht => ⟨(q 228 t (by decide)).trans (m4 t ht).1, (q 229 t (by decide)).trans (m4 t ht).2.1, (m4 t ht).2.2⟩⟩
    obtain ⟨a1, a2, a3, a4⟩ := m1.2.2.2
    exact ⟨(q _ _ (by decide)).trans a1, (q _ _ (by decide)).trans a2, (q _ _ (by decide)).trans a3, fun i s hi hs => (q _ _ (by decide)).trans (a4 i s hi hs)⟩
  by_cases hl : b ≤ T
  · refine ⟨h, zloop_e (n := 19999) ?_, M, fun _ _ => rfl, fun z => by omega⟩
    unfold qM_laying_b54
    dsimp only
    rw [if_pos (nI_le hl (by omega))]
    split <;> rfl
  · have key : ∃ h', zloop (qM_laying_b54 x2 (nI b) (nI T)) zfu (0, h) = some h' ∧ h'.2.2 = h.2.2 ∧ h'.1 = h.1 ∧ (∀ a j, a ≠ 230 → gI h' a j = gI h a j) ∧ ∀ s, s < c.1 → gI h' 230 s = nI (pl s) := by
      refine zloop_me (Q := fun q s => ∃ i h', q + i = c.1 ∧ s = (nI i, h') ∧ h'.2.2 = h.2.2 ∧ h'.1 = h.1 ∧ (∀ a j, a ≠ 230 → gI h' a j = gI h a j) ∧ ∀ s, s < i → gI h' 230 s = nI (pl s)) ?_ zfu c.1 _ ⟨0, h, by omega, rfl, rfl, rfl, fun _ _ _ => rfl, fun s hs => absurd hs (Nat.not_lt_zero _)⟩ (zfu_lt (by omega))
      rintro q s ⟨i, h', hq, rfl, f1, f2, f3, f4⟩
      unfold qM_laying_b54
      dsimp only
      rw [f3 215 23 (by decide), M.1.2.2.1]
      by_cases hi : i < c.1
      · rw [if_neg (nI_ge hi (by omega)), if_neg (nI_ge (by omega) (by omega)), zix_nI (by omega) (by omega), Option.bind_some, nI_1]
        simp only [zlet]
        refine Or.inr ⟨q - 1, _, rfl, by omega, i + 1, _, by omega, rfl, f1, f2, fun a j ha => (gI_ne ha).trans (f3 a j ha), fun s hs => ?_⟩
        by_cases e : s = i
        · subst e
          rw [gI_eq, f3 229 s (by decide)]
          exact (M.2.2.2 s hi).2.1
        · rw [gI_nk e]; exact f4 s (by omega)
      · have ei : i = c.1 := by omega
        subst ei
        rw [if_pos (nI_le (Nat.le_refl _) (by omega))]
        exact Or.inl ⟨_, rfl, f1, f2, f3, f4⟩
    obtain ⟨h', e, f1, f2, f3, f4⟩ := key
    exact ⟨h', e, fr h' f1 f2 f3, fun z => absurd z hl, fun _ => f4⟩
end NEXT
