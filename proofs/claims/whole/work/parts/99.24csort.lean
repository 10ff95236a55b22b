/-! LAYING: the class sorts the places -/
section CSORT
variable {h : zK} {o : Nat} {c : wC}
/-- v put into A at s -/
def yPut (A : Nat → Nat) (s v : Nat) (t : Nat) : Nat := if t < s then A t else if t = s then v else A (t - 1)
theorem yPut_cnt {A : Nat → Nat} {s v w : Nat} : ∀ i, s ≤ i → yCnt (yPut A s v) w (i + 1) = yCnt A w i + if v = w then 1 else 0 := by
  intro i
  induction i with
  | zero =>
    intro hs
    have : s = 0 := by omega
    subst this
    show 0 + (if yPut A 0 v 0 = w then 1 else 0) = 0 + _
    rw [show yPut A 0 v 0 = v from rfl]
  | succ i ih =>
    intro hs
    by_cases e : s = i + 1
    · subst e
      show yCnt (yPut A (i + 1) v) w (i + 1) + (if yPut A (i + 1) v (i + 1) = w then 1 else 0) = _
      rw [show yPut A (i + 1) v (i + 1) = v by unfold yPut; rw [if_neg (by omega), if_pos rfl], yCnt_cong (p := yPut A (i + 1) v) (q := A) (fun t ht => if_pos ht)]
    · have := ih (by omega)
      show yCnt (yPut A s v) w (i + 1) + (if yPut A s v (i + 1) = w then 1 else 0) = yCnt A w i + (if A i = w then 1 else 0) + _
      rw [this, show yPut A s v (i + 1) = A i by unfold yPut; rw [if_neg (by omega), if_neg (by omega)]; rfl]
      omega
/-- the sorted places in row 190 -/
def yP9 (h : zK) (A : Nat → Nat) (i : Nat) : Prop := ∀ t, t < i → gI h 190 t = nI (A t) ∧ A t ≤ 20
theorem qLa_sortIn_ev (hoc : o = 7 ∨ o = 22) (hc : cC h o c) (ok : wCok c) {i : Nat} (hi : i < c.1) {A : Nat → Nat} (P : yP9 h A i) (rise : ∀ s t, s ≤ t → t < i → A s ≤ A t) : ∃ x, zloop (qLa_sortPlaces_b12 o (nI i)) zfu (nI i, h) = some x ∧ ∃ s h', x = (nI s, h') ∧ s ≤ i ∧ (∀ t, t < s → A t ≤ c.2.2.2 5 i) ∧ (∀ t, s ≤ t → t < i → c.2.2.2 5 i ≤ A t) ∧ (∀ t, t < i + 1 → t ≠ s → gI h' 190 t = nI (yPut A s (c.2.2.2 5 i) t)) ∧ (∀ a j, a ≠ 190 → gI h' a j = gI h a j) := by
  have n7 := ok.1
  have p20 : c.2.2.2 5 i ≤ 20 := (ok.2.2.2 i hi).2.2.2.2.2.2.1
  refine zloop_me (Q := fun q x => ∃ s h', q = s ∧ x = (nI s, h') ∧ s ≤ i ∧ (∀ t, s ≤ t → t < i → c.2.2.2 5 i < A t) ∧ (∀ t, t < i + 1 → t ≠ s → gI h' 190 t = nI (yPut A s (c.2.2.2 5 i) t)) ∧ (∀ a j, a ≠ 190 → gI h' a j = gI h a j)) ?_ zfu i _ ⟨i, h, rfl, rfl, Nat.le_refl _, fun t h1 h2 => by omega, fun t h1 h2 => ?_, fun _ _ _ => rfl⟩ (zfu_lt (by omega))
  · rintro q x ⟨s, h', rfl, rfl, si, gt, ce, fr⟩
    unfold qLa_sortPlaces_b12
    dsimp only
    by_cases s0 : q = 0
    · subst s0
      rw [if_pos (show nI 0 ≤ 0 by decide)]
      exact Or.inl ⟨_, rfl, 0, h', rfl, by omega, fun t ht => absurd ht (Nat.not_lt_zero _), fun t h1 h2 => Nat.le_of_lt (gt t h1 h2), ce, fr⟩
    · have e1 : nI q - 1 = nI (q - 1) := nI_sub (b := 1) (by omega)
      have pv : gI h' (o + 6) i = nI (c.2.2.2 5 i) := by
        rw [fr _ _ (by omega)]
        exact hc.2.2.2 5 i (by omega) hi
      have av : gI h' 190 (q - 1) = nI (A (q - 1)) := by
        rw [ce (q - 1) (by omega) (by omega)]
        unfold yPut
        rw [if_pos (by omega)]
      have a20 := (P (q - 1) (by omega)).2
      rw [if_neg (show ¬ nI q ≤ 0 from nI_ge (a := 0) (by omega) (by omega)), e1, zix_nI (by omega) (by omega), Option.bind_some, zix_nI (by omega) (by omega), Option.bind_some, pv, av]
      by_cases hl : A (q - 1) ≤ c.2.2.2 5 i
      · rw [if_pos (nI_le hl (by omega))]
        refine Or.inl ⟨_, rfl, q, h', rfl, si, fun t ht => ?_, fun t h1 h2 => Nat.le_of_lt (gt t h1 h2), ce, fr⟩
        exact Nat.le_trans (rise t (q - 1) (by omega) (by omega)) hl
      · rw [if_neg (nI_ge (by omega) (by omega)), zix_nI (by omega) (by omega), Option.bind_some]
        simp only [zlet]
        rw [wsubm, e1]
        refine Or.inr ⟨q - 1, _, rfl, by omega, q - 1, _, rfl, rfl, by omega, fun t h1 h2 => ?_, fun t h1 h2 => ?_, fun a j ha => (gI_ne ha).trans (fr a j ha)⟩
        · by_cases e : t = q - 1
          · subst e; omega
          · exact gt t (by omega) h2
        · by_cases e : t = q
          · subst e
            rw [gI_eq]
            unfold yPut
            rw [if_neg (by omega), if_neg (by omega)]
          · rw [gI_nk e, ce t h1 e]
            unfold yPut
            by_cases tl : t < q - 1
            · rw [if_pos (by omega), if_pos tl]
            · rw [if_neg (by omega), if_neg e, if_neg tl, if_neg h2]
  · rw [(P t (by omega)).1]
    unfold yPut
    rw [if_pos (by omega)]
theorem qLa_sortPlaces_ev (hoc : o = 7 ∨ o = 22) (hc : cC h o c) (ok : wCok c) : ∃ h', qLa_sortPlaces o h = some h' ∧ ∃ A, yP9 h' A c.1 ∧ yPm A (c.2.2.2 5) c.1 ∧ (∀ s t, s ≤ t → t < c.1 → A s ≤ A t) ∧ (∀ a j, a ≠ 190 → gI h' a j = gI h a j) := by
  have n7 := ok.1
  have key : ∃ h', zloop (qLa_sortPlaces_b2 o) zfu (0, h) = some h' ∧ ∃ A, yP9 h' A c.1 ∧ yPm A (c.2.2.2 5) c.1 ∧ (∀ s t, s ≤ t → t < c.1 → A s ≤ A t) ∧ (∀ a j, a ≠ 190 → gI h' a j = gI h a j) := by
    refine zloop_me (Q := fun q x => ∃ i h' A, q + i = c.1 ∧ x = (nI i, h') ∧ yP9 h' A i ∧ yPm A (c.2.2.2 5) i ∧ (∀ s t, s ≤ t → t < i → A s ≤ A t) ∧ (∀ a j, a ≠ 190 → gI h' a j = gI h a j)) ?_ zfu c.1 _ ⟨0, h, fun _ => 0, by omega, rfl, fun t ht => absurd ht (Nat.not_lt_zero _), fun _ => rfl, fun s t _ ht => absurd ht (Nat.not_lt_zero _), fun _ _ _ => rfl⟩ (zfu_lt (by omega))
    rintro q x ⟨i, h', A, hq, rfl, P, pm, rise, fr⟩
    have hc' : cC h' o c := ⟨(fr _ _ (by omega)).trans hc.1, (fr _ _ (by omega)).trans hc.2.1, (fr _ _ (by omega)).trans hc.2.2.1, fun a s h1 h2 => (fr _ _ (by omega)).trans (hc.2.2.2 a s h1 h2)⟩
    unfold qLa_sortPlaces_b2
    dsimp only
    rw [hc'.2.2.1]
    by_cases hi : i < c.1
    · have p20 : c.2.2.2 5 i ≤ 20 := (ok.2.2.2 i hi).2.2.2.2.2.2.1
      obtain ⟨x, e1, s, h2, rfl, si, lo, up, ce, fr2⟩ := qLa_sortIn_ev hoc hc' ok hi P rise
      have pv : gI h2 (o + 6) i = nI (c.2.2.2 5 i) := by
        rw [fr2 _ _ (by omega)]
        exact hc'.2.2.2 5 i (by omega) hi
      rw [if_neg (nI_ge hi (by omega)), e1, Option.bind_some]
      dsimp only
      rw [zix_nI (by omega) (by omega), Option.bind_some, zix_nI (by omega) (by omega), Option.bind_some, pv, nI_1]
      simp only [zlet]
      refine Or.inr ⟨q - 1, _, rfl, by omega, i + 1, _, yPut A s (c.2.2.2 5 i), by omega, rfl, fun t ht => ⟨?_, ?_⟩, fun w => ?_, fun a b h1 h2 => ?_, fun a j ha => (gI_ne ha).trans ((fr2 a j ha).trans (fr a j ha))⟩
      · by_cases e : t = s
        · subst e
          rw [gI_eq]
          unfold yPut
          rw [if_neg (by omega), if_pos rfl]
        · rw [gI_nk e]; exact ce t ht e
      · unfold yPut
        split
        · exact (P t (by omega)).2
        · split
          · exact p20
          · exact (P (t - 1) (by omega)).2
      · rw [yPut_cnt i si, pm w]
        rfl
      · unfold yPut
        by_cases a1 : a < s
        · rw [if_pos a1]
          by_cases b1 : b < s
          · rw [if_pos b1]; exact rise a b h1 (by omega)
          · rw [if_neg b1]
            by_cases b2 : b = s
            · rw [if_pos b2]; exact lo a a1
            · rw [if_neg b2]; exact rise a (b - 1) (by omega) (by omega)
        · rw [if_neg a1, if_neg (show ¬ b < s by omega)]
          by_cases a2 : a = s
          · rw [if_pos a2]
            by_cases b2 : b = s
            · rw [if_pos b2]; exact Nat.le_refl _
            · rw [if_neg b2]; exact up (b - 1) (by omega) (by omega)
          · rw [if_neg a2, if_neg (show ¬ b = s by omega)]
            exact rise (a - 1) (b - 1) (by omega) (by omega)
    · have ei : i = c.1 := by omega
      subst ei
      rw [if_pos (nI_le (Nat.le_refl _) (by omega))]
      exact Or.inl ⟨_, rfl, A, P, pm, rise, fr⟩
  obtain ⟨h', e, q⟩ := key
  refine ⟨h', ?_, q⟩
  unfold qLa_sortPlaces
  rw [e]; rfl
end CSORT
