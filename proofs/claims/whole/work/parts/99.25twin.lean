/-! LAYING: places near the same ones -/
section TWIN
variable {h : zK} {o : Nat} {c : wC} {A : Nat → Nat} {T : Nat}
/-- place i is near the same places as the one before it -/
def yTw (c : wC) (A : Nat → Nat) (i : Nat) : Prop := ∀ k, k < c.1 → (yAw (A k) (A i) ≤ c.2.2.1 ↔ yAw (A k) (A (i - 1)) ≤ c.2.2.1)
/-- T: which places are twins of the one before -/
def yTwk (c : wC) (A : Nat → Nat) (T : Nat) : Prop := T < 128 ∧ ∀ i, (T.testBit i = true ↔ (0 < i ∧ i < c.1 ∧ yTw c A i))
theorem yTwk_eq (K : yTwk c A T) {i : Nat} (h0 : 0 < i) (hi : i < c.1) (e : A (i - 1) = A i) : T.testBit i = true := (K.2 i).mpr ⟨h0, hi, fun k _ => by rw [e]⟩
theorem yTwk_0 (K : yTwk c A T) : T.testBit 0 = false := by
  cases e : T.testBit 0
  · rfl
  · exact absurd ((K.2 0).mp e).1 (Nat.lt_irrefl _)
theorem yGs_ne (ok : wCok c) {p q : Nat → Nat} (e : ∀ j u, j < c.1 → u < c.1 → (yAw (p j) (p u) ≤ c.2.2.1 ↔ yAw (q j) (q u) ≤ c.2.2.1)) : yGs c p = yGs c q := by
  have en : ∀ u, u < c.1 → yNe c.2.2.1 p c.1 u = yNe c.2.2.1 q c.1 u := fun u hu => by
    apply Nat.eq_of_testBit_eq
    intro j
    rw [yNe_t, yNe_t]
    by_cases hj : j < c.1
    · rw [decide_eq_true hj, Bool.true_and, Bool.true_and]
      unfold yNr
      rw [decide_eq_decide.mpr (e j u hj hu)]
    · rw [decide_eq_false hj, Bool.false_and, Bool.false_and]
  unfold yGs yGr
  refine yMx_cong _ fun s hs => ?_
  rw [yCl_cong (nd := yNd c) (ne := yNe c.2.2.1 p c.1) (nd' := yNd c) (ne' := yNe c.2.2.1 q c.1) ok.1 hs (fun t ht => ⟨rfl, en t ht⟩)]
theorem yPm_in {p q : Nat → Nat} {n s : Nat} (h : yPm p q n) (hs : s < n) : ∃ k, k < n ∧ q k = p s := by
  have a : yCnt p (p s) (s + 1) = yCnt p (p s) s + 1 := by
    show yCnt p (p s) s + (if p s = p s then 1 else 0) = _
    rw [if_pos rfl]
  have b : yCnt p (p s) (s + 1) ≤ yCnt p (p s) n := yCnt_mono (by omega)
  have e := h (p s)
  obtain ⟨k, -, k1, k2⟩ := yCnt_ex (p := q) (v := p s) (d := 0) (n := n) (by show 0 < _; omega)
  exact ⟨k, k1, k2⟩
/-- twins change places: no number changes -/
theorem yGs_tw (ok : wCok c) {p : Nat → Nat} (pm : yPm p A c.1) {i s t : Nat} (hs : s < c.1) (ht : t < c.1) (tw : yTw c A i) (es : p s = A i) (et : p t = A (i - 1)) : yGs c (ySw p s t) = yGs c p := by
  have lk : ∀ j, j < c.1 → ∀ k, k < c.1 → (yAw (A k) (ySw p s t j) ≤ c.2.2.1 ↔ yAw (A k) (p j) ≤ c.2.2.1) := fun j hj k hk => by
    by_cases e1 : j = s
    · rw [e1, ySw_a, et, es]; exact (tw k hk).symm
    · by_cases e2 : j = t
      · rw [e2, ySw_b, et, es]; exact tw k hk
      · rw [ySw_o e1 e2]
  have pm' : yPm (ySw p s t) A c.1 := yPm_t (yPm_sw hs ht) pm
  refine yGs_ne ok fun j u hj hu => ?_
  obtain ⟨k, k1, k2⟩ := yPm_in pm' hj
  obtain ⟨l, l1, l2⟩ := yPm_in pm hu
  have a := lk u hu k k1
  have b := lk j hj l l1
  rw [k2] at a
  rw [l2] at b
  rw [a, yAw_c (ySw p s t j) (p u), b, yAw_c (p u) (p j)]
/-- of two neighbouring twins that differ the lesser is taken first -/
def yTwo (A : Nat → Nat) (T : Nat) (p : Nat → Nat) (m : Nat) : Prop := ∀ i, T.testBit i = true → A (i - 1) < A i → ∀ s t, s < t → t < m → ¬ (p s = A i ∧ p t = A (i - 1))
def yOr2 (c : wC) (A : Nat → Nat) (T : Nat) (p : Nat → Nat) : Prop := yOrd c p ∧ yTwo A T p c.1
theorem yOr2_no {p : Nat → Nat} (h : ¬ yOr2 c A T p) : ∃ a b, a < b ∧ b < c.1 ∧ p b < p a ∧ (yNd c a = yNd c b ∨ ∃ i, T.testBit i = true ∧ p a = A i ∧ p b = A (i - 1)) := by
  apply Classical.byContradiction
  intro hh
  exact h ⟨fun a b hab hb hn => Nat.le_of_not_lt fun hl => hh ⟨a, b, hab, hb, hl, Or.inl hn⟩, fun i i1 lt s t st tn e => hh ⟨s, t, st, tn, by rw [e.1, e.2]; exact lt, Or.inr ⟨i, i1, e.1, e.2⟩⟩⟩
theorem yOr2_ex (ok : wCok c) (K : yTwk c A T) : ∀ (m : Nat) (p : Nat → Nat), yCo p c.1 ≤ m → yPm p A c.1 → (∀ s, s < c.1 → p s ≤ 20) → ∃ q, yOr2 c A T q ∧ yPm q p c.1 ∧ (∀ s, s < c.1 → q s ≤ 20) ∧ yGs c q = yGs c p ∧ yCo q c.1 ≤ yCo p c.1 := by
  intro m
  induction m with
  | zero =>
    intro p hm pm p20
    by_cases h : yOr2 c A T p
    · exact ⟨p, h, fun _ => rfl, p20, rfl, Nat.le_refl _⟩
    · exfalso
      obtain ⟨a, b, hab, hb, hl, -⟩ := yOr2_no h
      have := yCo_lt (p := ySw p a b) (q := p) (d := a) (n := c.1) (ySw_le (by omega) hb p20) (by omega) (fun s hs => ySw_o (by omega) (by omega)) (by rw [ySw_a]; exact hl)
      omega
  | succ m ih =>
    intro p hm pm p20
    by_cases h : yOr2 c A T p
    · exact ⟨p, h, fun _ => rfl, p20, rfl, Nat.le_refl _⟩
    · obtain ⟨a, b, hab, hb, hl, hw⟩ := yOr2_no h
      have s20 := ySw_le (pl := p) (a := a) (b := b) (by omega) hb p20
      have lt := yCo_lt (p := ySw p a b) (q := p) (d := a) (n := c.1) s20 (by omega) (fun s hs => ySw_o (by omega) (by omega)) (by rw [ySw_a]; exact hl)
      have sp : yPm (ySw p a b) p c.1 := yPm_sw (by omega) hb
      obtain ⟨q, q1, q2, q3, q4, q5⟩ := ih (ySw p a b) (by omega) (yPm_t sp pm) s20
      have eg : yGs c (ySw p a b) = yGs c p := by
        rcases hw with hn | ⟨i, i1, i2, i3⟩
        · exact yGs_sw ok (by omega) hb hn
        · exact yGs_tw ok pm (by omega) hb ((K.2 i).mp i1).2.2 i2 i3
      exact ⟨q, q1, yPm_t q2 sp, q3, q4.trans eg, by omega⟩
/-- the answer among the ordered arrangements is the answer -/
theorem yBst_of2 (ok : wCok c) (K : yTwk c A T) (pm : yPm A (c.2.2.2 5) c.1) {b : Nat} {row : Nat → Nat} (h1 : yPm row (c.2.2.2 5) c.1) (h2 : ∀ s, s < c.1 → row s ≤ 20) (h3 : yGs c row = b) (h4 : ∀ p, yOr2 c A T p → yPm p (c.2.2.2 5) c.1 → (∀ s, s < c.1 → p s ≤ 20) → b ≤ yGs c p ∧ (yCo p c.1 < yCo row c.1 → b < yGs c p)) : yBst c b row := by
  refine ⟨h1, h2, h3, fun p p1 p2 => ?_⟩
  obtain ⟨q, q1, q2, q3, q4, q5⟩ := yOr2_ex ok K (yCo p c.1) p (Nat.le_refl _) (yPm_t p1 (yPm_s pm)) p2
  obtain ⟨a, d⟩ := h4 q q1 (yPm_t q2 p1) q3
  rw [q4] at a d
  exact ⟨a, fun z => d (by omega)⟩
/-! the class finds the twins -/
theorem yle01 {a r : Nat} (hr : r ≤ 9) (ha : a < 100) : (if nI r < nI a then (0 : Int32) else 1) = if a ≤ r then 1 else 0 := by
  by_cases q : a ≤ r
  · rw [if_pos q, if_neg (show ¬ nI r < nI a from nI_nlt q (by omega))]
  · rw [if_neg q, if_pos (show nI r < nI a from nI_lt (by omega) (by omega))]
theorem yiff01 (a b r : Nat) : (if ¬ (if a ≤ r then (1 : Int32) else 0) = (if b ≤ r then 1 else 0) then (0 : Int32) else 1) = if (a ≤ r ↔ b ≤ r) then 1 else 0 := by
  by_cases x : a ≤ r <;> by_cases y : b ≤ r <;> simp [x, y]
theorem qLa_twin_ev (hc : cC h o c) (ok : wCok c) (P : yP9 h A c.1) {i : Nat} (i0 : 0 < i) (hi : i < c.1) : ∃ v, zloop (qLa_findTwins_b20 o (nI i) h) zfu (1, 0) = some v ∧ ((v = 1 ∧ yTw c A i) ∨ (v = 0 ∧ ¬ yTw c A i)) := by
  have n7 := ok.1
  have r9 := ok.2.2.1
  refine zloop_fx (S := fun k x => ∃ v : Int32, x = (v, nI k) ∧ ((v = 1 ∧ ∀ l, l < k → (yAw (A l) (A i) ≤ c.2.2.1 ↔ yAw (A l) (A (i - 1)) ≤ c.2.2.1)) ∨ (v = 0 ∧ ¬ yTw c A i))) c.1 ?_ ?_ (zfu_lt (by omega)) ⟨1, rfl, Or.inl ⟨rfl, fun l hl => absurd hl (Nat.not_lt_zero _)⟩⟩
  · rintro k x hk ⟨v, rfl, hv⟩
    have pk := P k hk
    have pi := P i hi
    have pj := P (i - 1) (by omega)
    have ea : zf_abs (nI (A k) - nI (A i)) = nI (yAw (A k) (A i)) := wabs21 _ (by omega) _ (by omega)
    have eb : zf_abs (nI (A k) - nI (A (i - 1))) = nI (yAw (A k) (A (i - 1))) := wabs21 _ (by omega) _ (by omega)
    have wa : yAw (A k) (A i) < 100 := by unfold yAw; split <;> omega
    have wb : yAw (A k) (A (i - 1)) < 100 := by unfold yAw; split <;> omega
    unfold qLa_findTwins_b20
    simp only [zlet]
    rw [hc.2.2.1, if_neg (show ¬ nI c.1 ≤ nI k from nI_ge hk (by omega)), zix_nI (by omega) (by omega), Option.bind_some, zix_nI (by omega) (by omega), Option.bind_some, show nI i - 1 = nI (i - 1) from nI_sub (b := 1) (by omega), zix_nI (by omega) (by omega), Option.bind_some, pk.1, pi.1, pj.1, hc.2.1, ea, eb, yle01 r9 wa, yle01 r9 wb, yiff01, nI_1]
    refine ⟨_, rfl, _, rfl, ?_⟩
    rcases hv with ⟨rfl, q⟩ | ⟨rfl, q⟩
    · rw [if_neg (show ¬ (1 : Int32) = 0 by decide)]
      by_cases e : (yAw (A k) (A i) ≤ c.2.2.1 ↔ yAw (A k) (A (i - 1)) ≤ c.2.2.1)
      · rw [if_pos e]
        refine Or.inl ⟨rfl, fun l hl => ?_⟩
        by_cases el : l = k
        · rw [el]; exact e
        · exact q l (by omega)
      · rw [if_neg e]
        exact Or.inr ⟨rfl, fun tw => e (tw k hk)⟩
    · rw [if_pos (rfl : (0 : Int32) = 0)]
      exact Or.inr ⟨rfl, q⟩
  · rintro x ⟨v, rfl, hv⟩
    refine ⟨v, ?_, hv⟩
    unfold qLa_findTwins_b20
    dsimp only
    rw [hc.2.2.1, if_pos (show nI c.1 ≤ nI c.1 from Int32.le_refl _)]
theorem qLa_findTwins_ev (hoc : o = 7 ∨ o = 22) (hc : cC h o c) (ok : wCok c) (P : yP9 h A c.1) : ∃ h' T, qLa_findTwins o h = some h' ∧ yTwk c A T ∧ gI h' 184 5 = nI T ∧ ∀ a j, (a = 184 → j ≠ 5) → gI h' a j = gI h a j := by
  have n7 := ok.1
  have put : ∀ (g : zK) (v : Int32) a j, (a = 184 → j ≠ 5) → gI (sI g 184 5 v) a j = gI g a j := fun g v a j ha => by
    by_cases e : a = 184
    · exact gI_nk (ha e)
    · exact gI_ne e
  have key : ∃ h', zloop (qLa_findTwins_b7 o) zfu (1, sI h 184 5 0) = some h' ∧ ∃ T, yTwk c A T ∧ gI h' 184 5 = nI T ∧ ∀ a j, (a = 184 → j ≠ 5) → gI h' a j = gI h a j := by
    refine zloop_me (Q := fun q x => ∃ i h' T, q + i = 8 ∧ 0 < i ∧ (i ≤ c.1 ∨ i = 1) ∧ x = (nI i, h') ∧ T < 128 ∧ (∀ j, (T.testBit j = true ↔ (0 < j ∧ j < i ∧ yTw c A j))) ∧ gI h' 184 5 = nI T ∧ ∀ a j, (a = 184 → j ≠ 5) → gI h' a j = gI h a j) ?_ zfu 7 _ ⟨1, sI h 184 5 0, 0, rfl, by omega, Or.inr rfl, rfl, by omega, fun j => ?_, gI_eq, fun a j ha => put h 0 a j ha⟩ (zfu_lt (by omega))
    · rintro q x ⟨i, h', T, hq, i0, ic, rfl, t1, t2, t3, fr⟩
      have hc' : cC h' o c := ⟨(fr _ _ (fun z => by omega)).trans hc.1, (fr _ _ (fun z => by omega)).trans hc.2.1, (fr _ _ (fun z => by omega)).trans hc.2.2.1, fun a s h1 h2 => (fr _ _ (fun z => by omega)).trans (hc.2.2.2 a s h1 h2)⟩
      have P' : yP9 h' A c.1 := fun t ht => ⟨(fr 190 t (fun z => absurd z (by decide))).trans (P t ht).1, (P t ht).2⟩
      unfold qLa_findTwins_b7
      dsimp only
      rw [hc'.2.2.1]
      by_cases hi : i < c.1
      · rw [if_neg (show ¬ nI c.1 ≤ nI i from nI_ge hi (by omega))]
        obtain ⟨v, v1, v2⟩ := qLa_twin_ev hc' ok P' i0 hi
        rw [v1, Option.bind_some]
        simp only [zlet]
        rw [t3, nI_1]
        rcases v2 with ⟨rfl, tw⟩ | ⟨rfl, tw⟩
        · rw [if_neg (show ¬ (1 : Int32) = 0 by decide), wshl i (by omega), fa_or]
          refine Or.inr ⟨q - 1, _, rfl, by omega, i + 1, _, T ||| 2 ^ i, by omega, by omega, Or.inl hi, rfl, wor_lt t1 (wpow7 i (by omega)), fun j => ?_, gI_eq, fun a j ha => (put _ _ a j ha).trans (fr a j ha)⟩
          rw [Nat.testBit_or, Nat.testBit_two_pow, Bool.or_eq_true, decide_eq_true_eq, t2 j]
          constructor
          · rintro (⟨a, b, d⟩ | e)
            · exact ⟨a, by omega, d⟩
            · rw [← e]
              exact ⟨i0, by omega, tw⟩
          · rintro ⟨a, b, d⟩
            by_cases e : i = j
            · exact Or.inr e
            · exact Or.inl ⟨a, by omega, d⟩
        · have o0 : nI T ||| (0 : Int32) = nI T := by rw [show (0 : Int32) = nI 0 from rfl, fa_or, Nat.or_zero]
          rw [if_pos (rfl : (0 : Int32) = 0), o0]
          refine Or.inr ⟨q - 1, _, rfl, by omega, i + 1, _, T, by omega, by omega, Or.inl hi, rfl, t1, fun j => ?_, gI_eq, fun a j ha => (put _ _ a j ha).trans (fr a j ha)⟩
          rw [t2 j]
          constructor
          · rintro ⟨a, b, d⟩
            exact ⟨a, by omega, d⟩
          · rintro ⟨a, b, d⟩
            have e : j ≠ i := fun e => tw (e ▸ d)
            exact ⟨a, by omega, d⟩
      · rw [if_pos (show nI c.1 ≤ nI i from nI_le (by omega) (by omega))]
        refine Or.inl ⟨h', rfl, T, ⟨t1, fun j => ?_⟩, t3, fr⟩
        rw [t2 j]
        constructor
        · rintro ⟨a, b, d⟩
          exact ⟨a, by omega, d⟩
        · rintro ⟨a, b, d⟩
          exact ⟨a, by omega, d⟩
    · rw [Nat.zero_testBit]
      constructor
      · intro z
        cases z
      · rintro ⟨a, b, -⟩
        omega
  obtain ⟨h', e, T, q⟩ := key
  refine ⟨h', T, ?_, q⟩
  unfold qLa_findTwins
  simp only [zlet]
  rw [e]; rfl
end TWIN
