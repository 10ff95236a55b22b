/-! LAYING: what the class's search keeps: which places are used, what was found -/
/-- how many places of value v are used -/
def yUc (A : Nat → Nat) (U v : Nat) : Nat → Nat
  | 0 => 0
  | i + 1 => yUc A U v i + if U.testBit i = true ∧ A i = v then 1 else 0
section USED
variable {c : wC} {A pl ix : Nat → Nat} {T U m v n : Nat}
theorem yUc_ex : ∀ {n : Nat}, yUc A U v n < yCnt A v n → ∃ j, j < n ∧ A j = v ∧ U.testBit j = false
  | 0, h => absurd h (Nat.lt_irrefl _)
  | n + 1, h => by
    have h' : (yUc A U v n + if U.testBit n = true ∧ A n = v then 1 else 0) < yCnt A v n + if A n = v then 1 else 0 := h
    by_cases l : yUc A U v n < yCnt A v n
    · obtain ⟨j, j1, j2⟩ := yUc_ex l
      exact ⟨j, by omega, j2⟩
    · by_cases e : A n = v
      · by_cases b : U.testBit n = true
        · rw [if_pos (show U.testBit n = true ∧ A n = v from ⟨b, e⟩), if_pos e] at h'; omega
        · exact ⟨n, by omega, e, Bool.eq_false_iff.mpr b⟩
      · rw [if_neg e] at h'; omega
theorem yUc_1 {i : Nat} : ∀ {n : Nat}, n ≤ i → yUc A (U ||| 2 ^ i) v n = yUc A U v n
  | 0, _ => rfl
  | n + 1, h => by
    show yUc A (U ||| 2 ^ i) v n + (if (U ||| 2 ^ i).testBit n = true ∧ A n = v then 1 else 0) = yUc A U v n + if U.testBit n = true ∧ A n = v then 1 else 0
    rw [yUc_1 (n := n) (by omega), Nat.testBit_or, Nat.testBit_two_pow, decide_eq_false (show ¬ i = n by omega), Bool.or_false]
theorem yUc_add {i : Nat} (hi : U.testBit i = false) : ∀ {n : Nat}, i < n → yUc A (U ||| 2 ^ i) v n = yUc A U v n + if A i = v then 1 else 0
  | 0, h => absurd h (Nat.not_lt_zero _)
  | n + 1, h => by
    show yUc A (U ||| 2 ^ i) v n + (if (U ||| 2 ^ i).testBit n = true ∧ A n = v then 1 else 0) = (yUc A U v n + if U.testBit n = true ∧ A n = v then 1 else 0) + if A i = v then 1 else 0
    by_cases e : i = n
    · subst e
      rw [yUc_1 (Nat.le_refl _), Nat.testBit_or, Nat.testBit_two_pow, decide_eq_true (rfl : i = i), Bool.or_true, hi]
      rw [if_neg (show ¬ (false = true ∧ A i = v) from fun z => absurd z.1 (by decide))]
      by_cases ev : A i = v
      · rw [if_pos (show true = true ∧ A i = v from ⟨rfl, ev⟩), if_pos ev]
      · rw [if_neg (show ¬ (true = true ∧ A i = v) from fun z => ev z.2), if_neg ev]
    · rw [yUc_add hi (n := n) (by omega), Nat.testBit_or, Nat.testBit_two_pow, decide_eq_false e, Bool.or_false]
      omega
theorem yUc_n : ∀ n, yUc (fun _ => 0) U 0 n ≤ n
  | 0 => Nat.le_refl _
  | n + 1 => by
    show yUc (fun _ => 0) U 0 n + (if U.testBit n = true ∧ 0 = 0 then 1 else 0) ≤ n + 1
    have := yUc_n n
    split <;> omega
theorem yUc_full : ∀ {n : Nat}, yUc (fun _ => 0) U 0 n = n → ∀ i, i < n → U.testBit i = true
  | 0, _ => fun i h => absurd h (Nat.not_lt_zero _)
  | n + 1, h => by
    have h' : yUc (fun _ => 0) U 0 n + (if U.testBit n = true ∧ 0 = 0 then 1 else 0) = n + 1 := h
    have l := yUc_n (U := U) n
    by_cases b : U.testBit n = true
    · rw [if_pos (show U.testBit n = true ∧ 0 = 0 from ⟨b, rfl⟩)] at h'
      intro i hi
      by_cases e : i = n
      · rw [e]; exact b
      · exact yUc_full (n := n) (by omega) i (by omega)
    · rw [if_neg (show ¬ (U.testBit n = true ∧ 0 = 0) from fun z => b z.1)] at h'
      omega
theorem yUc_all : ∀ {n : Nat}, (∀ i, i < n → U.testBit i = true) → yUc A U v n = yCnt A v n
  | 0, _ => rfl
  | n + 1, h => by
    show (yUc A U v n + if U.testBit n = true ∧ A n = v then 1 else 0) = yCnt A v n + if A n = v then 1 else 0
    rw [yUc_all (n := n) (fun i hi => h i (by omega)), h n (by omega)]
    by_cases e : A n = v
    · rw [if_pos (show true = true ∧ A n = v from ⟨rfl, e⟩), if_pos e]
    · rw [if_neg (show ¬ (true = true ∧ A n = v) from fun z => e z.2), if_neg e]
theorem yUc_00 (A : Nat → Nat) (v : Nat) : ∀ n, yUc A 0 v n = 0
  | 0 => rfl
  | n + 1 => by
    show (yUc A 0 v n + if (0 : Nat).testBit n = true ∧ A n = v then 1 else 0) = 0
    rw [yUc_00 A v n, Nat.zero_testBit, if_neg (show ¬ (false = true ∧ A n = v) from fun z => absurd z.1 (by decide))]
theorem yUc_le : ∀ n, yUc A U v n ≤ yCnt A v n
  | 0 => Nat.le_refl _
  | n + 1 => by
    show (yUc A U v n + if U.testBit n = true ∧ A n = v then 1 else 0) ≤ yCnt A v n + if A n = v then 1 else 0
    have := yUc_le n
    by_cases e : A n = v
    · rw [if_pos e]
      split <;> omega
    · rw [if_neg e, if_neg (show ¬ (U.testBit n = true ∧ A n = v) from fun z => e z.2)]
      omega
theorem yUc_lt {j : Nat} (hb : U.testBit j = false) : ∀ {n : Nat}, j < n → yUc A U (A j) n < yCnt A (A j) n
  | 0, h => absurd h (Nat.not_lt_zero _)
  | n + 1, h => by
    show (yUc A U (A j) n + if U.testBit n = true ∧ A n = A j then 1 else 0) < yCnt A (A j) n + if A n = A j then 1 else 0
    by_cases e : j = n
    · subst e
      have := yUc_le (A := A) (U := U) (v := A j) j
      rw [if_neg (show ¬ (U.testBit j = true ∧ A j = A j) from fun z => by rw [hb] at z; cases z.1), if_pos (rfl : A j = A j)]
      omega
    · have ih := yUc_lt hb (n := n) (by omega)
      by_cases e : A n = A j
      · rw [if_pos e]
        split <;> omega
      · rw [if_neg e, if_neg (show ¬ (U.testBit n = true ∧ A n = A j) from fun z => e z.2)]
        omega
/-- m sayings lie at the places of the indices ix, which are those of U -/
def yDp (c : wC) (A : Nat → Nat) (T : Nat) (pl ix : Nat → Nat) (U m : Nat) : Prop := U < 2 ^ c.1 ∧ (∀ s, s < m → ix s < c.1 ∧ U.testBit (ix s) = true ∧ pl s = A (ix s)) ∧ (∀ v, yUc A U v c.1 = yCnt pl v m) ∧ yUc (fun _ => 0) U 0 c.1 = m ∧ (∀ i, T.testBit i = true → U.testBit i = true → U.testBit (i - 1) = true) ∧ (∀ a b, a < b → b < m → yNd c a = yNd c b → pl a ≤ pl b) ∧ yTwo A T pl m
/-- the index at which the search for saying m begins -/
def yStt (c : wC) (ix : Nat → Nat) (m f : Nat) : Prop := (f = 0 ∧ ∀ s, s < m → yNd c s ≠ yNd c m) ∨ ∃ s, s < m ∧ yNd c s = yNd c m ∧ (∀ t, s < t → t < m → yNd c t ≠ yNd c m) ∧ f = ix s + 1
/-- the arrangements that are looked for behind the m laid ones -/
def yKl (c : wC) (A : Nat → Nat) (T : Nat) (pl : Nat → Nat) (m : Nat) (p : Nat → Nat) : Prop := yOr2 c A T p ∧ yPm p (c.2.2.2 5) c.1 ∧ (∀ s, s < c.1 → p s ≤ 20) ∧ ∀ s, s < m → p s = pl s
theorem yU_dn (cl : ∀ i, 0 < i → i < n → A (i - 1) = A i → U.testBit i = true → U.testBit (i - 1) = true) (rise : ∀ s t, s ≤ t → t < n → A s ≤ A t) : ∀ i j, j ≤ i → i < n → A j = A i → U.testBit i = true → U.testBit j = true
  | 0, j, h, _, _, b => by rw [show j = 0 by omega]; exact b
  | i + 1, j, h, hn, e, b => by
    by_cases l : j = i + 1
    · rw [l]; exact b
    · have r1 := rise j i (by omega) (by omega)
      have r2 := rise i (i + 1) (by omega) hn
      exact yU_dn cl rise i j (by omega) (by omega) (by omega) (cl (i + 1) (by omega) hn (by show A i = A (i + 1); omega) b)
theorem yCls (K : yTwk c A T) (cl : ∀ i, T.testBit i = true → U.testBit i = true → U.testBit (i - 1) = true) : ∀ i, 0 < i → i < c.1 → A (i - 1) = A i → U.testBit i = true → U.testBit (i - 1) = true := fun i a b e u => cl i (yTwk_eq K a b e) u
theorem yFre_lt (K : yTwk c A T) (cl : ∀ i, T.testBit i = true → U.testBit i = true → U.testBit (i - 1) = true) (rise : ∀ s t, s ≤ t → t < c.1 → A s ≤ A t) {i j : Nat} (fj : yFre T U j) (fi : yFre T U i) (hj : j < i) (hi : i < c.1) : A j < A i := by
  apply Nat.lt_of_not_le
  intro le
  have r1 := rise j (i - 1) (by omega) (by omega)
  have r2 := rise (i - 1) i (by omega) hi
  have e : A (i - 1) = A i := by omega
  have b : U.testBit (i - 1) = true := by
    cases hb : U.testBit (i - 1)
    · exact (fi.2 ⟨yTwk_eq K (by omega) hi e, hb⟩).elim
    · rfl
  have := yU_dn (yCls K cl) rise (i - 1) j (by omega) (by omega) (by omega) b
  rw [fj.1] at this
  cases this
theorem yDp_lay (K : yTwk c A T) (rise : ∀ s t, s ≤ t → t < c.1 → A s ≤ A t) (D : yDp c A T pl ix U m) {f i : Nat} (st : yStt c ix m f) (hf : f ≤ i) (hi : i < c.1) (fr : yFre T U i) : yDp c A T (fun t => if t = m then A i else pl t) (fun t => if t = m then i else ix t) (U ||| 2 ^ i) (m + 1) := by
  obtain ⟨d1, d2, d3, d4, d5, d6, d7⟩ := D
  have cg : ∀ v, yCnt (fun t => if t = m then A i else pl t) v m = yCnt pl v m := fun v => yCnt_cong fun s hs => if_neg (by omega)
  refine ⟨Nat.or_lt_two_pow d1 (Nat.pow_lt_pow_right (by omega) hi), fun s hs => ?_, fun v => ?_, ?_, fun j tj b => ?_, fun a b hab hb e => ?_, fun j tj lt s t st tm e => ?_⟩
  · by_cases e : s = m
    · dsimp only
      rw [if_pos e, if_pos e, Nat.testBit_or, Nat.testBit_two_pow, decide_eq_true (rfl : i = i), Bool.or_true]
      exact ⟨hi, rfl, rfl⟩
    · dsimp only
      rw [if_neg e, if_neg e, Nat.testBit_or, (d2 s (by omega)).2.1]
      exact ⟨(d2 s (by omega)).1, rfl, (d2 s (by omega)).2.2⟩
  · rw [yUc_add fr.1 hi, d3 v]
    show _ = yCnt (fun t => if t = m then A i else pl t) v m + if (if m = m then A i else pl m) = v then 1 else 0
    rw [cg, if_pos (rfl : m = m)]
  · rw [yUc_add fr.1 hi, d4]
    simp
  · rw [Nat.testBit_or, Nat.testBit_two_pow] at b ⊢
    by_cases ej : i = j
    · subst ej
      cases hb : U.testBit (i - 1)
      · exact (fr.2 ⟨tj, hb⟩).elim
      · rfl
    · rw [decide_eq_false ej, Bool.or_false] at b
      rw [d5 j tj b, Bool.true_or]
  · dsimp only
    rw [if_neg (show ¬ a = m by omega)]
    by_cases eb : b = m
    · rw [if_pos eb]
      rw [eb] at e hab
      rcases st with ⟨-, no⟩ | ⟨s, s1, s2, s3, s4⟩
      · exact absurd e (no a hab)
      · have q := (d2 s s1)
        have l1 : pl a ≤ pl s := by
          by_cases as : a = s
          · rw [as]; exact Nat.le_refl _
          · by_cases lt : a < s
            · exact d6 a s lt s1 (e.trans s2.symm)
            · exact absurd e (s3 a (by omega) hab)
        have l2 := rise (ix s) i (by omega) hi
        rw [q.2.2] at l1
        omega
    · rw [if_neg eb]
      exact d6 a b hab (by omega) e
  · dsimp only at e
    rw [if_neg (show ¬ s = m by omega)] at e
    by_cases et : t = m
    · rw [if_pos et] at e
      obtain ⟨e1, e2⟩ := e
      obtain ⟨x1, x2, x3⟩ := d2 s (by omega)
      have kj := (K.2 j).mp tj
      have j0 := kj.1
      have jn := kj.2.1
      have js : j ≤ ix s := by
        apply Nat.le_of_not_lt
        intro z
        have := rise (ix s) (j - 1) (by omega) (by omega)
        omega
      have u1 := yU_dn (yCls K d5) rise (ix s) j js x1 (by omega) x2
      have u2 := d5 j tj u1
      have ij : i ≤ j - 1 := by
        apply Nat.le_of_not_lt
        intro z
        have := rise j i (by omega) hi
        omega
      have u3 := yU_dn (yCls K d5) rise (j - 1) i ij (by omega) e2 u2
      rw [fr.1] at u3
      cases u3
    · rw [if_neg et] at e
      exact d7 j tj lt s t st (by omega) e
/-- every arrangement that is looked for lays saying m at a place that is tried -/
theorem yKl_try (K : yTwk c A T) (rise : ∀ s t, s ≤ t → t < c.1 → A s ≤ A t) (pm : yPm A (c.2.2.2 5) c.1) (D : yDp c A T pl ix U m) (hm : m < c.1) {f : Nat} (st : yStt c ix m f) {p : Nat → Nat} (L : yKl c A T pl m p) : ∃ j, f ≤ j ∧ j < c.1 ∧ yFre T U j ∧ A j = p m := by
  obtain ⟨d1, d2, d3, d4, d5, d6, d7⟩ := D
  obtain ⟨k1, k2, k3, k4⟩ := L
  have lt : yUc A U (p m) c.1 < yCnt A (p m) c.1 := by
    rw [d3, pm (p m), ← k2 (p m), ← yCnt_cong (p := p) (q := pl) (v := p m) k4]
    have a : yCnt p (p m) (m + 1) = yCnt p (p m) m + if p m = p m then 1 else 0 := rfl
    rw [if_pos rfl] at a
    have b := yCnt_mono (p := p) (v := p m) (show m + 1 ≤ c.1 from hm)
    omega
  have least : ∀ j, j < c.1 → A j = p m → U.testBit j = false → ∃ i, i < c.1 ∧ A i = p m ∧ yFre T U i := by
    intro j
    induction j with
    | zero => intro h1 h2 h3; exact ⟨0, h1, h2, h3, fun z => absurd ((K.2 0).mp z.1).1 (Nat.lt_irrefl _)⟩
    | succ j ih =>
      intro h1 h2 h3
      by_cases q : T.testBit (j + 1) = true ∧ U.testBit j = false
      · by_cases e : A j = A (j + 1)
        · exact ih (by omega) (e.trans h2) q.2
        · exfalso
          have r := rise j (j + 1) (by omega) h1
          have lt2 : yUc A U (A j) c.1 < yCnt A (A j) c.1 := yUc_lt q.2 (by omega)
          have lt3 : yCnt p (A j) m < yCnt p (A j) c.1 := by
            rw [k2 (A j), ← pm (A j), yCnt_cong (p := p) (q := pl) (v := A j) k4, ← d3]
            exact lt2
          obtain ⟨t, t1, t2, t3⟩ := yCnt_ex lt3
          have tm : t ≠ m := fun z => by
            rw [z] at t3
            exact e (t3.symm.trans h2.symm)
          exact k1.2 (j + 1) q.1 (by show A j < A (j + 1); omega) m t (by omega) t2 ⟨h2.symm, t3⟩
      · exact ⟨j + 1, h1, h2, h3, fun z => q z⟩
  obtain ⟨j0, z1, z2, z3⟩ := yUc_ex lt
  obtain ⟨j, j1, j2, j3⟩ := least j0 z1 z2 z3
  refine ⟨j, ?_, j1, j3, j2⟩
  rcases st with ⟨rfl, -⟩ | ⟨s, s1, s2, -, rfl⟩
  · omega
  · apply Nat.lt_of_not_le
    intro le
    obtain ⟨i1, i2, i3⟩ := d2 s s1
    have o := k1.1 s m s1 hm s2
    rw [k4 s s1, i3] at o
    have r := rise j (ix s) le i1
    have := yU_dn (yCls K d5) rise (ix s) j le i1 (by omega) i2
    rw [j3.1] at this
    cases this
/-- what a search among K makes of the best found before -/
def yIm (c : wC) (K : (Nat → Nat) → Prop) (B : Nat) (R : Nat → Nat) (B' : Nat) (R' : Nat → Nat) : Prop := (B' = B ∧ R' = R ∧ ∀ p, K p → B ≤ yGs c p) ∨ (B' < B ∧ K R' ∧ yGs c R' = B' ∧ ∀ p, K p → B' ≤ yGs c p ∧ (yCo p c.1 < yCo R' c.1 → B' < yGs c p))
theorem yIm_two {K1 K2 K : (Nat → Nat) → Prop} {B B1 B2 : Nat} {R R1 R2 : Nat → Nat} (h1 : yIm c K1 B R B1 R1) (h2 : yIm c K2 B1 R1 B2 R2) (o : ∀ p q, K1 p → K2 q → yCo p c.1 < yCo q c.1) (e : ∀ p, K p ↔ (K1 p ∨ K2 p)) : yIm c K B R B2 R2 := by
  rcases h1 with ⟨rfl, rfl, a⟩ | ⟨a1, a2, a3, a4⟩
  · rcases h2 with ⟨rfl, rfl, b⟩ | ⟨b1, b2, b3, b4⟩
    · exact Or.inl ⟨rfl, rfl, fun p hp => ((e p).mp hp).elim (a p) (b p)⟩
    · refine Or.inr ⟨b1, (e _).mpr (Or.inr b2), b3, fun p hp => ?_⟩
      rcases (e p).mp hp with k | k
      · have := a p k
        exact ⟨by omega, fun _ => by omega⟩
      · exact b4 p k
  · rcases h2 with ⟨rfl, rfl, b⟩ | ⟨b1, b2, b3, b4⟩
    · refine Or.inr ⟨a1, (e _).mpr (Or.inl a2), a3, fun p hp => ?_⟩
      rcases (e p).mp hp with k | k
      · exact a4 p k
      · refine ⟨b p k, fun l => ?_⟩
        have := o _ _ a2 k
        omega
    · refine Or.inr ⟨by omega, (e _).mpr (Or.inr b2), b3, fun p hp => ?_⟩
      rcases (e p).mp hp with k | k
      · have := (a4 p k).1
        exact ⟨by omega, fun _ => by omega⟩
      · exact b4 p k
theorem yIm_e {K K' : (Nat → Nat) → Prop} {B B' : Nat} {R R' : Nat → Nat} (h : yIm c K B R B' R') (e : ∀ p, K' p ↔ K p) : yIm c K' B R B' R' := by
  rcases h with ⟨a, b, d⟩ | ⟨a1, a2, a3, a4⟩
  · exact Or.inl ⟨a, b, fun p hp => d p ((e p).mp hp)⟩
  · exact Or.inr ⟨a1, (e _).mpr a2, a3, fun p hp => a4 p ((e p).mp hp)⟩
end USED
