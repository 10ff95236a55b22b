/-! LAYING: bounds and symmetry of the greatest train -/
section BOUND
variable {nd ne ne' : Nat → Nat} {n : Nat} {c : wC}
theorem yCl_up (hn : n ≤ 7) (h : ∀ t, t < n → ySub (ne t) (ne' t)) {f : Nat} (hf : f < n) : ySub (yCl nd ne n f) (yCl nd ne' n f) := by
  refine yCl_min (fun t ht hh => ?_) yCl_has
  exact Nat.lt_of_le_of_lt (wones_mono (ySub_andl (h t ht))) (yCl_closed hn hf t ht hh)
theorem yGr_up (hn : n ≤ 7) (h : ∀ t, t < n → ySub (ne t) (ne' t)) : yGr nd ne n ≤ yGr nd ne' n := by
  unfold yGr
  exact yMx_le n fun s hs => Nat.le_trans (wones_mono (yCl_up hn h hs)) (yMx_ge (F := fun s => wones (yCl nd ne' n s)) hs)
/-- a and b exchanged -/
def yTr (a b t : Nat) : Nat := if t = a then b else if t = b then a else t
theorem yTr_lt {a b t : Nat} (ha : a < n) (hb : b < n) : yTr a b t < n ↔ t < n := by
  unfold yTr
  split
  · omega
  · split <;> omega
theorem yTr_tr (a b t : Nat) : yTr a b (yTr a b t) = t := by
  unfold yTr
  by_cases h1 : t = a
  · subst h1
    rw [if_pos rfl]
    by_cases h2 : b = t
    · rw [if_pos h2, h2]
    · rw [if_neg h2, if_pos rfl]
  · rw [if_neg h1]
    by_cases h2 : t = b
    · subst h2
      rw [if_pos rfl, if_pos rfl]
    · rw [if_neg h2, if_neg h1, if_neg h2]
theorem ySw_tr (p : Nat → Nat) (a b t : Nat) : ySw p a b t = p (yTr a b t) := by
  unfold ySw yTr
  split
  · rfl
  · split <;> rfl
def yPi (a b S : Nat) : Nat := wBits (fun t => S.testBit (yTr a b t)) 7
theorem yPi_t {a b S j : Nat} (hj : j < 7) : (yPi a b S).testBit j = S.testBit (yTr a b j) := by
  unfold yPi
  rw [wBits_t, decide_eq_true hj]; rfl
theorem yPi_w : ∀ a, a < 7 → ∀ b, b < 7 → ∀ S, S < 128 → wones (yPi a b S) = wones S := by decide +kernel
theorem yGs_sw1 (ok : wCok c) {p : Nat → Nat} {a b : Nat} (ha : a < c.1) (hb : b < c.1) (e : yNd c a = yNd c b) : yGs c (ySw p a b) ≤ yGs c p := by
  have n7 := ok.1
  have neq : ∀ t, t < c.1 → ∀ G, G < 128 → wones (yNe c.2.2.1 (ySw p a b) c.1 t &&& yPi a b G) = wones (yNe c.2.2.1 p c.1 (yTr a b t) &&& G) := fun t ht G hG => by
    have l := yNe_lt c.2.2.1 p (m := c.1) (yTr a b t) n7
    rw [← yPi_w a (by omega) b (by omega) (yNe c.2.2.1 p c.1 (yTr a b t) &&& G) (Nat.lt_of_le_of_lt Nat.and_le_left l)]
    congr 1
    apply Nat.eq_of_testBit_eq
    intro j
    by_cases hj : j < 7
    · rw [Nat.testBit_and, yPi_t hj, yPi_t hj, Nat.testBit_and, yNe_t, yNe_t]
      have e1 : yNr c.2.2.1 (ySw p a b) j t = yNr c.2.2.1 p (yTr a b j) (yTr a b t) := by
        unfold yNr
        rw [ySw_tr, ySw_tr]
        congr 1
        by_cases z : j = t
        · subst z
          rw [decide_eq_false (fun q => q rfl), decide_eq_false (fun q => q rfl)]
        · have : yTr a b j ≠ yTr a b t := fun q => z (by have := congrArg (yTr a b) q; rw [yTr_tr, yTr_tr] at this; exact this)
          rw [decide_eq_true z, decide_eq_true this]
      have e2 : decide (j < c.1) = decide (yTr a b j < c.1) := by
        by_cases z : j < c.1
        · rw [decide_eq_true z, decide_eq_true ((yTr_lt ha hb).mpr z)]
        · rw [decide_eq_false z, decide_eq_false (fun q => z ((yTr_lt ha hb).mp q))]
      rw [e1, e2]
    · rw [Nat.testBit_and, Nat.testBit_lt_two_pow (Nat.lt_of_lt_of_le (yNe_lt c.2.2.1 (ySw p a b) (m := c.1) t n7) (by have : 2 ^ 7 ≤ 2 ^ j := Nat.pow_le_pow_right (by omega) (by omega); omega)), Bool.false_and]
      unfold yPi
      rw [wBits_t, decide_eq_false hj]; rfl
  unfold yGs yGr
  refine yMx_le _ fun s hs => ?_
  have hs' : yTr a b s < c.1 := (yTr_lt ha hb).mpr hs
  have l := yCl_128 (nd := yNd c) (ne := yNe c.2.2.1 p c.1) n7 hs'
  refine Nat.le_trans ?_ (yMx_ge (F := fun s => wones (yCl (yNd c) (yNe c.2.2.1 p c.1) c.1 s)) hs')
  show _ ≤ wones (yCl (yNd c) (yNe c.2.2.1 p c.1) c.1 (yTr a b s))
  rw [← yPi_w a (by omega) b (by omega) _ l]
  apply wones_mono
  refine yCl_min (fun t ht hh => ?_) ?_
  · rw [yPi_t (by omega)] at hh
    rw [neq t ht _ l]
    have := yCl_closed (nd := yNd c) (ne := yNe c.2.2.1 p c.1) n7 hs' (yTr a b t) ((yTr_lt ha hb).mpr ht) hh
    have en : yNd c (yTr a b t) = yNd c t := by
      unfold yTr
      split
      · rename_i z; rw [z, e]
      · split
        · rename_i z; rw [z, e]
        · rfl
    rw [en] at this
    exact this
  · rw [yPi_t (by omega)]
    exact yCl_has
theorem yGs_sw (ok : wCok c) {p : Nat → Nat} {a b : Nat} (ha : a < c.1) (hb : b < c.1) (e : yNd c a = yNd c b) : yGs c (ySw p a b) = yGs c p := by
  apply Nat.le_antisymm (yGs_sw1 ok ha hb e)
  have := yGs_sw1 (p := ySw p a b) ok ha hb e
  rw [yGs_cong ok (p := ySw (ySw p a b) a b) (q := p) (fun s _ => by rw [ySw_tr, ySw_tr, yTr_tr])] at this
  exact this
/-- sayings of equal need lie in their order -/
def yOrd (c : wC) (p : Nat → Nat) : Prop := ∀ a b, a < b → b < c.1 → yNd c a = yNd c b → p a ≤ p b
end BOUND
