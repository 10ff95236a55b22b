/-! TRAINS AS LEAST CLOSED SETS, plain -/
theorem zloop_fx {σ τ : Type} {b : σ → Option (σ ⊕ τ)} {S : Nat → σ → Prop} {R : τ → Prop} (m : Nat) (step : ∀ i x, i < m → S i x → ∃ y, b x = some (.inl y) ∧ S (i + 1) y) (last : ∀ x, S m x → ∃ t, b x = some (.inr t) ∧ R t) {n : Nat} (hn : m < n) {x : σ} (h0 : S 0 x) : ∃ t, zloop b n x = some t ∧ R t := by
  refine zloop_me (Q := fun q x => ∃ i, q + i = m ∧ S i x) ?_ n m x ⟨0, by omega, h0⟩ hn
  rintro q x ⟨i, hi, hs⟩
  by_cases h : i < m
  · obtain ⟨y, e1, e2⟩ := step i x h hs
    exact Or.inr ⟨q - 1, y, e1, by omega, i + 1, by omega, e2⟩
  · have e : i = m := by omega
    subst e
    exact Or.inl (last x hs)
def ySub (a b : Nat) : Prop := ∀ t, a.testBit t = true → b.testBit t = true
theorem ySub_r {a : Nat} : ySub a a := fun _ h => h
theorem ySub_t {a b d : Nat} (h : ySub a b) (k : ySub b d) : ySub a d := fun t ht => k t (h t ht)
theorem ySub_as {a b : Nat} (h : ySub a b) (k : ySub b a) : a = b := by
  apply Nat.eq_of_testBit_eq
  intro i
  cases ea : a.testBit i with
  | true => exact (h i ea).symm
  | false =>
    cases eb : b.testBit i with
    | false => rfl
    | true => rw [k i eb] at ea; cases ea
theorem ySub_or {a b d : Nat} (h : ySub a d) (k : ySub b d) : ySub (a ||| b) d := fun t ht => by
  rw [Nat.testBit_or, Bool.or_eq_true] at ht
  exact ht.elim (h t) (k t)
theorem ySub_l {a b : Nat} : ySub a (a ||| b) := fun t ht => by rw [Nat.testBit_or, ht]; rfl
theorem ySub_rr {a b : Nat} : ySub b (a ||| b) := fun t ht => by rw [Nat.testBit_or, ht, Bool.or_true]
theorem ySub_p {s d : Nat} (h : d.testBit s = true) : ySub (2 ^ s) d := fun t ht => by
  rw [Nat.testBit_two_pow] at ht
  have := of_decide_eq_true ht
  subst this
  exact h
theorem yp_self (s : Nat) : (2 ^ s).testBit s = true := by rw [Nat.testBit_two_pow]; simp
theorem ySub_and {a b d : Nat} (h : ySub b d) : ySub (a &&& b) (a &&& d) := fun t ht => by
  rw [Nat.testBit_and, Bool.and_eq_true] at ht
  rw [Nat.testBit_and, ht.1, h t ht.2]; rfl
theorem ySub_andl {a b d : Nat} (h : ySub a b) : ySub (a &&& d) (b &&& d) := fun t ht => by
  rw [Nat.testBit_and, Bool.and_eq_true] at ht
  rw [Nat.testBit_and, ht.2, h t ht.1]; rfl
theorem ySub_andeq {a b : Nat} (h : ySub a b) : a &&& b = a := ySub_as (fun t ht => by
  rw [Nat.testBit_and, Bool.and_eq_true] at ht
  exact ht.1) (fun t ht => by rw [Nat.testBit_and, ht, h t ht]; rfl)
theorem ybf {x : Bool} (h : ¬ x = true) : x = false := by cases x with
  | false => rfl
  | true => exact absurd rfl h
theorem wSum_mono {f g : Nat → Nat} : ∀ n, (∀ s, s < n → f s ≤ g s) → wSum f n ≤ wSum g n
  | 0, _ => Nat.le_refl _
  | n + 1, h => by
    have h1 := wSum_mono n (fun s hs => h s (by omega))
    have h2 := h n (by omega)
    rw [wSum_s, wSum_s]
    omega
theorem wones_mono {a b : Nat} (h : ySub a b) : wones a ≤ wones b := wSum_mono 7 fun s _ => by
  by_cases ha : a.testBit s = true
  · rw [if_pos ha, if_pos (h s ha)]; exact Nat.le_refl _
  · rw [if_neg ha]; exact Nat.zero_le _
theorem wones_n : ∀ n, n < 8 → ∀ a, a < 128 → a < 2 ^ n → wones a ≤ n := by decide +kernel
theorem wones_p : ∀ s, s < 7 → wones (2 ^ s) = 1 := by decide +kernel
theorem wones_add : ∀ a, a < 128 → ∀ s, s < 7 → a.testBit s = false → wones (a ||| 2 ^ s) = wones a + 1 := by decide +kernel
theorem wones_andp : ∀ a, a < 128 → ∀ s, s < 7 → wones (a &&& 2 ^ s) = if a.testBit s then 1 else 0 := by decide +kernel
theorem wones_0 : ∀ a, a < 128 → wones a = 0 → a = 0 := by decide +kernel
theorem wones_6 : ∀ a, a < 128 → ∀ s, s < 7 → a.testBit s = false → wones a ≤ 6 := by decide +kernel
theorem wbit_lt {n g s : Nat} (hg : g < 2 ^ n) (h : g.testBit s = true) : s < n := by
  apply Nat.lt_of_not_le
  intro hs
  have : g.testBit s = false := Nat.testBit_lt_two_pow (Nat.lt_of_lt_of_le hg (Nat.pow_le_pow_right (by omega) hs))
  rw [this] at h
  cases h
theorem wp_lt {n s : Nat} (h : s < n) : 2 ^ s < 2 ^ n := Nat.pow_lt_pow_right (by omega) h
def yIter (F : Nat → Nat) : Nat → Nat → Nat
  | 0, g => g
  | k + 1, g => F (yIter F k g)
section ITER
variable {F : Nat → Nat} {n g : Nat}
theorem yIter_lt (hl : ∀ g, g < 2 ^ n → F g < 2 ^ n) (hg : g < 2 ^ n) : ∀ k, yIter F k g < 2 ^ n
  | 0 => hg
  | k + 1 => hl _ (yIter_lt hl hg k)
theorem yIter_sub (hs : ∀ g, ySub g (F g)) : ∀ k, ySub g (yIter F k g)
  | 0 => ySub_r
  | k + 1 => ySub_t (yIter_sub hs k) (hs _)
theorem yIter_fx {k : Nat} (e : F (yIter F k g) = yIter F k g) : ∀ j, yIter F (k + j) g = yIter F k g
  | 0 => rfl
  | j + 1 => by
    show F (yIter F (k + j) g) = _
    rw [yIter_fx e j, e]
theorem yIter_up (hn : n ≤ 7) (hl : ∀ g, g < 2 ^ n → F g < 2 ^ n) (hs : ∀ g, ySub g (F g)) (hg : g < 2 ^ n) (h1 : 1 ≤ wones g) : ∀ k, (∀ j, j < k → F (yIter F j g) ≠ yIter F j g) → 1 + k ≤ wones (yIter F k g)
  | 0, _ => h1
  | k + 1, h => by
    have ih := yIter_up hn hl hs hg h1 k (fun j hj => h j (by omega))
    have a := yIter_lt hl hg k
    have p := w2n hn
    have b := hl _ a
    have := wones_sub (yIter F k g) (by omega) (F (yIter F k g)) (by omega) (ySub_andeq (hs _)) (fun e => h k (by omega) e.symm)
    show 1 + (k + 1) ≤ wones (F (yIter F k g))
    omega
theorem yIter_end (hn : n ≤ 7) (hl : ∀ g, g < 2 ^ n → F g < 2 ^ n) (hs : ∀ g, ySub g (F g)) (hg : g < 2 ^ n) (h1 : 1 ≤ wones g) : F (yIter F n g) = yIter F n g := by
  have p := w2n hn
  by_cases h : ∀ j, j < n → F (yIter F j g) ≠ yIter F j g
  · have a := yIter_up hn hl hs hg h1 n h
    have b := wones_n n (by omega) (yIter F n g) (by have := yIter_lt hl hg n; omega) (yIter_lt hl hg n)
    omega
  · have : ∃ j, j < n ∧ F (yIter F j g) = yIter F j g := Classical.byContradiction fun z => h fun j hj e => z ⟨j, hj, e⟩
    obtain ⟨j, hj, e⟩ := this
    have q := yIter_fx e (n - j)
    rw [show j + (n - j) = n by omega] at q
    rw [q, e]
end ITER
section CLO
variable {nd ne : Nat → Nat} {n g f : Nat}
def yClosed (nd ne : Nat → Nat) (n g : Nat) : Prop := ∀ t, t < n → g.testBit t = false → wones (ne t &&& g) < nd t
def yPsS (nd ne : Nat → Nat) (s g : Nat) : Nat := if g.testBit s then g else if wones (ne s &&& g) < nd s then g else g ||| 2 ^ s
def yPs (nd ne : Nat → Nat) (g i : Nat) : Nat := wfold (yPsS nd ne) g i
theorem yPs_s (i : Nat) : yPs nd ne g (i + 1) = yPsS nd ne i (yPs nd ne g i) := rfl
theorem yPsS_sub (s : Nat) : ySub g (yPsS nd ne s g) := by
  unfold yPsS
  split
  · exact ySub_r
  · split
    · exact ySub_r
    · exact ySub_l
theorem yPs_step {i : Nat} : ∀ j, ySub (yPs nd ne g i) (yPs nd ne g (i + j))
  | 0 => ySub_r
  | j + 1 => ySub_t (yPs_step j) (yPsS_sub _)
theorem yPs_sub (i : Nat) : ySub g (yPs nd ne g i) := by
  have := yPs_step (nd := nd) (ne := ne) (g := g) (i := 0) i
  rw [Nat.zero_add] at this
  exact this
theorem yPs_fix (e : yPs nd ne g n = g) : yClosed nd ne n g := by
  intro t ht hg
  have q := yPs_step (nd := nd) (ne := ne) (g := g) (i := t) (n - t)
  rw [show t + (n - t) = n by omega, e] at q
  have e1 : yPs nd ne g t = g := ySub_as q (yPs_sub t)
  apply Nat.lt_of_not_le
  intro hn
  have s1 : yPs nd ne g (t + 1) = g ||| 2 ^ t := by
    rw [yPs_s, e1]
    unfold yPsS
    rw [if_neg (by rw [hg]; decide), if_neg (by omega)]
  have s2 := yPs_step (nd := nd) (ne := ne) (g := g) (i := t + 1) (n - (t + 1))
  rw [show t + 1 + (n - (t + 1)) = n by omega, e, s1] at s2
  have := s2 t (ySub_rr t (yp_self t))
  rw [hg] at this
  cases this
theorem yCl_in {H t : Nat} (hH : yClosed nd ne n H) (ht : t < n) (hs : ySub g H) (hc : ¬ wones (ne t &&& g) < nd t) : H.testBit t = true := by
  cases e : H.testBit t with
  | true => rfl
  | false =>
    have a := hH t ht e
    have b := wones_mono (ySub_and (a := ne t) hs)
    omega
theorem yPs_min {H : Nat} (hH : yClosed nd ne n H) (hs : ySub g H) : ∀ i, i ≤ n → ySub (yPs nd ne g i) H
  | 0, _ => hs
  | i + 1, hi => by
    have ih := yPs_min hH hs i (by omega)
    rw [yPs_s]
    unfold yPsS
    split
    · exact ih
    · split
      · exact ih
      · rename_i hc
        exact ySub_or ih (ySub_p (yCl_in hH (by omega) ih hc))
theorem yPs_lt (hg : g < 2 ^ n) : ∀ i, i ≤ n → yPs nd ne g i < 2 ^ n
  | 0, _ => hg
  | i + 1, hi => by
    have ih := yPs_lt hg i (by omega)
    rw [yPs_s]
    unfold yPsS
    split
    · exact ih
    · split
      · exact ih
      · exact Nat.or_lt_two_pow ih (wp_lt (by omega))
/-- the train of f: the least closed set with f -/
def yCl (nd ne : Nat → Nat) (n f : Nat) : Nat := yIter (fun g => yPs nd ne g n) n (2 ^ f)
theorem yCl_fix (hn : n ≤ 7) (hf : f < n) : yPs nd ne (yCl nd ne n f) n = yCl nd ne n f :=
  yIter_end (F := fun g => yPs nd ne g n) hn (fun g hg => yPs_lt hg n (Nat.le_refl _)) (fun g => yPs_sub n) (wp_lt hf) (by rw [wones_p f (by omega)]; exact Nat.le_refl _)
theorem yCl_closed (hn : n ≤ 7) (hf : f < n) : yClosed nd ne n (yCl nd ne n f) := yPs_fix (yCl_fix hn hf)
theorem yCl_has : (yCl nd ne n f).testBit f = true := yIter_sub (F := fun g => yPs nd ne g n) (fun g => yPs_sub n) n f (yp_self f)
theorem yCl_lt (hf : f < n) : yCl nd ne n f < 2 ^ n := yIter_lt (F := fun g => yPs nd ne g n) (fun g hg => yPs_lt hg n (Nat.le_refl _)) (wp_lt hf) n
theorem yCl_128 (hn : n ≤ 7) (hf : f < n) : yCl nd ne n f < 128 := Nat.lt_of_lt_of_le (yCl_lt hf) (w2n hn)
theorem yCl_min {H : Nat} (hH : yClosed nd ne n H) (hf : H.testBit f = true) : ySub (yCl nd ne n f) H := by
  have key : ∀ k, ySub (yIter (fun g => yPs nd ne g n) k (2 ^ f)) H := by
    intro k
    induction k with
    | zero => exact ySub_p hf
    | succ k ih => exact yPs_min hH ih n (Nat.le_refl _)
  exact key n
theorem yCl_uniq (hn : n ≤ 7) (hf : f < n) {G : Nat} (hG : yClosed nd ne n G) (h1 : G.testBit f = true) (h2 : ∀ H, yClosed nd ne n H → H.testBit f = true → ySub G H) : G = yCl nd ne n f :=
  ySub_as (h2 _ (yCl_closed hn hf) yCl_has) (yCl_min hG h1)
theorem yCl_cong {nd' ne' : Nat → Nat} (hn : n ≤ 7) (hf : f < n) (h : ∀ t, t < n → nd t = nd' t ∧ ne t = ne' t) : yCl nd ne n f = yCl nd' ne' n f := by
  have a : ∀ H, yClosed nd ne n H ↔ yClosed nd' ne' n H := fun H => ⟨fun q t ht hg => by have := q t ht hg; rw [(h t ht).1, (h t ht).2] at this; exact this, fun q t ht hg => by have := q t ht hg; rw [← (h t ht).1, ← (h t ht).2] at this; exact this⟩
  exact yCl_uniq hn hf ((a _).mp (yCl_closed hn hf)) yCl_has (fun H hH => yCl_min ((a H).mpr hH))
end CLO
