/-! LAYING: arrangements and their order -/
/-- an arrangement as a number: the order of numbers is that of arrangements -/
def yCo (p : Nat → Nat) : Nat → Nat
  | 0 => 0
  | n + 1 => yCo p n * 21 + p n
/-- how often v is in p -/
def yCnt (p : Nat → Nat) (v : Nat) : Nat → Nat
  | 0 => 0
  | n + 1 => yCnt p v n + if p n = v then 1 else 0
def yPm (p q : Nat → Nat) (n : Nat) : Prop := ∀ v, yCnt p v n = yCnt q v n
section LEX
variable {p q r : Nat → Nat} {n : Nat}
theorem yCo_cong : ∀ {n : Nat}, (∀ s, s < n → p s = q s) → yCo p n = yCo q n
  | 0, _ => rfl
  | n + 1, h => by
    show yCo p n * 21 + p n = yCo q n * 21 + q n
    rw [yCo_cong (n := n) (fun s hs => h s (by omega)), h n (by omega)]
theorem yCo_inj : ∀ {n : Nat}, (∀ s, s < n → p s ≤ 20) → (∀ s, s < n → q s ≤ 20) → yCo p n = yCo q n → ∀ s, s < n → p s = q s
  | 0, _, _, _ => fun s hs => absurd hs (Nat.not_lt_zero _)
  | n + 1, hp, hq, e => by
    have e' : yCo p n * 21 + p n = yCo q n * 21 + q n := e
    have a := hp n (by omega)
    have b := hq n (by omega)
    have ih := yCo_inj (n := n) (fun s hs => hp s (by omega)) (fun s hs => hq s (by omega)) (by omega)
    intro s hs
    by_cases es : s = n
    · subst es; omega
    · exact ih s (by omega)
theorem yCo_lt {d : Nat} : ∀ {n : Nat}, (∀ s, s < n → p s ≤ 20) → d < n → (∀ s, s < d → p s = q s) → p d < q d → yCo p n < yCo q n
  | 0, _, h, _, _ => absurd h (Nat.not_lt_zero _)
  | n + 1, hp, hd, he, hl => by
    show yCo p n * 21 + p n < yCo q n * 21 + q n
    have a := hp n (by omega)
    by_cases e : d = n
    · subst e
      rw [yCo_cong he]
      omega
    · have ih := yCo_lt (n := n) (fun s hs => hp s (by omega)) (by omega) he hl
      omega
theorem yCo_d : ∀ {n : Nat}, (∀ s, s < n → p s ≤ 20) → (∀ s, s < n → q s ≤ 20) → yCo p n < yCo q n → ∃ d, d < n ∧ (∀ s, s < d → p s = q s) ∧ p d < q d
  | 0, _, _, h => absurd h (Nat.lt_irrefl _)
  | n + 1, hp, hq, h => by
    have h' : yCo p n * 21 + p n < yCo q n * 21 + q n := h
    have a := hp n (by omega)
    have b := hq n (by omega)
    by_cases e : yCo p n < yCo q n
    · obtain ⟨d, d1, d2, d3⟩ := yCo_d (n := n) (fun s hs => hp s (by omega)) (fun s hs => hq s (by omega)) e
      exact ⟨d, by omega, d2, d3⟩
    · have e2 : yCo p n = yCo q n := by omega
      exact ⟨n, by omega, yCo_inj (fun s hs => hp s (by omega)) (fun s hs => hq s (by omega)) e2, by omega⟩
theorem yCnt_cong {v : Nat} : ∀ {n : Nat}, (∀ s, s < n → p s = q s) → yCnt p v n = yCnt q v n
  | 0, _ => rfl
  | n + 1, h => by
    show yCnt p v n + _ = yCnt q v n + _
    rw [yCnt_cong (n := n) (fun s hs => h s (by omega)), h n (by omega)]
theorem yCnt_up {i a v : Nat} : ∀ {n : Nat}, i < n → yCnt (fun t => if t = i then a else p t) v n + (if p i = v then 1 else 0) = yCnt p v n + (if a = v then 1 else 0)
  | 0, h => absurd h (Nat.not_lt_zero _)
  | n + 1, h => by
    show yCnt (fun t => if t = i then a else p t) v n + (if (if n = i then a else p n) = v then 1 else 0) + _ = yCnt p v n + (if p n = v then 1 else 0) + _
    by_cases e : n = i
    · subst e
      rw [yCnt_cong (p := fun t => if t = n then a else p t) (q := p) (fun s hs => if_neg (by omega)), if_pos rfl]
      omega
    · have ih := yCnt_up (a := a) (v := v) (n := n) (show i < n by omega)
      rw [if_neg e]
      omega
theorem yCnt_sw {a b v : Nat} (ha : a < n) (hb : b < n) : yCnt (ySw p a b) v n = yCnt p v n := by
  by_cases e : a = b
  · subst e
    refine yCnt_cong fun s hs => ?_
    unfold ySw
    by_cases es : s = a
    · rw [if_pos es, es]
    · rw [if_neg es, if_neg es]
  · have e1 := yCnt_up (p := p) (i := b) (a := p a) (v := v) hb
    have e2 := yCnt_up (p := fun t => if t = b then p a else p t) (i := a) (a := p b) (v := v) ha
    have e3 : (if a = b then p a else p a) = p a := if_neg e
    rw [e3] at e2
    have e4 : yCnt (ySw p a b) v n = yCnt (fun t => if t = a then p b else if t = b then p a else p t) v n := rfl
    rw [e4]
    omega
theorem yPm_sw {a b : Nat} (ha : a < n) (hb : b < n) : yPm (ySw p a b) p n := fun v => yCnt_sw ha hb
theorem yPm_t (a : yPm p q n) (b : yPm q r n) : yPm p r n := fun v => (a v).trans (b v)
theorem yPm_s (a : yPm p q n) : yPm q p n := fun v => (a v).symm
theorem yCnt_mono {v : Nat} {a b : Nat} (h : a ≤ b) : yCnt p v a ≤ yCnt p v b := by
  induction b with
  | zero => rw [show a = 0 by omega]; exact Nat.le_refl _
  | succ b ih =>
    by_cases e : a = b + 1
    · rw [e]; exact Nat.le_refl _
    · exact Nat.le_trans (ih (by omega)) (Nat.le_add_right _ _)
theorem yCnt_ex {v d : Nat} : ∀ {n : Nat}, yCnt p v d < yCnt p v n → ∃ s, d ≤ s ∧ s < n ∧ p s = v
  | 0, h => absurd h (Nat.not_lt_zero _)
  | n + 1, h => by
    have h' : yCnt p v d < yCnt p v n + if p n = v then 1 else 0 := h
    by_cases e : yCnt p v d < yCnt p v n
    · obtain ⟨s, a, b, c⟩ := yCnt_ex e
      exact ⟨s, a, by omega, c⟩
    · by_cases ev : p n = v
      · refine ⟨n, ?_, by omega, ev⟩
        by_cases dn : d ≤ n
        · exact dn
        · have : yCnt p v (n + 1) ≤ yCnt p v d := yCnt_mono (by omega)
          omega
      · rw [if_neg ev] at h'
        omega
/-- where p first differs, its value is among q's rest -/
theorem yPm_rest (h : yPm p q n) {d : Nat} (hd : d < n) (he : ∀ s, s < d → p s = q s) : ∃ s, d ≤ s ∧ s < n ∧ q s = p d := by
  refine yCnt_ex ?_
  have a : yCnt p (p d) (d + 1) = yCnt p (p d) d + 1 := by
    show yCnt p (p d) d + (if p d = p d then 1 else 0) = _
    rw [if_pos rfl]
  have b : yCnt p (p d) (d + 1) ≤ yCnt p (p d) n := yCnt_mono (by omega)
  have c : yCnt p (p d) d = yCnt q (p d) d := yCnt_cong he
  have e := h (p d)
  omega
theorem yfall (h : yPm p q n) (hp : ∀ s, s < n → p s ≤ 20) (hq : ∀ s, s < n → q s ≤ 20) (fall : ∀ s t, s ≤ t → t < n → q t ≤ q s) : yCo p n ≤ yCo q n := by
  apply Nat.le_of_not_lt
  intro hh
  obtain ⟨d, d1, d2, d3⟩ := yCo_d hq hp hh
  obtain ⟨s, s1, s2, s3⟩ := yPm_rest h d1 (fun s hs => (d2 s hs).symm)
  have := fall d s s1 s2
  omega
theorem yrise {i : Nat} (h : yPm p q n) (hp : ∀ s, s < n → p s ≤ 20) (hq : ∀ s, s < n → q s ≤ 20) (ag : ∀ s, s < i → p s = q s) (rise : ∀ s t, i ≤ s → s ≤ t → t < n → q s ≤ q t) : yCo q n ≤ yCo p n := by
  apply Nat.le_of_not_lt
  intro hh
  obtain ⟨d, d1, d2, d3⟩ := yCo_d hp hq hh
  have di : i ≤ d := by
    apply Nat.le_of_not_lt
    intro hd
    have := ag d hd
    omega
  obtain ⟨s, s1, s2, s3⟩ := yPm_rest h d1 d2
  have := rise d s di s1 s2
  omega
/-- the next arrangement: there is none between -/
theorem ysucc {i j : Nat} (hp : ∀ s, s < n → p s ≤ 20) (hq : ∀ s, s < n → q s ≤ 20) (hr : ∀ s, s < n → r s ≤ 20) (pq : yPm p q n) (rq : yPm r q n) (hij : i < j) (hj : j < n) (fall : ∀ s t, i < s → s ≤ t → t < n → q t ≤ q s) (qj : q i < q j) (last : ∀ t, j < t → t < n → q t ≤ q i) (ag : ∀ s, s < i → r s = q s) (ri : r i = q j) (rise : ∀ s t, i < s → s ≤ t → t < n → r s ≤ r t) (lt : yCo q n < yCo p n) : yCo r n ≤ yCo p n := by
  obtain ⟨d, d1, d2, d3⟩ := yCo_d hq hp lt
  rcases Nat.lt_trichotomy d i with z | z | z
  · apply Nat.le_of_lt
    refine yCo_lt (d := d) hr d1 (fun s hs => (ag s (by omega)).trans (d2 s hs)) ?_
    rw [ag d z]; exact d3
  · subst z
    obtain ⟨s, s1, s2, s3⟩ := yPm_rest pq d1 (fun s hs => (d2 s hs).symm)
    have sd : d < s := by
      apply Nat.lt_of_le_of_ne s1
      intro e
      subst e
      omega
    have le : q j ≤ p d := by
      rw [← s3]
      by_cases e : s ≤ j
      · exact fall s j sd e hj
      · have := last s (by omega) s2
        omega
    by_cases e : p d = q j
    · refine yrise (i := d + 1) (yPm_t pq (yPm_s rq)) hp hr (fun s hs => ?_) (fun s t a b c => rise s t (by omega) b c)
      by_cases es : s = d
      · subst es; rw [e, ri]
      · rw [ag s (by omega), d2 s (by omega)]
    · apply Nat.le_of_lt
      refine yCo_lt (d := d) hr d1 (fun s hs => (ag s hs).trans (d2 s hs)) ?_
      rw [ri]; omega
  · obtain ⟨s, s1, s2, s3⟩ := yPm_rest pq d1 (fun s hs => (d2 s hs).symm)
    have := fall d s z s1 s2
    omega
theorem ysucc_lt {i j : Nat} (hq : ∀ s, s < n → q s ≤ 20) (hi : i < n) (qj : q i < q j) (ag : ∀ s, s < i → r s = q s) (ri : r i = q j) : yCo q n < yCo r n :=
  yCo_lt (d := i) hq hi (fun s hs => (ag s hs).symm) (by rw [ri]; exact qj)
/-! all arrangements in a list -/
def yPls : Nat → (Nat → Nat) → List Nat
  | 0, _ => [0]
  | n + 1, pl => (List.range (n + 1)).flatMap fun k => (yPls n (ySw pl k n)).map fun c => c * 21 + pl k
theorem yflat {B : Nat} {f : Nat → List Nat} : ∀ (l : List Nat), (∀ k, (f k).length ≤ B) → (l.flatMap f).length ≤ l.length * B
  | [], _ => by simp
  | a :: l, h => by
    have ih := yflat l h
    have := h a
    simp only [List.flatMap_cons, List.length_append, List.length_cons, Nat.add_mul, Nat.one_mul]
    omega
theorem yPls_len : ∀ (n : Nat) (pl : Nat → Nat), (yPls n pl).length ≤ [1, 1, 2, 6, 24, 120, 720, 5040].getD n 0 ∨ 7 < n
  | 0, _ => Or.inl (Nat.le_refl 1)
  | n + 1, pl => by
    by_cases h7 : 7 < n + 1
    · exact Or.inr h7
    · left
      have hh : ∀ k, ((yPls n (ySw pl k n)).map fun c => c * 21 + pl k).length ≤ [1, 1, 2, 6, 24, 120, 720, 5040].getD n 0 := fun k => by
        rw [List.length_map]
        rcases yPls_len n (ySw pl k n) with h | h
        · exact h
        · omega
      have := yflat (List.range (n + 1)) hh
      rw [List.length_range] at this
      refine Nat.le_trans this ?_
      rcases (by omega : n = 0 ∨ n = 1 ∨ n = 2 ∨ n = 3 ∨ n = 4 ∨ n = 5 ∨ n = 6) with rfl | rfl | rfl | rfl | rfl | rfl | rfl <;> decide
theorem yPls_mem : ∀ (n : Nat) (pl p : Nat → Nat), yPm p pl n → yCo p n ∈ yPls n pl
  | 0, _, _, _ => List.mem_singleton.mpr rfl
  | n + 1, pl, p, h => by
    have e1 : yCnt p (p n) (n + 1) = yCnt p (p n) n + 1 := by
      show yCnt p (p n) n + (if p n = p n then 1 else 0) = _
      rw [if_pos rfl]
    have e2 := h (p n)
    obtain ⟨k, -, k1, k2⟩ := yCnt_ex (p := pl) (v := p n) (d := 0) (n := n + 1) (by show 0 < _; omega)
    have hs : yPm p (ySw pl k n) (n + 1) := yPm_t h (yPm_s (yPm_sw k1 (by omega)))
    have sn : ySw pl k n n = p n := by
      unfold ySw
      by_cases e : n = k
      · rw [if_pos e, e] ; rw [← e] at k2 ⊢; exact k2
      · rw [if_neg e, if_pos rfl]; exact k2
    have hn : yPm p (ySw pl k n) n := fun v => by
      have := hs v
      have a : yCnt p v n + (if p n = v then 1 else 0) = yCnt (ySw pl k n) v n + (if ySw pl k n n = v then 1 else 0) := this
      rw [sn] at a
      omega
    refine List.mem_flatMap.mpr ⟨k, List.mem_range.mpr k1, List.mem_map.mpr ⟨yCo p n, yPls_mem n _ p hn, ?_⟩⟩
    show yCo p n * 21 + pl k = yCo p n * 21 + p n
    rw [k2]
/-- how many of the list are greater -/
def yGt (L : List Nat) (a : Nat) : Nat := (L.filter fun x => decide (a < x)).length
theorem yGt_le (a b : Nat) (h : a ≤ b) : ∀ L : List Nat, yGt L b ≤ yGt L a
  | [] => Nat.le_refl _
  | x :: L => by
    have ih := yGt_le a b h L
    unfold yGt at *
    rw [List.filter_cons, List.filter_cons]
    by_cases e : b < x
    · rw [if_pos (by simpa using e), if_pos (by simp; omega), List.length_cons, List.length_cons]; omega
    · rw [if_neg (by simpa using e)]
      split
      · rw [List.length_cons]; omega
      · exact ih
theorem yGt_lt {a b : Nat} (h : a < b) : ∀ {L : List Nat}, b ∈ L → yGt L b < yGt L a
  | [], hb => absurd hb List.not_mem_nil
  | x :: L, hb => by
    have ih := yGt_le a b (Nat.le_of_lt h) L
    by_cases e : x = b
    · subst e
      unfold yGt at *
      rw [List.filter_cons, List.filter_cons, if_neg (by simp), if_pos (by simpa using h), List.length_cons]
      omega
    · have hb' : b ∈ L := by
        rcases List.mem_cons.mp hb with z | z
        · exact absurd z.symm e
        · exact z
      have ih2 := yGt_lt h hb'
      unfold yGt at *
      rw [List.filter_cons, List.filter_cons]
      by_cases e2 : b < x
      · rw [if_pos (by simpa using e2), if_pos (by simp; omega), List.length_cons, List.length_cons]; omega
      · rw [if_neg (by simpa using e2)]
        split
        · rw [List.length_cons]; omega
        · exact ih2
theorem yGt_len (L : List Nat) (a : Nat) : yGt L a ≤ L.length := List.length_filter_le _ _
end LEX
/-! the answer -/
/-- best and row: the least greatest train, and the first arrangement that has it -/
def yBst (c : wC) (b : Nat) (row : Nat → Nat) : Prop := yPm row (c.2.2.2 5) c.1 ∧ (∀ s, s < c.1 → row s ≤ 20) ∧ yGs c row = b ∧ (∀ p, yPm p (c.2.2.2 5) c.1 → (∀ s, s < c.1 → p s ≤ 20) → b ≤ yGs c p ∧ (yCo p c.1 < yCo row c.1 → b < yGs c p))
theorem yBst_one {c : wC} {b b' : Nat} {row row' : Nat → Nat} (h : yBst c b row) (h' : yBst c b' row') : b = b' ∧ ∀ s, s < c.1 → row s = row' s := by
  obtain ⟨a1, a2, a3, a4⟩ := h
  obtain ⟨d1, d2, d3, d4⟩ := h'
  have e : b = b' := by
    have x := (a4 row' d1 d2).1
    have y := (d4 row a1 a2).1
    omega
  refine ⟨e, ?_⟩
  apply yCo_inj a2 d2
  rcases Nat.lt_trichotomy (yCo row c.1) (yCo row' c.1) with z | z | z
  · have := (d4 row a1 a2).2 z; omega
  · exact z
  · have := (a4 row' d1 d2).2 z; omega
