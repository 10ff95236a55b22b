/-! A STATE IN THE HEAP: scalars and rows of the years' run, laid into cells by a layout -/
abbrev wS : Type := (Nat → Int32) × (Nat → Nat → Int32)
/-- how many scalars, how many rows, a scalar's cell, a row's address, a row's length -/
abbrev wA : Type := Nat × Nat × (Nat → Nat × Nat) × (Nat → Nat) × (Nat → Nat)
def wia (A : wA) (a k : Nat) : Nat := fa_first (fun i => decide (A.2.2.1 i = (a, k))) A.1
def wra (A : wA) (a : Nat) : Nat := fa_first (fun r => decide (A.2.2.2.1 r = a)) A.2.1
def lS (A : wA) (h : zK) (σ : wS) : zK := (h.1, fun a k => if wia A a k < A.1 then σ.1 (wia A a k) else if wra A a < A.2.1 ∧ k < A.2.2.2.2 (wra A a) then σ.2 (wra A a) k else h.2.1 a k, h.2.2)
def wLay (A : wA) : Prop := (∀ i, i < A.1 → ∀ j, j < A.1 → A.2.2.1 i = A.2.2.1 j → i = j) ∧ (∀ r, r < A.2.1 → ∀ q, q < A.2.1 → A.2.2.2.1 r = A.2.2.2.1 q → r = q) ∧ ∀ i, i < A.1 → ∀ r, r < A.2.1 → (A.2.2.1 i).1 ≠ A.2.2.2.1 r
theorem fa_first_eq {p : Nat → Bool} {n i : Nat} (hi : i < n) (hp : p i = true) (hu : ∀ j, j < n → p j = true → j = i) : fa_first p n = i := by
  have h1 : fa_first p n ≤ i := by
    apply Nat.le_of_not_lt
    intro hh
    have := fa_first_no p n i hh
    rw [hp] at this
    cases this
  exact hu _ (by omega) (fa_first_yes p n (by omega))
theorem fa_first_none {p : Nat → Bool} {n : Nat} (h : ∀ i, i < n → p i = false) : fa_first p n = n := by
  have h1 := fa_first_le p n
  apply Nat.le_antisymm h1
  apply Nat.le_of_not_lt
  intro hh
  have h2 := fa_first_yes p n hh
  rw [h _ hh] at h2
  cases h2
section LAY
variable {A : wA} {h : zK} {σ : wS}
theorem wia_at (L : wLay A) {i a k : Nat} (hi : i < A.1) (e : A.2.2.1 i = (a, k)) : wia A a k = i :=
  fa_first_eq hi (decide_eq_true e) fun j hj hp => L.1 j hj i hi ((of_decide_eq_true hp).trans e.symm)
theorem wia_sc {a k : Nat} (hh : wia A a k < A.1) : A.2.2.1 (wia A a k) = (a, k) := of_decide_eq_true (fa_first_yes (fun i => decide (A.2.2.1 i = (a, k))) A.1 hh)
theorem wra_at (L : wLay A) {r a : Nat} (hr : r < A.2.1) (e : A.2.2.2.1 r = a) : wra A a = r :=
  fa_first_eq hr (decide_eq_true e) fun j hj hp => L.2.1 j hj r hr ((of_decide_eq_true hp).trans e.symm)
theorem wra_rw {a : Nat} (hh : wra A a < A.2.1) : A.2.2.2.1 (wra A a) = a := of_decide_eq_true (fa_first_yes (fun r => decide (A.2.2.2.1 r = a)) A.2.1 hh)
theorem wia_row (L : wLay A) {r : Nat} (hr : r < A.2.1) (k : Nat) : ¬ wia A (A.2.2.2.1 r) k < A.1 := fun hh => by
  have := wia_sc hh
  exact L.2.2 _ hh r hr (by rw [this])
/-- reading -/
theorem lS_sc (L : wLay A) {i a k : Nat} (hi : i < A.1) (e : A.2.2.1 i = (a, k)) : gI (lS A h σ) a k = σ.1 i := by
  unfold gI lS
  dsimp only
  rw [wia_at L hi e, if_pos hi]
theorem lS_rw (L : wLay A) {r a k : Nat} (hr : r < A.2.1) (e : A.2.2.2.1 r = a) (hk : k < A.2.2.2.2 r) : gI (lS A h σ) a k = σ.2 r k := by
  unfold gI lS
  dsimp only
  subst e
  rw [if_neg (wia_row L hr k), wra_at L hr rfl, if_pos ⟨hr, hk⟩]
theorem lS_ot {a k : Nat} (h1 : ∀ i, i < A.1 → A.2.2.1 i ≠ (a, k)) (h2 : ∀ r, r < A.2.1 → A.2.2.2.1 r ≠ a) : gI (lS A h σ) a k = gI h a k := by
  unfold gI lS
  dsimp only
  rw [if_neg (fun hh => h1 _ hh (wia_sc hh)), if_neg (fun hh => h2 _ hh.1 (wra_rw hh.1))]
/-- writing -/
theorem lS_ws (L : wLay A) {i a k : Nat} {v : Int32} (hi : i < A.1) (e : A.2.2.1 i = (a, k)) : sI (lS A h σ) a k v = lS A h (upd σ.1 i v, σ.2) := by
  unfold sI lS
  refine Prod.ext rfl (Prod.ext ?_ rfl)
  funext b j
  dsimp only
  unfold zu
  by_cases hb : b = a ∧ j = k
  · obtain ⟨rfl, rfl⟩ := hb
    rw [if_pos ⟨rfl, rfl⟩, wia_at L hi e, if_pos hi]
    unfold upd
    rw [if_pos rfl]
  · rw [if_neg hb]
    dsimp only
    by_cases hh : wia A b j < A.1
    · rw [if_pos hh, if_pos hh]
      unfold upd
      rw [if_neg]
      intro z
      have := wia_sc hh
      rw [z, e] at this
      cases this
      exact hb ⟨rfl, rfl⟩
    · rw [if_neg hh, if_neg hh]
theorem lS_ws0 {i : Nat} {v : Int32} (hi : ¬ i < A.1) : lS A h (upd σ.1 i v, σ.2) = lS A h σ := by
  unfold lS
  refine Prod.ext rfl (Prod.ext ?_ rfl)
  funext b j
  dsimp only
  by_cases hh : wia A b j < A.1
  · rw [if_pos hh, if_pos hh]
    unfold upd
    rw [if_neg (fun z : wia A b j = i => hi (z ▸ hh))]
  · rw [if_neg hh, if_neg hh]
theorem lS_wr (L : wLay A) {r a k : Nat} {v : Int32} (hr : r < A.2.1) (e : A.2.2.2.1 r = a) (hk : k < A.2.2.2.2 r) : sI (lS A h σ) a k v = lS A h (σ.1, zu σ.2 r k v) := by
  subst e
  unfold sI lS
  refine Prod.ext rfl (Prod.ext ?_ rfl)
  funext b j
  dsimp only
  unfold zu
  by_cases hb : b = A.2.2.2.1 r ∧ j = k
  · obtain ⟨rfl, rfl⟩ := hb
    rw [if_pos ⟨rfl, rfl⟩, if_neg (wia_row L hr _), wra_at L hr rfl, if_pos ⟨hr, hk⟩, if_pos ⟨rfl, rfl⟩]
  · rw [if_neg hb]
    dsimp only
    by_cases hh : wia A b j < A.1
    · rw [if_pos hh, if_pos hh]
    · rw [if_neg hh, if_neg hh]
      by_cases h2 : wra A b < A.2.1 ∧ j < A.2.2.2.2 (wra A b)
      · rw [if_pos h2, if_pos h2, if_neg]
        rintro ⟨z1, z2⟩
        have := wra_rw h2.1
        rw [z1] at this
        exact hb ⟨this.symm, z2⟩
      · rw [if_neg h2, if_neg h2]
theorem lS_wr0 {r k : Nat} {v : Int32} (hr : ¬ r < A.2.1) : lS A h (σ.1, zu σ.2 r k v) = lS A h σ := by
  unfold lS
  refine Prod.ext rfl (Prod.ext ?_ rfl)
  funext b j
  dsimp only
  by_cases hh : wia A b j < A.1
  · rw [if_pos hh, if_pos hh]
  · rw [if_neg hh, if_neg hh]
    by_cases h2 : wra A b < A.2.1 ∧ j < A.2.2.2.2 (wra A b)
    · rw [if_pos h2, if_pos h2]
      unfold zu
      rw [if_neg (fun z : wra A b = r ∧ j = k => hr (z.1 ▸ h2.1))]
    · rw [if_neg h2, if_neg h2]
/-- a heap whose cells hold a state is that state's -/
theorem lS_self (hs : ∀ i, i < A.1 → gI h (A.2.2.1 i).1 (A.2.2.1 i).2 = σ.1 i) (hr : ∀ r, r < A.2.1 → ∀ k, k < A.2.2.2.2 r → gI h (A.2.2.2.1 r) k = σ.2 r k) : lS A h σ = h := by
  unfold lS
  refine Prod.ext rfl (Prod.ext ?_ rfl)
  funext b j
  dsimp only
  by_cases hh : wia A b j < A.1
  · rw [if_pos hh, ← hs _ hh, wia_sc hh]
    rfl
  · rw [if_neg hh]
    by_cases h2 : wra A b < A.2.1 ∧ j < A.2.2.2.2 (wra A b)
    · rw [if_pos h2, ← hr _ h2.1 j h2.2, wra_rw h2.1]
      rfl
    · rw [if_neg h2]
end LAY
/-- scalars: year, heard, bursts, gone, wired, tainted, waste, fond, spoilt, moves, fondWit; rows: wit, fizz, cork, place, burstsIn -/
def wLc (n o : Nat) : wA := (11, 5, fun i => (o, [0, 11, 1, 2, 12, 13, 7, 6, 8, 9, 14].getD i 100), fun r => o + [10, 11, 12, 13, 1].getD r 100, fun r => if r = 4 then 51 else n)
def wLm (n : Nat) : wA := (7, 4, fun i => (215, 26 + i), fun r => 226 + r, fun _ => n)
theorem wLc_i : ∀ i, i < 11 → ∀ j, j < 11 → [0, 11, 1, 2, 12, 13, 7, 6, 8, 9, 14].getD i 100 = [0, 11, 1, 2, 12, 13, 7, 6, 8, 9, 14].getD j 100 → i = j := by decide
theorem wLc_r : ∀ i, i < 5 → ∀ j, j < 5 → [10, 11, 12, 13, 1].getD i 100 = [10, 11, 12, 13, 1].getD j 100 → i = j := by decide
theorem wLc_p : ∀ i, i < 5 → [10, 11, 12, 13, 1].getD i 100 ≠ 0 := by decide
theorem wLc_ok (n o : Nat) : wLay (wLc n o) := by
  refine ⟨fun i hi j hj e => ?_, fun r hr q hq e => ?_, fun i hi r hr e => ?_⟩
  · exact wLc_i i hi j hj (Prod.mk.inj e).2
  · exact wLc_r r hr q hq (Nat.add_left_cancel e)
  · exact wLc_p r hr (by have : o = o + [10, 11, 12, 13, 1].getD r 100 := e; omega)
theorem wLm_ok (n : Nat) : wLay (wLm n) := by
  refine ⟨fun i hi j hj e => ?_, fun r hr q hq e => ?_, fun i hi r hr e => ?_⟩
  · have := (Prod.mk.inj e).2
    omega
  · have : 226 + r = 226 + q := e
    omega
  · have : 215 = 226 + r := e
    omega
