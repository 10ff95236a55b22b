/-! IMAGES: copies of all that is told -/
theorem gI_c_ne {h : zK} {a b n x j : Nat} (hx : x ≠ b) : gI (cI h a b 0 0 n) x j = gI h x j := by
  unfold gI cI
  dsimp only
  rw [zrow_ne _ _ hx]
theorem gI_c_in {h : zK} {a b n j : Nat} (hj : j < n) : gI (cI h a b 0 0 n) b j = gI h a j := by
  unfold gI cI
  dsimp only
  rw [zrow_eq]
  unfold va_cpy
  rw [if_pos ⟨Nat.zero_le _, by omega⟩, Nat.zero_add, Nat.sub_zero]
/-- cells outside are as they were -/
def yOut (lo hi : Nat) (h h' : zK) : Prop := h'.2.2 = h.2.2 ∧ ∀ x, (x < lo ∨ hi ≤ x) → ∀ j, gI h' x j = gI h x j
theorem yOut_r {lo hi : Nat} {h : zK} : yOut lo hi h h := ⟨rfl, fun _ _ _ => rfl⟩
theorem yOut_t {lo hi lo' hi' : Nat} {h h1 h2 : zK} (a : yOut lo hi h h1) (b : yOut lo' hi' h1 h2) (h3 : lo ≤ lo') (h4 : hi' ≤ hi) : yOut lo hi h h2 := ⟨b.1.trans a.1, fun x hx j => (b.2 x (by omega) j).trans (a.2 x hx j)⟩
theorem yOut_s {lo hi : Nat} {h : zK} {a k : Nat} {v : Int32} (h1 : lo ≤ a) (h2 : a < hi) : yOut lo hi h (sI h a k v) := ⟨rfl, fun x hx j => gI_ne (by omega)⟩
theorem yOut_c {lo hi : Nat} {h : zK} {a b n : Nat} (h1 : lo ≤ b) (h2 : b < hi) : yOut lo hi h (cI h a b 0 0 n) := ⟨rfl, fun x hx j => gI_c_ne (by omega)⟩
section BEC
variable {h : zK} {p q : Nat}
theorem qCe_become_ev (hd : p + 8 ≤ q ∨ q + 8 ≤ p) : ∃ h', qCe_become p q h = some h' ∧ yOut p (p + 8) h h' ∧ (∀ j, j < 3 → gI h' p j = gI h q j) ∧ ∀ i j, i < 7 → j < 7 → gI h' (p + 1 + i) j = gI h (q + 1 + i) j := by
  unfold qCe_become
  simp only [zlet]
  refine ⟨_, rfl, ?_, fun j hj => ?_, fun i j hi hj => ?_⟩
  · refine ⟨rfl, fun x hx j => ?_⟩
    rw [gI_c_ne (by omega), gI_c_ne (by omega), gI_c_ne (by omega), gI_c_ne (by omega), gI_c_ne (by omega), gI_c_ne (by omega), gI_c_ne (by omega), gI_ne (by omega), gI_ne (by omega), gI_ne (by omega)]
  · rw [gI_c_ne (by omega), gI_c_ne (by omega), gI_c_ne (by omega), gI_c_ne (by omega), gI_c_ne (by omega), gI_c_ne (by omega), gI_c_ne (by omega)]
    rcases (by omega : j = 0 ∨ j = 1 ∨ j = 2) with rfl | rfl | rfl
    · rw [gI_nk (by decide), gI_nk (by decide), gI_eq]
    · rw [gI_nk (by decide), gI_eq, gI_ne (by omega)]
    · rw [gI_eq, gI_ne (by omega), gI_ne (by omega)]
  · have hs : ∀ x j, x ≠ p → gI (sI (sI (sI h p 0 (gI h q 0)) p 1 (gI (sI h p 0 (gI h q 0)) q 1)) p 2 (gI (sI (sI h p 0 (gI h q 0)) p 1 (gI (sI h p 0 (gI h q 0)) q 1)) q 2)) x j = gI h x j := fun x j hx => by
      rw [gI_ne hx, gI_ne hx, gI_ne hx]
    rcases (by omega : i = 0 ∨ i = 1 ∨ i = 2 ∨ i = 3 ∨ i = 4 ∨ i = 5 ∨ i = 6) with rfl | rfl | rfl | rfl | rfl | rfl | rfl
    · rw [gI_c_ne (by omega), gI_c_ne (by omega), gI_c_ne (by omega), gI_c_ne (by omega), gI_c_ne (by omega), gI_c_ne (by omega), gI_c_in hj, hs _ _ (by omega)]
    · rw [gI_c_ne (by omega), gI_c_ne (by omega), gI_c_ne (by omega), gI_c_ne (by omega), gI_c_ne (by omega), gI_c_in hj, gI_c_ne (by omega), hs _ _ (by omega)]
    · rw [gI_c_ne (by omega), gI_c_ne (by omega), gI_c_ne (by omega), gI_c_ne (by omega), gI_c_in hj, gI_c_ne (by omega), gI_c_ne (by omega), hs _ _ (by omega)]
    · rw [gI_c_ne (by omega), gI_c_ne (by omega), gI_c_ne (by omega), gI_c_in hj, gI_c_ne (by omega), gI_c_ne (by omega), gI_c_ne (by omega), hs _ _ (by omega)]
    · rw [gI_c_ne (by omega), gI_c_ne (by omega), gI_c_in hj, gI_c_ne (by omega), gI_c_ne (by omega), gI_c_ne (by omega), gI_c_ne (by omega), hs _ _ (by omega)]
    · rw [gI_c_ne (by omega), gI_c_in hj, gI_c_ne (by omega), gI_c_ne (by omega), gI_c_ne (by omega), gI_c_ne (by omega), gI_c_ne (by omega), hs _ _ (by omega)]
    · rw [gI_c_in hj, gI_c_ne (by omega), gI_c_ne (by omega), gI_c_ne (by omega), gI_c_ne (by omega), gI_c_ne (by omega), gI_c_ne (by omega), hs _ _ (by omega)]
theorem qDe_become_ev (hd : p + 4 ≤ q ∨ q + 4 ≤ p) : ∃ h', qDe_become p q h = some h' ∧ yOut p (p + 4) h h' ∧ gI h' p 0 = gI h q 0 ∧ ∀ i j, i < 3 → j < 40 → gI h' (p + 1 + i) j = gI h (q + 1 + i) j := by
  unfold qDe_become
  simp only [zlet]
  refine ⟨_, rfl, ?_, ?_, fun i j hi hj => ?_⟩
  · refine ⟨rfl, fun x hx j => ?_⟩
    rw [gI_c_ne (by omega), gI_c_ne (by omega), gI_c_ne (by omega), gI_ne (by omega)]
  · rw [gI_c_ne (by omega), gI_c_ne (by omega), gI_c_ne (by omega), gI_eq]
  · rcases (by omega : i = 0 ∨ i = 1 ∨ i = 2) with rfl | rfl | rfl
    · rw [gI_c_ne (by omega), gI_c_ne (by omega), gI_c_in hj, gI_ne (by omega)]
    · rw [gI_c_ne (by omega), gI_c_in hj, gI_c_ne (by omega), gI_ne (by omega)]
    · rw [gI_c_in hj, gI_c_ne (by omega), gI_c_ne (by omega), gI_ne (by omega)]
theorem qLo_become_ev (hd : p + 3 ≤ q ∨ q + 3 ≤ p) : ∃ h', qLo_become p q h = some h' ∧ yOut p (p + 3) h h' ∧ gI h' p 0 = gI h q 0 ∧ ∀ i j, i < 2 → j < 8 → gI h' (p + 1 + i) j = gI h (q + 1 + i) j := by
  unfold qLo_become
  simp only [zlet]
  refine ⟨_, rfl, ?_, ?_, fun i j hi hj => ?_⟩
  · refine ⟨rfl, fun x hx j => ?_⟩
    rw [gI_c_ne (by omega), gI_c_ne (by omega), gI_ne (by omega)]
  · rw [gI_c_ne (by omega), gI_c_ne (by omega), gI_eq]
  · rcases (by omega : i = 0 ∨ i = 1) with rfl | rfl
    · rw [gI_c_ne (by omega), gI_c_in hj, gI_ne (by omega)]
    · rw [gI_c_in hj, gI_c_ne (by omega), gI_ne (by omega)]
/-- the cells of a Told that an image has -/
def yCv (i j : Nat) : Prop := (i = 0 ∧ 1 ≤ j ∧ j ≤ 3) ∨ (i = 1 ∧ j < 600) ∨ (i = 2 ∧ j < 3) ∨ ∃ k, k < 2 ∧ ((i = 6 + 15 * k ∧ j < 3) ∨ (7 + 15 * k ≤ i ∧ i < 14 + 15 * k ∧ j < 7) ∨ (i = 14 + 15 * k ∧ j = 0) ∨ (15 + 15 * k ≤ i ∧ i < 18 + 15 * k ∧ j < 40) ∨ (i = 18 + 15 * k ∧ j = 0) ∨ (19 + 15 * k ≤ i ∧ i < 21 + 15 * k ∧ j < 8))
def yTo (p : Nat) : Prop := p = 1 ∨ p = 38 ∨ p = 74 ∨ p = 110
theorem zaa_t {j : Nat} (hp : yTo p) (hj : j < 2) : zaa (p + 3) j = p + 6 + 15 * j ∧ zaa (p + 4) j = p + 14 + 15 * j ∧ zaa (p + 5) j = p + 18 + 15 * j := by
  rcases (by omega : j = 0 ∨ j = 1) with rfl | rfl <;> rcases hp with rfl | rfl | rfl | rfl <;> decide
theorem yPq1 {m : Nat} (hp : yTo p) (hq : yTo q) (hpq : (p = 1 ∧ q ≠ 1) ∨ (q = 1 ∧ p ≠ 1)) (hm : m < 2) : (p + 6 + 15 * m = 7 ∧ q + 6 + 15 * m = 44) ∨ (p + 6 + 15 * m = 22 ∧ q + 6 + 15 * m = 59) ∨ (p + 6 + 15 * m = 7 ∧ q + 6 + 15 * m = 80) ∨ (p + 6 + 15 * m = 22 ∧ q + 6 + 15 * m = 95) ∨ (p + 6 + 15 * m = 7 ∧ q + 6 + 15 * m = 116) ∨ (p + 6 + 15 * m = 22 ∧ q + 6 + 15 * m = 131) ∨ (p + 6 + 15 * m = 44 ∧ q + 6 + 15 * m = 7) ∨ (p + 6 + 15 * m = 59 ∧ q + 6 + 15 * m = 22) ∨ (p + 6 + 15 * m = 80 ∧ q + 6 + 15 * m = 7) ∨ (p + 6 + 15 * m = 95 ∧ q + 6 + 15 * m = 22) ∨ (p + 6 + 15 * m = 116 ∧ q + 6 + 15 * m = 7) ∨ (p + 6 + 15 * m = 131 ∧ q + 6 + 15 * m = 22) ∨ (p + 6 + 15 * m = 7 ∧ q + 6 + 15 * m = 148) ∨ (p + 6 + 15 * m = 22 ∧ q + 6 + 15 * m = 148) := by
  have h2 : (p = 1 ∧ (q = 38 ∨ q = 74 ∨ q = 110)) ∨ (q = 1 ∧ (p = 38 ∨ p = 74 ∨ p = 110)) := by
    unfold yTo at hp hq
    omega
  rcases h2 with ⟨rfl, h2⟩ | ⟨rfl, h2⟩ <;> rcases h2 with rfl | rfl | rfl <;> rcases (by omega : m = 0 ∨ m = 1) with rfl | rfl <;> decide
theorem yPq2 {m : Nat} (hp : yTo p) (hq : yTo q) (hpq : (p = 1 ∧ q ≠ 1) ∨ (q = 1 ∧ p ≠ 1)) (hm : m < 2) : (p + 14 + 15 * m = 15 ∧ q + 14 + 15 * m = 52) ∨ (p + 14 + 15 * m = 30 ∧ q + 14 + 15 * m = 67) ∨ (p + 14 + 15 * m = 15 ∧ q + 14 + 15 * m = 88) ∨ (p + 14 + 15 * m = 30 ∧ q + 14 + 15 * m = 103) ∨ (p + 14 + 15 * m = 15 ∧ q + 14 + 15 * m = 124) ∨ (p + 14 + 15 * m = 30 ∧ q + 14 + 15 * m = 139) ∨ (p + 14 + 15 * m = 52 ∧ q + 14 + 15 * m = 15) ∨ (p + 14 + 15 * m = 67 ∧ q + 14 + 15 * m = 30) ∨ (p + 14 + 15 * m = 88 ∧ q + 14 + 15 * m = 15) ∨ (p + 14 + 15 * m = 103 ∧ q + 14 + 15 * m = 30) ∨ (p + 14 + 15 * m = 124 ∧ q + 14 + 15 * m = 15) ∨ (p + 14 + 15 * m = 139 ∧ q + 14 + 15 * m = 30) ∨ (p + 14 + 15 * m = 15 ∧ q + 14 + 15 * m = 156) ∨ (p + 14 + 15 * m = 30 ∧ q + 14 + 15 * m = 156) := by
  have h2 : (p = 1 ∧ (q = 38 ∨ q = 74 ∨ q = 110)) ∨ (q = 1 ∧ (p = 38 ∨ p = 74 ∨ p = 110)) := by
    unfold yTo at hp hq
    omega
  rcases h2 with ⟨rfl, h2⟩ | ⟨rfl, h2⟩ <;> rcases h2 with rfl | rfl | rfl <;> rcases (by omega : m = 0 ∨ m = 1) with rfl | rfl <;> decide
theorem yPq3 {m : Nat} (hp : yTo p) (hq : yTo q) (hpq : (p = 1 ∧ q ≠ 1) ∨ (q = 1 ∧ p ≠ 1)) (hm : m < 2) : (p + 18 + 15 * m = 19 ∧ q + 18 + 15 * m = 56) ∨ (p + 18 + 15 * m = 34 ∧ q + 18 + 15 * m = 71) ∨ (p + 18 + 15 * m = 19 ∧ q + 18 + 15 * m = 92) ∨ (p + 18 + 15 * m = 34 ∧ q + 18 + 15 * m = 107) ∨ (p + 18 + 15 * m = 19 ∧ q + 18 + 15 * m = 128) ∨ (p + 18 + 15 * m = 34 ∧ q + 18 + 15 * m = 143) ∨ (p + 18 + 15 * m = 56 ∧ q + 18 + 15 * m = 19) ∨ (p + 18 + 15 * m = 71 ∧ q + 18 + 15 * m = 34) ∨ (p + 18 + 15 * m = 92 ∧ q + 18 + 15 * m = 19) ∨ (p + 18 + 15 * m = 107 ∧ q + 18 + 15 * m = 34) ∨ (p + 18 + 15 * m = 128 ∧ q + 18 + 15 * m = 19) ∨ (p + 18 + 15 * m = 143 ∧ q + 18 + 15 * m = 34) ∨ (p + 18 + 15 * m = 19 ∧ q + 18 + 15 * m = 160) ∨ (p + 18 + 15 * m = 34 ∧ q + 18 + 15 * m = 160) := by
  have h2 : (p = 1 ∧ (q = 38 ∨ q = 74 ∨ q = 110)) ∨ (q = 1 ∧ (p = 38 ∨ p = 74 ∨ p = 110)) := by
    unfold yTo at hp hq
    omega
  rcases h2 with ⟨rfl, h2⟩ | ⟨rfl, h2⟩ <;> rcases h2 with rfl | rfl | rfl <;> rcases (by omega : m = 0 ∨ m = 1) with rfl | rfl <;> decide
theorem qT_become_ev (hp : yTo p) (hq : yTo q) (hpq : (p = 1 ∧ q ≠ 1) ∨ (q = 1 ∧ p ≠ 1)) : ∃ h', qT_become p q h = some h' ∧ yOut p (p + 36) h h' ∧ ∀ i j, yCv i j → gI h' (p + i) j = gI h (q + i) j := by
  have hd : p + 36 ≤ q ∨ q + 36 ≤ p := by
    unfold yTo at hp hq
    omega
  let h6 : zK := cI (sI (sI (sI (cI h (q + 1) (p + 1) 0 0 600) p 1 (gI h q 1)) p 2 (gI h q 2)) p 3 (gI h q 3)) (q + 2) (p + 2) 0 0 3
  have o6 : yOut p (p + 36) h h6 := yOut_t (yOut_t (yOut_t (yOut_t (yOut_c (by omega) (by omega)) (yOut_s (lo := p) (hi := p + 36) (by omega) (by omega)) (by omega) (by omega)) (yOut_s (lo := p) (hi := p + 36) (by omega) (by omega)) (by omega) (by omega)) (yOut_s (lo := p) (hi := p + 36) (by omega) (by omega)) (by omega) (by omega)) (yOut_c (lo := p) (hi := p + 36) (by omega) (by omega)) (by omega) (by omega)
  have key : ∃ x, zloop (qT_become_b56 p q) zfu (0, h6) = some x ∧ (yOut p (p + 36) h x ∧ (∀ i j, i < 6 → gI x (p + i) j = gI h6 (p + i) j) ∧ ∀ k, k < 2 → ∀ i j, yCv i j → 6 + 15 * k ≤ i → i < 21 + 15 * k → gI x (p + i) j = gI h (q + i) j) := by
    refine zloop_fx (S := fun m x => ∃ g, x = (nI m, g) ∧ yOut p (p + 36) h g ∧ (∀ i j, i < 6 → gI g (p + i) j = gI h6 (p + i) j) ∧ ∀ k, k < m → ∀ i j, yCv i j → 6 + 15 * k ≤ i → i < 21 + 15 * k → gI g (p + i) j = gI h (q + i) j) 2 ?_ ?_ (zfu_lt (by omega)) ⟨h6, rfl, o6, fun _ _ _ => rfl, fun k hk => absurd hk (Nat.not_lt_zero _)⟩
    · rintro m x hm ⟨g, rfl, G1, G2, G3⟩
      obtain ⟨a1, a2, a3⟩ := zaa_t hp hm
      obtain ⟨b1, b2, b3⟩ := zaa_t hq hm
      obtain ⟨g1, e1, f1, f2, f3⟩ := qCe_become_ev (h := g) (p := p + 6 + 15 * m) (q := q + 6 + 15 * m) (by omega)
      obtain ⟨g2, e2, k1, k2, k3⟩ := qDe_become_ev (h := g1) (p := p + 14 + 15 * m) (q := q + 14 + 15 * m) (by omega)
      obtain ⟨g3, e3, l1, l2, l3⟩ := qLo_become_ev (h := g2) (p := p + 18 + 15 * m) (q := q + 18 + 15 * m) (by omega)
      have O3 : yOut (p + 6 + 15 * m) (p + 21 + 15 * m) g g3 := yOut_t (yOut_t ⟨f1.1, fun x hx j => f1.2 x (by omega) j⟩ (lo := p + 6 + 15 * m) (hi := p + 21 + 15 * m) ⟨k1.1, fun x hx j => k1.2 x (by omega) j⟩ (Nat.le_refl _) (Nat.le_refl _)) (lo' := p + 6 + 15 * m) (hi' := p + 21 + 15 * m) ⟨l1.1, fun x hx j => l1.2 x (by omega) j⟩ (Nat.le_refl _) (Nat.le_refl _)
      unfold qT_become_b56
      simp only [zlet]
      rw [if_neg (show ¬ (2 : Int32) ≤ nI m from nI_ge (b := 2) hm (by decide)), zix_nI (by omega) (by omega), Option.bind_some, a1, b1, if_pos (yPq1 hp hq hpq hm), e1, Option.bind_some, a2, b2, if_pos (yPq2 hp hq hpq hm), e2, Option.bind_some, a3, b3, if_pos (yPq3 hp hq hpq hm), e3, Option.bind_some, nI_1]
      refine ⟨_, rfl, g3, rfl, yOut_t G1 O3 (by omega) (by omega), fun i j hi => (O3.2 _ (by omega) j).trans (G2 i j hi), fun k hk i j hv h1 h2 => ?_⟩
      by_cases e : k = m
      · subst e
        have src : ∀ x j, (x < p ∨ p + 36 ≤ x) → gI g x j = gI h x j := fun x j hx => G1.2 x hx j
        rcases hv with hv | hv | hv | ⟨k', hk', hv⟩
        · omega
        · omega
        · omega
        · have ek : k' = k := by omega
          subst ek
          rcases hv with ⟨rfl, hj⟩ | ⟨i1, i2, hj⟩ | ⟨rfl, rfl⟩ | ⟨i1, i2, hj⟩ | ⟨rfl, rfl⟩ | ⟨i1, i2, hj⟩
          · rw [l1.2 _ (by omega), k1.2 _ (by omega), show p + (6 + 15 * k') = p + 6 + 15 * k' by omega, f2 j hj, src _ _ (by omega)]
            congr 1
            omega
          · obtain ⟨r, rfl⟩ : ∃ r, i = 7 + 15 * k' + r := ⟨i - (7 + 15 * k'), by omega⟩
            rw [l1.2 _ (by omega), k1.2 _ (by omega), show p + (7 + 15 * k' + r) = p + 6 + 15 * k' + 1 + r by omega, f3 r j (by omega) hj, src _ _ (by omega)]
            congr 1
            omega
          · rw [l1.2 _ (by omega), show p + (14 + 15 * k') = p + 14 + 15 * k' by omega, k2, f1.2 _ (by omega), src _ _ (by omega)]
            congr 1
            omega
          · obtain ⟨r, rfl⟩ : ∃ r, i = 15 + 15 * k' + r := ⟨i - (15 + 15 * k'), by omega⟩
            rw [l1.2 _ (by omega), show p + (15 + 15 * k' + r) = p + 14 + 15 * k' + 1 + r by omega, k3 r j (by omega) hj, f1.2 _ (by omega), src _ _ (by omega)]
            congr 1
            omega
          · rw [show p + (18 + 15 * k') = p + 18 + 15 * k' by omega, l2, k1.2 _ (by omega), f1.2 _ (by omega), src _ _ (by omega)]
            congr 1
            omega
          · obtain ⟨r, rfl⟩ : ∃ r, i = 19 + 15 * k' + r := ⟨i - (19 + 15 * k'), by omega⟩
            rw [show p + (19 + 15 * k' + r) = p + 18 + 15 * k' + 1 + r by omega, l3 r j (by omega) hj, k1.2 _ (by omega), f1.2 _ (by omega), src _ _ (by omega)]
            congr 1
            omega
      · rw [O3.2 _ (by omega)]
        exact G3 k (by omega) i j hv h1 h2
    · rintro x ⟨g, rfl, G1, G2, G3⟩
      unfold qT_become_b56
      dsimp only
      rw [if_pos (show (2 : Int32) ≤ nI 2 from nI_le (a := 2) (Nat.le_refl _) (by decide))]
      exact ⟨_, rfl, G1, G2, G3⟩
  obtain ⟨x, e1, x1, x2, x3⟩ := key
  refine ⟨x, ?_, x1, fun i j hv => ?_⟩
  · unfold qT_become
    simp only [zlet]
    have t1 : gI (cI h (q + 1) (p + 1) 0 0 600) q 1 = gI h q 1 := gI_c_ne (by omega)
    have t2 : gI (sI (cI h (q + 1) (p + 1) 0 0 600) p 1 (gI h q 1)) q 2 = gI h q 2 := by rw [gI_ne (by omega), gI_c_ne (by omega)]
    have t3 : gI (sI (sI (cI h (q + 1) (p + 1) 0 0 600) p 1 (gI h q 1)) p 2 (gI h q 2)) q 3 = gI h q 3 := by rw [gI_ne (by omega), gI_ne (by omega), gI_c_ne (by omega)]
    rw [t1, t2, t3]
    show (zloop (qT_become_b56 p q) zfu (0, h6)).bind _ = _
    rw [e1]; rfl
  · have hv' := hv
    rcases hv with ⟨rfl, h1, h2⟩ | ⟨rfl, hj⟩ | ⟨rfl, hj⟩ | ⟨k, hk, hv⟩
    · rw [x2 0 j (by omega)]
      show gI (cI _ _ _ _ _ _) _ _ = _
      rw [gI_c_ne (by omega)]
      rcases (by omega : j = 1 ∨ j = 2 ∨ j = 3) with rfl | rfl | rfl
      · rw [gI_nk (by decide), gI_nk (by decide)]; exact gI_eq
      · rw [gI_nk (by decide)]; exact gI_eq
      · exact gI_eq
    · rw [x2 1 j (by omega)]
      show gI (cI _ _ _ _ _ _) _ _ = _
      rw [gI_c_ne (by omega), gI_ne (by omega), gI_ne (by omega), gI_ne (by omega), gI_c_in hj]
    · rw [x2 2 j (by omega)]
      show gI (cI _ _ _ _ _ _) _ _ = _
      rw [gI_c_in hj, gI_ne (by omega), gI_ne (by omega), gI_ne (by omega), gI_c_ne (by omega)]
    · exact x3 k hk i j hv' (by omega) (by omega)
end BEC
/-! the reference's copies -/
section COP
variable {h : zK} {f t : Nat}
theorem qM_copyRow_ev {oa n : Nat} (hn : 1 ≤ n) (hl : zln oa = 4 * n) (hn2 : n < 1000) (hf : f < 4) (ht : t < 4) (hft : f ≠ t) {x : Int32} (hx : x = nI n) : ∃ h', qM_copyRow oa x (nI f) (nI t) h = some h' ∧ h'.2.2 = h.2.2 ∧ (∀ y, y ≠ oa → ∀ j, gI h' y j = gI h y j) ∧ ∀ j, gI h' oa j = fb_put (fun j => gI h oa j) (fun j => gI h oa (n * f + j)) (n * t) n j := by
  subst hx
  have sep : n * f + n ≤ n * t ∨ n * t + n ≤ n * f := by
    rcases (by omega : f + 1 ≤ t ∨ t + 1 ≤ f) with q | q
    · left
      have := Nat.mul_le_mul_left n q
      rw [Nat.mul_succ] at this
      omega
    · right
      have := Nat.mul_le_mul_left n q
      rw [Nat.mul_succ] at this
      omega
  have bf : n * f + n ≤ 4 * n := by
    have := Nat.mul_le_mul_left n (show f + 1 ≤ 4 by omega)
    rw [Nat.mul_succ] at this
    omega
  have bt : n * t + n ≤ 4 * n := by
    have := Nat.mul_le_mul_left n (show t + 1 ≤ 4 by omega)
    rw [Nat.mul_succ] at this
    omega
  have e : zloop (qM_copyRow_b3 oa (nI n) (nI f) (nI t)) zfu (0, h) = some (rI h oa (fb_put (fun j => gI h oa j) (fun j => gI h oa (n * f + j)) (n * t) n)) := by
    have st : ((0 : Int32), h) = (nI 0, rI h oa (fb_put (fun j => gI h oa j) (fun j => gI h oa (n * f + j)) (n * t) 0)) := by
      rw [fb_put_0, rI_self (g := fun j => gI h oa j) rfl]; rfl
    rw [st]
    refine zloop_for (fun i => (nI i, rI h oa (fb_put (fun j => gI h oa j) (fun j => gI h oa (n * f + j)) (n * t) i))) n (fun i hi => ?_) ?_ (zfu_lt (by omega))
    · unfold qM_copyRow_b3
      dsimp only
      rw [if_neg (nI_ge hi (by omega)), nI_mul, nI_mul, nI_add, nI_add, hl, zix_nI (by omega) (by omega), Option.bind_some, zix_nI (by omega) (by omega), Option.bind_some]
      simp only [zlet]
      rw [gI_rI, fb_put_out (by omega), rI_set, nI_1]
      exact congrArg (fun z => some (Sum.inl (nI (i + 1), rI h oa z))) (fb_put_succ _ (fun j => gI h oa (n * f + j)) _ _)
    · unfold qM_copyRow_b3
      dsimp only
      rw [if_pos (nI_le (Nat.le_refl _) (by omega))]
  refine ⟨rI h oa (fb_put (fun j => gI h oa j) (fun j => gI h oa (n * f + j)) (n * t) n), by unfold qM_copyRow; rw [e]; rfl, rfl, fun y hy j => gI_rn hy, fun j => gI_rI _ _ _ _⟩
theorem qM_copyTape_ev (hf : f < 4) (ht : t < 4) (hft : f ≠ t) : ∃ h', zloop (qM_copyAll_b2 (nI f) (nI t)) zfu (0, h) = some h' ∧ h'.2.2 = h.2.2 ∧ (∀ y, y ≠ 216 → ∀ j, gI h' y j = gI h y j) ∧ ∀ j, gI h' 216 j = fb_put (fun j => gI h 216 j) (fun j => (gI h 216 (600 * f + j)).toInt8.toInt32) (600 * t) 600 j := by
  refine ⟨rI h 216 (fb_put (fun j => gI h 216 j) (fun j => (gI h 216 (600 * f + j)).toInt8.toInt32) (600 * t) 600), ?_, rfl, fun y hy j => gI_rn hy, fun j => gI_rI _ _ _ _⟩
  have st : ((0 : Int32), h) = (nI 0, rI h 216 (fb_put (fun j => gI h 216 j) (fun j => (gI h 216 (600 * f + j)).toInt8.toInt32) (600 * t) 0)) := by
    rw [fb_put_0, rI_self (g := fun j => gI h 216 j) rfl]; rfl
  rw [st]
  refine zloop_for (fun i => (nI i, rI h 216 (fb_put (fun j => gI h 216 j) (fun j => (gI h 216 (600 * f + j)).toInt8.toInt32) (600 * t) i))) 600 (fun i hi => ?_) ?_ (zfu_lt (by omega))
  · unfold qM_copyAll_b2
    dsimp only
    rw [if_neg (show ¬ (600 : Int32) ≤ nI i from nI_ge (b := 600) hi (by decide)), show (600 : Int32) = nI 600 from rfl, nI_mul, nI_mul, nI_add, nI_add, zix_nI (by omega) (by omega), Option.bind_some, zix_nI (by omega) (by omega), Option.bind_some]
    simp only [zlet]
    rw [gI_rI, fb_put_out (by omega), rI_set, nI_1]
    exact congrArg (fun z => some (Sum.inl (nI (i + 1), rI h 216 z))) (fb_put_succ _ (fun j => (gI h 216 (600 * f + j)).toInt8.toInt32) _ _)
  · unfold qM_copyAll_b2
    dsimp only
    rw [if_pos (show (600 : Int32) ≤ nI 600 from nI_le (a := 600) (Nat.le_refl _) (by decide))]
/-- a row of the reference, copied from slot f to slot t -/
def yCr (h h' : zK) (f t a n : Nat) : Prop := ∀ j, gI h' a j = fb_put (fun j => gI h a j) (fun j => gI h a (n * f + j)) (n * t) n j
theorem qM_copyAll_ev (hf : f < 4) (ht : t < 4) (hft : f ≠ t) : ∃ h', qM_copyAll (nI f) (nI t) h = some h' ∧ yOut 216 224 h h' ∧ (∀ j, gI h' 216 j = fb_put (fun j => gI h 216 j) (fun j => (gI h 216 (600 * f + j)).toInt8.toInt32) (600 * t) 600 j) ∧ yCr h h' f t 217 1 ∧ yCr h h' f t 218 1 ∧ yCr h h' f t 219 1 ∧ yCr h h' f t 220 3 ∧ yCr h h' f t 221 104 ∧ yCr h h' f t 222 242 ∧ yCr h h' f t 223 34 := by
  obtain ⟨g0, e0, j0, o0, r0⟩ := qM_copyTape_ev (h := h) hf ht hft
  obtain ⟨g1, e1, j1, o1, r1⟩ := qM_copyRow_ev (h := g0) (oa := 217) (n := 1) (x := 1) (by omega) rfl (by omega) hf ht hft rfl
  obtain ⟨g2, e2, j2, o2, r2⟩ := qM_copyRow_ev (h := g1) (oa := 218) (n := 1) (x := 1) (by omega) rfl (by omega) hf ht hft rfl
  obtain ⟨g3, e3, j3, o3, r3⟩ := qM_copyRow_ev (h := g2) (oa := 219) (n := 1) (x := 1) (by omega) rfl (by omega) hf ht hft rfl
  obtain ⟨g4, e4, j4, o4, r4⟩ := qM_copyRow_ev (h := g3) (oa := 220) (n := 3) (x := 3) (by omega) rfl (by omega) hf ht hft rfl
  obtain ⟨g5, e5, j5, o5, r5⟩ := qM_copyRow_ev (h := g4) (oa := 221) (n := 104) (x := 104) (by omega) rfl (by omega) hf ht hft rfl
  obtain ⟨g6, e6, j6, o6, r6⟩ := qM_copyRow_ev (h := g5) (oa := 222) (n := 242) (x := 242) (by omega) rfl (by omega) hf ht hft rfl
  obtain ⟨g7, e7, j7, o7, r7⟩ := qM_copyRow_ev (h := g6) (oa := 223) (n := 34) (x := 34) (by omega) rfl (by omega) hf ht hft rfl
  refine ⟨g7, ?_, ⟨?_, fun x hx j => ?_⟩, fun j => ?_, fun j => ?_, fun j => ?_, fun j => ?_, fun j => ?_, fun j => ?_, fun j => ?_, fun j => ?_⟩
  · unfold qM_copyAll
    rw [e0, Option.bind_some, e1, Option.bind_some, e2, Option.bind_some, e3, Option.bind_some, e4, Option.bind_some, e5, Option.bind_some, e6, Option.bind_some, e7]
    rfl
  · rw [j7, j6, j5, j4, j3, j2, j1, j0]
  · rw [o7 _ (by omega), o6 _ (by omega), o5 _ (by omega), o4 _ (by omega), o3 _ (by omega), o2 _ (by omega), o1 _ (by omega), o0 _ (by omega)]
  · rw [o7 _ (by omega), o6 _ (by omega), o5 _ (by omega), o4 _ (by omega), o3 _ (by omega), o2 _ (by omega), o1 _ (by omega), r0]
  · rw [o7 _ (by omega), o6 _ (by omega), o5 _ (by omega), o4 _ (by omega), o3 _ (by omega), o2 _ (by omega), r1]
    simp only [o0 217 (by omega)]
  · rw [o7 _ (by omega), o6 _ (by omega), o5 _ (by omega), o4 _ (by omega), o3 _ (by omega), r2]
    simp only [o1 218 (by omega), o0 218 (by omega)]
  · rw [o7 _ (by omega), o6 _ (by omega), o5 _ (by omega), o4 _ (by omega), r3]
    simp only [o2 219 (by omega), o1 219 (by omega), o0 219 (by omega)]
  · rw [o7 _ (by omega), o6 _ (by omega), o5 _ (by omega), r4]
    simp only [o3 220 (by omega), o2 220 (by omega), o1 220 (by omega), o0 220 (by omega)]
  · rw [o7 _ (by omega), o6 _ (by omega), r5]
    simp only [o4 221 (by omega), o3 221 (by omega), o2 221 (by omega), o1 221 (by omega), o0 221 (by omega)]
  · rw [o7 _ (by omega), r6]
    simp only [o5 222 (by omega), o4 222 (by omega), o3 222 (by omega), o2 222 (by omega), o1 222 (by omega), o0 222 (by omega)]
  · rw [r7]
    simp only [o6 223 (by omega), o5 223 (by omega), o4 223 (by omega), o3 223 (by omega), o2 223 (by omega), o1 223 (by omega), o0 223 (by omega)]
end COP
