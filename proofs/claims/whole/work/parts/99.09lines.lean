/-! TEXTS: the reference's lines of years and of logs -/
def yTok (u : Nat → Nat) (len t w : Nat) : Prop := yKd u len t = 1 ∧ yIs u t (yNx u len t - t) w
theorem yTok_one {u : Nat → Nat} {len t w w' : Nat} (hw : w < 10) (hw' : w' < 10) (a : yTok u len t w) (b : yTok u len t w') : w = w' := yIs_one hw hw' (yKd_1 a.1).2.2.2 a.2 b.2
/-- how the reference's line ends -/
def yMR (so : Nat) (u : Nat → Nat) (len t : Nat) (F : Nat × Nat) (b : Nat → Bool) (C : Nat → zK → Prop) (r : Option (Int32 × zK)) : Prop := ((∀ w, w < 10 → ySo w = so → ¬ yTok u len t w) ∧ ∃ x', r = some (0, x') ∧ gI x' 215 15 = nI t) ∨ ∃ w, w < 10 ∧ ySo w = so ∧ yTok u len t w ∧ ((∃ m x', m < yNu w ∧ yAll u len (yTn u len t) m ∧ yKd u len (yP u len t m) ≠ 2 ∧ r = some (0, x') ∧ gI x' 215 15 = nI (yP u len t m)) ∨ (∃ x', r = some (1, x') ∧ yAll u len (yTn u len t) (yNu w) ∧ yRX x' u len (yP u len t (yNu w)) ∧ yFl x' (yLF w u len t F (b w)) ∧ ((yLF w u len t F (b w)).1 ≠ 0 → (yLF w u len t F (b w)).2 < yP u len t (yNu w)) ∧ C w x'))
section LINES
variable {x : zK} {u : Nat → Nat} {len t : Nat} {F : Nat × Nat} {n : Nat} {v : Int64}
theorem qM_keepRow_ev {r c : Nat} (hr : r ≤ 3) (hc : r * c ≤ 120) (hc4 : c ≤ 40) (hx : gI x 224 0 = nI n) (hn : n ≤ c) : ∃ x', qM_keepRow (nI r) (nI c) x = some x' ∧ x'.2.2 = x.2.2 ∧ (∀ a j, a ≠ 224 → gI x' a j = gI x a j) ∧ (n = c → gI x' 224 0 = nI n) ∧ (n < c → ∀ j, gI x' 224 j = if j = 0 then nI (n + 1) else if 1 + r * n ≤ j ∧ j < 1 + r * n + r then gI x 225 (j - (1 + r * n)) else gI x 224 j) := by
  unfold qM_keepRow
  rw [hx]
  by_cases e : n = c
  · rw [if_neg (show ¬ ¬ nI n = nI c from fun z => z (by rw [e]))]
    exact ⟨x, rfl, rfl, fun _ _ _ => rfl, fun _ => hx, fun z => by omega⟩
  · rw [if_pos (show ¬ nI n = nI c from fun z => e ((nI_eq (by omega) (by omega)).mp z))]
    have hm : r * n + r ≤ r * c := by
      have := Nat.mul_le_mul_left r (show n + 1 ≤ c by omega)
      rw [Nat.mul_add, Nat.mul_one] at this
      exact this
    have key : ∃ y, zloop (qM_keepRow_b16 (nI r) (nI n)) zfu (0, x) = some y ∧ y.2.2 = x.2.2 ∧ (∀ a j, a ≠ 224 → gI y a j = gI x a j) ∧ ∀ j, gI y 224 j = if 1 + r * n ≤ j ∧ j < 1 + r * n + r then gI x 225 (j - (1 + r * n)) else gI x 224 j := by
      refine zloop_me (Q := fun q s => ∃ i y, q + i = r ∧ s = (nI i, y) ∧ y.2.2 = x.2.2 ∧ (∀ a j, a ≠ 224 → gI y a j = gI x a j) ∧ ∀ j, gI y 224 j = if 1 + r * n ≤ j ∧ j < 1 + r * n + i then gI x 225 (j - (1 + r * n)) else gI x 224 j) ?_ zfu r _ ⟨0, x, by omega, rfl, rfl, fun _ _ _ => rfl, fun j => by rw [if_neg (by omega)]⟩ (zfu_lt (by omega))
      rintro q s ⟨i, y, hq, rfl, y1, y2, y3⟩
      unfold qM_keepRow_b16
      dsimp only
      by_cases hi : i < r
      · rw [if_neg (nI_ge hi (by omega)), zix_nI (by omega) (by omega), Option.bind_some, show (1 : Int32) + nI r * nI n + nI i = nI (1 + r * n + i) from by rw [nI_mul, show (1 : Int32) = nI 1 from rfl, nI_add, nI_add], zix_nI (by omega) (by omega), Option.bind_some, nI_1]
        simp only [zlet]
        refine Or.inr ⟨q - 1, _, rfl, by omega, i + 1, _, by omega, rfl, y1, fun a j h => (gI_ne h).trans (y2 a j h), fun j => ?_⟩
        by_cases ej : j = 1 + r * n + i
        · subst ej
          rw [gI_eq, y2 225 i (by decide), if_pos (by omega), show 1 + r * n + i - (1 + r * n) = i by omega]
        · rw [gI_nk ej, y3 j]
          by_cases hh : 1 + r * n ≤ j ∧ j < 1 + r * n + i
          · rw [if_pos hh, if_pos (by omega)]
          · rw [if_neg hh, if_neg (by omega)]
      · have ei : i = r := by omega
        subst ei
        rw [if_pos (nI_le (Nat.le_refl _) (by omega))]
        exact Or.inl ⟨_, rfl, y1, y2, y3⟩
    obtain ⟨y, y0, y1, y2, y3⟩ := key
    rw [y0, Option.bind_some]
    simp only [zlet]
    refine ⟨_, rfl, y1, fun a j h => (gI_ne h).trans (y2 a j h), fun z => absurd z e, fun _ j => ?_⟩
    have y00 : gI y 224 0 = nI n := by rw [y3 0, if_neg (by omega), hx]
    by_cases ej : j = 0
    · subst ej
      rw [gI_eq, y00, nI_1, if_pos rfl]
    · rw [gI_nk ej, if_neg ej, y3 j]
/-! words -/
theorem yW64 : (2036687218 : Int64) = lN (yWc 4) ∧ (1869636974 : Int64) = lN (yWc 5) ∧ (2003399269 : Int64) = lN (yWc 6) ∧ (499850505844 : Int64) = lN (yWc 7) ∧ (1836021349 : Int64) = lN (yWc 8) ∧ (448377483876 : Int64) = lN (yWc 9) ∧ (495673369451 : Int64) = lN (yWc 0) ∧ (491327153000 : Int64) = lN (yWc 1) ∧ (126862485974631 : Int64) = lN (yWc 2) ∧ (27424514944365171 : Int64) = lN (yWc 3) := by decide +kernel
/-- the word that the reference holds -/
def yVw (v : Int64) (u : Nat → Nat) (len t : Nat) : Prop := ∀ w, w < 10 → (lg_cmp v (lN (yWc w)) = 0 ↔ yTok u len t w)
theorem qM_deedBy_ev (V : yVw v u len t) : (qM_deedBy v = -1 ∧ ∀ w, w < 10 → ySo w = 1 → ¬ yTok u len t w) ∨ ∃ w, 4 ≤ w ∧ w ≤ 8 ∧ yTok u len t w ∧ qM_deedBy v = nI (w - 4) := by
  obtain ⟨c4, c5, c6, c7, c8, -⟩ := yW64
  unfold qM_deedBy
  rw [c4, c5, c6, c7, c8]
  by_cases h4 : yTok u len t 4
  · exact Or.inr ⟨4, by omega, by omega, h4, by rw [if_neg (show ¬ ¬ lg_cmp v (lN (yWc 4)) = 0 from fun z => z ((V 4 (by omega)).mpr h4))]; rfl⟩
  · rw [if_pos (show ¬ lg_cmp v (lN (yWc 4)) = 0 from fun z => h4 ((V 4 (by omega)).mp z))]
    by_cases h5 : yTok u len t 5
    · exact Or.inr ⟨5, by omega, by omega, h5, by rw [if_neg (show ¬ ¬ lg_cmp v (lN (yWc 5)) = 0 from fun z => z ((V 5 (by omega)).mpr h5))]; rfl⟩
    · rw [if_pos (show ¬ lg_cmp v (lN (yWc 5)) = 0 from fun z => h5 ((V 5 (by omega)).mp z))]
      by_cases h6 : yTok u len t 6
      · exact Or.inr ⟨6, by omega, by omega, h6, by rw [if_neg (show ¬ ¬ lg_cmp v (lN (yWc 6)) = 0 from fun z => z ((V 6 (by omega)).mpr h6))]; rfl⟩
      · rw [if_pos (show ¬ lg_cmp v (lN (yWc 6)) = 0 from fun z => h6 ((V 6 (by omega)).mp z))]
        by_cases h7 : yTok u len t 7
        · exact Or.inr ⟨7, by omega, by omega, h7, by rw [if_neg (show ¬ ¬ lg_cmp v (lN (yWc 7)) = 0 from fun z => z ((V 7 (by omega)).mpr h7))]; rfl⟩
        · rw [if_pos (show ¬ lg_cmp v (lN (yWc 7)) = 0 from fun z => h7 ((V 7 (by omega)).mp z))]
          by_cases h8 : yTok u len t 8
          · exact Or.inr ⟨8, by omega, by omega, h8, by rw [if_neg (show ¬ ¬ lg_cmp v (lN (yWc 8)) = 0 from fun z => z ((V 8 (by omega)).mpr h8))]; rfl⟩
          · rw [if_pos (show ¬ lg_cmp v (lN (yWc 8)) = 0 from fun z => h8 ((V 8 (by omega)).mp z))]
            refine Or.inl ⟨rfl, fun w hw hs => ?_⟩
            rcases (by omega : w = 0 ∨ w = 1 ∨ w = 2 ∨ w = 3 ∨ w = 4 ∨ w = 5 ∨ w = 6 ∨ w = 7 ∨ w = 8 ∨ w = 9) with rfl | rfl | rfl | rfl | rfl | rfl | rfl | rfl | rfl | rfl <;> first | assumption | exact absurd hs (by decide)
/-- the row of a deed -/
def yDr (w : Nat) (v : Nat → Nat) (r : Nat) : Int32 := if r = 0 then nI (w - 4) else if r ≤ yNu w then nI (v (r - 1)) else -1
def yC1 (x : zK) (n : Nat) (u : Nat → Nat) (len t : Nat) (w : Nat) (x' : zK) : Prop := (n = 40 → gI x' 224 0 = nI n) ∧ (n < 40 → ∀ j, gI x' 224 j = if j = 0 then nI (n + 1) else if 1 + 3 * n ≤ j ∧ j < 1 + 3 * n + 3 then yDr w (yVv u len t) (j - (1 + 3 * n)) else gI x 224 j)
theorem qM_j79_ev {z y : zK} {w : Nat} (w4 : 4 ≤ w) (w8 : w ≤ 8) (S : yMT z y w u len t F 1 (yNu w)) (z1 : gI z 225 1 = -1) (z2 : gI z 225 2 = -1) (hz : ∀ j, gI z 224 j = gI x 224 j) (hx : gI x 224 0 = nI n) (hn : n ≤ 40) : ∃ x', qM_yearsLine_j79 (nI (w - 4)) y = some (1, x') ∧ yRX x' u len (yP u len t (yNu w)) ∧ yFl x' (yGf (yBd w (yVv u len t)) (yP u len t) F (yNu w)) ∧ yC1 x n u len t w x' := by
  obtain ⟨s1, s2, s3, s4, s5, s6, s7, s8⟩ := S
  have n2 : yNu w ≤ 2 := by
    rcases (by omega : w = 4 ∨ w = 5 ∨ w = 6 ∨ w = 7 ∨ w = 8) with rfl | rfl | rfl | rfl | rfl <;> decide
  unfold qM_yearsLine_j79
  simp only [zlet]
  have y4 : ∀ j, gI (sI y 225 0 (nI (w - 4))) 224 j = gI x 224 j := fun j => (gI_ne (by decide)).trans ((s7 224 j (by decide) (Or.inl (by decide))).trans (hz j))
  obtain ⟨x', e1, e2, e3, e4, e5⟩ := qM_keepRow_ev (r := 3) (c := 40) (by omega) (by omega) (by omega) ((y4 0).trans hx) hn
  have e1' : qM_keepRow 3 40 (sI y 225 0 (nI (w - 4))) = some x' := e1
  rw [e1', Option.bind_some]
  have fr : ∀ a j, a ≠ 224 → a ≠ 225 → gI x' a j = gI y a j := fun a j h1 h2 => (e3 a j h1).trans (gI_ne h2)
  refine ⟨x', rfl, yRX_q s1 (fun a j h => fr a j (by omega) (by omega)) (by rw [e2]; rfl), yFl_q s2 (fun j _ => fr 215 j (by decide) (by decide)), e4, fun hlt j => ?_⟩
  rw [e5 hlt j]
  by_cases ej : j = 0
  · rw [if_pos ej, if_pos ej]
  · rw [if_neg ej, if_neg ej]
    by_cases hj : 1 + 3 * n ≤ j ∧ j < 1 + 3 * n + 3
    · rw [if_pos hj, if_pos hj]
      have : j - (1 + 3 * n) < 3 := by omega
      generalize j - (1 + 3 * n) = r at *
      unfold yDr
      by_cases r0 : r = 0
      · subst r0
        rw [gI_eq, if_pos rfl]
      · rw [gI_nk r0, if_neg r0]
        by_cases rn : r ≤ yNu w
        · rw [if_pos rn]
          have := s5 (r - 1) (by omega)
          rw [show 1 + (r - 1) = r by omega] at this
          exact this
        · rw [if_neg rn, s8 r (by omega)]
          rcases (by omega : r = 1 ∨ r = 2) with rfl | rfl
          · exact z1
          · exact z2
    · rw [if_neg hj, if_neg hj, y4]
theorem qM_years_ev (R : yRX x u len t) (hk : yKd u len t ≠ 0) (us : ∀ j, j < len → u j < 256) (L : yFl x F) (hF : F.1 ≠ 0 → F.2 < t) (h21 : gI x 215 21 = 1) (hn : n ≤ 40) (hx : gI x 224 0 = nI n) (V : yVw v u len t) : yMR 1 u len t F (fun _ => decide (n = 40)) (yC1 x n u len t) (qM_yearsLine v (nI t) x) := by
  unfold qM_yearsLine
  rcases qM_deedBy_ev V with ⟨e, no⟩ | ⟨w, w4, w8, tok, e⟩
  · left
    refine ⟨no, ?_⟩
    rw [e, if_neg (show ¬ ¬ (-1 : Int32) = -1 from fun z => z rfl)]
    unfold qM_fails
    simp only [zlet]
    rw [Option.bind_some]
    dsimp only
    rw [if_pos zbool_0]
    exact ⟨_, rfl, by rw [gI_eq]; exact R.2.1.1⟩
  · right
    refine ⟨w, by omega, ?_, tok, ?_⟩
    · rcases (by omega : w = 4 ∨ w = 5 ∨ w = 6 ∨ w = 7 ∨ w = 8) with rfl | rfl | rfl | rfl | rfl <;> rfl
    rw [e, if_pos (show ¬ nI (w - 4) = -1 from nI_nm1 (by omega))]
    obtain ⟨x1, a1, a2, a3, a4, a5⟩ := qM_full_ev R L hF (j := 0) (c := 40) (by omega) (by omega) hn hx
    have a1' : qM_full 0 40 (nI t) x = some x1 := a1
    obtain ⟨x2, b1, b2⟩ := yMT_0 a2 hk a3 a4 ((a5 215 21 (by omega)).trans h21) w 1
    rw [a1', Option.bind_some, b1, Option.bind_some]
    simp only [zlet]
    let z : zK := sI (sI x2 225 1 (-1)) 225 2 (-1)
    have S0 : yMT z z w u len t (yAd F (decide (n = 40)) 3 t) 1 0 := yMT_re b2 (fun a j h => (gI_ne h).trans (gI_ne h)) rfl
    have hz1 : gI z 225 1 = -1 := (gI_nk (by decide)).trans gI_eq
    have hz2 : gI z 225 2 = -1 := gI_eq
    have hz : ∀ j, gI z 224 j = gI x 224 j := fun j => (gI_ne (by decide)).trans ((gI_ne (by decide)).trans ((b2.2.2.2.2.2.2.1 224 j (by decide) (Or.inl (by decide))).trans (a5 224 j (Or.inl (by decide)))))
    show _ ∨ _
    have fin : ∀ {y : zK}, yMT z y w u len t (yAd F (decide (n = 40)) 3 t) 1 (yNu w) → ∃ x', qM_yearsLine_j79 (nI (w - 4)) y = some (1, x') ∧ yAll u len (yTn u len t) (yNu w) ∧ yRX x' u len (yP u len t (yNu w)) ∧ yFl x' (yLF w u len t F (decide (n = 40))) ∧ ((yLF w u len t F (decide (n = 40))).1 ≠ 0 → (yLF w u len t F (decide (n = 40))).2 < yP u len t (yNu w)) ∧ yC1 x n u len t w x' := fun {y} S => by
      obtain ⟨x', q1, q2, q3, q4⟩ := qM_j79_ev w4 w8 S hz1 hz2 hz hx hn
      exact ⟨x', q1, S.2.2.2.1, q2, q3, S.2.2.1, q4⟩
    show (∃ m x', m < yNu w ∧ yAll u len (yTn u len t) m ∧ yKd u len (yP u len t m) ≠ 2 ∧ (if nI (w - 4) = 0 then qM_yearsLine_j60 (nI (w - 4)) z else (qM_take 1 0 6 z).bind fun p12 => if p12.1 = 0 then some (0, p12.2) else qM_yearsLine_j60 (nI (w - 4)) p12.2) = some (0, x') ∧ _) ∨ (∃ x', (if nI (w - 4) = 0 then qM_yearsLine_j60 (nI (w - 4)) z else (qM_take 1 0 6 z).bind fun p12 => if p12.1 = 0 then some (0, p12.2) else qM_yearsLine_j60 (nI (w - 4)) p12.2) = some (1, x') ∧ _)
    by_cases e4 : w = 4
    · subst e4
      right
      obtain ⟨x', q⟩ := fin (y := z) S0
      rw [if_pos (show nI (4 - 4) = 0 from rfl)]
      unfold qM_yearsLine_j60
      rw [if_pos (show ¬ nI (4 - 4) = 4 by decide)]
      exact ⟨x', q⟩
    · rw [if_neg (show ¬ nI (w - 4) = 0 from fun z => by have := (nI_z (by omega)).mp z; omega)]
      have lo0 : yLw w 0 = 0 ∧ yUp w 0 = 6 ∧ 1 ≤ yNu w := by
        rcases (by omega : w = 5 ∨ w = 6 ∨ w = 7 ∨ w = 8) with rfl | rfl | rfl | rfl <;> decide
      rcases yMT_tk S0 us (by omega) (by omega) (k := 1) (lo := 0) (hi := 6) (by omega) (by omega) rfl (by rw [lo0.1]; rfl) (by rw [lo0.2.1]; rfl) with ⟨y1, c1, c2⟩ | ⟨c1, c2, y1, c3, c4⟩
      · rw [c1, Option.bind_some]
        dsimp only
        rw [if_neg (show ¬ (1 : Int32) = 0 by decide)]
        unfold qM_yearsLine_j60
        by_cases e8 : w = 8
        · subst e8
          rw [if_neg (show ¬ ¬ nI (8 - 4) = 4 from fun z => z rfl)]
          rcases yMT_tk c2 us (by omega) (by omega) (k := 2) (lo := 0) (hi := 20) (by omega) (by omega) rfl rfl rfl with ⟨y2, d1, d2⟩ | ⟨d1, d2, y2, d3, d4⟩
          · right
            rw [d1, Option.bind_some]
            dsimp only
            rw [if_pos (show ¬ (1 : Int32) = 0 by decide)]
            exact fin (y := y2) d2
          · left
            rw [d3, Option.bind_some]
            dsimp only
            rw [if_neg (show ¬ ¬ (0 : Int32) = 0 from fun z => z rfl)]
            exact ⟨1, y2, by decide, d2, d1, rfl, d4⟩
        · right
          have n1 : yNu w = 1 := by rcases (by omega : w = 5 ∨ w = 6 ∨ w = 7) with rfl | rfl | rfl <;> decide
          rw [if_pos (show ¬ nI (w - 4) = 4 from fun z => by have := (nI_eq (b := 4) (by omega) (by omega)).mp z; omega)]
          exact fin (y := y1) (by rw [n1]; exact c2)
      · left
        rw [c3, Option.bind_some]
        dsimp only
        rw [if_pos rfl]
        exact ⟨0, y1, by omega, c2, c1, rfl, c4⟩
/-! logs -/
def yC2 (x : zK) (n : Nat) (u : Nat → Nat) (len t : Nat) (_w : Nat) (x' : zK) : Prop := (n = 8 → gI x' 224 0 = nI n) ∧ (n < 8 → ∀ j, gI x' 224 j = if j = 0 then nI (n + 1) else if 1 + 2 * n ≤ j ∧ j < 1 + 2 * n + 2 then nI (yVv u len t (j - (1 + 2 * n))) else gI x 224 j)
theorem qM_logs_ev (R : yRX x u len t) (hk : yKd u len t ≠ 0) (us : ∀ j, j < len → u j < 256) (L : yFl x F) (hF : F.1 ≠ 0 → F.2 < t) (h21 : gI x 215 21 = 1) (hn : n ≤ 8) (hx : gI x 224 0 = nI n) (V : yVw v u len t) : yMR 2 u len t F (fun _ => decide (n = 8)) (yC2 x n u len t) (qM_logLine v (nI t) x) := by
  obtain ⟨-, -, -, -, -, c9, -⟩ := yW64
  unfold qM_logLine
  rw [c9]
  by_cases tok : yTok u len t 9
  · right
    refine ⟨9, by omega, rfl, tok, ?_⟩
    rw [if_pos ((V 9 (by omega)).mpr tok)]
    obtain ⟨x1, a1, a2, a3, a4, a5⟩ := qM_full_ev R L hF (j := 0) (c := 8) (by omega) (by omega) hn hx
    have a1' : qM_full 0 8 (nI t) x = some x1 := a1
    obtain ⟨x2, b1, b2⟩ := yMT_0 a2 hk a3 a4 ((a5 215 21 (by omega)).trans h21) 9 0
    rw [a1', Option.bind_some, b1, Option.bind_some]
    rcases yMT_tk b2 us (by omega) (by omega) (k := 0) (lo := 1) (hi := 20) (by omega) (by omega) rfl rfl rfl with ⟨y1, c1, c2⟩ | ⟨c1, c2, y1, c3, c4⟩
    · rw [c1, Option.bind_some]
      dsimp only
      rw [if_neg (show ¬ (1 : Int32) = 0 by decide)]
      rcases yMT_tk c2 us (by omega) (by omega) (k := 1) (lo := 0) (hi := 7) (by omega) (by omega) rfl rfl rfl with ⟨y2, d1, d2⟩ | ⟨d1, d2, y2, d3, d4⟩
      · right
        rw [d1, Option.bind_some]
        dsimp only
        rw [if_pos (show ¬ (1 : Int32) = 0 by decide)]
        obtain ⟨s1, s2, s3, s4, s5, s6, s7, s8⟩ := d2
        have y4 : ∀ j, gI y2 224 j = gI x 224 j := fun j => (s7 224 j (by decide) (Or.inl (by decide))).trans (a5 224 j (Or.inl (by decide)))
        obtain ⟨x', e1, e2, e3, e4, e5⟩ := qM_keepRow_ev (r := 2) (c := 8) (by omega) (by omega) (by omega) ((y4 0).trans hx) hn
        have e1' : qM_keepRow 2 8 y2 = some x' := e1
        rw [e1', Option.bind_some]
        refine ⟨x', rfl, s4, yRX_q s1 (fun a j h => e3 a j (by omega)) e2, yFl_q s2 (fun j _ => e3 215 j (by decide)), s3, e4, fun hlt j => ?_⟩
        rw [e5 hlt j]
        by_cases ej : j = 0
        · rw [if_pos ej, if_pos ej]
        · rw [if_neg ej, if_neg ej]
          by_cases hj : 1 + 2 * n ≤ j ∧ j < 1 + 2 * n + 2
          · rw [if_pos hj, if_pos hj]
            have := s5 (j - (1 + 2 * n)) (by omega)
            rw [Nat.zero_add] at this
            exact this
          · rw [if_neg hj, if_neg hj, y4]
      · left
        rw [d3, Option.bind_some]
        dsimp only
        rw [if_neg (show ¬ ¬ (0 : Int32) = 0 from fun z => z rfl)]
        exact ⟨1, y2, by decide, d2, d1, rfl, d4⟩
    · left
      rw [c3, Option.bind_some]
      dsimp only
      rw [if_pos rfl]
      exact ⟨0, y1, by decide, c2, c1, rfl, c4⟩
  · left
    refine ⟨fun w hw hs => ?_, ?_⟩
    · rcases (by omega : w = 0 ∨ w = 1 ∨ w = 2 ∨ w = 3 ∨ w = 4 ∨ w = 5 ∨ w = 6 ∨ w = 7 ∨ w = 8 ∨ w = 9) with rfl | rfl | rfl | rfl | rfl | rfl | rfl | rfl | rfl | rfl <;> first | assumption | exact absurd hs (by decide)
    rw [if_neg (show ¬ lg_cmp v (lN (yWc 9)) = 0 from fun z => tok ((V 9 (by omega)).mp z))]
    unfold qM_fails
    simp only [zlet]
    rw [Option.bind_some]
    dsimp only
    rw [if_pos zbool_0]
    exact ⟨_, rfl, by rw [gI_eq]; exact R.2.1.1⟩
end LINES
