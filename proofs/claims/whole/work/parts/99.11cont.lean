/-! TEXTS: what is told, on both sides -/
def yFrT (g g' : zK) : Prop := ∀ a j, ¬ (148 ≤ a ∧ a ≤ 162) → (a ≠ 147 ∨ j ≠ 13) → gI g' a j = gI g a j
theorem yBd_no {w : Nat} {v : Nat → Nat} {i : Nat} (h : yBd w v i = false) : yLw w i ≤ v i ∧ v i ≤ yUp w i ∧ ¬ (w = 3 ∧ i = 1 ∧ v 0 = v 1) := by
  unfold yBd yOr at h
  rw [Bool.or_eq_false_iff] at h
  obtain ⟨h1, h2⟩ := h
  simp at h1
  refine ⟨h1.1, h1.2, ?_⟩
  rintro ⟨a, b, c⟩
  simp [a, b, c] at h2
/-! deeds -/
def yX1 (x : zK) (d : wD) : Prop := gI x 224 0 = nI d.1 ∧ ∀ r i, r < 3 → i < d.1 → gI x 224 (1 + 3 * i + r) = d.2 r i
def yK1 (g x : zK) : Prop := ∃ d, wDok d ∧ dC g 156 d ∧ yX1 x d
theorem qDe_add_ev {g : zK} {n : Nat} {a b c : Int32} (h : gI g 156 0 = nI n) (hn : n < 40) : qDe_add a b c g = some (sI (sI (sI (sI g 157 n a) 158 n b) 159 n c) 156 0 (nI (n + 1))) := by
  have e : qDe_isFull g = 0 := by
    unfold qDe_isFull
    rw [h, if_pos (show nI n < 40 from nI_lt (b := 40) hn (by decide))]
  unfold qDe_add
  rw [if_pos e, h, zix_nI hn (by omega), Option.bind_some]
  simp only [zlet]
  rw [gI_ne (by decide), h, zix_nI hn (by omega), Option.bind_some, gI_ne (by decide), gI_ne (by decide), h, zix_nI hn (by omega), Option.bind_some, gI_ne (by decide), gI_ne (by decide), gI_ne (by decide), h, nI_1]
theorem qRe_tell_1 {g : zK} {w : Nat} {v : Nat → Nat} (w4 : 4 ≤ w) (w8 : w ≤ 8) (V : ∀ i, i < yNu w → gI g 164 i = nI (v i)) : qRe_tell (nI w) g = (qDe_add (yDr w v 0) (yDr w v 1) (yDr w v 2) g).bind fun z => some z := by
  rcases (by omega : w = 4 ∨ w = 5 ∨ w = 6 ∨ w = 7 ∨ w = 8) with rfl | rfl | rfl | rfl | rfl
  · rfl
  · have e : yDr 5 v 1 = gI g 164 0 := (V 0 (by decide)).symm
    rw [e]; rfl
  · have e : yDr 6 v 1 = gI g 164 0 := (V 0 (by decide)).symm
    rw [e]; rfl
  · have e : yDr 7 v 1 = gI g 164 0 := (V 0 (by decide)).symm
    rw [e]; rfl
  · have e : yDr 8 v 1 = gI g 164 0 := (V 0 (by decide)).symm
    have e' : yDr 8 v 2 = gI g 164 1 := (V 1 (by decide)).symm
    rw [e, e']; rfl
theorem yK1_step {g x x' : zK} {n w : Nat} {u : Nat → Nat} {len t : Nat} (w4 : 4 ≤ w) (w8 : w ≤ 8) (K : yK1 g x) (hx : gI x 224 0 = nI n) (hn : n < 40) (nb : yNb (yBd w (yVv u len t)) (yNu w) = true) (C : yC1 x n u len t w x') (V : ∀ i, i < yNu w → gI g 164 i = nI (yVv u len t i)) : ∃ g', qRe_tell (nI w) g = some g' ∧ yK1 g' x' ∧ yFrT g g' := by
  obtain ⟨d, ok, dc, x0, x1⟩ := K
  have d40 := ok.1
  have dn : d.1 = n := (nI_eq (by omega) (by omega)).mp (x0.symm.trans hx)
  have nb' := (yNb_iff _ _).mp nb
  rw [qRe_tell_1 w4 w8 V, qDe_add_ev (dc.1.trans (by rw [dn])) hn, Option.bind_some]
  refine ⟨_, rfl, ⟨(d.1 + 1, fun r i => if i = d.1 then yDr w (yVv u len t) r else d.2 r i), ⟨by show d.1 + 1 ≤ 40; omega, fun i hi => ?_⟩, ⟨?_, fun r i hr hi => ?_⟩, ?_, fun r i hr hi => ?_⟩, fun a j ha hb => ?_⟩
  · show ∃ k, k ≤ 4 ∧ (if i = d.1 then yDr w (yVv u len t) 0 else d.2 0 i) = nI k ∧ (k ≠ 0 → ∃ s, s ≤ 6 ∧ (if i = d.1 then yDr w (yVv u len t) 1 else d.2 1 i) = nI s) ∧ (k = 4 → ∃ p, p ≤ 20 ∧ (if i = d.1 then yDr w (yVv u len t) 2 else d.2 2 i) = nI p)
    by_cases e : i = d.1
    · simp only [if_pos e]
      refine ⟨w - 4, by omega, rfl, fun k0 => ⟨yVv u len t 0, ?_, ?_⟩, fun k4 => ⟨yVv u len t 1, ?_, ?_⟩⟩
      · have h := (yBd_no (nb' 0 (by rcases (by omega : w = 5 ∨ w = 6 ∨ w = 7 ∨ w = 8) with rfl | rfl | rfl | rfl <;> decide))).2.1
        rcases (by omega : w = 5 ∨ w = 6 ∨ w = 7 ∨ w = 8) with rfl | rfl | rfl | rfl <;> exact h
      · rcases (by omega : w = 5 ∨ w = 6 ∨ w = 7 ∨ w = 8) with rfl | rfl | rfl | rfl <;> rfl
      · have w8 : w = 8 := by omega
        subst w8
        exact (yBd_no (nb' 1 (by decide))).2.1
      · have w8 : w = 8 := by omega
        subst w8
        rfl
    · simp only [if_neg e]
      exact ok.2 i (by have : i < d.1 + 1 := hi; omega)
  · show gI _ 156 0 = nI (d.1 + 1)
    rw [gI_eq, dn]
  · show gI _ (156 + 1 + r) i = if i = d.1 then yDr w (yVv u len t) r else d.2 r i
    have old := fun hh => dc.2 r i hr hh
    have hi' : i < d.1 + 1 := hi
    rcases (by omega : r = 0 ∨ r = 1 ∨ r = 2) with rfl | rfl | rfl
    · rw [gI_ne (by decide), gI_ne (by decide), gI_ne (by decide)]
      by_cases e : i = d.1
      · rw [if_pos e, e, dn, gI_eq]
      · rw [if_neg e, gI_nk (by omega)]; exact old (by omega)
    · rw [gI_ne (by decide), gI_ne (by decide)]
      by_cases e : i = d.1
      · rw [if_pos e, e, dn, gI_eq]
      · rw [if_neg e, gI_nk (by omega), gI_ne (by decide)]; exact old (by omega)
    · rw [gI_ne (by decide)]
      by_cases e : i = d.1
      · rw [if_pos e, e, dn, gI_eq]
      · rw [if_neg e, gI_nk (by omega), gI_ne (by decide), gI_ne (by decide)]; exact old (by omega)
  · rw [C.2 hn 0, if_pos rfl, dn]
  · show gI x' 224 (1 + 3 * i + r) = if i = d.1 then yDr w (yVv u len t) r else d.2 r i
    have hi' : i < d.1 + 1 := hi
    rw [C.2 hn, if_neg (by omega)]
    by_cases e : i = d.1
    · rw [if_pos e, if_pos (by omega), show 1 + 3 * i + r - (1 + 3 * n) = r by omega]
    · rw [if_neg e, if_neg (by omega)]
      exact x1 r i hr (by omega)
  · rw [gI_ne (by omega), gI_ne (by omega), gI_ne (by omega), gI_ne (by omega)]
/-! logs -/
def yX2 (x : zK) (l : wLg) : Prop := gI x 224 0 = nI l.1 ∧ ∀ r i, r < 2 → i < l.1 → gI x 224 (1 + 2 * i + r) = nI (l.2 r i)
def yK2 (g x : zK) : Prop := ∃ l, wLok l ∧ lC g 160 l ∧ yX2 x l
theorem qLo_add_ev {g : zK} {n : Nat} {a b : Int32} (h : gI g 160 0 = nI n) (hn : n < 8) : qLo_add a b g = some (sI (sI (sI g 161 n a) 162 n b) 160 0 (nI (n + 1))) := by
  have e : qLo_isFull g = 0 := by
    unfold qLo_isFull
    rw [h, if_pos (show nI n < 8 from nI_lt (b := 8) hn (by decide))]
  unfold qLo_add
  rw [if_pos e, h, zix_nI hn (by omega), Option.bind_some]
  simp only [zlet]
  rw [gI_ne (by decide), h, zix_nI hn (by omega), Option.bind_some, gI_ne (by decide), gI_ne (by decide), h, nI_1]
theorem yK2_step {g x x' : zK} {n : Nat} {u : Nat → Nat} {len t : Nat} (K : yK2 g x) (hx : gI x 224 0 = nI n) (hn : n < 8) (nb : yNb (yBd 9 (yVv u len t)) (yNu 9) = true) (C : yC2 x n u len t 9 x') (V : ∀ i, i < yNu 9 → gI g 164 i = nI (yVv u len t i)) : ∃ g', qRe_tell (nI 9) g = some g' ∧ yK2 g' x' ∧ yFrT g g' := by
  obtain ⟨d, ok, dc, x0, x1⟩ := K
  have d8 := ok.1
  have dn : d.1 = n := (nI_eq (by omega) (by omega)).mp (x0.symm.trans hx)
  have nb' := (yNb_iff _ _).mp nb
  have e : qRe_tell (nI 9) g = (qLo_add (gI g 164 0) (gI g 164 1) g).bind fun z => some z := rfl
  rw [e, V 0 (by decide), V 1 (by decide), qLo_add_ev (dc.1.trans (by rw [dn])) hn, Option.bind_some]
  refine ⟨_, rfl, ⟨(d.1 + 1, fun r i => if i = d.1 then yVv u len t r else d.2 r i), ⟨by show d.1 + 1 ≤ 8; omega, fun i hi => ?_⟩, ⟨?_, fun r i hr hi => ?_⟩, ?_, fun r i hr hi => ?_⟩, fun a j ha hb => ?_⟩
  · show 1 ≤ (if i = d.1 then yVv u len t 0 else d.2 0 i) ∧ (if i = d.1 then yVv u len t 0 else d.2 0 i) ≤ 20 ∧ (if i = d.1 then yVv u len t 1 else d.2 1 i) ≤ 7
    have hi' : i < d.1 + 1 := hi
    by_cases e : i = d.1
    · simp only [if_pos e]
      have a := yBd_no (nb' 0 (by decide))
      exact ⟨a.1, a.2.1, (yBd_no (nb' 1 (by decide))).2.1⟩
    · simp only [if_neg e]
      exact ok.2 i (by omega)
  · show gI _ 160 0 = nI (d.1 + 1)
    rw [gI_eq, dn]
  · show gI _ (160 + 1 + r) i = nI (if i = d.1 then yVv u len t r else d.2 r i)
    have old := fun hh => dc.2 r i hr hh
    have hi' : i < d.1 + 1 := hi
    rcases (by omega : r = 0 ∨ r = 1) with rfl | rfl
    · rw [gI_ne (by decide), gI_ne (by decide)]
      by_cases e : i = d.1
      · rw [if_pos e, e, dn, gI_eq]
      · rw [if_neg e, gI_nk (by omega)]; exact old (by omega)
    · rw [gI_ne (by decide)]
      by_cases e : i = d.1
      · rw [if_pos e, e, dn, gI_eq]
      · rw [if_neg e, gI_nk (by omega), gI_ne (by decide)]; exact old (by omega)
  · rw [C.2 hn 0, if_pos rfl, dn]
  · show gI x' 224 (1 + 2 * i + r) = nI (if i = d.1 then yVv u len t r else d.2 r i)
    have hi' : i < d.1 + 1 := hi
    rw [C.2 hn, if_neg (by omega)]
    by_cases e : i = d.1
    · rw [if_pos e, if_pos (by omega), show 1 + 2 * i + r - (1 + 2 * n) = r by omega]
    · rw [if_neg e, if_neg (by omega)]
      exact x1 r i hr (by omega)
  · rw [gI_ne (by omega), gI_ne (by omega), gI_ne (by omega)]
/-! cellars -/
abbrev yS0 : Type := Nat × Nat × Nat × (Nat → Nat → Nat) × (Nat → Nat) × Nat
def yNmf (nm : Nat) : Int32 := if nm = 0 then -1 else nI nm.log2
theorem yNmf_up : ∀ nm, nm < 128 → ∀ a, a < 7 → ∀ b, b < 7 → zf_greater (yNmf nm) (zf_greater (nI a) (nI b)) = yNmf (nm ||| (2 ^ a ||| 2 ^ b)) := by decide +kernel
theorem yNmf_end : ∀ nm, nm < 128 → ∀ n, n < 8 → (yNmf nm < nI n ↔ nm < 2 ^ n) ∧ (nI nm &&& ((nI (2 ^ n - 1)) ^^^ (-1)) = 0 ↔ nm < 2 ^ n) := by decide +kernel
def yOk0 (P : yS0) : Prop := P.1 ≤ 9 ∧ P.2.1 ≤ 9 ∧ P.2.2.1 ≤ 7 ∧ (∀ s, s < P.2.2.1 → P.2.2.2.1 0 s ≤ 30 ∧ P.2.2.2.1 1 s ≤ 5 ∧ P.2.2.2.1 2 s ≤ 30 ∧ P.2.2.2.1 3 s ≤ 5 ∧ 1 ≤ P.2.2.2.1 4 s ∧ P.2.2.2.1 4 s ≤ 40 ∧ P.2.2.2.1 5 s ≤ 20) ∧ (∀ s, s < 7 → P.2.2.2.2.1 s < 128 ∧ (P.2.2.2.2.1 s).testBit s = false ∧ ySub (P.2.2.2.2.1 s) P.2.2.2.2.2) ∧ P.2.2.2.2.2 < 128
def yC0g (g : zK) (P : yS0) : Prop := gI g 148 0 = nI P.1 ∧ gI g 148 1 = nI P.2.1 ∧ gI g 148 2 = nI P.2.2.1 ∧ (∀ i s, i < 6 → s < P.2.2.1 → gI g (149 + i) s = nI (P.2.2.2.1 i s)) ∧ (∀ s, s < 7 → gI g 155 s = nI (P.2.2.2.2.1 s)) ∧ gI g 147 13 = nI P.2.2.2.2.2
def yX0 (x : zK) (P : yS0) : Prop := gI x 224 0 = nI P.1 ∧ gI x 224 1 = nI P.2.1 ∧ gI x 224 2 = nI P.2.2.1 ∧ (∀ i s, i < 6 → s < P.2.2.1 → gI x 224 (3 + 7 * i + s) = nI (P.2.2.2.1 i s)) ∧ (∀ s, s < 7 → gI x 224 (45 + s) = nI (P.2.2.2.2.1 s)) ∧ gI x 215 20 = yNmf P.2.2.2.2.2
def yK0 (g x : zK) : Prop := ∃ P, yOk0 P ∧ yC0g g P ∧ yX0 x P
theorem qCe_add_ev {g : zK} {n : Nat} (h : gI g 148 2 = nI n) (hn : n < 7) : qCe_add g = some (sI (sI (sI (sI (sI (sI (sI g 149 n (gI g 164 0)) 150 n (gI g 164 1)) 151 n (gI g 164 2)) 152 n (gI g 164 3)) 153 n (gI g 164 4)) 154 n (gI g 164 5)) 148 2 (nI (n + 1))) := by
  have e : qCe_isFull g = 0 := by
    unfold qCe_isFull
    rw [h, if_pos (show nI n < 7 from nI_lt (b := 7) hn (by decide))]
  unfold qCe_add
  rw [if_neg (show ¬ ¬ qCe_isFull g = 0 from fun z => z e), if_pos (show (6 : Int32) ≤ 6 by decide)]
  simp only [zlet, gI_ne (show 148 ≠ 149 by decide), gI_ne (show 148 ≠ 150 by decide), gI_ne (show 148 ≠ 151 by decide), gI_ne (show 148 ≠ 152 by decide), gI_ne (show 148 ≠ 153 by decide), gI_ne (show 148 ≠ 154 by decide), gI_ne (show 164 ≠ 149 by decide), gI_ne (show 164 ≠ 150 by decide), gI_ne (show 164 ≠ 151 by decide), gI_ne (show 164 ≠ 152 by decide), gI_ne (show 164 ≠ 153 by decide), h, zix_nI (show n < 7 from hn) (by omega), Option.bind_some, nI_1]
theorem yK0_step {g x x' : zK} {n w : Nat} {u : Nat → Nat} {len t : Nat} (w3 : w ≤ 3) (K : yK0 g x) (hx : gI x 224 2 = nI n) (hn : w = 2 → n < 7) (hn7 : n ≤ 7) (nb : yNb (yBd w (yVv u len t)) (yNu w) = true) (C : yC0 x n u len t w x') (V : ∀ i, i < yNu w → gI g 164 i = nI (yVv u len t i)) : ∃ g', qRe_tell (nI w) g = some g' ∧ yK0 g' x' ∧ yFrT g g' := by
  obtain ⟨P, ok, ⟨g0, g1, g2, g3, g4, g5⟩, x0, x1, x2, x3, x4, x5⟩ := K
  obtain ⟨o1, o2, o3, o4, o5, o6⟩ := ok
  have dn : P.2.2.1 = n := (nI_eq (by omega) (by omega)).mp (x2.symm.trans hx)
  have nb' := (yNb_iff _ _).mp nb
  obtain ⟨k0, k1, k2, k3⟩ := C.2 nb
  rcases (by omega : w = 0 ∨ w = 1 ∨ w = 2 ∨ w = 3) with rfl | rfl | rfl | rfl
  · have e : qRe_tell (nI 0) g = some (sI g 148 0 (gI g 164 0)) := rfl
    obtain ⟨c1, c2⟩ := k0 rfl
    have v0 := (yBd_no (nb' 0 (by decide))).2.1
    rw [e, V 0 (by decide)]
    refine ⟨_, rfl, ⟨(yVv u len t 0, P.2), ⟨v0, o2, o3, o4, o5, o6⟩, ⟨gI_eq, (gI_nk (by decide)).trans g1, (gI_nk (by decide)).trans g2, fun i s hi hs => (gI_ne (by omega)).trans (g3 i s hi hs), fun s hs => (gI_ne (by decide)).trans (g4 s hs), (gI_ne (by decide)).trans g5⟩, ⟨(c1 0).trans (if_pos rfl), (c1 1).trans ((if_neg (by decide)).trans x1), (c1 2).trans ((if_neg (by decide)).trans x2), fun i s hi hs => (c1 _).trans ((if_neg (by omega)).trans (x3 i s hi hs)), fun s hs => (c1 _).trans ((if_neg (by omega)).trans (x4 s hs)), c2.trans x5⟩⟩, fun a j ha hb => gI_ne (by omega)⟩
  · have e : qRe_tell (nI 1) g = some (sI g 148 1 (gI g 164 0)) := rfl
    obtain ⟨c1, c2⟩ := k1 rfl
    have v0 := (yBd_no (nb' 0 (by decide))).2.1
    rw [e, V 0 (by decide)]
    refine ⟨_, rfl, ⟨(P.1, yVv u len t 0, P.2.2), ⟨o1, v0, o3, o4, o5, o6⟩, ⟨(gI_nk (by decide)).trans g0, gI_eq, (gI_nk (by decide)).trans g2, fun i s hi hs => (gI_ne (by omega)).trans (g3 i s hi hs), fun s hs => (gI_ne (by decide)).trans (g4 s hs), (gI_ne (by decide)).trans g5⟩, ⟨(c1 0).trans ((if_neg (by decide)).trans x0), (c1 1).trans (if_pos rfl), (c1 2).trans ((if_neg (by decide)).trans x2), fun i s hi hs => (c1 _).trans ((if_neg (by omega)).trans (x3 i s hi hs)), fun s hs => (c1 _).trans ((if_neg (by omega)).trans (x4 s hs)), c2.trans x5⟩⟩, fun a j ha hb => gI_ne (by omega)⟩
  · have h7 := hn rfl
    have e : qRe_tell (nI 2) g = (qCe_add g).bind fun z => some z := rfl
    obtain ⟨c1, c2, c3, c4⟩ := k2 rfl h7
    have vv := fun i (hi : i < 6) => V i hi
    have bb := fun i (hi : i < 6) => yBd_no (nb' i hi)
    have b0 := bb 0 (by omega)
    have b1 := bb 1 (by omega)
    have b2 := bb 2 (by omega)
    have b3 := bb 3 (by omega)
    have b4 := bb 4 (by omega)
    have b5 := bb 5 (by omega)
    rw [e, qCe_add_ev (g2.trans (by rw [dn])) h7, Option.bind_some, vv 0 (by omega), vv 1 (by omega), vv 2 (by omega), vv 3 (by omega), vv 4 (by omega), vv 5 (by omega)]
    refine ⟨_, rfl, ⟨(P.1, P.2.1, P.2.2.1 + 1, (fun i s => if s = P.2.2.1 then yVv u len t i else P.2.2.2.1 i s), P.2.2.2.2), ⟨o1, o2, by show P.2.2.1 + 1 ≤ 7; omega, fun s hs => ?_, o5, o6⟩, ⟨?_, ?_, ?_, fun i s hi hs => ?_, fun s hs => ?_, ?_⟩, ⟨?_, ?_, ?_, fun i s hi hs => ?_, fun s hs => ?_, ?_⟩⟩, fun a j ha hb => ?_⟩
    · have hs' : s < P.2.2.1 + 1 := hs
      by_cases es : s = P.2.2.1
      · simp only [if_pos es]
        exact ⟨b0.2.1, b1.2.1, b2.2.1, b3.2.1, b4.1, b4.2.1, b5.2.1⟩
      · simp only [if_neg es]
        exact o4 s (by omega)
    · rw [gI_nk (by decide), gI_ne (by decide), gI_ne (by decide), gI_ne (by decide), gI_ne (by decide), gI_ne (by decide), gI_ne (by decide)]; exact g0
    · rw [gI_nk (by decide), gI_ne (by decide), gI_ne (by decide), gI_ne (by decide), gI_ne (by decide), gI_ne (by decide), gI_ne (by decide)]; exact g1
    · rw [gI_eq, dn]
    · have hs' : s < P.2.2.1 + 1 := hs
      show _ = nI (if s = P.2.2.1 then yVv u len t i else P.2.2.2.1 i s)
      by_cases es : s = P.2.2.1
      · rw [if_pos es, es, dn]
        rcases (by omega : i = 0 ∨ i = 1 ∨ i = 2 ∨ i = 3 ∨ i = 4 ∨ i = 5) with rfl | rfl | rfl | rfl | rfl | rfl
        · rw [gI_ne (by decide), gI_ne (by decide), gI_ne (by decide), gI_ne (by decide), gI_ne (by decide), gI_ne (by decide)]; exact gI_eq
        · rw [gI_ne (by decide), gI_ne (by decide), gI_ne (by decide), gI_ne (by decide), gI_ne (by decide)]; exact gI_eq
        · rw [gI_ne (by decide), gI_ne (by decide), gI_ne (by decide), gI_ne (by decide)]; exact gI_eq
        · rw [gI_ne (by decide), gI_ne (by decide), gI_ne (by decide)]; exact gI_eq
        · rw [gI_ne (by decide), gI_ne (by decide)]; exact gI_eq
        · rw [gI_ne (by decide)]; exact gI_eq
      · have ns : s ≠ n := by omega
        rw [if_neg es, gI_ne (by omega), gI_nk ns, gI_nk ns, gI_nk ns, gI_nk ns, gI_nk ns, gI_nk ns]
        exact g3 i s hi (by omega)
    · rw [gI_ne (by decide), gI_ne (by decide), gI_ne (by decide), gI_ne (by decide), gI_ne (by decide), gI_ne (by decide), gI_ne (by decide)]; exact g4 s hs
    · rw [gI_ne (by decide), gI_ne (by decide), gI_ne (by decide), gI_ne (by decide), gI_ne (by decide), gI_ne (by decide), gI_ne (by decide)]; exact g5
    · exact (c2 0 (by decide) (fun i _ => by omega)).trans x0
    · exact (c2 1 (by decide) (fun i _ => by omega)).trans x1
    · rw [c3, dn]
    · have hs' : s < P.2.2.1 + 1 := hs
      show _ = nI (if s = P.2.2.1 then yVv u len t i else P.2.2.2.1 i s)
      by_cases es : s = P.2.2.1
      · rw [if_pos es, es, dn]; exact c1 i hi
      · rw [if_neg es, c2 _ (by omega) (fun k hk => by omega)]
        exact x3 i s hi (by omega)
    · rw [c2 _ (by omega) (fun k hk => by omega)]
      exact x4 s hs
    · exact c4.trans x5
    · rw [gI_ne (by omega), gI_ne (by omega), gI_ne (by omega), gI_ne (by omega), gI_ne (by omega), gI_ne (by omega), gI_ne (by omega)]
  · obtain ⟨c1, c2⟩ := k3 rfl
    have b0 : yVv u len t 0 ≤ 6 := (yBd_no (nb' 0 (by decide))).2.1
    have b1' := yBd_no (nb' 1 (by decide))
    have b1 : yVv u len t 1 ≤ 6 := b1'.2.1
    have ne : yVv u len t 0 ≠ yVv u len t 1 := fun z => b1'.2.2 ⟨rfl, rfl, z⟩
    have e : qRe_tell (nI 3) g = (qCe_addAnswer (gI g 164 0) (gI g 164 1) g).bind fun p4 => some (sI p4 147 13 ((gI p4 147 13) ||| (((1 : Int32) <<< ((gI p4 164 0) &&& 31)) ||| ((1 : Int32) <<< ((gI p4 164 1) &&& 31))))) := rfl
    have vv0 := V 0 (by decide)
    have vv1 := V 1 (by decide)
    generalize ea : yVv u len t 0 = a at *
    generalize eb : yVv u len t 1 = b at *
    have ad : qCe_addAnswer (nI a) (nI b) g = some (sI g 155 a (nI (P.2.2.2.2.1 a ||| 2 ^ b))) := by
      unfold qCe_addAnswer
      rw [if_neg (nI_pos (by omega)), if_neg (show ¬ (7 : Int32) ≤ nI a from nI_ge (b := 7) (by omega) (by decide)), zix_nI (show a < 7 by omega) (by omega), Option.bind_some, wshl b (by omega), g4 a (by omega), fa_or]
      rfl
    rw [e, vv0, vv1, ad, Option.bind_some, gI_ne (show 147 ≠ 155 by decide), gI_ne (show 164 ≠ 155 by decide), gI_ne (show 164 ≠ 155 by decide), vv0, vv1, wshl a (by omega), wshl b (by omega), g5, fa_or, fa_or]
    have pa : 2 ^ a < 128 := by have : 2 ^ a ≤ 2 ^ 6 := Nat.pow_le_pow_right (by omega) b0; omega
    have pb : 2 ^ b < 128 := by have : 2 ^ b ≤ 2 ^ 6 := Nat.pow_le_pow_right (by omega) b1; omega
    refine ⟨_, rfl, ⟨(P.1, P.2.1, P.2.2.1, P.2.2.2.1, (fun s => if s = a then P.2.2.2.2.1 s ||| 2 ^ b else P.2.2.2.2.1 s), P.2.2.2.2.2 ||| (2 ^ a ||| 2 ^ b)), ⟨o1, o2, o3, o4, fun s hs => ?_, wor_lt o6 (wor_lt pa pb)⟩, ⟨?_, ?_, ?_, fun i s hi hs => ?_, fun s hs => ?_, ?_⟩, ⟨?_, ?_, ?_, fun i s hi hs => ?_, fun s hs => ?_, ?_⟩⟩, fun a j ha hb => ?_⟩
    · show (if s = a then _ else _) < 128 ∧ Nat.testBit (if s = a then _ else _) s = false ∧ ySub (if s = a then _ else _) _
      obtain ⟨q1, q2, q3⟩ := o5 s hs
      by_cases es : s = a
      · rw [if_pos es]
        refine ⟨wor_lt q1 pb, ?_, ySub_or (fun t ht => by rw [Nat.testBit_or, q3 t ht]; rfl) (fun t ht => by rw [Nat.testBit_or, Nat.testBit_or, ht, Bool.or_true, Bool.or_true])⟩
        rw [fb_bit_set, q2, decide_eq_false (by omega)]
        rfl
      · rw [if_neg es]
        exact ⟨q1, q2, fun t ht => by rw [Nat.testBit_or, q3 t ht]; rfl⟩
    · rw [gI_ne (by decide), gI_ne (by decide)]; exact g0
    · rw [gI_ne (by decide), gI_ne (by decide)]; exact g1
    · rw [gI_ne (by decide), gI_ne (by decide)]; exact g2
    · rw [gI_ne (by omega), gI_ne (by omega)]; exact g3 i s hi hs
    · show _ = nI (if s = a then P.2.2.2.2.1 s ||| 2 ^ b else P.2.2.2.2.1 s)
      rw [gI_ne (by decide)]
      by_cases es : s = a
      · rw [if_pos es, es, gI_eq]
      · rw [if_neg es, gI_nk es]; exact g4 s hs
    · exact gI_eq
    · exact (c1 0).trans ((if_neg (by omega)).trans x0)
    · exact (c1 1).trans ((if_neg (by omega)).trans x1)
    · exact (c1 2).trans ((if_neg (by omega)).trans x2)
    · have hs' : s < P.2.2.1 := hs
      exact (c1 _).trans ((if_neg (by omega)).trans (x3 i s hi hs))
    · show _ = nI (if s = a then P.2.2.2.2.1 s ||| 2 ^ b else P.2.2.2.2.1 s)
      rw [c1, x4 s hs]
      by_cases es : s = a
      · rw [if_pos es, if_pos (by omega), wshl b (by omega), fa_or]
      · rw [if_neg es, if_neg (by omega)]
    · rw [c2, x5]
      exact yNmf_up _ o6 a (by omega) b (by omega)
    · rw [gI_sI, if_neg (by omega), gI_ne (by omega)]
