/-! TEXTS: numbers -/
def yTn (u : Nat → Nat) (len t : Nat) : Nat := ySt u len (yNx u len t)
def yVt (u : Nat → Nat) (len t : Nat) : Nat := yVl u t (yNx u len t - t)
section NUM
variable {g x : zK} {u : Nat → Nat} {len t : Nat}
theorem yNx_r (h : t ≤ len) : t ≤ yNx u len t ∧ yNx u len t ≤ len ∧ (t < len → t < yNx u len t) := by
  unfold yNx
  split
  · omega
  · rename_i hl
    split
    · rename_i hL
      exact ⟨ySc_ge, ySc_le h, fun hh => ySc_gt (p := fun j => yLt (u j)) hh hL⟩
    · split
      · rename_i hD
        exact ⟨ySc_ge, ySc_le h, fun hh => ySc_gt (p := fun j => yDg (u j)) hh hD⟩
      · omega
theorem yTn_r (h : t ≤ len) : t ≤ yTn u len t ∧ yTn u len t ≤ len ∧ (t < len → t < yTn u len t) := by
  obtain ⟨a, b, c⟩ := yNx_r (u := u) h
  have d : yNx u len t ≤ yTn u len t := by unfold yTn ySt; exact ySc_ge
  have e : yTn u len t ≤ len := by unfold yTn ySt; exact ySc_le b
  exact ⟨by omega, e, fun hh => by have := c hh; omega⟩
theorem yKd_len (h : yKd u len t ≠ 0) : t < len := by
  unfold yKd at h
  split at h
  · exact absurd rfl h
  · omega
theorem yKd_4 (u : Nat → Nat) (len t : Nat) : yKd u len t ≤ 4 := by unfold yKd; split <;> (try split) <;> (try split) <;> (try split) <;> omega
theorem yVt_99 (T : ∀ j, j < len → u j < 256) (h : yKd u len t = 2) : yVt u len t ≤ 99 := by
  unfold yKd at h
  split at h
  · omega
  · rename_i hl
    split at h
    · omega
    · rename_i hL
      split at h
      · rename_i hD
        split at h
        · rename_i h2
          have gt := ySc_gt (p := fun j => yDg (u j)) (len := len) (a := t) (by omega) hD
          have le := ySc_le (p := fun j => yDg (u j)) (len := len) (a := t) (by omega)
          have dg : ∀ i, i < ySc (fun j => yDg (u j)) len t - t → 48 ≤ u (t + i) ∧ u (t + i) ≤ 57 := fun i hi => by
            have := ySc_y (p := fun j => yDg (u j)) (len := len) (a := t) (j := t + i) (by omega) (by omega)
            have this' : yDg (u (t + i)) = true := this
            unfold yDg at this'
            rw [Bool.and_eq_true] at this'
            exact ⟨of_decide_eq_true this'.1, of_decide_eq_true this'.2⟩
          have d0 := dg 0 (by omega)
          rw [Nat.add_zero] at d0
          unfold yVt yVl yNx
          rw [if_neg hl, if_neg hL, if_pos hD]
          split
          · omega
          · have d1 := dg 1 (by omega)
            omega
        · omega
      · split at h <;> omega
/-- class: the token at t is read -/
def yRS (g : zK) (u : Nat → Nat) (len t : Nat) : Prop := yTp g u len ∧ yCS g u len t ∧ t ≤ len
theorem yTp_f {g' : zK} (T : yTp g u len) (F : yFC g g') : yTp g' u len := ⟨T.1, (F.2 147 8 (by omega)).trans T.2.1, fun j hj => ⟨(F.2 163 j (Or.inl (by decide))).trans (T.2.2 j hj).1, (T.2.2 j hj).2⟩⟩
theorem yRS_step (R : yRS g u len t) : ∃ g', qRe_step g = some g' ∧ yRS g' u len (yTn u len t) ∧ yFC g g' := by
  obtain ⟨T, C, tl⟩ := R
  obtain ⟨g', e1, e2, e3⟩ := qRe_step_ev T (yNx_r tl).2.1 C.2.2.1
  exact ⟨g', e1, ⟨yTp_f T e3, e2, (yTn_r tl).2.1⟩, e3⟩
/-- reference: the token at t is read -/
def yRX (x : zK) (u : Nat → Nat) (len t : Nat) : Prop := yTm x u len ∧ yMS x u len t ∧ t ≤ len
theorem yTm_f {x' : zK} (T : yTm x u len) (F : yFM x x') : yTm x' u len := ⟨T.1, (F.2 215 10 (by omega)).trans T.2.1, fun j hj => ⟨(F.2 216 j (Or.inl (by decide))).trans (T.2.2 j hj).1, (T.2.2 j hj).2⟩⟩
theorem yRX_step (R : yRX x u len t) : ∃ x', qM_token x = some x' ∧ yRX x' u len (yTn u len t) ∧ yFM x x' := by
  obtain ⟨T, C, tl⟩ := R
  obtain ⟨x', e1, e2, e3⟩ := qM_token_ev T (yNx_r tl).2.1 C.2.2.1
  exact ⟨x', e1, ⟨yTm_f T e3, e2, (yTn_r tl).2.1⟩, e3⟩
def yTi (u : Nat → Nat) (len t : Nat) : Nat → Nat
  | 0 => t
  | i + 1 => yTn u len (yTi u len t i)
theorem yTi_r (h : t ≤ len) : ∀ i, t ≤ yTi u len t i ∧ yTi u len t i ≤ len
  | 0 => ⟨Nat.le_refl _, h⟩
  | i + 1 => by
    obtain ⟨a, b⟩ := yTi_r h i
    obtain ⟨c, d, -⟩ := yTn_r (u := u) b
    exact ⟨by show t ≤ yTn u len (yTi u len t i); omega, d⟩
def yNu (w : Nat) : Nat := [1, 1, 6, 2, 0, 1, 1, 1, 2, 2].getD w 0
theorem yNu_z : ∀ w, w < 10 → List.getD zA_NUMBERS w 0 = nI (yNu w) := by decide +kernel
theorem yNu_6 : ∀ w, w < 10 → yNu w ≤ 6 := by decide
/-- what reading a line's numbers leaves -/
def yFN (g g' : zK) : Prop := g'.2.2 = g.2.2 ∧ ∀ a j, a ≠ 164 → a ≠ 165 → (a ≠ 147 ∨ (j ≠ 9 ∧ j ≠ 10 ∧ j ≠ 11 ∧ j ≠ 12)) → gI g' a j = gI g a j
theorem yRS_w {a k : Nat} {v : Int32} (ha : a = 164 ∨ a = 165) (R : yRS g u len t) : yRS (sI g a k v) u len t := by
  obtain ⟨⟨t1, t2, t3⟩, ⟨c1, c2, c3, c4⟩, tl⟩ := R
  have q : ∀ y j, y = 147 ∨ y = 163 → gI (sI g a k v) y j = gI g y j := fun y j hy => gI_ne (by omega)
  exact ⟨⟨t1, (q _ _ (Or.inl rfl)).trans t2, fun j hj => ⟨(q _ _ (Or.inr rfl)).trans (t3 j hj).1, (t3 j hj).2⟩⟩, ⟨(q _ _ (Or.inl rfl)).trans c1, (q _ _ (Or.inl rfl)).trans c2, (q _ _ (Or.inl rfl)).trans c3, fun z => (q _ _ (Or.inl rfl)).trans (c4 z)⟩, tl⟩
/-- all the numbers of a line are there -/
def yAll (u : Nat → Nat) (len t c : Nat) : Prop := ∀ i, i < c → yKd u len (yTi u len t i) = 2
theorem qRe_numbers_ev {w : Nat} (hw : w < 10) (R : yRS g u len t) (x3 : Int32) : (yAll u len t (yNu w) ∧ ∃ g', zloop (qRe_readLine_b28 (nI w) x3) zfu (0, g) = some (.inl g') ∧ yRS g' u len (yTi u len t (yNu w)) ∧ yFN g g' ∧ ∀ i, i < yNu w → gI g' 164 i = nI (yVt u len (yTi u len t i)) ∧ gI g' 165 i = nI (yTi u len t i)) ∨ ∃ m g', m < yNu w ∧ yAll u len t m ∧ yKd u len (yTi u len t m) ≠ 2 ∧ zloop (qRe_readLine_b28 (nI w) x3) zfu (0, g) = some (.inr g') ∧ gI g' 147 3 = 1 ∧ gI g' 147 4 = nI (yTi u len t m) := by
  have n6 := yNu_6 w hw
  have key : ∃ r, zloop (qRe_readLine_b28 (nI w) x3) zfu (0, g) = some r ∧ ((yAll u len t (yNu w) ∧ ∃ g', r = .inl g' ∧ yRS g' u len (yTi u len t (yNu w)) ∧ yFN g g' ∧ ∀ i, i < yNu w → gI g' 164 i = nI (yVt u len (yTi u len t i)) ∧ gI g' 165 i = nI (yTi u len t i)) ∨ ∃ m g', m < yNu w ∧ yAll u len t m ∧ yKd u len (yTi u len t m) ≠ 2 ∧ r = .inr g' ∧ gI g' 147 3 = 1 ∧ gI g' 147 4 = nI (yTi u len t m)) := by
    refine zloop_me (Q := fun q s => ∃ i g', q + i = yNu w ∧ s = (nI i, g') ∧ yAll u len t i ∧ yRS g' u len (yTi u len t i) ∧ yFN g g' ∧ ∀ j, j < i → gI g' 164 j = nI (yVt u len (yTi u len t j)) ∧ gI g' 165 j = nI (yTi u len t j)) ?_ zfu (yNu w) _ ⟨0, g, by omega, rfl, fun i hi => absurd hi (Nat.not_lt_zero _), R, ⟨rfl, fun _ _ _ _ _ => rfl⟩, fun j hj => absurd hj (Nat.not_lt_zero _)⟩ (zfu_lt (by omega))
    rintro q s ⟨i, g', hq, rfl, al, R', F', N'⟩
    have kb := yKd_4 u len (yTi u len t i)
    unfold qRe_readLine_b28
    dsimp only
    rw [zix_nI hw (by omega), Option.bind_some, yNu_z w hw]
    by_cases hi : i < yNu w
    · rw [if_neg (nI_ge hi (by omega)), R'.2.1.2.1]
      by_cases h2 : yKd u len (yTi u len t i) = 2
      · have R1 := yRS_w (k := i) (v := gI g' 147 12) (Or.inl rfl) R'
        have v11 : gI (sI g' 164 i (gI g' 147 12)) 147 11 = nI (yTi u len t i) := R1.2.1.1
        have R2 := yRS_w (k := i) (v := nI (yTi u len t i)) (Or.inr rfl) R1
        obtain ⟨g2, e1, e2, e3⟩ := yRS_step R2
        rw [if_pos (show nI (yKd u len (yTi u len t i)) = 2 by rw [h2]; rfl), zix_nI (by omega) (by omega), Option.bind_some]
        simp only [zlet]
        rw [v11, e1, Option.bind_some, nI_1]
        refine Or.inr ⟨q - 1, _, rfl, by omega, i + 1, g2, by omega, rfl, fun j hj => ?_, e2, ⟨e3.1.trans F'.1, fun a j ha hb hc => ?_⟩, fun j hj => ?_⟩
        · by_cases e : j = i
          · subst e; exact h2
          · exact al j (by omega)
        · rw [e3.2 a j hc, gI_ne hb, gI_ne ha]
          exact F'.2 a j ha hb hc
        · rw [e3.2 164 j (Or.inl (by decide)), e3.2 165 j (Or.inl (by decide)), gI_ne (show 164 ≠ 165 by decide)]
          by_cases e : j = i
          · subst e
            rw [gI_eq, gI_eq]
            exact ⟨R'.2.1.2.2.2 h2, rfl⟩
          · rw [gI_nk e, gI_nk e, gI_ne (show 165 ≠ 164 by decide)]
            exact N' j (by omega)
      · rw [if_neg (show ¬ nI (yKd u len (yTi u len t i)) = 2 from fun z => h2 ((nI_eq (b := 2) (by omega) (by omega)).mp z))]
        unfold qRe_stopHere
        simp only [zlet]
        rw [Option.bind_some]
        refine Or.inl ⟨_, rfl, Or.inr ⟨i, _, hi, al, h2, rfl, ?_, ?_⟩⟩
        · rw [gI_nk (by decide), gI_eq]
        · rw [gI_eq, gI_nk (by decide)]
          exact R'.2.1.1
    · have ei : i = yNu w := by omega
      subst ei
      rw [if_pos (nI_le (Nat.le_refl _) (by omega))]
      exact Or.inl ⟨_, rfl, Or.inl ⟨al, g', rfl, R', F', N'⟩⟩
  obtain ⟨r, e, ⟨al, g', rfl, q⟩ | ⟨m, g', m1, m2, m3, rfl, m4⟩⟩ := key
  · exact Or.inl ⟨al, g', e, q⟩
  · exact Or.inr ⟨m, g', m1, m2, m3, e, m4⟩
/-! faults -/
/-- a fault and its place, noted if there is none yet -/
def yAd (F : Nat × Nat) (bad : Bool) (f p : Nat) : Nat × Nat := if bad && decide (F.1 = 0) then (f, p) else F
/-- the reference's first fault -/
def yFl (x : zK) (F : Nat × Nat) : Prop := F.1 ≤ 4 ∧ gI x 215 16 = nI F.1 ∧ (F.1 ≠ 0 → gI x 215 17 = nI F.2)
theorem qM_addsFault_ev {F : Nat × Nat} (L : yFl x F) {f p : Nat} (hf : f ≤ 4) (hp : p < 2 ^ 31) (hF : F.1 ≠ 0 → F.2 < p) : ∃ x', qM_addsFault (nI f) (nI p) x = some x' ∧ yFl x' (yAd F true f p) ∧ (∀ a j, (a ≠ 215 ∨ (j ≠ 16 ∧ j ≠ 17)) → gI x' a j = gI x a j) ∧ x'.2.2 = x.2.2 := by
  obtain ⟨l0, l1, l2⟩ := L
  unfold qM_addsFault yAd
  by_cases h0 : F.1 = 0
  · rw [l1, if_pos (show nI F.1 = 0 by rw [h0]; rfl), decide_eq_true h0]
    unfold qM_addsFault_j31
    simp only [zlet]
    refine ⟨_, rfl, ⟨hf, ?_, fun _ => gI_eq⟩, fun a j h => ?_, rfl⟩
    · rw [gI_nk (by decide), gI_eq]; rfl
    · by_cases e : a = 215
      · rw [gI_nk (by omega), gI_nk (by omega)]
      · rw [gI_ne e, gI_ne e]
  · have hl := hF h0
    rw [l1, if_neg (show ¬ nI F.1 = 0 from fun z => h0 ((nI_z (by omega)).mp z)), l2 h0, if_neg (nI_nlt (by omega) hp), if_pos (show ¬ nI p = nI F.2 from fun z => by have := (nI_eq hp (by omega)).mp z; omega), decide_eq_false h0]
    exact ⟨x, rfl, ⟨l0, l1, l2⟩, fun _ _ _ => rfl, rfl⟩
theorem yAd_false (F : Nat × Nat) (f p : Nat) : yAd F false f p = F := by unfold yAd; rw [Bool.false_and, if_neg (by decide)]
/-- what a taken number changes of the reference -/
def yFT (x x' : zK) (k : Nat) : Prop := (∀ a j, a ≠ 215 → gJ x' a j = gJ x a j) ∧ ∀ a j, (a ≠ 225 ∨ j ≠ k) → (a ≠ 215 ∨ (j ≠ 9 ∧ j ≠ 11 ∧ j ≠ 12 ∧ j ≠ 13 ∧ j ≠ 16 ∧ j ≠ 17 ∧ j ≠ 21)) → gI x' a j = gI x a j
theorem yRX_o {x' : zK} (R : yRX x u len t) (h : ∀ a j, (a ≠ 225) → (a ≠ 215 ∨ (j ≠ 16 ∧ j ≠ 17 ∧ j ≠ 21 ∧ j ≠ 15)) → gI x' a j = gI x a j) (hj : x'.2.2 = x.2.2) : yRX x' u len t := by
  obtain ⟨⟨t1, t2, t3⟩, ⟨c1, c2, c3, c4, c5⟩, tl⟩ := R
  have q : ∀ j, j ≤ 13 → gI x' 215 j = gI x 215 j := fun j hj => h 215 j (by decide) (Or.inr (by omega))
  refine ⟨⟨t1, (q 10 (by omega)).trans t2, fun j hj => ⟨(h 216 j (by decide) (Or.inl (by decide))).trans (t3 j hj).1, (t3 j hj).2⟩⟩, ⟨(q 11 (by omega)).trans c1, (q 12 (by omega)).trans c2, (q 9 (by omega)).trans c3, fun z => (q 13 (by omega)).trans (c4 z), fun z => ?_⟩, tl⟩
  rw [← c5 z]
  show x'.2.2 215 14 = x.2.2 215 14
  rw [hj]
theorem qM_takeBut_ev (R : yRX x u len t) (us : ∀ j, j < len → u j < 256) {F : Nat × Nat} (L : yFl x F) (hF : F.1 ≠ 0 → F.2 < t) {k lo hi : Nat} {but : Int32} (hk : k < 6) (hlo : lo ≤ 99) (hhi : hi ≤ 99) {bad : Bool} (hbad : bad = true ↔ (¬ (lo ≤ yVt u len t ∧ yVt u len t ≤ hi) ∨ nI (yVt u len t) = but)) : (yKd u len t = 2 ∧ ∃ x', qM_takeBut (nI k) (nI lo) (nI hi) but x = some (1, x') ∧ yRX x' u len (yTn u len t) ∧ yFl x' (yAd F bad 2 t) ∧ gI x' 225 k = nI (yVt u len t) ∧ gI x' 215 21 = (if bad then 0 else gI x 215 21) ∧ yFT x x' k) ∨ (yKd u len t ≠ 2 ∧ ∃ x', qM_takeBut (nI k) (nI lo) (nI hi) but x = some (0, x') ∧ gI x' 215 15 = nI t) := by
  obtain ⟨T, C, tl⟩ := R
  have R : yRX x u len t := ⟨T, C, tl⟩
  have l6 := T.1
  have kb := yKd_4 u len t
  unfold qM_takeBut
  rw [C.2.1]
  by_cases h2 : yKd u len t = 2
  · left
    have v99 := yVt_99 us h2
    have v13 : gI x 215 13 = nI (yVt u len t) := C.2.2.2.1 h2
    rw [h2, if_pos (show nI (yKr 2) = 3 from rfl), zix_nI hk (by omega), Option.bind_some]
    simp only [zlet]
    let x3 : zK := sI x 225 k (gI x 215 13)
    have R3 : yRX x3 u len t := yRX_o R (fun a j h1 _ => gI_ne h1) rfl
    have L3 : yFl x3 F := ⟨L.1, (gI_ne (by decide)).trans L.2.1, fun z => (gI_ne (by decide)).trans (L.2.2 z)⟩
    have w13 : gI x3 215 13 = nI (yVt u len t) := (gI_ne (by decide)).trans v13
    have w11 : gI x3 215 11 = nI t := (gI_ne (by decide)).trans C.1
    have zin : zf_in (nI (yVt u len t)) (nI lo) (nI hi) = if lo ≤ yVt u len t ∧ yVt u len t ≤ hi then 1 else 0 := by
      unfold zf_in
      by_cases a : lo ≤ yVt u len t
      · rw [if_pos (nI_le a (by omega))]
        by_cases b : yVt u len t ≤ hi
        · rw [if_pos (nI_le b (by omega)), if_pos ⟨a, b⟩]
        · rw [if_neg (nI_ge (by omega) (by omega)), if_neg (fun z => b z.2)]
      · rw [if_neg (nI_ge (by omega) (by omega)), if_neg (fun z => a z.1)]
    -- behind the note
    have mid : ∃ v, (if zf_in (gI x3 215 13) (nI lo) (nI hi) = 0 then (qM_addsFault 2 (gI x3 215 11) x3).bind fun p6 => some (sI p6 215 21 0) else if ¬ gI x3 215 13 = but then some x3 else (qM_addsFault 2 (gI x3 215 11) x3).bind fun p9 => some (sI p9 215 21 0)) = some v ∧ yRX v u len t ∧ yFl v (yAd F bad 2 t) ∧ gI v 215 21 = (if bad then 0 else gI x 215 21) ∧ (∀ a j, (a ≠ 215 ∨ (j ≠ 16 ∧ j ≠ 17 ∧ j ≠ 21)) → gI v a j = gI x3 a j) ∧ v.2.2 = x3.2.2 := by
      obtain ⟨y, y1, y2, y3, y4⟩ := qM_addsFault_ev L3 (f := 2) (p := t) (by omega) (by omega) hF
      have y1' : qM_addsFault 2 (nI t) x3 = some y := y1
      have fr : ∀ a j, (a ≠ 215 ∨ (j ≠ 16 ∧ j ≠ 17 ∧ j ≠ 21)) → gI (sI y 215 21 0) a j = gI x3 a j := fun a j h => by
        by_cases e : a = 215
        · rw [gI_nk (by omega), y3 a j (by omega)]
        · rw [gI_ne e, y3 a j (Or.inl e)]
      have badc : bad = true → ∃ v, some (sI y 215 21 0) = some v ∧ yRX v u len t ∧ yFl v (yAd F bad 2 t) ∧ gI v 215 21 = (if bad then 0 else gI x 215 21) ∧ (∀ a j, (a ≠ 215 ∨ (j ≠ 16 ∧ j ≠ 17 ∧ j ≠ 21)) → gI v a j = gI x3 a j) ∧ v.2.2 = x3.2.2 := fun hb => by
        subst hb
        refine ⟨_, rfl, yRX_o R3 (fun a j h1 h2 => fr a j (by omega)) y4, ⟨y2.1, (gI_nk (by decide)).trans y2.2.1, fun z => (gI_nk (by decide)).trans (y2.2.2 z)⟩, ?_, fr, y4⟩
        rw [gI_eq, if_pos rfl]
      rw [w13, w11, y1', Option.bind_some, zin]
      by_cases hr : lo ≤ yVt u len t ∧ yVt u len t ≤ hi
      · rw [if_pos hr, if_neg (show ¬ (1 : Int32) = 0 by decide)]
        by_cases hbt : nI (yVt u len t) = but
        · rw [if_neg (show ¬ ¬ nI (yVt u len t) = but from fun z => z hbt)]
          exact badc (hbad.mpr (Or.inr hbt))
        · have hb : bad = false := ybf (fun z => (hbad.mp z).elim (fun q => q hr) hbt)
          subst hb
          rw [if_pos hbt, yAd_false]
          exact ⟨x3, rfl, R3, L3, gI_ne (by decide), fun _ _ _ => rfl, rfl⟩
      · rw [if_neg hr, if_pos rfl]
        exact badc (hbad.mpr (Or.inl hr))
    obtain ⟨v, m1, m2, m3, m4, m5, m6⟩ := mid
    obtain ⟨x', e1, e2, e3⟩ := yRX_step m2
    refine ⟨trivial, x', ?_, e2, ⟨m3.1, (e3.2 215 16 (by omega)).trans m3.2.1, fun z => (e3.2 215 17 (by omega)).trans (m3.2.2 z)⟩, ?_, (e3.2 215 21 (by omega)).trans m4, ⟨fun a j h => ?_, fun a j h1 h2 => ?_⟩⟩
    · show (Option.bind (if zf_in (gI x3 215 13) (nI lo) (nI hi) = 0 then (qM_addsFault 2 (gI x3 215 11) x3).bind fun p6 => some (sI p6 215 21 0) else if ¬ gI x3 215 13 = but then some x3 else (qM_addsFault 2 (gI x3 215 11) x3).bind fun p9 => some (sI p9 215 21 0)) fun v5 => (qM_token v5).bind fun p11 => some (1, p11)) = _
      rw [m1, Option.bind_some, e1]
      rfl
    · rw [e3.2 225 k (Or.inl (by decide)), m5 225 k (Or.inl (by decide))]
      show gI (sI _ _ _ _) _ _ = _
      rw [gI_eq, v13]
    · rw [e3.1 a j h]
      show v.2.2 a j = x.2.2 a j
      rw [m6]
      rfl
    · rw [e3.2 a j (by omega), m5 a j (by omega)]
      show gI (sI _ _ _ _) _ _ = _
      rcases h1 with h1 | h1
      · rw [gI_ne h1]
      · rw [gI_nk h1]
  · right
    have kr : ¬ nI (yKr (yKd u len t)) = 3 := fun z => by
      have e : yKr (yKd u len t) = 3 := (nI_eq (b := 3) (by unfold yKr; split <;> (try split) <;> (try split) <;> (try split) <;> omega) (by omega)).mp z
      unfold yKr at e
      split at e
      · omega
      · split at e
        · omega
        · split at e <;> omega
    rw [if_neg kr]
    unfold qM_fails
    simp only [zlet]
    rw [Option.bind_some]
    dsimp only
    rw [if_pos zbool_0]
    exact ⟨h2, _, rfl, by rw [gI_eq]; exact C.1⟩
end NUM
