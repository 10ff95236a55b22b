/-! TEXTS: the class judges a line -/
def yLw (w i : Nat) : Nat := [0, 0, 0, 0, 0, 0, 0, 0, 0, 0, 0, 0, 0, 0, 0, 0, 1, 0, 0, 0, 0, 0, 0, 0, 0, 0, 0, 0, 0, 0, 0, 0, 0, 0, 0, 0, 0, 0, 0, 0, 0, 0, 0, 0, 0, 0, 0, 0, 0, 0, 0, 0, 0, 0, 1, 0, 0, 0, 0, 0].getD (w * 6 + i) 0
def yUp (w i : Nat) : Nat := [9, 0, 0, 0, 0, 0, 9, 0, 0, 0, 0, 0, 30, 5, 30, 5, 40, 20, 6, 6, 0, 0, 0, 0, 0, 0, 0, 0, 0, 0, 6, 0, 0, 0, 0, 0, 6, 0, 0, 0, 0, 0, 6, 0, 0, 0, 0, 0, 6, 20, 0, 0, 0, 0, 20, 7, 0, 0, 0, 0].getD (w * 6 + i) 0
theorem yLw_z : ∀ w, w < 10 → ∀ i, i < 6 → List.getD zA_LOW (w * 6 + i) 0 = nI (yLw w i) ∧ yLw w i ≤ 99 := by decide +kernel
theorem yUp_z : ∀ w, w < 10 → ∀ i, i < 6 → List.getD zA_HIGH (w * 6 + i) 0 = nI (yUp w i) ∧ yUp w i ≤ 99 := by decide +kernel
def yOr (w i v : Nat) : Bool := !(decide (yLw w i ≤ v) && decide (v ≤ yUp w i))
def yBd (w : Nat) (v : Nat → Nat) (i : Nat) : Bool := yOr w i (v i) || (decide (w = 3) && decide (i = 1) && decide (v 0 = v 1))
def yGf (b : Nat → Bool) (p : Nat → Nat) (F : Nat × Nat) : Nat → Nat × Nat
  | 0 => F
  | i + 1 => yAd (yGf b p F i) (b i) 2 (p i)
theorem yGf_c {b b' : Nat → Bool} {p : Nat → Nat} {F : Nat × Nat} : ∀ {n : Nat}, (∀ i, i < n → b i = b' i) → yGf b p F n = yGf b' p F n
  | 0, _ => rfl
  | n + 1, h => by
    show yAd _ _ _ _ = yAd _ _ _ _
    rw [yGf_c (n := n) (fun i hi => h i (by omega)), h n (by omega)]
theorem yAd_or (F : Nat × Nat) (a b : Bool) (p : Nat) : yAd (yAd F a 2 p) b 2 p = yAd F (a || b) 2 p := by
  unfold yAd
  cases a <;> cases b <;> by_cases h : F.1 = 0 <;> simp [h]
theorem yAd_4 {F : Nat × Nat} {b : Bool} {f p : Nat} (h : F.1 ≤ 4) (hf : f ≤ 4) : (yAd F b f p).1 ≤ 4 := by unfold yAd; split <;> assumption
theorem yAd_z {F : Nat × Nat} {b : Bool} {f p : Nat} (hf : f ≠ 0) (h : (yAd F b f p).1 = 0) : F.1 = 0 ∧ b = false := by
  unfold yAd at h
  cases b
  · simp at h; exact ⟨h, rfl⟩
  · by_cases e : F.1 = 0
    · simp [e] at h; exact absurd h hf
    · simp [e] at h
theorem yAd_1 {F : Nat × Nat} {b : Bool} {f p : Nat} (h : F.1 ≠ 1) (hf : f ≠ 1) : (yAd F b f p).1 ≠ 1 := by unfold yAd; split <;> assumption
theorem yAd_p {F : Nat × Nat} {b : Bool} {f p q : Nat} (h : F.1 ≠ 0 → F.2 < q) (hp : p < q) : (yAd F b f p).1 ≠ 0 → (yAd F b f p).2 < q := by
  unfold yAd
  split
  · exact fun _ => hp
  · exact h
theorem yGf_z {b : Nat → Bool} {p : Nat → Nat} {F : Nat × Nat} : ∀ {n : Nat}, (yGf b p F n).1 = 0 → F.1 = 0 ∧ ∀ i, i < n → b i = false
  | 0, h => ⟨h, fun i hi => absurd hi (Nat.not_lt_zero _)⟩
  | n + 1, h => by
    obtain ⟨a, c⟩ := yAd_z (by decide) h
    obtain ⟨d, e⟩ := yGf_z (n := n) a
    refine ⟨d, fun i hi => ?_⟩
    by_cases q : i = n
    · subst q; exact c
    · exact e i (by omega)
theorem yGf_1 {b : Nat → Bool} {p : Nat → Nat} {F : Nat × Nat} (h : F.1 ≠ 1) : ∀ n, (yGf b p F n).1 ≠ 1
  | 0 => h
  | n + 1 => yAd_1 (yGf_1 h n) (by decide)
section JUDGE
variable {g : zK} {u : Nat → Nat} {len t : Nat} {F : Nat × Nat}
def yFc (g : zK) (F : Nat × Nat) : Prop := F.1 ≤ 4 ∧ gI g 147 3 = nI F.1 ∧ (F.1 ≠ 0 → gI g 147 4 = nI F.2)
def yFr34 (g g' : zK) : Prop := ∀ a j, (a ≠ 147 ∨ (j ≠ 3 ∧ j ≠ 4)) → gI g' a j = gI g a j
theorem qRe_note_ev (L : yFc g F) {f p : Nat} (hf : f ≤ 4) : ∃ g', qRe_note (nI f) (nI p) g = some g' ∧ yFc g' (yAd F true f p) ∧ yFr34 g g' := by
  obtain ⟨l0, l1, l2⟩ := L
  unfold qRe_note yAd
  rw [l1]
  by_cases h0 : F.1 = 0
  · rw [if_neg (show ¬ ¬ nI F.1 = 0 from fun z => z (by rw [h0]; rfl)), decide_eq_true h0]
    simp only [zlet]
    refine ⟨_, rfl, ⟨hf, ?_, fun _ => gI_eq⟩, fun a j h => ?_⟩
    · rw [gI_nk (by decide), gI_eq]; rfl
    · by_cases e : a = 147
      · rw [gI_nk (by omega), gI_nk (by omega)]
      · rw [gI_ne e, gI_ne e]
  · rw [if_pos (show ¬ nI F.1 = 0 from fun z => h0 ((nI_z (by omega)).mp z)), decide_eq_false h0]
    exact ⟨g, rfl, ⟨l0, l1, l2⟩, fun _ _ _ => rfl⟩
def yFu (w : Nat) (g : zK) : Bool := if w = 2 then !decide (gI g 148 2 < 7) else if w = 9 then !decide (gI g 160 0 < 8) else if w < 4 then false else !decide (gI g 156 0 < 40)
theorem yFu_ev {w : Nat} (hw : w < 10) (g : zK) : qRe_isFullFor (nI w) g = some (if yFu w g then 1 else 0) := by
  have e1 : qCe_isFull g = if gI g 148 2 < 7 then 0 else 1 := rfl
  have e2 : qDe_isFull g = if gI g 156 0 < 40 then 0 else 1 := rfl
  have e3 : qLo_isFull g = if gI g 160 0 < 8 then 0 else 1 := rfl
  unfold qRe_isFullFor yFu
  rw [e1, e2, e3]
  rcases (by omega : w = 0 ∨ w = 1 ∨ w = 2 ∨ w = 3 ∨ w = 4 ∨ w = 5 ∨ w = 6 ∨ w = 7 ∨ w = 8 ∨ w = 9) with rfl | rfl | rfl | rfl | rfl | rfl | rfl | rfl | rfl | rfl
  · rfl
  · rfl
  · by_cases h : gI g 148 2 < 7
    · simp [h]; rfl
    · simp [h]; rfl
  · rfl
  · by_cases h : gI g 156 0 < 40
    · simp [h]; rfl
    · simp [h]; rfl
  · by_cases h : gI g 156 0 < 40
    · simp [h]; rfl
    · simp [h]; rfl
  · by_cases h : gI g 156 0 < 40
    · simp [h]; rfl
    · simp [h]; rfl
  · by_cases h : gI g 156 0 < 40
    · simp [h]; rfl
    · simp [h]; rfl
  · by_cases h : gI g 156 0 < 40
    · simp [h]; rfl
    · simp [h]; rfl
  · by_cases h : gI g 160 0 < 8
    · simp [h]; rfl
    · simp [h]; rfl
theorem qRe_judge_ev {w : Nat} (hw : w < 10) {v p : Nat → Nat} (V : ∀ i, i < yNu w → gI g 164 i = nI (v i) ∧ v i ≤ 99 ∧ gI g 165 i = nI (p i)) (L : yFc g F) (t : Nat) : ∃ g', qRe_judge (nI w) (nI t) g = some g' ∧ yFc g' (yGf (yBd w v) p (yAd F (yFu w g) 3 t) (yNu w)) ∧ yFr34 g g' := by
  have n6 := yNu_6 w hw
  unfold qRe_judge
  rw [yFu_ev hw, Option.bind_some]
  have s1 : ∃ v3, (if (if yFu w g = true then (1 : Int32) else 0) = 0 then some g else (qRe_note 3 (nI t) g).bind fun p4 => some p4) = some v3 ∧ yFc v3 (yAd F (yFu w g) 3 t) ∧ yFr34 g v3 := by
    cases hb : yFu w g
    · rw [if_pos (show (if false = true then (1 : Int32) else 0) = 0 from rfl), yAd_false]
      exact ⟨g, rfl, L, fun _ _ _ => rfl⟩
    · obtain ⟨g', e1, e2, e3⟩ := qRe_note_ev L (f := 3) (p := t) (by omega)
      rw [if_neg (show ¬ (if true = true then (1 : Int32) else 0) = 0 by decide), show (3 : Int32) = nI 3 from rfl, e1]
      exact ⟨g', rfl, e2, e3⟩
  obtain ⟨v3, a1, a2, a3⟩ := s1
  rw [a1, Option.bind_some]
  have s2 : ∃ r, zloop (qRe_judge_b16 (nI w)) zfu (0, v3) = some r ∧ yFc r (yGf (fun i => yOr w i (v i)) p (yAd F (yFu w g) 3 t) (yNu w)) ∧ yFr34 g r := by
    refine zloop_me (Q := fun q s => ∃ i g', q + i = yNu w ∧ s = (nI i, g') ∧ yFc g' (yGf (fun i => yOr w i (v i)) p (yAd F (yFu w g) 3 t) i) ∧ yFr34 g g') ?_ zfu (yNu w) _ ⟨0, v3, by omega, rfl, a2, a3⟩ (zfu_lt (by omega))
    rintro q s ⟨i, g', hq, rfl, L', F'⟩
    unfold qRe_judge_b16
    dsimp only
    rw [zix_nI hw (by omega), Option.bind_some, yNu_z w hw]
    by_cases hi : i < yNu w
    · obtain ⟨w1, w2, w3⟩ := V i hi
      obtain ⟨lo1, lo2⟩ := yLw_z w hw i (by omega)
      obtain ⟨hi1, hi2⟩ := yUp_z w hw i (by omega)
      rw [if_neg (nI_ge hi (by omega)), zix_nI (by omega) (by omega), Option.bind_some, show nI w * 6 + nI i = nI (w * 6 + i) from by rw [show (6 : Int32) = nI 6 from rfl, nI_mul, nI_add], zix_nI (by omega) (by omega), Option.bind_some, lo1, hi1, F' 164 i (Or.inl (by decide)), F' 165 i (Or.inl (by decide)), w1, w3]
      obtain ⟨g2, e1, e2, e3⟩ := qRe_note_ev L' (f := 2) (p := p i) (by omega)
      have e1' : qRe_note 2 (nI (p i)) g' = some g2 := e1
      have fr : yFr34 g g2 := fun a j h => (e3 a j h).trans (F' a j h)
      by_cases h1 : v i < yLw w i
      · have hb : yOr w i (v i) = true := by unfold yOr; simp; omega
        rw [if_pos (nI_lt h1 (by omega)), e1', Option.bind_some, Option.bind_some, nI_1]
        refine Or.inr ⟨q - 1, _, rfl, by omega, i + 1, g2, by omega, rfl, ?_, fr⟩
        show yFc g2 (yAd _ (yOr w i (v i)) 2 (p i))
        rw [hb]; exact e2
      · rw [if_neg (nI_nlt (by omega) (by omega))]
        by_cases h2 : v i ≤ yUp w i
        · have hb : yOr w i (v i) = false := by unfold yOr; simp; omega
          rw [if_pos (nI_le h2 (by omega)), Option.bind_some, nI_1]
          refine Or.inr ⟨q - 1, _, rfl, by omega, i + 1, g', by omega, rfl, ?_, F'⟩
          show yFc g' (yAd _ (yOr w i (v i)) 2 (p i))
          rw [hb, yAd_false]; exact L'
        · have hb : yOr w i (v i) = true := by unfold yOr; simp; omega
          rw [if_neg (nI_ge (by omega) (by omega)), e1', Option.bind_some, Option.bind_some, nI_1]
          refine Or.inr ⟨q - 1, _, rfl, by omega, i + 1, g2, by omega, rfl, ?_, fr⟩
          show yFc g2 (yAd _ (yOr w i (v i)) 2 (p i))
          rw [hb]; exact e2
    · have ei : i = yNu w := by omega
      subst ei
      rw [if_pos (nI_le (Nat.le_refl _) (by omega))]
      exact Or.inl ⟨_, rfl, L', F'⟩
  obtain ⟨r, r1, r2, r3⟩ := s2
  rw [r1, Option.bind_some]
  by_cases h3 : w = 3
  · subst h3
    rw [if_neg (show ¬ ¬ nI 3 = 3 from fun z => z rfl), r3 164 0 (Or.inl (by decide)), r3 164 1 (Or.inl (by decide)), r3 165 1 (Or.inl (by decide)), (V 0 (by decide)).1, (V 1 (by decide)).1, (V 1 (by decide)).2.2]
    have v0 := (V 0 (by decide)).2.1
    have v1 := (V 1 (by decide)).2.1
    have r2' : yFc r (yAd (yAd (yAd F (yFu 3 g) 3 t) (yOr 3 0 (v 0)) 2 (p 0)) (yOr 3 1 (v 1)) 2 (p 1)) := r2
    have tgt : yGf (yBd 3 v) p (yAd F (yFu 3 g) 3 t) (yNu 3) = yAd (yAd (yAd (yAd F (yFu 3 g) 3 t) (yOr 3 0 (v 0)) 2 (p 0)) (yOr 3 1 (v 1)) 2 (p 1)) (decide (v 0 = v 1)) 2 (p 1) := by
      rw [yAd_or]
      show yAd (yAd (yAd F (yFu 3 g) 3 t) (yBd 3 v 0) 2 (p 0)) (yBd 3 v 1) 2 (p 1) = _
      have b0 : yBd 3 v 0 = yOr 3 0 (v 0) := by unfold yBd; simp
      have b1 : yBd 3 v 1 = (yOr 3 1 (v 1) || decide (v 0 = v 1)) := by unfold yBd; simp
      rw [b0, b1]
    rw [tgt]
    by_cases he : v 0 = v 1
    · obtain ⟨g2, e1, e2, e3⟩ := qRe_note_ev r2' (f := 2) (p := p 1) (by omega)
      have e1' : qRe_note 2 (nI (p 1)) r = some g2 := e1
      rw [if_neg (show ¬ ¬ nI (v 0) = nI (v 1) from fun z => z (by rw [he])), e1', decide_eq_true he]
      exact ⟨g2, rfl, e2, fun a j h => (e3 a j h).trans (r3 a j h)⟩
    · rw [if_pos (show ¬ nI (v 0) = nI (v 1) from fun z => he ((nI_eq (by omega) (by omega)).mp z)), decide_eq_false he, yAd_false]
      exact ⟨r, rfl, r2', r3⟩
  · rw [if_pos (show ¬ nI w = 3 from fun z => h3 ((nI_eq (b := 3) (by omega) (by omega)).mp z))]
    refine ⟨r, rfl, ?_, r3⟩
    rw [yGf_c (b := yBd w v) (b' := fun i => yOr w i (v i)) (fun i _ => by unfold yBd; simp [h3])]
    exact r2
/-- the tokens of a line behind its word -/
abbrev yP (u : Nat → Nat) (len t i : Nat) : Nat := yTi u len (yTn u len t) i
abbrev yVv (u : Nat → Nat) (len t i : Nat) : Nat := yVt u len (yP u len t i)
def yLF (w : Nat) (u : Nat → Nat) (len t : Nat) (F : Nat × Nat) (b : Bool) : Nat × Nat := yGf (yBd w (yVv u len t)) (yP u len t) (yAd F b 3 t) (yNu w)
def yFrC (g g' : zK) : Prop := ∀ a j, a ≠ 164 → a ≠ 165 → (a ≠ 147 ∨ (j ≠ 3 ∧ j ≠ 4 ∧ j ≠ 9 ∧ j ≠ 10 ∧ j ≠ 11 ∧ j ≠ 12)) → gI g' a j = gI g a j
theorem qRe_line0 {so : Nat} (hso : so < 3) (R : yRS g u len t) (hn : ∀ w, w < 10 → ySo w = so → ¬ (yKd u len t = 1 ∧ yIs u t (yNx u len t - t) w)) : ∃ g', qRe_readLine (nI so) g = some g' ∧ gI g' 147 3 = 1 ∧ gI g' 147 4 = nI t := by
  unfold qRe_readLine
  rcases qRe_wordHere_ev R.1 R.2.1 hso with ⟨e, -⟩ | ⟨w, hw, hs, k1, is, -⟩
  · rw [e, Option.bind_some, if_neg (show ¬ ¬ (-1 : Int32) = -1 from fun z => z rfl)]
    unfold qRe_stopHere
    simp only [zlet]
    refine ⟨_, rfl, ?_, ?_⟩
    · rw [gI_nk (by decide), gI_eq]
    · rw [gI_eq, gI_nk (by decide)]; exact R.2.1.1
  · exact absurd ⟨k1, is⟩ (hn w hw hs)
theorem qRe_line1 {w : Nat} (hw : w < 10) (R : yRS g u len t) (us : ∀ j, j < len → u j < 256) (k1 : yKd u len t = 1) (is : yIs u t (yNx u len t - t) w) (L : yFc g F) (h1 : F.1 ≠ 1) : (∃ m g', m ≤ yNu w ∧ yAll u len (yTn u len t) m ∧ (m < yNu w → yKd u len (yP u len t m) ≠ 2) ∧ (m = yNu w → yKd u len (yP u len t m) ≠ 3) ∧ qRe_readLine (nI (ySo w)) g = some g' ∧ gI g' 147 3 = 1 ∧ gI g' 147 4 = nI (yP u len t m)) ∨ (yAll u len (yTn u len t) (yNu w) ∧ yKd u len (yP u len t (yNu w)) = 3 ∧ ∃ g', qRe_readLine (nI (ySo w)) g = (if ¬ (yLF w u len t F (yFu w g)).1 = 0 then some g' else (qRe_tell (nI w) g').bind fun z => some z) ∧ yRS g' u len (yTn u len (yP u len t (yNu w))) ∧ yFc g' (yLF w u len t F (yFu w g)) ∧ (∀ i, i < yNu w → gI g' 164 i = nI (yVv u len t i)) ∧ yFrC g g') := by
  unfold qRe_readLine
  rcases qRe_wordHere_ev R.1 R.2.1 (ySo_3 w hw) with ⟨-, e⟩ | ⟨w', hw', hs, -, is', e⟩
  · exact absurd ⟨k1, is⟩ (e w hw rfl)
  · have ww : w' = w := yIs_one hw' hw (yKd_1 k1).2.2.2 is' is
    subst ww
    obtain ⟨g1, e1, R1, F1⟩ := yRS_step R
    rw [e, Option.bind_some, if_pos (show ¬ nI w' = -1 from nI_nm1 (by omega)), e1, Option.bind_some]
    have e11 : gI g 147 11 = nI t := R.2.1.1
    rcases qRe_numbers_ev hw R1 (gI g 147 11) with ⟨al, g2, e2, R2, F2, N2⟩ | ⟨m, g2, m1, m2, m3, e2, m4, m5⟩
    · rw [e2, Option.bind_some]
      dsimp only
      rw [R2.2.1.2.1]
      have kb := yKd_4 u len (yP u len t (yNu w'))
      by_cases k3 : yKd u len (yP u len t (yNu w')) = 3
      · right
        refine ⟨al, k3, ?_⟩
        obtain ⟨g3, e3, R3, F3⟩ := yRS_step R2
        have fr3 : ∀ a j, a ≠ 164 → a ≠ 165 → (a ≠ 147 ∨ (j ≠ 9 ∧ j ≠ 10 ∧ j ≠ 11 ∧ j ≠ 12)) → gI g3 a j = gI g a j := fun a j ha hb hc => (F3.2 a j hc).trans ((F2.2 a j ha hb hc).trans (F1.2 a j hc))
        have L3 : yFc g3 F := ⟨L.1, (fr3 147 3 (by decide) (by decide) (Or.inr (by decide))).trans L.2.1, fun z => (fr3 147 4 (by decide) (by decide) (Or.inr (by decide))).trans (L.2.2 z)⟩
        have V3 : ∀ i, i < yNu w' → gI g3 164 i = nI (yVv u len t i) ∧ yVv u len t i ≤ 99 ∧ gI g3 165 i = nI (yP u len t i) := fun i hi => ⟨(F3.2 164 i (Or.inl (by decide))).trans (N2 i hi).1, yVt_99 us (al i hi), (F3.2 165 i (Or.inl (by decide))).trans (N2 i hi).2⟩
        obtain ⟨g4, e4, L4, F4⟩ := qRe_judge_ev hw V3 L3 t
        have fu : yFu w' g3 = yFu w' g := by
          unfold yFu
          rw [fr3 148 2 (by decide) (by decide) (Or.inl (by decide)), fr3 160 0 (by decide) (by decide) (Or.inl (by decide)), fr3 156 0 (by decide) (by decide) (Or.inl (by decide))]
        rw [fu] at L4
        have R4 : yRS g4 u len (yTn u len (yP u len t (yNu w'))) := by
          obtain ⟨⟨t1, t2, t3⟩, ⟨c1, c2, c3, c4⟩, tl⟩ := R3
          have q : ∀ j, j ≠ 3 → j ≠ 4 → gI g4 147 j = gI g3 147 j := fun j h1 h2 => F4 147 j (Or.inr ⟨h1, h2⟩)
          exact ⟨⟨t1, (q 8 (by decide) (by decide)).trans t2, fun j hj => ⟨(F4 163 j (Or.inl (by decide))).trans (t3 j hj).1, (t3 j hj).2⟩⟩, ⟨(q 11 (by decide) (by decide)).trans c1, (q 10 (by decide) (by decide)).trans c2, (q 9 (by decide) (by decide)).trans c3, fun z => (q 12 (by decide) (by decide)).trans (c4 z)⟩, tl⟩
        refine ⟨g4, ?_, R4, L4, fun i hi => (F4 164 i (Or.inl (by decide))).trans (V3 i hi).1, fun a j ha hb hc => (F4 a j (by omega)).trans (fr3 a j ha hb (by omega))⟩
        rw [if_pos (show nI (yKd u len (yP u len t (yNu w'))) = 3 by rw [k3]; rfl), e3, Option.bind_some, e11, e4, Option.bind_some, L4.2.1]
        show _ = (if ¬ (yGf _ _ _ _).1 = 0 then _ else _)
        by_cases hz : (yGf (yBd w' (yVv u len t)) (yP u len t) (yAd F (yFu w' g) 3 t) (yNu w')).1 = 0
        · rw [if_neg (show ¬ ¬ nI _ = 0 from fun z => z (by rw [hz]; rfl)), if_neg (fun z => z hz)]
        · rw [if_pos (show ¬ nI _ = 0 from fun z => hz ((nI_z (by have := L4.1; omega)).mp z)), if_pos hz]
      · left
        unfold qRe_stopHere
        simp only [zlet]
        rw [if_neg (show ¬ nI (yKd u len (yP u len t (yNu w'))) = 3 from fun z => k3 ((nI_eq (b := 3) (by omega) (by omega)).mp z))]
        refine ⟨yNu w', _, Nat.le_refl _, al, fun z => absurd z (Nat.lt_irrefl _), fun _ => k3, rfl, ?_, ?_⟩
        · rw [gI_nk (by decide), gI_eq]
        · rw [gI_eq, gI_nk (by decide)]; exact R2.2.1.1
    · left
      rw [e2, Option.bind_some]
      exact ⟨m, g2, by omega, m2, fun _ => m3, fun z => by omega, rfl, m4, m5⟩
end JUDGE
