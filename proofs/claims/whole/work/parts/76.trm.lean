/-! TRAINS: the reference's -/
section TRM
variable {h : zK} {k s f away : Nat} {c : wC} {pl : Nat → Nat} {σ τ : wS}
/-- the reference has a cellar in hand, its places being pl -/
def yM (h : zK) (k : Nat) (c : wC) (pl : Nat → Nat) : Prop := mB h k c ∧ mN h (nI c.2.2.1) (nI c.2.1) ∧ gI h 215 26 = 0 ∧ ∀ t, t < c.1 → gI h 228 t = nI (c.2.2.2 4 t) ∧ gI h 229 t = nI (pl t) ∧ pl t ≤ 20
theorem yM_of (ok : wCok c) (B : mB h k c) (B2 : mB2 h c) (B3 : mB3 h c) : yM h k c (c.2.2.2 5) :=
  ⟨B, B2, B3.1 26 (by omega) (by omega), fun t ht => ⟨(B3.2 t ht).2.2.1, (B3.2 t ht).2.2.2, (ok.2.2.2 t ht).2.2.2.2.2.2.1⟩⟩
def yNdA (c : wC) (away t : Nat) : Nat := if away.testBit t then 8 else yNd c t
def yRd (h : zK) : wS := (fun i => gI h 215 (26 + i), fun r t => gI h (226 + r) t)
theorem yRd_l (n : Nat) : lS (wLm n) h (yRd h) = h := lS_self (fun i _ => rfl) (fun r _ k _ => rfl)
def yV (c : wC) (pl : Nat → Nat) (away g : Nat) (τ : wS) : Prop := g < 2 ^ c.1 ∧ (∀ t, g.testBit t = true → away.testBit t = false) ∧ τ.1 3 = nI (g ||| away) ∧ τ.1 0 = nI 0 ∧ ∀ t, t < c.1 → τ.2 2 t = nI (c.2.2.2 4 t) ∧ τ.2 3 t = nI (pl t) ∧ ((g ||| away).testBit t = false → τ.2 1 t = nI (c.2.2.2 2 t + c.2.1 * wones (yNe c.2.2.1 pl c.1 t &&& g)))
theorem yV_fz (ok : wCok c) {t g : Nat} (ht : t < c.1) : c.2.2.2 2 t + c.2.1 * wones (yNe c.2.2.1 pl c.1 t &&& g) < 1000 := by
  have a := wones_le (yNe c.2.2.1 pl c.1 t &&& g)
  have b := (ok.2.2.2 t ht).2.2.1
  have d := Nat.mul_le_mul ok.2.1 a
  omega
theorem yV_burst (ok : wCok c) (hp : ∀ t, t < c.1 → pl t ≤ 20) (ha : away < 128) {g : Nat} (V : yV c pl away g τ) (hs : s < c.1) (hg : (g ||| away).testBit s = false) : yV c pl away (g ||| 2 ^ s) (spBurst (nI c.2.2.1) (nI c.2.1) c.1 s τ) := by
  have n7 := ok.1
  have p7 := w2n n7
  obtain ⟨v1, v2, v3, v4, v5⟩ := V
  have hgs : g.testBit s = false ∧ away.testBit s = false := by
    rw [Nat.testBit_or, Bool.or_eq_false_iff] at hg; exact hg
  have e3 : g ||| 2 ^ s ||| away = g ||| away ||| 2 ^ s := by rw [Nat.or_assoc, Nat.or_comm (2 ^ s), ← Nat.or_assoc]
  have g128 : g ||| away < 128 := wor_lt (by omega) ha
  have gs128 : g ||| 2 ^ s ||| away < 128 := wor_lt (wor_lt (by omega) (wpow7 s (by omega))) ha
  refine ⟨Nat.or_lt_two_pow v1 (wp_lt hs), fun t ht => ?_, ?_, ?_, fun t ht => ⟨?_, ?_, fun hb => ?_⟩⟩
  · rw [Nat.testBit_or, Bool.or_eq_true] at ht
    rcases ht with ht | ht
    · exact v2 t ht
    · rw [Nat.testBit_two_pow] at ht
      have := of_decide_eq_true ht
      subst this
      exact hgs.2
  · rw [spBurst_g (by omega) v3, e3]
  · exact ((spBurst_b (re := nI c.2.2.1) (sh := nI c.2.1) (n := c.1) (s := s) (y := 0) (by omega) v4).1).trans v4
  · rw [← (v5 t ht).1]
    unfold spBurst spB1
    dsimp only
    rw [if_neg (fun z => absurd z.1 (by decide))]
    exact zu_r (f := τ.2) (a := 4) (b := 2) t (by decide)
  · rw [spBurst_3]; exact (v5 t ht).2.1
  · have hb2 : (g ||| away).testBit t = false ∧ t ≠ s := by
      rw [e3, Nat.testBit_or, Bool.or_eq_false_iff, Nat.testBit_two_pow] at hb
      exact ⟨hb.1, fun e => of_decide_eq_false hb.2 e.symm⟩
    have old := (v5 t ht).2.2 hb2.1
    have q1 : zu τ.2 4 (τ.1 0).toNatClampNeg (τ.2 4 (τ.1 0).toNatClampNeg + 1) 1 t = τ.2 1 t := zu_r (f := τ.2) (a := 4) (b := 1) t (by decide)
    have q3 : ∀ t, zu τ.2 4 (τ.1 0).toNatClampNeg (τ.2 4 (τ.1 0).toNatClampNeg + 1) 3 t = τ.2 3 t := fun t => zu_r (f := τ.2) (a := 4) (b := 3) t (by decide)
    have gg : (upd (upd (upd τ.1 3 (τ.1 3 ||| ((1 : Int32) <<< (nI s &&& 31)))) 2 (τ.1 2 + 1)) 6 (τ.1 6 + τ.2 0 s)) 3 = nI (g ||| 2 ^ s ||| away) := by
      rw [e3]
      exact spBurst_g (re := nI c.2.2.1) (sh := nI c.2.1) (n := c.1) (by omega) v3
    have hz : zf_has (nI (g ||| 2 ^ s ||| away)) (nI t) = 0 := by
      rw [whas _ gs128 t (by omega), hb]; rfl
    have pt := hp t ht
    have ps := hp s hs
    have aw : zf_away (nI (pl t)) (nI (pl s)) = nI (yAw (pl t) (pl s)) := waway _ (by omega) _ (by omega)
    have aw2 : yAw (pl t) (pl s) < 100 := by unfold yAw; split <;> omega
    have nb := yNe_lt c.2.2.1 pl (m := c.1) t n7
    have gb : (yNe c.2.2.1 pl c.1 t &&& g).testBit s = false := by rw [Nat.testBit_and, hgs.1, Bool.and_false]
    have re9 := ok.2.2.1
    unfold spBurst spB1
    dsimp only
    by_cases hn : c.2.2.1 < yAw (pl t) (pl s)
    · have hn' : nI c.2.2.1 < zf_away (zu τ.2 4 (τ.1 0).toNatClampNeg (τ.2 4 (τ.1 0).toNatClampNeg + 1) 3 t) (zu τ.2 4 (τ.1 0).toNatClampNeg (τ.2 4 (τ.1 0).toNatClampNeg + 1) 3 s) := by
        rw [q3, q3, (v5 t ht).2.1, (v5 s hs).2.1, aw]
        exact nI_lt hn (by omega)
      refine (if_neg (fun z => z.2.2.2 hn')).trans ?_
      rw [q1, old]
      have : yNe c.2.2.1 pl c.1 t &&& (g ||| 2 ^ s) = yNe c.2.2.1 pl c.1 t &&& g := by
        apply Nat.eq_of_testBit_eq
        intro i
        rw [Nat.testBit_and, Nat.testBit_and, Nat.testBit_or, Nat.testBit_two_pow, yNe_t]
        by_cases ei : s = i
        · subst ei
          have : yNr c.2.2.1 pl s t = false := by
            unfold yNr
            rw [yAw_c, decide_eq_false (show ¬ yAw (pl t) (pl s) ≤ c.2.2.1 by omega), Bool.and_false]
          rw [this]; simp
        · rw [decide_eq_false ei, Bool.or_false]
      rw [this]
    · have hz' := hz
      rw [← gg] at hz'
      have hn' : ¬ nI c.2.2.1 < zf_away (zu τ.2 4 (τ.1 0).toNatClampNeg (τ.2 4 (τ.1 0).toNatClampNeg + 1) 3 t) (zu τ.2 4 (τ.1 0).toNatClampNeg (τ.2 4 (τ.1 0).toNatClampNeg + 1) 3 s) := by
        rw [q3, q3, (v5 t ht).2.1, (v5 s hs).2.1, aw]
        exact fun z => hn ((nI_ltI (by omega) (by omega)).mp z)
      refine (if_pos ⟨rfl, ht, hz', hn'⟩).trans ?_
      rw [q1, old, nI_add]
      have : yNe c.2.2.1 pl c.1 t &&& (g ||| 2 ^ s) = (yNe c.2.2.1 pl c.1 t &&& g) ||| 2 ^ s := by
        apply Nat.eq_of_testBit_eq
        intro i
        rw [Nat.testBit_and, Nat.testBit_or, Nat.testBit_or, Nat.testBit_and, Nat.testBit_two_pow, yNe_t]
        by_cases ei : s = i
        · subst ei
          have : yNr c.2.2.1 pl s t = true := by
            unfold yNr
            rw [yAw_c, decide_eq_true (show yAw (pl t) (pl s) ≤ c.2.2.1 by omega), decide_eq_true (show ¬ s = t from fun e => hb2.2 e.symm)]
            rfl
          rw [this, decide_eq_true hs]; simp
        · rw [decide_eq_false ei, Bool.or_false, Bool.or_false]
      rw [this, wones_add _ (Nat.lt_of_le_of_lt Nat.and_le_left nb) s (by omega) gb, Nat.mul_add, Nat.mul_one, ← Nat.add_assoc]
theorem yV_6 (ok : wCok c) {t g : Nat} (ht : t < c.1) : wones (yNe c.2.2.1 pl c.1 t &&& g) ≤ 6 := by
  have n7 := ok.1
  refine wones_6 _ (Nat.lt_of_le_of_lt Nat.and_le_left (yNe_lt c.2.2.1 pl (m := c.1) t n7)) t (by omega) ?_
  rw [Nat.testBit_and, yNe_t]
  have : yNr c.2.2.1 pl t t = false := by unfold yNr; simp
  rw [this]; simp
theorem yV_has (ok : wCok c) (ha : away < 128) {g t : Nat} (V : yV c pl away g τ) (ht : t < c.1) : zf_has (τ.1 3) (nI t) = 0 ↔ (g ||| away).testBit t = false := by
  have n7 := ok.1
  have p7 := w2n n7
  have v1 := V.1
  rw [V.2.2.1, whas _ (wor_lt (by omega) ha) t (by omega)]
  cases (g ||| away).testBit t with
  | true => simp
  | false => simp
theorem yV_cond (ok : wCok c) (ha : away < 128) {g t : Nat} (V : yV c pl away g τ) (ht : t < c.1) (hb : (g ||| away).testBit t = false) : ¬ τ.2 1 t ≤ τ.2 2 t ↔ yNdA c away t ≤ wones (yNe c.2.2.1 pl c.1 t &&& g) := by
  have hb2 : away.testBit t = false := by
    rw [Nat.testBit_or, Bool.or_eq_false_iff] at hb; exact hb.2
  have a := (V.2.2.2.2 t ht).2.2 hb
  have b := (V.2.2.2.2 t ht).1
  have f := yV_fz (pl := pl) ok (g := g) ht
  have r4 := (ok.2.2.2 t ht).2.2.2.2.2.1
  unfold yNdA
  rw [hb2, if_neg (by decide), yNd_iff (yV_6 ok ht), a, b, nI_leI (by omega) (by omega)]
  omega
theorem yV_none (ok : wCok c) (ha : away < 128) {g : Nat} (V : yV c pl away g τ) (hf : spFo c.1 τ = none) : yClosed (yNdA c away) (yNe c.2.2.1 pl c.1) c.1 g := by
  intro t ht hg
  by_cases h1 : away.testBit t = true
  · unfold yNdA
    rw [if_pos h1]
    have := wones_le (yNe c.2.2.1 pl c.1 t &&& g)
    omega
  · have hb : (g ||| away).testBit t = false := by rw [Nat.testBit_or, hg, ybf h1]; rfl
    apply Nat.lt_of_not_le
    intro hn
    have q := (yV_cond ok ha V ht hb).mpr hn
    have z := (yV_has ok ha V ht).mpr hb
    unfold spFo at hf
    split at hf
    · cases hf
    · rename_i hl
      have l2 : spF c.1 τ ≤ c.1 := fa_first_le _ _
      have := fa_first_no (spFp τ) c.1 t (by show t < spF c.1 τ; omega)
      simp [spFp, z, q] at this
theorem yV_some (ok : wCok c) (ha : away < 128) {g : Nat} (V : yV c pl away g τ) (hf : spFo c.1 τ = some s) : s < c.1 ∧ (g ||| away).testBit s = false ∧ ¬ wones (yNe c.2.2.1 pl c.1 s &&& g) < yNdA c away s := by
  obtain ⟨s1, s2, s3⟩ := spFo_s hf
  have hb := (yV_has ok ha V s1).mp s2
  exact ⟨s1, hb, Nat.not_lt.mpr ((yV_cond ok ha V s1 hb).mp s3)⟩
theorem yV_it (ok : wCok c) (hp : ∀ t, t < c.1 → pl t ≤ 20) (ha : away < 128) : ∀ j {g : Nat} {τ : wS}, yV c pl away g τ → (∀ H, yClosed (yNdA c away) (yNe c.2.2.1 pl c.1) c.1 H → H.testBit f = true → ySub g H) → ∃ g', yV c pl away g' (spIt (nI c.2.2.1) (nI c.2.1) c.1 j τ) ∧ ySub g g' ∧ ∀ H, yClosed (yNdA c away) (yNe c.2.2.1 pl c.1) c.1 H → H.testBit f = true → ySub g' H
  | 0, g, τ, V, m => ⟨g, V, ySub_r, m⟩
  | j + 1, g, τ, V, m => by
    show ∃ g', yV c pl away g' (spIt (nI c.2.2.1) (nI c.2.1) c.1 j (spNx (nI c.2.2.1) (nI c.2.1) c.1 τ)) ∧ _
    cases e : spFo c.1 τ with
    | none =>
      have en : spNx (nI c.2.2.1) (nI c.2.1) c.1 τ = τ := by unfold spNx; rw [e]
      rw [en]
      exact yV_it ok hp ha j V m
    | some s =>
      have en : spNx (nI c.2.2.1) (nI c.2.1) c.1 τ = spBurst (nI c.2.2.1) (nI c.2.1) c.1 s τ := by unfold spNx; rw [e]
      rw [en]
      obtain ⟨s1, s2, s3⟩ := yV_some ok ha V e
      obtain ⟨g', w1, w2, w3⟩ := yV_it ok hp ha j (yV_burst ok hp ha V s1 s2) (fun H hH hf => ySub_or (m H hH hf) (ySub_p (yCl_in hH s1 (m H hH hf) s3)))
      exact ⟨g', w1, ySub_t ySub_l w2, w3⟩
theorem yV_ok (ok : wCok c) (hp : ∀ t, t < c.1 → pl t ≤ 20) (ha : away < 128) {g : Nat} (V : yV c pl away g τ) : wOk c.1 τ := by
  have p7 := w2n ok.1
  have v1 := V.1
  exact ⟨⟨g ||| away, wor_lt (by omega) ha, V.2.2.1⟩, fun t ht => ⟨pl t, hp t ht, (V.2.2.2.2 t ht).2.1⟩, 0, by omega, V.2.2.2.1⟩
theorem yV_all (ok : wCok c) (hp : ∀ t, t < c.1 → pl t ≤ 20) (ha : away < 128) {τ : wS} (V : yV c pl away 0 τ) (hf : f < c.1) (hfa : away.testBit f = false) : yV c pl away (yCl (yNdA c away) (yNe c.2.2.1 pl c.1) c.1 f) (spIt (nI c.2.2.1) (nI c.2.1) c.1 7 (spBurst (nI c.2.2.1) (nI c.2.1) c.1 f τ)) := by
  have n7 := ok.1
  have V1 := yV_burst ok hp ha V hf (by rw [Nat.zero_or]; exact hfa)
  rw [Nat.zero_or] at V1
  obtain ⟨m, m1, m2, m3, -⟩ := spIt_7 (re := nI c.2.2.1) (sh := nI c.2.1) n7 (yV_ok ok hp ha V1)
  obtain ⟨g', w1, w2, w3⟩ := yV_it (f := f) ok hp ha m V1 (fun H _ hH => ySub_p hH)
  have := yCl_uniq n7 hf (yV_none ok ha w1 m3) (w2 f (yp_self f)) w3
  rw [← m2, ← this]
  exact w1
theorem mB_l' {g : zK} (B : mB h k c) (e1 : ∀ j, 22 ≤ j → j < 24 → gI g 215 j = gI h 215 j) (e2 : g.2.1 221 = h.2.1 221) : mB g k c := by
  obtain ⟨b1, b2, b3, a, b, d, f⟩ := B
  have q : ∀ j, gI g 221 j = gI h 221 j := fun j => congrFun e2 j
  exact ⟨b1, (e1 22 (by omega) (by omega)).trans b2, (e1 23 (by omega) (by omega)).trans b3, (q _).trans a, (q _).trans b, (q _).trans d, fun i s hi hs => (q _).trans (f i s hi hs)⟩
theorem qM_trainOf_ev (ok : wCok c) (M : yM h k c pl) (ha : away < 128) (hf : f < c.1) (hfa : away.testBit f = false) : ∃ h', qM_trainOf (nI f) (nI away) h = some (nI (yCl (yNdA c away) (yNe c.2.2.1 pl c.1) c.1 f), h') ∧ yM h' k c pl := by
  have n7 := ok.1
  have p7 := w2n n7
  obtain ⟨B, N, y0, rows⟩ := M
  have hp : ∀ t, t < c.1 → pl t ≤ 20 := fun t ht => (rows t ht).2.2
  let h1 : zK := sI h 215 29 (nI away)
  have key : ∃ t, zloop (qM_trainOf_b7 (nI f) (nI away)) zfu (0, h1) = some t ∧ (t.2.1 215 = h1.2.1 215 ∧ t.2.1 221 = h.2.1 221 ∧ t.2.1 228 = h.2.1 228 ∧ t.2.1 229 = h.2.1 229 ∧ ∀ j, j < c.1 → gI t 227 j = nI (c.2.2.2 2 j)) := by
    refine zloop_fx (S := fun i x => ∃ g, x = (nI i, g) ∧ g.2.1 215 = h1.2.1 215 ∧ g.2.1 221 = h.2.1 221 ∧ g.2.1 228 = h.2.1 228 ∧ g.2.1 229 = h.2.1 229 ∧ ∀ j, j < i → gI g 227 j = nI (c.2.2.2 2 j)) c.1 ?_ ?_ (zfu_lt (by omega)) ⟨h1, rfl, rfl, rfl, rfl, rfl, fun j hj => absurd hj (Nat.not_lt_zero _)⟩
    · rintro i x hi ⟨g, rfl, g1, g2, g3, g4, g5⟩
      have Bg : mB g k c := mB_l' B (fun j _ hj => by
        show g.2.1 215 j = _
        rw [g1]
        exact gI_nk (h := h) (a := 215) (k := 29) (b := 215) (j := j) (by omega)) g2
      unfold qM_trainOf_b7
      dsimp only
      rw [Bg.2.2.1, if_neg (nI_ge hi (by omega)), mB_2 Bg ok hi, Option.bind_some, zix_nI (by omega) (by omega), Option.bind_some]
      simp only [zlet]
      rw [nI_1]
      refine ⟨_, rfl, _, rfl, g1, g2, g3, g4, fun j hj => ?_⟩
      by_cases e : j = i
      · subst e; rw [gI_eq]
      · rw [gI_nk e]; exact g5 j (by omega)
    · rintro x ⟨g, rfl, g1, g2, g3, g4, g5⟩
      have Bg : mB g k c := mB_l' B (fun j _ hj => by
        show g.2.1 215 j = _
        rw [g1]
        exact gI_nk (h := h) (a := 215) (k := 29) (b := 215) (j := j) (by omega)) g2
      unfold qM_trainOf_b7
      dsimp only
      rw [Bg.2.2.1, if_pos (nI_le (Nat.le_refl _) (by omega))]
      exact ⟨_, rfl, g1, g2, g3, g4, g5⟩
  obtain ⟨g, e1, g1, g2, g3, g4, g5⟩ := key
  have q215 : ∀ j, gI g 215 j = gI h1 215 j := fun j => congrFun g1 j
  have q215' : ∀ j, j ≠ 29 → gI g 215 j = gI h 215 j := fun j hj => (q215 j).trans (gI_nk (h := h) (a := 215) (k := 29) (b := 215) (j := j) hj)
  have Bg : mB g k c := mB_l' B (fun j _ hj => q215' j (by omega)) g2
  have Ng : mN g (nI c.2.2.1) (nI c.2.1) := ⟨(q215' 24 (by omega)).trans N.1, (q215' 25 (by omega)).trans N.2⟩
  have V0 : yV c pl away 0 (yRd g) := by
    refine ⟨Nat.two_pow_pos _, (fun t ht => by rw [Nat.zero_testBit] at ht; cases ht), ?_, ?_, fun t ht => ⟨?_, ?_, fun _ => ?_⟩⟩
    · rw [Nat.zero_or]
      show gI g 215 29 = _
      rw [q215]
      exact gI_eq
    · show gI g 215 26 = _
      rw [q215' 26 (by omega)]
      exact y0
    · show gI g 228 t = _
      rw [← (rows t ht).1]
      exact congrFun g3 t
    · show gI g 229 t = _
      rw [← (rows t ht).2.1]
      exact congrFun g4 t
    · show gI g 227 t = _
      rw [g5 t ht, Nat.and_zero]
      have : wones 0 = 0 := by decide
      rw [this, Nat.mul_zero, Nat.add_zero]
  have W := yV_all ok hp ha V0 hf hfa
  have OK1 := yV_ok ok hp ha (yV_burst ok hp ha V0 hf (by rw [Nat.zero_or]; exact hfa))
  have b1 : qM_burst (nI f) g = some (lS (wLm c.1) g (spBurst (nI c.2.2.1) (nI c.2.1) c.1 f (yRd g))) := by
    have := qM_burst_ev (σ := yRd g) Bg Ng ok hf
    rw [yRd_l] at this
    exact this
  have b2 := qM_burstAll_ev Bg Ng ok OK1
  have L := wLm_ok c.1
  refine ⟨lS (wLm c.1) g (spIt (nI c.2.2.1) (nI c.2.1) c.1 7 (spBurst (nI c.2.2.1) (nI c.2.1) c.1 f (yRd g))), ?_, mB_l Bg, mN_l Ng, ?_, fun t ht => ⟨?_, ?_, hp t ht⟩⟩
  · unfold qM_trainOf
    simp only [zlet]
    show (zloop (qM_trainOf_b7 (nI f) (nI away)) zfu (0, h1)).bind _ = _
    have W3 := W.2.2.1
    have W1 := W.1
    have g29 : gI (lS (wLm c.1) g (spIt (nI c.2.2.1) (nI c.2.1) c.1 7 (spBurst (nI c.2.2.1) (nI c.2.1) c.1 f (yRd g)))) 215 29 = nI (yCl (yNdA c away) (yNe c.2.2.1 pl c.1) c.1 f ||| away) := (lS_sc L (i := 3) (show 3 < 7 by decide) rfl).trans W3
    rw [e1, Option.bind_some, b1, Option.bind_some, b2, Option.bind_some, g29, wnot _ (wor_lt (by omega) ha) _ ha]
    congr 3
    apply Nat.eq_of_testBit_eq
    intro i
    rw [Nat.testBit_and, Nat.testBit_or, Nat.testBit_xor, show (127 : Nat) = 2 ^ 7 - 1 from rfl, Nat.testBit_two_pow_sub_one]
    cases ei : (yCl (yNdA c away) (yNe c.2.2.1 pl c.1) c.1 f).testBit i with
    | true =>
      have a := wbit_lt W1 ei
      rw [W.2.1 i ei, decide_eq_true (show i < 7 by omega)]; rfl
    | false =>
      cases ea : away.testBit i with
      | false => rfl
      | true =>
        have := wbit_lt (n := 7) ha ea
        rw [decide_eq_true this]; rfl
  · exact (lS_sc L (i := 0) (show 0 < 7 by decide) rfl).trans W.2.2.2.1
  · exact (lS_rw L (r := 2) (show 2 < 4 by decide) rfl ht).trans (W.2.2.2.2 t ht).1
  · exact (lS_rw L (r := 3) (show 3 < 4 by decide) rfl ht).trans (W.2.2.2.2 t ht).2.1
theorem yNdA_0 (c : wC) : yNdA c 0 = yNd c := by
  funext t
  unfold yNdA
  rw [Nat.zero_testBit, if_neg (by decide)]
theorem qM_trainOf_0 (ok : wCok c) (M : yM h k c pl) (hf : f < c.1) : ∃ h', qM_trainOf (nI f) 0 h = some (nI (yCl (yNd c) (yNe c.2.2.1 pl c.1) c.1 f), h') ∧ yM h' k c pl := by
  have := qM_trainOf_ev (away := 0) ok M (by decide) hf (Nat.zero_testBit _)
  rw [yNdA_0] at this
  exact this
theorem qM_greatestTrain_ev (ok : wCok c) (M : yM h k c pl) : ∃ h', qM_greatestTrain h = some (nI (yGr (yNd c) (yNe c.2.2.1 pl c.1) c.1), h') ∧ yM h' k c pl := by
  have n7 := ok.1
  have key : ∃ t, zloop qM_greatestTrain_b4 zfu (0, 0, h) = some t ∧ ∃ h', t = (nI (yGr (yNd c) (yNe c.2.2.1 pl c.1) c.1), h') ∧ yM h' k c pl := by
    refine zloop_fx (S := fun i x => ∃ g, x = (nI (yMx (fun s => wones (yCl (yNd c) (yNe c.2.2.1 pl c.1) c.1 s)) i), nI i, g) ∧ yM g k c pl) c.1 ?_ ?_ (zfu_lt (by omega)) ⟨h, rfl, M⟩
    · rintro i x hi ⟨g, rfl, Mg⟩
      unfold qM_greatestTrain_b4
      dsimp only
      obtain ⟨h', e1, e2⟩ := qM_trainOf_0 ok Mg hi
      have b := yMx_le (F := fun s => wones (yCl (yNd c) (yNe c.2.2.1 pl c.1) c.1 s)) (b := 7) i (fun s _ => wones_le _)
      rw [Mg.1.2.2.1, if_neg (nI_ge hi (by omega)), e1, Option.bind_some]
      dsimp only
      rw [qM_ones_ev (yCl_128 n7 hi), Option.bind_some, wgren (by omega) (by have := wones_le (yCl (yNd c) (yNe c.2.2.1 pl c.1) c.1 i); omega), nI_1]
      exact ⟨_, rfl, h', rfl, e2⟩
    · rintro x ⟨g, rfl, Mg⟩
      unfold qM_greatestTrain_b4
      dsimp only
      rw [Mg.1.2.2.1, if_pos (nI_le (Nat.le_refl _) (by omega))]
      exact ⟨_, rfl, g, rfl, Mg⟩
  obtain ⟨t, e1, h', rfl, e2⟩ := key
  refine ⟨h', ?_, e2⟩
  unfold qM_greatestTrain
  rw [e1]; rfl
end TRM
theorem wo_train {h : zK} (H : InvB h) (a x : Int32) : ∃ w h1 h2, qC_train a x h = some (w, h1) ∧ qM_train a x h1 = some (w, h2) := by
  unfold qC_train qM_train
  simp only [zlet]
  rcases wcell H a with ⟨e1, e2⟩ | ⟨k, c, hk, rfl, c1, c2, c3, e1, e2, e4⟩
  · rw [e1, Option.bind_some]
    refine ⟨-1, h, sI h 215 0 0, rfl, ?_⟩
    rw [e2 _ (wEq_s (by unfold wKp; omega)), Option.bind_some]
    rfl
  · rw [e1, Option.bind_some]
    simp only [if_pos e2]
    rcases qCe_has_ev c2 c1.1 x with ⟨s, hs, rfl, hz, hz2⟩ | ⟨-, hz, hz2⟩
    · rw [hz, if_pos (show ¬ (1 : Int32) = 0 by decide)]
      obtain ⟨h1, q1, q2⟩ := qTr_lookAt_ev (oo := 180) (Or.inl rfl) e2 c2 c1
      have F := f_qTr_lookAt (by omega) q1
      have E1 : wEq h h1 := wEq_2 (wEq2_f F (by decide))
      obtain ⟨h2, p1, B, B2, B3, -⟩ := e4 (sI h1 215 0 0) (wEq_t E1 (wEq_s (by unfold wKp; omega)))
      obtain ⟨h3, t1, -⟩ := qM_trainOf_0 c1 (yM_of c1 B B2 B3) hs
      rw [q1, Option.bind_some, qTr_from_ev (yTs_T c1 q2) hs, Option.bind_some]
      refine ⟨_, h1, h3, rfl, ?_⟩
      rw [p1, Option.bind_some]
      dsimp only
      rw [if_neg (show ¬ (1 : Int32) = 0 by decide), qM_isSaying_ev B, Option.bind_some, hz2, if_neg (show ¬ (1 : Int32) = 0 by decide), t1]
      rfl
    · rw [hz, if_neg (show ¬ ¬ (0 : Int32) = 0 from fun z => z rfl)]
      obtain ⟨h2, p1, B, B2, B3, -⟩ := e4 (sI h 215 0 0) (wEq_s (by unfold wKp; omega))
      refine ⟨-1, h, h2, rfl, ?_⟩
      rw [p1, Option.bind_some]
      dsimp only
      rw [if_neg (show ¬ (1 : Int32) = 0 by decide), qM_isSaying_ev B, Option.bind_some, hz2]
      rfl
