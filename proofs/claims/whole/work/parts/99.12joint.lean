/-! TEXTS: both sides, a line and all lines -/
def yK (so : Nat) (g x : zK) : Prop := if so = 0 then yK0 g x else if so = 1 then yK1 g x else yK2 g x
def yWk (so : Nat) (x : zK) : Prop := ∃ n, n ≤ (if so = 0 then 7 else if so = 1 then 40 else 8) ∧ gI x 224 (if so = 0 then 2 else 0) = nI n
def yLm (so : Int32) (v : Int64) (x3 : Int32) (h : zK) : Option (Int32 × zK) := if ¬ so = 0 then if ¬ so = 1 then (qM_logLine v x3 h).bind fun p9 => some (p9.1, p9.2) else (qM_yearsLine v x3 h).bind fun p10 => some (p10.1, p10.2) else (qM_cellarLine v x3 h).bind fun p11 => some (p11.1, p11.2)
theorem ybind2 (r : Option (Int32 × zK)) : (r.bind fun p => some (p.1, p.2)) = r := by cases r <;> rfl
theorem yK_g {so : Nat} {g g' x : zK} (h : ∀ a j, (148 ≤ a ∧ a ≤ 162) ∨ (a = 147 ∧ j = 13) → gI g' a j = gI g a j) (K : yK so g x) : yK so g' x := by
  unfold yK at *
  split
  · rw [if_pos (by assumption)] at K
    obtain ⟨P, ok, ⟨g0, g1, g2, g3, g4, g5⟩, X⟩ := K
    exact ⟨P, ok, ⟨(h _ _ (by omega)).trans g0, (h _ _ (by omega)).trans g1, (h _ _ (by omega)).trans g2, fun i s hi hs => (h _ _ (by omega)).trans (g3 i s hi hs), fun s hs => (h _ _ (by omega)).trans (g4 s hs), (h _ _ (by omega)).trans g5⟩, X⟩
  · rw [if_neg (by assumption)] at K
    split
    · rw [if_pos (by assumption)] at K
      obtain ⟨d, ok, c, X⟩ := K
      exact ⟨d, ok, ⟨(h _ _ (by omega)).trans c.1, fun r i hr hi => (h _ _ (by omega)).trans (c.2 r i hr hi)⟩, X⟩
    · rw [if_neg (by assumption)] at K
      obtain ⟨d, ok, c, X⟩ := K
      exact ⟨d, ok, ⟨(h _ _ (by omega)).trans c.1, fun r i hr hi => (h _ _ (by omega)).trans (c.2 r i hr hi)⟩, X⟩
theorem yK_x {so : Nat} {g x x' : zK} (h : ∀ a j, a = 224 ∨ (a = 215 ∧ j = 20) → gI x' a j = gI x a j) (K : yK so g x) : yK so g x' := by
  have e : ∀ j, gI x' 224 j = gI x 224 j := fun j => h 224 j (Or.inl rfl)
  unfold yK at *
  split
  · rw [if_pos (by assumption)] at K
    obtain ⟨P, ok, G, g0, g1, g2, g3, g4, g5⟩ := K
    exact ⟨P, ok, G, (e _).trans g0, (e _).trans g1, (e _).trans g2, fun i s hi hs => (e _).trans (g3 i s hi hs), fun s hs => (e _).trans (g4 s hs), (h _ _ (by omega)).trans g5⟩
  · rw [if_neg (by assumption)] at K
    split
    · rw [if_pos (by assumption)] at K
      obtain ⟨d, ok, c, X⟩ := K
      exact ⟨d, ok, c, (e _).trans X.1, fun r i hr hi => (e _).trans (X.2 r i hr hi)⟩
    · rw [if_neg (by assumption)] at K
      obtain ⟨d, ok, c, X⟩ := K
      exact ⟨d, ok, c, (e _).trans X.1, fun r i hr hi => (e _).trans (X.2 r i hr hi)⟩
theorem yWk_x {so : Nat} {x x' : zK} (h : ∀ j, gI x' 224 j = gI x 224 j) (W : yWk so x) : yWk so x' := by
  obtain ⟨n, a, b⟩ := W
  exact ⟨n, a, (h _).trans b⟩
theorem yFull {n c : Nat} (hn : n ≤ c) (hc : c ≤ 40) : (!decide (nI n < nI c)) = decide (n = c) := by
  by_cases e : n = c
  · subst e
    rw [decide_eq_false (nI_nlt (Nat.le_refl _) (by omega)), decide_eq_true rfl]; rfl
  · rw [decide_eq_true (nI_lt (by omega) (by omega)), decide_eq_false e]; rfl
section JOINT
variable {g x : zK} {u : Nat → Nat} {len t : Nat} {F : Nat × Nat} {v : Int64} {so : Nat}
theorem yStep (hso : so < 3) (R : yRX x u len t) (hk : yKd u len t ≠ 0) (us : ∀ j, j < len → u j < 256) (L : yFl x F) (hF : F.1 ≠ 0 → F.2 < t) (h21 : gI x 215 21 = 1) (W : yWk so x) (V : yVw v u len t) : ∃ (b : Nat → Bool) (C : Nat → zK → Prop), yMR so u len t F b C (yLm (nI so) v (nI t) x) ∧ (∀ w x', C w x' → w < 10 → ySo w = so → yWk so x') ∧ (∀ g, yK so g x → ∀ w, w < 10 → ySo w = so → yFu w g = b w) ∧ ∀ g w x', w < 10 → ySo w = so → yK so g x → b w = false → yNb (yBd w (yVv u len t)) (yNu w) = true → C w x' → (∀ i, i < yNu w → gI g 164 i = nI (yVv u len t i)) → ∃ g', qRe_tell (nI w) g = some g' ∧ yK so g' x' ∧ yFrT g g' := by
  obtain ⟨n, hn, hx⟩ := W
  rcases (by omega : so = 0 ∨ so = 1 ∨ so = 2) with rfl | rfl | rfl
  · have hn' : n ≤ 7 := hn
    have hx' : gI x 224 2 = nI n := hx
    have ws : ∀ w, w < 10 → ySo w = 0 → w ≤ 3 := by decide
    refine ⟨fun w => if w = 2 then decide (n = 7) else false, yC0 x n u len t, ?_, fun w x' C hw hs => C.1, fun g K w hw hs => ?_, fun g w x' hw hs K hb nb C V' => ?_⟩
    · unfold yLm
      rw [if_neg (show ¬ ¬ nI 0 = 0 from fun z => z rfl), ybind2]
      exact qM_cellars_ev R hk us L hF h21 hn' hx' V
    · have K' : yK0 g x := K
      obtain ⟨P, ok, G, X⟩ := K'
      have dn : P.2.2.1 = n := (nI_eq (by have := ok.2.2.1; omega) (by omega)).mp (X.2.2.1.symm.trans hx')
      have w3 := ws w hw hs
      show yFu w g = if w = 2 then decide (n = 7) else false
      unfold yFu
      by_cases e : w = 2
      · rw [if_pos e, if_pos e, G.2.2.1, dn]
        exact yFull (c := 7) hn' (by omega)
      · rw [if_neg e, if_neg e, if_neg (by omega), if_pos (by omega)]
    · have w3 := ws w hw hs
      exact yK0_step w3 K hx' (fun e => by
        have hb' : (if w = 2 then decide (n = 7) else false) = false := hb
        rw [if_pos e] at hb'
        have := of_decide_eq_false hb'
        omega) hn' nb C V'
  · have hn' : n ≤ 40 := hn
    have hx' : gI x 224 0 = nI n := hx
    have ws : ∀ w, w < 10 → ySo w = 1 → 4 ≤ w ∧ w ≤ 8 := by decide
    refine ⟨fun _ => decide (n = 40), yC1 x n u len t, ?_, fun w x' C hw hs => ?_, fun g K w hw hs => ?_, fun g w x' hw hs K hb nb C V' => ?_⟩
    · unfold yLm
      rw [if_pos (show ¬ nI 1 = 0 by decide), if_neg (show ¬ ¬ nI 1 = 1 from fun z => z rfl), ybind2]
      exact qM_years_ev R hk us L hF h21 hn' hx' V
    · by_cases e : n = 40
      · exact ⟨n, hn, C.1 e⟩
      · exact ⟨n + 1, by show n + 1 ≤ 40; omega, (C.2 (by omega) 0).trans (if_pos rfl)⟩
    · have K' : yK1 g x := K
      obtain ⟨d, ok, G, X⟩ := K'
      have dn : d.1 = n := (nI_eq (by have := ok.1; omega) (by omega)).mp (X.1.symm.trans hx')
      have w3 := ws w hw hs
      unfold yFu
      rw [if_neg (by omega), if_neg (by omega), if_neg (by omega), G.1, dn]
      exact yFull (c := 40) hn' (by omega)
    · have w3 := ws w hw hs
      have := of_decide_eq_false hb
      exact yK1_step w3.1 w3.2 K hx' (by omega) nb C V'
  · have hn' : n ≤ 8 := hn
    have hx' : gI x 224 0 = nI n := hx
    have ws : ∀ w, w < 10 → ySo w = 2 → w = 9 := by decide
    refine ⟨fun _ => decide (n = 8), yC2 x n u len t, ?_, fun w x' C hw hs => ?_, fun g K w hw hs => ?_, fun g w x' hw hs K hb nb C V' => ?_⟩
    · unfold yLm
      rw [if_pos (show ¬ nI 2 = 0 by decide), if_pos (show ¬ nI 2 = 1 by decide), ybind2]
      exact qM_logs_ev R hk us L hF h21 hn' hx' V
    · by_cases e : n = 8
      · exact ⟨n, hn, C.1 e⟩
      · exact ⟨n + 1, by show n + 1 ≤ 8; omega, (C.2 (by omega) 0).trans (if_pos rfl)⟩
    · have K' : yK2 g x := K
      obtain ⟨d, ok, G, X⟩ := K'
      have dn : d.1 = n := (nI_eq (by have := ok.1; omega) (by omega)).mp (X.1.symm.trans hx')
      have w3 := ws w hw hs
      subst w3
      show (!decide (gI g 160 0 < 8)) = _
      rw [G.1, dn]
      exact yFull (c := 8) hn' (by omega)
    · have w3 := ws w hw hs
      subst w3
      have := of_decide_eq_false hb
      exact yK2_step K hx' (by omega) nb C V'
theorem yKr_0 {k : Nat} (h : k ≠ 0) : ¬ nI (yKr k) = 0 := fun z => by
  have e : yKr k = 0 := (nI_z (by unfold yKr; split <;> (try split) <;> (try split) <;> (try split) <;> omega)).mp z
  unfold yKr at e
  rw [if_neg h] at e
  split at e <;> (try split at e) <;> (try split at e) <;> omega
theorem yKr_4 {k : Nat} : nI (yKr k) = 4 ↔ k = 3 := by
  constructor
  · intro z
    have e : yKr k = 4 := (nI_eq (b := 4) (by unfold yKr; split <;> (try split) <;> (try split) <;> (try split) <;> omega) (by omega)).mp z
    unfold yKr at e
    split at e <;> (try split at e) <;> (try split at e) <;> (try split at e) <;> omega
  · rintro rfl; rfl
/-- what joins the two sides at a token -/
def yJo (so : Nat) (u : Nat → Nat) (len t : Nat) (F : Nat × Nat) (g x : zK) : Prop := yRS g u len t ∧ yRX x u len t ∧ yFc g F ∧ yFl x F ∧ (F.1 ≠ 0 → F.2 < t) ∧ F.1 ≠ 1 ∧ yWk so x ∧ (F.1 = 0 → yK so g x)
theorem yLine (hso : so < 3) (us : ∀ j, j < len → u j < 256) (J : yJo so u len t F g x) (hk : yKd u len t ≠ 0) : (∃ p g' x', qRe_readLine (nI so) g = some g' ∧ gI g' 147 3 = 1 ∧ gI g' 147 4 = nI p ∧ qM_allLines_b2 (nI so) (1, x) = some (.inl (0, x')) ∧ gI x' 215 15 = nI p) ∨ (∃ t' F' g' x', t < t' ∧ qRe_readLine (nI so) g = some g' ∧ qM_allLines_b2 (nI so) (1, x) = some (.inl (1, x')) ∧ yJo so u len t' F' g' x') := by
  obtain ⟨R, R', Lc, L, hF, h1, W, K⟩ := J
  have f5 : ∀ a j, (a ≠ 215 ∨ j ≠ 21) → gI (sI x 215 21 1) a j = gI x a j := fun a j h => by
    rw [gI_sI, if_neg (by omega)]
  have R5 : yRX (sI x 215 21 1) u len t := yRX_q R' (fun a j h => f5 a j (by omega)) rfl
  have L5 : yFl (sI x 215 21 1) F := yFl_q L (fun j h => f5 215 j (by omega))
  have W5 : yWk so (sI x 215 21 1) := yWk_x (fun j => f5 224 j (by omega)) W
  have V : yVw (yWv x u len t) u len t := fun w hw => yWv_ev R'.2.1 hw
  have body : qM_allLines_b2 (nI so) (1, x) = Option.bind (yLm (nI so) (yWv x u len t) (nI t) (sI x 215 21 1)) fun v7 => Option.bind (if v7.1 = 0 then some (v7.1, v7.2) else if (gI v7.2 215 12) = 4 then some (v7.1, v7.2) else (qM_fails v7.2).bind fun p15 => some (p15.1, p15.2)) fun v13 => Option.bind (if v13.1 = 0 then some v13.2 else (qM_token v13.2).bind fun p18 => some p18) fun v17 => some (.inl (v13.1, v17)) := by
    unfold qM_allLines_b2
    dsimp only
    rw [if_neg (show ¬ (1 : Int32) = 0 by decide), if_neg (show ¬ gI x 215 12 = 0 by rw [R'.2.1.2.1]; exact yKr_0 hk), R'.2.1.1]
    rfl
  obtain ⟨b, C, r, C1, C2, C3⟩ := yStep hso R5 hk us L5 hF gI_eq W5 V
  rcases r with ⟨no, x', e1, e2⟩ | ⟨w, hw, hs, tok, r⟩
  · left
    obtain ⟨g', q1, q2, q3⟩ := qRe_line0 hso R no
    refine ⟨t, g', x', q1, q2, q3, ?_, e2⟩
    rw [body, e1, Option.bind_some]
    dsimp only
    rw [if_pos rfl, Option.bind_some]
    dsimp only
    rw [if_pos rfl, Option.bind_some]
  · rcases r with ⟨m, x', m1, m2, m3, e1, e2⟩ | ⟨x', e1, al, R6, L6, hF6, Cx⟩
    · left
      rcases qRe_line1 hw R us tok.1 tok.2 Lc h1 with ⟨m', g', n1, n2, n3, n4, q1, q2, q3⟩ | ⟨al, -⟩
      · have mm : m' = m := by
          rcases Nat.lt_trichotomy m' m with z | z | z
          · exact absurd (m2 m' z) (n3 (by omega))
          · exact z
          · exact absurd (n2 m z) m3
        subst mm
        rw [hs] at q1
        refine ⟨_, g', x', q1, q2, q3, ?_, e2⟩
        rw [body, e1, Option.bind_some]
        dsimp only
        rw [if_pos rfl, Option.bind_some]
        dsimp only
        rw [if_pos rfl, Option.bind_some]
      · exact absurd (al m m1) m3
    · rcases qRe_line1 hw R us tok.1 tok.2 Lc h1 with ⟨m', g', n1, n2, n3, n4, q1, q2, q3⟩ | ⟨-, k3, g2, q1, q2, q3, q4, q5⟩
      · left
        have mm : m' = yNu w := by
          by_cases z : m' = yNu w
          · exact z
          · exact absurd (al m' (by omega)) (n3 (by omega))
        subst mm
        rw [hs] at q1
        refine ⟨_, g', sI x' 215 15 (gI x' 215 11), q1, q2, q3, ?_, by rw [gI_eq]; exact R6.2.1.1⟩
        rw [body, e1, Option.bind_some]
        dsimp only
        rw [if_neg (show ¬ (1 : Int32) = 0 by decide), if_neg (show ¬ gI x' 215 12 = 4 by rw [R6.2.1.2.1]; exact fun z => n4 rfl (yKr_4.mp z))]
        unfold qM_fails
        simp only [zlet]
        rw [Option.bind_some, Option.bind_some]
        dsimp only
        rw [if_pos rfl, Option.bind_some]
      · right
        have eqF : yLF w u len t F (yFu w g) = yLF w u len t F (b w) := by
          by_cases z : F.1 = 0
          · rw [C2 g (yK_x (fun a j h => f5 a j (by omega)) (K z)) w hw hs]
          · unfold yLF yAd
            rw [decide_eq_false z, Bool.and_false, Bool.and_false]
        rw [eqF] at q1 q3
        obtain ⟨x2, t1, t2, t3⟩ := yRX_step R6
        have rb : qM_allLines_b2 (nI so) (1, x) = some (.inl (1, x2)) := by
          rw [body, e1, Option.bind_some]
          dsimp only
          rw [if_neg (show ¬ (1 : Int32) = 0 by decide), if_pos (show gI x' 215 12 = 4 by rw [R6.2.1.2.1]; exact yKr_4.mpr k3), Option.bind_some]
          dsimp only
          rw [if_neg (show ¬ (1 : Int32) = 0 by decide), t1, Option.bind_some, Option.bind_some]
        have tl := yKd_len hk
        have a1 := (yTn_r (u := u) R.2.2).2.2 tl
        have a2 := (yTi_r (u := u) (yTn_r (u := u) R.2.2).2.1 (yNu w)).1
        have a3 := (yTn_r (u := u) R6.2.2).2.2 (yKd_len (by rw [k3]; decide))
        have L7 : yFl x2 (yLF w u len t F (b w)) := yFl_q L6 (fun j h => t3.2 215 j (by omega))
        have h17 : (yLF w u len t F (b w)).1 ≠ 1 := yGf_1 (yAd_1 h1 (by decide)) _
        have W7 : yWk so x2 := yWk_x (fun j => t3.2 224 j (Or.inl (by decide))) (C1 w x' Cx hw hs)
        have hF7 : (yLF w u len t F (b w)).1 ≠ 0 → (yLF w u len t F (b w)).2 < yTn u len (yP u len t (yNu w)) := fun z => Nat.lt_trans (hF6 z) a3
        have tt : t < yTn u len (yP u len t (yNu w)) := by
          have a2' : yTn u len t ≤ yP u len t (yNu w) := a2
          omega
        rw [hs] at q1
        by_cases z : (yLF w u len t F (b w)).1 = 0
        · rw [if_neg (fun zz => zz z)] at q1
          obtain ⟨y1, y2⟩ := yGf_z z
          obtain ⟨F0, bw⟩ := yAd_z (by decide) y1
          have K2 : yK so g2 (sI x 215 21 1) := yK_g (fun a j h => q5 a j (by omega) (by omega) (by omega)) (yK_x (fun a j h => f5 a j (by omega)) (K F0))
          obtain ⟨g3, c1, c2, c3⟩ := C3 g2 w x' hw hs K2 bw ((yNb_iff _ _).mpr y2) Cx q4
          rw [c1, Option.bind_some] at q1
          refine ⟨_, _, g3, x2, tt, q1, rb, ?_, t2, ⟨q3.1, (c3 147 3 (by omega) (by omega)).trans q3.2.1, fun zz => absurd z zz⟩, L7, hF7, h17, W7, fun _ => yK_x (fun a j h => t3.2 a j (by omega)) c2⟩
          obtain ⟨⟨t1, t2, t3⟩, ⟨d1, d2, d3, d4⟩, tl⟩ := q2
          have q : ∀ j, j ≠ 13 → gI g3 147 j = gI g2 147 j := fun j h1 => c3 147 j (by omega) (Or.inr h1)
          exact ⟨⟨t1, (q 8 (by decide)).trans t2, fun j hj => ⟨(c3 163 j (by omega) (Or.inl (by decide))).trans (t3 j hj).1, (t3 j hj).2⟩⟩, ⟨(q 11 (by decide)).trans d1, (q 10 (by decide)).trans d2, (q 9 (by decide)).trans d3, fun z => (q 12 (by decide)).trans (d4 z)⟩, tl⟩
        · rw [if_pos z] at q1
          exact ⟨_, _, g2, x2, tt, q1, rb, q2, t2, q3, L7, hF7, h17, W7, fun zz => absurd zz z⟩
/-- how all lines end -/
def yEnd (so : Nat) (u : Nat → Nat) (len : Nat) (g' : zK) (ok : Int32) (x' : zK) : Prop := (ok = 0 ∧ gI g' 147 3 = 1 ∧ ∃ p, gI g' 147 4 = nI p ∧ gI x' 215 15 = nI p) ∨ (ok = 1 ∧ ∃ F, yJo so u len len F g' x')
theorem yLines (hso : so < 3) (us : ∀ j, j < len → u j < 256) (l6 : len ≤ 600) : ∀ q t line F g x f f', len - t ≤ q → line ≤ t → q + 1 < f → q + 1 < f' → yJo so u len t F g x → ∃ g' ok x', zloop (qRe_read_b13 (nI so)) f (nI line, g) = some g' ∧ zloop (qM_allLines_b2 (nI so)) f' (1, x) = some (ok, x') ∧ yEnd so u len g' ok x' := by
  intro q
  induction q with
  | zero =>
    intro t line F g x f f' hq hl hf hf' J
    have tl := J.1.2.2
    have et : t = len := by omega
    subst et
    have k0 : yKd u t t = 0 := by unfold yKd; rw [if_pos (Nat.le_refl _)]
    obtain ⟨f1, rfl⟩ : ∃ f1, f = f1 + 1 := ⟨f - 1, by omega⟩
    obtain ⟨f2, rfl⟩ : ∃ f2, f' = f2 + 1 := ⟨f' - 1, by omega⟩
    refine ⟨g, 1, x, zloop_e ?_, zloop_e ?_, Or.inr ⟨rfl, F, J⟩⟩
    · unfold qRe_read_b13
      dsimp only
      rw [if_neg (show ¬ (600 : Int32) < nI line from nI_nlt (a := 600) (by omega) (by decide)), if_pos (show gI g 147 10 = 0 by rw [J.1.2.1.2.1, k0]; rfl)]
    · unfold qM_allLines_b2
      dsimp only
      rw [if_neg (show ¬ (1 : Int32) = 0 by decide), if_pos (show gI x 215 12 = 0 by rw [J.2.1.2.1.2.1, k0]; rfl)]
  | succ q ih =>
    intro t line F g x f f' hq hl hf hf' J
    have tl := J.1.2.2
    have kb := yKd_4 u len t
    obtain ⟨f1, rfl⟩ : ∃ f1, f = f1 + 1 := ⟨f - 1, by omega⟩
    obtain ⟨f2, rfl⟩ : ∃ f2, f' = f2 + 1 := ⟨f' - 1, by omega⟩
    by_cases et : t = len
    · subst et
      have k0 : yKd u t t = 0 := by unfold yKd; rw [if_pos (Nat.le_refl _)]
      refine ⟨g, 1, x, zloop_e ?_, zloop_e ?_, Or.inr ⟨rfl, F, J⟩⟩
      · unfold qRe_read_b13
        dsimp only
        rw [if_neg (show ¬ (600 : Int32) < nI line from nI_nlt (a := 600) (by omega) (by decide)), if_pos (show gI g 147 10 = 0 by rw [J.1.2.1.2.1, k0]; rfl)]
      · unfold qM_allLines_b2
        dsimp only
        rw [if_neg (show ¬ (1 : Int32) = 0 by decide), if_pos (show gI x 215 12 = 0 by rw [J.2.1.2.1.2.1, k0]; rfl)]
    · have hk : yKd u len t ≠ 0 := by
        unfold yKd
        rw [if_neg (by omega)]
        split
        · decide
        · split
          · split <;> decide
          · split <;> decide
      have cb : qRe_read_b13 (nI so) (nI line, g) = (qRe_readLine (nI so) g).bind fun p6 => some (.inl (nI (line + 1), p6)) := by
        unfold qRe_read_b13
        dsimp only
        rw [if_neg (show ¬ (600 : Int32) < nI line from nI_nlt (a := 600) (by omega) (by decide)), if_neg (show ¬ gI g 147 10 = 0 by rw [J.1.2.1.2.1]; exact fun z => hk ((nI_z (by omega)).mp z)), if_neg (show ¬ gI g 147 3 = 1 by rw [J.2.2.1.2.1]; exact fun z => J.2.2.2.2.2.1 ((nI_eq (b := 1) (by have := J.2.2.1.1; omega) (by omega)).mp z)), nI_1]
      rcases yLine hso us J hk with ⟨p, g', x', a1, a2, a3, a4, a5⟩ | ⟨t', F', g', x', a1, a2, a3, a4⟩
      · obtain ⟨f3, rfl⟩ : ∃ f3, f1 = f3 + 1 := ⟨f1 - 1, by omega⟩
        obtain ⟨f4, rfl⟩ : ∃ f4, f2 = f4 + 1 := ⟨f2 - 1, by omega⟩
        refine ⟨g', 0, x', ?_, ?_, Or.inl ⟨rfl, a2, p, a3, a5⟩⟩
        · rw [zloop, cb, a1, Option.bind_some]
          dsimp only
          refine zloop_e ?_
          unfold qRe_read_b13
          dsimp only
          rw [if_pos a2]
          split
          · rfl
          · split <;> rfl
        · rw [zloop, a4]
          dsimp only
          refine zloop_e ?_
          unfold qM_allLines_b2
          dsimp only
          rw [if_pos rfl]
      · obtain ⟨g2, ok, x2, b1, b2, b3⟩ := ih t' (line + 1) F' g' x' f1 f2 (by omega) (by omega) (by omega) (by omega) a4
        refine ⟨g2, ok, x2, ?_, ?_, b3⟩
        · rw [zloop, cb, a2, Option.bind_some]
          exact b1
        · rw [zloop, a3]
          exact b2
end JOINT
