/-! a year; a deed -/
section SIM3
variable {h : zK} {o oc k n s i : Nat} {c : wC} {re sh : Int32} {σ : wS}
def spY1 (fa ri : Nat → Int32) (i : Nat) (σ : wS) : wS := (σ.1, fun r t => if t < i ∧ zf_has (σ.1 3) (nI t) = 0 then (if r = 0 then zf_max 0 (σ.2 0 t - fa t) else if r = 1 then σ.2 1 t + ri t else σ.2 r t) else σ.2 r t)
theorem spY1_0 {fa ri : Nat → Int32} : spY1 fa ri 0 σ = σ := by
  unfold spY1
  refine Prod.ext rfl ?_
  funext r t
  dsimp only
  rw [if_neg (fun z => absurd z.1 (Nat.not_lt_zero _))]
theorem spY1_i {fa ri : Nat → Int32} (r : Nat) : (spY1 fa ri i σ).2 r i = σ.2 r i := by
  unfold spY1
  dsimp only
  rw [if_neg (fun z => Nat.lt_irrefl _ z.1)]
theorem spY1_1 {fa ri : Nat → Int32} : (spY1 fa ri i σ).1 = σ.1 := by
  unfold spY1
  dsimp only
theorem spY1_3 {fa ri : Nat → Int32} (t : Nat) : (spY1 fa ri i σ).2 3 t = σ.2 3 t := by
  unfold spY1
  dsimp only
  split <;> rfl
theorem spY1_n {fa ri : Nat → Int32} (hc : ¬ zf_has (σ.1 3) (nI i) = 0) : spY1 fa ri i σ = spY1 fa ri (i + 1) σ := by
  unfold spY1
  refine Prod.ext rfl ?_
  funext r t
  dsimp only
  by_cases h2 : t < i ∧ zf_has (σ.1 3) (nI t) = 0
  · rw [if_pos h2, if_pos (show t < i + 1 ∧ zf_has (σ.1 3) (nI t) = 0 from ⟨by omega, h2.2⟩)]
  · rw [if_neg h2, if_neg]
    rintro ⟨z1, z2⟩
    refine h2 ⟨?_, z2⟩
    have : t ≠ i := fun e => hc (e ▸ z2)
    omega
theorem spY1_y {fa ri : Nat → Int32} (hc : zf_has (σ.1 3) (nI i) = 0) : ((spY1 fa ri i σ).1, zu (zu (spY1 fa ri i σ).2 0 i (zf_max 0 (σ.2 0 i - fa i))) 1 i (σ.2 1 i + ri i)) = spY1 fa ri (i + 1) σ := by
  unfold spY1
  refine Prod.ext rfl ?_
  funext r t
  dsimp only
  unfold zu
  by_cases h1 : r = 1 ∧ t = i
  · obtain ⟨rfl, rfl⟩ := h1
    rw [if_pos ⟨rfl, rfl⟩, if_pos ⟨by omega, hc⟩]
    rfl
  · rw [if_neg h1]
    dsimp only
    by_cases h0 : r = 0 ∧ t = i
    · obtain ⟨rfl, rfl⟩ := h0
      rw [if_pos ⟨rfl, rfl⟩, if_pos ⟨by omega, hc⟩]
      rfl
    · rw [if_neg h0]
      by_cases h2 : t < i ∧ zf_has (σ.1 3) (nI t) = 0
      · rw [if_pos h2, if_pos (show t < i + 1 ∧ zf_has (σ.1 3) (nI t) = 0 from ⟨by omega, h2.2⟩)]
      · rw [if_neg h2]
        by_cases h3 : t < i + 1 ∧ zf_has (σ.1 3) (nI t) = 0
        · have e : t = i := by
            have : ¬ t < i := fun q => h2 ⟨q, h3.2⟩
            have := h3.1
            omega
          rw [if_pos h3, if_neg (fun q => h0 ⟨q, e⟩), if_neg (fun q => h1 ⟨q, e⟩)]
        · rw [if_neg h3]
def wfa (c : wC) (t : Nat) : Int32 := nI (c.2.2.2 1 t)
def wri (c : wC) (t : Nat) : Int32 := nI (c.2.2.2 3 t)
def spYear (re sh : Int32) (c : wC) (σ : wS) : wS := spIt re sh c.1 7 (upd σ.1 0 (σ.1 0 + 1), (spY1 (wfa c) (wri c) c.1 σ).2)
theorem spY_ok {y : Nat} (H : wOk n σ) (hy : y < 50) (ey : σ.1 0 = nI y) (fa ri : Nat → Int32) : wOk n (upd σ.1 0 (σ.1 0 + 1), (spY1 fa ri n σ).2) := by
  obtain ⟨⟨g, g1, g2⟩, hp, -⟩ := H
  refine ⟨⟨g, g1, g2⟩, fun t ht => ?_, y + 1, by omega, ?_⟩
  · obtain ⟨p, p1, p2⟩ := hp t ht
    exact ⟨p, p1, (spY1_3 t).trans p2⟩
  · show σ.1 0 + 1 = nI (y + 1)
    rw [ey, nI_1]
theorem spYear_ok (hn : c.1 ≤ 7) {y : Nat} (H : wOk c.1 σ) (hy : y < 50) (ey : σ.1 0 = nI y) : wOk c.1 (spYear re sh c σ) := spIt_ok hn 7 (spY_ok H hy ey _ _)
theorem qM_goesOn_b13_ev (B : mB h k c) (ok : wCok c) : zloop qM_goesOn_b13 zfu (0, lS (wLm c.1) h σ) = some (lS (wLm c.1) h (spY1 (wfa c) (wri c) c.1 σ)) := by
  have n7 := ok.1
  have L := wLm_ok c.1
  have st : ((0 : Int32), lS (wLm c.1) h σ) = (nI 0, lS (wLm c.1) h (spY1 (wfa c) (wri c) 0 σ)) := by rw [spY1_0]; rfl
  rw [st]
  refine zloop_for (fun i => (nI i, lS (wLm c.1) h (spY1 (wfa c) (wri c) i σ))) c.1 (fun i hi => ?_) ?_ (zfu_lt (by omega))
  · unfold qM_goesOn_b13
    dsimp only
    obtain ⟨τ, eτ⟩ : ∃ τ, τ = spY1 (wfa c) (wri c) i σ := ⟨_, rfl⟩
    have e1 : τ.1 = σ.1 := by rw [eτ, spY1_1]
    have e2 : ∀ r, τ.2 r i = σ.2 r i := fun r => by rw [eτ, spY1_i]
    rw [← eτ]
    have B' := mB_l (n := c.1) (σ := τ) B
    have g29 : gI (lS (wLm c.1) h τ) 215 29 = σ.1 3 := (lS_sc L (i := 3) (show 3 < 7 by decide) rfl).trans (congrFun e1 3)
    have gw : gI (lS (wLm c.1) h τ) 226 i = σ.2 0 i := by rw [lS_rw (A := wLm c.1) (σ := τ) L (r := 0) (a := 226) (show 0 < 4 by decide) rfl hi, e2]
    have w0 : ∀ v, sI (lS (wLm c.1) h τ) 226 i v = lS (wLm c.1) h (τ.1, zu τ.2 0 i v) := fun v => lS_wr L (r := 0) (show 0 < 4 by decide) rfl hi
    have gf : ∀ v, gI (lS (wLm c.1) h (τ.1, zu τ.2 0 i v)) 227 i = σ.2 1 i := fun v => by
      rw [lS_rw (A := wLm c.1) (σ := (τ.1, zu τ.2 0 i v)) L (r := 1) (a := 227) (show 1 < 4 by decide) rfl hi]
      show zu τ.2 0 i v 1 i = _
      rw [zu_r i (by decide), e2]
    have w1 : ∀ v v', sI (lS (wLm c.1) h (τ.1, zu τ.2 0 i v)) 227 i v' = lS (wLm c.1) h (τ.1, zu (zu τ.2 0 i v) 1 i v') := fun v v' => lS_wr (A := wLm c.1) (σ := (τ.1, zu τ.2 0 i v)) L (r := 1) (show 1 < 4 by decide) rfl hi
    rw [B'.2.2.1, if_neg (nI_ge hi (by omega)), g29]
    by_cases h1 : zf_has (σ.1 3) (nI i) = 0
    · rw [if_neg (fun z => z h1), zix_nI (by omega) (by omega), Option.bind_some, mB_1 B' ok hi, Option.bind_some]
      simp only [zlet]
      rw [gw, w0, mB_3 (mB_l (n := c.1) B) ok hi, Option.bind_some, gf, w1, Option.bind_some, nI_1, ← wmaxg]
      have e := spY1_y (i := i) (fa := wfa c) (ri := wri c) h1
      rw [← eτ] at e
      rw [← e]
      unfold wfa wri
      rfl
    · rw [if_pos h1, Option.bind_some, nI_1, ← spY1_n h1, eτ]
  · unfold qM_goesOn_b13
    dsimp only
    rw [(mB_l (n := c.1) B).2.2.1, if_pos (nI_le (Nat.le_refl _) (by omega))]
theorem qRu_passedYear_b13_ev (B : wBc h o oc c re sh) (ok : wCok c) : zloop (qRu_passedYear_b13 o) zfu (0, lS (wLc c.1 o) h σ) = some (lS (wLc c.1 o) h (spY1 (wfa c) (wri c) c.1 σ)) := by
  have n7 := ok.1
  have L := wLc_ok c.1 o
  have st : ((0 : Int32), lS (wLc c.1 o) h σ) = (nI 0, lS (wLc c.1 o) h (spY1 (wfa c) (wri c) 0 σ)) := by rw [spY1_0]; rfl
  rw [st]
  refine zloop_for (fun i => (nI i, lS (wLc c.1 o) h (spY1 (wfa c) (wri c) i σ))) c.1 (fun i hi => ?_) ?_ (zfu_lt (by omega))
  · unfold qRu_passedYear_b13
    dsimp only
    obtain ⟨τ, eτ⟩ : ∃ τ, τ = spY1 (wfa c) (wri c) i σ := ⟨_, rfl⟩
    have e1 : τ.1 = σ.1 := by rw [eτ, spY1_1]
    have e2 : ∀ r, τ.2 r i = σ.2 r i := fun r => by rw [eτ, spY1_i]
    rw [← eτ]
    have B' := wBc_l (n := c.1) (σ := τ) B
    have g29 : gI (lS (wLc c.1 o) h τ) o 2 = σ.1 3 := (lS_sc L (i := 3) (show 3 < 11 by decide) rfl).trans (congrFun e1 3)
    have gw : gI (lS (wLc c.1 o) h τ) (o + 10) i = σ.2 0 i := by rw [lS_rw (A := wLc c.1 o) (σ := τ) L (r := 0) (a := o + 10) (show 0 < 5 by decide) rfl hi, e2]
    have w0 : ∀ v, sI (lS (wLc c.1 o) h τ) (o + 10) i v = lS (wLc c.1 o) h (τ.1, zu τ.2 0 i v) := fun v => lS_wr L (r := 0) (show 0 < 5 by decide) rfl hi
    have gf : ∀ v, gI (lS (wLc c.1 o) h (τ.1, zu τ.2 0 i v)) (o + 11) i = σ.2 1 i := fun v => by
      rw [lS_rw (A := wLc c.1 o) (σ := (τ.1, zu τ.2 0 i v)) L (r := 1) (a := o + 11) (show 1 < 5 by decide) rfl hi]
      show zu τ.2 0 i v 1 i = _
      rw [zu_r i (by decide), e2]
    have w1 : ∀ v v', sI (lS (wLc c.1 o) h (τ.1, zu τ.2 0 i v)) (o + 11) i v' = lS (wLc c.1 o) h (τ.1, zu (zu τ.2 0 i v) 1 i v') := fun v v' => lS_wr (A := wLc c.1 o) (σ := (τ.1, zu τ.2 0 i v)) L (r := 1) (show 1 < 5 by decide) rfl hi
    have gr : ∀ τ : wS, gR (lS (wLc c.1 o) h τ) o = oc := fun τ => gR_l.trans B.2.2.1
    have cc : ∀ τ : wS, cC (lS (wLc c.1 o) h τ) oc c := fun τ => cC_l B.1 B.2.1 B.2.2.2.2.2
    simp only [zlet]
    rw [gr, if_pos B.2.1, cC_n (cc τ), if_neg (nI_ge hi (by omega)), wcinh, g29]
    by_cases h1 : zf_has (σ.1 3) (nI i) = 0
    · rw [if_neg (fun z => z h1), zix_nI (by omega) (by omega), Option.bind_some, if_pos B.2.1, gw, cC_1 (cc τ) hi, w0, gr, if_pos B.2.1, gf, cC_3 (cc _) hi, w1, Option.bind_some, nI_1]
      have e := spY1_y (i := i) (fa := wfa c) (ri := wri c) h1
      rw [← eτ] at e
      rw [← e]
      unfold wfa wri
      rfl
    · rw [if_pos h1, Option.bind_some, nI_1, ← spY1_n h1, eτ]
  · unfold qRu_passedYear_b13
    dsimp only
    have gr : ∀ τ : wS, gR (lS (wLc c.1 o) h τ) o = oc := fun τ => gR_l.trans B.2.2.1
    simp only [zlet]
    rw [gr, if_pos B.2.1, cC_n (cC_l B.1 B.2.1 B.2.2.2.2.2), if_pos (nI_le (Nat.le_refl _) (by omega))]
theorem qM_goesOn_ev (B : mB h k c) (N : mN h re sh) (ok : wCok c) (H : wOk c.1 σ) {y : Nat} (hy : y < 50) (ey : σ.1 0 = nI y) : qM_goesOn (lS (wLm c.1) h σ) = some (1, lS (wLm c.1) h (spYear re sh c σ)) := by
  have L := wLm_ok c.1
  unfold qM_goesOn
  have g0 : ∀ τ : wS, gI (lS (wLm c.1) h τ) 215 26 = τ.1 0 := fun τ => lS_sc L (i := 0) (show 0 < 7 by decide) rfl
  have w0 : ∀ (τ : wS) v, sI (lS (wLm c.1) h τ) 215 26 v = lS (wLm c.1) h (upd τ.1 0 v, τ.2) := fun τ v => lS_ws L (i := 0) (show 0 < 7 by decide) rfl
  simp only [zlet]
  rw [g0, if_pos (show ¬ σ.1 0 = 50 by rw [ey]; exact fun z => by rw [show (50 : Int32) = nI 50 from rfl, nI_eq (by omega) (by omega)] at z; omega), qM_goesOn_b13_ev B ok, Option.bind_some, g0, w0, spY1_1, qM_burstAll_ev B N ok (spY_ok H hy ey (wfa c) (wri c)), Option.bind_some]
  unfold spYear
  rfl
theorem qM_goesOn_no (B : mB h k c) (ey : σ.1 0 = 50) : qM_goesOn (lS (wLm c.1) h σ) = some (0, lS (wLm c.1) h σ) := by
  have L := wLm_ok c.1
  unfold qM_goesOn
  have g0 : ∀ τ : wS, gI (lS (wLm c.1) h τ) 215 26 = τ.1 0 := fun τ => lS_sc L (i := 0) (show 0 < 7 by decide) rfl
  rw [g0, if_neg (fun z => z ey)]
theorem qRu_passedYear_b102_ev (B : wBc h o oc c re sh) (ok : wCok c) (H : wOk c.1 σ) : zloop (qRu_passedYear_b102 o) zfu (wO (spFo c.1 σ), 0, lS (wLc c.1 o) h σ) = some (lS (wLc c.1 o) h (spIt re sh c.1 7 σ)) := by
  have n7 := ok.1
  obtain ⟨m, m1, m2, m3, m4⟩ := spIt_7 (re := re) (sh := sh) n7 H
  refine zloop_for (fun i => (wO (spFo c.1 (spIt re sh c.1 i σ)), nI i, lS (wLc c.1 o) h (spIt re sh c.1 i σ))) m (fun i hi => ?_) ?_ (zfu_lt (by omega))
  · obtain ⟨s, hs⟩ := m4 i hi
    have s1 := (spFo_s hs).1
    obtain ⟨-, q2, y, q3, q4⟩ := spIt_ok (re := re) (sh := sh) n7 i H
    unfold qRu_passedYear_b102
    dsimp only
    rw [if_neg (show ¬ (7 : Int32) ≤ nI i from nI_ge (b := 7) (by omega) (by decide)), hs, if_neg (show ¬ wO (some s) = -1 from nI_nm1 (by omega)), show wO (some s) = nI s from rfl, qRu_burst_ev B ok s1 q2 q3 q4, Option.bind_some, qRu_firstToBurst_ev B ok, Option.bind_some, spIt_s, nI_1]
    have en : spNx re sh c.1 (spIt re sh c.1 i σ) = spBurst re sh c.1 s (spIt re sh c.1 i σ) := by
      unfold spNx; rw [hs]
    rw [en]
  · unfold qRu_passedYear_b102
    dsimp only
    rw [m3, if_pos (show wO none = -1 from rfl), m2]
    by_cases h7 : (7 : Int32) ≤ nI m
    · rw [if_pos h7]
    · rw [if_neg h7]
theorem qRu_passedYear_ev (B : wBc h o oc c re sh) (ok : wCok c) (H : wOk c.1 σ) {y : Nat} (hy : y < 50) (ey : σ.1 0 = nI y) : qRu_passedYear o (lS (wLc c.1 o) h σ) = some (1, lS (wLc c.1 o) h (spYear re sh c σ)) := by
  have L := wLc_ok c.1 o
  unfold qRu_passedYear
  have g0 : ∀ τ : wS, gI (lS (wLc c.1 o) h τ) o 0 = τ.1 0 := fun τ => lS_sc L (i := 0) (show 0 < 11 by decide) rfl
  have w0 : ∀ (τ : wS) v, sI (lS (wLc c.1 o) h τ) o 0 v = lS (wLc c.1 o) h (upd τ.1 0 v, τ.2) := fun τ v => lS_ws L (i := 0) (show 0 < 11 by decide) rfl
  simp only [zlet]
  rw [g0, if_pos (show σ.1 0 < 50 by rw [ey]; exact nI_lt (b := 50) hy (by decide)), qRu_passedYear_b13_ev B ok, Option.bind_some, g0, w0, spY1_1, qRu_firstToBurst_ev B ok, Option.bind_some, qRu_passedYear_b102_ev B ok (spY_ok H hy ey (wfa c) (wri c)), Option.bind_some]
  unfold spYear
  rfl
theorem qRu_passedYear_no (B : wBc h o oc c re sh) (ey : σ.1 0 = 50) : qRu_passedYear o (lS (wLc c.1 o) h σ) = some (0, lS (wLc c.1 o) h σ) := by
  have L := wLc_ok c.1 o
  unfold qRu_passedYear
  have g0 : ∀ τ : wS, gI (lS (wLc c.1 o) h τ) o 0 = τ.1 0 := fun τ => lS_sc L (i := 0) (show 0 < 11 by decide) rfl
  rw [g0, if_neg (show ¬ σ.1 0 < 50 by rw [ey]; decide)]
end SIM3
