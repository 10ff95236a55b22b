/-! AFTER -/
section AFTER
variable {h : zK} {o oc k n s i : Nat} {c : wC} {d : wD} {re sh : Int32} {σ τ : wS}
theorem qM_doesDeed_ev {ky : Nat} (B : mB h k c) (N : mN h re sh) (ok : wCok c) (H : wOk c.1 τ) (hky : ky < 2) (e37 : gI h 215 37 = nI ky) (dm : dM h (121 * ky) d) (od : wDok d) (hi : i < d.1) : qM_doesDeed (nI i) (lS (wLm c.1) h τ) = some (wD2 (wLm c.1) h τ (spDid re sh c (spK d i) (d.2 1 i) (d.2 2 i) τ)) := by
  obtain ⟨q1, q2, -⟩ := wDk od hi
  have g37 : gI (lS (wLm c.1) h τ) 215 37 = nI ky := (lS_m3 (by omega)).trans e37
  have dm' : dM (lS (wLm c.1) h τ) (121 * ky) d := ⟨(lS_m2 (by omega) (by omega)).trans dm.1, fun r i hr hi => (lS_m2 (by omega) (by omega)).trans (dm.2 r i hr hi)⟩
  unfold qM_doesDeed
  rw [qM_deedOf_ev (x := 0) (r := 0) hky g37 dm' od hi rfl (by omega), Option.bind_some, qM_deedOf_ev (x := 1) (r := 1) hky g37 dm' od hi rfl (by omega), Option.bind_some, qM_deedOf_ev (x := 2) (r := 2) hky g37 dm' od hi rfl (by omega), Option.bind_some, q2, qM_does_ev B N ok H q1, Option.bind_some]
  cases spDid re sh c (spK d i) (d.2 1 i) (d.2 2 i) τ with
  | none =>
    unfold wD2
    dsimp only
    rw [if_pos zbool_0]
  | some τ =>
    unfold wD2
    dsimp only
    rw [if_pos zbool_1]
/-- first year of a burst, year of most, how many -/
def yAfS (b : Nat → Nat) (y : Nat) (a : Option Nat × Option Nat × Nat) : Option Nat × Option Nat × Nat :=
  (if a.1 = none ∧ 0 < b (y + 1) then some (y + 1) else a.1, if a.2.2 < b (y + 1) then some (y + 1) else a.2.1, if a.2.2 < b (y + 1) then b (y + 1) else a.2.2)
def yAf (b : Nat → Nat) (y : Nat) : Option Nat × Option Nat × Nat := wfold (yAfS b) (none, none, 0) y
theorem yAf_s (b : Nat → Nat) (y : Nat) : yAf b (y + 1) = yAfS b y (yAf b y) := rfl
theorem yAfS_0 {b : Nat → Nat} {y : Nat} (h : b (y + 1) = 0) (a : Option Nat × Option Nat × Nat) : yAfS b y a = a := by
  unfold yAfS
  rw [h, if_neg (fun z => absurd z.2 (by omega)), if_neg (by omega), if_neg (by omega)]
theorem yAf_st {b : Nat → Nat} {y : Nat} (h : ∀ t, y < t → b t = 0) : ∀ j, yAf b (y + j) = yAf b y
  | 0 => rfl
  | j + 1 => by
    rw [show y + (j + 1) = (y + j) + 1 by omega, yAf_s, yAfS_0 (h _ (by omega)), yAf_st h j]
theorem yAf_cong {b b' : Nat → Nat} : ∀ y, (∀ t, t ≤ y → b t = b' t) → yAf b y = yAf b' y
  | 0, _ => rfl
  | y + 1, h => by
    rw [yAf_s, yAf_s, yAf_cong y (fun t ht => h t (by omega))]
    unfold yAfS
    rw [h (y + 1) (by omega)]
theorem yAf_m {b : Nat → Nat} (h : ∀ t, b t ≤ 7) : ∀ y, (yAf b y).2.2 ≤ 7
  | 0 => (by decide : 0 ≤ 7)
  | y + 1 => by
    rw [yAf_s]
    have := yAf_m h y
    have := h (y + 1)
    unfold yAfS
    dsimp only
    split <;> omega
theorem yAf_1 {b : Nat → Nat} {y v : Nat} (h : (yAf b y).1 = some v) : ∀ j, (yAf b (y + j)).1 = some v
  | 0 => h
  | j + 1 => by
    rw [show y + (j + 1) = (y + j) + 1 by omega, yAf_s]
    have := yAf_1 h j
    unfold yAfS
    dsimp only
    rw [this, if_neg (fun z => by cases z.1)]
/-- the years of a run: the year, how many burst in each, how many in all -/
def yJ (n y : Nat) (b : Nat → Nat) (σ : wS) : Prop := y ≤ 50 ∧ σ.1 0 = nI y ∧ (∀ t, t ≤ 50 → σ.2 4 t = nI (b t)) ∧ (∀ t, b t ≤ 7) ∧ (∀ t, y < t → b t = 0) ∧ wNb n 0 σ
theorem wNb_0le {b0 : Nat} (H : wNb n b0 σ) : wNb n 0 σ := by
  obtain ⟨b, g, g1, g2, g3, g4, g5⟩ := H
  exact ⟨b, g, g1, g2, g3, by omega, g5⟩
theorem yJ_year (hn : c.1 ≤ 7) {y : Nat} {b : Nat → Nat} (J : yJ c.1 y b σ) (hy : y < 50) : ∃ b', yJ c.1 (y + 1) b' (spYear re sh c σ) ∧ (∀ t, t ≤ y → b' t = b t) ∧ ∃ p q, σ.1 2 = nI p ∧ (spYear re sh c σ).1 2 = nI q ∧ p ≤ q ∧ q ≤ 7 ∧ b' (y + 1) = q - p := by
  obtain ⟨j1, j2, j3, j4, j5, j6⟩ := J
  obtain ⟨a1, a2, a3⟩ := spYear_b (re := re) (sh := sh) (c := c) hy j2
  obtain ⟨p, g, g1, g2, g3, g4, g5⟩ := j6
  obtain ⟨q, g', q1, q2, q3, q4, q5⟩ := wNb_year (re := re) (sh := sh) (c := c) (b0 := p) hn ⟨p, g, g1, g2, g3, Nat.le_refl _, g5⟩
  have e0 : b (y + 1) = 0 := j5 _ (by omega)
  have ev : (spYear re sh c σ).2 4 (y + 1) = nI (q - p) := by
    rw [j3 (y + 1) (by omega), e0, g3, q3, nI_add, Nat.zero_add] at a2
    have : nI q = nI (q - p) + nI p := by rw [nI_add, Nat.sub_add_cancel q4]
    rw [this] at a2
    have := congrArg (fun z => z - nI p) a2
    rw [Int32.add_sub_cancel, Int32.add_sub_cancel] at this
    exact this
  refine ⟨fun t => if t = y + 1 then q - p else b t, ⟨by omega, a1, fun t ht => ?_, fun t => ?_, fun t ht => ?_, ⟨q, g', q1, q2, q3, by omega, q5⟩⟩, fun t ht => ?_, p, q, g3, q3, q4, by omega, ?_⟩
  · dsimp only
    by_cases e : t = y + 1
    · rw [if_pos e, e]; exact ev
    · rw [if_neg e, a3 t e]; exact j3 t ht
  · dsimp only
    split
    · omega
    · exact j4 t
  · dsimp only
    rw [if_neg (by omega)]
    exact j5 t (by omega)
  · dsimp only
    rw [if_neg (by omega)]
  · dsimp only
    rw [if_pos rfl]
theorem wNb_open (hs : s < n) (hn : n ≤ 7) (H : wNb n 0 σ) (hg : zf_has (σ.1 3) (nI s) = 0) : wNb n 0 (spOpen s σ) := by
  obtain ⟨b, g, g1, g2, g3, g4, g5⟩ := H
  have ht : g.testBit s = false := by
    rw [g2, whas g g1 s (by omega)] at hg
    cases hb : g.testBit s with
    | false => rfl
    | true => rw [hb] at hg; exact absurd hg (by decide)
  have hd := wG_dec ht n hs
  refine ⟨b, g ||| 2 ^ s, wor_lt g1 (wpow7 s (by omega)), ?_, ?_, by omega, by omega⟩
  · rw [(spOpen_3 σ).1, g2]
    unfold wB1
    rw [wshl s (by omega), fa_or]
  · rw [← g3]
    unfold spOpen
    split
    · split <;> rfl
    · rfl
theorem yJ_ds (hn : c.1 ≤ 7) {y kk : Nat} {b : Nat → Nat} {p : Int32} (J : yJ c.1 y b σ) (hs : s < c.1) (e : spDs kk s p σ = some τ) : yJ c.1 y b τ ∧ τ.1 2 = σ.1 2 := by
  obtain ⟨j1, j2, j3, j4, j5, j6⟩ := J
  unfold spDs at e
  split at e
  · cases e
  · rename_i hg
    have hg' : zf_has (σ.1 3) (nI s) = 0 := Classical.byContradiction hg
    split at e
    · cases e
      have o3 := spOpen_3 (s := s) σ
      refine ⟨⟨j1, o3.2.1.trans j2, ?_, j4, j5, wNb_open hs hn j6 hg'⟩, ?_⟩
      · rw [o3.2.2]; exact j3
      · unfold spOpen
        split
        · split <;> rfl
        · rfl
    · split at e
      · split at e
        · cases e
          refine ⟨⟨j1, j2, fun t ht => ?_, j4, j5, j6⟩, rfl⟩
          rw [← j3 t ht]
          exact zu_r (f := σ.2) (a := 2) (k := s) (v := σ.2 2 s + 5) (b := 4) t (by decide)
        · cases e
      · split at e
        · split at e
          · cases e
            exact ⟨⟨j1, j2, j3, j4, j5, j6⟩, rfl⟩
          · cases e
        · split at e
          · cases e
            refine ⟨⟨j1, j2, fun t ht => ?_, j4, j5, j6⟩, rfl⟩
            rw [← j3 t ht]
            exact zu_r (f := σ.2) (a := 3) (k := s) (v := p) (b := 4) t (by decide)
          · cases e
theorem yJ_0 (hn : c.1 ≤ 7) : yJ c.1 0 (fun _ => 0) (wS0 c) := ⟨by omega, rfl, fun _ _ => rfl, fun _ => Nat.zero_le _, fun _ _ => rfl, wNb_0 hn⟩
theorem spBurst_f : (spBurst re sh n s σ).1 7 = σ.1 7 ∧ (spBurst re sh n s σ).1 10 = σ.1 10 ∧ (spBurst re sh n s σ).1 8 = σ.1 8 ∧ (spBurst re sh n s σ).1 9 = σ.1 9 := ⟨rfl, rfl, rfl, rfl⟩
theorem spIt_f : ∀ j {σ : wS}, (spIt re sh n j σ).1 7 = σ.1 7 ∧ (spIt re sh n j σ).1 10 = σ.1 10 ∧ (spIt re sh n j σ).1 8 = σ.1 8 ∧ (spIt re sh n j σ).1 9 = σ.1 9
  | 0, σ => ⟨rfl, rfl, rfl, rfl⟩
  | j + 1, σ => by
    have a := spIt_f j (σ := spNx re sh n σ)
    have b : (spNx re sh n σ).1 7 = σ.1 7 ∧ (spNx re sh n σ).1 10 = σ.1 10 ∧ (spNx re sh n σ).1 8 = σ.1 8 ∧ (spNx re sh n σ).1 9 = σ.1 9 := by
      unfold spNx
      split
      · exact ⟨rfl, rfl, rfl, rfl⟩
      · exact spBurst_f
    exact ⟨a.1.trans b.1, a.2.1.trans b.2.1, a.2.2.1.trans b.2.2.1, a.2.2.2.trans b.2.2.2⟩
theorem spYear_f : (spYear re sh c σ).1 7 = σ.1 7 ∧ (spYear re sh c σ).1 10 = σ.1 10 ∧ (spYear re sh c σ).1 8 = σ.1 8 ∧ (spYear re sh c σ).1 9 = σ.1 9 := by
  have := spIt_f (re := re) (sh := sh) (n := c.1) 7 (σ := (upd σ.1 0 (σ.1 0 + 1), (spY1 (wfa c) (wri c) c.1 σ).2))
  exact this
/-- the reference's own counts at a state -/
def yLo (y : Nat) (b : Nat → Nat) (τ : wS) (can kx : Int32) (g : zK) : Int32 × Int32 × Int32 × Int32 × Int32 × Int32 × Int32 × Int32 × Int32 × zK := (wO (yAf b y).1, wO (yAf b y).2.1, nI (yAf b y).2.2, τ.1 7, τ.1 10, τ.1 8, τ.1 9, can, kx, g)
theorem wgre_0 {a : Nat} (ha : a < 2 ^ 31) : zf_greater (nI a) 0 = nI a := by
  rw [show (0 : Int32) = nI 0 from rfl, wgren ha (by omega), if_neg (by omega)]
theorem wO_ne {a : Option Nat} {v : Nat} (h : a = some v) (hv : v < 2 ^ 31) : ¬ wO a = -1 := by
  rw [h]; exact nI_nm1 hv
theorem yAf_v {b : Nat → Nat} : ∀ y v, (yAf b y).1 = some v → v ≤ y
  | 0, v, h => by cases h
  | y + 1, v, h => by
    rw [yAf_s] at h
    unfold yAfS at h
    dsimp only at h
    split at h
    · cases h; omega
    · have := yAf_v y v h; omega
theorem yAf_bg {b : Nat → Nat} {y : Nat} (hy : y < 50) : (if ¬ wO (yAf b y).1 = -1 then wO (yAf b y).1 else if b (y + 1) = 0 then wO (yAf b y).1 else nI (y + 1)) = wO (yAf b (y + 1)).1 := by
  rw [yAf_s]
  unfold yAfS
  dsimp only
  cases e : (yAf b y).1 with
  | none =>
    rw [if_neg (show ¬ ¬ wO none = -1 from fun z => z rfl)]
    by_cases h0 : b (y + 1) = 0
    · rw [if_pos h0, if_neg (fun z => absurd z.2 (by omega))]
    · rw [if_neg h0, if_pos ⟨rfl, by omega⟩]
      rfl
  | some v =>
    have := yAf_v y v e
    rw [if_pos (show ¬ wO (some v) = -1 from nI_nm1 (by omega)), if_neg (fun z => by cases z.1)]
end AFTER
