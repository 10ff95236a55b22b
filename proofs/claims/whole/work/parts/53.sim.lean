/-! BURSTS AND YEARS: one plain run, class and reference both -/
theorem wabs {a b : Nat} (ha : a < 2 ^ 30) (hb : b < 2 ^ 30) : zf_abs (nI a - nI b) = zf_away (nI a) (nI b) := by
  unfold zf_abs zf_away
  by_cases h : a < b
  · rw [if_pos (nI_lt h (by omega)), if_neg]
    · rw [Int32.zero_sub, Int32.neg_sub]
    · intro hh
      rw [Int32.le_iff_toInt_le, Int32.toInt_sub, nI_toInt (by omega), nI_toInt (by omega), Int.bmod_eq_of_le (by omega) (by omega)] at hh
      have e0 : (0 : Int32).toInt = 0 := rfl
      omega
  · rw [if_neg (nI_nlt (by omega) (by omega)), nI_sub (by omega), if_pos (nI_pos' (by omega))]
theorem wmaxg (x : Int32) : zf_max 0 x = zf_greater 0 x := by
  unfold zf_greater zf_max
  by_cases h : x < 0
  · rw [if_pos h, if_neg (Int32.not_lt.mpr (Int32.le_of_lt h))]
  · rw [if_neg h]
    by_cases h2 : 0 < x
    · rw [if_pos h2]
    · rw [if_neg h2]
      exact Int32.le_antisymm (Int32.not_lt.mp h) (Int32.not_lt.mp h2)
theorem wcinh (x k : Int32) : zf_cin x k = zf_has x k := by
  unfold zf_cin zf_has
  generalize x >>> (k &&& 31) = y
  have : y &&& 1 = 0 ∨ y &&& 1 = 1 := by
    by_cases hb : bt y 0 = true
    · right
      refine b_ext fun i hi => ?_
      rw [b_and]
      by_cases h0 : i = 0
      · subst h0; rw [hb]; decide
      · have : bt 1 i = false := (by decide +kernel : ∀ i, i < 32 → i ≠ 0 → bt 1 i = false) i hi h0
        rw [this, Bool.and_false]
    · left
      refine b_ext fun i hi => ?_
      rw [b_and, b_0]
      by_cases h0 : i = 0
      · subst h0
        cases hq : bt y 0 with
        | true => exact absurd hq hb
        | false => rfl
      · have : bt 1 i = false := (by decide +kernel : ∀ i, i < 32 → i ≠ 0 → bt 1 i = false) i hi h0
        rw [this, Bool.and_false]
  rcases this with e | e
  · rw [e]; decide
  · rw [e]; decide
section SIM
variable {h : zK} {o oc k n s i : Nat} {c : wC} {re sh : Int32} {σ : wS}
/-- the class's run stands on a cellar -/
def wBc (h : zK) (o oc : Nat) (c : wC) (re sh : Int32) : Prop := (o = 166 ∨ o = 198) ∧ (oc = 7 ∨ oc = 22) ∧ gR h o = oc ∧ gI h o 3 = re ∧ gI h o 4 = sh ∧ cC h oc c
theorem lS_c {a j : Nat} (ho : o = 166 ∨ o = 198) (ha : a < 100) : gI (lS (wLc n o) h σ) a j = gI h a j := by
  refine lS_ot (fun i _ e => ?_) (fun r _ e => ?_)
  · have : o = a := (Prod.mk.inj e).1
    omega
  · have : o + _ = a := e
    omega
theorem wLc_n3 : ∀ i, i < 11 → [0, 11, 1, 2, 12, 13, 7, 6, 8, 9, 14].getD i 100 ≠ 3 ∧ [0, 11, 1, 2, 12, 13, 7, 6, 8, 9, 14].getD i 100 ≠ 4 := by decide
theorem lS_c3 : gI (lS (wLc n o) h σ) o 3 = gI h o 3 := by
  refine lS_ot (fun i hi e => ?_) (fun r hr e => ?_)
  · exact (wLc_n3 i hi).1 (Prod.mk.inj e).2
  · exact wLc_p r hr (by have : o + [10, 11, 12, 13, 1].getD r 100 = o := e; omega)
theorem lS_c4 : gI (lS (wLc n o) h σ) o 4 = gI h o 4 := by
  refine lS_ot (fun i hi e => ?_) (fun r hr e => ?_)
  · exact (wLc_n3 i hi).2 (Prod.mk.inj e).2
  · exact wLc_p r hr (by have : o + [10, 11, 12, 13, 1].getD r 100 = o := e; omega)
theorem cC_l (ho : o = 166 ∨ o = 198) (hoc : oc = 7 ∨ oc = 22) (hc : cC h oc c) : cC (lS (wLc n o) h σ) oc c := by
  obtain ⟨a, b, d, f⟩ := hc
  exact ⟨(lS_c ho (by omega)).trans a, (lS_c ho (by omega)).trans b, (lS_c ho (by omega)).trans d, fun i s hi hs => (lS_c ho (by omega)).trans (f i s hi hs)⟩
theorem gR_l {A : wA} : gR (lS A h σ) o = gR h o := by
  unfold gR
  unfold lS
  dsimp only
theorem wBc_l (B : wBc h o oc c re sh) : wBc (lS (wLc n o) h σ) o oc c re sh := by
  obtain ⟨h1, h2, h3, h4, h5, h6⟩ := B
  refine ⟨h1, h2, gR_l.trans h3, ?_, ?_, cC_l h1 h2 h6⟩
  · rw [lS_c3]; exact h4
  · rw [lS_c4]; exact h5
theorem lS_m {j : Nat} (hj : j < 26) : gI (lS (wLm n) h σ) 215 j = gI h 215 j := by
  refine lS_ot (fun i hi e => ?_) (fun r hr e => ?_)
  · have : 26 + i = j := (Prod.mk.inj e).2
    omega
  · have : 226 + r = 215 := e
    omega
theorem lS_m2 {a j : Nat} (ha : a ≠ 215) (hb : a < 226 ∨ 230 ≤ a) : gI (lS (wLm n) h σ) a j = gI h a j := by
  refine lS_ot (fun i hi e => ?_) (fun r hr e => ?_)
  · have : 215 = a := (Prod.mk.inj e).1
    omega
  · have : 226 + r = a := e
    have : r < 4 := hr
    omega
theorem mB_l (B : mB h k c) : mB (lS (wLm n) h σ) k c := by
  obtain ⟨h1, h2, h3, a, b, d, f⟩ := B
  have g : ∀ j, gI (lS (wLm n) h σ) 221 j = gI h 221 j := fun j => lS_m2 (by omega) (by omega)
  exact ⟨h1, (lS_m (by omega)).trans h2, (lS_m (by omega)).trans h3, (g _).trans a, (g _).trans b, (g _).trans d, fun i s hi hs => (g _).trans (f i s hi hs)⟩
/-- the reference's reach and shock, as it uses them -/
def mN (h : zK) (re sh : Int32) : Prop := gI h 215 24 = sh ∧ gI h 215 25 = re
theorem mN_l (B : mN h re sh) : mN (lS (wLm n) h σ) re sh := ⟨(lS_m (by omega)).trans B.1, (lS_m (by omega)).trans B.2⟩
/-! a burst -/
def wCd (re : Int32) (s : Nat) (σ : wS) (t : Nat) : Prop := zf_has (σ.1 3) (nI t) = 0 ∧ ¬ re < zf_away (σ.2 3 t) (σ.2 3 s)
def spB1 (re sh : Int32) (s i : Nat) (σ : wS) : wS := (σ.1, fun r t => if r = 1 ∧ t < i ∧ zf_has (σ.1 3) (nI t) = 0 ∧ ¬ re < zf_away (σ.2 3 t) (σ.2 3 s) then σ.2 1 t + sh else σ.2 r t)
theorem spB1_0 : spB1 re sh s 0 σ = σ := by
  unfold spB1
  refine Prod.ext rfl ?_
  funext r t
  dsimp only
  rw [if_neg (fun z => absurd z.2.1 (Nat.not_lt_zero _))]
theorem spB1_i (r : Nat) : (spB1 re sh s i σ).2 r i = σ.2 r i := by
  unfold spB1
  dsimp only
  rw [if_neg (fun z => Nat.lt_irrefl _ z.2.1)]
theorem spB1_3 (t : Nat) : (spB1 re sh s i σ).2 3 t = σ.2 3 t := by
  unfold spB1
  dsimp only
  rw [if_neg (fun z => absurd z.1 (by decide))]
theorem spB1_y (hc : zf_has (σ.1 3) (nI i) = 0 ∧ ¬ re < zf_away (σ.2 3 i) (σ.2 3 s)) : ((spB1 re sh s i σ).1, zu (spB1 re sh s i σ).2 1 i (σ.2 1 i + sh)) = spB1 re sh s (i + 1) σ := by
  unfold spB1
  refine Prod.ext rfl ?_
  funext r t
  dsimp only
  unfold zu
  by_cases h1 : r = 1 ∧ t = i
  · obtain ⟨rfl, rfl⟩ := h1
    rw [if_pos ⟨rfl, rfl⟩, if_pos ⟨rfl, by omega, hc⟩]
  · rw [if_neg h1]
    dsimp only
    by_cases h2 : r = 1 ∧ t < i ∧ zf_has (σ.1 3) (nI t) = 0 ∧ ¬ re < zf_away (σ.2 3 t) (σ.2 3 s)
    · rw [if_pos h2, if_pos ⟨h2.1, by omega, h2.2.2⟩]
    · rw [if_neg h2, if_neg]
      rintro ⟨z1, z2, z3⟩
      exact h2 ⟨z1, by have : t ≠ i := fun e => h1 ⟨z1, e⟩; omega, z3⟩
theorem spB1_n (hc : ¬ (zf_has (σ.1 3) (nI i) = 0 ∧ ¬ re < zf_away (σ.2 3 i) (σ.2 3 s))) : spB1 re sh s i σ = spB1 re sh s (i + 1) σ := by
  unfold spB1
  refine Prod.ext rfl ?_
  funext r t
  dsimp only
  by_cases h2 : r = 1 ∧ t < i ∧ zf_has (σ.1 3) (nI t) = 0 ∧ ¬ re < zf_away (σ.2 3 t) (σ.2 3 s)
  · rw [if_pos h2, if_pos ⟨h2.1, by omega, h2.2.2⟩]
  · rw [if_neg h2, if_neg]
    rintro ⟨z1, z2, z3⟩
    refine h2 ⟨z1, ?_, z3⟩
    have : t ≠ i := fun e => hc (e ▸ z3)
    omega
def spBurst (re sh : Int32) (n s : Nat) (σ : wS) : wS := spB1 re sh s n (upd (upd (upd σ.1 3 (σ.1 3 ||| ((1 : Int32) <<< (nI s &&& 31)))) 2 (σ.1 2 + 1)) 6 (σ.1 6 + σ.2 0 s), zu σ.2 4 (σ.1 0).toNatClampNeg (σ.2 4 (σ.1 0).toNatClampNeg + 1))
theorem qM_burst_b39_ev (B : mB h k c) (N : mN h re sh) (ok : wCok c) (hs : s < c.1) : zloop (qM_burst_b39 (nI s)) zfu (0, lS (wLm c.1) h σ) = some (lS (wLm c.1) h (spB1 re sh s c.1 σ)) := by
  have n7 := ok.1
  have L := wLm_ok c.1
  have st : ((0 : Int32), lS (wLm c.1) h σ) = (nI 0, lS (wLm c.1) h (spB1 re sh s 0 σ)) := by rw [spB1_0]; rfl
  rw [st]
  refine zloop_for (fun i => (nI i, lS (wLm c.1) h (spB1 re sh s i σ))) c.1 (fun i hi => ?_) ?_ (zfu_lt (by omega))
  · unfold qM_burst_b39
    dsimp only
    have B' := mB_l (n := c.1) (σ := spB1 re sh s i σ) B
    have N' := mN_l (n := c.1) (σ := spB1 re sh s i σ) N
    have g29 : gI (lS (wLm c.1) h (spB1 re sh s i σ)) 215 29 = σ.1 3 := lS_sc L (i := 3) (show 3 < 7 by decide) rfl
    have gp : ∀ t, t < c.1 → gI (lS (wLm c.1) h (spB1 re sh s i σ)) 229 t = σ.2 3 t := fun t ht => (lS_rw L (r := 3) (show 3 < 4 by decide) rfl ht).trans (spB1_3 t)
    have gf : gI (lS (wLm c.1) h (spB1 re sh s i σ)) 227 i = σ.2 1 i := (lS_rw L (r := 1) (show 1 < 4 by decide) rfl hi).trans (spB1_i 1)
    rw [B'.2.2.1, if_neg (nI_ge hi (by omega)), zix_nI (by omega) (by omega), Option.bind_some, zix_nI (by omega) (by omega)]
    simp only [zlet, Option.bind_some]
    rw [g29, gp i hi, gp s hs, gf, N'.1, N'.2]
    have wr : ∀ v, sI (lS (wLm c.1) h (spB1 re sh s i σ)) 227 i v = lS (wLm c.1) h ((spB1 re sh s i σ).1, zu (spB1 re sh s i σ).2 1 i v) := fun v => lS_wr L (r := 1) (show 1 < 4 by decide) rfl hi
    have same : zu (spB1 re sh s i σ).2 1 i (σ.2 1 i) = (spB1 re sh s i σ).2 := by
      funext r t
      unfold zu
      by_cases h1 : r = 1 ∧ t = i
      · obtain ⟨rfl, rfl⟩ := h1
        rw [if_pos ⟨rfl, rfl⟩, spB1_i]
      · rw [if_neg h1]
    by_cases h1 : zf_has (σ.1 3) (nI i) = 0
    · rw [if_neg (fun z => z h1)]
      by_cases h2 : re < zf_away (σ.2 3 i) (σ.2 3 s)
      · rw [if_pos h2, Option.bind_some, Int32.add_zero, wr, same, nI_1, ← spB1_n (fun z => z.2 h2)]
      · rw [if_neg h2, Option.bind_some, wr, nI_1, spB1_y ⟨h1, h2⟩]
    · rw [if_pos h1, Option.bind_some, Int32.add_zero, wr, same, nI_1, ← spB1_n (fun z => h1 z.1)]
  · unfold qM_burst_b39
    dsimp only
    rw [(mB_l (n := c.1) B).2.2.1, if_pos (nI_le (Nat.le_refl _) (by omega))]
theorem spB1_4 {f : Nat → Int32} {ρ : Nat → Nat → Int32} {y : Nat} {v : Int32} : spB1 re sh s i (f, zu ρ 4 y v) = ((spB1 re sh s i (f, ρ)).1, zu (spB1 re sh s i (f, ρ)).2 4 y v) := by
  unfold spB1
  refine Prod.ext rfl ?_
  funext r t
  dsimp only
  have e3 : ∀ t, zu ρ 4 y v 3 t = ρ 3 t := fun t => if_neg (fun z => absurd z.1 (by decide))
  have e1 : ∀ t, zu ρ 4 y v 1 t = ρ 1 t := fun t => if_neg (fun z => absurd z.1 (by decide))
  simp only [e3, e1]
  unfold zu
  by_cases h4 : r = 4 ∧ t = y
  · rw [if_pos h4, if_pos h4, if_neg (fun z => absurd (h4.1.symm.trans z.1) (by decide))]
  · rw [if_neg h4, if_neg h4]
theorem qM_burst_ev (B : mB h k c) (N : mN h re sh) (ok : wCok c) (hs : s < c.1) : qM_burst (nI s) (lS (wLm c.1) h σ) = some (lS (wLm c.1) h (spBurst re sh c.1 s σ)) := by
  have n7 := ok.1
  have L := wLm_ok c.1
  unfold qM_burst
  simp only [zlet]
  have g : ∀ (σ : wS) (i : Nat), i < 7 → gI (lS (wLm c.1) h σ) 215 (26 + i) = σ.1 i := fun σ i hi => lS_sc L hi rfl
  have w : ∀ (σ : wS) (i : Nat) (v : Int32), i < 7 → sI (lS (wLm c.1) h σ) 215 (26 + i) v = lS (wLm c.1) h (upd σ.1 i v, σ.2) := fun σ i v hi => lS_ws L hi rfl
  have gr : ∀ f, gI (lS (wLm c.1) h (f, σ.2)) 226 s = σ.2 0 s := fun f => lS_rw L (r := 0) (show 0 < 4 by decide) rfl hs
  let f1 : Nat → Int32 := upd σ.1 3 (σ.1 3 ||| ((1 : Int32) <<< (nI s &&& 31)))
  let f2 : Nat → Int32 := upd f1 2 (σ.1 2 + 1)
  have q2 : gI (lS (wLm c.1) h (f1, σ.2)) 215 (26 + 2) = σ.1 2 := (g (f1, σ.2) 2 (by omega)).trans rfl
  have q6 : gI (lS (wLm c.1) h (f2, σ.2)) 215 (26 + 6) = σ.1 6 := (g (f2, σ.2) 6 (by omega)).trans rfl
  rw [g σ 3 (by omega), w σ 3 _ (by omega), q2, w (f1, σ.2) 2 _ (by omega), zix_nI (by omega) (by omega), Option.bind_some, q6, gr f2, w (f2, σ.2) 6 _ (by omega), qM_burst_b39_ev B N ok hs, Option.bind_some]
  unfold spBurst
  rw [spB1_4, lS_wr0 (A := wLm c.1) (r := 4) (show ¬ 4 < 4 by decide)]
end SIM
