/-! the class's burst; the first that bursts; all that burst; a year -/
theorem zu_r {α : Type} {f : Nat → Nat → α} {a k b : Nat} {v : α} (j : Nat) (hb : b ≠ a) : zu f a k v b j = f b j := congrFun (zu_ne f k v hb) j
section SIM2
variable {h : zK} {o oc k n s i : Nat} {c : wC} {re sh : Int32} {σ : wS}
def wPl (n : Nat) (σ : wS) : Prop := ∀ t, t < n → ∃ p, p ≤ 20 ∧ σ.2 3 t = nI p
theorem qRu_burst_b52_ev (B : wBc h o oc c re sh) (ok : wCok c) (hs : s < c.1) (hp : wPl c.1 σ) : zloop (qRu_burst_b52 o (nI s)) zfu (0, lS (wLc c.1 o) h σ) = some (lS (wLc c.1 o) h (spB1 re sh s c.1 σ)) := by
  have n7 := ok.1
  have L := wLc_ok c.1 o
  have st : ((0 : Int32), lS (wLc c.1 o) h σ) = (nI 0, lS (wLc c.1 o) h (spB1 re sh s 0 σ)) := by rw [spB1_0]; rfl
  rw [st]
  refine zloop_for (fun i => (nI i, lS (wLc c.1 o) h (spB1 re sh s i σ))) c.1 (fun i hi => ?_) ?_ (zfu_lt (by omega))
  · unfold qRu_burst_b52
    dsimp only
    have B' := wBc_l (n := c.1) (σ := spB1 re sh s i σ) B
    have g3 : gI (lS (wLc c.1 o) h (spB1 re sh s i σ)) o 2 = σ.1 3 := lS_sc L (i := 3) (show 3 < 11 by decide) rfl
    have gp : ∀ t, t < c.1 → gI (lS (wLc c.1 o) h (spB1 re sh s i σ)) (o + 13) t = σ.2 3 t := fun t ht => (lS_rw L (r := 3) (show 3 < 5 by decide) rfl ht).trans (spB1_3 t)
    have gf : gI (lS (wLc c.1 o) h (spB1 re sh s i σ)) (o + 11) i = σ.2 1 i := (lS_rw L (r := 1) (show 1 < 5 by decide) rfl hi).trans (spB1_i 1)
    have wr : ∀ v, sI (lS (wLc c.1 o) h (spB1 re sh s i σ)) (o + 11) i v = lS (wLc c.1 o) h ((spB1 re sh s i σ).1, zu (spB1 re sh s i σ).2 1 i v) := fun v => lS_wr L (r := 1) (show 1 < 5 by decide) rfl hi
    obtain ⟨p1, hp1, ep1⟩ := hp i hi
    obtain ⟨p2, hp2, ep2⟩ := hp s hs
    have ea : zf_abs (σ.2 3 i - σ.2 3 s) = zf_away (σ.2 3 i) (σ.2 3 s) := by rw [ep1, ep2]; exact wabs (by omega) (by omega)
    simp only [zlet]
    rw [B'.2.2.1, if_pos B.2.1, cC_n B'.2.2.2.2.2, if_neg (nI_ge hi (by omega)), wcinh, g3, zix_nI (by omega) (by omega), zix_nI (by omega) (by omega), Option.bind_some, Option.bind_some, gp i hi, gp s hs, ea, gf, B'.2.2.2.1, B'.2.2.2.2.1, wr]
    by_cases h1 : zf_has (σ.1 3) (nI i) = 0
    · rw [if_neg (fun z => z h1)]
      by_cases h2 : re < zf_away (σ.2 3 i) (σ.2 3 s)
      · rw [if_pos h2, Option.bind_some, nI_1, ← spB1_n (fun z => z.2 h2)]
      · rw [if_neg h2, Option.bind_some, nI_1, spB1_y ⟨h1, h2⟩]
    · rw [if_pos h1, Option.bind_some, nI_1, ← spB1_n (fun z => h1 z.1)]
  · unfold qRu_burst_b52
    dsimp only
    have B' := wBc_l (n := c.1) (σ := spB1 re sh s c.1 σ) B
    simp only [zlet]
    rw [B'.2.2.1, if_pos B.2.1, cC_n B'.2.2.2.2.2, if_pos (nI_le (Nat.le_refl _) (by omega))]
theorem qRu_burst_ev (B : wBc h o oc c re sh) (ok : wCok c) (hs : s < c.1) (hp : wPl c.1 σ) {y : Nat} (hy : y ≤ 50) (ey : σ.1 0 = nI y) : qRu_burst o (nI s) (lS (wLc c.1 o) h σ) = some (lS (wLc c.1 o) h (spBurst re sh c.1 s σ)) := by
  have n7 := ok.1
  have L := wLc_ok c.1 o
  unfold qRu_burst
  simp only [zlet]
  let f1 : Nat → Int32 := upd σ.1 3 (σ.1 3 ||| ((1 : Int32) <<< (nI s &&& 31)))
  let f2 : Nat → Int32 := upd f1 2 (σ.1 2 + 1)
  let r1 : Nat → Nat → Int32 := zu σ.2 4 y (σ.2 4 y + 1)
  have a1 : gI (lS (wLc c.1 o) h σ) o 2 = σ.1 3 := lS_sc L (i := 3) (show 3 < 11 by decide) rfl
  have b1 : ∀ v, sI (lS (wLc c.1 o) h σ) o 2 v = lS (wLc c.1 o) h (upd σ.1 3 v, σ.2) := fun v => lS_ws L (i := 3) (show 3 < 11 by decide) rfl
  have a2 : gI (lS (wLc c.1 o) h (f1, σ.2)) o 1 = σ.1 2 := (lS_sc L (i := 2) (show 2 < 11 by decide) rfl).trans rfl
  have b2 : ∀ v, sI (lS (wLc c.1 o) h (f1, σ.2)) o 1 v = lS (wLc c.1 o) h (upd f1 2 v, σ.2) := fun v => lS_ws L (i := 2) (show 2 < 11 by decide) rfl
  have a0 : gI (lS (wLc c.1 o) h (f2, σ.2)) o 0 = nI y := ((lS_sc L (i := 0) (show 0 < 11 by decide) rfl).trans rfl).trans ey
  have a4 : gI (lS (wLc c.1 o) h (f2, σ.2)) (o + 1) y = σ.2 4 y := lS_rw L (r := 4) (show 4 < 5 by decide) rfl (show y < 51 by omega)
  have b4 : ∀ v, sI (lS (wLc c.1 o) h (f2, σ.2)) (o + 1) y v = lS (wLc c.1 o) h (f2, zu σ.2 4 y v) := fun v => lS_wr L (r := 4) (show 4 < 5 by decide) rfl (show y < 51 by omega)
  have a6 : gI (lS (wLc c.1 o) h (f2, r1)) o 7 = σ.1 6 := (lS_sc L (i := 6) (show 6 < 11 by decide) rfl).trans rfl
  have aw : gI (lS (wLc c.1 o) h (f2, r1)) (o + 10) s = σ.2 0 s := (lS_rw L (r := 0) (show 0 < 5 by decide) rfl hs).trans (zu_r (f := σ.2) (a := 4) (k := y) (v := σ.2 4 y + 1) (b := 0) s (by decide))
  have b6 : ∀ v, sI (lS (wLc c.1 o) h (f2, r1)) o 7 v = lS (wLc c.1 o) h (upd f2 6 v, r1) := fun v => lS_ws L (i := 6) (show 6 < 11 by decide) rfl
  rw [a1, b1, a2, b2, a0, zix_nI (by omega) (by omega), Option.bind_some, a4, b4, zix_nI (by omega) (by omega), Option.bind_some, a6, aw, b6, qRu_burst_b52_ev B ok hs, Option.bind_some]
  · unfold spBurst
    rw [ey, nI_clamp (by omega)]
  · intro t ht
    obtain ⟨p, q1, q2⟩ := hp t ht
    exact ⟨p, q1, (show r1 3 t = σ.2 3 t from zu_r (f := σ.2) (a := 4) (k := y) (v := σ.2 4 y + 1) (b := 3) t (by decide)).trans q2⟩
/-! the first that bursts -/
def spFp (σ : wS) (t : Nat) : Bool := decide (zf_has (σ.1 3) (nI t) = 0) && !decide (σ.2 1 t ≤ σ.2 2 t)
def spF (n : Nat) (σ : wS) : Nat := fa_first (spFp σ) n
def spFo (n : Nat) (σ : wS) : Option Nat := if spF n σ < n then some (spF n σ) else none
theorem qM_firstToBurst_ev (B : mB h k c) (ok : wCok c) : qM_firstToBurst (lS (wLm c.1) h σ) = some (wO (spFo c.1 σ)) := by
  have n7 := ok.1
  have L := wLm_ok c.1
  have l2 : spF c.1 σ ≤ c.1 := fa_first_le _ _
  have B' := mB_l (n := c.1) (σ := σ) B
  have g29 : gI (lS (wLm c.1) h σ) 215 29 = σ.1 3 := lS_sc L (i := 3) (show 3 < 7 by decide) rfl
  have gf : ∀ t, t < c.1 → gI (lS (wLm c.1) h σ) 227 t = σ.2 1 t := fun t ht => lS_rw L (r := 1) (show 1 < 4 by decide) rfl ht
  have gc : ∀ t, t < c.1 → gI (lS (wLm c.1) h σ) 228 t = σ.2 2 t := fun t ht => lS_rw L (r := 2) (show 2 < 4 by decide) rfl ht
  have e : zloop (qM_firstToBurst_b2 (lS (wLm c.1) h σ)) zfu 0 = some (if spF c.1 σ < c.1 then Sum.inr (nI (spF c.1 σ)) else Sum.inl ()) := by
    refine zloop_for (fun i => nI i) (spF c.1 σ) (fun i hi => ?_) ?_ (zfu_lt (by omega))
    · unfold qM_firstToBurst_b2
      have q := fa_first_no (spFp σ) c.1 i hi
      rw [B'.2.2.1, if_neg (nI_ge (by omega) (by omega)), g29, zix_nI (by omega) (by omega), Option.bind_some, gf i (by omega), gc i (by omega), nI_1]
      by_cases h1 : zf_has (σ.1 3) (nI i) = 0
      · rw [if_neg (fun z => z h1), if_pos]
        simp [spFp, h1] at q
        exact q
      · rw [if_pos h1]
    · unfold qM_firstToBurst_b2
      by_cases hl : spF c.1 σ < c.1
      · have q : spFp σ (spF c.1 σ) = true := fa_first_yes (spFp σ) c.1 hl
        simp only [spFp, Bool.and_eq_true, decide_eq_true_eq, Bool.not_eq_true', decide_eq_false_iff_not] at q
        rw [B'.2.2.1, if_neg (nI_ge hl (by omega)), g29, if_neg (fun z => z q.1), zix_nI (by omega) (by omega), Option.bind_some, gf _ hl, gc _ hl, if_neg q.2, if_pos hl]
      · rw [B'.2.2.1, if_pos (nI_le (by omega) (by omega)), if_neg hl]
  unfold qM_firstToBurst spFo
  rw [e]
  split <;> rfl
theorem qRu_firstToBurst_ev (B : wBc h o oc c re sh) (ok : wCok c) : qRu_firstToBurst o (lS (wLc c.1 o) h σ) = some (wO (spFo c.1 σ)) := by
  have n7 := ok.1
  have L := wLc_ok c.1 o
  have l2 : spF c.1 σ ≤ c.1 := fa_first_le _ _
  have B' := wBc_l (n := c.1) (σ := σ) B
  have g29 : gI (lS (wLc c.1 o) h σ) o 2 = σ.1 3 := lS_sc L (i := 3) (show 3 < 11 by decide) rfl
  have gf : ∀ t, t < c.1 → gI (lS (wLc c.1 o) h σ) (o + 11) t = σ.2 1 t := fun t ht => lS_rw L (r := 1) (show 1 < 5 by decide) rfl ht
  have gc : ∀ t, t < c.1 → gI (lS (wLc c.1 o) h σ) (o + 12) t = σ.2 2 t := fun t ht => lS_rw L (r := 2) (show 2 < 5 by decide) rfl ht
  have e : zloop (qRu_firstToBurst_b2 o (lS (wLc c.1 o) h σ)) zfu 0 = some (if spF c.1 σ < c.1 then Sum.inr (nI (spF c.1 σ)) else Sum.inl ()) := by
    refine zloop_for (fun i => nI i) (spF c.1 σ) (fun i hi => ?_) ?_ (zfu_lt (by omega))
    · unfold qRu_firstToBurst_b2
      simp only [zlet]
      have q := fa_first_no (spFp σ) c.1 i hi
      rw [B'.2.2.1, if_pos B.2.1, cC_n B'.2.2.2.2.2, if_neg (nI_ge (by omega) (by omega)), wcinh, g29, zix_nI (by omega) (by omega), Option.bind_some, gf i (by omega), gc i (by omega), nI_1]
      by_cases h1 : σ.2 1 i ≤ σ.2 2 i
      · rw [if_pos h1]
      · rw [if_neg h1, if_pos]
        intro z
        simp [spFp, h1, z] at q
    · unfold qRu_firstToBurst_b2
      simp only [zlet]
      by_cases hl : spF c.1 σ < c.1
      · have q : spFp σ (spF c.1 σ) = true := fa_first_yes (spFp σ) c.1 hl
        simp only [spFp, Bool.and_eq_true, decide_eq_true_eq, Bool.not_eq_true', decide_eq_false_iff_not] at q
        rw [B'.2.2.1, if_pos B.2.1, cC_n B'.2.2.2.2.2, if_neg (nI_ge hl (by omega)), wcinh, g29, zix_nI (by omega) (by omega), Option.bind_some, gf _ hl, gc _ hl, if_neg q.2, if_neg (fun z => z q.1), if_pos hl]
      · rw [B'.2.2.1, if_pos B.2.1, cC_n B'.2.2.2.2.2, if_pos (nI_le (by omega) (by omega)), if_neg hl]
  unfold qRu_firstToBurst spFo
  rw [e]
  split <;> rfl
/-! all that burst -/
def spNx (re sh : Int32) (n : Nat) (σ : wS) : wS := match spFo n σ with
  | none => σ
  | some s => spBurst re sh n s σ
def spIt (re sh : Int32) (n : Nat) : Nat → wS → wS
  | 0, σ => σ
  | i + 1, σ => spIt re sh n i (spNx re sh n σ)
theorem spIt_s : ∀ i (σ : wS), spIt re sh n (i + 1) σ = spNx re sh n (spIt re sh n i σ)
  | 0, _ => rfl
  | i + 1, σ => spIt_s i (spNx re sh n σ)
theorem spIt_add : ∀ i j (σ : wS), spIt re sh n (i + j) σ = spIt re sh n j (spIt re sh n i σ)
  | 0, j, σ => by rw [Nat.zero_add]; rfl
  | i + 1, j, σ => by
    rw [show i + 1 + j = (i + j) + 1 by omega]
    exact spIt_add i j (spNx re sh n σ)
theorem spIt_st (hf : spFo n σ = none) : ∀ j, spIt re sh n j σ = σ
  | 0 => rfl
  | j + 1 => by
    have e : spNx re sh n σ = σ := by unfold spNx; rw [hf]
    show spIt re sh n j (spNx re sh n σ) = σ
    rw [e]
    exact spIt_st hf j
/-- what a run's state keeps -/
def wOk (n : Nat) (σ : wS) : Prop := (∃ g, g < 128 ∧ σ.1 3 = nI g) ∧ wPl n σ ∧ ∃ y, y ≤ 50 ∧ σ.1 0 = nI y
theorem spFo_s {s : Nat} (hf : spFo n σ = some s) : s < n ∧ zf_has (σ.1 3) (nI s) = 0 ∧ ¬ σ.2 1 s ≤ σ.2 2 s := by
  unfold spFo at hf
  split at hf
  · rename_i hl
    cases hf
    have q : spFp σ (spF n σ) = true := fa_first_yes (spFp σ) n hl
    simp only [spFp, Bool.and_eq_true, decide_eq_true_eq, Bool.not_eq_true', decide_eq_false_iff_not] at q
    exact ⟨hl, q.1, q.2⟩
  · cases hf
theorem spBurst_g {g : Nat} (hs : s < 7) (hg : σ.1 3 = nI g) : (spBurst re sh n s σ).1 3 = nI (g ||| 2 ^ s) := by
  show upd (upd (upd σ.1 3 (σ.1 3 ||| ((1 : Int32) <<< (nI s &&& 31)))) 2 (σ.1 2 + 1)) 6 (σ.1 6 + σ.2 0 s) 3 = _
  show σ.1 3 ||| ((1 : Int32) <<< (nI s &&& 31)) = _
  rw [hg, wshl s (by omega), fa_or]
theorem spBurst_3 (t : Nat) : (spBurst re sh n s σ).2 3 t = σ.2 3 t := by
  unfold spBurst
  rw [spB1_3]
  exact zu_r (f := σ.2) (a := 4) (k := (σ.1 0).toNatClampNeg) (v := σ.2 4 (σ.1 0).toNatClampNeg + 1) (b := 3) t (by decide)
theorem spBurst_ok (hs : s < 7) (H : wOk n σ) : wOk n (spBurst re sh n s σ) := by
  obtain ⟨⟨g, g1, g2⟩, hp, y, y1, y2⟩ := H
  refine ⟨⟨g ||| 2 ^ s, wor_lt g1 (wpow7 s hs), spBurst_g hs g2⟩, fun t ht => ?_, y, y1, y2⟩
  rw [spBurst_3]
  exact hp t ht
theorem spNx_ok (hn : n ≤ 7) (H : wOk n σ) : wOk n (spNx re sh n σ) := by
  unfold spNx
  split
  · exact H
  · rename_i s hs
    exact spBurst_ok (by have := (spFo_s hs).1; omega) H
theorem spIt_ok (hn : n ≤ 7) : ∀ i {σ : wS}, wOk n σ → wOk n (spIt re sh n i σ)
  | 0, _, H => H
  | i + 1, _, H => spIt_ok hn i (spNx_ok hn H)
def wG (n g : Nat) : Nat := wSum (fun t => if g.testBit t then 0 else 1) n
theorem wG_le (n g : Nat) : wG n g ≤ n := by
  have := wSum_le (f := fun t => if g.testBit t then 0 else 1) (b := 1) n (fun s _ => by split <;> omega)
  unfold wG
  omega
theorem wG_dec {g s : Nat} (hg : g.testBit s = false) : ∀ n, s < n → wG n (g ||| 2 ^ s) + 1 = wG n g
  | 0, h => absurd h (Nat.not_lt_zero _)
  | n + 1, h => by
    show wG n (g ||| 2 ^ s) + (if (g ||| 2 ^ s).testBit n then 0 else 1) + 1 = wG n g + (if g.testBit n then 0 else 1)
    have tb : (g ||| 2 ^ s).testBit n = (g.testBit n || decide (s = n)) := by rw [Nat.testBit_or, Nat.testBit_two_pow]
    rw [tb]
    by_cases e : s = n
    · subst e
      have same : ∀ m, m ≤ s → wG m (g ||| 2 ^ s) = wG m g := fun m hm => wSum_cong fun t ht => by
        have : (g ||| 2 ^ s).testBit t = g.testBit t := by
          rw [Nat.testBit_or, Nat.testBit_two_pow, decide_eq_false (by omega : ¬ s = t), Bool.or_false]
        rw [this]
      rw [same s (Nat.le_refl _), hg]
      simp
    · have ih := wG_dec hg n (by omega)
      have : (g.testBit n || decide (s = n)) = g.testBit n := by rw [decide_eq_false e, Bool.or_false]
      rw [this]
      omega
theorem spIt_end (hn : n ≤ 7) : ∀ q {σ : wS} {g : Nat}, wOk n σ → σ.1 3 = nI g → g < 128 → wG n g ≤ q → ∃ m, m ≤ q ∧ spFo n (spIt re sh n m σ) = none ∧ ∀ i, i < m → ∃ s, spFo n (spIt re sh n i σ) = some s := by
  intro q
  induction q with
  | zero =>
    intro σ g H hg h1 h2
    refine ⟨0, Nat.le_refl _, ?_, fun i hi => absurd hi (Nat.not_lt_zero _)⟩
    show spFo n σ = none
    cases e : spFo n σ with
    | none => rfl
    | some s =>
      obtain ⟨s1, s2, -⟩ := spFo_s e
      rw [hg, whas g h1 s (by omega)] at s2
      have ht : g.testBit s = false := by
        cases hb : g.testBit s with
        | false => rfl
        | true => rw [hb] at s2; exact absurd s2 (by decide)
      have := wG_dec ht n s1
      omega
  | succ q ih =>
    intro σ g H hg h1 h2
    cases e : spFo n σ with
    | none => exact ⟨0, by omega, e, fun i hi => absurd hi (Nat.not_lt_zero _)⟩
    | some s =>
      obtain ⟨s1, s2, -⟩ := spFo_s e
      rw [hg, whas g h1 s (by omega)] at s2
      have ht : g.testBit s = false := by
        cases hb : g.testBit s with
        | false => rfl
        | true => rw [hb] at s2; exact absurd s2 (by decide)
      have hd := wG_dec ht n s1
      have en : spNx re sh n σ = spBurst re sh n s σ := by unfold spNx; rw [e]
      obtain ⟨m, m1, m2, m3⟩ := ih (σ := spNx re sh n σ) (g := g ||| 2 ^ s) (spNx_ok hn H) (by rw [en]; exact spBurst_g (by omega) hg) (wor_lt h1 (wpow7 s (by omega))) (by omega)
      refine ⟨m + 1, by omega, m2, fun i hi => ?_⟩
      cases i with
      | zero => exact ⟨s, e⟩
      | succ i => exact m3 i (by omega)
theorem spIt_7 (hn : n ≤ 7) (H : wOk n σ) : ∃ m, m ≤ 7 ∧ spIt re sh n m σ = spIt re sh n 7 σ ∧ spFo n (spIt re sh n m σ) = none ∧ ∀ i, i < m → ∃ s, spFo n (spIt re sh n i σ) = some s := by
  obtain ⟨g, g1, g2⟩ := H.1
  obtain ⟨m, m1, m2, m3⟩ := spIt_end (re := re) (sh := sh) hn 7 H g2 g1 (by have := wG_le n g; omega)
  refine ⟨m, m1, ?_, m2, m3⟩
  have e := spIt_add (re := re) (sh := sh) (n := n) m (7 - m) σ
  rw [show m + (7 - m) = 7 by omega] at e
  rw [e, spIt_st m2]
theorem qM_burstAll_ev (B : mB h k c) (N : mN h re sh) (ok : wCok c) (H : wOk c.1 σ) : qM_burstAll (lS (wLm c.1) h σ) = some (lS (wLm c.1) h (spIt re sh c.1 7 σ)) := by
  have n7 := ok.1
  obtain ⟨m, m1, m2, m3, m4⟩ := spIt_7 (re := re) (sh := sh) n7 H
  have e : zloop qM_burstAll_b5 zfu (wO (spFo c.1 σ), lS (wLm c.1) h σ) = some (lS (wLm c.1) h (spIt re sh c.1 7 σ)) := by
    refine zloop_for (fun i => (wO (spFo c.1 (spIt re sh c.1 i σ)), lS (wLm c.1) h (spIt re sh c.1 i σ))) m (fun i hi => ?_) ?_ (zfu_lt (by omega))
    · obtain ⟨s, hs⟩ := m4 i hi
      have s1 := (spFo_s hs).1
      unfold qM_burstAll_b5
      dsimp only
      rw [hs, if_neg (show ¬ wO (some s) = -1 from nI_nm1 (by omega)), show wO (some s) = nI s from rfl, qM_burst_ev B N ok s1, Option.bind_some, qM_firstToBurst_ev B ok, Option.bind_some, spIt_s]
      have en : spNx re sh c.1 (spIt re sh c.1 i σ) = spBurst re sh c.1 s (spIt re sh c.1 i σ) := by
        unfold spNx; rw [hs]
      rw [en]
    · unfold qM_burstAll_b5
      dsimp only
      rw [m3, if_pos (show wO none = -1 from rfl), m2]
  unfold qM_burstAll
  rw [qM_firstToBurst_ev B ok, Option.bind_some, e]
  rfl
end SIM2
