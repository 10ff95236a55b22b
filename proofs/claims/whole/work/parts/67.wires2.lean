/-! WIRES: the reference tries all sets -/
theorem lS_cong {A : wA} {h : zK} {σ τ : wS} (h1 : ∀ i, i < A.1 → σ.1 i = τ.1 i) (h2 : ∀ r, r < A.2.1 → ∀ t, t < A.2.2.2.2 r → σ.2 r t = τ.2 r t) : lS A h σ = lS A h τ := by
  unfold lS
  refine Prod.ext rfl (Prod.ext ?_ rfl)
  funext b j
  dsimp only
  by_cases hh : wia A b j < A.1
  · rw [if_pos hh, if_pos hh, h1 _ hh]
  · rw [if_neg hh, if_neg hh]
    by_cases hr : wra A b < A.2.1 ∧ j < A.2.2.2.2 (wra A b)
    · rw [if_pos hr, if_pos hr, h2 _ hr.1 _ hr.2]
    · rw [if_neg hr, if_neg hr]
section WIRES2
variable {h : zK} {o k : Nat} {c : wC} {re sh : Int32}
def wWi (c : wC) (b i : Nat) : wS := ((wS0 c).1, fun r t => if r = 2 ∧ t < i then nI (wCk c b t) else (wS0 c).2 r t)
theorem qM_wires_b80_ev (B : mB h k c) (ok : wCok c) {b : Nat} (hb : b < 128) (x2 x3 x4 : Int32) : zloop (qM_wires_b80 x2 x3 x4 (nI b)) zfu (0, lS (wLm c.1) h (wS0 c)) = some (lS (wLm c.1) h (wWs c b)) := by
  have n7 := ok.1
  have L := wLm_ok c.1
  have st : ((0 : Int32), lS (wLm c.1) h (wS0 c)) = (nI 0, lS (wLm c.1) h (wWi c b 0)) := by
    rw [lS_cong (σ := wS0 c) (τ := wWi c b 0) (fun i hi => rfl) (fun r hr t ht => ?_)]
    · rfl
    · unfold wWi
      dsimp only
      rw [if_neg (by omega)]
  have fn : lS (wLm c.1) h (wWs c b) = lS (wLm c.1) h (wWi c b c.1) := lS_cong (fun i hi => rfl) (fun r hr t ht => by
    have ht' : t < c.1 := ht
    unfold wWi wWs
    dsimp only
    by_cases e : r = 2
    · rw [if_pos e, if_pos ⟨e, ht'⟩]
    · rw [if_neg e, if_neg (fun z => e z.1)])
  rw [st, fn]
  refine zloop_for (fun i => (nI i, lS (wLm c.1) h (wWi c b i))) c.1 (fun i hi => ?_) ?_ (zfu_lt (by omega))
  · unfold qM_wires_b80
    dsimp only
    have B' := mB_l (n := c.1) (σ := wWi c b i) B
    have gc : gI (lS (wLm c.1) h (wWi c b i)) 228 i = nI (c.2.2.2 4 i) := by
      rw [lS_rw (A := wLm c.1) (σ := wWi c b i) L (r := 2) (a := 228) (show 2 < 4 by decide) rfl hi]
      unfold wWi
      dsimp only
      rw [if_neg (by omega)]
      rfl
    have wr : ∀ v, sI (lS (wLm c.1) h (wWi c b i)) 228 i v = lS (wLm c.1) h ((wWi c b i).1, zu (wWi c b i).2 2 i v) := fun v => lS_wr (A := wLm c.1) (σ := wWi c b i) L (r := 2) (show 2 < 4 by decide) rfl hi
    rw [B'.2.2.1, if_neg (nI_ge hi (by omega)), zix_nI (by omega) (by omega), Option.bind_some, whas b hb i (by omega)]
    simp only [zlet]
    rw [gc, wr, nI_1]
    have ev : nI (c.2.2.2 4 i) + (if (if b.testBit i = true then (1 : Int32) else 0) = 0 then 0 else 5) = nI (wCk c b i) := by
      unfold wCk
      by_cases ht : b.testBit i = true
      · rw [if_pos ht, if_neg (show ¬ (1 : Int32) = 0 by decide), if_pos ht, ← nI_add]
        rfl
      · rw [if_neg ht, if_pos rfl, if_neg ht, Int32.add_zero]
        rfl
    rw [ev]
    have es : ((wWi c b i).1, zu (wWi c b i).2 2 i (nI (wCk c b i))) = wWi c b (i + 1) := by
      unfold wWi
      refine Prod.ext rfl ?_
      funext r t
      dsimp only
      unfold zu
      by_cases h1 : r = 2 ∧ t = i
      · obtain ⟨rfl, rfl⟩ := h1
        rw [if_pos ⟨rfl, rfl⟩, if_pos ⟨rfl, by omega⟩]
      · rw [if_neg h1]
        dsimp only
        by_cases h2 : r = 2 ∧ t < i
        · rw [if_pos h2, if_pos ⟨h2.1, by omega⟩]
        · rw [if_neg h2, if_neg (fun z => h2 ⟨z.1, by have : t ≠ i := fun e => h1 ⟨z.1, e⟩; omega⟩)]
    rw [es]
  · unfold qM_wires_b80
    dsimp only
    rw [(mB_l (n := c.1) B).2.2.1, if_pos (nI_le (Nat.le_refl _) (by omega))]
theorem qM_wires_b123_ev (B : mB h k c) (N : mN h re sh) (ok : wCok c) {b m : Nat} (hm : m ≤ 20) (x3 x4 x5 : Int32) : zloop (qM_wires_b123 (nI m) x3 x4 x5) zfu (0, lS (wLm c.1) h (wWs c b)) = some (lS (wLm c.1) h (wWy re sh c b m)) := by
  refine zloop_for (fun i => (nI i, lS (wLm c.1) h (wWy re sh c b i))) m (fun i hi => ?_) ?_ (zfu_lt (by omega))
  · obtain ⟨a, e⟩ := wWy_ok (re := re) (sh := sh) ok b i (by omega)
    unfold qM_wires_b123
    dsimp only
    rw [if_neg (nI_ge hi (by omega)), qM_goesOn_ev B N ok a (by omega) e, Option.bind_some, nI_1, wWy_s]
  · unfold qM_wires_b123
    dsimp only
    rw [if_pos (nI_le (Nat.le_refl _) (by omega))]
def wWz (re sh : Int32) (c : wC) (m b : Nat) : Bool := decide ((wWy re sh c b m).1 2 = 0)
def wFew (i : Nat) : Option Nat → Bool
  | none => true
  | some j => decide (wones i < wones j)
def wWaS (re sh : Int32) (c : wC) (m i : Nat) (a : Option Nat) : Option Nat := if wFew i a then (if wWz re sh c m i then some i else a) else a
def wWa (re sh : Int32) (c : wC) (m i : Nat) : Option Nat := wfold (wWaS re sh c m) none i
theorem wWa_s (m i : Nat) : wWa re sh c m (i + 1) = wWaS re sh c m i (wWa re sh c m i) := wfold_s _ _ _
theorem wWa_lt {m : Nat} : ∀ {i j : Nat}, wWa re sh c m i = some j → j < i ∧ wWz re sh c m j = true
  | 0, j, h => by cases h
  | i + 1, j, h => by
    rw [wWa_s] at h
    unfold wWaS at h
    split at h
    · split at h
      · cases h
        exact ⟨by omega, by assumption⟩
      · have := wWa_lt h
        exact ⟨by omega, this.2⟩
    · have := wWa_lt h
      exact ⟨by omega, this.2⟩
theorem mN_told {h' : zK} (N : mN h re sh) (e : ∀ j, 22 ≤ j → j < 26 → gI h' 215 j = gI h 215 j) : mN h' re sh := ⟨(e 24 (by omega) (by omega)).trans N.1, (e 25 (by omega) (by omega)).trans N.2⟩
theorem qM_wires_b31_ev (B : mB h k c) (N : mN h re sh) (ok : wCok c) {m : Nat} (hm : m ≤ 20) (x3 : Int32) : ∃ g, zloop (qM_wires_b31 (nI m) x3) zfu (-1, 0, h) = some (wO (wWa re sh c m (2 ^ c.1)), g) := by
  have n7 := ok.1
  have p7 := w2n n7
  have key : ∃ t : Int32 × zK, zloop (qM_wires_b31 (nI m) x3) zfu (-1, 0, h) = some t ∧ t.1 = wO (wWa re sh c m (2 ^ c.1)) := by
    refine zloop_me (Q := fun q s => ∃ i g, s = (wO (wWa re sh c m i), nI i, g) ∧ q + i = 2 ^ c.1 ∧ mB g k c ∧ mN g re sh) ?_ zfu (2 ^ c.1) _ ⟨0, h, rfl, by omega, B, N⟩ (zfu_lt (by omega))
    rintro q s ⟨i, g, rfl, hq, Bg, Ng⟩
    unfold qM_wires_b31
    dsimp only
    rw [Bg.2.2.1, wshl c.1 (by omega)]
    by_cases hi : i < 2 ^ c.1
    · right
      rw [if_neg (nI_ge hi (by omega))]
      obtain ⟨p13, a1, a2, a3, a4, -⟩ := qM_asTold_ev Bg n7
      have N13 : mN p13 re sh := mN_told Ng a4
      have e80 := qM_wires_b80_ev a2 ok (b := i) (by omega) (nI m) x3 (wO (wWa re sh c m i))
      rw [mB3_l a3] at e80
      have e123 := qM_wires_b123_ev a2 N13 ok (b := i) hm x3 (wO (wWa re sh c m i)) (nI i)
      have g28 : gI (lS (wLm c.1) p13 (wWy re sh c i m)) 215 28 = (wWy re sh c i m).1 2 := lS_sc (A := wLm c.1) (σ := wWy re sh c i m) (wLm_ok c.1) (i := 2) (show 2 < 7 by decide) rfl
      have few : Option.bind (if wO (wWa re sh c m i) = -1 then some 1 else (qM_ones (nI i)).bind fun p8 => (qM_ones (wO (wWa re sh c m i))).bind fun p9 => if p9 ≤ p8 then some 0 else some 1) (fun v : Int32 => some v) = some (if wFew i (wWa re sh c m i) then (1 : Int32) else 0) := by
        cases eq : wWa re sh c m i with
        | none =>
          rw [if_pos (show wO none = -1 from rfl)]
          rfl
        | some j =>
          have hj := (wWa_lt eq).1
          have o1 := wones_le i
          have o2 := wones_le j
          rw [if_neg (show ¬ wO (some j) = -1 from nI_nm1 (by omega)), show wO (some j) = nI j from rfl, qM_ones_ev (by omega), Option.bind_some, qM_ones_ev (by omega), Option.bind_some]
          unfold wFew
          by_cases hw : wones i < wones j
          · rw [if_neg (nI_ge hw (by omega)), if_pos (decide_eq_true hw)]
            rfl
          · rw [if_pos (nI_le (by omega) (by omega)), if_neg (fun z => hw (of_decide_eq_true z))]
            rfl
      obtain ⟨v7, b1, b2⟩ := zbs few
      rw [b1, Option.bind_some]
      cases b2
      by_cases hf : wFew i (wWa re sh c m i) = true
      · rw [if_pos hf, if_neg (show ¬ (1 : Int32) = 0 by decide), a1, Option.bind_some, e80, Option.bind_some, e123, Option.bind_some]
        simp only [zlet]
        rw [g28, Option.bind_some]
        dsimp only
        refine ⟨q - 1, _, rfl, by omega, i + 1, lS (wLm c.1) p13 (wWy re sh c i m), ?_, by omega, mB_l a2, mN_l N13⟩
        rw [wWa_s, nI_1]
        unfold wWaS wWz
        rw [if_pos hf]
        by_cases hz : (wWy re sh c i m).1 2 = 0
        · rw [if_neg (show ¬ ¬ (wWy re sh c i m).1 2 = 0 from fun z => z hz), if_pos (decide_eq_true hz)]
          rfl
        · rw [if_pos hz, if_neg (fun z => hz (of_decide_eq_true z))]
      · rw [if_neg hf, if_pos rfl, Option.bind_some]
        dsimp only
        refine ⟨q - 1, _, rfl, by omega, i + 1, g, ?_, by omega, Bg, Ng⟩
        rw [wWa_s, nI_1]
        unfold wWaS
        rw [if_neg hf]
    · left
      have : i = 2 ^ c.1 := by omega
      subst this
      rw [if_pos (nI_le (Nat.le_refl _) (by omega))]
      exact ⟨_, rfl, rfl⟩
  obtain ⟨⟨t1, t2⟩, e1, e2⟩ := key
  exact ⟨t2, by rw [e1]; exact congrArg some (Prod.ext e2 rfl)⟩
end WIRES2
