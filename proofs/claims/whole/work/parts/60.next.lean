/-! years that go by, nothing being done: NEXT, CALM -/
theorem warc (a b c : Int32) : a + b + c = a + c + b := by rw [Int32.add_assoc, Int32.add_comm b, Int32.add_assoc]
section NEXT
variable {h : zK} {o oc k n s i : Nat} {c : wC} {re sh : Int32} {σ : wS}
theorem spB1_r4 (t : Nat) : (spB1 re sh s i σ).2 4 t = σ.2 4 t := by
  unfold spB1
  dsimp only
  rw [if_neg (fun z => absurd z.1 (by decide))]
theorem spBurst_b {y : Nat} (hy : y ≤ 50) (ey : σ.1 0 = nI y) : (spBurst re sh n s σ).1 0 = σ.1 0 ∧ (spBurst re sh n s σ).1 2 = σ.1 2 + 1 ∧ (spBurst re sh n s σ).2 4 y = σ.2 4 y + 1 ∧ ∀ t, t ≠ y → (spBurst re sh n s σ).2 4 t = σ.2 4 t := by
  refine ⟨rfl, rfl, ?_, fun t ht => ?_⟩
  · unfold spBurst
    rw [spB1_r4, ey, nI_clamp (by omega)]
    exact if_pos ⟨rfl, rfl⟩
  · unfold spBurst
    rw [spB1_r4, ey, nI_clamp (by omega)]
    exact if_neg (fun z => ht z.2)
theorem spNx_b {y : Nat} (hy : y ≤ 50) (ey : σ.1 0 = nI y) : (spNx re sh n σ).1 0 = nI y ∧ (spNx re sh n σ).2 4 y + σ.1 2 = σ.2 4 y + (spNx re sh n σ).1 2 ∧ ∀ t, t ≠ y → (spNx re sh n σ).2 4 t = σ.2 4 t := by
  unfold spNx
  split
  · exact ⟨ey, rfl, fun _ _ => rfl⟩
  · rename_i s hs
    obtain ⟨a, b, d, f⟩ := spBurst_b (re := re) (sh := sh) (n := n) (s := s) hy ey
    refine ⟨a.trans ey, ?_, f⟩
    rw [b, d, Int32.add_assoc, Int32.add_comm 1]
theorem spIt_b {y : Nat} (hy : y ≤ 50) : ∀ j {σ : wS}, σ.1 0 = nI y → (spIt re sh n j σ).1 0 = nI y ∧ (spIt re sh n j σ).2 4 y + σ.1 2 = σ.2 4 y + (spIt re sh n j σ).1 2 ∧ ∀ t, t ≠ y → (spIt re sh n j σ).2 4 t = σ.2 4 t
  | 0, σ, ey => ⟨ey, rfl, fun _ _ => rfl⟩
  | j + 1, σ, ey => by
    obtain ⟨a, b, d⟩ := spNx_b (re := re) (sh := sh) (n := n) hy ey
    obtain ⟨a', b', d'⟩ := spIt_b hy j (σ := spNx re sh n σ) a
    refine ⟨a', ?_, fun t ht => (d' t ht).trans (d t ht)⟩
    show (spIt re sh n j (spNx re sh n σ)).2 4 y + σ.1 2 = σ.2 4 y + (spIt re sh n j (spNx re sh n σ)).1 2
    generalize (spIt re sh n j (spNx re sh n σ)).2 4 y = A at *
    generalize (spIt re sh n j (spNx re sh n σ)).1 2 = B at *
    generalize (spNx re sh n σ).2 4 y = C at *
    generalize (spNx re sh n σ).1 2 = D at *
    have e1 : A + D + σ.1 2 = C + B + σ.1 2 := by rw [b']
    have e2 : C + B + σ.1 2 = σ.2 4 y + D + B := by rw [warc, b]
    have e3 : A + σ.1 2 + D = σ.2 4 y + B + D := by
      rw [warc, e1, e2, warc]
    exact (Int32.add_left_inj D).mp e3
theorem spY1_4 {fa ri : Nat → Int32} (t : Nat) : (spY1 fa ri i σ).2 4 t = σ.2 4 t := by
  unfold spY1
  dsimp only
  split <;> rfl
theorem spYear_b {y : Nat} (hy : y < 50) (ey : σ.1 0 = nI y) : (spYear re sh c σ).1 0 = nI (y + 1) ∧ (spYear re sh c σ).2 4 (y + 1) + σ.1 2 = σ.2 4 (y + 1) + (spYear re sh c σ).1 2 ∧ ∀ t, t ≠ y + 1 → (spYear re sh c σ).2 4 t = σ.2 4 t := by
  have e0 : (upd σ.1 0 (σ.1 0 + 1), (spY1 (wfa c) (wri c) c.1 σ).2).1 0 = nI (y + 1) := by
    show σ.1 0 + 1 = nI (y + 1)
    rw [ey, nI_1]
  obtain ⟨a, b, d⟩ := spIt_b (re := re) (sh := sh) (n := c.1) (y := y + 1) (by omega) 7 e0
  refine ⟨a, ?_, fun t ht => (d t ht).trans (spY1_4 t)⟩
  have b2 := b
  rw [show (upd σ.1 0 (σ.1 0 + 1), (spY1 (wfa c) (wri c) c.1 σ).2).2 4 (y + 1) = σ.2 4 (y + 1) from spY1_4 _] at b2
  exact b2
def wYr (re sh : Int32) (c : wC) (i : Nat) : wS := wfold (fun _ τ => spYear re sh c τ) (wS0 c) i
theorem wYr_s (i : Nat) : wYr re sh c (i + 1) = spYear re sh c (wYr re sh c i) := rfl
theorem wYr_ok (ok : wCok c) : ∀ i, i ≤ 50 → wOk c.1 (wYr re sh c i) ∧ (wYr re sh c i).1 0 = nI i ∧ ∀ t, i < t → (wYr re sh c i).2 4 t = 0
  | 0, _ => ⟨wS0_ok ok, rfl, fun _ _ => rfl⟩
  | i + 1, hi => by
    obtain ⟨a, b, d⟩ := wYr_ok ok i (by omega)
    obtain ⟨q1, -, q3⟩ := spYear_b (re := re) (sh := sh) (c := c) (by omega) b
    exact ⟨spYear_ok ok.1 a (by omega) b, q1, fun t ht => (q3 t (by omega)).trans (d t (by omega))⟩
/-- how many burst in a year -/
theorem wYr_4 (ok : wCok c) {y : Nat} : ∀ i, y + 1 ≤ i → i ≤ 50 → (wYr re sh c i).2 4 (y + 1) = (wYr re sh c (y + 1)).1 2 - (wYr re sh c y).1 2 := by
  intro i h1 h2
  induction i with
  | zero => omega
  | succ i ih =>
    by_cases e : i = y
    · subst e
      obtain ⟨-, b, d⟩ := wYr_ok (re := re) (sh := sh) ok i (by omega)
      obtain ⟨-, q2, -⟩ := spYear_b (re := re) (sh := sh) (c := c) (by omega) b
      rw [d (i + 1) (by omega), Int32.zero_add] at q2
      rw [wYr_s, ← q2]
      exact (Int32.add_sub_cancel _ _).symm
    · obtain ⟨-, b, -⟩ := wYr_ok (re := re) (sh := sh) ok i (by omega)
      obtain ⟨-, -, q3⟩ := spYear_b (re := re) (sh := sh) (c := c) (by omega) b
      rw [wYr_s, q3 (y + 1) (by omega)]
      exact ih (by omega) (by omega)
theorem qRu_passYears_ev (B : wBc h o oc c re sh) (ok : wCok c) {m : Nat} (hm : m ≤ 50) : qRu_passYears o (nI m) (lS (wLc c.1 o) h (wS0 c)) = some (lS (wLc c.1 o) h (wYr re sh c m)) := by
  have e : zloop (qRu_passYears_b2 o (nI m)) zfu (0, lS (wLc c.1 o) h (wS0 c)) = some (lS (wLc c.1 o) h (wYr re sh c m)) := by
    refine zloop_for (fun i => (nI i, lS (wLc c.1 o) h (wYr re sh c i))) m (fun i hi => ?_) ?_ (zfu_lt (by omega))
    · obtain ⟨a, b, -⟩ := wYr_ok (re := re) (sh := sh) ok i (by omega)
      unfold qRu_passYears_b2
      dsimp only
      rw [if_neg (nI_ge hi (by omega)), qRu_passedYear_ev B ok a (by omega) b, Option.bind_some, nI_1, wYr_s]
    · unfold qRu_passYears_b2
      dsimp only
      rw [if_pos (nI_le (Nat.le_refl _) (by omega))]
  unfold qRu_passYears
  rw [e, Option.bind_some]
theorem cS_4 {τ : wS} {t : Nat} (ht : t < 51) : gI (lS (wLc n o) h τ) (o + 1) t = τ.2 4 t := lS_rw (A := wLc n o) (σ := τ) (wLc_ok n o) (r := 4) (show 4 < 5 by decide) rfl (show t < 51 from ht)
def wWas (re sh : Int32) (c : wC) : Nat → Int32
  | 0 => 0
  | i + 1 => (wYr re sh c i).1 2
theorem qM_next_b30_ev (B : mB h k c) (N : mN h re sh) (ok : wCok c) {m : Nat} (hm : m ≤ 50) : zloop (qM_next_b30 (nI m)) zfu (0, 0, lS (wLm c.1) h (wS0 c)) = some (wWas re sh c m, lS (wLm c.1) h (wYr re sh c m)) := by
  refine zloop_for (fun i => (wWas re sh c i, nI i, lS (wLm c.1) h (wYr re sh c i))) m (fun i hi => ?_) ?_ (zfu_lt (by omega))
  · obtain ⟨a, b, -⟩ := wYr_ok (re := re) (sh := sh) ok i (by omega)
    unfold qM_next_b30
    dsimp only
    rw [if_neg (nI_ge hi (by omega)), qM_goesOn_ev B N ok a (by omega) b, Option.bind_some, nI_1, wYr_s]
    dsimp only
    rw [lS_sc (A := wLm c.1) (σ := wYr re sh c i) (wLm_ok c.1) (i := 2) (a := 215) (k := 28) (show 2 < 7 by decide) rfl]
    rfl
  · unfold qM_next_b30
    dsimp only
    rw [if_pos (nI_le (Nat.le_refl _) (by omega))]
/-! calm -/
def wCz (re sh : Int32) (c : wC) (y : Nat) : Bool := decide ((wYr re sh c (y + 1)).1 2 = (wYr re sh c y).1 2)
def wClS (re sh : Int32) (c : wC) (i : Nat) (a : Int32 × Int32 × Int32) : Int32 × Int32 × Int32 :=
  zlet (if wCz re sh c i then a.2.2 + 1 else 0) fun v => if v ≤ a.1 then (a.1, a.2.1, v) else (v, nI (i + 1) - v + 1, v)
def wClm (re sh : Int32) (c : wC) (i : Nat) : Int32 × Int32 × Int32 := wfold (wClS re sh c) (0, -1, 0) i
theorem wClm_s (i : Nat) : wClm re sh c (i + 1) = wClS re sh c i (wClm re sh c i) := rfl
theorem wsub0 {a b : Int32} : a - b = 0 ↔ a = b := by
  constructor
  · intro e
    have := congrArg (· + b) e
    simp only [Int32.sub_add_cancel, Int32.zero_add] at this
    exact this
  · rintro rfl
    exact Int32.sub_self _
theorem qC_calm_ev (ok : wCok c) (x : Int32) : zloop (qC_calmYears_b28 oc x (lS (wLc c.1 166) h (wYr re sh c 50))) zfu (0, -1, 0, 1) = some ((wClm re sh c 50).1, (wClm re sh c 50).2.1) := by
  refine zloop_for (fun i => ((wClm re sh c i).1, (wClm re sh c i).2.1, (wClm re sh c i).2.2, nI (i + 1))) 50 (fun i hi => ?_) ?_ (zfu_lt (by omega))
  · unfold qC_calmYears_b28
    dsimp only
    simp only [zlet]
    rw [if_neg (show ¬ (50 : Int32) < nI (i + 1) from nI_nlt (a := 50) (by omega) (by decide)), zix_nI (by omega) (by omega), Option.bind_some, cS_4 (o := 166) (by omega), wYr_4 ok 50 (by omega) (by omega), wClm_s]
    unfold wClS wCz
    simp only [zlet]
    by_cases hz : (wYr re sh c (i + 1)).1 2 = (wYr re sh c i).1 2
    · rw [if_neg (show ¬ ¬ (wYr re sh c (i + 1)).1 2 - (wYr re sh c i).1 2 = 0 from fun z => z (wsub0.mpr hz)), if_pos (decide_eq_true hz), nI_1]
      split <;> rfl
    · rw [if_pos (show ¬ (wYr re sh c (i + 1)).1 2 - (wYr re sh c i).1 2 = 0 from fun z => hz (wsub0.mp z)), if_neg (fun z => hz (of_decide_eq_true z)), nI_1]
      split <;> rfl
  · unfold qC_calmYears_b28
    dsimp only
    rw [if_pos (show (50 : Int32) < nI 51 from nI_lt (a := 50) (by omega) (by decide))]
theorem qM_calm_ev (B : mB h k c) (N : mN h re sh) (ok : wCok c) (x : Int32) : zloop (qM_calm_b10 x) zfu (0, -1, 0, 1, lS (wLm c.1) h (wS0 c)) = some ((wClm re sh c 50).1, (wClm re sh c 50).2.1, lS (wLm c.1) h (wYr re sh c 50)) := by
  refine zloop_for (fun i => ((wClm re sh c i).1, (wClm re sh c i).2.1, (wClm re sh c i).2.2, nI (i + 1), lS (wLm c.1) h (wYr re sh c i))) 50 (fun i hi => ?_) ?_ (zfu_lt (by omega))
  · obtain ⟨a, b, -⟩ := wYr_ok (re := re) (sh := sh) ok i (by omega)
    unfold qM_calm_b10
    dsimp only
    rw [if_neg (show ¬ (50 : Int32) < nI (i + 1) from nI_nlt (a := 50) (by omega) (by decide)), qM_goesOn_ev B N ok a (by omega) b, Option.bind_some]
    dsimp only
    have g : ∀ τ : wS, gI (lS (wLm c.1) h τ) 215 28 = τ.1 2 := fun τ => lS_sc (A := wLm c.1) (σ := τ) (wLm_ok c.1) (i := 2) (show 2 < 7 by decide) rfl
    rw [g, g, wClm_s, ← wYr_s]
    unfold wClS wCz zf_greater
    simp only [zlet]
    have fin : ∀ v : Int32, (some (Sum.inl ((if v < (wClm re sh c i).1 then (wClm re sh c i).1 else v), (if v ≤ (wClm re sh c i).1 then (wClm re sh c i).2.1 else nI (i + 1) - v + 1), v, nI (i + 1) + 1, lS (wLm c.1) h (wYr re sh c (i + 1)))) : Option ((Int32 × Int32 × Int32 × Int32 × zK) ⊕ (Int32 × Int32 × zK))) = some (Sum.inl ((if v ≤ (wClm re sh c i).1 then ((wClm re sh c i).1, (wClm re sh c i).2.1, v) else (v, nI (i + 1) - v + 1, v)).1, (if v ≤ (wClm re sh c i).1 then ((wClm re sh c i).1, (wClm re sh c i).2.1, v) else (v, nI (i + 1) - v + 1, v)).2.1, (if v ≤ (wClm re sh c i).1 then ((wClm re sh c i).1, (wClm re sh c i).2.1, v) else (v, nI (i + 1) - v + 1, v)).2.2, nI (i + 1 + 1), lS (wLm c.1) h (wYr re sh c (i + 1)))) := by
      intro v
      rw [nI_1]
      by_cases hv : v ≤ (wClm re sh c i).1
      · rw [if_pos hv, if_pos hv]
        by_cases h2 : v < (wClm re sh c i).1
        · rw [if_pos h2]
        · rw [if_neg h2, show v = (wClm re sh c i).1 from Int32.le_antisymm hv (Int32.not_lt.mp h2)]
      · rw [if_neg hv, if_neg hv, if_neg (fun z => hv (Int32.le_of_lt z))]
    by_cases hz : (wYr re sh c (i + 1)).1 2 = (wYr re sh c i).1 2
    · rw [if_neg (show ¬ ¬ (wYr re sh c (i + 1)).1 2 = (wYr re sh c i).1 2 from fun z => z hz), if_pos (decide_eq_true hz)]
      exact fin _
    · rw [if_pos hz, if_neg (fun z => hz (of_decide_eq_true z))]
      exact fin _
  · unfold qM_calm_b10
    dsimp only
    rw [if_pos (show (50 : Int32) < nI 51 from nI_lt (a := 50) (by omega) (by decide))]
end NEXT
theorem wo_next {h : zK} (H : InvB h) (a x : Int32) : ∃ w h1 h2, qC_next a x h = some (w, h1) ∧ qM_next a x h1 = some (w, h2) := by
  unfold qC_next qM_next
  simp only [zlet]
  have hin : ∀ x : Int32, (∃ m, 1 ≤ m ∧ m ≤ 50 ∧ x = nI m ∧ zf_in x 1 50 = 1) ∨ ((x < 1 ∨ ¬ x ≤ 50) ∧ zf_in x 1 50 = 0) := by
    intro x
    unfold zf_in
    by_cases h1 : x < 1
    · exact Or.inr ⟨Or.inl h1, by rw [if_neg (Int32.not_le.mpr h1)]⟩
    · by_cases h2 : x ≤ 50
      · obtain ⟨m, m1, rfl⟩ := nI_of2 (x := x) (M := 50) (n := 50) rfl (fun z => h1 (by
          rw [Int32.lt_iff_toInt_lt] at z ⊢
          have e0 : (0 : Int32).toInt = 0 := rfl
          have e1 : (1 : Int32).toInt = 1 := rfl
          omega)) h2
        refine Or.inl ⟨m, ?_, m1, rfl, by rw [if_pos (Int32.not_lt.mp h1), if_pos h2]⟩
        apply Nat.le_of_not_lt
        intro z
        exact h1 (show nI m < (1 : Int32) from nI_lt (b := 1) z (by decide))
      · exact Or.inr ⟨Or.inr h2, by rw [if_pos (Int32.not_lt.mp h1), if_neg h2]⟩
  rcases wcell H a with ⟨e1, e2⟩ | ⟨k, c, hk, rfl, c1, c2, c3, e1, e2, e4⟩
  · rw [e1, Option.bind_some]
    refine ⟨-1, h, sI h 215 0 0, rfl, ?_⟩
    rw [e2 _ (wEq_s (by unfold wKp; omega)), Option.bind_some]
    split <;> rfl
  · rw [e1, Option.bind_some]
    dsimp only
    rw [if_pos e2]
    rcases hin x with ⟨m, m1, m2, rfl, hz⟩ | ⟨hx, hz⟩
    · obtain ⟨h1, b1, b2, b3, b4⟩ := qRu_begin_ev (o := 166) (Or.inl rfl) e2 c2 c1
      have F := qRu_passYears_ev b2 c1 m2
      rw [b3] at F
      have eq2 := wEq_2 (wEq2_f (f_qRu_begin (by rcases e2 with e | e <;> rw [e] <;> decide) b1) (by decide))
      have eq3 := wEq_2 (wEq2_f (f_qRu_passYears (by decide) F) (by decide))
      obtain ⟨h2, g1, g2, g3, g4, -⟩ := e4 (sI (lS (wLc c.1 166) h1 (wYr (nI c.2.2.1) (nI c.2.1) c m)) 215 0 0) (wEq_t (wEq_t eq2 eq3) (wEq_s (by unfold wKp; omega)))
      have P := qM_next_b30_ev (re := nI c.2.2.1) (sh := nI c.2.1) g2 ⟨g3.1, g3.2⟩ c1 m2
      rw [mB3_l g4] at P
      obtain ⟨q, rfl⟩ : ∃ q, m = q + 1 := ⟨m - 1, by omega⟩
      refine ⟨(wYr (nI c.2.2.1) (nI c.2.1) c (q + 1)).1 2 - (wYr (nI c.2.2.1) (nI c.2.1) c q).1 2, lS (wLc c.1 166) h1 (wYr (nI c.2.2.1) (nI c.2.1) c (q + 1)), lS (wLm c.1) h2 (wYr (nI c.2.2.1) (nI c.2.1) c (q + 1)), ?_, ?_⟩
      · rw [if_neg (show ¬ nI (q + 1) < (1 : Int32) from nI_nlt (b := 1) (by omega) (by omega)), if_pos (show nI (q + 1) ≤ (50 : Int32) from nI_le (b := 50) m2 (by decide)), b1, Option.bind_some, F, Option.bind_some, zix_nI (by omega) (by omega), Option.bind_some, cS_4 (o := 166) (by omega), wYr_4 c1 (q + 1) (Nat.le_refl _) m2]
      · rw [hz, if_neg (show ¬ (1 : Int32) = 0 by decide), g1, Option.bind_some]
        dsimp only
        rw [if_pos (show ¬ (1 : Int32) = 0 by decide), P, Option.bind_some]
        dsimp only
        rw [lS_sc (A := wLm c.1) (σ := wYr (nI c.2.2.1) (nI c.2.1) c (q + 1)) (wLm_ok c.1) (i := 2) (a := 215) (k := 28) (show 2 < 7 by decide) rfl]
        rfl
    · obtain ⟨h2, g1, -⟩ := e4 (sI h 215 0 0) (wEq_s (by unfold wKp; omega))
      refine ⟨-1, h, sI h 215 0 0, ?_, by rw [hz, if_pos rfl]⟩
      rcases hx with hx | hx
      · rw [if_pos hx]
      · by_cases h1 : x < 1
        · rw [if_pos h1]
        · rw [if_neg h1, if_neg hx]
