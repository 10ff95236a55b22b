/-! LAWS: what is asked of those that fit -/
def yG2 (F : Nat → Nat) (i : Nat) : Nat := wfold (fun j a => if a < F j then F j else a) (F 0) i
def yL2 (F : Nat → Nat) (i : Nat) : Nat := wfold (fun j a => if F j < a then F j else a) (F 0) i
theorem yG2_s (F : Nat → Nat) (i : Nat) : yG2 F (i + 1) = if yG2 F i < F i then F i else yG2 F i := rfl
theorem yL2_s (F : Nat → Nat) (i : Nat) : yL2 F (i + 1) = if F i < yL2 F i then F i else yL2 F i := rfl
theorem yG2_b {F : Nat → Nat} {m : Nat} (hm : 1 ≤ m) {b : Nat} (h : ∀ j, j < m → F j ≤ b) : ∀ i, i ≤ m → yG2 F i ≤ b
  | 0, _ => h 0 (by omega)
  | i + 1, hi => by
    have := yG2_b hm h i (by omega)
    have := h i (by omega)
    rw [yG2_s]
    split <;> omega
theorem yL2_b {F : Nat → Nat} {m : Nat} (hm : 1 ≤ m) {b : Nat} (h : ∀ j, j < m → F j ≤ b) : ∀ i, i ≤ m → yL2 F i ≤ b
  | 0, _ => h 0 (by omega)
  | i + 1, hi => by
    have := yL2_b hm h i (by omega)
    rw [yL2_s]
    split <;> omega
theorem yG2_ge {F : Nat → Nat} : ∀ i j, j < i → F j ≤ yG2 F i
  | 0, j, h => by omega
  | i + 1, j, h => by
    rw [yG2_s]
    by_cases e : j = i
    · subst e; split <;> omega
    · have := yG2_ge (F := F) i j (by omega)
      split <;> omega
theorem yL2_le {F : Nat → Nat} : ∀ i j, j < i → yL2 F i ≤ F j
  | 0, j, h => by omega
  | i + 1, j, h => by
    rw [yL2_s]
    by_cases e : j = i
    · subst e; split <;> omega
    · have := yL2_le (F := F) i j (by omega)
      split <;> omega
theorem y2_eq {F : Nat → Nat} {v : Nat} (h0 : F 0 = v) : ∀ i, (∀ j, j < i → F j = v) → yG2 F i = v ∧ yL2 F i = v
  | 0, _ => ⟨h0, h0⟩
  | i + 1, h => by
    obtain ⟨a, b⟩ := y2_eq h0 i (fun j hj => h j (by omega))
    rw [yG2_s, yL2_s, a, b, h i (by omega), if_neg (by omega)]
    exact ⟨rfl, rfl⟩
section SURE
variable {h x : zK} {m : Nat} {K : Nat → Nat}
/-- m laws stand in a row: the class's, the reference's -/
def yRC (h : zK) (m : Nat) (K : Nat → Nat) : Prop := m ≤ 100 ∧ gI h 196 0 = nI m ∧ ∀ j, j < m → gI h 197 j = nI (K j) ∧ K j < 100
def yRM (x : zK) (m : Nat) (K : Nat → Nat) : Prop := m ≤ 100 ∧ gI x 215 46 = nI m ∧ ∀ j, j < m → gI x 234 j = nI (K j) ∧ K j < 100
theorem wd10 {a : Nat} (ha : a < 100) : nI a / 10 = nI (a / 10) := nI_div (b := 10) (by omega) (by omega)
theorem wm10 {a : Nat} (ha : a < 100) : nI a - nI a / 10 * 10 = nI (a % 10) := nI_rem (b := 10) (by omega) (by omega)
theorem qLw_leastShock_ev (C : yRC h m K) : qLw_leastShock h = some (if m = 0 then -1 else nI (yL2 (fun j => K j % 10) m)) := by
  obtain ⟨m1, c0, cK⟩ := C
  unfold qLw_leastShock
  simp only [zlet]
  by_cases h0 : m = 0
  · subst h0
    rw [c0, if_pos (show nI 0 ≤ 0 by decide)]
    have e : zloop (qLw_leastShock_b23 h) zfu (-1, 0) = some (-1) := zloop_e (n := 19999) (by
      unfold qLw_leastShock_b23
      dsimp only
      rw [c0, if_pos (show nI 0 ≤ 0 by decide)])
    rw [e]; rfl
  · have f9 : ∀ j, j < m → K j % 10 ≤ 9 := fun j _ => by omega
    rw [c0, if_neg (nI_nle (by omega) (by omega)), (cK 0 (by omega)).1, wm10 (cK 0 (by omega)).2]
    have e : zloop (qLw_leastShock_b23 h) zfu (nI (K 0 % 10), 0) = some (nI (yL2 (fun j => K j % 10) m)) := by
      refine zloop_for (fun i => (nI (yL2 (fun j => K j % 10) i), nI i)) m (fun i hi => ?_) ?_ (zfu_lt (by omega))
      · unfold qLw_leastShock_b23
        dsimp only
        have b := yL2_b (m := m) (by omega) f9 i (by omega)
        rw [c0, if_neg (nI_ge hi (by omega)), zix_nI (by omega) (by omega), Option.bind_some, (cK i hi).1, wm10 (cK i hi).2, nI_1, yL2_s]
        unfold zf_min
        by_cases hq : K i % 10 < yL2 (fun j => K j % 10) i
        · rw [if_pos (nI_lt hq (by omega)), if_pos hq]
        · rw [if_neg (nI_nlt (by omega) (by omega)), if_neg hq]
      · unfold qLw_leastShock_b23
        dsimp only
        rw [c0, if_pos (nI_le (Nat.le_refl _) (by omega))]
    rw [e, if_neg h0]; rfl
theorem qLw_greatestShock_ev (C : yRC h m K) : qLw_greatestShock h = some (if m = 0 then -1 else nI (yG2 (fun j => K j % 10) m)) := by
  obtain ⟨m1, c0, cK⟩ := C
  have f9 : ∀ j, j < m → K j % 10 ≤ 9 := fun j _ => by omega
  have e : zloop (qLw_greatestShock_b4 h) zfu (-1, 0) = some (if m = 0 then -1 else nI (yG2 (fun j => K j % 10) m)) := by
    refine zloop_for (fun i => (if i = 0 then -1 else nI (yG2 (fun j => K j % 10) i), nI i)) m (fun i hi => ?_) ?_ (zfu_lt (by omega))
    · unfold qLw_greatestShock_b4
      dsimp only
      have b := yG2_b (m := m) (by omega) f9 i (by omega)
      rw [c0, if_neg (nI_ge hi (by omega)), zix_nI (by omega) (by omega), Option.bind_some, (cK i hi).1, wm10 (cK i hi).2, nI_1, if_neg (show ¬ i + 1 = 0 by omega), yG2_s]
      by_cases h0 : i = 0
      · subst h0
        rw [if_pos rfl]
        unfold zf_max
        rw [if_pos (show (-1 : Int32) < nI (K 0 % 10) by
          rw [Int32.lt_iff_toInt_lt, nI_toInt (by omega)]
          have em : (-1 : Int32).toInt = -1 := rfl
          omega)]
        show some (Sum.inl (nI (K 0 % 10), nI (0 + 1))) = some (Sum.inl (nI (if K 0 % 10 < K 0 % 10 then K 0 % 10 else K 0 % 10), nI (0 + 1)))
        rw [if_neg (by omega)]
      · rw [if_neg h0, wmaxn (by omega) (by omega)]
    · unfold qLw_greatestShock_b4
      dsimp only
      rw [c0, if_pos (nI_le (Nat.le_refl _) (by omega))]
  unfold qLw_greatestShock
  rw [e]; rfl
theorem qM_shock_b37_ev (M : yRM x m K) (h0 : 1 ≤ m) (x3 : Int32) : zloop (qM_shock_b37 x3 x) zfu ((gI x 234 0) - (gI x 234 0) / 10 * 10, 0) = some (if x3 = 0 then nI (yL2 (fun j => K j % 10) m) else nI (yG2 (fun j => K j % 10) m)) := by
  obtain ⟨m1, c0, cK⟩ := M
  have f9 : ∀ j, j < m → K j % 10 ≤ 9 := fun j _ => by omega
  rw [(cK 0 (by omega)).1, wm10 (cK 0 (by omega)).2]
  have st : nI (K 0 % 10) = (if x3 = 0 then nI (yL2 (fun j => K j % 10) 0) else nI (yG2 (fun j => K j % 10) 0)) := by split <;> rfl
  rw [st]
  refine zloop_for (fun i => (if x3 = 0 then nI (yL2 (fun j => K j % 10) i) else nI (yG2 (fun j => K j % 10) i), nI i)) m (fun i hi => ?_) ?_ (zfu_lt (by omega))
  · unfold qM_shock_b37
    dsimp only
    have b := yG2_b (m := m) h0 f9 i (by omega)
    have b2 := yL2_b (m := m) h0 f9 i (by omega)
    rw [c0, if_neg (nI_ge hi (by omega)), zix_nI (by omega) (by omega), Option.bind_some, Option.bind_some, (cK i hi).1, wm10 (cK i hi).2, nI_1, yG2_s, yL2_s]
    by_cases hx : x3 = 0
    · rw [if_pos hx, if_pos hx, if_pos hx, Option.bind_some, wles (by omega) (by omega)]
    · rw [if_neg hx, if_neg hx, if_neg hx, Option.bind_some, wgren (by omega) (by omega)]
  · unfold qM_shock_b37
    dsimp only
    rw [c0, if_pos (nI_le (Nat.le_refl _) (by omega))]
/-- all alike -/
def yAl (F : Nat → Nat) (m : Nat) : Bool := !decide (fa_first (fun j => !decide (F j = F 0)) m < m)
theorem yAl_t (F : Nat → Nat) (m : Nat) : yAl F m = true ↔ ∀ j, j < m → F j = F 0 := by
  unfold yAl
  rw [Bool.not_eq_true', decide_eq_false_iff_not]
  constructor
  · intro a j hj
    have fl := fa_first_le (fun j => !decide (F j = F 0)) m
    have q := fa_first_no (fun j => !decide (F j = F 0)) m j (by omega)
    simpa using q
  · intro a hl
    have q := fa_first_yes (fun j => !decide (F j = F 0)) m hl
    have := a _ hl
    simp [this] at q
theorem qM_sure_ev (M : yRM x m K) {F : Nat → Nat} {x1 : Int32} (hF : ∀ j, j < m → F j < 100 ∧ (if x1 = 0 then some (nI (K j) - nI (K j) / 10 * 10) else some (nI (K j) / 10)) = some (nI (F j))) : qM_sure x1 x = some (if m = 0 then -1 else if yAl F m then nI (F 0) else -1) := by
  obtain ⟨m1, c0, cK⟩ := M
  have fl := fa_first_le (fun j => !decide (F j = F 0)) m
  have vv : ∀ i, i < m → (if x1 = 0 then (zix (nI i) 100).bind fun j4 => some ((gI x 234 j4) - (gI x 234 j4) / 10 * 10) else (zix (nI i) 100).bind fun j5 => some ((gI x 234 j5) / 10)) = some (nI (F i)) := fun i hi => by
    rw [zix_nI (by omega) (by omega), Option.bind_some, Option.bind_some, (cK i hi).1]
    exact (hF i hi).2
  have e : zloop (qM_sure_b4 x1 x) zfu (-1, 0) = some (if fa_first (fun j => !decide (F j = F 0)) m < m then Sum.inr (-1) else Sum.inl (if m = 0 then -1 else nI (F 0))) := by
    refine zloop_for (fun i => (if i = 0 then -1 else nI (F 0), nI i)) (fa_first (fun j => !decide (F j = F 0)) m) (fun i hi => ?_) ?_ (zfu_lt (by omega))
    · have q := fa_first_no (fun j => !decide (F j = F 0)) m i hi
      have q' : F i = F 0 := by simpa using q
      unfold qM_sure_b4
      dsimp only
      rw [c0, if_neg (nI_ge (show i < m by omega) (by omega)), vv i (by omega), Option.bind_some, nI_1, q', if_neg (show ¬ i + 1 = 0 by omega)]
      by_cases h0 : i = 0
      · subst h0; rw [if_pos (show nI 0 ≤ 0 by decide)]
      · rw [if_neg (nI_nle (by omega) (by omega)), if_neg h0, if_pos rfl]
    · unfold qM_sure_b4
      dsimp only
      by_cases hl : fa_first (fun j => !decide (F j = F 0)) m < m
      · have q := fa_first_yes (fun j => !decide (F j = F 0)) m hl
        rw [if_pos hl]
        generalize fa_first (fun j => !decide (F j = F 0)) m = i at *
        have q' : ¬ F i = F 0 := by simpa using q
        have h0 : ¬ i = 0 := fun e => q' (by rw [e])
        have f1 := (hF i hl).1
        have f2 := (hF 0 (by omega)).1
        rw [c0, if_neg (nI_ge hl (by omega)), vv i hl, Option.bind_some, if_neg (nI_nle (by omega) (by omega)), if_neg h0, if_neg (fun z => q' ((nI_eq (by omega) (by omega)).mp z))]
      · have em : fa_first (fun j => !decide (F j = F 0)) m = m := by omega
        rw [em, c0, if_pos (nI_le (Nat.le_refl _) (by omega)), if_neg (Nat.lt_irrefl m)]
  unfold qM_sure yAl
  rw [e, Option.bind_some]
  by_cases hl : fa_first (fun j => !decide (F j = F 0)) m < m
  · rw [if_pos hl, if_neg (show ¬ m = 0 by omega), decide_eq_true hl]
    rfl
  · rw [if_neg hl, decide_eq_false hl]
    by_cases h0 : m = 0
    · rw [if_pos h0, if_pos h0]
    · rw [if_neg h0, if_neg h0]; rfl
theorem qLw_sureReach_ev (C : yRC h m K) (mono : ∀ i j, i ≤ j → j < m → K i ≤ K j) : qLw_sureReach h = some (if m = 0 then -1 else if yAl (fun j => K j / 10) m then nI (K 0 / 10) else -1) := by
  obtain ⟨m1, c0, cK⟩ := C
  unfold qLw_sureReach
  by_cases h0 : m = 0
  · subst h0
    rw [c0, if_pos (show nI 0 ≤ 0 by decide), Option.bind_some]
    rfl
  · obtain ⟨q, rfl⟩ : ∃ q, m = q + 1 := ⟨m - 1, by omega⟩
    obtain ⟨k0, l0⟩ := cK 0 (by omega)
    obtain ⟨kq, lq⟩ := cK q (by omega)
    rw [c0, if_neg (nI_nle (by omega) (by omega)), nI_pred, zix_nI (by omega) (by omega), Option.bind_some, k0, kq, wd10 l0, wd10 lq, if_neg h0]
    by_cases e : K 0 / 10 = K q / 10
    · have al : yAl (fun j => K j / 10) (q + 1) = true := (yAl_t _ _).mpr fun j hj => by
        have a := mono 0 j (by omega) hj
        have b := mono j q (by omega) (by omega)
        show K j / 10 = K 0 / 10
        omega
      rw [if_neg (show ¬ ¬ nI (K 0 / 10) = nI (K q / 10) from fun z => z (by rw [e])), Option.bind_some, if_neg (show ¬ (1 : Int32) = 0 by decide), al]
      rfl
    · have al : yAl (fun j => K j / 10) (q + 1) = false := ybf (fun z => e (((yAl_t _ _).mp z q (by omega)).symm))
      rw [if_pos (show ¬ nI (K 0 / 10) = nI (K q / 10) from fun z => e ((nI_eq (by omega) (by omega)).mp z)), Option.bind_some, if_pos rfl, al]
      rfl
theorem qLw_sureShock_ev (C : yRC h m K) : qLw_sureShock h = some (if m = 0 then -1 else if yAl (fun j => K j % 10) m then nI (K 0 % 10) else -1) := by
  have f9 : ∀ j, j < m → K j % 10 ≤ 9 := fun j _ => by omega
  unfold qLw_sureShock
  rw [qLw_leastShock_ev C, Option.bind_some, qLw_greatestShock_ev C, Option.bind_some, Option.bind_some]
  by_cases h0 : m = 0
  · rw [if_pos h0, if_pos h0, if_pos h0, if_neg (show ¬ ¬ (-1 : Int32) = -1 from fun z => z rfl)]
  · rw [if_neg h0, if_neg h0, if_neg h0]
    have b := yG2_b (m := m) (by omega) f9 m (Nat.le_refl _)
    have b2 := yL2_b (m := m) (by omega) f9 m (Nat.le_refl _)
    cases al : yAl (fun j => K j % 10) m with
    | true =>
      obtain ⟨g1, g2⟩ := y2_eq (F := fun j => K j % 10) rfl m ((yAl_t _ _).mp al)
      rw [g1, g2, if_neg (show ¬ ¬ nI (K 0 % 10) = nI (K 0 % 10) from fun z => z rfl)]
      rfl
    | false =>
      rw [if_pos (show ¬ nI (yL2 (fun j => K j % 10) m) = nI (yG2 (fun j => K j % 10) m) from fun z => by
        have e := (nI_eq (by omega) (by omega)).mp z
        have : yAl (fun j => K j % 10) m = true := (yAl_t _ _).mpr fun j hj => by
          have a1 := yG2_ge (F := fun j => K j % 10) m j hj
          have a2 := yL2_le (F := fun j => K j % 10) m j hj
          have a3 := yG2_ge (F := fun j => K j % 10) m 0 (by omega)
          have a4 := yL2_le (F := fun j => K j % 10) m 0 (by omega)
          omega
        rw [al] at this
        cases this)]
      rfl
end SURE
