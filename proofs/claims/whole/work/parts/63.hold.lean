/-! HOLD: by its finitely many numbers -/
def wHn (n : Nat) : zK := (fun _ => 0, fun _ _ => nI n, fun _ _ => 0)
def wHC (n p y m u : Nat) : Option Int64 := (qC_power (Int32.toInt64 (nI p)) (nI y)).bind fun p9 => (qC_power 10 (nI y)).bind fun p10 => (zloop (qC_hold_b74 7 (nI u) p9 p10 (wHn n)) zfu (0, nI m)).bind fun t16 => (qC_power p10 (nI n)).bind fun p18 => (qC_inLeastTerms t16 p18 (nI u)).bind fun p19 => some p19
def wHM (n p y m u : Nat) : Option Int64 := (qM_times 10 (nI y)).bind fun p7 => (qM_times (Int32.toInt64 (nI p)) (nI y)).bind fun p8 => (zloop (qM_hold_b73 (nI m) (nI u) p7 p8 (wHn n)) zfu (0, 1, 0)).bind fun t15 => (qM_times p7 (nI n)).bind fun p17 => (qM_partL t15 p17 (nI u)).bind fun p18 => some p18
def wHD (n p : Nat) : Prop := ∀ y, y < 3 → ∀ m, m < 8 → ∀ u, u < 2 → wHC n p y m u = wHM n p y m u ∧ (wHC n p y m u).isSome = true
theorem wHD_0_0 : wHD 0 0 := by unfold wHD; decide +kernel
theorem wHD_0_1 : wHD 0 1 := by unfold wHD; decide +kernel
theorem wHD_0_2 : wHD 0 2 := by unfold wHD; decide +kernel
theorem wHD_0_3 : wHD 0 3 := by unfold wHD; decide +kernel
theorem wHD_0_4 : wHD 0 4 := by unfold wHD; decide +kernel
theorem wHD_0_5 : wHD 0 5 := by unfold wHD; decide +kernel
theorem wHD_0_6 : wHD 0 6 := by unfold wHD; decide +kernel
theorem wHD_0_7 : wHD 0 7 := by unfold wHD; decide +kernel
theorem wHD_0_8 : wHD 0 8 := by unfold wHD; decide +kernel
theorem wHD_0_9 : wHD 0 9 := by unfold wHD; decide +kernel
theorem wHD_0_10 : wHD 0 10 := by unfold wHD; decide +kernel
theorem wHD_1_0 : wHD 1 0 := by unfold wHD; decide +kernel
theorem wHD_1_1 : wHD 1 1 := by unfold wHD; decide +kernel
theorem wHD_1_2 : wHD 1 2 := by unfold wHD; decide +kernel
theorem wHD_1_3 : wHD 1 3 := by unfold wHD; decide +kernel
theorem wHD_1_4 : wHD 1 4 := by unfold wHD; decide +kernel
theorem wHD_1_5 : wHD 1 5 := by unfold wHD; decide +kernel
theorem wHD_1_6 : wHD 1 6 := by unfold wHD; decide +kernel
theorem wHD_1_7 : wHD 1 7 := by unfold wHD; decide +kernel
theorem wHD_1_8 : wHD 1 8 := by unfold wHD; decide +kernel
theorem wHD_1_9 : wHD 1 9 := by unfold wHD; decide +kernel
theorem wHD_1_10 : wHD 1 10 := by unfold wHD; decide +kernel
theorem wHD_2_0 : wHD 2 0 := by unfold wHD; decide +kernel
theorem wHD_2_1 : wHD 2 1 := by unfold wHD; decide +kernel
theorem wHD_2_2 : wHD 2 2 := by unfold wHD; decide +kernel
theorem wHD_2_3 : wHD 2 3 := by unfold wHD; decide +kernel
theorem wHD_2_4 : wHD 2 4 := by unfold wHD; decide +kernel
theorem wHD_2_5 : wHD 2 5 := by unfold wHD; decide +kernel
theorem wHD_2_6 : wHD 2 6 := by unfold wHD; decide +kernel
theorem wHD_2_7 : wHD 2 7 := by unfold wHD; decide +kernel
theorem wHD_2_8 : wHD 2 8 := by unfold wHD; decide +kernel
theorem wHD_2_9 : wHD 2 9 := by unfold wHD; decide +kernel
theorem wHD_2_10 : wHD 2 10 := by unfold wHD; decide +kernel
theorem wHD_3_0 : wHD 3 0 := by unfold wHD; decide +kernel
theorem wHD_3_1 : wHD 3 1 := by unfold wHD; decide +kernel
theorem wHD_3_2 : wHD 3 2 := by unfold wHD; decide +kernel
theorem wHD_3_3 : wHD 3 3 := by unfold wHD; decide +kernel
theorem wHD_3_4 : wHD 3 4 := by unfold wHD; decide +kernel
theorem wHD_3_5 : wHD 3 5 := by unfold wHD; decide +kernel
theorem wHD_3_6 : wHD 3 6 := by unfold wHD; decide +kernel
theorem wHD_3_7 : wHD 3 7 := by unfold wHD; decide +kernel
theorem wHD_3_8 : wHD 3 8 := by unfold wHD; decide +kernel
theorem wHD_3_9 : wHD 3 9 := by unfold wHD; decide +kernel
theorem wHD_3_10 : wHD 3 10 := by unfold wHD; decide +kernel
theorem wHD_4_0 : wHD 4 0 := by unfold wHD; decide +kernel
theorem wHD_4_1 : wHD 4 1 := by unfold wHD; decide +kernel
theorem wHD_4_2 : wHD 4 2 := by unfold wHD; decide +kernel
theorem wHD_4_3 : wHD 4 3 := by unfold wHD; decide +kernel
theorem wHD_4_4 : wHD 4 4 := by unfold wHD; decide +kernel
theorem wHD_4_5 : wHD 4 5 := by unfold wHD; decide +kernel
theorem wHD_4_6 : wHD 4 6 := by unfold wHD; decide +kernel
theorem wHD_4_7 : wHD 4 7 := by unfold wHD; decide +kernel
theorem wHD_4_8 : wHD 4 8 := by unfold wHD; decide +kernel
theorem wHD_4_9 : wHD 4 9 := by unfold wHD; decide +kernel
theorem wHD_4_10 : wHD 4 10 := by unfold wHD; decide +kernel
theorem wHD_5_0 : wHD 5 0 := by unfold wHD; decide +kernel
theorem wHD_5_1 : wHD 5 1 := by unfold wHD; decide +kernel
theorem wHD_5_2 : wHD 5 2 := by unfold wHD; decide +kernel
theorem wHD_5_3 : wHD 5 3 := by unfold wHD; decide +kernel
theorem wHD_5_4 : wHD 5 4 := by unfold wHD; decide +kernel
theorem wHD_5_5 : wHD 5 5 := by unfold wHD; decide +kernel
theorem wHD_5_6 : wHD 5 6 := by unfold wHD; decide +kernel
theorem wHD_5_7 : wHD 5 7 := by unfold wHD; decide +kernel
theorem wHD_5_8 : wHD 5 8 := by unfold wHD; decide +kernel
theorem wHD_5_9 : wHD 5 9 := by unfold wHD; decide +kernel
theorem wHD_5_10 : wHD 5 10 := by unfold wHD; decide +kernel
theorem wHD_6_0 : wHD 6 0 := by unfold wHD; decide +kernel
theorem wHD_6_1 : wHD 6 1 := by unfold wHD; decide +kernel
theorem wHD_6_2 : wHD 6 2 := by unfold wHD; decide +kernel
theorem wHD_6_3 : wHD 6 3 := by unfold wHD; decide +kernel
theorem wHD_6_4 : wHD 6 4 := by unfold wHD; decide +kernel
theorem wHD_6_5 : wHD 6 5 := by unfold wHD; decide +kernel
theorem wHD_6_6 : wHD 6 6 := by unfold wHD; decide +kernel
theorem wHD_6_7 : wHD 6 7 := by unfold wHD; decide +kernel
theorem wHD_6_8 : wHD 6 8 := by unfold wHD; decide +kernel
theorem wHD_6_9 : wHD 6 9 := by unfold wHD; decide +kernel
theorem wHD_6_10 : wHD 6 10 := by unfold wHD; decide +kernel
theorem wHD_7_0 : wHD 7 0 := by unfold wHD; decide +kernel
theorem wHD_7_1 : wHD 7 1 := by unfold wHD; decide +kernel
theorem wHD_7_2 : wHD 7 2 := by unfold wHD; decide +kernel
theorem wHD_7_3 : wHD 7 3 := by unfold wHD; decide +kernel
theorem wHD_7_4 : wHD 7 4 := by unfold wHD; decide +kernel
theorem wHD_7_5 : wHD 7 5 := by unfold wHD; decide +kernel
theorem wHD_7_6 : wHD 7 6 := by unfold wHD; decide +kernel
theorem wHD_7_7 : wHD 7 7 := by unfold wHD; decide +kernel
theorem wHD_7_8 : wHD 7 8 := by unfold wHD; decide +kernel
theorem wHD_7_9 : wHD 7 9 := by unfold wHD; decide +kernel
theorem wHD_7_10 : wHD 7 10 := by unfold wHD; decide +kernel
theorem wHD_0 {p : Nat} (hp : p < 11) : wHD 0 p := by
  rcases (by omega : p = 0 ∨ p = 1 ∨ p = 2 ∨ p = 3 ∨ p = 4 ∨ p = 5 ∨ p = 6 ∨ p = 7 ∨ p = 8 ∨ p = 9 ∨ p = 10) with rfl | rfl | rfl | rfl | rfl | rfl | rfl | rfl | rfl | rfl | rfl
  · exact wHD_0_0
  · exact wHD_0_1
  · exact wHD_0_2
  · exact wHD_0_3
  · exact wHD_0_4
  · exact wHD_0_5
  · exact wHD_0_6
  · exact wHD_0_7
  · exact wHD_0_8
  · exact wHD_0_9
  · exact wHD_0_10
theorem wHD_1 {p : Nat} (hp : p < 11) : wHD 1 p := by
  rcases (by omega : p = 0 ∨ p = 1 ∨ p = 2 ∨ p = 3 ∨ p = 4 ∨ p = 5 ∨ p = 6 ∨ p = 7 ∨ p = 8 ∨ p = 9 ∨ p = 10) with rfl | rfl | rfl | rfl | rfl | rfl | rfl | rfl | rfl | rfl | rfl
  · exact wHD_1_0
  · exact wHD_1_1
  · exact wHD_1_2
  · exact wHD_1_3
  · exact wHD_1_4
  · exact wHD_1_5
  · exact wHD_1_6
  · exact wHD_1_7
  · exact wHD_1_8
  · exact wHD_1_9
  · exact wHD_1_10
theorem wHD_2 {p : Nat} (hp : p < 11) : wHD 2 p := by
  rcases (by omega : p = 0 ∨ p = 1 ∨ p = 2 ∨ p = 3 ∨ p = 4 ∨ p = 5 ∨ p = 6 ∨ p = 7 ∨ p = 8 ∨ p = 9 ∨ p = 10) with rfl | rfl | rfl | rfl | rfl | rfl | rfl | rfl | rfl | rfl | rfl
  · exact wHD_2_0
  · exact wHD_2_1
  · exact wHD_2_2
  · exact wHD_2_3
  · exact wHD_2_4
  · exact wHD_2_5
  · exact wHD_2_6
  · exact wHD_2_7
  · exact wHD_2_8
  · exact wHD_2_9
  · exact wHD_2_10
theorem wHD_3 {p : Nat} (hp : p < 11) : wHD 3 p := by
  rcases (by omega : p = 0 ∨ p = 1 ∨ p = 2 ∨ p = 3 ∨ p = 4 ∨ p = 5 ∨ p = 6 ∨ p = 7 ∨ p = 8 ∨ p = 9 ∨ p = 10) with rfl | rfl | rfl | rfl | rfl | rfl | rfl | rfl | rfl | rfl | rfl
  · exact wHD_3_0
  · exact wHD_3_1
  · exact wHD_3_2
  · exact wHD_3_3
  · exact wHD_3_4
  · exact wHD_3_5
  · exact wHD_3_6
  · exact wHD_3_7
  · exact wHD_3_8
  · exact wHD_3_9
  · exact wHD_3_10
theorem wHD_4 {p : Nat} (hp : p < 11) : wHD 4 p := by
  rcases (by omega : p = 0 ∨ p = 1 ∨ p = 2 ∨ p = 3 ∨ p = 4 ∨ p = 5 ∨ p = 6 ∨ p = 7 ∨ p = 8 ∨ p = 9 ∨ p = 10) with rfl | rfl | rfl | rfl | rfl | rfl | rfl | rfl | rfl | rfl | rfl
  · exact wHD_4_0
  · exact wHD_4_1
  · exact wHD_4_2
  · exact wHD_4_3
  · exact wHD_4_4
  · exact wHD_4_5
  · exact wHD_4_6
  · exact wHD_4_7
  · exact wHD_4_8
  · exact wHD_4_9
  · exact wHD_4_10
theorem wHD_5 {p : Nat} (hp : p < 11) : wHD 5 p := by
  rcases (by omega : p = 0 ∨ p = 1 ∨ p = 2 ∨ p = 3 ∨ p = 4 ∨ p = 5 ∨ p = 6 ∨ p = 7 ∨ p = 8 ∨ p = 9 ∨ p = 10) with rfl | rfl | rfl | rfl | rfl | rfl | rfl | rfl | rfl | rfl | rfl
  · exact wHD_5_0
  · exact wHD_5_1
  · exact wHD_5_2
  · exact wHD_5_3
  · exact wHD_5_4
  · exact wHD_5_5
  · exact wHD_5_6
  · exact wHD_5_7
  · exact wHD_5_8
  · exact wHD_5_9
  · exact wHD_5_10
theorem wHD_6 {p : Nat} (hp : p < 11) : wHD 6 p := by
  rcases (by omega : p = 0 ∨ p = 1 ∨ p = 2 ∨ p = 3 ∨ p = 4 ∨ p = 5 ∨ p = 6 ∨ p = 7 ∨ p = 8 ∨ p = 9 ∨ p = 10) with rfl | rfl | rfl | rfl | rfl | rfl | rfl | rfl | rfl | rfl | rfl
  · exact wHD_6_0
  · exact wHD_6_1
  · exact wHD_6_2
  · exact wHD_6_3
  · exact wHD_6_4
  · exact wHD_6_5
  · exact wHD_6_6
  · exact wHD_6_7
  · exact wHD_6_8
  · exact wHD_6_9
  · exact wHD_6_10
theorem wHD_7 {p : Nat} (hp : p < 11) : wHD 7 p := by
  rcases (by omega : p = 0 ∨ p = 1 ∨ p = 2 ∨ p = 3 ∨ p = 4 ∨ p = 5 ∨ p = 6 ∨ p = 7 ∨ p = 8 ∨ p = 9 ∨ p = 10) with rfl | rfl | rfl | rfl | rfl | rfl | rfl | rfl | rfl | rfl | rfl
  · exact wHD_7_0
  · exact wHD_7_1
  · exact wHD_7_2
  · exact wHD_7_3
  · exact wHD_7_4
  · exact wHD_7_5
  · exact wHD_7_6
  · exact wHD_7_7
  · exact wHD_7_8
  · exact wHD_7_9
  · exact wHD_7_10
theorem wHD_all {n p : Nat} (hn : n ≤ 7) (hp : p < 11) : wHD n p := by
  rcases (by omega : n = 0 ∨ n = 1 ∨ n = 2 ∨ n = 3 ∨ n = 4 ∨ n = 5 ∨ n = 6 ∨ n = 7) with rfl | rfl | rfl | rfl | rfl | rfl | rfl | rfl
  · exact wHD_0 hp
  · exact wHD_1 hp
  · exact wHD_2 hp
  · exact wHD_3 hp
  · exact wHD_4 hp
  · exact wHD_5 hp
  · exact wHD_6 hp
  · exact wHD_7 hp
