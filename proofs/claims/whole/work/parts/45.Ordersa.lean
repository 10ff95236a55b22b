theorem b_40_0 {X : zX} {d : Nat} {R : zR} {I : zI} {J : zJ} {r : zA} {x1 : Int32} (k1 : ¬ x1 = (-1) → zEv X d zm_40 (10, [some (.ref 192), some (.int x1)], [], (zS0, R, I, J)) r) (k2 : ¬ (¬ x1 = (-1)) → zEv X d zm_40 (5, [some (.ref 192), some (.int x1)], [], (zS0, R, I, J)) r) : zEv X d zm_40 (0, [some (.ref 192), some (.int x1)], [], (zS0, R, I, J)) r := by
  refine zEv_k 3 (f' := (if ¬ x1 = (-1) then 10 else 5, [some (.ref 192), some (.int x1)], [], (zS0, R, I, J))) rfl ?_
  exact zEv_if k1 k2
theorem b_40_5 {X : zX} {d : Nat} {R : zR} {I : zI} {J : zJ} {x1 : Int32} : zEv X d zm_40 (5, [some (.ref 192), some (.int x1)], [], (zS0, R, I, J)) (some (.int (I 192 0)), (zS0, R, I, J)) := by
  refine zEv_k 2 (f' := (9, [some (.ref 192), some (.int x1)], [.int (I 192 0)], (zS0, R, I, J))) rfl ?_
  exact zEv_r rfl
theorem b_40_10 {X : zX} {d : Nat} {R : zR} {I : zI} {J : zJ} {r : zA} {x1 : Int32} (k1 : x1 < 0 → zEv X d zm_40 (31, [some (.ref 192), some (.int x1)], [], (zS0, R, I, J)) r) (k2 : ¬ (x1 < 0) → zEv X d zm_40 (14, [some (.ref 192), some (.int x1)], [], (zS0, R, I, J)) r) : zEv X d zm_40 (10, [some (.ref 192), some (.int x1)], [], (zS0, R, I, J)) r := by
  refine zEv_k 2 (f' := (if x1 < 0 then 31 else 14, [some (.ref 192), some (.int x1)], [], (zS0, R, I, J))) rfl ?_
  exact zEv_if k1 k2
theorem b_40_14 {X : zX} {d : Nat} {R : zR} {I : zI} {J : zJ} {r : zA} {x1 : Int32} (k1 : (I 192 3) ≤ x1 → zEv X d zm_40 (31, [some (.ref 192), some (.int x1)], [], (zS0, R, I, J)) r) (k2 : ¬ ((I 192 3) ≤ x1) → zEv X d zm_40 (22, [some (.ref 192), some (.int x1)], [], (zS0, R, I, J)) r) : zEv X d zm_40 (14, [some (.ref 192), some (.int x1)], [], (zS0, R, I, J)) r := by
  refine zEv_k 4 (f' := (if (I 192 3) ≤ x1 then 31 else 22, [some (.ref 192), some (.int x1)], [], (zS0, R, I, J))) rfl ?_
  exact zEv_if k1 k2
theorem b_40_22 {X : zX} {d : Nat} {R : zR} {I : zI} {J : zJ} {x1 : Int32} (hR : zRok R) (h27 : zin x1 10) : zEv X d zm_40 (22, [some (.ref 192), some (.int x1)], [], (zS0, R, I, J)) (some (.int (I 193 (x1).toNatClampNeg)), (zS0, R, I, J)) := by
  refine zEv_k 1 (f' := (23, [some (.ref 192), some (.int x1)], [.ref 192], (zS0, R, I, J))) rfl ?_
  refine zEv_gr rfl rfl rfl (by decide) (hR (192) 2 (193) rfl) ?_
  refine zEv_k 1 (f' := (27, [some (.ref 192), some (.int x1)], [.int x1, .ref 193], (zS0, R, I, J))) rfl ?_
  refine zEv_ial rfl rfl (by decide) h27 ?_
  refine zEv_k 1 (f' := (32, [some (.ref 192), some (.int x1)], [.int (I 193 (x1).toNatClampNeg)], (zS0, R, I, J))) rfl ?_
  exact zEv_r rfl
theorem b_40_31 {X : zX} {d : Nat} {R : zR} {I : zI} {J : zJ} {x1 : Int32} : zEv X d zm_40 (31, [some (.ref 192), some (.int x1)], [], (zS0, R, I, J)) (some (.int (-1)), (zS0, R, I, J)) := by
  refine zEv_k 1 (f' := (32, [some (.ref 192), some (.int x1)], [.int (-1)], (zS0, R, I, J))) rfl ?_
  exact zEv_r rfl
theorem b_41_0 {X : zX} {d : Nat} {R : zR} {I : zI} {J : zJ} {r : zA} {c : Nat} {x2 : Int32} (ho : c = 7 ∨ c = 22) (k1 : zEv X d zm_41 (2, [some (.ref 192), some (.ref c), some (.int x2), some (.int 0), none], [], (zS0, R, I, J)) r) : zEv X d zm_41 (0, [some (.ref 192), some (.ref c), some (.int x2), none, none], [], (zS0, R, I, J)) r := by
  rcases ho with rfl | rfl
  · refine zEv_k 2 (f' := (2, [some (.ref 192), some (.ref 7), some (.int x2), some (.int 0), none], [], (zS0, R, I, J))) rfl ?_
    exact k1
  · refine zEv_k 2 (f' := (2, [some (.ref 192), some (.ref 22), some (.int x2), some (.int 0), none], [], (zS0, R, I, J))) rfl ?_
    exact k1
theorem b_41_2 {X : zX} {d : Nat} {R : zR} {I : zI} {J : zJ} {r : zA} {c : Nat} {x2 : Int32} {x3 : Int32} {x4 : Option Value} (ho : c = 7 ∨ c = 22) (k1 : (I c 2) ≤ x3 → zEv X d zm_41 (42, [some (.ref 192), some (.ref c), some (.int x2), some (.int x3), x4], [], (zS0, R, I, J)) r) (k2 : ¬ ((I c 2) ≤ x3) → zEv X d zm_41 (10, [some (.ref 192), some (.ref c), some (.int x2), some (.int x3), x4], [], (zS0, R, I, J)) r) : zEv X d zm_41 (2, [some (.ref 192), some (.ref c), some (.int x2), some (.int x3), x4], [], (zS0, R, I, J)) r := by
  rcases ho with rfl | rfl
  · refine zEv_k 4 (f' := (if (I 7 2) ≤ x3 then 42 else 10, [some (.ref 192), some (.ref 7), some (.int x2), some (.int x3), x4], [], (zS0, R, I, J))) rfl ?_
    exact zEv_if k1 k2
  · refine zEv_k 4 (f' := (if (I 22 2) ≤ x3 then 42 else 10, [some (.ref 192), some (.ref 22), some (.int x2), some (.int x3), x4], [], (zS0, R, I, J))) rfl ?_
    exact zEv_if k1 k2
theorem b_41_10 {X : zX} {d : Nat} {R : zR} {I : zI} {J : zJ} {r : zA} {c : Nat} {x2 : Int32} {x3 : Int32} {x4 : Option Value} {w : Int32} {R' : zR} {I' : zI} {J' : zJ} (ho : c = 7 ∨ c = 22) (hc : zEv X d zm_9 (0, [some (.ref c), some (.int x3), none], [], (zS0, R, I, J)) (some (.int w), (zS0, R', I', J'))) (k1 : zEv X (d + 1) zm_41 (15, [some (.ref 192), some (.ref c), some (.int x2), some (.int x3), x4], [.int w], (zS0, R', I', J')) r) : zEv X (d + 1) zm_41 (10, [some (.ref 192), some (.ref c), some (.int x2), some (.int x3), x4], [], (zS0, R, I, J)) r := by
  rcases ho with rfl | rfl
  · refine zEv_k 2 (f' := (12, [some (.ref 192), some (.ref 7), some (.int x2), some (.int x3), x4], [.int x3, .ref 7], (zS0, R, I, J))) rfl ?_
    exact zEv_c (fun _ => rfl) rfl hc rfl rfl k1
  · refine zEv_k 2 (f' := (12, [some (.ref 192), some (.ref 22), some (.int x2), some (.int x3), x4], [.int x3, .ref 22], (zS0, R, I, J))) rfl ?_
    exact zEv_c (fun _ => rfl) rfl hc rfl rfl k1
theorem b_41_15 {X : zX} {d : Nat} {R : zR} {I : zI} {J : zJ} {r : zA} {c : Nat} {x2 : Int32} {x3 : Int32} {x4 : Option Value} {s0 : Int32} (hR : zRok R) (ho : c = 7 ∨ c = 22) (k1 : ¬ s0 = (-1) → zEv X d zm_41 (33, [some (.ref 192), some (.ref c), some (.int x2), some (.int x3), some (.int s0)], [.int x3, .ref 195], (zS0, R, I, J)) r) (k2 : ¬ (¬ s0 = (-1)) → zEv X d zm_41 (28, [some (.ref 192), some (.ref c), some (.int x2), some (.int x3), some (.int s0)], [.int x3, .ref 195], (zS0, R, I, J)) r) : zEv X d zm_41 (15, [some (.ref 192), some (.ref c), some (.int x2), some (.int x3), x4], [.int s0], (zS0, R, I, J)) r := by
  rcases ho with rfl | rfl
  · refine zEv_k 2 (f' := (18, [some (.ref 192), some (.ref 7), some (.int x2), some (.int x3), some (.int s0)], [.ref 192], (zS0, R, I, J))) rfl ?_
    refine zEv_gr rfl rfl rfl (by decide) (hR (192) 5 (195) rfl) ?_
    refine zEv_k 4 (f' := (if ¬ s0 = (-1) then 33 else 28, [some (.ref 192), some (.ref 7), some (.int x2), some (.int x3), some (.int s0)], [.int x3, .ref 195], (zS0, R, I, J))) rfl ?_
    exact zEv_if k1 k2
  · refine zEv_k 2 (f' := (18, [some (.ref 192), some (.ref 22), some (.int x2), some (.int x3), some (.int s0)], [.ref 192], (zS0, R, I, J))) rfl ?_
    refine zEv_gr rfl rfl rfl (by decide) (hR (192) 5 (195) rfl) ?_
    refine zEv_k 4 (f' := (if ¬ s0 = (-1) then 33 else 28, [some (.ref 192), some (.ref 22), some (.int x2), some (.int x3), some (.int s0)], [.int x3, .ref 195], (zS0, R, I, J))) rfl ?_
    exact zEv_if k1 k2
theorem b_41_28 {X : zX} {d : Nat} {R : zR} {I : zI} {J : zJ} {r : zA} {c : Nat} {x2 : Int32} {x3 : Int32} {x4 : Int32} {s1 : Int32} (ho : c = 7 ∨ c = 22) (k1 : zEv X d zm_41 (35, [some (.ref 192), some (.ref c), some (.int x2), some (.int x3), some (.int x4)], [.int 51, .int s1, .ref 195], (zS0, R, I, J)) r) : zEv X d zm_41 (28, [some (.ref 192), some (.ref c), some (.int x2), some (.int x3), some (.int x4)], [.int s1, .ref 195], (zS0, R, I, J)) r := by
  rcases ho with rfl | rfl
  · refine zEv_k 2 (f' := (35, [some (.ref 192), some (.ref 7), some (.int x2), some (.int x3), some (.int x4)], [.int 51, .int s1, .ref 195], (zS0, R, I, J))) rfl ?_
    exact k1
  · refine zEv_k 2 (f' := (35, [some (.ref 192), some (.ref 22), some (.int x2), some (.int x3), some (.int x4)], [.int 51, .int s1, .ref 195], (zS0, R, I, J))) rfl ?_
    exact k1
theorem b_41_33 {X : zX} {d : Nat} {R : zR} {I : zI} {J : zJ} {r : zA} {c : Nat} {x2 : Int32} {x3 : Int32} {x4 : Int32} {s1 : Int32} (ho : c = 7 ∨ c = 22) (k1 : zEv X d zm_41 (35, [some (.ref 192), some (.ref c), some (.int x2), some (.int x3), some (.int x4)], [.int x4, .int s1, .ref 195], (zS0, R, I, J)) r) : zEv X d zm_41 (33, [some (.ref 192), some (.ref c), some (.int x2), some (.int x3), some (.int x4)], [.int s1, .ref 195], (zS0, R, I, J)) r := by
  rcases ho with rfl | rfl
  · refine zEv_k 1 (f' := (35, [some (.ref 192), some (.ref 7), some (.int x2), some (.int x3), some (.int x4)], [.int x4, .int s1, .ref 195], (zS0, R, I, J))) rfl ?_
    exact k1
  · refine zEv_k 1 (f' := (35, [some (.ref 192), some (.ref 22), some (.int x2), some (.int x3), some (.int x4)], [.int x4, .int s1, .ref 195], (zS0, R, I, J))) rfl ?_
    exact k1
theorem b_41_35 {X : zX} {d : Nat} {R : zR} {I : zI} {J : zJ} {r : zA} {c : Nat} {x2 : Int32} {x3 : Int32} {x4 : Int32} {s1 : Int32} {s2 : Int32} (ho : c = 7 ∨ c = 22) (h35 : zin s1 7) (k1 : zEv X d zm_41 (2, [some (.ref 192), some (.ref c), some (.int x2), some (.int (x3 + 1)), some (.int x4)], [], (zS0, R, zu I 195 (s1).toNatClampNeg s2, J)) r) : zEv X d zm_41 (35, [some (.ref 192), some (.ref c), some (.int x2), some (.int x3), some (.int x4)], [.int s2, .int s1, .ref 195], (zS0, R, I, J)) r := by
  rcases ho with rfl | rfl
  · refine zEv_ias rfl rfl (by decide) h35 ?_
    refine zEv_k 2 (f' := (2, [some (.ref 192), some (.ref 7), some (.int x2), some (.int (x3 + 1)), some (.int x4)], [], (zS0, R, zu I 195 (s1).toNatClampNeg s2, J))) rfl ?_
    exact k1
  · refine zEv_ias rfl rfl (by decide) h35 ?_
    refine zEv_k 2 (f' := (2, [some (.ref 192), some (.ref 22), some (.int x2), some (.int (x3 + 1)), some (.int x4)], [], (zS0, R, zu I 195 (s1).toNatClampNeg s2, J))) rfl ?_
    exact k1
theorem b_41_42 {X : zX} {d : Nat} {R : zR} {I : zI} {J : zJ} {r : zA} {c : Nat} {x2 : Int32} {x3 : Int32} {x4 : Option Value} (ho : c = 7 ∨ c = 22) (k1 : zEv X d zm_41 (44, [some (.ref 192), some (.ref c), some (.int x2), some (.int 0), x4], [], (zS0, R, I, J)) r) : zEv X d zm_41 (42, [some (.ref 192), some (.ref c), some (.int x2), some (.int x3), x4], [], (zS0, R, I, J)) r := by
  rcases ho with rfl | rfl
  · refine zEv_k 2 (f' := (44, [some (.ref 192), some (.ref 7), some (.int x2), some (.int 0), x4], [], (zS0, R, I, J))) rfl ?_
    exact k1
  · refine zEv_k 2 (f' := (44, [some (.ref 192), some (.ref 22), some (.int x2), some (.int 0), x4], [], (zS0, R, I, J))) rfl ?_
    exact k1
theorem b_41_44 {X : zX} {d : Nat} {R : zR} {I : zI} {J : zJ} {r : zA} {c : Nat} {x2 : Int32} {x3 : Int32} {x4 : Option Value} {w : Int32} {R' : zR} {I' : zI} {J' : zJ} (ho : c = 7 ∨ c = 22) (hc : zEv X d zm_7 (0, [some (.ref c)], [], (zS0, R, I, J)) (some (.int w), (zS0, R', I', J'))) (k1 : zEv X (d + 1) zm_41 (49, [some (.ref 192), some (.ref c), some (.int x2), some (.int x3), x4], [.int w, .int x3], (zS0, R', I', J')) r) : zEv X (d + 1) zm_41 (44, [some (.ref 192), some (.ref c), some (.int x2), some (.int x3), x4], [], (zS0, R, I, J)) r := by
  rcases ho with rfl | rfl
  · refine zEv_k 2 (f' := (46, [some (.ref 192), some (.ref 7), some (.int x2), some (.int x3), x4], [.ref 7, .int x3], (zS0, R, I, J))) rfl ?_
    exact zEv_c (fun _ => rfl) rfl hc rfl rfl k1
  · refine zEv_k 2 (f' := (46, [some (.ref 192), some (.ref 22), some (.int x2), some (.int x3), x4], [.ref 22, .int x3], (zS0, R, I, J))) rfl ?_
    exact zEv_c (fun _ => rfl) rfl hc rfl rfl k1
theorem b_41_49 {X : zX} {d : Nat} {R : zR} {I : zI} {J : zJ} {r : zA} {c : Nat} {x2 : Int32} {x3 : Int32} {x4 : Option Value} {s0 : Int32} {s1 : Int32} (ho : c = 7 ∨ c = 22) (k1 : s1 < s0 → zEv X d zm_41 (71, [some (.ref 192), some (.ref c), some (.int x2), some (.int x3), x4], [], (zS0, R, I, J)) r) (k2 : ¬ (s1 < s0) → zEv X d zm_41 (52, [some (.ref 192), some (.ref c), some (.int x2), some (.int x3), x4], [], (zS0, R, I, J)) r) : zEv X d zm_41 (49, [some (.ref 192), some (.ref c), some (.int x2), some (.int x3), x4], [.int s1, .int s0], (zS0, R, I, J)) r := by
  rcases ho with rfl | rfl
  · refine zEv_k 1 (f' := (if s1 < s0 then 71 else 52, [some (.ref 192), some (.ref 7), some (.int x2), some (.int x3), x4], [], (zS0, R, I, J))) rfl ?_
    exact zEv_if k1 k2
  · refine zEv_k 1 (f' := (if s1 < s0 then 71 else 52, [some (.ref 192), some (.ref 22), some (.int x2), some (.int x3), x4], [], (zS0, R, I, J))) rfl ?_
    exact zEv_if k1 k2
theorem b_41_52 {X : zX} {d : Nat} {R : zR} {I : zI} {J : zJ} {r : zA} {c : Nat} {x2 : Int32} {x3 : Int32} {x4 : Option Value} (hR : zRok R) (ho : c = 7 ∨ c = 22) (h64 : zin ((x2 * 128) + x3) 1408) (k1 : zEv X d zm_41 (44, [some (.ref 192), some (.ref c), some (.int x2), some (.int (x3 + 1)), x4], [], (zS0, R, zu I 194 ((x2 * 128) + x3).toNatClampNeg 0, J)) r) : zEv X d zm_41 (52, [some (.ref 192), some (.ref c), some (.int x2), some (.int x3), x4], [], (zS0, R, I, J)) r := by
  rcases ho with rfl | rfl
  · refine zEv_k 1 (f' := (53, [some (.ref 192), some (.ref 7), some (.int x2), some (.int x3), x4], [.ref 192], (zS0, R, I, J))) rfl ?_
    refine zEv_gr rfl rfl rfl (by decide) (hR (192) 4 (194) rfl) ?_
    refine zEv_k 6 (f' := (64, [some (.ref 192), some (.ref 7), some (.int x2), some (.int x3), x4], [.int 0, .int ((x2 * 128) + x3), .ref 194], (zS0, R, I, J))) rfl ?_
    refine zEv_ias rfl rfl (by decide) h64 ?_
    refine zEv_k 2 (f' := (44, [some (.ref 192), some (.ref 7), some (.int x2), some (.int (x3 + 1)), x4], [], (zS0, R, zu I 194 ((x2 * 128) + x3).toNatClampNeg 0, J))) rfl ?_
    exact k1
  · refine zEv_k 1 (f' := (53, [some (.ref 192), some (.ref 22), some (.int x2), some (.int x3), x4], [.ref 192], (zS0, R, I, J))) rfl ?_
    refine zEv_gr rfl rfl rfl (by decide) (hR (192) 4 (194) rfl) ?_
    refine zEv_k 6 (f' := (64, [some (.ref 192), some (.ref 22), some (.int x2), some (.int x3), x4], [.int 0, .int ((x2 * 128) + x3), .ref 194], (zS0, R, I, J))) rfl ?_
    refine zEv_ias rfl rfl (by decide) h64 ?_
    refine zEv_k 2 (f' := (44, [some (.ref 192), some (.ref 22), some (.int x2), some (.int (x3 + 1)), x4], [], (zS0, R, zu I 194 ((x2 * 128) + x3).toNatClampNeg 0, J))) rfl ?_
    exact k1
theorem b_41_71 {X : zX} {d : Nat} {R : zR} {I : zI} {J : zJ} {r : zA} {c : Nat} {x2 : Int32} {x3 : Int32} {x4 : Option Value} (ho : c = 7 ∨ c = 22) (k1 : zEv X d zm_41 (75, [some (.ref 192), some (.ref c), some (.int x2), some (.int (x2 - 1)), x4], [], (zS0, R, I, J)) r) : zEv X d zm_41 (71, [some (.ref 192), some (.ref c), some (.int x2), some (.int x3), x4], [], (zS0, R, I, J)) r := by
  rcases ho with rfl | rfl
  · refine zEv_k 4 (f' := (75, [some (.ref 192), some (.ref 7), some (.int x2), some (.int (x2 - 1)), x4], [], (zS0, R, I, J))) rfl ?_
    exact k1
  · refine zEv_k 4 (f' := (75, [some (.ref 192), some (.ref 22), some (.int x2), some (.int (x2 - 1)), x4], [], (zS0, R, I, J))) rfl ?_
    exact k1
theorem b_41_75 {X : zX} {d : Nat} {R : zR} {I : zI} {J : zJ} {r : zA} {c : Nat} {x2 : Int32} {x3 : Int32} {x4 : Option Value} (ho : c = 7 ∨ c = 22) (k1 : x3 < 0 → zEv X d zm_41 (141, [some (.ref 192), some (.ref c), some (.int x2), some (.int x3), x4], [], (zS0, R, I, J)) r) (k2 : ¬ (x3 < 0) → zEv X d zm_41 (79, [some (.ref 192), some (.ref c), some (.int x2), some (.int x3), x4], [], (zS0, R, I, J)) r) : zEv X d zm_41 (75, [some (.ref 192), some (.ref c), some (.int x2), some (.int x3), x4], [], (zS0, R, I, J)) r := by
  rcases ho with rfl | rfl
  · refine zEv_k 2 (f' := (if x3 < 0 then 141 else 79, [some (.ref 192), some (.ref 7), some (.int x2), some (.int x3), x4], [], (zS0, R, I, J))) rfl ?_
    exact zEv_if k1 k2
  · refine zEv_k 2 (f' := (if x3 < 0 then 141 else 79, [some (.ref 192), some (.ref 22), some (.int x2), some (.int x3), x4], [], (zS0, R, I, J))) rfl ?_
    exact zEv_if k1 k2
theorem b_41_79 {X : zX} {d : Nat} {R : zR} {I : zI} {J : zJ} {r : zA} {c : Nat} {x2 : Int32} {x3 : Int32} {x4 : Option Value} (ho : c = 7 ∨ c = 22) (k1 : zEv X d zm_41 (82, [some (.ref 192), some (.ref c), some (.int x2), some (.int x3), some (.int 0)], [], (zS0, R, I, J)) r) : zEv X d zm_41 (79, [some (.ref 192), some (.ref c), some (.int x2), some (.int x3), x4], [], (zS0, R, I, J)) r := by
  rcases ho with rfl | rfl
  · refine zEv_k 2 (f' := (82, [some (.ref 192), some (.ref 7), some (.int x2), some (.int x3), some (.int 0)], [], (zS0, R, I, J))) rfl ?_
    exact k1
  · refine zEv_k 2 (f' := (82, [some (.ref 192), some (.ref 22), some (.int x2), some (.int x3), some (.int 0)], [], (zS0, R, I, J))) rfl ?_
    exact k1
theorem b_41_82 {X : zX} {d : Nat} {R : zR} {I : zI} {J : zJ} {r : zA} {c : Nat} {x2 : Int32} {x3 : Int32} {x4 : Int32} {w : Int32} {R' : zR} {I' : zI} {J' : zJ} (ho : c = 7 ∨ c = 22) (hc : zEv X d zm_7 (0, [some (.ref c)], [], (zS0, R, I, J)) (some (.int w), (zS0, R', I', J'))) (k1 : zEv X (d + 1) zm_41 (88, [some (.ref 192), some (.ref c), some (.int x2), some (.int x3), some (.int x4)], [.int w, .int x4], (zS0, R', I', J')) r) : zEv X (d + 1) zm_41 (82, [some (.ref 192), some (.ref c), some (.int x2), some (.int x3), some (.int x4)], [], (zS0, R, I, J)) r := by
  rcases ho with rfl | rfl
  · refine zEv_k 2 (f' := (85, [some (.ref 192), some (.ref 7), some (.int x2), some (.int x3), some (.int x4)], [.ref 7, .int x4], (zS0, R, I, J))) rfl ?_
    exact zEv_c (fun _ => rfl) rfl hc rfl rfl k1
  · refine zEv_k 2 (f' := (85, [some (.ref 192), some (.ref 22), some (.int x2), some (.int x3), some (.int x4)], [.ref 22, .int x4], (zS0, R, I, J))) rfl ?_
    exact zEv_c (fun _ => rfl) rfl hc rfl rfl k1
theorem b_41_88 {X : zX} {d : Nat} {R : zR} {I : zI} {J : zJ} {r : zA} {c : Nat} {x2 : Int32} {x3 : Int32} {x4 : Int32} {s0 : Int32} {s1 : Int32} (ho : c = 7 ∨ c = 22) (k1 : s1 < s0 → zEv X d zm_41 (135, [some (.ref 192), some (.ref c), some (.int x2), some (.int x3), some (.int x4)], [], (zS0, R, I, J)) r) (k2 : ¬ (s1 < s0) → zEv X d zm_41 (91, [some (.ref 192), some (.ref c), some (.int x2), some (.int x3), some (.int x4)], [], (zS0, R, I, J)) r) : zEv X d zm_41 (88, [some (.ref 192), some (.ref c), some (.int x2), some (.int x3), some (.int x4)], [.int s1, .int s0], (zS0, R, I, J)) r := by
  rcases ho with rfl | rfl
  · refine zEv_k 1 (f' := (if s1 < s0 then 135 else 91, [some (.ref 192), some (.ref 7), some (.int x2), some (.int x3), some (.int x4)], [], (zS0, R, I, J))) rfl ?_
    exact zEv_if k1 k2
  · refine zEv_k 1 (f' := (if s1 < s0 then 135 else 91, [some (.ref 192), some (.ref 22), some (.int x2), some (.int x3), some (.int x4)], [], (zS0, R, I, J))) rfl ?_
    exact zEv_if k1 k2
theorem b_41_91 {X : zX} {d : Nat} {R : zR} {I : zI} {J : zJ} {r : zA} {c : Nat} {x2 : Int32} {x3 : Int32} {x4 : Int32} {w : Int32} {R' : zR} {I' : zI} {J' : zJ} (ho : c = 7 ∨ c = 22) (hc : zEv X d zm_286 (0, [some (.int x4)], [], (zS0, R, I, J)) (some (.int w), (zS0, R', I', J'))) (k1 : zEv X (d + 1) zm_41 (96, [some (.ref 192), some (.ref c), some (.int x2), some (.int x3), some (.int x4)], [.int w], (zS0, R', I', J')) r) : zEv X (d + 1) zm_41 (91, [some (.ref 192), some (.ref c), some (.int x2), some (.int x3), some (.int x4)], [], (zS0, R, I, J)) r := by
  rcases ho with rfl | rfl
  · refine zEv_k 1 (f' := (93, [some (.ref 192), some (.ref 7), some (.int x2), some (.int x3), some (.int x4)], [.int x4], (zS0, R, I, J))) rfl ?_
    exact zEv_c (fun _ => rfl) rfl hc rfl rfl k1
  · refine zEv_k 1 (f' := (93, [some (.ref 192), some (.ref 22), some (.int x2), some (.int x3), some (.int x4)], [.int x4], (zS0, R, I, J))) rfl ?_
    exact zEv_c (fun _ => rfl) rfl hc rfl rfl k1
theorem b_41_96 {X : zX} {d : Nat} {R : zR} {I : zI} {J : zJ} {r : zA} {c : Nat} {x2 : Int32} {x3 : Int32} {x4 : Int32} {s0 : Int32} (ho : c = 7 ∨ c = 22) (k1 : x3 < s0 → zEv X d zm_41 (129, [some (.ref 192), some (.ref c), some (.int x2), some (.int x3), some (.int x4)], [], (zS0, R, I, J)) r) (k2 : ¬ (x3 < s0) → zEv X d zm_41 (100, [some (.ref 192), some (.ref c), some (.int x2), some (.int x3), some (.int x4)], [], (zS0, R, I, J)) r) : zEv X d zm_41 (96, [some (.ref 192), some (.ref c), some (.int x2), some (.int x3), some (.int x4)], [.int s0], (zS0, R, I, J)) r := by
  rcases ho with rfl | rfl
  · refine zEv_k 2 (f' := (if x3 < s0 then 129 else 100, [some (.ref 192), some (.ref 7), some (.int x2), some (.int x3), some (.int x4)], [], (zS0, R, I, J))) rfl ?_
    exact zEv_if k1 k2
  · refine zEv_k 2 (f' := (if x3 < s0 then 129 else 100, [some (.ref 192), some (.ref 22), some (.int x2), some (.int x3), some (.int x4)], [], (zS0, R, I, J))) rfl ?_
    exact zEv_if k1 k2
theorem b_41_100 {X : zX} {d : Nat} {R : zR} {I : zI} {J : zJ} {r : zA} {c : Nat} {x2 : Int32} {x3 : Int32} {x4 : Int32} {w : Int32} {R' : zR} {I' : zI} {J' : zJ} (hR : zRok R) (ho : c = 7 ∨ c = 22) (hc : zEv X d zm_44 (0, [some (.ref 192), some (.ref c), some (.int x3), some (.int x4), none, none, none], [], (zS0, R, I, J)) (some (.int w), (zS0, R', I', J'))) (k1 : zEv X (d + 1) zm_41 (125, [some (.ref 192), some (.ref c), some (.int x2), some (.int x3), some (.int x4)], [.int w, .int x4, .int x3, .ref c, .ref 192, .int ((x3 * 128) + x4), .ref 194], (zS0, R', I', J')) r) : zEv X (d + 1) zm_41 (100, [some (.ref 192), some (.ref c), some (.int x2), some (.int x3), some (.int x4)], [], (zS0, R, I, J)) r := by
  rcases ho with rfl | rfl
  · refine zEv_k 1 (f' := (101, [some (.ref 192), some (.ref 7), some (.int x2), some (.int x3), some (.int x4)], [.ref 192], (zS0, R, I, J))) rfl ?_
    refine zEv_gr rfl rfl rfl (by decide) (hR (192) 4 (194) rfl) ?_
    refine zEv_k 9 (f' := (117, [some (.ref 192), some (.ref 7), some (.int x2), some (.int x3), some (.int x4)], [.int x4, .int x3, .ref 7, .ref 192, .int ((x3 * 128) + x4), .ref 194], (zS0, R, I, J))) rfl ?_
    refine zEv_k 4 (f' := (122, [some (.ref 192), some (.ref 7), some (.int x2), some (.int x3), some (.int x4)], [.int x4, .int x3, .ref 7, .ref 192, .int x4, .int x3, .ref 7, .ref 192, .int ((x3 * 128) + x4), .ref 194], (zS0, R, I, J))) rfl ?_
    exact zEv_c (fun _ => rfl) rfl hc rfl rfl k1
  · refine zEv_k 1 (f' := (101, [some (.ref 192), some (.ref 22), some (.int x2), some (.int x3), some (.int x4)], [.ref 192], (zS0, R, I, J))) rfl ?_
    refine zEv_gr rfl rfl rfl (by decide) (hR (192) 4 (194) rfl) ?_
    refine zEv_k 9 (f' := (117, [some (.ref 192), some (.ref 22), some (.int x2), some (.int x3), some (.int x4)], [.int x4, .int x3, .ref 22, .ref 192, .int ((x3 * 128) + x4), .ref 194], (zS0, R, I, J))) rfl ?_
    refine zEv_k 4 (f' := (122, [some (.ref 192), some (.ref 22), some (.int x2), some (.int x3), some (.int x4)], [.int x4, .int x3, .ref 22, .ref 192, .int x4, .int x3, .ref 22, .ref 192, .int ((x3 * 128) + x4), .ref 194], (zS0, R, I, J))) rfl ?_
    exact zEv_c (fun _ => rfl) rfl hc rfl rfl k1
theorem b_41_125 {X : zX} {d : Nat} {R : zR} {I : zI} {J : zJ} {r : zA} {c : Nat} {x2 : Int32} {x3 : Int32} {x4 : Int32} {s1 : Int32} {s4 : Int32} {s5 : Int32} {s6 : Int32} {w : Int32} {R' : zR} {I' : zI} {J' : zJ} (ho : c = 7 ∨ c = 22) (hc : zEv X d zm_43 (0, [some (.ref 192), some (.ref c), some (.int s4), some (.int s5), some (.int s6), none], [], (zS0, R, I, J)) (some (.int w), (zS0, R', I', J'))) (k1 : zEv X (d + 1) zm_41 (128, [some (.ref 192), some (.ref c), some (.int x2), some (.int x3), some (.int x4)], [.int w, .int s1, .ref 194], (zS0, R', I', J')) r) : zEv X (d + 1) zm_41 (125, [some (.ref 192), some (.ref c), some (.int x2), some (.int x3), some (.int x4)], [.int s6, .int s5, .int s4, .ref c, .ref 192, .int s1, .ref 194], (zS0, R, I, J)) r := by
  rcases ho with rfl | rfl
  · exact zEv_c (fun _ => rfl) rfl hc rfl rfl k1
  · exact zEv_c (fun _ => rfl) rfl hc rfl rfl k1
theorem b_41_128 {X : zX} {d : Nat} {R : zR} {I : zI} {J : zJ} {r : zA} {c : Nat} {x2 : Int32} {x3 : Int32} {x4 : Int32} {s1 : Int32} {s2 : Int32} (ho : c = 7 ∨ c = 22) (h128 : zin s1 1408) (k1 : zEv X d zm_41 (129, [some (.ref 192), some (.ref c), some (.int x2), some (.int x3), some (.int x4)], [], (zS0, R, zu I 194 (s1).toNatClampNeg s2, J)) r) : zEv X d zm_41 (128, [some (.ref 192), some (.ref c), some (.int x2), some (.int x3), some (.int x4)], [.int s2, .int s1, .ref 194], (zS0, R, I, J)) r := by
  rcases ho with rfl | rfl
  · refine zEv_ias rfl rfl (by decide) h128 ?_
    exact k1
  · refine zEv_ias rfl rfl (by decide) h128 ?_
    exact k1
theorem b_41_129 {X : zX} {d : Nat} {R : zR} {I : zI} {J : zJ} {r : zA} {c : Nat} {x2 : Int32} {x3 : Int32} {x4 : Int32} (ho : c = 7 ∨ c = 22) (k1 : zEv X d zm_41 (82, [some (.ref 192), some (.ref c), some (.int x2), some (.int x3), some (.int (x4 + 1))], [], (zS0, R, I, J)) r) : zEv X d zm_41 (129, [some (.ref 192), some (.ref c), some (.int x2), some (.int x3), some (.int x4)], [], (zS0, R, I, J)) r := by
  rcases ho with rfl | rfl
  · refine zEv_k 2 (f' := (82, [some (.ref 192), some (.ref 7), some (.int x2), some (.int x3), some (.int (x4 + 1))], [], (zS0, R, I, J))) rfl ?_
    exact k1
  · refine zEv_k 2 (f' := (82, [some (.ref 192), some (.ref 22), some (.int x2), some (.int x3), some (.int (x4 + 1))], [], (zS0, R, I, J))) rfl ?_
    exact k1
theorem b_41_135 {X : zX} {d : Nat} {R : zR} {I : zI} {J : zJ} {r : zA} {c : Nat} {x2 : Int32} {x3 : Int32} {x4 : Int32} (ho : c = 7 ∨ c = 22) (k1 : zEv X d zm_41 (75, [some (.ref 192), some (.ref c), some (.int x2), some (.int (x3 + (-1))), some (.int x4)], [], (zS0, R, I, J)) r) : zEv X d zm_41 (135, [some (.ref 192), some (.ref c), some (.int x2), some (.int x3), some (.int x4)], [], (zS0, R, I, J)) r := by
  rcases ho with rfl | rfl
  · refine zEv_k 2 (f' := (75, [some (.ref 192), some (.ref 7), some (.int x2), some (.int (x3 + (-1))), some (.int x4)], [], (zS0, R, I, J))) rfl ?_
    exact k1
  · refine zEv_k 2 (f' := (75, [some (.ref 192), some (.ref 22), some (.int x2), some (.int (x3 + (-1))), some (.int x4)], [], (zS0, R, I, J))) rfl ?_
    exact k1
theorem b_41_141 {X : zX} {d : Nat} {R : zR} {I : zI} {J : zJ} {r : zA} {c : Nat} {x2 : Int32} {x3 : Int32} {x4 : Option Value} (hR : zRok R) (ho : c = 7 ∨ c = 22) (k1 : zEv X d zm_41 (156, [some (.ref 192), some (.ref c), some (.int x2), some (.int 0), some (.int 0)], [], (zS0, R, zu I 192 0 (I 194 (0 : Int32).toNatClampNeg), J)) r) : zEv X d zm_41 (141, [some (.ref 192), some (.ref c), some (.int x2), some (.int x3), x4], [], (zS0, R, I, J)) r := by
  rcases ho with rfl | rfl
  · refine zEv_k 2 (f' := (143, [some (.ref 192), some (.ref 7), some (.int x2), some (.int x3), x4], [.ref 192, .ref 192], (zS0, R, I, J))) rfl ?_
    refine zEv_gr rfl rfl rfl (by decide) (hR (192) 4 (194) rfl) ?_
    refine zEv_k 1 (f' := (147, [some (.ref 192), some (.ref 7), some (.int x2), some (.int x3), x4], [.int 0, .ref 194, .ref 192], (zS0, R, I, J))) rfl ?_
    refine zEv_ial rfl rfl (by decide) (by unfold zin; decide) ?_
    refine zEv_k 5 (f' := (156, [some (.ref 192), some (.ref 7), some (.int x2), some (.int 0), some (.int 0)], [], (zS0, R, zu I 192 0 (I 194 (0 : Int32).toNatClampNeg), J))) rfl ?_
    exact k1
  · refine zEv_k 2 (f' := (143, [some (.ref 192), some (.ref 22), some (.int x2), some (.int x3), x4], [.ref 192, .ref 192], (zS0, R, I, J))) rfl ?_
    refine zEv_gr rfl rfl rfl (by decide) (hR (192) 4 (194) rfl) ?_
    refine zEv_k 1 (f' := (147, [some (.ref 192), some (.ref 22), some (.int x2), some (.int x3), x4], [.int 0, .ref 194, .ref 192], (zS0, R, I, J))) rfl ?_
    refine zEv_ial rfl rfl (by decide) (by unfold zin; decide) ?_
    refine zEv_k 5 (f' := (156, [some (.ref 192), some (.ref 22), some (.int x2), some (.int 0), some (.int 0)], [], (zS0, R, zu I 192 0 (I 194 (0 : Int32).toNatClampNeg), J))) rfl ?_
    exact k1
theorem b_41_156 {X : zX} {d : Nat} {R : zR} {I : zI} {J : zJ} {r : zA} {c : Nat} {x2 : Int32} {x3 : Int32} {x4 : Int32} (ho : c = 7 ∨ c = 22) (k1 : x2 ≤ x4 → zEv X d zm_41 (195, [some (.ref 192), some (.ref c), some (.int x2), some (.int x3), some (.int x4)], [], (zS0, R, I, J)) r) (k2 : ¬ (x2 ≤ x4) → zEv X d zm_41 (162, [some (.ref 192), some (.ref c), some (.int x2), some (.int x3), some (.int x4)], [], (zS0, R, I, J)) r) : zEv X d zm_41 (156, [some (.ref 192), some (.ref c), some (.int x2), some (.int x3), some (.int x4)], [], (zS0, R, I, J)) r := by
  rcases ho with rfl | rfl
  · refine zEv_k 3 (f' := (if x2 ≤ x4 then 195 else 162, [some (.ref 192), some (.ref 7), some (.int x2), some (.int x3), some (.int x4)], [], (zS0, R, I, J))) rfl ?_
    exact zEv_if k1 k2
  · refine zEv_k 3 (f' := (if x2 ≤ x4 then 195 else 162, [some (.ref 192), some (.ref 22), some (.int x2), some (.int x3), some (.int x4)], [], (zS0, R, I, J))) rfl ?_
    exact zEv_if k1 k2
theorem b_41_162 {X : zX} {d : Nat} {R : zR} {I : zI} {J : zJ} {r : zA} {c : Nat} {x2 : Int32} {x3 : Int32} {x4 : Int32} {w : Int32} {R' : zR} {I' : zI} {J' : zJ} (hR : zRok R) (ho : c = 7 ∨ c = 22) (hc : zEv X d zm_44 (0, [some (.ref 192), some (.ref c), some (.int x4), some (.int x3), none, none, none], [], (zS0, R, I, J)) (some (.int w), (zS0, R', I', J'))) (k1 : zEv X (d + 1) zm_41 (176, [some (.ref 192), some (.ref c), some (.int x2), some (.int x3), some (.int x4)], [.int w, .int x4, .ref 193], (zS0, R', I', J')) r) : zEv X (d + 1) zm_41 (162, [some (.ref 192), some (.ref c), some (.int x2), some (.int x3), some (.int x4)], [], (zS0, R, I, J)) r := by
  rcases ho with rfl | rfl
  · refine zEv_k 1 (f' := (163, [some (.ref 192), some (.ref 7), some (.int x2), some (.int x3), some (.int x4)], [.ref 192], (zS0, R, I, J))) rfl ?_
    refine zEv_gr rfl rfl rfl (by decide) (hR (192) 2 (193) rfl) ?_
    refine zEv_k 5 (f' := (173, [some (.ref 192), some (.ref 7), some (.int x2), some (.int x3), some (.int x4)], [.int x3, .int x4, .ref 7, .ref 192, .int x4, .ref 193], (zS0, R, I, J))) rfl ?_
    exact zEv_c (fun _ => rfl) rfl hc rfl rfl k1
  · refine zEv_k 1 (f' := (163, [some (.ref 192), some (.ref 22), some (.int x2), some (.int x3), some (.int x4)], [.ref 192], (zS0, R, I, J))) rfl ?_
    refine zEv_gr rfl rfl rfl (by decide) (hR (192) 2 (193) rfl) ?_
    refine zEv_k 5 (f' := (173, [some (.ref 192), some (.ref 22), some (.int x2), some (.int x3), some (.int x4)], [.int x3, .int x4, .ref 22, .ref 192, .int x4, .ref 193], (zS0, R, I, J))) rfl ?_
    exact zEv_c (fun _ => rfl) rfl hc rfl rfl k1
theorem b_41_176 {X : zX} {d : Nat} {R : zR} {I : zI} {J : zJ} {r : zA} {c : Nat} {x2 : Int32} {x3 : Int32} {x4 : Int32} {s1 : Int32} {s2 : Int32} {w : Int32} {R' : zR} {I' : zI} {J' : zJ} (hR : zRok R) (ho : c = 7 ∨ c = 22) (h176 : zin s1 10) (h184 : zin x4 10) (hc : zEv X d zm_42 (0, [some (.int x3), some (.int ((zu I 193 (s1).toNatClampNeg s2) 193 (x4).toNatClampNeg))], [], (zS0, R, zu I 193 (s1).toNatClampNeg s2, J)) (some (.int w), (zS0, R', I', J'))) (k1 : zEv X (d + 1) zm_41 (188, [some (.ref 192), some (.ref c), some (.int x2), some (.int x3), some (.int x4)], [.int w], (zS0, R', I', J')) r) : zEv X (d + 1) zm_41 (176, [some (.ref 192), some (.ref c), some (.int x2), some (.int x3), some (.int x4)], [.int s2, .int s1, .ref 193], (zS0, R, I, J)) r := by
  rcases ho with rfl | rfl
  · refine zEv_ias rfl rfl (by decide) h176 ?_
    refine zEv_k 2 (f' := (179, [some (.ref 192), some (.ref 7), some (.int x2), some (.int x3), some (.int x4)], [.ref 192, .int x3], (zS0, R, zu I 193 (s1).toNatClampNeg s2, J))) rfl ?_
    refine zEv_gr rfl rfl rfl (by decide) (hR (192) 2 (193) rfl) ?_
    refine zEv_k 1 (f' := (184, [some (.ref 192), some (.ref 7), some (.int x2), some (.int x3), some (.int x4)], [.int x4, .ref 193, .int x3], (zS0, R, zu I 193 (s1).toNatClampNeg s2, J))) rfl ?_
    refine zEv_ial rfl rfl (by decide) h184 ?_
    exact zEv_c (fun _ => rfl) rfl hc rfl rfl k1
  · refine zEv_ias rfl rfl (by decide) h176 ?_
    refine zEv_k 2 (f' := (179, [some (.ref 192), some (.ref 22), some (.int x2), some (.int x3), some (.int x4)], [.ref 192, .int x3], (zS0, R, zu I 193 (s1).toNatClampNeg s2, J))) rfl ?_
    refine zEv_gr rfl rfl rfl (by decide) (hR (192) 2 (193) rfl) ?_
    refine zEv_k 1 (f' := (184, [some (.ref 192), some (.ref 22), some (.int x2), some (.int x3), some (.int x4)], [.int x4, .ref 193, .int x3], (zS0, R, zu I 193 (s1).toNatClampNeg s2, J))) rfl ?_
    refine zEv_ial rfl rfl (by decide) h184 ?_
    exact zEv_c (fun _ => rfl) rfl hc rfl rfl k1
theorem b_41_188 {X : zX} {d : Nat} {R : zR} {I : zI} {J : zJ} {r : zA} {c : Nat} {x2 : Int32} {x3 : Int32} {x4 : Int32} {s0 : Int32} (ho : c = 7 ∨ c = 22) (k1 : zEv X d zm_41 (156, [some (.ref 192), some (.ref c), some (.int x2), some (.int s0), some (.int (x4 + 1))], [], (zS0, R, I, J)) r) : zEv X d zm_41 (188, [some (.ref 192), some (.ref c), some (.int x2), some (.int x3), some (.int x4)], [.int s0], (zS0, R, I, J)) r := by
  rcases ho with rfl | rfl
  · refine zEv_k 3 (f' := (156, [some (.ref 192), some (.ref 7), some (.int x2), some (.int s0), some (.int (x4 + 1))], [], (zS0, R, I, J))) rfl ?_
    exact k1
  · refine zEv_k 3 (f' := (156, [some (.ref 192), some (.ref 22), some (.int x2), some (.int s0), some (.int (x4 + 1))], [], (zS0, R, I, J))) rfl ?_
    exact k1
theorem b_41_195 {X : zX} {d : Nat} {R : zR} {I : zI} {J : zJ} {c : Nat} {x2 : Int32} {x3 : Int32} {x4 : Int32} (ho : c = 7 ∨ c = 22) : zEv X d zm_41 (195, [some (.ref 192), some (.ref c), some (.int x2), some (.int x3), some (.int x4)], [], (zS0, R, I, J)) (none, (zS0, R, I, J)) := by
  rcases ho with rfl | rfl
  · exact zEv_r rfl
  · exact zEv_r rfl
theorem b_42_0 {X : zX} {d : Nat} {R : zR} {I : zI} {J : zJ} {r : zA} {x0 : Int32} {x1 : Int32} (k1 : ¬ x1 = 7 → zEv X d zm_42 (10, [some (.int x0), some (.int x1)], [], (zS0, R, I, J)) r) (k2 : ¬ (¬ x1 = 7) → zEv X d zm_42 (6, [some (.int x0), some (.int x1)], [], (zS0, R, I, J)) r) : zEv X d zm_42 (0, [some (.int x0), some (.int x1)], [], (zS0, R, I, J)) r := by
  refine zEv_k 3 (f' := (if ¬ x1 = 7 then 10 else 6, [some (.int x0), some (.int x1)], [], (zS0, R, I, J))) rfl ?_
  exact zEv_if k1 k2
theorem b_42_6 {X : zX} {d : Nat} {R : zR} {I : zI} {J : zJ} {x0 : Int32} {x1 : Int32} : zEv X d zm_42 (6, [some (.int x0), some (.int x1)], [], (zS0, R, I, J)) (some (.int x0), (zS0, R, I, J)) := by
  refine zEv_k 2 (f' := (15, [some (.int x0), some (.int x1)], [.int x0], (zS0, R, I, J))) rfl ?_
  exact zEv_r rfl
theorem b_42_10 {X : zX} {d : Nat} {R : zR} {I : zI} {J : zJ} {x0 : Int32} {x1 : Int32} : zEv X d zm_42 (10, [some (.int x0), some (.int x1)], [], (zS0, R, I, J)) (some (.int (x0 ||| ((1 : Int32) <<< (x1 &&& 31)))), (zS0, R, I, J)) := by
  refine zEv_k 5 (f' := (15, [some (.int x0), some (.int x1)], [.int (x0 ||| ((1 : Int32) <<< (x1 &&& 31)))], (zS0, R, I, J))) rfl ?_
  exact zEv_r rfl
theorem b_43_0 {X : zX} {d : Nat} {R : zR} {I : zI} {J : zJ} {r : zA} {c : Nat} {x2 : Int32} {x3 : Int32} {x4 : Int32} (ho : c = 7 ∨ c = 22) (k1 : ¬ x4 = 7 → zEv X d zm_43 (11, [some (.ref 192), some (.ref c), some (.int x2), some (.int x3), some (.int x4), none], [], (zS0, R, I, J)) r) (k2 : ¬ (¬ x4 = 7) → zEv X d zm_43 (7, [some (.ref 192), some (.ref c), some (.int x2), some (.int x3), some (.int x4), none], [], (zS0, R, I, J)) r) : zEv X d zm_43 (0, [some (.ref 192), some (.ref c), some (.int x2), some (.int x3), some (.int x4), none], [], (zS0, R, I, J)) r := by
  rcases ho with rfl | rfl
  · refine zEv_k 3 (f' := (if ¬ x4 = 7 then 11 else 7, [some (.ref 192), some (.ref 7), some (.int x2), some (.int x3), some (.int x4), none], [], (zS0, R, I, J))) rfl ?_
    exact zEv_if k1 k2
  · refine zEv_k 3 (f' := (if ¬ x4 = 7 then 11 else 7, [some (.ref 192), some (.ref 22), some (.int x2), some (.int x3), some (.int x4), none], [], (zS0, R, I, J))) rfl ?_
    exact zEv_if k1 k2
theorem b_43_7 {X : zX} {d : Nat} {R : zR} {I : zI} {J : zJ} {r : zA} {c : Nat} {x2 : Int32} {x3 : Int32} {x4 : Int32} (ho : c = 7 ∨ c = 22) (k1 : zEv X d zm_43 (18, [some (.ref 192), some (.ref c), some (.int x2), some (.int x3), some (.int x4), none], [.int 0], (zS0, R, I, J)) r) : zEv X d zm_43 (7, [some (.ref 192), some (.ref c), some (.int x2), some (.int x3), some (.int x4), none], [], (zS0, R, I, J)) r := by
  rcases ho with rfl | rfl
  · refine zEv_k 2 (f' := (18, [some (.ref 192), some (.ref 7), some (.int x2), some (.int x3), some (.int x4), none], [.int 0], (zS0, R, I, J))) rfl ?_
    exact k1
  · refine zEv_k 2 (f' := (18, [some (.ref 192), some (.ref 22), some (.int x2), some (.int x3), some (.int x4), none], [.int 0], (zS0, R, I, J))) rfl ?_
    exact k1
theorem b_43_11 {X : zX} {d : Nat} {R : zR} {I : zI} {J : zJ} {r : zA} {c : Nat} {x2 : Int32} {x3 : Int32} {x4 : Int32} {w : Int32} {R' : zR} {I' : zI} {J' : zJ} (ho : c = 7 ∨ c = 22) (hc : zEv X d zm_8 (0, [some (.ref c), some (.int x4), some (.int x2)], [], (zS0, R, I, J)) (some (.int w), (zS0, R', I', J'))) (k1 : zEv X (d + 1) zm_43 (18, [some (.ref 192), some (.ref c), some (.int x2), some (.int x3), some (.int x4), none], [.int w], (zS0, R', I', J')) r) : zEv X (d + 1) zm_43 (11, [some (.ref 192), some (.ref c), some (.int x2), some (.int x3), some (.int x4), none], [], (zS0, R, I, J)) r := by
  rcases ho with rfl | rfl
  · refine zEv_k 3 (f' := (15, [some (.ref 192), some (.ref 7), some (.int x2), some (.int x3), some (.int x4), none], [.int x2, .int x4, .ref 7], (zS0, R, I, J))) rfl ?_
    exact zEv_c (fun _ => rfl) rfl hc rfl rfl k1
  · refine zEv_k 3 (f' := (15, [some (.ref 192), some (.ref 22), some (.int x2), some (.int x3), some (.int x4), none], [.int x2, .int x4, .ref 22], (zS0, R, I, J))) rfl ?_
    exact zEv_c (fun _ => rfl) rfl hc rfl rfl k1
theorem b_43_18 {X : zX} {d : Nat} {R : zR} {I : zI} {J : zJ} {r : zA} {c : Nat} {x2 : Int32} {x3 : Int32} {x4 : Int32} {s0 : Int32} {w : Int32} {R' : zR} {I' : zI} {J' : zJ} (hR : zRok R) (ho : c = 7 ∨ c = 22) (hc : zEv X d zm_42 (0, [some (.int x3), some (.int x4)], [], (zS0, R, I, J)) (some (.int w), (zS0, R', I', J'))) (k1 : zEv X (d + 1) zm_43 (39, [some (.ref 192), some (.ref c), some (.int x2), some (.int x3), some (.int x4), some (.int s0)], [.int w, .int ((x2 + 1) * 128), .ref 194, .int s0], (zS0, R', I', J')) r) : zEv X (d + 1) zm_43 (18, [some (.ref 192), some (.ref c), some (.int x2), some (.int x3), some (.int x4), none], [.int s0], (zS0, R, I, J)) r := by
  rcases ho with rfl | rfl
  · refine zEv_k 3 (f' := (23, [some (.ref 192), some (.ref 7), some (.int x2), some (.int x3), some (.int x4), some (.int s0)], [.ref 192, .int s0], (zS0, R, I, J))) rfl ?_
    refine zEv_gr rfl rfl rfl (by decide) (hR (192) 4 (194) rfl) ?_
    refine zEv_k 7 (f' := (36, [some (.ref 192), some (.ref 7), some (.int x2), some (.int x3), some (.int x4), some (.int s0)], [.int x4, .int x3, .int ((x2 + 1) * 128), .ref 194, .int s0], (zS0, R, I, J))) rfl ?_
    exact zEv_c (fun _ => rfl) rfl hc rfl rfl k1
  · refine zEv_k 3 (f' := (23, [some (.ref 192), some (.ref 22), some (.int x2), some (.int x3), some (.int x4), some (.int s0)], [.ref 192, .int s0], (zS0, R, I, J))) rfl ?_
    refine zEv_gr rfl rfl rfl (by decide) (hR (192) 4 (194) rfl) ?_
    refine zEv_k 7 (f' := (36, [some (.ref 192), some (.ref 22), some (.int x2), some (.int x3), some (.int x4), some (.int s0)], [.int x4, .int x3, .int ((x2 + 1) * 128), .ref 194, .int s0], (zS0, R, I, J))) rfl ?_
    exact zEv_c (fun _ => rfl) rfl hc rfl rfl k1
theorem b_43_39 {X : zX} {d : Nat} {R : zR} {I : zI} {J : zJ} {c : Nat} {x2 : Int32} {x3 : Int32} {x4 : Int32} {x5 : Int32} {s0 : Int32} {s2 : Int32} {s3 : Int32} (ho : c = 7 ∨ c = 22) (h40 : zin (s2 + s3) 1408) : zEv X d zm_43 (39, [some (.ref 192), some (.ref c), some (.int x2), some (.int x3), some (.int x4), some (.int x5)], [.int s3, .int s2, .ref 194, .int s0], (zS0, R, I, J)) (some (.int (s0 + (I 194 (s2 + s3).toNatClampNeg))), (zS0, R, I, J)) := by
  rcases ho with rfl | rfl
  · refine zEv_k 1 (f' := (40, [some (.ref 192), some (.ref 7), some (.int x2), some (.int x3), some (.int x4), some (.int x5)], [.int (s2 + s3), .ref 194, .int s0], (zS0, R, I, J))) rfl ?_
    refine zEv_ial rfl rfl (by decide) h40 ?_
    refine zEv_k 1 (f' := (42, [some (.ref 192), some (.ref 7), some (.int x2), some (.int x3), some (.int x4), some (.int x5)], [.int (s0 + (I 194 (s2 + s3).toNatClampNeg))], (zS0, R, I, J))) rfl ?_
    exact zEv_r rfl
  · refine zEv_k 1 (f' := (40, [some (.ref 192), some (.ref 22), some (.int x2), some (.int x3), some (.int x4), some (.int x5)], [.int (s2 + s3), .ref 194, .int s0], (zS0, R, I, J))) rfl ?_
    refine zEv_ial rfl rfl (by decide) h40 ?_
    refine zEv_k 1 (f' := (42, [some (.ref 192), some (.ref 22), some (.int x2), some (.int x3), some (.int x4), some (.int x5)], [.int (s0 + (I 194 (s2 + s3).toNatClampNeg))], (zS0, R, I, J))) rfl ?_
    exact zEv_r rfl
theorem b_44_0 {X : zX} {d : Nat} {R : zR} {I : zI} {J : zJ} {r : zA} {c : Nat} {x2 : Int32} {x3 : Int32} {w : Int32} {R' : zR} {I' : zI} {J' : zJ} (ho : c = 7 ∨ c = 22) (hc : zEv X d zm_43 (0, [some (.ref 192), some (.ref c), some (.int x2), some (.int x3), some (.int 7), none], [], (zS0, R, I, J)) (some (.int w), (zS0, R', I', J'))) (k1 : zEv X (d + 1) zm_44 (13, [some (.ref 192), some (.ref c), some (.int x2), some (.int x3), some (.int 7), none, none], [.int w], (zS0, R', I', J')) r) : zEv X (d + 1) zm_44 (0, [some (.ref 192), some (.ref c), some (.int x2), some (.int x3), none, none, none], [], (zS0, R, I, J)) r := by
  rcases ho with rfl | rfl
  · refine zEv_k 7 (f' := (10, [some (.ref 192), some (.ref 7), some (.int x2), some (.int x3), some (.int 7), none, none], [.int 7, .int x3, .int x2, .ref 7, .ref 192], (zS0, R, I, J))) rfl ?_
    exact zEv_c (fun _ => rfl) rfl hc rfl rfl k1
  · refine zEv_k 7 (f' := (10, [some (.ref 192), some (.ref 22), some (.int x2), some (.int x3), some (.int 7), none, none], [.int 7, .int x3, .int x2, .ref 22, .ref 192], (zS0, R, I, J))) rfl ?_
    exact zEv_c (fun _ => rfl) rfl hc rfl rfl k1
theorem b_44_13 {X : zX} {d : Nat} {R : zR} {I : zI} {J : zJ} {r : zA} {c : Nat} {x2 : Int32} {x3 : Int32} {x4 : Int32} {s0 : Int32} (ho : c = 7 ∨ c = 22) (k1 : zEv X d zm_44 (23, [some (.ref 192), some (.ref c), some (.int x2), some (.int x3), some (.int x4), some (.int s0), some (.int ((I c 2) - 1))], [], (zS0, R, I, J)) r) : zEv X d zm_44 (13, [some (.ref 192), some (.ref c), some (.int x2), some (.int x3), some (.int x4), none, none], [.int s0], (zS0, R, I, J)) r := by
  rcases ho with rfl | rfl
  · refine zEv_k 6 (f' := (23, [some (.ref 192), some (.ref 7), some (.int x2), some (.int x3), some (.int x4), some (.int s0), some (.int ((I 7 2) - 1))], [], (zS0, R, I, J))) rfl ?_
    exact k1
  · refine zEv_k 6 (f' := (23, [some (.ref 192), some (.ref 22), some (.int x2), some (.int x3), some (.int x4), some (.int s0), some (.int ((I 22 2) - 1))], [], (zS0, R, I, J))) rfl ?_
    exact k1
theorem b_44_23 {X : zX} {d : Nat} {R : zR} {I : zI} {J : zJ} {r : zA} {c : Nat} {x2 : Int32} {x3 : Int32} {x4 : Int32} {x5 : Int32} {x6 : Int32} (ho : c = 7 ∨ c = 22) (k1 : x6 < 0 → zEv X d zm_44 (83, [some (.ref 192), some (.ref c), some (.int x2), some (.int x3), some (.int x4), some (.int x5), some (.int x6)], [], (zS0, R, I, J)) r) (k2 : ¬ (x6 < 0) → zEv X d zm_44 (28, [some (.ref 192), some (.ref c), some (.int x2), some (.int x3), some (.int x4), some (.int x5), some (.int x6)], [], (zS0, R, I, J)) r) : zEv X d zm_44 (23, [some (.ref 192), some (.ref c), some (.int x2), some (.int x3), some (.int x4), some (.int x5), some (.int x6)], [], (zS0, R, I, J)) r := by
  rcases ho with rfl | rfl
  · refine zEv_k 2 (f' := (if x6 < 0 then 83 else 28, [some (.ref 192), some (.ref 7), some (.int x2), some (.int x3), some (.int x4), some (.int x5), some (.int x6)], [], (zS0, R, I, J))) rfl ?_
    exact zEv_if k1 k2
  · refine zEv_k 2 (f' := (if x6 < 0 then 83 else 28, [some (.ref 192), some (.ref 22), some (.int x2), some (.int x3), some (.int x4), some (.int x5), some (.int x6)], [], (zS0, R, I, J))) rfl ?_
    exact zEv_if k1 k2
theorem b_44_28 {X : zX} {d : Nat} {R : zR} {I : zI} {J : zJ} {r : zA} {c : Nat} {x2 : Int32} {x3 : Int32} {x4 : Int32} {x5 : Int32} {x6 : Int32} (ho : c = 7 ∨ c = 22) (k1 : ¬ (zf_cin x3 x6) = 0 → zEv X (d + 1) zm_44 (77, [some (.ref 192), some (.ref c), some (.int x2), some (.int x3), some (.int x4), some (.int x5), some (.int x6)], [], (zS0, R, I, J)) r) (k2 : ¬ (¬ (zf_cin x3 x6) = 0) → zEv X (d + 1) zm_44 (37, [some (.ref 192), some (.ref c), some (.int x2), some (.int x3), some (.int x4), some (.int x5), some (.int x6)], [], (zS0, R, I, J)) r) : zEv X (d + 1) zm_44 (28, [some (.ref 192), some (.ref c), some (.int x2), some (.int x3), some (.int x4), some (.int x5), some (.int x6)], [], (zS0, R, I, J)) r := by
  rcases ho with rfl | rfl
  · refine zEv_k 2 (f' := (31, [some (.ref 192), some (.ref 7), some (.int x2), some (.int x3), some (.int x4), some (.int x5), some (.int x6)], [.int x6, .int x3], (zS0, R, I, J))) rfl ?_
    refine zEv_c (fun _ => rfl) rfl ev_zf_cin rfl rfl ?_
    refine zEv_k 1 (f' := (if ¬ (zf_cin x3 x6) = 0 then 77 else 37, [some (.ref 192), some (.ref 7), some (.int x2), some (.int x3), some (.int x4), some (.int x5), some (.int x6)], [], (zS0, R, I, J))) rfl ?_
    exact zEv_if k1 k2
  · refine zEv_k 2 (f' := (31, [some (.ref 192), some (.ref 22), some (.int x2), some (.int x3), some (.int x4), some (.int x5), some (.int x6)], [.int x6, .int x3], (zS0, R, I, J))) rfl ?_
    refine zEv_c (fun _ => rfl) rfl ev_zf_cin rfl rfl ?_
    refine zEv_k 1 (f' := (if ¬ (zf_cin x3 x6) = 0 then 77 else 37, [some (.ref 192), some (.ref 22), some (.int x2), some (.int x3), some (.int x4), some (.int x5), some (.int x6)], [], (zS0, R, I, J))) rfl ?_
    exact zEv_if k1 k2
theorem b_44_37 {X : zX} {d : Nat} {R : zR} {I : zI} {J : zJ} {r : zA} {c : Nat} {x2 : Int32} {x3 : Int32} {x4 : Int32} {x5 : Int32} {x6 : Int32} (hR : zRok R) (ho : c = 7 ∨ c = 22) (h43 : zin x6 7) (k1 : (I 195 (x6).toNatClampNeg) ≤ x2 → zEv X d zm_44 (77, [some (.ref 192), some (.ref c), some (.int x2), some (.int x3), some (.int x4), some (.int x5), some (.int x6)], [], (zS0, R, I, J)) r) (k2 : ¬ ((I 195 (x6).toNatClampNeg) ≤ x2) → zEv X d zm_44 (48, [some (.ref 192), some (.ref c), some (.int x2), some (.int x3), some (.int x4), some (.int x5), some (.int x6)], [], (zS0, R, I, J)) r) : zEv X d zm_44 (37, [some (.ref 192), some (.ref c), some (.int x2), some (.int x3), some (.int x4), some (.int x5), some (.int x6)], [], (zS0, R, I, J)) r := by
  rcases ho with rfl | rfl
  · refine zEv_k 1 (f' := (38, [some (.ref 192), some (.ref 7), some (.int x2), some (.int x3), some (.int x4), some (.int x5), some (.int x6)], [.ref 192], (zS0, R, I, J))) rfl ?_
    refine zEv_gr rfl rfl rfl (by decide) (hR (192) 5 (195) rfl) ?_
    refine zEv_k 1 (f' := (43, [some (.ref 192), some (.ref 7), some (.int x2), some (.int x3), some (.int x4), some (.int x5), some (.int x6)], [.int x6, .ref 195], (zS0, R, I, J))) rfl ?_
    refine zEv_ial rfl rfl (by decide) h43 ?_
    refine zEv_k 2 (f' := (if (I 195 (x6).toNatClampNeg) ≤ x2 then 77 else 48, [some (.ref 192), some (.ref 7), some (.int x2), some (.int x3), some (.int x4), some (.int x5), some (.int x6)], [], (zS0, R, I, J))) rfl ?_
    exact zEv_if k1 k2
  · refine zEv_k 1 (f' := (38, [some (.ref 192), some (.ref 22), some (.int x2), some (.int x3), some (.int x4), some (.int x5), some (.int x6)], [.ref 192], (zS0, R, I, J))) rfl ?_
    refine zEv_gr rfl rfl rfl (by decide) (hR (192) 5 (195) rfl) ?_
    refine zEv_k 1 (f' := (43, [some (.ref 192), some (.ref 22), some (.int x2), some (.int x3), some (.int x4), some (.int x5), some (.int x6)], [.int x6, .ref 195], (zS0, R, I, J))) rfl ?_
    refine zEv_ial rfl rfl (by decide) h43 ?_
    refine zEv_k 2 (f' := (if (I 195 (x6).toNatClampNeg) ≤ x2 then 77 else 48, [some (.ref 192), some (.ref 22), some (.int x2), some (.int x3), some (.int x4), some (.int x5), some (.int x6)], [], (zS0, R, I, J))) rfl ?_
    exact zEv_if k1 k2
theorem b_44_48 {X : zX} {d : Nat} {R : zR} {I : zI} {J : zJ} {r : zA} {c : Nat} {x2 : Int32} {x3 : Int32} {x4 : Int32} {x5 : Int32} {x6 : Int32} {w : Int32} {R' : zR} {I' : zI} {J' : zJ} (ho : c = 7 ∨ c = 22) (hc : zEv X d zm_43 (0, [some (.ref 192), some (.ref c), some (.int x2), some (.int x3), some (.int x6), none], [], (zS0, R, I, J)) (some (.int w), (zS0, R', I', J'))) (k1 : zEv X (d + 1) zm_44 (57, [some (.ref 192), some (.ref c), some (.int x2), some (.int x3), some (.int x4), some (.int x5), some (.int x6)], [.int w], (zS0, R', I', J')) r) : zEv X (d + 1) zm_44 (48, [some (.ref 192), some (.ref c), some (.int x2), some (.int x3), some (.int x4), some (.int x5), some (.int x6)], [], (zS0, R, I, J)) r := by
  rcases ho with rfl | rfl
  · refine zEv_k 5 (f' := (54, [some (.ref 192), some (.ref 7), some (.int x2), some (.int x3), some (.int x4), some (.int x5), some (.int x6)], [.int x6, .int x3, .int x2, .ref 7, .ref 192], (zS0, R, I, J))) rfl ?_
    exact zEv_c (fun _ => rfl) rfl hc rfl rfl k1
  · refine zEv_k 5 (f' := (54, [some (.ref 192), some (.ref 22), some (.int x2), some (.int x3), some (.int x4), some (.int x5), some (.int x6)], [.int x6, .int x3, .int x2, .ref 22, .ref 192], (zS0, R, I, J))) rfl ?_
    exact zEv_c (fun _ => rfl) rfl hc rfl rfl k1
theorem b_44_57 {X : zX} {d : Nat} {R : zR} {I : zI} {J : zJ} {r : zA} {c : Nat} {x2 : Int32} {x3 : Int32} {x4 : Int32} {x5 : Int32} {x6 : Int32} {s0 : Int32} (ho : c = 7 ∨ c = 22) (k1 : s0 < x5 → zEv X d zm_44 (77, [some (.ref 192), some (.ref c), some (.int x2), some (.int x3), some (.int x4), some (.int x5), some (.int x6)], [], (zS0, R, I, J)) r) (k2 : ¬ (s0 < x5) → zEv X d zm_44 (62, [some (.ref 192), some (.ref c), some (.int x2), some (.int x3), some (.int x4), some (.int x5), some (.int x6)], [], (zS0, R, I, J)) r) : zEv X d zm_44 (57, [some (.ref 192), some (.ref c), some (.int x2), some (.int x3), some (.int x4), some (.int x5), some (.int x6)], [.int s0], (zS0, R, I, J)) r := by
  rcases ho with rfl | rfl
  · refine zEv_k 2 (f' := (if s0 < x5 then 77 else 62, [some (.ref 192), some (.ref 7), some (.int x2), some (.int x3), some (.int x4), some (.int x5), some (.int x6)], [], (zS0, R, I, J))) rfl ?_
    exact zEv_if k1 k2
  · refine zEv_k 2 (f' := (if s0 < x5 then 77 else 62, [some (.ref 192), some (.ref 22), some (.int x2), some (.int x3), some (.int x4), some (.int x5), some (.int x6)], [], (zS0, R, I, J))) rfl ?_
    exact zEv_if k1 k2
theorem b_44_62 {X : zX} {d : Nat} {R : zR} {I : zI} {J : zJ} {r : zA} {c : Nat} {x2 : Int32} {x3 : Int32} {x4 : Int32} {x5 : Int32} {x6 : Int32} {w : Int32} {R' : zR} {I' : zI} {J' : zJ} (ho : c = 7 ∨ c = 22) (hc : zEv X d zm_43 (0, [some (.ref 192), some (.ref c), some (.int x2), some (.int x3), some (.int x6), none], [], (zS0, R, I, J)) (some (.int w), (zS0, R', I', J'))) (k1 : zEv X (d + 1) zm_44 (71, [some (.ref 192), some (.ref c), some (.int x2), some (.int x3), some (.int x4), some (.int x5), some (.int x6)], [.int w], (zS0, R', I', J')) r) : zEv X (d + 1) zm_44 (62, [some (.ref 192), some (.ref c), some (.int x2), some (.int x3), some (.int x4), some (.int x5), some (.int x6)], [], (zS0, R, I, J)) r := by
  rcases ho with rfl | rfl
  · refine zEv_k 5 (f' := (68, [some (.ref 192), some (.ref 7), some (.int x2), some (.int x3), some (.int x4), some (.int x5), some (.int x6)], [.int x6, .int x3, .int x2, .ref 7, .ref 192], (zS0, R, I, J))) rfl ?_
    exact zEv_c (fun _ => rfl) rfl hc rfl rfl k1
  · refine zEv_k 5 (f' := (68, [some (.ref 192), some (.ref 22), some (.int x2), some (.int x3), some (.int x4), some (.int x5), some (.int x6)], [.int x6, .int x3, .int x2, .ref 22, .ref 192], (zS0, R, I, J))) rfl ?_
    exact zEv_c (fun _ => rfl) rfl hc rfl rfl k1
theorem b_44_71 {X : zX} {d : Nat} {R : zR} {I : zI} {J : zJ} {r : zA} {c : Nat} {x2 : Int32} {x3 : Int32} {x4 : Int32} {x5 : Int32} {x6 : Int32} {s0 : Int32} (ho : c = 7 ∨ c = 22) (k1 : zEv X d zm_44 (77, [some (.ref 192), some (.ref c), some (.int x2), some (.int x3), some (.int x6), some (.int s0), some (.int x6)], [], (zS0, R, I, J)) r) : zEv X d zm_44 (71, [some (.ref 192), some (.ref c), some (.int x2), some (.int x3), some (.int x4), some (.int x5), some (.int x6)], [.int s0], (zS0, R, I, J)) r := by
  rcases ho with rfl | rfl
  · refine zEv_k 3 (f' := (77, [some (.ref 192), some (.ref 7), some (.int x2), some (.int x3), some (.int x6), some (.int s0), some (.int x6)], [], (zS0, R, I, J))) rfl ?_
    exact k1
  · refine zEv_k 3 (f' := (77, [some (.ref 192), some (.ref 22), some (.int x2), some (.int x3), some (.int x6), some (.int s0), some (.int x6)], [], (zS0, R, I, J))) rfl ?_
    exact k1
theorem b_44_77 {X : zX} {d : Nat} {R : zR} {I : zI} {J : zJ} {r : zA} {c : Nat} {x2 : Int32} {x3 : Int32} {x4 : Int32} {x5 : Int32} {x6 : Int32} (ho : c = 7 ∨ c = 22) (k1 : zEv X d zm_44 (23, [some (.ref 192), some (.ref c), some (.int x2), some (.int x3), some (.int x4), some (.int x5), some (.int (x6 + (-1)))], [], (zS0, R, I, J)) r) : zEv X d zm_44 (77, [some (.ref 192), some (.ref c), some (.int x2), some (.int x3), some (.int x4), some (.int x5), some (.int x6)], [], (zS0, R, I, J)) r := by
  rcases ho with rfl | rfl
  · refine zEv_k 2 (f' := (23, [some (.ref 192), some (.ref 7), some (.int x2), some (.int x3), some (.int x4), some (.int x5), some (.int (x6 + (-1)))], [], (zS0, R, I, J))) rfl ?_
    exact k1
  · refine zEv_k 2 (f' := (23, [some (.ref 192), some (.ref 22), some (.int x2), some (.int x3), some (.int x4), some (.int x5), some (.int (x6 + (-1)))], [], (zS0, R, I, J))) rfl ?_
    exact k1
theorem b_44_83 {X : zX} {d : Nat} {R : zR} {I : zI} {J : zJ} {c : Nat} {x2 : Int32} {x3 : Int32} {x4 : Int32} {x5 : Int32} {x6 : Int32} (ho : c = 7 ∨ c = 22) : zEv X d zm_44 (83, [some (.ref 192), some (.ref c), some (.int x2), some (.int x3), some (.int x4), some (.int x5), some (.int x6)], [], (zS0, R, I, J)) (some (.int x4), (zS0, R, I, J)) := by
  rcases ho with rfl | rfl
  · refine zEv_k 1 (f' := (85, [some (.ref 192), some (.ref 7), some (.int x2), some (.int x3), some (.int x4), some (.int x5), some (.int x6)], [.int x4], (zS0, R, I, J))) rfl ?_
    exact zEv_r rfl
  · refine zEv_k 1 (f' := (85, [some (.ref 192), some (.ref 22), some (.int x2), some (.int x3), some (.int x4), some (.int x5), some (.int x6)], [.int x4], (zS0, R, I, J))) rfl ?_
    exact zEv_r rfl
theorem b_45_0 {X : zX} {d : Nat} {R : zR} {I : zI} {J : zJ} {r : zA} {c : Nat} {x2 : Int32} {w : Int32} {R' : zR} {I' : zI} {J' : zJ} (ho : c = 7 ∨ c = 22) (hc : zEv X d zm_7 (0, [some (.ref c)], [], (zS0, R, I, J)) (some (.int w), (zS0, R', I', J'))) (k1 : zEv X (d + 1) zm_45 (4, [some (.ref 192), some (.ref c), some (.int x2), none, none, none, none], [.int w], (zS0, R', I', J')) r) : zEv X (d + 1) zm_45 (0, [some (.ref 192), some (.ref c), some (.int x2), none, none, none, none], [], (zS0, R, I, J)) r := by
  rcases ho with rfl | rfl
  · refine zEv_k 1 (f' := (1, [some (.ref 192), some (.ref 7), some (.int x2), none, none, none, none], [.ref 7], (zS0, R, I, J))) rfl ?_
    exact zEv_c (fun _ => rfl) rfl hc rfl rfl k1
  · refine zEv_k 1 (f' := (1, [some (.ref 192), some (.ref 22), some (.int x2), none, none, none, none], [.ref 22], (zS0, R, I, J))) rfl ?_
    exact zEv_c (fun _ => rfl) rfl hc rfl rfl k1
theorem b_45_4 {X : zX} {d : Nat} {R : zR} {I : zI} {J : zJ} {r : zA} {c : Nat} {x2 : Int32} {s0 : Int32} (ho : c = 7 ∨ c = 22) (k1 : zEv X d zm_45 (5, [some (.ref 192), some (.ref c), some (.int x2), some (.int s0), none, none, none], [], (zS0, R, I, J)) r) : zEv X d zm_45 (4, [some (.ref 192), some (.ref c), some (.int x2), none, none, none, none], [.int s0], (zS0, R, I, J)) r := by
  rcases ho with rfl | rfl
  · refine zEv_k 1 (f' := (5, [some (.ref 192), some (.ref 7), some (.int x2), some (.int s0), none, none, none], [], (zS0, R, I, J))) rfl ?_
    exact k1
  · refine zEv_k 1 (f' := (5, [some (.ref 192), some (.ref 22), some (.int x2), some (.int s0), none, none, none], [], (zS0, R, I, J))) rfl ?_
    exact k1
theorem b_45_5 {X : zX} {d : Nat} {R : zR} {I : zI} {J : zJ} {r : zA} {c : Nat} {x2 : Int32} {x3 : Int32} {x4 : Option Value} {x5 : Option Value} (ho : c = 7 ∨ c = 22) (k1 : x3 ≤ 0 → zEv X d zm_45 (87, [some (.ref 192), some (.ref c), some (.int x2), some (.int x3), x4, x5, none], [], (zS0, R, I, J)) r) (k2 : ¬ (x3 ≤ 0) → zEv X d zm_45 (9, [some (.ref 192), some (.ref c), some (.int x2), some (.int x3), x4, x5, none], [], (zS0, R, I, J)) r) : zEv X d zm_45 (5, [some (.ref 192), some (.ref c), some (.int x2), some (.int x3), x4, x5, none], [], (zS0, R, I, J)) r := by
  rcases ho with rfl | rfl
  · refine zEv_k 2 (f' := (if x3 ≤ 0 then 87 else 9, [some (.ref 192), some (.ref 7), some (.int x2), some (.int x3), x4, x5, none], [], (zS0, R, I, J))) rfl ?_
    exact zEv_if k1 k2
  · refine zEv_k 2 (f' := (if x3 ≤ 0 then 87 else 9, [some (.ref 192), some (.ref 22), some (.int x2), some (.int x3), x4, x5, none], [], (zS0, R, I, J))) rfl ?_
    exact zEv_if k1 k2
theorem b_45_9 {X : zX} {d : Nat} {R : zR} {I : zI} {J : zJ} {r : zA} {c : Nat} {x2 : Int32} {x3 : Int32} {x4 : Option Value} {x5 : Option Value} (ho : c = 7 ∨ c = 22) (k1 : zEv X d zm_45 (12, [some (.ref 192), some (.ref c), some (.int x2), some (.int x3), some (.int 0), x5, none], [], (zS0, R, I, J)) r) : zEv X d zm_45 (9, [some (.ref 192), some (.ref c), some (.int x2), some (.int x3), x4, x5, none], [], (zS0, R, I, J)) r := by
  rcases ho with rfl | rfl
  · refine zEv_k 2 (f' := (12, [some (.ref 192), some (.ref 7), some (.int x2), some (.int x3), some (.int 0), x5, none], [], (zS0, R, I, J))) rfl ?_
    exact k1
  · refine zEv_k 2 (f' := (12, [some (.ref 192), some (.ref 22), some (.int x2), some (.int x3), some (.int 0), x5, none], [], (zS0, R, I, J))) rfl ?_
    exact k1
theorem b_45_12 {X : zX} {d : Nat} {R : zR} {I : zI} {J : zJ} {r : zA} {c : Nat} {x2 : Int32} {x3 : Int32} {x4 : Int32} {x5 : Option Value} (ho : c = 7 ∨ c = 22) (k1 : (I c 2) ≤ x4 → zEv X d zm_45 (81, [some (.ref 192), some (.ref c), some (.int x2), some (.int x3), some (.int x4), x5, none], [], (zS0, R, I, J)) r) (k2 : ¬ ((I c 2) ≤ x4) → zEv X d zm_45 (21, [some (.ref 192), some (.ref c), some (.int x2), some (.int x3), some (.int x4), x5, none], [], (zS0, R, I, J)) r) : zEv X d zm_45 (12, [some (.ref 192), some (.ref c), some (.int x2), some (.int x3), some (.int x4), x5, none], [], (zS0, R, I, J)) r := by
  rcases ho with rfl | rfl
  · refine zEv_k 4 (f' := (if (I 7 2) ≤ x4 then 81 else 21, [some (.ref 192), some (.ref 7), some (.int x2), some (.int x3), some (.int x4), x5, none], [], (zS0, R, I, J))) rfl ?_
    exact zEv_if k1 k2
  · refine zEv_k 4 (f' := (if (I 22 2) ≤ x4 then 81 else 21, [some (.ref 192), some (.ref 22), some (.int x2), some (.int x3), some (.int x4), x5, none], [], (zS0, R, I, J))) rfl ?_
    exact zEv_if k1 k2
theorem b_45_21 {X : zX} {d : Nat} {R : zR} {I : zI} {J : zJ} {r : zA} {c : Nat} {x2 : Int32} {x3 : Int32} {x4 : Int32} {x5 : Option Value} (ho : c = 7 ∨ c = 22) (k1 : (zf_cin x3 x4) = 0 → zEv X (d + 1) zm_45 (75, [some (.ref 192), some (.ref c), some (.int x2), some (.int x3), some (.int x4), x5, none], [], (zS0, R, I, J)) r) (k2 : ¬ ((zf_cin x3 x4) = 0) → zEv X (d + 1) zm_45 (30, [some (.ref 192), some (.ref c), some (.int x2), some (.int x3), some (.int x4), x5, none], [], (zS0, R, I, J)) r) : zEv X (d + 1) zm_45 (21, [some (.ref 192), some (.ref c), some (.int x2), some (.int x3), some (.int x4), x5, none], [], (zS0, R, I, J)) r := by
  rcases ho with rfl | rfl
  · refine zEv_k 2 (f' := (24, [some (.ref 192), some (.ref 7), some (.int x2), some (.int x3), some (.int x4), x5, none], [.int x4, .int x3], (zS0, R, I, J))) rfl ?_
    refine zEv_c (fun _ => rfl) rfl ev_zf_cin rfl rfl ?_
    refine zEv_k 1 (f' := (if (zf_cin x3 x4) = 0 then 75 else 30, [some (.ref 192), some (.ref 7), some (.int x2), some (.int x3), some (.int x4), x5, none], [], (zS0, R, I, J))) rfl ?_
    exact zEv_if k1 k2
  · refine zEv_k 2 (f' := (24, [some (.ref 192), some (.ref 22), some (.int x2), some (.int x3), some (.int x4), x5, none], [.int x4, .int x3], (zS0, R, I, J))) rfl ?_
    refine zEv_c (fun _ => rfl) rfl ev_zf_cin rfl rfl ?_
    refine zEv_k 1 (f' := (if (zf_cin x3 x4) = 0 then 75 else 30, [some (.ref 192), some (.ref 22), some (.int x2), some (.int x3), some (.int x4), x5, none], [], (zS0, R, I, J))) rfl ?_
    exact zEv_if k1 k2
theorem b_45_30 {X : zX} {d : Nat} {R : zR} {I : zI} {J : zJ} {r : zA} {c : Nat} {x2 : Int32} {x3 : Int32} {x4 : Int32} {x5 : Option Value} {w : Int32} {R' : zR} {I' : zI} {J' : zJ} (ho : c = 7 ∨ c = 22) (hc : zEv X d zm_46 (0, [some (.ref 192), some (.ref c), some (.int x2), some (.int x3), some (.int x4), none, none, none, none], [], (zS0, R, I, J)) (some (.int w), (zS0, R', I', J'))) (k1 : zEv X (d + 1) zm_45 (39, [some (.ref 192), some (.ref c), some (.int x2), some (.int x3), some (.int x4), x5, none], [.int w], (zS0, R', I', J')) r) : zEv X (d + 1) zm_45 (30, [some (.ref 192), some (.ref c), some (.int x2), some (.int x3), some (.int x4), x5, none], [], (zS0, R, I, J)) r := by
  rcases ho with rfl | rfl
  · refine zEv_k 5 (f' := (36, [some (.ref 192), some (.ref 7), some (.int x2), some (.int x3), some (.int x4), x5, none], [.int x4, .int x3, .int x2, .ref 7, .ref 192], (zS0, R, I, J))) rfl ?_
    exact zEv_c (fun _ => rfl) rfl hc rfl rfl k1
  · refine zEv_k 5 (f' := (36, [some (.ref 192), some (.ref 22), some (.int x2), some (.int x3), some (.int x4), x5, none], [.int x4, .int x3, .int x2, .ref 22, .ref 192], (zS0, R, I, J))) rfl ?_
    exact zEv_c (fun _ => rfl) rfl hc rfl rfl k1
theorem b_45_39 {X : zX} {d : Nat} {R : zR} {I : zI} {J : zJ} {r : zA} {c : Nat} {x2 : Int32} {x3 : Int32} {x4 : Int32} {x5 : Option Value} {s0 : Int32} (hR : zRok R) (ho : c = 7 ∨ c = 22) (k1 : ¬ s0 = 7 → zEv X d zm_45 (63, [some (.ref 192), some (.ref c), some (.int x2), some (.int x3), some (.int x4), some (.int s0), none], [.int ((x3 * 8) + x4), .ref 194], (zS0, R, I, J)) r) (k2 : ¬ (¬ s0 = 7) → zEv X d zm_45 (59, [some (.ref 192), some (.ref c), some (.int x2), some (.int x3), some (.int x4), some (.int s0), none], [.int ((x3 * 8) + x4), .ref 194], (zS0, R, I, J)) r) : zEv X d zm_45 (39, [some (.ref 192), some (.ref c), some (.int x2), some (.int x3), some (.int x4), x5, none], [.int s0], (zS0, R, I, J)) r := by
  rcases ho with rfl | rfl
  · refine zEv_k 2 (f' := (42, [some (.ref 192), some (.ref 7), some (.int x2), some (.int x3), some (.int x4), some (.int s0), none], [.ref 192], (zS0, R, I, J))) rfl ?_
    refine zEv_gr rfl rfl rfl (by decide) (hR (192) 4 (194) rfl) ?_
    refine zEv_k 8 (f' := (if ¬ s0 = 7 then 63 else 59, [some (.ref 192), some (.ref 7), some (.int x2), some (.int x3), some (.int x4), some (.int s0), none], [.int ((x3 * 8) + x4), .ref 194], (zS0, R, I, J))) rfl ?_
    exact zEv_if k1 k2
  · refine zEv_k 2 (f' := (42, [some (.ref 192), some (.ref 22), some (.int x2), some (.int x3), some (.int x4), some (.int s0), none], [.ref 192], (zS0, R, I, J))) rfl ?_
    refine zEv_gr rfl rfl rfl (by decide) (hR (192) 4 (194) rfl) ?_
    refine zEv_k 8 (f' := (if ¬ s0 = 7 then 63 else 59, [some (.ref 192), some (.ref 22), some (.int x2), some (.int x3), some (.int x4), some (.int s0), none], [.int ((x3 * 8) + x4), .ref 194], (zS0, R, I, J))) rfl ?_
    exact zEv_if k1 k2
theorem b_45_59 {X : zX} {d : Nat} {R : zR} {I : zI} {J : zJ} {r : zA} {c : Nat} {x2 : Int32} {x3 : Int32} {x4 : Int32} {x5 : Int32} {s1 : Int32} (ho : c = 7 ∨ c = 22) (k1 : zEv X d zm_45 (74, [some (.ref 192), some (.ref c), some (.int x2), some (.int x3), some (.int x4), some (.int x5), none], [.int 0, .int s1, .ref 194], (zS0, R, I, J)) r) : zEv X d zm_45 (59, [some (.ref 192), some (.ref c), some (.int x2), some (.int x3), some (.int x4), some (.int x5), none], [.int s1, .ref 194], (zS0, R, I, J)) r := by
  rcases ho with rfl | rfl
  · refine zEv_k 2 (f' := (74, [some (.ref 192), some (.ref 7), some (.int x2), some (.int x3), some (.int x4), some (.int x5), none], [.int 0, .int s1, .ref 194], (zS0, R, I, J))) rfl ?_
    exact k1
  · refine zEv_k 2 (f' := (74, [some (.ref 192), some (.ref 22), some (.int x2), some (.int x3), some (.int x4), some (.int x5), none], [.int 0, .int s1, .ref 194], (zS0, R, I, J))) rfl ?_
    exact k1
theorem b_45_63 {X : zX} {d : Nat} {R : zR} {I : zI} {J : zJ} {r : zA} {c : Nat} {x2 : Int32} {x3 : Int32} {x4 : Int32} {x5 : Int32} {s1 : Int32} {w : Int32} {R' : zR} {I' : zI} {J' : zJ} (ho : c = 7 ∨ c = 22) (hc : zEv X d zm_47 (0, [some (.ref 192), some (.ref c), some (.int x2), some (.int x3), some (.int x4), some (.int x5), none], [], (zS0, R, I, J)) (some (.int w), (zS0, R', I', J'))) (k1 : zEv X (d + 1) zm_45 (74, [some (.ref 192), some (.ref c), some (.int x2), some (.int x3), some (.int x4), some (.int x5), none], [.int w, .int s1, .ref 194], (zS0, R', I', J')) r) : zEv X (d + 1) zm_45 (63, [some (.ref 192), some (.ref c), some (.int x2), some (.int x3), some (.int x4), some (.int x5), none], [.int s1, .ref 194], (zS0, R, I, J)) r := by
  rcases ho with rfl | rfl
  · refine zEv_k 6 (f' := (71, [some (.ref 192), some (.ref 7), some (.int x2), some (.int x3), some (.int x4), some (.int x5), none], [.int x5, .int x4, .int x3, .int x2, .ref 7, .ref 192, .int s1, .ref 194], (zS0, R, I, J))) rfl ?_
    exact zEv_c (fun _ => rfl) rfl hc rfl rfl k1
  · refine zEv_k 6 (f' := (71, [some (.ref 192), some (.ref 22), some (.int x2), some (.int x3), some (.int x4), some (.int x5), none], [.int x5, .int x4, .int x3, .int x2, .ref 22, .ref 192, .int s1, .ref 194], (zS0, R, I, J))) rfl ?_
    exact zEv_c (fun _ => rfl) rfl hc rfl rfl k1
theorem b_45_74 {X : zX} {d : Nat} {R : zR} {I : zI} {J : zJ} {r : zA} {c : Nat} {x2 : Int32} {x3 : Int32} {x4 : Int32} {x5 : Int32} {s1 : Int32} {s2 : Int32} (ho : c = 7 ∨ c = 22) (h74 : zin s1 1408) (k1 : zEv X d zm_45 (75, [some (.ref 192), some (.ref c), some (.int x2), some (.int x3), some (.int x4), some (.int x5), none], [], (zS0, R, zu I 194 (s1).toNatClampNeg s2, J)) r) : zEv X d zm_45 (74, [some (.ref 192), some (.ref c), some (.int x2), some (.int x3), some (.int x4), some (.int x5), none], [.int s2, .int s1, .ref 194], (zS0, R, I, J)) r := by
  rcases ho with rfl | rfl
  · refine zEv_ias rfl rfl (by decide) h74 ?_
    exact k1
  · refine zEv_ias rfl rfl (by decide) h74 ?_
    exact k1
theorem b_45_75 {X : zX} {d : Nat} {R : zR} {I : zI} {J : zJ} {r : zA} {c : Nat} {x2 : Int32} {x3 : Int32} {x4 : Int32} {x5 : Option Value} (ho : c = 7 ∨ c = 22) (k1 : zEv X d zm_45 (12, [some (.ref 192), some (.ref c), some (.int x2), some (.int x3), some (.int (x4 + 1)), x5, none], [], (zS0, R, I, J)) r) : zEv X d zm_45 (75, [some (.ref 192), some (.ref c), some (.int x2), some (.int x3), some (.int x4), x5, none], [], (zS0, R, I, J)) r := by
  rcases ho with rfl | rfl
  · refine zEv_k 2 (f' := (12, [some (.ref 192), some (.ref 7), some (.int x2), some (.int x3), some (.int (x4 + 1)), x5, none], [], (zS0, R, I, J))) rfl ?_
    exact k1
  · refine zEv_k 2 (f' := (12, [some (.ref 192), some (.ref 22), some (.int x2), some (.int x3), some (.int (x4 + 1)), x5, none], [], (zS0, R, I, J))) rfl ?_
    exact k1
theorem b_45_81 {X : zX} {d : Nat} {R : zR} {I : zI} {J : zJ} {r : zA} {c : Nat} {x2 : Int32} {x3 : Int32} {x4 : Int32} {x5 : Option Value} (ho : c = 7 ∨ c = 22) (k1 : zEv X d zm_45 (5, [some (.ref 192), some (.ref c), some (.int x2), some (.int (x3 + (-1))), some (.int x4), x5, none], [], (zS0, R, I, J)) r) : zEv X d zm_45 (81, [some (.ref 192), some (.ref c), some (.int x2), some (.int x3), some (.int x4), x5, none], [], (zS0, R, I, J)) r := by
  rcases ho with rfl | rfl
  · refine zEv_k 2 (f' := (5, [some (.ref 192), some (.ref 7), some (.int x2), some (.int (x3 + (-1))), some (.int x4), x5, none], [], (zS0, R, I, J))) rfl ?_
    exact k1
  · refine zEv_k 2 (f' := (5, [some (.ref 192), some (.ref 22), some (.int x2), some (.int (x3 + (-1))), some (.int x4), x5, none], [], (zS0, R, I, J))) rfl ?_
    exact k1
theorem b_45_87 {X : zX} {d : Nat} {R : zR} {I : zI} {J : zJ} {r : zA} {c : Nat} {x2 : Int32} {x3 : Int32} {x4 : Option Value} {x5 : Option Value} (ho : c = 7 ∨ c = 22) (k1 : zEv X d zm_45 (106, [some (.ref 192), some (.ref c), some (.int x2), some (.int 0), some (.int 7), some (.int 0), none], [], (zS0, R, zu (zu I 192 0 0) 192 3 0, J)) r) : zEv X d zm_45 (87, [some (.ref 192), some (.ref c), some (.int x2), some (.int x3), x4, x5, none], [], (zS0, R, I, J)) r := by
  rcases ho with rfl | rfl
  · refine zEv_k 9 (f' := (101, [some (.ref 192), some (.ref 7), some (.int x2), some (.int 0), x4, x5, none], [.int 7], (zS0, R, zu (zu I 192 0 0) 192 3 0, J))) rfl ?_
    refine zEv_k 3 (f' := (106, [some (.ref 192), some (.ref 7), some (.int x2), some (.int 0), some (.int 7), some (.int 0), none], [], (zS0, R, zu (zu I 192 0 0) 192 3 0, J))) rfl ?_
    exact k1
  · refine zEv_k 9 (f' := (101, [some (.ref 192), some (.ref 22), some (.int x2), some (.int 0), x4, x5, none], [.int 7], (zS0, R, zu (zu I 192 0 0) 192 3 0, J))) rfl ?_
    refine zEv_k 3 (f' := (106, [some (.ref 192), some (.ref 22), some (.int x2), some (.int 0), some (.int 7), some (.int 0), none], [], (zS0, R, zu (zu I 192 0 0) 192 3 0, J))) rfl ?_
    exact k1
theorem b_45_106 {X : zX} {d : Nat} {R : zR} {I : zI} {J : zJ} {r : zA} {c : Nat} {x2 : Int32} {x3 : Int32} {x4 : Int32} {x5 : Int32} {x6 : Option Value} (ho : c = 7 ∨ c = 22) (k1 : (I c 2) ≤ x5 → zEv X d zm_45 (199, [some (.ref 192), some (.ref c), some (.int x2), some (.int x3), some (.int x4), some (.int x5), x6], [], (zS0, R, I, J)) r) (k2 : ¬ ((I c 2) ≤ x5) → zEv X d zm_45 (115, [some (.ref 192), some (.ref c), some (.int x2), some (.int x3), some (.int x4), some (.int x5), x6], [], (zS0, R, I, J)) r) : zEv X d zm_45 (106, [some (.ref 192), some (.ref c), some (.int x2), some (.int x3), some (.int x4), some (.int x5), x6], [], (zS0, R, I, J)) r := by
  rcases ho with rfl | rfl
  · refine zEv_k 4 (f' := (if (I 7 2) ≤ x5 then 199 else 115, [some (.ref 192), some (.ref 7), some (.int x2), some (.int x3), some (.int x4), some (.int x5), x6], [], (zS0, R, I, J))) rfl ?_
    exact zEv_if k1 k2
  · refine zEv_k 4 (f' := (if (I 22 2) ≤ x5 then 199 else 115, [some (.ref 192), some (.ref 22), some (.int x2), some (.int x3), some (.int x4), some (.int x5), x6], [], (zS0, R, I, J))) rfl ?_
    exact zEv_if k1 k2
theorem b_45_115 {X : zX} {d : Nat} {R : zR} {I : zI} {J : zJ} {r : zA} {c : Nat} {x2 : Int32} {x3 : Int32} {x4 : Int32} {x5 : Int32} {x6 : Option Value} {w : Int32} {R' : zR} {I' : zI} {J' : zJ} (ho : c = 7 ∨ c = 22) (hc : zEv X d zm_46 (0, [some (.ref 192), some (.ref c), some (.int x2), some (.int x3), some (.int x4), none, none, none, none], [], (zS0, R, I, J)) (some (.int w), (zS0, R', I', J'))) (k1 : zEv X (d + 1) zm_45 (124, [some (.ref 192), some (.ref c), some (.int x2), some (.int x3), some (.int x4), some (.int x5), x6], [.int w], (zS0, R', I', J')) r) : zEv X (d + 1) zm_45 (115, [some (.ref 192), some (.ref c), some (.int x2), some (.int x3), some (.int x4), some (.int x5), x6], [], (zS0, R, I, J)) r := by
  rcases ho with rfl | rfl
  · refine zEv_k 5 (f' := (121, [some (.ref 192), some (.ref 7), some (.int x2), some (.int x3), some (.int x4), some (.int x5), x6], [.int x4, .int x3, .int x2, .ref 7, .ref 192], (zS0, R, I, J))) rfl ?_
    exact zEv_c (fun _ => rfl) rfl hc rfl rfl k1
  · refine zEv_k 5 (f' := (121, [some (.ref 192), some (.ref 22), some (.int x2), some (.int x3), some (.int x4), some (.int x5), x6], [.int x4, .int x3, .int x2, .ref 22, .ref 192], (zS0, R, I, J))) rfl ?_
    exact zEv_c (fun _ => rfl) rfl hc rfl rfl k1
theorem b_45_124 {X : zX} {d : Nat} {R : zR} {I : zI} {J : zJ} {r : zA} {c : Nat} {x2 : Int32} {x3 : Int32} {x4 : Int32} {x5 : Int32} {x6 : Option Value} {s0 : Int32} (ho : c = 7 ∨ c = 22) (k1 : ¬ s0 = 7 → zEv X d zm_45 (136, [some (.ref 192), some (.ref c), some (.int x2), some (.int x3), some (.int x4), some (.int x5), some (.int s0)], [], (zS0, R, I, J)) r) (k2 : ¬ (¬ s0 = 7) → zEv X d zm_45 (133, [some (.ref 192), some (.ref c), some (.int x2), some (.int x3), some (.int x4), some (.int x5), some (.int s0)], [], (zS0, R, I, J)) r) : zEv X d zm_45 (124, [some (.ref 192), some (.ref c), some (.int x2), some (.int x3), some (.int x4), some (.int x5), x6], [.int s0], (zS0, R, I, J)) r := by
  rcases ho with rfl | rfl
  · refine zEv_k 4 (f' := (if ¬ s0 = 7 then 136 else 133, [some (.ref 192), some (.ref 7), some (.int x2), some (.int x3), some (.int x4), some (.int x5), some (.int s0)], [], (zS0, R, I, J))) rfl ?_
    exact zEv_if k1 k2
  · refine zEv_k 4 (f' := (if ¬ s0 = 7 then 136 else 133, [some (.ref 192), some (.ref 22), some (.int x2), some (.int x3), some (.int x4), some (.int x5), some (.int s0)], [], (zS0, R, I, J))) rfl ?_
    exact zEv_if k1 k2
theorem b_45_133 {X : zX} {d : Nat} {R : zR} {I : zI} {J : zJ} {r : zA} {c : Nat} {x2 : Int32} {x3 : Int32} {x4 : Int32} {x5 : Int32} {x6 : Int32} (ho : c = 7 ∨ c = 22) (k1 : zEv X d zm_45 (199, [some (.ref 192), some (.ref c), some (.int x2), some (.int x3), some (.int x4), some (.int x5), some (.int x6)], [], (zS0, R, I, J)) r) : zEv X d zm_45 (133, [some (.ref 192), some (.ref c), some (.int x2), some (.int x3), some (.int x4), some (.int x5), some (.int x6)], [], (zS0, R, I, J)) r := by
  rcases ho with rfl | rfl
  · refine zEv_k 1 (f' := (199, [some (.ref 192), some (.ref 7), some (.int x2), some (.int x3), some (.int x4), some (.int x5), some (.int x6)], [], (zS0, R, I, J))) rfl ?_
    exact k1
  · refine zEv_k 1 (f' := (199, [some (.ref 192), some (.ref 22), some (.int x2), some (.int x3), some (.int x4), some (.int x5), some (.int x6)], [], (zS0, R, I, J))) rfl ?_
    exact k1
theorem b_45_136 {X : zX} {d : Nat} {R : zR} {I : zI} {J : zJ} {r : zA} {c : Nat} {x2 : Int32} {x3 : Int32} {x4 : Int32} {x5 : Int32} {x6 : Int32} (ho : c = 7 ∨ c = 22) (k1 : ¬ x5 = 0 → zEv X d zm_45 (156, [some (.ref 192), some (.ref c), some (.int x2), some (.int x3), some (.int x4), some (.int x5), some (.int x6)], [.ref 192], (zS0, R, I, J)) r) (k2 : ¬ (¬ x5 = 0) → zEv X d zm_45 (142, [some (.ref 192), some (.ref c), some (.int x2), some (.int x3), some (.int x4), some (.int x5), some (.int x6)], [.ref 192], (zS0, R, I, J)) r) : zEv X d zm_45 (136, [some (.ref 192), some (.ref c), some (.int x2), some (.int x3), some (.int x4), some (.int x5), some (.int x6)], [], (zS0, R, I, J)) r := by
  rcases ho with rfl | rfl
  · refine zEv_k 3 (f' := (if ¬ x5 = 0 then 156 else 142, [some (.ref 192), some (.ref 7), some (.int x2), some (.int x3), some (.int x4), some (.int x5), some (.int x6)], [.ref 192], (zS0, R, I, J))) rfl ?_
    exact zEv_if k1 k2
  · refine zEv_k 3 (f' := (if ¬ x5 = 0 then 156 else 142, [some (.ref 192), some (.ref 22), some (.int x2), some (.int x3), some (.int x4), some (.int x5), some (.int x6)], [.ref 192], (zS0, R, I, J))) rfl ?_
    exact zEv_if k1 k2
theorem b_45_142 {X : zX} {d : Nat} {R : zR} {I : zI} {J : zJ} {r : zA} {c : Nat} {x2 : Int32} {x3 : Int32} {x4 : Int32} {x5 : Int32} {x6 : Int32} {w : Int32} {R' : zR} {I' : zI} {J' : zJ} (ho : c = 7 ∨ c = 22) (hc : zEv X d zm_47 (0, [some (.ref 192), some (.ref c), some (.int x2), some (.int x3), some (.int x4), some (.int x6), none], [], (zS0, R, I, J)) (some (.int w), (zS0, R', I', J'))) (k1 : zEv X (d + 1) zm_45 (153, [some (.ref 192), some (.ref c), some (.int x2), some (.int x3), some (.int x4), some (.int x5), some (.int x6)], [.int w, .ref 192], (zS0, R', I', J')) r) : zEv X (d + 1) zm_45 (142, [some (.ref 192), some (.ref c), some (.int x2), some (.int x3), some (.int x4), some (.int x5), some (.int x6)], [.ref 192], (zS0, R, I, J)) r := by
  rcases ho with rfl | rfl
  · refine zEv_k 6 (f' := (150, [some (.ref 192), some (.ref 7), some (.int x2), some (.int x3), some (.int x4), some (.int x5), some (.int x6)], [.int x6, .int x4, .int x3, .int x2, .ref 7, .ref 192, .ref 192], (zS0, R, I, J))) rfl ?_
    exact zEv_c (fun _ => rfl) rfl hc rfl rfl k1
  · refine zEv_k 6 (f' := (150, [some (.ref 192), some (.ref 22), some (.int x2), some (.int x3), some (.int x4), some (.int x5), some (.int x6)], [.int x6, .int x4, .int x3, .int x2, .ref 22, .ref 192, .ref 192], (zS0, R, I, J))) rfl ?_
    exact zEv_c (fun _ => rfl) rfl hc rfl rfl k1
theorem b_45_153 {X : zX} {d : Nat} {R : zR} {I : zI} {J : zJ} {r : zA} {c : Nat} {x2 : Int32} {x3 : Int32} {x4 : Int32} {x5 : Int32} {x6 : Int32} {s1 : Int32} (ho : c = 7 ∨ c = 22) (k1 : zEv X d zm_45 (160, [some (.ref 192), some (.ref c), some (.int x2), some (.int x3), some (.int x4), some (.int x5), some (.int x6)], [.int s1, .ref 192], (zS0, R, I, J)) r) : zEv X d zm_45 (153, [some (.ref 192), some (.ref c), some (.int x2), some (.int x3), some (.int x4), some (.int x5), some (.int x6)], [.int s1, .ref 192], (zS0, R, I, J)) r := by
  rcases ho with rfl | rfl
  · refine zEv_k 1 (f' := (160, [some (.ref 192), some (.ref 7), some (.int x2), some (.int x3), some (.int x4), some (.int x5), some (.int x6)], [.int s1, .ref 192], (zS0, R, I, J))) rfl ?_
    exact k1
  · refine zEv_k 1 (f' := (160, [some (.ref 192), some (.ref 22), some (.int x2), some (.int x3), some (.int x4), some (.int x5), some (.int x6)], [.int s1, .ref 192], (zS0, R, I, J))) rfl ?_
    exact k1
theorem b_45_156 {X : zX} {d : Nat} {R : zR} {I : zI} {J : zJ} {r : zA} {c : Nat} {x2 : Int32} {x3 : Int32} {x4 : Int32} {x5 : Int32} {x6 : Int32} (ho : c = 7 ∨ c = 22) (k1 : zEv X d zm_45 (160, [some (.ref 192), some (.ref c), some (.int x2), some (.int x3), some (.int x4), some (.int x5), some (.int x6)], [.int (I 192 0), .ref 192], (zS0, R, I, J)) r) : zEv X d zm_45 (156, [some (.ref 192), some (.ref c), some (.int x2), some (.int x3), some (.int x4), some (.int x5), some (.int x6)], [.ref 192], (zS0, R, I, J)) r := by
  rcases ho with rfl | rfl
  · refine zEv_k 2 (f' := (160, [some (.ref 192), some (.ref 7), some (.int x2), some (.int x3), some (.int x4), some (.int x5), some (.int x6)], [.int (I 192 0), .ref 192], (zS0, R, I, J))) rfl ?_
    exact k1
  · refine zEv_k 2 (f' := (160, [some (.ref 192), some (.ref 22), some (.int x2), some (.int x3), some (.int x4), some (.int x5), some (.int x6)], [.int (I 192 0), .ref 192], (zS0, R, I, J))) rfl ?_
    exact k1
theorem b_45_160 {X : zX} {d : Nat} {R : zR} {I : zI} {J : zJ} {r : zA} {c : Nat} {x2 : Int32} {x3 : Int32} {x4 : Int32} {x5 : Int32} {x6 : Int32} {s1 : Int32} (hR : zRok R) (ho : c = 7 ∨ c = 22) (h171 : zin x5 10) (k1 : zEv X d zm_45 (106, [some (.ref 192), some (.ref c), some (.int x2), some (.int (x3 ||| ((1 : Int32) <<< (x6 &&& 31)))), some (.int x6), some (.int (x5 + 1)), some (.int x6)], [], (zS0, R, zu (zu (zu I 192 0 s1) 193 (x5).toNatClampNeg x6) 192 3 (((zu I 192 0 s1) 192 3) + 1), J)) r) : zEv X d zm_45 (160, [some (.ref 192), some (.ref c), some (.int x2), some (.int x3), some (.int x4), some (.int x5), some (.int x6)], [.int s1, .ref 192], (zS0, R, I, J)) r := by
  rcases ho with rfl | rfl
  · refine zEv_k 2 (f' := (164, [some (.ref 192), some (.ref 7), some (.int x2), some (.int x3), some (.int x4), some (.int x5), some (.int x6)], [.ref 192], (zS0, R, zu I 192 0 s1, J))) rfl ?_
    refine zEv_gr rfl rfl rfl (by decide) (hR (192) 2 (193) rfl) ?_
    refine zEv_k 2 (f' := (171, [some (.ref 192), some (.ref 7), some (.int x2), some (.int x3), some (.int x4), some (.int x5), some (.int x6)], [.int x6, .int x5, .ref 193], (zS0, R, zu I 192 0 s1, J))) rfl ?_
    refine zEv_ias rfl rfl (by decide) h171 ?_
    refine zEv_k 9 (f' := (186, [some (.ref 192), some (.ref 7), some (.int x2), some (.int x3), some (.int x4), some (.int x5), some (.int x6)], [.int x6, .int 1, .int x3], (zS0, R, zu (zu (zu I 192 0 s1) 193 (x5).toNatClampNeg x6) 192 3 (((zu I 192 0 s1) 192 3) + 1), J))) rfl ?_
    refine zEv_k 7 (f' := (106, [some (.ref 192), some (.ref 7), some (.int x2), some (.int (x3 ||| ((1 : Int32) <<< (x6 &&& 31)))), some (.int x6), some (.int (x5 + 1)), some (.int x6)], [], (zS0, R, zu (zu (zu I 192 0 s1) 193 (x5).toNatClampNeg x6) 192 3 (((zu I 192 0 s1) 192 3) + 1), J))) rfl ?_
    exact k1
  · refine zEv_k 2 (f' := (164, [some (.ref 192), some (.ref 22), some (.int x2), some (.int x3), some (.int x4), some (.int x5), some (.int x6)], [.ref 192], (zS0, R, zu I 192 0 s1, J))) rfl ?_
    refine zEv_gr rfl rfl rfl (by decide) (hR (192) 2 (193) rfl) ?_
    refine zEv_k 2 (f' := (171, [some (.ref 192), some (.ref 22), some (.int x2), some (.int x3), some (.int x4), some (.int x5), some (.int x6)], [.int x6, .int x5, .ref 193], (zS0, R, zu I 192 0 s1, J))) rfl ?_
    refine zEv_ias rfl rfl (by decide) h171 ?_
    refine zEv_k 9 (f' := (186, [some (.ref 192), some (.ref 22), some (.int x2), some (.int x3), some (.int x4), some (.int x5), some (.int x6)], [.int x6, .int 1, .int x3], (zS0, R, zu (zu (zu I 192 0 s1) 193 (x5).toNatClampNeg x6) 192 3 (((zu I 192 0 s1) 192 3) + 1), J))) rfl ?_
    refine zEv_k 7 (f' := (106, [some (.ref 192), some (.ref 22), some (.int x2), some (.int (x3 ||| ((1 : Int32) <<< (x6 &&& 31)))), some (.int x6), some (.int (x5 + 1)), some (.int x6)], [], (zS0, R, zu (zu (zu I 192 0 s1) 193 (x5).toNatClampNeg x6) 192 3 (((zu I 192 0 s1) 192 3) + 1), J))) rfl ?_
    exact k1
theorem b_45_199 {X : zX} {d : Nat} {R : zR} {I : zI} {J : zJ} {c : Nat} {x2 : Int32} {x3 : Int32} {x4 : Int32} {x5 : Int32} {x6 : Option Value} (ho : c = 7 ∨ c = 22) : zEv X d zm_45 (199, [some (.ref 192), some (.ref c), some (.int x2), some (.int x3), some (.int x4), some (.int x5), x6], [], (zS0, R, I, J)) (none, (zS0, R, I, J)) := by
  rcases ho with rfl | rfl
  · exact zEv_r rfl
  · exact zEv_r rfl
theorem b_46_0 {X : zX} {d : Nat} {R : zR} {I : zI} {J : zJ} {r : zA} {c : Nat} {x2 : Int32} {x3 : Int32} {x4 : Int32} (ho : c = 7 ∨ c = 22) (k1 : zEv X d zm_46 (10, [some (.ref 192), some (.ref c), some (.int x2), some (.int x3), some (.int x4), some (.int 7), some (.int (-1)), some (.int 0), none], [], (zS0, R, I, J)) r) : zEv X d zm_46 (0, [some (.ref 192), some (.ref c), some (.int x2), some (.int x3), some (.int x4), none, none, none, none], [], (zS0, R, I, J)) r := by
  rcases ho with rfl | rfl
  · refine zEv_k 6 (f' := (10, [some (.ref 192), some (.ref 7), some (.int x2), some (.int x3), some (.int x4), some (.int 7), some (.int (-1)), some (.int 0), none], [], (zS0, R, I, J))) rfl ?_
    exact k1
  · refine zEv_k 6 (f' := (10, [some (.ref 192), some (.ref 22), some (.int x2), some (.int x3), some (.int x4), some (.int 7), some (.int (-1)), some (.int 0), none], [], (zS0, R, I, J))) rfl ?_
    exact k1
theorem b_46_10 {X : zX} {d : Nat} {R : zR} {I : zI} {J : zJ} {r : zA} {c : Nat} {x2 : Int32} {x3 : Int32} {x4 : Int32} {x5 : Int32} {x6 : Int32} {x7 : Int32} {x8 : Option Value} (ho : c = 7 ∨ c = 22) (k1 : (I c 2) ≤ x7 → zEv X d zm_46 (105, [some (.ref 192), some (.ref c), some (.int x2), some (.int x3), some (.int x4), some (.int x5), some (.int x6), some (.int x7), x8], [], (zS0, R, I, J)) r) (k2 : ¬ ((I c 2) ≤ x7) → zEv X d zm_46 (19, [some (.ref 192), some (.ref c), some (.int x2), some (.int x3), some (.int x4), some (.int x5), some (.int x6), some (.int x7), x8], [], (zS0, R, I, J)) r) : zEv X d zm_46 (10, [some (.ref 192), some (.ref c), some (.int x2), some (.int x3), some (.int x4), some (.int x5), some (.int x6), some (.int x7), x8], [], (zS0, R, I, J)) r := by
  rcases ho with rfl | rfl
  · refine zEv_k 4 (f' := (if (I 7 2) ≤ x7 then 105 else 19, [some (.ref 192), some (.ref 7), some (.int x2), some (.int x3), some (.int x4), some (.int x5), some (.int x6), some (.int x7), x8], [], (zS0, R, I, J))) rfl ?_
    exact zEv_if k1 k2
  · refine zEv_k 4 (f' := (if (I 22 2) ≤ x7 then 105 else 19, [some (.ref 192), some (.ref 22), some (.int x2), some (.int x3), some (.int x4), some (.int x5), some (.int x6), some (.int x7), x8], [], (zS0, R, I, J))) rfl ?_
    exact zEv_if k1 k2
theorem b_46_19 {X : zX} {d : Nat} {R : zR} {I : zI} {J : zJ} {r : zA} {c : Nat} {x2 : Int32} {x3 : Int32} {x4 : Int32} {x5 : Int32} {x6 : Int32} {x7 : Int32} {x8 : Option Value} (ho : c = 7 ∨ c = 22) (k1 : ¬ (zf_cin x3 x7) = 0 → zEv X (d + 1) zm_46 (58, [some (.ref 192), some (.ref c), some (.int x2), some (.int x3), some (.int x4), some (.int x5), some (.int x6), some (.int x7), x8], [], (zS0, R, I, J)) r) (k2 : ¬ (¬ (zf_cin x3 x7) = 0) → zEv X (d + 1) zm_46 (28, [some (.ref 192), some (.ref c), some (.int x2), some (.int x3), some (.int x4), some (.int x5), some (.int x6), some (.int x7), x8], [], (zS0, R, I, J)) r) : zEv X (d + 1) zm_46 (19, [some (.ref 192), some (.ref c), some (.int x2), some (.int x3), some (.int x4), some (.int x5), some (.int x6), some (.int x7), x8], [], (zS0, R, I, J)) r := by
  rcases ho with rfl | rfl
  · refine zEv_k 2 (f' := (22, [some (.ref 192), some (.ref 7), some (.int x2), some (.int x3), some (.int x4), some (.int x5), some (.int x6), some (.int x7), x8], [.int x7, .int x3], (zS0, R, I, J))) rfl ?_
    refine zEv_c (fun _ => rfl) rfl ev_zf_cin rfl rfl ?_
    refine zEv_k 1 (f' := (if ¬ (zf_cin x3 x7) = 0 then 58 else 28, [some (.ref 192), some (.ref 7), some (.int x2), some (.int x3), some (.int x4), some (.int x5), some (.int x6), some (.int x7), x8], [], (zS0, R, I, J))) rfl ?_
    exact zEv_if k1 k2
  · refine zEv_k 2 (f' := (22, [some (.ref 192), some (.ref 22), some (.int x2), some (.int x3), some (.int x4), some (.int x5), some (.int x6), some (.int x7), x8], [.int x7, .int x3], (zS0, R, I, J))) rfl ?_
    refine zEv_c (fun _ => rfl) rfl ev_zf_cin rfl rfl ?_
    refine zEv_k 1 (f' := (if ¬ (zf_cin x3 x7) = 0 then 58 else 28, [some (.ref 192), some (.ref 22), some (.int x2), some (.int x3), some (.int x4), some (.int x5), some (.int x6), some (.int x7), x8], [], (zS0, R, I, J))) rfl ?_
    exact zEv_if k1 k2
theorem b_46_28 {X : zX} {d : Nat} {R : zR} {I : zI} {J : zJ} {r : zA} {c : Nat} {x2 : Int32} {x3 : Int32} {x4 : Int32} {x5 : Int32} {x6 : Int32} {x7 : Int32} {x8 : Option Value} (ho : c = 7 ∨ c = 22) (k1 : x2 = 0 → zEv X d zm_46 (54, [some (.ref 192), some (.ref c), some (.int x2), some (.int x3), some (.int x4), some (.int x5), some (.int x6), some (.int x7), x8], [], (zS0, R, I, J)) r) (k2 : ¬ (x2 = 0) → zEv X d zm_46 (32, [some (.ref 192), some (.ref c), some (.int x2), some (.int x3), some (.int x4), some (.int x5), some (.int x6), some (.int x7), x8], [], (zS0, R, I, J)) r) : zEv X d zm_46 (28, [some (.ref 192), some (.ref c), some (.int x2), some (.int x3), some (.int x4), some (.int x5), some (.int x6), some (.int x7), x8], [], (zS0, R, I, J)) r := by
  rcases ho with rfl | rfl
  · refine zEv_k 2 (f' := (if x2 = 0 then 54 else 32, [some (.ref 192), some (.ref 7), some (.int x2), some (.int x3), some (.int x4), some (.int x5), some (.int x6), some (.int x7), x8], [], (zS0, R, I, J))) rfl ?_
    exact zEv_if k1 k2
  · refine zEv_k 2 (f' := (if x2 = 0 then 54 else 32, [some (.ref 192), some (.ref 22), some (.int x2), some (.int x3), some (.int x4), some (.int x5), some (.int x6), some (.int x7), x8], [], (zS0, R, I, J))) rfl ?_
    exact zEv_if k1 k2
theorem b_46_32 {X : zX} {d : Nat} {R : zR} {I : zI} {J : zJ} {r : zA} {c : Nat} {x2 : Int32} {x3 : Int32} {x4 : Int32} {x5 : Int32} {x6 : Int32} {x7 : Int32} {x8 : Option Value} (ho : c = 7 ∨ c = 22) (k1 : x4 = 7 → zEv X d zm_46 (54, [some (.ref 192), some (.ref c), some (.int x2), some (.int x3), some (.int x4), some (.int x5), some (.int x6), some (.int x7), x8], [], (zS0, R, I, J)) r) (k2 : ¬ (x4 = 7) → zEv X d zm_46 (39, [some (.ref 192), some (.ref c), some (.int x2), some (.int x3), some (.int x4), some (.int x5), some (.int x6), some (.int x7), x8], [], (zS0, R, I, J)) r) : zEv X d zm_46 (32, [some (.ref 192), some (.ref c), some (.int x2), some (.int x3), some (.int x4), some (.int x5), some (.int x6), some (.int x7), x8], [], (zS0, R, I, J)) r := by
  rcases ho with rfl | rfl
  · refine zEv_k 3 (f' := (if x4 = 7 then 54 else 39, [some (.ref 192), some (.ref 7), some (.int x2), some (.int x3), some (.int x4), some (.int x5), some (.int x6), some (.int x7), x8], [], (zS0, R, I, J))) rfl ?_
    exact zEv_if k1 k2
  · refine zEv_k 3 (f' := (if x4 = 7 then 54 else 39, [some (.ref 192), some (.ref 22), some (.int x2), some (.int x3), some (.int x4), some (.int x5), some (.int x6), some (.int x7), x8], [], (zS0, R, I, J))) rfl ?_
    exact zEv_if k1 k2
theorem b_46_39 {X : zX} {d : Nat} {R : zR} {I : zI} {J : zJ} {r : zA} {c : Nat} {x2 : Int32} {x3 : Int32} {x4 : Int32} {x5 : Int32} {x6 : Int32} {x7 : Int32} {x8 : Option Value} (hR : zRok R) (ho : c = 7 ∨ c = 22) (h45 : zin x7 7) (k1 : (zf_cin (I (c + 7) (x7).toNatClampNeg) x4) = 0 → zEv X (d + 1) zm_46 (58, [some (.ref 192), some (.ref c), some (.int x2), some (.int x3), some (.int x4), some (.int x5), some (.int x6), some (.int x7), x8], [], (zS0, R, I, J)) r) (k2 : ¬ ((zf_cin (I (c + 7) (x7).toNatClampNeg) x4) = 0) → zEv X (d + 1) zm_46 (54, [some (.ref 192), some (.ref c), some (.int x2), some (.int x3), some (.int x4), some (.int x5), some (.int x6), some (.int x7), x8], [], (zS0, R, I, J)) r) : zEv X (d + 1) zm_46 (39, [some (.ref 192), some (.ref c), some (.int x2), some (.int x3), some (.int x4), some (.int x5), some (.int x6), some (.int x7), x8], [], (zS0, R, I, J)) r := by
  rcases ho with rfl | rfl
  · refine zEv_k 1 (f' := (40, [some (.ref 192), some (.ref 7), some (.int x2), some (.int x3), some (.int x4), some (.int x5), some (.int x6), some (.int x7), x8], [.ref 7], (zS0, R, I, J))) rfl ?_
    refine zEv_gr rfl rfl rfl (by decide) (hR (7) 9 (7 + 7) rfl) ?_
    refine zEv_k 1 (f' := (45, [some (.ref 192), some (.ref 7), some (.int x2), some (.int x3), some (.int x4), some (.int x5), some (.int x6), some (.int x7), x8], [.int x7, .ref (7 + 7)], (zS0, R, I, J))) rfl ?_
    refine zEv_ial rfl rfl (by decide) h45 ?_
    refine zEv_k 1 (f' := (48, [some (.ref 192), some (.ref 7), some (.int x2), some (.int x3), some (.int x4), some (.int x5), some (.int x6), some (.int x7), x8], [.int x4, .int (I (7 + 7) (x7).toNatClampNeg)], (zS0, R, I, J))) rfl ?_
    refine zEv_c (fun _ => rfl) rfl ev_zf_cin rfl rfl ?_
    refine zEv_k 1 (f' := (if (zf_cin (I (7 + 7) (x7).toNatClampNeg) x4) = 0 then 58 else 54, [some (.ref 192), some (.ref 7), some (.int x2), some (.int x3), some (.int x4), some (.int x5), some (.int x6), some (.int x7), x8], [], (zS0, R, I, J))) rfl ?_
    exact zEv_if k1 k2
  · refine zEv_k 1 (f' := (40, [some (.ref 192), some (.ref 22), some (.int x2), some (.int x3), some (.int x4), some (.int x5), some (.int x6), some (.int x7), x8], [.ref 22], (zS0, R, I, J))) rfl ?_
    refine zEv_gr rfl rfl rfl (by decide) (hR (22) 9 (22 + 7) rfl) ?_
    refine zEv_k 1 (f' := (45, [some (.ref 192), some (.ref 22), some (.int x2), some (.int x3), some (.int x4), some (.int x5), some (.int x6), some (.int x7), x8], [.int x7, .ref (22 + 7)], (zS0, R, I, J))) rfl ?_
    refine zEv_ial rfl rfl (by decide) h45 ?_
    refine zEv_k 1 (f' := (48, [some (.ref 192), some (.ref 22), some (.int x2), some (.int x3), some (.int x4), some (.int x5), some (.int x6), some (.int x7), x8], [.int x4, .int (I (22 + 7) (x7).toNatClampNeg)], (zS0, R, I, J))) rfl ?_
    refine zEv_c (fun _ => rfl) rfl ev_zf_cin rfl rfl ?_
    refine zEv_k 1 (f' := (if (zf_cin (I (22 + 7) (x7).toNatClampNeg) x4) = 0 then 58 else 54, [some (.ref 192), some (.ref 22), some (.int x2), some (.int x3), some (.int x4), some (.int x5), some (.int x6), some (.int x7), x8], [], (zS0, R, I, J))) rfl ?_
    exact zEv_if k1 k2
theorem b_46_54 {X : zX} {d : Nat} {R : zR} {I : zI} {J : zJ} {r : zA} {c : Nat} {x2 : Int32} {x3 : Int32} {x4 : Int32} {x5 : Int32} {x6 : Int32} {x7 : Int32} {x8 : Option Value} (ho : c = 7 ∨ c = 22) (k1 : zEv X d zm_46 (59, [some (.ref 192), some (.ref c), some (.int x2), some (.int x3), some (.int x4), some (.int x5), some (.int x6), some (.int x7), x8], [.int 1], (zS0, R, I, J)) r) : zEv X d zm_46 (54, [some (.ref 192), some (.ref c), some (.int x2), some (.int x3), some (.int x4), some (.int x5), some (.int x6), some (.int x7), x8], [], (zS0, R, I, J)) r := by
  rcases ho with rfl | rfl
  · refine zEv_k 2 (f' := (59, [some (.ref 192), some (.ref 7), some (.int x2), some (.int x3), some (.int x4), some (.int x5), some (.int x6), some (.int x7), x8], [.int 1], (zS0, R, I, J))) rfl ?_
    exact k1
  · refine zEv_k 2 (f' := (59, [some (.ref 192), some (.ref 22), some (.int x2), some (.int x3), some (.int x4), some (.int x5), some (.int x6), some (.int x7), x8], [.int 1], (zS0, R, I, J))) rfl ?_
    exact k1
theorem b_46_58 {X : zX} {d : Nat} {R : zR} {I : zI} {J : zJ} {r : zA} {c : Nat} {x2 : Int32} {x3 : Int32} {x4 : Int32} {x5 : Int32} {x6 : Int32} {x7 : Int32} {x8 : Option Value} (ho : c = 7 ∨ c = 22) (k1 : zEv X d zm_46 (59, [some (.ref 192), some (.ref c), some (.int x2), some (.int x3), some (.int x4), some (.int x5), some (.int x6), some (.int x7), x8], [.int 0], (zS0, R, I, J)) r) : zEv X d zm_46 (58, [some (.ref 192), some (.ref c), some (.int x2), some (.int x3), some (.int x4), some (.int x5), some (.int x6), some (.int x7), x8], [], (zS0, R, I, J)) r := by
  rcases ho with rfl | rfl
  · refine zEv_k 1 (f' := (59, [some (.ref 192), some (.ref 7), some (.int x2), some (.int x3), some (.int x4), some (.int x5), some (.int x6), some (.int x7), x8], [.int 0], (zS0, R, I, J))) rfl ?_
    exact k1
  · refine zEv_k 1 (f' := (59, [some (.ref 192), some (.ref 22), some (.int x2), some (.int x3), some (.int x4), some (.int x5), some (.int x6), some (.int x7), x8], [.int 0], (zS0, R, I, J))) rfl ?_
    exact k1
theorem b_46_59 {X : zX} {d : Nat} {R : zR} {I : zI} {J : zJ} {r : zA} {c : Nat} {x2 : Int32} {x3 : Int32} {x4 : Int32} {x5 : Int32} {x6 : Int32} {x7 : Int32} {x8 : Option Value} {s0 : Int32} (ho : c = 7 ∨ c = 22) (k1 : s0 = 0 → zEv X d zm_46 (99, [some (.ref 192), some (.ref c), some (.int x2), some (.int x3), some (.int x4), some (.int x5), some (.int x6), some (.int x7), some (.int s0)], [], (zS0, R, I, J)) r) (k2 : ¬ (s0 = 0) → zEv X d zm_46 (66, [some (.ref 192), some (.ref c), some (.int x2), some (.int x3), some (.int x4), some (.int x5), some (.int x6), some (.int x7), some (.int s0)], [], (zS0, R, I, J)) r) : zEv X d zm_46 (59, [some (.ref 192), some (.ref c), some (.int x2), some (.int x3), some (.int x4), some (.int x5), some (.int x6), some (.int x7), x8], [.int s0], (zS0, R, I, J)) r := by
  rcases ho with rfl | rfl
  · refine zEv_k 3 (f' := (if s0 = 0 then 99 else 66, [some (.ref 192), some (.ref 7), some (.int x2), some (.int x3), some (.int x4), some (.int x5), some (.int x6), some (.int x7), some (.int s0)], [], (zS0, R, I, J))) rfl ?_
    exact zEv_if k1 k2
  · refine zEv_k 3 (f' := (if s0 = 0 then 99 else 66, [some (.ref 192), some (.ref 22), some (.int x2), some (.int x3), some (.int x4), some (.int x5), some (.int x6), some (.int x7), some (.int s0)], [], (zS0, R, I, J))) rfl ?_
    exact zEv_if k1 k2
theorem b_46_66 {X : zX} {d : Nat} {R : zR} {I : zI} {J : zJ} {r : zA} {c : Nat} {x2 : Int32} {x3 : Int32} {x4 : Int32} {x5 : Int32} {x6 : Int32} {x7 : Int32} {x8 : Int32} {w : Int32} {R' : zR} {I' : zI} {J' : zJ} (ho : c = 7 ∨ c = 22) (hc : zEv X d zm_47 (0, [some (.ref 192), some (.ref c), some (.int x2), some (.int x3), some (.int x4), some (.int x7), none], [], (zS0, R, I, J)) (some (.int w), (zS0, R', I', J'))) (k1 : zEv X (d + 1) zm_46 (77, [some (.ref 192), some (.ref c), some (.int x2), some (.int x3), some (.int x4), some (.int x5), some (.int x6), some (.int x7), some (.int x8)], [.int w], (zS0, R', I', J')) r) : zEv X (d + 1) zm_46 (66, [some (.ref 192), some (.ref c), some (.int x2), some (.int x3), some (.int x4), some (.int x5), some (.int x6), some (.int x7), some (.int x8)], [], (zS0, R, I, J)) r := by
  rcases ho with rfl | rfl
  · refine zEv_k 6 (f' := (74, [some (.ref 192), some (.ref 7), some (.int x2), some (.int x3), some (.int x4), some (.int x5), some (.int x6), some (.int x7), some (.int x8)], [.int x7, .int x4, .int x3, .int x2, .ref 7, .ref 192], (zS0, R, I, J))) rfl ?_
    exact zEv_c (fun _ => rfl) rfl hc rfl rfl k1
  · refine zEv_k 6 (f' := (74, [some (.ref 192), some (.ref 22), some (.int x2), some (.int x3), some (.int x4), some (.int x5), some (.int x6), some (.int x7), some (.int x8)], [.int x7, .int x4, .int x3, .int x2, .ref 22, .ref 192], (zS0, R, I, J))) rfl ?_
    exact zEv_c (fun _ => rfl) rfl hc rfl rfl k1
theorem b_46_77 {X : zX} {d : Nat} {R : zR} {I : zI} {J : zJ} {r : zA} {c : Nat} {x2 : Int32} {x3 : Int32} {x4 : Int32} {x5 : Int32} {x6 : Int32} {x7 : Int32} {x8 : Int32} {s0 : Int32} (ho : c = 7 ∨ c = 22) (k1 : s0 ≤ x6 → zEv X d zm_46 (99, [some (.ref 192), some (.ref c), some (.int x2), some (.int x3), some (.int x4), some (.int x5), some (.int x6), some (.int x7), some (.int x8)], [], (zS0, R, I, J)) r) (k2 : ¬ (s0 ≤ x6) → zEv X d zm_46 (82, [some (.ref 192), some (.ref c), some (.int x2), some (.int x3), some (.int x4), some (.int x5), some (.int x6), some (.int x7), some (.int x8)], [], (zS0, R, I, J)) r) : zEv X d zm_46 (77, [some (.ref 192), some (.ref c), some (.int x2), some (.int x3), some (.int x4), some (.int x5), some (.int x6), some (.int x7), some (.int x8)], [.int s0], (zS0, R, I, J)) r := by
  rcases ho with rfl | rfl
  · refine zEv_k 2 (f' := (if s0 ≤ x6 then 99 else 82, [some (.ref 192), some (.ref 7), some (.int x2), some (.int x3), some (.int x4), some (.int x5), some (.int x6), some (.int x7), some (.int x8)], [], (zS0, R, I, J))) rfl ?_
    exact zEv_if k1 k2
  · refine zEv_k 2 (f' := (if s0 ≤ x6 then 99 else 82, [some (.ref 192), some (.ref 22), some (.int x2), some (.int x3), some (.int x4), some (.int x5), some (.int x6), some (.int x7), some (.int x8)], [], (zS0, R, I, J))) rfl ?_
    exact zEv_if k1 k2
theorem b_46_82 {X : zX} {d : Nat} {R : zR} {I : zI} {J : zJ} {r : zA} {c : Nat} {x2 : Int32} {x3 : Int32} {x4 : Int32} {x5 : Int32} {x6 : Int32} {x7 : Int32} {x8 : Int32} {w : Int32} {R' : zR} {I' : zI} {J' : zJ} (ho : c = 7 ∨ c = 22) (hc : zEv X d zm_47 (0, [some (.ref 192), some (.ref c), some (.int x2), some (.int x3), some (.int x4), some (.int x7), none], [], (zS0, R, I, J)) (some (.int w), (zS0, R', I', J'))) (k1 : zEv X (d + 1) zm_46 (93, [some (.ref 192), some (.ref c), some (.int x2), some (.int x3), some (.int x4), some (.int x5), some (.int x6), some (.int x7), some (.int x8)], [.int w], (zS0, R', I', J')) r) : zEv X (d + 1) zm_46 (82, [some (.ref 192), some (.ref c), some (.int x2), some (.int x3), some (.int x4), some (.int x5), some (.int x6), some (.int x7), some (.int x8)], [], (zS0, R, I, J)) r := by
  rcases ho with rfl | rfl
  · refine zEv_k 6 (f' := (90, [some (.ref 192), some (.ref 7), some (.int x2), some (.int x3), some (.int x4), some (.int x5), some (.int x6), some (.int x7), some (.int x8)], [.int x7, .int x4, .int x3, .int x2, .ref 7, .ref 192], (zS0, R, I, J))) rfl ?_
    exact zEv_c (fun _ => rfl) rfl hc rfl rfl k1
  · refine zEv_k 6 (f' := (90, [some (.ref 192), some (.ref 22), some (.int x2), some (.int x3), some (.int x4), some (.int x5), some (.int x6), some (.int x7), some (.int x8)], [.int x7, .int x4, .int x3, .int x2, .ref 22, .ref 192], (zS0, R, I, J))) rfl ?_
    exact zEv_c (fun _ => rfl) rfl hc rfl rfl k1
theorem b_46_93 {X : zX} {d : Nat} {R : zR} {I : zI} {J : zJ} {r : zA} {c : Nat} {x2 : Int32} {x3 : Int32} {x4 : Int32} {x5 : Int32} {x6 : Int32} {x7 : Int32} {x8 : Int32} {s0 : Int32} (ho : c = 7 ∨ c = 22) (k1 : zEv X d zm_46 (99, [some (.ref 192), some (.ref c), some (.int x2), some (.int x3), some (.int x4), some (.int x7), some (.int s0), some (.int x7), some (.int x8)], [], (zS0, R, I, J)) r) : zEv X d zm_46 (93, [some (.ref 192), some (.ref c), some (.int x2), some (.int x3), some (.int x4), some (.int x5), some (.int x6), some (.int x7), some (.int x8)], [.int s0], (zS0, R, I, J)) r := by
  rcases ho with rfl | rfl
  · refine zEv_k 3 (f' := (99, [some (.ref 192), some (.ref 7), some (.int x2), some (.int x3), some (.int x4), some (.int x7), some (.int s0), some (.int x7), some (.int x8)], [], (zS0, R, I, J))) rfl ?_
    exact k1
  · refine zEv_k 3 (f' := (99, [some (.ref 192), some (.ref 22), some (.int x2), some (.int x3), some (.int x4), some (.int x7), some (.int s0), some (.int x7), some (.int x8)], [], (zS0, R, I, J))) rfl ?_
    exact k1
theorem b_46_99 {X : zX} {d : Nat} {R : zR} {I : zI} {J : zJ} {r : zA} {c : Nat} {x2 : Int32} {x3 : Int32} {x4 : Int32} {x5 : Int32} {x6 : Int32} {x7 : Int32} {x8 : Int32} (ho : c = 7 ∨ c = 22) (k1 : zEv X d zm_46 (10, [some (.ref 192), some (.ref c), some (.int x2), some (.int x3), some (.int x4), some (.int x5), some (.int x6), some (.int (x7 + 1)), some (.int x8)], [], (zS0, R, I, J)) r) : zEv X d zm_46 (99, [some (.ref 192), some (.ref c), some (.int x2), some (.int x3), some (.int x4), some (.int x5), some (.int x6), some (.int x7), some (.int x8)], [], (zS0, R, I, J)) r := by
  rcases ho with rfl | rfl
  · refine zEv_k 2 (f' := (10, [some (.ref 192), some (.ref 7), some (.int x2), some (.int x3), some (.int x4), some (.int x5), some (.int x6), some (.int (x7 + 1)), some (.int x8)], [], (zS0, R, I, J))) rfl ?_
    exact k1
  · refine zEv_k 2 (f' := (10, [some (.ref 192), some (.ref 22), some (.int x2), some (.int x3), some (.int x4), some (.int x5), some (.int x6), some (.int (x7 + 1)), some (.int x8)], [], (zS0, R, I, J))) rfl ?_
    exact k1
theorem b_46_105 {X : zX} {d : Nat} {R : zR} {I : zI} {J : zJ} {c : Nat} {x2 : Int32} {x3 : Int32} {x4 : Int32} {x5 : Int32} {x6 : Int32} {x7 : Int32} {x8 : Option Value} (ho : c = 7 ∨ c = 22) : zEv X d zm_46 (105, [some (.ref 192), some (.ref c), some (.int x2), some (.int x3), some (.int x4), some (.int x5), some (.int x6), some (.int x7), x8], [], (zS0, R, I, J)) (some (.int x5), (zS0, R, I, J)) := by
  rcases ho with rfl | rfl
  · refine zEv_k 1 (f' := (107, [some (.ref 192), some (.ref 7), some (.int x2), some (.int x3), some (.int x4), some (.int x5), some (.int x6), some (.int x7), x8], [.int x5], (zS0, R, I, J))) rfl ?_
    exact zEv_r rfl
  · refine zEv_k 1 (f' := (107, [some (.ref 192), some (.ref 22), some (.int x2), some (.int x3), some (.int x4), some (.int x5), some (.int x6), some (.int x7), x8], [.int x5], (zS0, R, I, J))) rfl ?_
    exact zEv_r rfl
theorem b_47_0 {X : zX} {d : Nat} {R : zR} {I : zI} {J : zJ} {r : zA} {c : Nat} {x2 : Int32} {x3 : Int32} {x4 : Int32} {x5 : Int32} (ho : c = 7 ∨ c = 22) (k1 : x2 = 0 → zEv X d zm_47 (8, [some (.ref 192), some (.ref c), some (.int x2), some (.int x3), some (.int x4), some (.int x5), none], [], (zS0, R, I, J)) r) (k2 : ¬ (x2 = 0) → zEv X d zm_47 (4, [some (.ref 192), some (.ref c), some (.int x2), some (.int x3), some (.int x4), some (.int x5), none], [], (zS0, R, I, J)) r) : zEv X d zm_47 (0, [some (.ref 192), some (.ref c), some (.int x2), some (.int x3), some (.int x4), some (.int x5), none], [], (zS0, R, I, J)) r := by
  rcases ho with rfl | rfl
  · refine zEv_k 2 (f' := (if x2 = 0 then 8 else 4, [some (.ref 192), some (.ref 7), some (.int x2), some (.int x3), some (.int x4), some (.int x5), none], [], (zS0, R, I, J))) rfl ?_
    exact zEv_if k1 k2
  · refine zEv_k 2 (f' := (if x2 = 0 then 8 else 4, [some (.ref 192), some (.ref 22), some (.int x2), some (.int x3), some (.int x4), some (.int x5), none], [], (zS0, R, I, J))) rfl ?_
    exact zEv_if k1 k2
theorem b_47_4 {X : zX} {d : Nat} {R : zR} {I : zI} {J : zJ} {r : zA} {c : Nat} {x2 : Int32} {x3 : Int32} {x4 : Int32} {x5 : Int32} (ho : c = 7 ∨ c = 22) (k1 : zEv X d zm_47 (16, [some (.ref 192), some (.ref c), some (.int x2), some (.int x3), some (.int x4), some (.int x5), none], [.int 1], (zS0, R, I, J)) r) : zEv X d zm_47 (4, [some (.ref 192), some (.ref c), some (.int x2), some (.int x3), some (.int x4), some (.int x5), none], [], (zS0, R, I, J)) r := by
  rcases ho with rfl | rfl
  · refine zEv_k 2 (f' := (16, [some (.ref 192), some (.ref 7), some (.int x2), some (.int x3), some (.int x4), some (.int x5), none], [.int 1], (zS0, R, I, J))) rfl ?_
    exact k1
  · refine zEv_k 2 (f' := (16, [some (.ref 192), some (.ref 22), some (.int x2), some (.int x3), some (.int x4), some (.int x5), none], [.int 1], (zS0, R, I, J))) rfl ?_
    exact k1
theorem b_47_8 {X : zX} {d : Nat} {R : zR} {I : zI} {J : zJ} {r : zA} {c : Nat} {x2 : Int32} {x3 : Int32} {x4 : Int32} {x5 : Int32} {w : Int32} {R' : zR} {I' : zI} {J' : zJ} (ho : c = 7 ∨ c = 22) (hc : zEv X d zm_48 (0, [some (.ref c), some (.int x4), some (.int x5), none], [], (zS0, R, I, J)) (some (.int w), (zS0, R', I', J'))) (k1 : zEv X (d + 1) zm_47 (16, [some (.ref 192), some (.ref c), some (.int x2), some (.int x3), some (.int x4), some (.int x5), none], [.int w], (zS0, R', I', J')) r) : zEv X (d + 1) zm_47 (8, [some (.ref 192), some (.ref c), some (.int x2), some (.int x3), some (.int x4), some (.int x5), none], [], (zS0, R, I, J)) r := by
  rcases ho with rfl | rfl
  · refine zEv_k 3 (f' := (13, [some (.ref 192), some (.ref 7), some (.int x2), some (.int x3), some (.int x4), some (.int x5), none], [.int x5, .int x4, .ref 7], (zS0, R, I, J))) rfl ?_
    exact zEv_c (fun _ => rfl) rfl hc rfl rfl k1
  · refine zEv_k 3 (f' := (13, [some (.ref 192), some (.ref 22), some (.int x2), some (.int x3), some (.int x4), some (.int x5), none], [.int x5, .int x4, .ref 22], (zS0, R, I, J))) rfl ?_
    exact zEv_c (fun _ => rfl) rfl hc rfl rfl k1
theorem b_47_16 {X : zX} {d : Nat} {R : zR} {I : zI} {J : zJ} {c : Nat} {x2 : Int32} {x3 : Int32} {x4 : Int32} {x5 : Int32} {s0 : Int32} (hR : zRok R) (ho : c = 7 ∨ c = 22) (h36 : zin (((x3 ||| ((1 : Int32) <<< (x5 &&& 31))) * 8) + x5) 1408) : zEv X d zm_47 (16, [some (.ref 192), some (.ref c), some (.int x2), some (.int x3), some (.int x4), some (.int x5), none], [.int s0], (zS0, R, I, J)) (some (.int (s0 + (I 194 (((x3 ||| ((1 : Int32) <<< (x5 &&& 31))) * 8) + x5).toNatClampNeg))), (zS0, R, I, J)) := by
  rcases ho with rfl | rfl
  · refine zEv_k 3 (f' := (21, [some (.ref 192), some (.ref 7), some (.int x2), some (.int x3), some (.int x4), some (.int x5), some (.int s0)], [.ref 192, .int s0], (zS0, R, I, J))) rfl ?_
    refine zEv_gr rfl rfl rfl (by decide) (hR (192) 4 (194) rfl) ?_
    refine zEv_k 9 (f' := (36, [some (.ref 192), some (.ref 7), some (.int x2), some (.int x3), some (.int x4), some (.int x5), some (.int s0)], [.int (((x3 ||| ((1 : Int32) <<< (x5 &&& 31))) * 8) + x5), .ref 194, .int s0], (zS0, R, I, J))) rfl ?_
    refine zEv_ial rfl rfl (by decide) h36 ?_
    refine zEv_k 1 (f' := (38, [some (.ref 192), some (.ref 7), some (.int x2), some (.int x3), some (.int x4), some (.int x5), some (.int s0)], [.int (s0 + (I 194 (((x3 ||| ((1 : Int32) <<< (x5 &&& 31))) * 8) + x5).toNatClampNeg))], (zS0, R, I, J))) rfl ?_
    exact zEv_r rfl
  · refine zEv_k 3 (f' := (21, [some (.ref 192), some (.ref 22), some (.int x2), some (.int x3), some (.int x4), some (.int x5), some (.int s0)], [.ref 192, .int s0], (zS0, R, I, J))) rfl ?_
    refine zEv_gr rfl rfl rfl (by decide) (hR (192) 4 (194) rfl) ?_
    refine zEv_k 9 (f' := (36, [some (.ref 192), some (.ref 22), some (.int x2), some (.int x3), some (.int x4), some (.int x5), some (.int s0)], [.int (((x3 ||| ((1 : Int32) <<< (x5 &&& 31))) * 8) + x5), .ref 194, .int s0], (zS0, R, I, J))) rfl ?_
    refine zEv_ial rfl rfl (by decide) h36 ?_
    refine zEv_k 1 (f' := (38, [some (.ref 192), some (.ref 22), some (.int x2), some (.int x3), some (.int x4), some (.int x5), some (.int s0)], [.int (s0 + (I 194 (((x3 ||| ((1 : Int32) <<< (x5 &&& 31))) * 8) + x5).toNatClampNeg))], (zS0, R, I, J))) rfl ?_
    exact zEv_r rfl
theorem b_48_0 {X : zX} {d : Nat} {R : zR} {I : zI} {J : zJ} {r : zA} {c : Nat} {x1 : Int32} {x2 : Int32} (ho : c = 7 ∨ c = 22) (k1 : x1 = 7 → zEv X d zm_48 (23, [some (.ref c), some (.int x1), some (.int x2), none], [], (zS0, R, I, J)) r) (k2 : ¬ (x1 = 7) → zEv X d zm_48 (6, [some (.ref c), some (.int x1), some (.int x2), none], [], (zS0, R, I, J)) r) : zEv X d zm_48 (0, [some (.ref c), some (.int x1), some (.int x2), none], [], (zS0, R, I, J)) r := by
  rcases ho with rfl | rfl
  · refine zEv_k 3 (f' := (if x1 = 7 then 23 else 6, [some (.ref 7), some (.int x1), some (.int x2), none], [], (zS0, R, I, J))) rfl ?_
    exact zEv_if k1 k2
  · refine zEv_k 3 (f' := (if x1 = 7 then 23 else 6, [some (.ref 22), some (.int x1), some (.int x2), none], [], (zS0, R, I, J))) rfl ?_
    exact zEv_if k1 k2
theorem b_48_6 {X : zX} {d : Nat} {R : zR} {I : zI} {J : zJ} {r : zA} {c : Nat} {x1 : Int32} {x2 : Int32} (hR : zRok R) (ho : c = 7 ∨ c = 22) (h11 : zin x2 7) (k1 : (zf_cin (I (c + 7) (x2).toNatClampNeg) x1) = 0 → zEv X (d + 1) zm_48 (23, [some (.ref c), some (.int x1), some (.int x2), none], [], (zS0, R, I, J)) r) (k2 : ¬ ((zf_cin (I (c + 7) (x2).toNatClampNeg) x1) = 0) → zEv X (d + 1) zm_48 (19, [some (.ref c), some (.int x1), some (.int x2), none], [], (zS0, R, I, J)) r) : zEv X (d + 1) zm_48 (6, [some (.ref c), some (.int x1), some (.int x2), none], [], (zS0, R, I, J)) r := by
  rcases ho with rfl | rfl
  · refine zEv_k 1 (f' := (7, [some (.ref 7), some (.int x1), some (.int x2), none], [.ref 7], (zS0, R, I, J))) rfl ?_
    refine zEv_gr rfl rfl rfl (by decide) (hR (7) 9 (7 + 7) rfl) ?_
    refine zEv_k 1 (f' := (11, [some (.ref 7), some (.int x1), some (.int x2), none], [.int x2, .ref (7 + 7)], (zS0, R, I, J))) rfl ?_
    refine zEv_ial rfl rfl (by decide) h11 ?_
    refine zEv_k 1 (f' := (13, [some (.ref 7), some (.int x1), some (.int x2), none], [.int x1, .int (I (7 + 7) (x2).toNatClampNeg)], (zS0, R, I, J))) rfl ?_
    refine zEv_c (fun _ => rfl) rfl ev_zf_cin rfl rfl ?_
    refine zEv_k 1 (f' := (if (zf_cin (I (7 + 7) (x2).toNatClampNeg) x1) = 0 then 23 else 19, [some (.ref 7), some (.int x1), some (.int x2), none], [], (zS0, R, I, J))) rfl ?_
    exact zEv_if k1 k2
  · refine zEv_k 1 (f' := (7, [some (.ref 22), some (.int x1), some (.int x2), none], [.ref 22], (zS0, R, I, J))) rfl ?_
    refine zEv_gr rfl rfl rfl (by decide) (hR (22) 9 (22 + 7) rfl) ?_
    refine zEv_k 1 (f' := (11, [some (.ref 22), some (.int x1), some (.int x2), none], [.int x2, .ref (22 + 7)], (zS0, R, I, J))) rfl ?_
    refine zEv_ial rfl rfl (by decide) h11 ?_
    refine zEv_k 1 (f' := (13, [some (.ref 22), some (.int x1), some (.int x2), none], [.int x1, .int (I (22 + 7) (x2).toNatClampNeg)], (zS0, R, I, J))) rfl ?_
    refine zEv_c (fun _ => rfl) rfl ev_zf_cin rfl rfl ?_
    refine zEv_k 1 (f' := (if (zf_cin (I (22 + 7) (x2).toNatClampNeg) x1) = 0 then 23 else 19, [some (.ref 22), some (.int x1), some (.int x2), none], [], (zS0, R, I, J))) rfl ?_
    exact zEv_if k1 k2
theorem b_48_19 {X : zX} {d : Nat} {R : zR} {I : zI} {J : zJ} {r : zA} {c : Nat} {x1 : Int32} {x2 : Int32} (ho : c = 7 ∨ c = 22) (k1 : zEv X d zm_48 (24, [some (.ref c), some (.int x1), some (.int x2), none], [.int 1], (zS0, R, I, J)) r) : zEv X d zm_48 (19, [some (.ref c), some (.int x1), some (.int x2), none], [], (zS0, R, I, J)) r := by
  rcases ho with rfl | rfl
  · refine zEv_k 2 (f' := (24, [some (.ref 7), some (.int x1), some (.int x2), none], [.int 1], (zS0, R, I, J))) rfl ?_
    exact k1
  · refine zEv_k 2 (f' := (24, [some (.ref 22), some (.int x1), some (.int x2), none], [.int 1], (zS0, R, I, J))) rfl ?_
    exact k1
theorem b_48_23 {X : zX} {d : Nat} {R : zR} {I : zI} {J : zJ} {r : zA} {c : Nat} {x1 : Int32} {x2 : Int32} (ho : c = 7 ∨ c = 22) (k1 : zEv X d zm_48 (24, [some (.ref c), some (.int x1), some (.int x2), none], [.int 0], (zS0, R, I, J)) r) : zEv X d zm_48 (23, [some (.ref c), some (.int x1), some (.int x2), none], [], (zS0, R, I, J)) r := by
  rcases ho with rfl | rfl
  · refine zEv_k 1 (f' := (24, [some (.ref 7), some (.int x1), some (.int x2), none], [.int 0], (zS0, R, I, J))) rfl ?_
    exact k1
  · refine zEv_k 1 (f' := (24, [some (.ref 22), some (.int x1), some (.int x2), none], [.int 0], (zS0, R, I, J))) rfl ?_
    exact k1
theorem b_48_24 {X : zX} {d : Nat} {R : zR} {I : zI} {J : zJ} {r : zA} {c : Nat} {x1 : Int32} {x2 : Int32} {s0 : Int32} (ho : c = 7 ∨ c = 22) (k1 : s0 = 0 → zEv X d zm_48 (40, [some (.ref c), some (.int x1), some (.int x2), some (.int s0)], [], (zS0, R, I, J)) r) (k2 : ¬ (s0 = 0) → zEv X d zm_48 (29, [some (.ref c), some (.int x1), some (.int x2), some (.int s0)], [], (zS0, R, I, J)) r) : zEv X d zm_48 (24, [some (.ref c), some (.int x1), some (.int x2), none], [.int s0], (zS0, R, I, J)) r := by
  rcases ho with rfl | rfl
  · refine zEv_k 3 (f' := (if s0 = 0 then 40 else 29, [some (.ref 7), some (.int x1), some (.int x2), some (.int s0)], [], (zS0, R, I, J))) rfl ?_
    exact zEv_if k1 k2
  · refine zEv_k 3 (f' := (if s0 = 0 then 40 else 29, [some (.ref 22), some (.int x1), some (.int x2), some (.int s0)], [], (zS0, R, I, J))) rfl ?_
    exact zEv_if k1 k2
theorem b_48_29 {X : zX} {d : Nat} {R : zR} {I : zI} {J : zJ} {c : Nat} {x1 : Int32} {x2 : Int32} {x3 : Int32} (hR : zRok R) (ho : c = 7 ∨ c = 22) (h35 : zin x2 7) : zEv X d zm_48 (29, [some (.ref c), some (.int x1), some (.int x2), some (.int x3)], [], (zS0, R, I, J)) (some (.int (2 * (I (c + 1) (x2).toNatClampNeg))), (zS0, R, I, J)) := by
  rcases ho with rfl | rfl
  · refine zEv_k 2 (f' := (31, [some (.ref 7), some (.int x1), some (.int x2), some (.int x3)], [.ref 7, .int 2], (zS0, R, I, J))) rfl ?_
    refine zEv_gr rfl rfl rfl (by decide) (hR (7) 3 (7 + 1) rfl) ?_
    refine zEv_k 1 (f' := (35, [some (.ref 7), some (.int x1), some (.int x2), some (.int x3)], [.int x2, .ref (7 + 1), .int 2], (zS0, R, I, J))) rfl ?_
    refine zEv_ial rfl rfl (by decide) h35 ?_
    refine zEv_k 2 (f' := (46, [some (.ref 7), some (.int x1), some (.int x2), some (.int x3)], [.int (2 * (I (7 + 1) (x2).toNatClampNeg))], (zS0, R, I, J))) rfl ?_
    exact zEv_r rfl
  · refine zEv_k 2 (f' := (31, [some (.ref 22), some (.int x1), some (.int x2), some (.int x3)], [.ref 22, .int 2], (zS0, R, I, J))) rfl ?_
    refine zEv_gr rfl rfl rfl (by decide) (hR (22) 3 (22 + 1) rfl) ?_
    refine zEv_k 1 (f' := (35, [some (.ref 22), some (.int x1), some (.int x2), some (.int x3)], [.int x2, .ref (22 + 1), .int 2], (zS0, R, I, J))) rfl ?_
    refine zEv_ial rfl rfl (by decide) h35 ?_
    refine zEv_k 2 (f' := (46, [some (.ref 22), some (.int x1), some (.int x2), some (.int x3)], [.int (2 * (I (22 + 1) (x2).toNatClampNeg))], (zS0, R, I, J))) rfl ?_
    exact zEv_r rfl
theorem b_48_40 {X : zX} {d : Nat} {R : zR} {I : zI} {J : zJ} {c : Nat} {x1 : Int32} {x2 : Int32} {x3 : Int32} (hR : zRok R) (ho : c = 7 ∨ c = 22) (h45 : zin x2 7) : zEv X d zm_48 (40, [some (.ref c), some (.int x1), some (.int x2), some (.int x3)], [], (zS0, R, I, J)) (some (.int (I (c + 1) (x2).toNatClampNeg)), (zS0, R, I, J)) := by
  rcases ho with rfl | rfl
  · refine zEv_k 1 (f' := (41, [some (.ref 7), some (.int x1), some (.int x2), some (.int x3)], [.ref 7], (zS0, R, I, J))) rfl ?_
    refine zEv_gr rfl rfl rfl (by decide) (hR (7) 3 (7 + 1) rfl) ?_
    refine zEv_k 1 (f' := (45, [some (.ref 7), some (.int x1), some (.int x2), some (.int x3)], [.int x2, .ref (7 + 1)], (zS0, R, I, J))) rfl ?_
    refine zEv_ial rfl rfl (by decide) h45 ?_
    exact zEv_r rfl
  · refine zEv_k 1 (f' := (41, [some (.ref 22), some (.int x1), some (.int x2), some (.int x3)], [.ref 22], (zS0, R, I, J))) rfl ?_
    refine zEv_gr rfl rfl rfl (by decide) (hR (22) 3 (22 + 1) rfl) ?_
    refine zEv_k 1 (f' := (45, [some (.ref 22), some (.int x1), some (.int x2), some (.int x3)], [.int x2, .ref (22 + 1)], (zS0, R, I, J))) rfl ?_
    refine zEv_ial rfl rfl (by decide) h45 ?_
    exact zEv_r rfl
theorem b_49_0 {X : zX} {d : Nat} {R : zR} {I : zI} {J : zJ} {r : zA} {c : Nat} {x2 : Int32} (ho : c = 7 ∨ c = 22) (k1 : zEv X d zm_49 (12, [some (.ref 192), some (.ref c), some (.int x2), some (.int 0)], [], (zS0, R, zu (zu I 192 0 0) 192 1 (-1), J)) r) : zEv X d zm_49 (0, [some (.ref 192), some (.ref c), some (.int x2), none], [], (zS0, R, I, J)) r := by
  rcases ho with rfl | rfl
  · refine zEv_k 8 (f' := (12, [some (.ref 192), some (.ref 7), some (.int x2), some (.int 0)], [], (zS0, R, zu (zu I 192 0 0) 192 1 (-1), J))) rfl ?_
    exact k1
  · refine zEv_k 8 (f' := (12, [some (.ref 192), some (.ref 22), some (.int x2), some (.int 0)], [], (zS0, R, zu (zu I 192 0 0) 192 1 (-1), J))) rfl ?_
    exact k1
theorem b_49_12 {X : zX} {d : Nat} {R : zR} {I : zI} {J : zJ} {r : zA} {c : Nat} {x2 : Int32} {x3 : Int32} (ho : c = 7 ∨ c = 22) (k1 : 1024 ≤ x3 → zEv X d zm_49 (32, [some (.ref 192), some (.ref c), some (.int x2), some (.int x3)], [], (zS0, R, I, J)) r) (k2 : ¬ (1024 ≤ x3) → zEv X d zm_49 (19, [some (.ref 192), some (.ref c), some (.int x2), some (.int x3)], [], (zS0, R, I, J)) r) : zEv X d zm_49 (12, [some (.ref 192), some (.ref c), some (.int x2), some (.int x3)], [], (zS0, R, I, J)) r := by
  rcases ho with rfl | rfl
  · refine zEv_k 3 (f' := (if 1024 ≤ x3 then 32 else 19, [some (.ref 192), some (.ref 7), some (.int x2), some (.int x3)], [], (zS0, R, I, J))) rfl ?_
    exact zEv_if k1 k2
  · refine zEv_k 3 (f' := (if 1024 ≤ x3 then 32 else 19, [some (.ref 192), some (.ref 22), some (.int x2), some (.int x3)], [], (zS0, R, I, J))) rfl ?_
    exact zEv_if k1 k2
theorem b_49_19 {X : zX} {d : Nat} {R : zR} {I : zI} {J : zJ} {r : zA} {c : Nat} {x2 : Int32} {x3 : Int32} (hR : zRok R) (ho : c = 7 ∨ c = 22) (h25 : zin x3 1408) (k1 : zEv X d zm_49 (12, [some (.ref 192), some (.ref c), some (.int x2), some (.int (x3 + 1))], [], (zS0, R, zu I 194 (x3).toNatClampNeg 0, J)) r) : zEv X d zm_49 (19, [some (.ref 192), some (.ref c), some (.int x2), some (.int x3)], [], (zS0, R, I, J)) r := by
  rcases ho with rfl | rfl
  · refine zEv_k 1 (f' := (20, [some (.ref 192), some (.ref 7), some (.int x2), some (.int x3)], [.ref 192], (zS0, R, I, J))) rfl ?_
    refine zEv_gr rfl rfl rfl (by decide) (hR (192) 4 (194) rfl) ?_
    refine zEv_k 2 (f' := (25, [some (.ref 192), some (.ref 7), some (.int x2), some (.int x3)], [.int 0, .int x3, .ref 194], (zS0, R, I, J))) rfl ?_
    refine zEv_ias rfl rfl (by decide) h25 ?_
    refine zEv_k 2 (f' := (12, [some (.ref 192), some (.ref 7), some (.int x2), some (.int (x3 + 1))], [], (zS0, R, zu I 194 (x3).toNatClampNeg 0, J))) rfl ?_
    exact k1
  · refine zEv_k 1 (f' := (20, [some (.ref 192), some (.ref 22), some (.int x2), some (.int x3)], [.ref 192], (zS0, R, I, J))) rfl ?_
    refine zEv_gr rfl rfl rfl (by decide) (hR (192) 4 (194) rfl) ?_
    refine zEv_k 2 (f' := (25, [some (.ref 192), some (.ref 22), some (.int x2), some (.int x3)], [.int 0, .int x3, .ref 194], (zS0, R, I, J))) rfl ?_
    refine zEv_ias rfl rfl (by decide) h25 ?_
    refine zEv_k 2 (f' := (12, [some (.ref 192), some (.ref 22), some (.int x2), some (.int (x3 + 1))], [], (zS0, R, zu I 194 (x3).toNatClampNeg 0, J))) rfl ?_
    exact k1
theorem b_49_32 {X : zX} {d : Nat} {R : zR} {I : zI} {J : zJ} {r : zA} {c : Nat} {x2 : Int32} {x3 : Int32} (ho : c = 7 ∨ c = 22) (k1 : zEv X d zm_49 (34, [some (.ref 192), some (.ref c), some (.int x2), some (.int 1)], [], (zS0, R, I, J)) r) : zEv X d zm_49 (32, [some (.ref 192), some (.ref c), some (.int x2), some (.int x3)], [], (zS0, R, I, J)) r := by
  rcases ho with rfl | rfl
  · refine zEv_k 2 (f' := (34, [some (.ref 192), some (.ref 7), some (.int x2), some (.int 1)], [], (zS0, R, I, J))) rfl ?_
    exact k1
  · refine zEv_k 2 (f' := (34, [some (.ref 192), some (.ref 22), some (.int x2), some (.int 1)], [], (zS0, R, I, J))) rfl ?_
    exact k1
theorem b_49_34 {X : zX} {d : Nat} {R : zR} {I : zI} {J : zJ} {r : zA} {c : Nat} {x2 : Int32} {x3 : Int32} (ho : c = 7 ∨ c = 22) (k1 : x2 ≤ x3 → zEv X d zm_49 (52, [some (.ref 192), some (.ref c), some (.int x2), some (.int x3)], [], (zS0, R, I, J)) r) (k2 : ¬ (x2 ≤ x3) → zEv X d zm_49 (39, [some (.ref 192), some (.ref c), some (.int x2), some (.int x3)], [], (zS0, R, I, J)) r) : zEv X d zm_49 (34, [some (.ref 192), some (.ref c), some (.int x2), some (.int x3)], [], (zS0, R, I, J)) r := by
  rcases ho with rfl | rfl
  · refine zEv_k 3 (f' := (if x2 ≤ x3 then 52 else 39, [some (.ref 192), some (.ref 7), some (.int x2), some (.int x3)], [], (zS0, R, I, J))) rfl ?_
    exact zEv_if k1 k2
  · refine zEv_k 3 (f' := (if x2 ≤ x3 then 52 else 39, [some (.ref 192), some (.ref 22), some (.int x2), some (.int x3)], [], (zS0, R, I, J))) rfl ?_
    exact zEv_if k1 k2
theorem b_49_39 {X : zX} {d : Nat} {R : zR} {I : zI} {J : zJ} {r : zA} {c : Nat} {x2 : Int32} {x3 : Int32} {R' : zR} {I' : zI} {J' : zJ} (ho : c = 7 ∨ c = 22) (hc : zEv X d zm_50 (0, [some (.ref 192), some (.ref c), some (.int x2), some (.int x3), none, none, none], [], (zS0, R, I, J)) (none, (zS0, R', I', J'))) (k1 : zEv X (d + 1) zm_49 (46, [some (.ref 192), some (.ref c), some (.int x2), some (.int x3)], [], (zS0, R', I', J')) r) : zEv X (d + 1) zm_49 (39, [some (.ref 192), some (.ref c), some (.int x2), some (.int x3)], [], (zS0, R, I, J)) r := by
  rcases ho with rfl | rfl
  · refine zEv_k 4 (f' := (43, [some (.ref 192), some (.ref 7), some (.int x2), some (.int x3)], [.int x3, .int x2, .ref 7, .ref 192], (zS0, R, I, J))) rfl ?_
    exact zEv_c (fun _ => rfl) rfl hc rfl rfl k1
  · refine zEv_k 4 (f' := (43, [some (.ref 192), some (.ref 22), some (.int x2), some (.int x3)], [.int x3, .int x2, .ref 22, .ref 192], (zS0, R, I, J))) rfl ?_
    exact zEv_c (fun _ => rfl) rfl hc rfl rfl k1
theorem b_49_46 {X : zX} {d : Nat} {R : zR} {I : zI} {J : zJ} {r : zA} {c : Nat} {x2 : Int32} {x3 : Int32} (ho : c = 7 ∨ c = 22) (k1 : zEv X d zm_49 (34, [some (.ref 192), some (.ref c), some (.int x2), some (.int (x3 + 1))], [], (zS0, R, I, J)) r) : zEv X d zm_49 (46, [some (.ref 192), some (.ref c), some (.int x2), some (.int x3)], [], (zS0, R, I, J)) r := by
  rcases ho with rfl | rfl
  · refine zEv_k 2 (f' := (34, [some (.ref 192), some (.ref 7), some (.int x2), some (.int (x3 + 1))], [], (zS0, R, I, J))) rfl ?_
    exact k1
  · refine zEv_k 2 (f' := (34, [some (.ref 192), some (.ref 22), some (.int x2), some (.int (x3 + 1))], [], (zS0, R, I, J))) rfl ?_
    exact k1
theorem b_49_52 {X : zX} {d : Nat} {R : zR} {I : zI} {J : zJ} {r : zA} {c : Nat} {x2 : Int32} {x3 : Int32} (ho : c = 7 ∨ c = 22) (k1 : x2 ≤ 0 → zEv X d zm_49 (84, [some (.ref 192), some (.ref c), some (.int x2), some (.int x3)], [], (zS0, R, I, J)) r) (k2 : ¬ (x2 ≤ 0) → zEv X d zm_49 (56, [some (.ref 192), some (.ref c), some (.int x2), some (.int x3)], [], (zS0, R, I, J)) r) : zEv X d zm_49 (52, [some (.ref 192), some (.ref c), some (.int x2), some (.int x3)], [], (zS0, R, I, J)) r := by
  rcases ho with rfl | rfl
  · refine zEv_k 2 (f' := (if x2 ≤ 0 then 84 else 56, [some (.ref 192), some (.ref 7), some (.int x2), some (.int x3)], [], (zS0, R, I, J))) rfl ?_
    exact zEv_if k1 k2
  · refine zEv_k 2 (f' := (if x2 ≤ 0 then 84 else 56, [some (.ref 192), some (.ref 22), some (.int x2), some (.int x3)], [], (zS0, R, I, J))) rfl ?_
    exact zEv_if k1 k2
theorem b_49_56 {X : zX} {d : Nat} {R : zR} {I : zI} {J : zJ} {r : zA} {c : Nat} {x2 : Int32} {x3 : Int32} {w : Int32} {R' : zR} {I' : zI} {J' : zJ} (ho : c = 7 ∨ c = 22) (hc : zEv X d zm_51 (0, [some (.ref 192), some (.ref c), some (.int 0), some (.int 7), none, none, none], [], (zS0, R, I, J)) (some (.int w), (zS0, R', I', J'))) (k1 : zEv X (d + 1) zm_49 (65, [some (.ref 192), some (.ref c), some (.int x2), some (.int x3)], [.int w, .ref 192], (zS0, R', I', J')) r) : zEv X (d + 1) zm_49 (56, [some (.ref 192), some (.ref c), some (.int x2), some (.int x3)], [], (zS0, R, I, J)) r := by
  rcases ho with rfl | rfl
  · refine zEv_k 5 (f' := (62, [some (.ref 192), some (.ref 7), some (.int x2), some (.int x3)], [.int 7, .int 0, .ref 7, .ref 192, .ref 192], (zS0, R, I, J))) rfl ?_
    exact zEv_c (fun _ => rfl) rfl hc rfl rfl k1
  · refine zEv_k 5 (f' := (62, [some (.ref 192), some (.ref 22), some (.int x2), some (.int x3)], [.int 7, .int 0, .ref 22, .ref 192, .ref 192], (zS0, R, I, J))) rfl ?_
    exact zEv_c (fun _ => rfl) rfl hc rfl rfl k1
theorem b_49_65 {X : zX} {d : Nat} {R : zR} {I : zI} {J : zJ} {r : zA} {c : Nat} {x2 : Int32} {x3 : Int32} {s1 : Int32} {w : Int32} {R' : zR} {I' : zI} {J' : zJ} (ho : c = 7 ∨ c = 22) (hc : zEv X d zm_52 (0, [some (.ref 192), some (.ref c), some (.int 0), some (.int 7), some (.int ((zu I 192 1 s1) 192 1))], [], (zS0, R, zu I 192 1 s1, J)) (some (.int w), (zS0, R', I', J'))) (k1 : zEv X (d + 1) zm_49 (81, [some (.ref 192), some (.ref c), some (.int x2), some (.int x3)], [.int w, .ref 192], (zS0, R', I', J')) r) : zEv X (d + 1) zm_49 (65, [some (.ref 192), some (.ref c), some (.int x2), some (.int x3)], [.int s1, .ref 192], (zS0, R, I, J)) r := by
  rcases ho with rfl | rfl
  · refine zEv_k 8 (f' := (78, [some (.ref 192), some (.ref 7), some (.int x2), some (.int x3)], [.int ((zu I 192 1 s1) 192 1), .int 7, .int 0, .ref 7, .ref 192, .ref 192], (zS0, R, zu I 192 1 s1, J))) rfl ?_
    exact zEv_c (fun _ => rfl) rfl hc rfl rfl k1
  · refine zEv_k 8 (f' := (78, [some (.ref 192), some (.ref 22), some (.int x2), some (.int x3)], [.int ((zu I 192 1 s1) 192 1), .int 7, .int 0, .ref 22, .ref 192, .ref 192], (zS0, R, zu I 192 1 s1, J))) rfl ?_
    exact zEv_c (fun _ => rfl) rfl hc rfl rfl k1
theorem b_49_81 {X : zX} {d : Nat} {R : zR} {I : zI} {J : zJ} {r : zA} {c : Nat} {x2 : Int32} {x3 : Int32} {s1 : Int32} (ho : c = 7 ∨ c = 22) (k1 : zEv X d zm_49 (84, [some (.ref 192), some (.ref c), some (.int x2), some (.int x3)], [], (zS0, R, zu I 192 0 s1, J)) r) : zEv X d zm_49 (81, [some (.ref 192), some (.ref c), some (.int x2), some (.int x3)], [.int s1, .ref 192], (zS0, R, I, J)) r := by
  rcases ho with rfl | rfl
  · refine zEv_k 1 (f' := (84, [some (.ref 192), some (.ref 7), some (.int x2), some (.int x3)], [], (zS0, R, zu I 192 0 s1, J))) rfl ?_
    exact k1
  · refine zEv_k 1 (f' := (84, [some (.ref 192), some (.ref 22), some (.int x2), some (.int x3)], [], (zS0, R, zu I 192 0 s1, J))) rfl ?_
    exact k1
theorem b_49_84 {X : zX} {d : Nat} {R : zR} {I : zI} {J : zJ} {c : Nat} {x2 : Int32} {x3 : Int32} (ho : c = 7 ∨ c = 22) : zEv X d zm_49 (84, [some (.ref 192), some (.ref c), some (.int x2), some (.int x3)], [], (zS0, R, I, J)) (none, (zS0, R, I, J)) := by
  rcases ho with rfl | rfl
  · exact zEv_r rfl
  · exact zEv_r rfl
theorem b_50_0 {X : zX} {d : Nat} {R : zR} {I : zI} {J : zJ} {r : zA} {c : Nat} {x2 : Int32} {x3 : Int32} (ho : c = 7 ∨ c = 22) (k1 : zEv X d zm_50 (3, [some (.ref 192), some (.ref c), some (.int x2), some (.int x3), some (.int 0), none, none], [], (zS0, R, I, J)) r) : zEv X d zm_50 (0, [some (.ref 192), some (.ref c), some (.int x2), some (.int x3), none, none, none], [], (zS0, R, I, J)) r := by
  rcases ho with rfl | rfl
  · refine zEv_k 2 (f' := (3, [some (.ref 192), some (.ref 7), some (.int x2), some (.int x3), some (.int 0), none, none], [], (zS0, R, I, J))) rfl ?_
    exact k1
  · refine zEv_k 2 (f' := (3, [some (.ref 192), some (.ref 22), some (.int x2), some (.int x3), some (.int 0), none, none], [], (zS0, R, I, J))) rfl ?_
    exact k1
theorem b_50_3 {X : zX} {d : Nat} {R : zR} {I : zI} {J : zJ} {r : zA} {c : Nat} {x2 : Int32} {x3 : Int32} {x4 : Int32} {x5 : Option Value} {x6 : Option Value} {w : Int32} {R' : zR} {I' : zI} {J' : zJ} (ho : c = 7 ∨ c = 22) (hc : zEv X d zm_7 (0, [some (.ref c)], [], (zS0, R, I, J)) (some (.int w), (zS0, R', I', J'))) (k1 : zEv X (d + 1) zm_50 (9, [some (.ref 192), some (.ref c), some (.int x2), some (.int x3), some (.int x4), x5, x6], [.int w, .int x4], (zS0, R', I', J')) r) : zEv X (d + 1) zm_50 (3, [some (.ref 192), some (.ref c), some (.int x2), some (.int x3), some (.int x4), x5, x6], [], (zS0, R, I, J)) r := by
  rcases ho with rfl | rfl
  · refine zEv_k 2 (f' := (6, [some (.ref 192), some (.ref 7), some (.int x2), some (.int x3), some (.int x4), x5, x6], [.ref 7, .int x4], (zS0, R, I, J))) rfl ?_
    exact zEv_c (fun _ => rfl) rfl hc rfl rfl k1
  · refine zEv_k 2 (f' := (6, [some (.ref 192), some (.ref 22), some (.int x2), some (.int x3), some (.int x4), x5, x6], [.ref 22, .int x4], (zS0, R, I, J))) rfl ?_
    exact zEv_c (fun _ => rfl) rfl hc rfl rfl k1
theorem b_50_9 {X : zX} {d : Nat} {R : zR} {I : zI} {J : zJ} {r : zA} {c : Nat} {x2 : Int32} {x3 : Int32} {x4 : Int32} {x5 : Option Value} {x6 : Option Value} {s0 : Int32} {s1 : Int32} (ho : c = 7 ∨ c = 22) (k1 : s1 < s0 → zEv X d zm_50 (113, [some (.ref 192), some (.ref c), some (.int x2), some (.int x3), some (.int x4), x5, x6], [], (zS0, R, I, J)) r) (k2 : ¬ (s1 < s0) → zEv X d zm_50 (12, [some (.ref 192), some (.ref c), some (.int x2), some (.int x3), some (.int x4), x5, x6], [], (zS0, R, I, J)) r) : zEv X d zm_50 (9, [some (.ref 192), some (.ref c), some (.int x2), some (.int x3), some (.int x4), x5, x6], [.int s1, .int s0], (zS0, R, I, J)) r := by
  rcases ho with rfl | rfl
  · refine zEv_k 1 (f' := (if s1 < s0 then 113 else 12, [some (.ref 192), some (.ref 7), some (.int x2), some (.int x3), some (.int x4), x5, x6], [], (zS0, R, I, J))) rfl ?_
    exact zEv_if k1 k2
  · refine zEv_k 1 (f' := (if s1 < s0 then 113 else 12, [some (.ref 192), some (.ref 22), some (.int x2), some (.int x3), some (.int x4), x5, x6], [], (zS0, R, I, J))) rfl ?_
    exact zEv_if k1 k2
theorem b_50_12 {X : zX} {d : Nat} {R : zR} {I : zI} {J : zJ} {r : zA} {c : Nat} {x2 : Int32} {x3 : Int32} {x4 : Int32} {x5 : Option Value} {x6 : Option Value} {w : Int32} {R' : zR} {I' : zI} {J' : zJ} (ho : c = 7 ∨ c = 22) (hc : zEv X d zm_286 (0, [some (.int x4)], [], (zS0, R, I, J)) (some (.int w), (zS0, R', I', J'))) (k1 : zEv X (d + 1) zm_50 (17, [some (.ref 192), some (.ref c), some (.int x2), some (.int x3), some (.int x4), x5, x6], [.int w], (zS0, R', I', J')) r) : zEv X (d + 1) zm_50 (12, [some (.ref 192), some (.ref c), some (.int x2), some (.int x3), some (.int x4), x5, x6], [], (zS0, R, I, J)) r := by
  rcases ho with rfl | rfl
  · refine zEv_k 1 (f' := (14, [some (.ref 192), some (.ref 7), some (.int x2), some (.int x3), some (.int x4), x5, x6], [.int x4], (zS0, R, I, J))) rfl ?_
    exact zEv_c (fun _ => rfl) rfl hc rfl rfl k1
  · refine zEv_k 1 (f' := (14, [some (.ref 192), some (.ref 22), some (.int x2), some (.int x3), some (.int x4), x5, x6], [.int x4], (zS0, R, I, J))) rfl ?_
    exact zEv_c (fun _ => rfl) rfl hc rfl rfl k1
theorem b_50_17 {X : zX} {d : Nat} {R : zR} {I : zI} {J : zJ} {r : zA} {c : Nat} {x2 : Int32} {x3 : Int32} {x4 : Int32} {x5 : Option Value} {x6 : Option Value} {s0 : Int32} (ho : c = 7 ∨ c = 22) (k1 : s0 ≤ (x2 - x3) → zEv X d zm_50 (26, [some (.ref 192), some (.ref c), some (.int x2), some (.int x3), some (.int x4), x5, x6], [], (zS0, R, I, J)) r) (k2 : ¬ (s0 ≤ (x2 - x3)) → zEv X d zm_50 (23, [some (.ref 192), some (.ref c), some (.int x2), some (.int x3), some (.int x4), x5, x6], [], (zS0, R, I, J)) r) : zEv X d zm_50 (17, [some (.ref 192), some (.ref c), some (.int x2), some (.int x3), some (.int x4), x5, x6], [.int s0], (zS0, R, I, J)) r := by
  rcases ho with rfl | rfl
  · refine zEv_k 4 (f' := (if s0 ≤ (x2 - x3) then 26 else 23, [some (.ref 192), some (.ref 7), some (.int x2), some (.int x3), some (.int x4), x5, x6], [], (zS0, R, I, J))) rfl ?_
    exact zEv_if k1 k2
  · refine zEv_k 4 (f' := (if s0 ≤ (x2 - x3) then 26 else 23, [some (.ref 192), some (.ref 22), some (.int x2), some (.int x3), some (.int x4), x5, x6], [], (zS0, R, I, J))) rfl ?_
    exact zEv_if k1 k2
theorem b_50_23 {X : zX} {d : Nat} {R : zR} {I : zI} {J : zJ} {r : zA} {c : Nat} {x2 : Int32} {x3 : Int32} {x4 : Int32} {x5 : Option Value} {x6 : Option Value} (ho : c = 7 ∨ c = 22) (k1 : zEv X d zm_50 (107, [some (.ref 192), some (.ref c), some (.int x2), some (.int x3), some (.int x4), x5, x6], [], (zS0, R, I, J)) r) : zEv X d zm_50 (23, [some (.ref 192), some (.ref c), some (.int x2), some (.int x3), some (.int x4), x5, x6], [], (zS0, R, I, J)) r := by
  rcases ho with rfl | rfl
  · refine zEv_k 1 (f' := (107, [some (.ref 192), some (.ref 7), some (.int x2), some (.int x3), some (.int x4), x5, x6], [], (zS0, R, I, J))) rfl ?_
    exact k1
  · refine zEv_k 1 (f' := (107, [some (.ref 192), some (.ref 22), some (.int x2), some (.int x3), some (.int x4), x5, x6], [], (zS0, R, I, J))) rfl ?_
    exact k1
theorem b_50_26 {X : zX} {d : Nat} {R : zR} {I : zI} {J : zJ} {r : zA} {c : Nat} {x2 : Int32} {x3 : Int32} {x4 : Int32} {x5 : Option Value} {x6 : Option Value} (ho : c = 7 ∨ c = 22) (k1 : zEv X d zm_50 (29, [some (.ref 192), some (.ref c), some (.int x2), some (.int x3), some (.int x4), some (.int 0), x6], [], (zS0, R, I, J)) r) : zEv X d zm_50 (26, [some (.ref 192), some (.ref c), some (.int x2), some (.int x3), some (.int x4), x5, x6], [], (zS0, R, I, J)) r := by
  rcases ho with rfl | rfl
  · refine zEv_k 2 (f' := (29, [some (.ref 192), some (.ref 7), some (.int x2), some (.int x3), some (.int x4), some (.int 0), x6], [], (zS0, R, I, J))) rfl ?_
    exact k1
  · refine zEv_k 2 (f' := (29, [some (.ref 192), some (.ref 22), some (.int x2), some (.int x3), some (.int x4), some (.int 0), x6], [], (zS0, R, I, J))) rfl ?_
    exact k1
theorem b_50_29 {X : zX} {d : Nat} {R : zR} {I : zI} {J : zJ} {r : zA} {c : Nat} {x2 : Int32} {x3 : Int32} {x4 : Int32} {x5 : Int32} {x6 : Option Value} (ho : c = 7 ∨ c = 22) (k1 : 7 < x5 → zEv X d zm_50 (107, [some (.ref 192), some (.ref c), some (.int x2), some (.int x3), some (.int x4), some (.int x5), x6], [], (zS0, R, I, J)) r) (k2 : ¬ (7 < x5) → zEv X d zm_50 (36, [some (.ref 192), some (.ref c), some (.int x2), some (.int x3), some (.int x4), some (.int x5), x6], [], (zS0, R, I, J)) r) : zEv X d zm_50 (29, [some (.ref 192), some (.ref c), some (.int x2), some (.int x3), some (.int x4), some (.int x5), x6], [], (zS0, R, I, J)) r := by
  rcases ho with rfl | rfl
  · refine zEv_k 3 (f' := (if 7 < x5 then 107 else 36, [some (.ref 192), some (.ref 7), some (.int x2), some (.int x3), some (.int x4), some (.int x5), x6], [], (zS0, R, I, J))) rfl ?_
    exact zEv_if k1 k2
  · refine zEv_k 3 (f' := (if 7 < x5 then 107 else 36, [some (.ref 192), some (.ref 22), some (.int x2), some (.int x3), some (.int x4), some (.int x5), x6], [], (zS0, R, I, J))) rfl ?_
    exact zEv_if k1 k2
theorem b_50_36 {X : zX} {d : Nat} {R : zR} {I : zI} {J : zJ} {r : zA} {c : Nat} {x2 : Int32} {x3 : Int32} {x4 : Int32} {x5 : Int32} {x6 : Option Value} (ho : c = 7 ∨ c = 22) (k1 : ¬ x5 = 7 → zEv X d zm_50 (56, [some (.ref 192), some (.ref c), some (.int x2), some (.int x3), some (.int x4), some (.int x5), x6], [], (zS0, R, I, J)) r) (k2 : ¬ (¬ x5 = 7) → zEv X d zm_50 (43, [some (.ref 192), some (.ref c), some (.int x2), some (.int x3), some (.int x4), some (.int x5), x6], [], (zS0, R, I, J)) r) : zEv X d zm_50 (36, [some (.ref 192), some (.ref c), some (.int x2), some (.int x3), some (.int x4), some (.int x5), x6], [], (zS0, R, I, J)) r := by
  rcases ho with rfl | rfl
  · refine zEv_k 3 (f' := (if ¬ x5 = 7 then 56 else 43, [some (.ref 192), some (.ref 7), some (.int x2), some (.int x3), some (.int x4), some (.int x5), x6], [], (zS0, R, I, J))) rfl ?_
    exact zEv_if k1 k2
  · refine zEv_k 3 (f' := (if ¬ x5 = 7 then 56 else 43, [some (.ref 192), some (.ref 22), some (.int x2), some (.int x3), some (.int x4), some (.int x5), x6], [], (zS0, R, I, J))) rfl ?_
    exact zEv_if k1 k2
theorem b_50_43 {X : zX} {d : Nat} {R : zR} {I : zI} {J : zJ} {r : zA} {c : Nat} {x2 : Int32} {x3 : Int32} {x4 : Int32} {x5 : Int32} {x6 : Option Value} (ho : c = 7 ∨ c = 22) (k1 : ¬ x4 = 0 → zEv X d zm_50 (52, [some (.ref 192), some (.ref c), some (.int x2), some (.int x3), some (.int x4), some (.int x5), x6], [], (zS0, R, I, J)) r) (k2 : ¬ (¬ x4 = 0) → zEv X d zm_50 (48, [some (.ref 192), some (.ref c), some (.int x2), some (.int x3), some (.int x4), some (.int x5), x6], [], (zS0, R, I, J)) r) : zEv X d zm_50 (43, [some (.ref 192), some (.ref c), some (.int x2), some (.int x3), some (.int x4), some (.int x5), x6], [], (zS0, R, I, J)) r := by
  rcases ho with rfl | rfl
  · refine zEv_k 2 (f' := (if ¬ x4 = 0 then 52 else 48, [some (.ref 192), some (.ref 7), some (.int x2), some (.int x3), some (.int x4), some (.int x5), x6], [], (zS0, R, I, J))) rfl ?_
    exact zEv_if k1 k2
  · refine zEv_k 2 (f' := (if ¬ x4 = 0 then 52 else 48, [some (.ref 192), some (.ref 22), some (.int x2), some (.int x3), some (.int x4), some (.int x5), x6], [], (zS0, R, I, J))) rfl ?_
    exact zEv_if k1 k2
theorem b_50_48 {X : zX} {d : Nat} {R : zR} {I : zI} {J : zJ} {r : zA} {c : Nat} {x2 : Int32} {x3 : Int32} {x4 : Int32} {x5 : Int32} {x6 : Option Value} (ho : c = 7 ∨ c = 22) (k1 : zEv X d zm_50 (63, [some (.ref 192), some (.ref c), some (.int x2), some (.int x3), some (.int x4), some (.int x5), x6], [.int 1], (zS0, R, I, J)) r) : zEv X d zm_50 (48, [some (.ref 192), some (.ref c), some (.int x2), some (.int x3), some (.int x4), some (.int x5), x6], [], (zS0, R, I, J)) r := by
  rcases ho with rfl | rfl
  · refine zEv_k 2 (f' := (63, [some (.ref 192), some (.ref 7), some (.int x2), some (.int x3), some (.int x4), some (.int x5), x6], [.int 1], (zS0, R, I, J))) rfl ?_
    exact k1
  · refine zEv_k 2 (f' := (63, [some (.ref 192), some (.ref 22), some (.int x2), some (.int x3), some (.int x4), some (.int x5), x6], [.int 1], (zS0, R, I, J))) rfl ?_
    exact k1
theorem b_50_52 {X : zX} {d : Nat} {R : zR} {I : zI} {J : zJ} {r : zA} {c : Nat} {x2 : Int32} {x3 : Int32} {x4 : Int32} {x5 : Int32} {x6 : Option Value} (ho : c = 7 ∨ c = 22) (k1 : zEv X d zm_50 (63, [some (.ref 192), some (.ref c), some (.int x2), some (.int x3), some (.int x4), some (.int x5), x6], [.int 0], (zS0, R, I, J)) r) : zEv X d zm_50 (52, [some (.ref 192), some (.ref c), some (.int x2), some (.int x3), some (.int x4), some (.int x5), x6], [], (zS0, R, I, J)) r := by
  rcases ho with rfl | rfl
  · refine zEv_k 2 (f' := (63, [some (.ref 192), some (.ref 7), some (.int x2), some (.int x3), some (.int x4), some (.int x5), x6], [.int 0], (zS0, R, I, J))) rfl ?_
    exact k1
  · refine zEv_k 2 (f' := (63, [some (.ref 192), some (.ref 22), some (.int x2), some (.int x3), some (.int x4), some (.int x5), x6], [.int 0], (zS0, R, I, J))) rfl ?_
    exact k1
theorem b_50_56 {X : zX} {d : Nat} {R : zR} {I : zI} {J : zJ} {r : zA} {c : Nat} {x2 : Int32} {x3 : Int32} {x4 : Int32} {x5 : Int32} {x6 : Option Value} (ho : c = 7 ∨ c = 22) (k1 : zEv X (d + 1) zm_50 (63, [some (.ref 192), some (.ref c), some (.int x2), some (.int x3), some (.int x4), some (.int x5), x6], [.int (zf_cin x4 x5)], (zS0, R, I, J)) r) : zEv X (d + 1) zm_50 (56, [some (.ref 192), some (.ref c), some (.int x2), some (.int x3), some (.int x4), some (.int x5), x6], [], (zS0, R, I, J)) r := by
  rcases ho with rfl | rfl
  · refine zEv_k 2 (f' := (60, [some (.ref 192), some (.ref 7), some (.int x2), some (.int x3), some (.int x4), some (.int x5), x6], [.int x5, .int x4], (zS0, R, I, J))) rfl ?_
    refine zEv_c (fun _ => rfl) rfl ev_zf_cin rfl rfl ?_
    exact k1
  · refine zEv_k 2 (f' := (60, [some (.ref 192), some (.ref 22), some (.int x2), some (.int x3), some (.int x4), some (.int x5), x6], [.int x5, .int x4], (zS0, R, I, J))) rfl ?_
    refine zEv_c (fun _ => rfl) rfl ev_zf_cin rfl rfl ?_
    exact k1
theorem b_50_63 {X : zX} {d : Nat} {R : zR} {I : zI} {J : zJ} {r : zA} {c : Nat} {x2 : Int32} {x3 : Int32} {x4 : Int32} {x5 : Int32} {x6 : Option Value} {s0 : Int32} (ho : c = 7 ∨ c = 22) (k1 : s0 = 0 → zEv X d zm_50 (101, [some (.ref 192), some (.ref c), some (.int x2), some (.int x3), some (.int x4), some (.int x5), some (.int s0)], [], (zS0, R, I, J)) r) (k2 : ¬ (s0 = 0) → zEv X d zm_50 (70, [some (.ref 192), some (.ref c), some (.int x2), some (.int x3), some (.int x4), some (.int x5), some (.int s0)], [], (zS0, R, I, J)) r) : zEv X d zm_50 (63, [some (.ref 192), some (.ref c), some (.int x2), some (.int x3), some (.int x4), some (.int x5), x6], [.int s0], (zS0, R, I, J)) r := by
  rcases ho with rfl | rfl
  · refine zEv_k 3 (f' := (if s0 = 0 then 101 else 70, [some (.ref 192), some (.ref 7), some (.int x2), some (.int x3), some (.int x4), some (.int x5), some (.int s0)], [], (zS0, R, I, J))) rfl ?_
    exact zEv_if k1 k2
  · refine zEv_k 3 (f' := (if s0 = 0 then 101 else 70, [some (.ref 192), some (.ref 22), some (.int x2), some (.int x3), some (.int x4), some (.int x5), some (.int s0)], [], (zS0, R, I, J))) rfl ?_
    exact zEv_if k1 k2
theorem b_50_70 {X : zX} {d : Nat} {R : zR} {I : zI} {J : zJ} {r : zA} {c : Nat} {x2 : Int32} {x3 : Int32} {x4 : Int32} {x5 : Int32} {x6 : Int32} {w : Int32} {R' : zR} {I' : zI} {J' : zJ} (hR : zRok R) (ho : c = 7 ∨ c = 22) (hc : zEv X d zm_51 (0, [some (.ref 192), some (.ref c), some (.int x4), some (.int x5), none, none, none], [], (zS0, R, I, J)) (some (.int w), (zS0, R', I', J'))) (k1 : zEv X (d + 1) zm_50 (97, [some (.ref 192), some (.ref c), some (.int x2), some (.int x3), some (.int x4), some (.int x5), some (.int x6)], [.int w, .int x5, .int x4, .ref c, .ref 192, .int ((x4 * 8) + x5), .ref 194], (zS0, R', I', J')) r) : zEv X (d + 1) zm_50 (70, [some (.ref 192), some (.ref c), some (.int x2), some (.int x3), some (.int x4), some (.int x5), some (.int x6)], [], (zS0, R, I, J)) r := by
  rcases ho with rfl | rfl
  · refine zEv_k 1 (f' := (71, [some (.ref 192), some (.ref 7), some (.int x2), some (.int x3), some (.int x4), some (.int x5), some (.int x6)], [.ref 192], (zS0, R, I, J))) rfl ?_
    refine zEv_gr rfl rfl rfl (by decide) (hR (192) 4 (194) rfl) ?_
    refine zEv_k 9 (f' := (88, [some (.ref 192), some (.ref 7), some (.int x2), some (.int x3), some (.int x4), some (.int x5), some (.int x6)], [.int x5, .int x4, .ref 7, .ref 192, .int ((x4 * 8) + x5), .ref 194], (zS0, R, I, J))) rfl ?_
    refine zEv_k 4 (f' := (94, [some (.ref 192), some (.ref 7), some (.int x2), some (.int x3), some (.int x4), some (.int x5), some (.int x6)], [.int x5, .int x4, .ref 7, .ref 192, .int x5, .int x4, .ref 7, .ref 192, .int ((x4 * 8) + x5), .ref 194], (zS0, R, I, J))) rfl ?_
    exact zEv_c (fun _ => rfl) rfl hc rfl rfl k1
  · refine zEv_k 1 (f' := (71, [some (.ref 192), some (.ref 22), some (.int x2), some (.int x3), some (.int x4), some (.int x5), some (.int x6)], [.ref 192], (zS0, R, I, J))) rfl ?_
    refine zEv_gr rfl rfl rfl (by decide) (hR (192) 4 (194) rfl) ?_
    refine zEv_k 9 (f' := (88, [some (.ref 192), some (.ref 22), some (.int x2), some (.int x3), some (.int x4), some (.int x5), some (.int x6)], [.int x5, .int x4, .ref 22, .ref 192, .int ((x4 * 8) + x5), .ref 194], (zS0, R, I, J))) rfl ?_
    refine zEv_k 4 (f' := (94, [some (.ref 192), some (.ref 22), some (.int x2), some (.int x3), some (.int x4), some (.int x5), some (.int x6)], [.int x5, .int x4, .ref 22, .ref 192, .int x5, .int x4, .ref 22, .ref 192, .int ((x4 * 8) + x5), .ref 194], (zS0, R, I, J))) rfl ?_
    exact zEv_c (fun _ => rfl) rfl hc rfl rfl k1
theorem b_50_97 {X : zX} {d : Nat} {R : zR} {I : zI} {J : zJ} {r : zA} {c : Nat} {x2 : Int32} {x3 : Int32} {x4 : Int32} {x5 : Int32} {x6 : Int32} {s1 : Int32} {s4 : Int32} {s5 : Int32} {s6 : Int32} {w : Int32} {R' : zR} {I' : zI} {J' : zJ} (ho : c = 7 ∨ c = 22) (hc : zEv X d zm_52 (0, [some (.ref 192), some (.ref c), some (.int s4), some (.int s5), some (.int s6)], [], (zS0, R, I, J)) (some (.int w), (zS0, R', I', J'))) (k1 : zEv X (d + 1) zm_50 (100, [some (.ref 192), some (.ref c), some (.int x2), some (.int x3), some (.int x4), some (.int x5), some (.int x6)], [.int w, .int s1, .ref 194], (zS0, R', I', J')) r) : zEv X (d + 1) zm_50 (97, [some (.ref 192), some (.ref c), some (.int x2), some (.int x3), some (.int x4), some (.int x5), some (.int x6)], [.int s6, .int s5, .int s4, .ref c, .ref 192, .int s1, .ref 194], (zS0, R, I, J)) r := by
  rcases ho with rfl | rfl
  · exact zEv_c (fun _ => rfl) rfl hc rfl rfl k1
  · exact zEv_c (fun _ => rfl) rfl hc rfl rfl k1
theorem b_50_100 {X : zX} {d : Nat} {R : zR} {I : zI} {J : zJ} {r : zA} {c : Nat} {x2 : Int32} {x3 : Int32} {x4 : Int32} {x5 : Int32} {x6 : Int32} {s1 : Int32} {s2 : Int32} (ho : c = 7 ∨ c = 22) (h100 : zin s1 1408) (k1 : zEv X d zm_50 (101, [some (.ref 192), some (.ref c), some (.int x2), some (.int x3), some (.int x4), some (.int x5), some (.int x6)], [], (zS0, R, zu I 194 (s1).toNatClampNeg s2, J)) r) : zEv X d zm_50 (100, [some (.ref 192), some (.ref c), some (.int x2), some (.int x3), some (.int x4), some (.int x5), some (.int x6)], [.int s2, .int s1, .ref 194], (zS0, R, I, J)) r := by
  rcases ho with rfl | rfl
  · refine zEv_ias rfl rfl (by decide) h100 ?_
    exact k1
  · refine zEv_ias rfl rfl (by decide) h100 ?_
    exact k1
theorem b_50_101 {X : zX} {d : Nat} {R : zR} {I : zI} {J : zJ} {r : zA} {c : Nat} {x2 : Int32} {x3 : Int32} {x4 : Int32} {x5 : Int32} {x6 : Int32} (ho : c = 7 ∨ c = 22) (k1 : zEv X d zm_50 (29, [some (.ref 192), some (.ref c), some (.int x2), some (.int x3), some (.int x4), some (.int (x5 + 1)), some (.int x6)], [], (zS0, R, I, J)) r) : zEv X d zm_50 (101, [some (.ref 192), some (.ref c), some (.int x2), some (.int x3), some (.int x4), some (.int x5), some (.int x6)], [], (zS0, R, I, J)) r := by
  rcases ho with rfl | rfl
  · refine zEv_k 2 (f' := (29, [some (.ref 192), some (.ref 7), some (.int x2), some (.int x3), some (.int x4), some (.int (x5 + 1)), some (.int x6)], [], (zS0, R, I, J))) rfl ?_
    exact k1
  · refine zEv_k 2 (f' := (29, [some (.ref 192), some (.ref 22), some (.int x2), some (.int x3), some (.int x4), some (.int (x5 + 1)), some (.int x6)], [], (zS0, R, I, J))) rfl ?_
    exact k1
theorem b_50_107 {X : zX} {d : Nat} {R : zR} {I : zI} {J : zJ} {r : zA} {c : Nat} {x2 : Int32} {x3 : Int32} {x4 : Int32} {x5 : Option Value} {x6 : Option Value} (ho : c = 7 ∨ c = 22) (k1 : zEv X d zm_50 (3, [some (.ref 192), some (.ref c), some (.int x2), some (.int x3), some (.int (x4 + 1)), x5, x6], [], (zS0, R, I, J)) r) : zEv X d zm_50 (107, [some (.ref 192), some (.ref c), some (.int x2), some (.int x3), some (.int x4), x5, x6], [], (zS0, R, I, J)) r := by
  rcases ho with rfl | rfl
  · refine zEv_k 2 (f' := (3, [some (.ref 192), some (.ref 7), some (.int x2), some (.int x3), some (.int (x4 + 1)), x5, x6], [], (zS0, R, I, J))) rfl ?_
    exact k1
  · refine zEv_k 2 (f' := (3, [some (.ref 192), some (.ref 22), some (.int x2), some (.int x3), some (.int (x4 + 1)), x5, x6], [], (zS0, R, I, J))) rfl ?_
    exact k1
theorem b_50_113 {X : zX} {d : Nat} {R : zR} {I : zI} {J : zJ} {c : Nat} {x2 : Int32} {x3 : Int32} {x4 : Int32} {x5 : Option Value} {x6 : Option Value} (ho : c = 7 ∨ c = 22) : zEv X d zm_50 (113, [some (.ref 192), some (.ref c), some (.int x2), some (.int x3), some (.int x4), x5, x6], [], (zS0, R, I, J)) (none, (zS0, R, I, J)) := by
  rcases ho with rfl | rfl
  · exact zEv_r rfl
  · exact zEv_r rfl
theorem b_51_0 {X : zX} {d : Nat} {R : zR} {I : zI} {J : zJ} {r : zA} {c : Nat} {x2 : Int32} {x3 : Int32} {w : Int32} {R' : zR} {I' : zI} {J' : zJ} (ho : c = 7 ∨ c = 22) (hc : zEv X d zm_52 (0, [some (.ref 192), some (.ref c), some (.int x2), some (.int x3), some (.int 7)], [], (zS0, R, I, J)) (some (.int w), (zS0, R', I', J'))) (k1 : zEv X (d + 1) zm_51 (13, [some (.ref 192), some (.ref c), some (.int x2), some (.int x3), some (.int 7), none, none], [.int w], (zS0, R', I', J')) r) : zEv X (d + 1) zm_51 (0, [some (.ref 192), some (.ref c), some (.int x2), some (.int x3), none, none, none], [], (zS0, R, I, J)) r := by
  rcases ho with rfl | rfl
  · refine zEv_k 7 (f' := (10, [some (.ref 192), some (.ref 7), some (.int x2), some (.int x3), some (.int 7), none, none], [.int 7, .int x3, .int x2, .ref 7, .ref 192], (zS0, R, I, J))) rfl ?_
    exact zEv_c (fun _ => rfl) rfl hc rfl rfl k1
  · refine zEv_k 7 (f' := (10, [some (.ref 192), some (.ref 22), some (.int x2), some (.int x3), some (.int 7), none, none], [.int 7, .int x3, .int x2, .ref 22, .ref 192], (zS0, R, I, J))) rfl ?_
    exact zEv_c (fun _ => rfl) rfl hc rfl rfl k1
theorem b_51_13 {X : zX} {d : Nat} {R : zR} {I : zI} {J : zJ} {r : zA} {c : Nat} {x2 : Int32} {x3 : Int32} {x4 : Int32} {s0 : Int32} (ho : c = 7 ∨ c = 22) (k1 : zEv X d zm_51 (23, [some (.ref 192), some (.ref c), some (.int x2), some (.int x3), some (.int x4), some (.int s0), some (.int ((I c 2) - 1))], [], (zS0, R, I, J)) r) : zEv X d zm_51 (13, [some (.ref 192), some (.ref c), some (.int x2), some (.int x3), some (.int x4), none, none], [.int s0], (zS0, R, I, J)) r := by
  rcases ho with rfl | rfl
  · refine zEv_k 6 (f' := (23, [some (.ref 192), some (.ref 7), some (.int x2), some (.int x3), some (.int x4), some (.int s0), some (.int ((I 7 2) - 1))], [], (zS0, R, I, J))) rfl ?_
    exact k1
  · refine zEv_k 6 (f' := (23, [some (.ref 192), some (.ref 22), some (.int x2), some (.int x3), some (.int x4), some (.int s0), some (.int ((I 22 2) - 1))], [], (zS0, R, I, J))) rfl ?_
    exact k1
theorem b_51_23 {X : zX} {d : Nat} {R : zR} {I : zI} {J : zJ} {r : zA} {c : Nat} {x2 : Int32} {x3 : Int32} {x4 : Int32} {x5 : Int32} {x6 : Int32} (ho : c = 7 ∨ c = 22) (k1 : x6 < 0 → zEv X d zm_51 (72, [some (.ref 192), some (.ref c), some (.int x2), some (.int x3), some (.int x4), some (.int x5), some (.int x6)], [], (zS0, R, I, J)) r) (k2 : ¬ (x6 < 0) → zEv X d zm_51 (28, [some (.ref 192), some (.ref c), some (.int x2), some (.int x3), some (.int x4), some (.int x5), some (.int x6)], [], (zS0, R, I, J)) r) : zEv X d zm_51 (23, [some (.ref 192), some (.ref c), some (.int x2), some (.int x3), some (.int x4), some (.int x5), some (.int x6)], [], (zS0, R, I, J)) r := by
  rcases ho with rfl | rfl
  · refine zEv_k 2 (f' := (if x6 < 0 then 72 else 28, [some (.ref 192), some (.ref 7), some (.int x2), some (.int x3), some (.int x4), some (.int x5), some (.int x6)], [], (zS0, R, I, J))) rfl ?_
    exact zEv_if k1 k2
  · refine zEv_k 2 (f' := (if x6 < 0 then 72 else 28, [some (.ref 192), some (.ref 22), some (.int x2), some (.int x3), some (.int x4), some (.int x5), some (.int x6)], [], (zS0, R, I, J))) rfl ?_
    exact zEv_if k1 k2
theorem b_51_28 {X : zX} {d : Nat} {R : zR} {I : zI} {J : zJ} {r : zA} {c : Nat} {x2 : Int32} {x3 : Int32} {x4 : Int32} {x5 : Int32} {x6 : Int32} (ho : c = 7 ∨ c = 22) (k1 : ¬ (zf_cin x2 x6) = 0 → zEv X (d + 1) zm_51 (66, [some (.ref 192), some (.ref c), some (.int x2), some (.int x3), some (.int x4), some (.int x5), some (.int x6)], [], (zS0, R, I, J)) r) (k2 : ¬ (¬ (zf_cin x2 x6) = 0) → zEv X (d + 1) zm_51 (37, [some (.ref 192), some (.ref c), some (.int x2), some (.int x3), some (.int x4), some (.int x5), some (.int x6)], [], (zS0, R, I, J)) r) : zEv X (d + 1) zm_51 (28, [some (.ref 192), some (.ref c), some (.int x2), some (.int x3), some (.int x4), some (.int x5), some (.int x6)], [], (zS0, R, I, J)) r := by
  rcases ho with rfl | rfl
  · refine zEv_k 2 (f' := (31, [some (.ref 192), some (.ref 7), some (.int x2), some (.int x3), some (.int x4), some (.int x5), some (.int x6)], [.int x6, .int x2], (zS0, R, I, J))) rfl ?_
    refine zEv_c (fun _ => rfl) rfl ev_zf_cin rfl rfl ?_
    refine zEv_k 1 (f' := (if ¬ (zf_cin x2 x6) = 0 then 66 else 37, [some (.ref 192), some (.ref 7), some (.int x2), some (.int x3), some (.int x4), some (.int x5), some (.int x6)], [], (zS0, R, I, J))) rfl ?_
    exact zEv_if k1 k2
  · refine zEv_k 2 (f' := (31, [some (.ref 192), some (.ref 22), some (.int x2), some (.int x3), some (.int x4), some (.int x5), some (.int x6)], [.int x6, .int x2], (zS0, R, I, J))) rfl ?_
    refine zEv_c (fun _ => rfl) rfl ev_zf_cin rfl rfl ?_
    refine zEv_k 1 (f' := (if ¬ (zf_cin x2 x6) = 0 then 66 else 37, [some (.ref 192), some (.ref 22), some (.int x2), some (.int x3), some (.int x4), some (.int x5), some (.int x6)], [], (zS0, R, I, J))) rfl ?_
    exact zEv_if k1 k2
theorem b_51_37 {X : zX} {d : Nat} {R : zR} {I : zI} {J : zJ} {r : zA} {c : Nat} {x2 : Int32} {x3 : Int32} {x4 : Int32} {x5 : Int32} {x6 : Int32} {w : Int32} {R' : zR} {I' : zI} {J' : zJ} (ho : c = 7 ∨ c = 22) (hc : zEv X d zm_52 (0, [some (.ref 192), some (.ref c), some (.int x2), some (.int x3), some (.int x6)], [], (zS0, R, I, J)) (some (.int w), (zS0, R', I', J'))) (k1 : zEv X (d + 1) zm_51 (46, [some (.ref 192), some (.ref c), some (.int x2), some (.int x3), some (.int x4), some (.int x5), some (.int x6)], [.int w], (zS0, R', I', J')) r) : zEv X (d + 1) zm_51 (37, [some (.ref 192), some (.ref c), some (.int x2), some (.int x3), some (.int x4), some (.int x5), some (.int x6)], [], (zS0, R, I, J)) r := by
  rcases ho with rfl | rfl
  · refine zEv_k 5 (f' := (43, [some (.ref 192), some (.ref 7), some (.int x2), some (.int x3), some (.int x4), some (.int x5), some (.int x6)], [.int x6, .int x3, .int x2, .ref 7, .ref 192], (zS0, R, I, J))) rfl ?_
    exact zEv_c (fun _ => rfl) rfl hc rfl rfl k1
  · refine zEv_k 5 (f' := (43, [some (.ref 192), some (.ref 22), some (.int x2), some (.int x3), some (.int x4), some (.int x5), some (.int x6)], [.int x6, .int x3, .int x2, .ref 22, .ref 192], (zS0, R, I, J))) rfl ?_
    exact zEv_c (fun _ => rfl) rfl hc rfl rfl k1
theorem b_51_46 {X : zX} {d : Nat} {R : zR} {I : zI} {J : zJ} {r : zA} {c : Nat} {x2 : Int32} {x3 : Int32} {x4 : Int32} {x5 : Int32} {x6 : Int32} {s0 : Int32} (ho : c = 7 ∨ c = 22) (k1 : s0 < x5 → zEv X d zm_51 (66, [some (.ref 192), some (.ref c), some (.int x2), some (.int x3), some (.int x4), some (.int x5), some (.int x6)], [], (zS0, R, I, J)) r) (k2 : ¬ (s0 < x5) → zEv X d zm_51 (51, [some (.ref 192), some (.ref c), some (.int x2), some (.int x3), some (.int x4), some (.int x5), some (.int x6)], [], (zS0, R, I, J)) r) : zEv X d zm_51 (46, [some (.ref 192), some (.ref c), some (.int x2), some (.int x3), some (.int x4), some (.int x5), some (.int x6)], [.int s0], (zS0, R, I, J)) r := by
  rcases ho with rfl | rfl
  · refine zEv_k 2 (f' := (if s0 < x5 then 66 else 51, [some (.ref 192), some (.ref 7), some (.int x2), some (.int x3), some (.int x4), some (.int x5), some (.int x6)], [], (zS0, R, I, J))) rfl ?_
    exact zEv_if k1 k2
  · refine zEv_k 2 (f' := (if s0 < x5 then 66 else 51, [some (.ref 192), some (.ref 22), some (.int x2), some (.int x3), some (.int x4), some (.int x5), some (.int x6)], [], (zS0, R, I, J))) rfl ?_
    exact zEv_if k1 k2
theorem b_51_51 {X : zX} {d : Nat} {R : zR} {I : zI} {J : zJ} {r : zA} {c : Nat} {x2 : Int32} {x3 : Int32} {x4 : Int32} {x5 : Int32} {x6 : Int32} {w : Int32} {R' : zR} {I' : zI} {J' : zJ} (ho : c = 7 ∨ c = 22) (hc : zEv X d zm_52 (0, [some (.ref 192), some (.ref c), some (.int x2), some (.int x3), some (.int x6)], [], (zS0, R, I, J)) (some (.int w), (zS0, R', I', J'))) (k1 : zEv X (d + 1) zm_51 (60, [some (.ref 192), some (.ref c), some (.int x2), some (.int x3), some (.int x4), some (.int x5), some (.int x6)], [.int w], (zS0, R', I', J')) r) : zEv X (d + 1) zm_51 (51, [some (.ref 192), some (.ref c), some (.int x2), some (.int x3), some (.int x4), some (.int x5), some (.int x6)], [], (zS0, R, I, J)) r := by
  rcases ho with rfl | rfl
  · refine zEv_k 5 (f' := (57, [some (.ref 192), some (.ref 7), some (.int x2), some (.int x3), some (.int x4), some (.int x5), some (.int x6)], [.int x6, .int x3, .int x2, .ref 7, .ref 192], (zS0, R, I, J))) rfl ?_
    exact zEv_c (fun _ => rfl) rfl hc rfl rfl k1
  · refine zEv_k 5 (f' := (57, [some (.ref 192), some (.ref 22), some (.int x2), some (.int x3), some (.int x4), some (.int x5), some (.int x6)], [.int x6, .int x3, .int x2, .ref 22, .ref 192], (zS0, R, I, J))) rfl ?_
    exact zEv_c (fun _ => rfl) rfl hc rfl rfl k1
theorem b_51_60 {X : zX} {d : Nat} {R : zR} {I : zI} {J : zJ} {r : zA} {c : Nat} {x2 : Int32} {x3 : Int32} {x4 : Int32} {x5 : Int32} {x6 : Int32} {s0 : Int32} (ho : c = 7 ∨ c = 22) (k1 : zEv X d zm_51 (66, [some (.ref 192), some (.ref c), some (.int x2), some (.int x3), some (.int x6), some (.int s0), some (.int x6)], [], (zS0, R, I, J)) r) : zEv X d zm_51 (60, [some (.ref 192), some (.ref c), some (.int x2), some (.int x3), some (.int x4), some (.int x5), some (.int x6)], [.int s0], (zS0, R, I, J)) r := by
  rcases ho with rfl | rfl
  · refine zEv_k 3 (f' := (66, [some (.ref 192), some (.ref 7), some (.int x2), some (.int x3), some (.int x6), some (.int s0), some (.int x6)], [], (zS0, R, I, J))) rfl ?_
    exact k1
  · refine zEv_k 3 (f' := (66, [some (.ref 192), some (.ref 22), some (.int x2), some (.int x3), some (.int x6), some (.int s0), some (.int x6)], [], (zS0, R, I, J))) rfl ?_
    exact k1
theorem b_51_66 {X : zX} {d : Nat} {R : zR} {I : zI} {J : zJ} {r : zA} {c : Nat} {x2 : Int32} {x3 : Int32} {x4 : Int32} {x5 : Int32} {x6 : Int32} (ho : c = 7 ∨ c = 22) (k1 : zEv X d zm_51 (23, [some (.ref 192), some (.ref c), some (.int x2), some (.int x3), some (.int x4), some (.int x5), some (.int (x6 + (-1)))], [], (zS0, R, I, J)) r) : zEv X d zm_51 (66, [some (.ref 192), some (.ref c), some (.int x2), some (.int x3), some (.int x4), some (.int x5), some (.int x6)], [], (zS0, R, I, J)) r := by
  rcases ho with rfl | rfl
  · refine zEv_k 2 (f' := (23, [some (.ref 192), some (.ref 7), some (.int x2), some (.int x3), some (.int x4), some (.int x5), some (.int (x6 + (-1)))], [], (zS0, R, I, J))) rfl ?_
    exact k1
  · refine zEv_k 2 (f' := (23, [some (.ref 192), some (.ref 22), some (.int x2), some (.int x3), some (.int x4), some (.int x5), some (.int (x6 + (-1)))], [], (zS0, R, I, J))) rfl ?_
    exact k1
theorem b_51_72 {X : zX} {d : Nat} {R : zR} {I : zI} {J : zJ} {c : Nat} {x2 : Int32} {x3 : Int32} {x4 : Int32} {x5 : Int32} {x6 : Int32} (ho : c = 7 ∨ c = 22) : zEv X d zm_51 (72, [some (.ref 192), some (.ref c), some (.int x2), some (.int x3), some (.int x4), some (.int x5), some (.int x6)], [], (zS0, R, I, J)) (some (.int x4), (zS0, R, I, J)) := by
  rcases ho with rfl | rfl
  · refine zEv_k 1 (f' := (74, [some (.ref 192), some (.ref 7), some (.int x2), some (.int x3), some (.int x4), some (.int x5), some (.int x6)], [.int x4], (zS0, R, I, J))) rfl ?_
    exact zEv_r rfl
  · refine zEv_k 1 (f' := (74, [some (.ref 192), some (.ref 22), some (.int x2), some (.int x3), some (.int x4), some (.int x5), some (.int x6)], [.int x4], (zS0, R, I, J))) rfl ?_
    exact zEv_r rfl
theorem b_52_0 {X : zX} {d : Nat} {R : zR} {I : zI} {J : zJ} {r : zA} {c : Nat} {x2 : Int32} {x3 : Int32} {x4 : Int32} (ho : c = 7 ∨ c = 22) (k1 : ¬ x4 = 7 → zEv X d zm_52 (20, [some (.ref 192), some (.ref c), some (.int x2), some (.int x3), some (.int x4)], [], (zS0, R, I, J)) r) (k2 : ¬ (¬ x4 = 7) → zEv X d zm_52 (7, [some (.ref 192), some (.ref c), some (.int x2), some (.int x3), some (.int x4)], [], (zS0, R, I, J)) r) : zEv X d zm_52 (0, [some (.ref 192), some (.ref c), some (.int x2), some (.int x3), some (.int x4)], [], (zS0, R, I, J)) r := by
  rcases ho with rfl | rfl
  · refine zEv_k 3 (f' := (if ¬ x4 = 7 then 20 else 7, [some (.ref 192), some (.ref 7), some (.int x2), some (.int x3), some (.int x4)], [], (zS0, R, I, J))) rfl ?_
    exact zEv_if k1 k2
  · refine zEv_k 3 (f' := (if ¬ x4 = 7 then 20 else 7, [some (.ref 192), some (.ref 22), some (.int x2), some (.int x3), some (.int x4)], [], (zS0, R, I, J))) rfl ?_
    exact zEv_if k1 k2
theorem b_52_7 {X : zX} {d : Nat} {R : zR} {I : zI} {J : zJ} {c : Nat} {x2 : Int32} {x3 : Int32} {x4 : Int32} (hR : zRok R) (ho : c = 7 ∨ c = 22) (h17 : zin ((x2 * 8) + x3) 1408) : zEv X d zm_52 (7, [some (.ref 192), some (.ref c), some (.int x2), some (.int x3), some (.int x4)], [], (zS0, R, I, J)) (some (.int (-(I 194 ((x2 * 8) + x3).toNatClampNeg))), (zS0, R, I, J)) := by
  rcases ho with rfl | rfl
  · refine zEv_k 1 (f' := (8, [some (.ref 192), some (.ref 7), some (.int x2), some (.int x3), some (.int x4)], [.ref 192], (zS0, R, I, J))) rfl ?_
    refine zEv_gr rfl rfl rfl (by decide) (hR (192) 4 (194) rfl) ?_
    refine zEv_k 5 (f' := (17, [some (.ref 192), some (.ref 7), some (.int x2), some (.int x3), some (.int x4)], [.int ((x2 * 8) + x3), .ref 194], (zS0, R, I, J))) rfl ?_
    refine zEv_ial rfl rfl (by decide) h17 ?_
    refine zEv_k 1 (f' := (19, [some (.ref 192), some (.ref 7), some (.int x2), some (.int x3), some (.int x4)], [.int (-(I 194 ((x2 * 8) + x3).toNatClampNeg))], (zS0, R, I, J))) rfl ?_
    exact zEv_r rfl
  · refine zEv_k 1 (f' := (8, [some (.ref 192), some (.ref 22), some (.int x2), some (.int x3), some (.int x4)], [.ref 192], (zS0, R, I, J))) rfl ?_
    refine zEv_gr rfl rfl rfl (by decide) (hR (192) 4 (194) rfl) ?_
    refine zEv_k 5 (f' := (17, [some (.ref 192), some (.ref 22), some (.int x2), some (.int x3), some (.int x4)], [.int ((x2 * 8) + x3), .ref 194], (zS0, R, I, J))) rfl ?_
    refine zEv_ial rfl rfl (by decide) h17 ?_
    refine zEv_k 1 (f' := (19, [some (.ref 192), some (.ref 22), some (.int x2), some (.int x3), some (.int x4)], [.int (-(I 194 ((x2 * 8) + x3).toNatClampNeg))], (zS0, R, I, J))) rfl ?_
    exact zEv_r rfl
theorem b_52_20 {X : zX} {d : Nat} {R : zR} {I : zI} {J : zJ} {r : zA} {c : Nat} {x2 : Int32} {x3 : Int32} {x4 : Int32} {w : Int32} {R' : zR} {I' : zI} {J' : zJ} (ho : c = 7 ∨ c = 22) (hc : zEv X d zm_48 (0, [some (.ref c), some (.int x3), some (.int x4), none], [], (zS0, R, I, J)) (some (.int w), (zS0, R', I', J'))) (k1 : zEv X (d + 1) zm_52 (27, [some (.ref 192), some (.ref c), some (.int x2), some (.int x3), some (.int x4)], [.int w], (zS0, R', I', J')) r) : zEv X (d + 1) zm_52 (20, [some (.ref 192), some (.ref c), some (.int x2), some (.int x3), some (.int x4)], [], (zS0, R, I, J)) r := by
  rcases ho with rfl | rfl
  · refine zEv_k 3 (f' := (24, [some (.ref 192), some (.ref 7), some (.int x2), some (.int x3), some (.int x4)], [.int x4, .int x3, .ref 7], (zS0, R, I, J))) rfl ?_
    exact zEv_c (fun _ => rfl) rfl hc rfl rfl k1
  · refine zEv_k 3 (f' := (24, [some (.ref 192), some (.ref 22), some (.int x2), some (.int x3), some (.int x4)], [.int x4, .int x3, .ref 22], (zS0, R, I, J))) rfl ?_
    exact zEv_c (fun _ => rfl) rfl hc rfl rfl k1
theorem b_52_27 {X : zX} {d : Nat} {R : zR} {I : zI} {J : zJ} {c : Nat} {x2 : Int32} {x3 : Int32} {x4 : Int32} {s0 : Int32} (hR : zRok R) (ho : c = 7 ∨ c = 22) (h43 : zin (((x2 ||| ((1 : Int32) <<< (x4 &&& 31))) * 8) + x4) 1408) : zEv X d zm_52 (27, [some (.ref 192), some (.ref c), some (.int x2), some (.int x3), some (.int x4)], [.int s0], (zS0, R, I, J)) (some (.int (s0 - (I 194 (((x2 ||| ((1 : Int32) <<< (x4 &&& 31))) * 8) + x4).toNatClampNeg))), (zS0, R, I, J)) := by
  rcases ho with rfl | rfl
  · refine zEv_k 1 (f' := (28, [some (.ref 192), some (.ref 7), some (.int x2), some (.int x3), some (.int x4)], [.ref 192, .int s0], (zS0, R, I, J))) rfl ?_
    refine zEv_gr rfl rfl rfl (by decide) (hR (192) 4 (194) rfl) ?_
    refine zEv_k 9 (f' := (43, [some (.ref 192), some (.ref 7), some (.int x2), some (.int x3), some (.int x4)], [.int (((x2 ||| ((1 : Int32) <<< (x4 &&& 31))) * 8) + x4), .ref 194, .int s0], (zS0, R, I, J))) rfl ?_
    refine zEv_ial rfl rfl (by decide) h43 ?_
    refine zEv_k 1 (f' := (45, [some (.ref 192), some (.ref 7), some (.int x2), some (.int x3), some (.int x4)], [.int (s0 - (I 194 (((x2 ||| ((1 : Int32) <<< (x4 &&& 31))) * 8) + x4).toNatClampNeg))], (zS0, R, I, J))) rfl ?_
    exact zEv_r rfl
  · refine zEv_k 1 (f' := (28, [some (.ref 192), some (.ref 22), some (.int x2), some (.int x3), some (.int x4)], [.ref 192, .int s0], (zS0, R, I, J))) rfl ?_
    refine zEv_gr rfl rfl rfl (by decide) (hR (192) 4 (194) rfl) ?_
    refine zEv_k 9 (f' := (43, [some (.ref 192), some (.ref 22), some (.int x2), some (.int x3), some (.int x4)], [.int (((x2 ||| ((1 : Int32) <<< (x4 &&& 31))) * 8) + x4), .ref 194, .int s0], (zS0, R, I, J))) rfl ?_
    refine zEv_ial rfl rfl (by decide) h43 ?_
    refine zEv_k 1 (f' := (45, [some (.ref 192), some (.ref 22), some (.int x2), some (.int x3), some (.int x4)], [.int (s0 - (I 194 (((x2 ||| ((1 : Int32) <<< (x4 &&& 31))) * 8) + x4).toNatClampNeg))], (zS0, R, I, J))) rfl ?_
    exact zEv_r rfl
