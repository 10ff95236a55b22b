theorem b_154_0 {X : zX} {d : Nat} {R : zR} {I : zI} {J : zJ} {r : zA} {x0 : Int32} (k1 : zEv X d zm_154 (4, [some (.int x0), some (.int 0), some (.int 0)], [], (zS0, R, I, J)) r) : zEv X d zm_154 (0, [some (.int x0), none, none], [], (zS0, R, I, J)) r := by
  refine zEv_k 4 (f' := (4, [some (.int x0), some (.int 0), some (.int 0)], [], (zS0, R, I, J))) rfl ?_
  exact k1
theorem b_154_4 {X : zX} {d : Nat} {R : zR} {I : zI} {J : zJ} {r : zA} {x0 : Int32} {x1 : Int32} {x2 : Int32} (k1 : 7 ≤ x2 → zEv X d zm_154 (32, [some (.int x0), some (.int x1), some (.int x2)], [], (zS0, R, I, J)) r) (k2 : ¬ (7 ≤ x2) → zEv X d zm_154 (10, [some (.int x0), some (.int x1), some (.int x2)], [], (zS0, R, I, J)) r) : zEv X d zm_154 (4, [some (.int x0), some (.int x1), some (.int x2)], [], (zS0, R, I, J)) r := by
  refine zEv_k 3 (f' := (if 7 ≤ x2 then 32 else 10, [some (.int x0), some (.int x1), some (.int x2)], [], (zS0, R, I, J))) rfl ?_
  exact zEv_if k1 k2
theorem b_154_10 {X : zX} {d : Nat} {R : zR} {I : zI} {J : zJ} {r : zA} {x0 : Int32} {x1 : Int32} {x2 : Int32} (k1 : (zf_has x0 x2) = 0 → zEv X (d + 1) zm_154 (23, [some (.int x0), some (.int x1), some (.int x2)], [.int x1], (zS0, R, I, J)) r) (k2 : ¬ ((zf_has x0 x2) = 0) → zEv X (d + 1) zm_154 (19, [some (.int x0), some (.int x1), some (.int x2)], [.int x1], (zS0, R, I, J)) r) : zEv X (d + 1) zm_154 (10, [some (.int x0), some (.int x1), some (.int x2)], [], (zS0, R, I, J)) r := by
  refine zEv_k 3 (f' := (13, [some (.int x0), some (.int x1), some (.int x2)], [.int x2, .int x0, .int x1], (zS0, R, I, J))) rfl ?_
  refine zEv_c (fun _ => rfl) rfl ev_zf_has rfl rfl ?_
  refine zEv_k 1 (f' := (if (zf_has x0 x2) = 0 then 23 else 19, [some (.int x0), some (.int x1), some (.int x2)], [.int x1], (zS0, R, I, J))) rfl ?_
  exact zEv_if k1 k2
theorem b_154_19 {X : zX} {d : Nat} {R : zR} {I : zI} {J : zJ} {r : zA} {x0 : Int32} {x1 : Int32} {x2 : Int32} {s0 : Int32} (k1 : zEv X d zm_154 (24, [some (.int x0), some (.int x1), some (.int x2)], [.int 1, .int s0], (zS0, R, I, J)) r) : zEv X d zm_154 (19, [some (.int x0), some (.int x1), some (.int x2)], [.int s0], (zS0, R, I, J)) r := by
  refine zEv_k 2 (f' := (24, [some (.int x0), some (.int x1), some (.int x2)], [.int 1, .int s0], (zS0, R, I, J))) rfl ?_
  exact k1
theorem b_154_23 {X : zX} {d : Nat} {R : zR} {I : zI} {J : zJ} {r : zA} {x0 : Int32} {x1 : Int32} {x2 : Int32} {s0 : Int32} (k1 : zEv X d zm_154 (24, [some (.int x0), some (.int x1), some (.int x2)], [.int 0, .int s0], (zS0, R, I, J)) r) : zEv X d zm_154 (23, [some (.int x0), some (.int x1), some (.int x2)], [.int s0], (zS0, R, I, J)) r := by
  refine zEv_k 1 (f' := (24, [some (.int x0), some (.int x1), some (.int x2)], [.int 0, .int s0], (zS0, R, I, J))) rfl ?_
  exact k1
theorem b_154_24 {X : zX} {d : Nat} {R : zR} {I : zI} {J : zJ} {r : zA} {x0 : Int32} {x1 : Int32} {x2 : Int32} {s0 : Int32} {s1 : Int32} (k1 : zEv X d zm_154 (4, [some (.int x0), some (.int (s0 + s1)), some (.int (x2 + 1))], [], (zS0, R, I, J)) r) : zEv X d zm_154 (24, [some (.int x0), some (.int x1), some (.int x2)], [.int s1, .int s0], (zS0, R, I, J)) r := by
  refine zEv_k 4 (f' := (4, [some (.int x0), some (.int (s0 + s1)), some (.int (x2 + 1))], [], (zS0, R, I, J))) rfl ?_
  exact k1
theorem b_154_32 {X : zX} {d : Nat} {R : zR} {I : zI} {J : zJ} {x0 : Int32} {x1 : Int32} {x2 : Int32} : zEv X d zm_154 (32, [some (.int x0), some (.int x1), some (.int x2)], [], (zS0, R, I, J)) (some (.int x1), (zS0, R, I, J)) := by
  refine zEv_k 1 (f' := (33, [some (.int x0), some (.int x1), some (.int x2)], [.int x1], (zS0, R, I, J))) rfl ?_
  exact zEv_r rfl
theorem b_155_0 {X : zX} {d : Nat} {R : zR} {I : zI} {J : zJ} {r : zA} {x0 : Nat} {x1 : Int32} {x2 : Int32} {x3 : Int32} (k1 : zEv X d zm_155 (3, [some (.ref x0), some (.int x1), some (.int x2), some (.int x3), some (.int 0)], [], (zS0, R, I, J)) r) : zEv X d zm_155 (0, [some (.ref x0), some (.int x1), some (.int x2), some (.int x3), none], [], (zS0, R, I, J)) r := by
  refine zEv_k 2 (f' := (3, [some (.ref x0), some (.int x1), some (.int x2), some (.int x3), some (.int 0)], [], (zS0, R, I, J))) rfl ?_
  exact k1
theorem b_155_3 {X : zX} {d : Nat} {R : zR} {I : zI} {J : zJ} {r : zA} {x0 : Nat} {x1 : Int32} {x2 : Int32} {x3 : Int32} {x4 : Int32} (k1 : x1 ≤ x4 → zEv X d zm_155 (31, [some (.ref x0), some (.int x1), some (.int x2), some (.int x3), some (.int x4)], [], (zS0, R, I, J)) r) (k2 : ¬ (x1 ≤ x4) → zEv X d zm_155 (9, [some (.ref x0), some (.int x1), some (.int x2), some (.int x3), some (.int x4)], [], (zS0, R, I, J)) r) : zEv X d zm_155 (3, [some (.ref x0), some (.int x1), some (.int x2), some (.int x3), some (.int x4)], [], (zS0, R, I, J)) r := by
  refine zEv_k 3 (f' := (if x1 ≤ x4 then 31 else 9, [some (.ref x0), some (.int x1), some (.int x2), some (.int x3), some (.int x4)], [], (zS0, R, I, J))) rfl ?_
  exact zEv_if k1 k2
theorem b_155_31 {X : zX} {d : Nat} {R : zR} {I : zI} {J : zJ} {x0 : Nat} {x1 : Int32} {x2 : Int32} {x3 : Int32} {x4 : Int32} : zEv X d zm_155 (31, [some (.ref x0), some (.int x1), some (.int x2), some (.int x3), some (.int x4)], [], (zS0, R, I, J)) (none, (zS0, R, I, J)) := by
  exact zEv_r rfl
theorem b_156_0 {X : zX} {d : Nat} {R : zR} {I : zI} {J : zJ} {r : zA} {x1 : Int32} {x2 : Int32} (k1 : zEv X d zm_156 (2, [some (.ref 215), some (.int x1), some (.int x2), some (.int 0)], [], (zS0, R, I, J)) r) : zEv X d zm_156 (0, [some (.ref 215), some (.int x1), some (.int x2), none], [], (zS0, R, I, J)) r := by
  refine zEv_k 2 (f' := (2, [some (.ref 215), some (.int x1), some (.int x2), some (.int 0)], [], (zS0, R, I, J))) rfl ?_
  exact k1
theorem b_156_2 {X : zX} {d : Nat} {R : zR} {I : zI} {J : zJ} {r : zA} {x1 : Int32} {x2 : Int32} {x3 : Int32} (k1 : 600 ≤ x3 → zEv X d zm_156 (39, [some (.ref 215), some (.int x1), some (.int x2), some (.int x3)], [], (zS0, R, I, J)) r) (k2 : ¬ (600 ≤ x3) → zEv X d zm_156 (9, [some (.ref 215), some (.int x1), some (.int x2), some (.int x3)], [], (zS0, R, I, J)) r) : zEv X d zm_156 (2, [some (.ref 215), some (.int x1), some (.int x2), some (.int x3)], [], (zS0, R, I, J)) r := by
  refine zEv_k 3 (f' := (if 600 ≤ x3 then 39 else 9, [some (.ref 215), some (.int x1), some (.int x2), some (.int x3)], [], (zS0, R, I, J))) rfl ?_
  exact zEv_if k1 k2
theorem b_156_9 {X : zX} {d : Nat} {R : zR} {I : zI} {J : zJ} {r : zA} {x1 : Int32} {x2 : Int32} {x3 : Int32} (hR : zRok R) (h31 : zin ((600 * x1) + x3) 2400) (h32 : zin ((600 * x2) + x3) 2400) (k1 : zEv X d zm_156 (2, [some (.ref 215), some (.int x1), some (.int x2), some (.int (x3 + 1))], [], (zS0, R, zu I 216 ((600 * x2) + x3).toNatClampNeg (Int32.toInt8 (I 216 ((600 * x1) + x3).toNatClampNeg)).toInt32, J)) r) : zEv X d zm_156 (9, [some (.ref 215), some (.int x1), some (.int x2), some (.int x3)], [], (zS0, R, I, J)) r := by
  refine zEv_k 1 (f' := (10, [some (.ref 215), some (.int x1), some (.int x2), some (.int x3)], [.ref 215], (zS0, R, I, J))) rfl ?_
  refine zEv_gr rfl rfl rfl (by decide) (hR 215 1 216 rfl) ?_
  refine zEv_k 6 (f' := (21, [some (.ref 215), some (.int x1), some (.int x2), some (.int x3)], [.ref 215, .int ((600 * x2) + x3), .ref 216], (zS0, R, I, J))) rfl ?_
  refine zEv_gr rfl rfl rfl (by decide) (hR 215 1 216 rfl) ?_
  refine zEv_k 5 (f' := (31, [some (.ref 215), some (.int x1), some (.int x2), some (.int x3)], [.int ((600 * x1) + x3), .ref 216, .int ((600 * x2) + x3), .ref 216], (zS0, R, I, J))) rfl ?_
  refine zEv_bal rfl rfl (by decide) h31 ?_
  refine zEv_bas rfl rfl (by decide) h32 ?_
  refine zEv_k 2 (f' := (2, [some (.ref 215), some (.int x1), some (.int x2), some (.int (x3 + 1))], [], (zS0, R, zu I 216 ((600 * x2) + x3).toNatClampNeg (Int32.toInt8 (I 216 ((600 * x1) + x3).toNatClampNeg)).toInt32, J))) rfl ?_
  exact k1
theorem b_156_39 {X : zX} {d : Nat} {R : zR} {I : zI} {J : zJ} {r : zA} {x1 : Int32} {x2 : Int32} {x3 : Int32} {R' : zR} {I' : zI} {J' : zJ} (hR : zRok R) (hc : zEv X d zm_155 (0, [some (.ref 217), some (.int 1), some (.int x1), some (.int x2), none], [], (zS0, R, I, J)) (none, (zS0, R', I', J'))) (k1 : zEv X (d + 1) zm_156 (49, [some (.ref 215), some (.int x1), some (.int x2), some (.int x3)], [], (zS0, R', I', J')) r) : zEv X (d + 1) zm_156 (39, [some (.ref 215), some (.int x1), some (.int x2), some (.int x3)], [], (zS0, R, I, J)) r := by
  refine zEv_k 1 (f' := (40, [some (.ref 215), some (.int x1), some (.int x2), some (.int x3)], [.ref 215], (zS0, R, I, J))) rfl ?_
  refine zEv_gr rfl rfl rfl (by decide) (hR 215 2 217 rfl) ?_
  refine zEv_k 3 (f' := (46, [some (.ref 215), some (.int x1), some (.int x2), some (.int x3)], [.int x2, .int x1, .int 1, .ref 217], (zS0, R, I, J))) rfl ?_
  exact zEv_c (fun _ => rfl) rfl hc rfl rfl k1
theorem b_156_49 {X : zX} {d : Nat} {R : zR} {I : zI} {J : zJ} {r : zA} {x1 : Int32} {x2 : Int32} {x3 : Int32} {R' : zR} {I' : zI} {J' : zJ} (hR : zRok R) (hc : zEv X d zm_155 (0, [some (.ref 218), some (.int 1), some (.int x1), some (.int x2), none], [], (zS0, R, I, J)) (none, (zS0, R', I', J'))) (k1 : zEv X (d + 1) zm_156 (59, [some (.ref 215), some (.int x1), some (.int x2), some (.int x3)], [], (zS0, R', I', J')) r) : zEv X (d + 1) zm_156 (49, [some (.ref 215), some (.int x1), some (.int x2), some (.int x3)], [], (zS0, R, I, J)) r := by
  refine zEv_k 1 (f' := (50, [some (.ref 215), some (.int x1), some (.int x2), some (.int x3)], [.ref 215], (zS0, R, I, J))) rfl ?_
  refine zEv_gr rfl rfl rfl (by decide) (hR 215 3 218 rfl) ?_
  refine zEv_k 3 (f' := (56, [some (.ref 215), some (.int x1), some (.int x2), some (.int x3)], [.int x2, .int x1, .int 1, .ref 218], (zS0, R, I, J))) rfl ?_
  exact zEv_c (fun _ => rfl) rfl hc rfl rfl k1
theorem b_156_59 {X : zX} {d : Nat} {R : zR} {I : zI} {J : zJ} {r : zA} {x1 : Int32} {x2 : Int32} {x3 : Int32} {R' : zR} {I' : zI} {J' : zJ} (hR : zRok R) (hc : zEv X d zm_155 (0, [some (.ref 219), some (.int 1), some (.int x1), some (.int x2), none], [], (zS0, R, I, J)) (none, (zS0, R', I', J'))) (k1 : zEv X (d + 1) zm_156 (69, [some (.ref 215), some (.int x1), some (.int x2), some (.int x3)], [], (zS0, R', I', J')) r) : zEv X (d + 1) zm_156 (59, [some (.ref 215), some (.int x1), some (.int x2), some (.int x3)], [], (zS0, R, I, J)) r := by
  refine zEv_k 1 (f' := (60, [some (.ref 215), some (.int x1), some (.int x2), some (.int x3)], [.ref 215], (zS0, R, I, J))) rfl ?_
  refine zEv_gr rfl rfl rfl (by decide) (hR 215 4 219 rfl) ?_
  refine zEv_k 3 (f' := (66, [some (.ref 215), some (.int x1), some (.int x2), some (.int x3)], [.int x2, .int x1, .int 1, .ref 219], (zS0, R, I, J))) rfl ?_
  exact zEv_c (fun _ => rfl) rfl hc rfl rfl k1
theorem b_156_69 {X : zX} {d : Nat} {R : zR} {I : zI} {J : zJ} {r : zA} {x1 : Int32} {x2 : Int32} {x3 : Int32} {R' : zR} {I' : zI} {J' : zJ} (hR : zRok R) (hc : zEv X d zm_155 (0, [some (.ref 220), some (.int 3), some (.int x1), some (.int x2), none], [], (zS0, R, I, J)) (none, (zS0, R', I', J'))) (k1 : zEv X (d + 1) zm_156 (79, [some (.ref 215), some (.int x1), some (.int x2), some (.int x3)], [], (zS0, R', I', J')) r) : zEv X (d + 1) zm_156 (69, [some (.ref 215), some (.int x1), some (.int x2), some (.int x3)], [], (zS0, R, I, J)) r := by
  refine zEv_k 1 (f' := (70, [some (.ref 215), some (.int x1), some (.int x2), some (.int x3)], [.ref 215], (zS0, R, I, J))) rfl ?_
  refine zEv_gr rfl rfl rfl (by decide) (hR 215 5 220 rfl) ?_
  refine zEv_k 3 (f' := (76, [some (.ref 215), some (.int x1), some (.int x2), some (.int x3)], [.int x2, .int x1, .int 3, .ref 220], (zS0, R, I, J))) rfl ?_
  exact zEv_c (fun _ => rfl) rfl hc rfl rfl k1
theorem b_156_79 {X : zX} {d : Nat} {R : zR} {I : zI} {J : zJ} {r : zA} {x1 : Int32} {x2 : Int32} {x3 : Int32} {R' : zR} {I' : zI} {J' : zJ} (hR : zRok R) (hc : zEv X d zm_155 (0, [some (.ref 221), some (.int 104), some (.int x1), some (.int x2), none], [], (zS0, R, I, J)) (none, (zS0, R', I', J'))) (k1 : zEv X (d + 1) zm_156 (90, [some (.ref 215), some (.int x1), some (.int x2), some (.int x3)], [], (zS0, R', I', J')) r) : zEv X (d + 1) zm_156 (79, [some (.ref 215), some (.int x1), some (.int x2), some (.int x3)], [], (zS0, R, I, J)) r := by
  refine zEv_k 1 (f' := (80, [some (.ref 215), some (.int x1), some (.int x2), some (.int x3)], [.ref 215], (zS0, R, I, J))) rfl ?_
  refine zEv_gr rfl rfl rfl (by decide) (hR 215 6 221 rfl) ?_
  refine zEv_k 3 (f' := (87, [some (.ref 215), some (.int x1), some (.int x2), some (.int x3)], [.int x2, .int x1, .int 104, .ref 221], (zS0, R, I, J))) rfl ?_
  exact zEv_c (fun _ => rfl) rfl hc rfl rfl k1
theorem b_156_90 {X : zX} {d : Nat} {R : zR} {I : zI} {J : zJ} {r : zA} {x1 : Int32} {x2 : Int32} {x3 : Int32} {R' : zR} {I' : zI} {J' : zJ} (hR : zRok R) (hc : zEv X d zm_155 (0, [some (.ref 222), some (.int 242), some (.int x1), some (.int x2), none], [], (zS0, R, I, J)) (none, (zS0, R', I', J'))) (k1 : zEv X (d + 1) zm_156 (102, [some (.ref 215), some (.int x1), some (.int x2), some (.int x3)], [], (zS0, R', I', J')) r) : zEv X (d + 1) zm_156 (90, [some (.ref 215), some (.int x1), some (.int x2), some (.int x3)], [], (zS0, R, I, J)) r := by
  refine zEv_k 1 (f' := (91, [some (.ref 215), some (.int x1), some (.int x2), some (.int x3)], [.ref 215], (zS0, R, I, J))) rfl ?_
  refine zEv_gr rfl rfl rfl (by decide) (hR 215 7 222 rfl) ?_
  refine zEv_k 3 (f' := (99, [some (.ref 215), some (.int x1), some (.int x2), some (.int x3)], [.int x2, .int x1, .int 242, .ref 222], (zS0, R, I, J))) rfl ?_
  exact zEv_c (fun _ => rfl) rfl hc rfl rfl k1
theorem b_156_102 {X : zX} {d : Nat} {R : zR} {I : zI} {J : zJ} {r : zA} {x1 : Int32} {x2 : Int32} {x3 : Int32} {R' : zR} {I' : zI} {J' : zJ} (hR : zRok R) (hc : zEv X d zm_155 (0, [some (.ref 223), some (.int 34), some (.int x1), some (.int x2), none], [], (zS0, R, I, J)) (none, (zS0, R', I', J'))) (k1 : zEv X (d + 1) zm_156 (113, [some (.ref 215), some (.int x1), some (.int x2), some (.int x3)], [], (zS0, R', I', J')) r) : zEv X (d + 1) zm_156 (102, [some (.ref 215), some (.int x1), some (.int x2), some (.int x3)], [], (zS0, R, I, J)) r := by
  refine zEv_k 1 (f' := (103, [some (.ref 215), some (.int x1), some (.int x2), some (.int x3)], [.ref 215], (zS0, R, I, J))) rfl ?_
  refine zEv_gr rfl rfl rfl (by decide) (hR 215 8 223 rfl) ?_
  refine zEv_k 3 (f' := (110, [some (.ref 215), some (.int x1), some (.int x2), some (.int x3)], [.int x2, .int x1, .int 34, .ref 223], (zS0, R, I, J))) rfl ?_
  exact zEv_c (fun _ => rfl) rfl hc rfl rfl k1
theorem b_156_113 {X : zX} {d : Nat} {R : zR} {I : zI} {J : zJ} {x1 : Int32} {x2 : Int32} {x3 : Int32} : zEv X d zm_156 (113, [some (.ref 215), some (.int x1), some (.int x2), some (.int x3)], [], (zS0, R, I, J)) (none, (zS0, R, I, J)) := by
  exact zEv_r rfl
theorem b_157_0 {X : zX} {d : Nat} {R : zR} {I : zI} {J : zJ} {x1 : Int32} {x2 : Int32} (hR : zRok R) (h7 : zin x1 12) (h13 : zbool (zf_in x2 0 ((I 220 (x1).toNatClampNeg) - 1)) = true) : zEv X (d + 1) zm_157 (0, [some (.ref 215), some (.int x1), some (.int x2)], [], (zS0, R, I, J)) (some (.int (zf_in x2 0 ((I 220 (x1).toNatClampNeg) - 1))), (zS0, R, I, J)) := by
  refine zEv_k 3 (f' := (3, [some (.ref 215), some (.int x1), some (.int x2)], [.ref 215, .int 0, .int x2], (zS0, R, I, J))) rfl ?_
  refine zEv_gr rfl rfl rfl (by decide) (hR 215 5 220 rfl) ?_
  refine zEv_k 1 (f' := (7, [some (.ref 215), some (.int x1), some (.int x2)], [.int x1, .ref 220, .int 0, .int x2], (zS0, R, I, J))) rfl ?_
  refine zEv_ial rfl rfl (by decide) h7 ?_
  refine zEv_k 2 (f' := (10, [some (.ref 215), some (.int x1), some (.int x2)], [.int ((I 220 (x1).toNatClampNeg) - 1), .int 0, .int x2], (zS0, R, I, J))) rfl ?_
  refine zEv_c (fun _ => rfl) rfl ev_zf_in rfl rfl ?_
  exact zEv_rz rfl rfl h13
theorem b_158_0 {X : zX} {d : Nat} {R : zR} {I : zI} {J : zJ} {r : zA} {x1 : Int32} {x2 : Int32} {x3 : Int32} {x4 : Int32} {x5 : Int32} (hR : zRok R) (k1 : (((zu I 215 0 0) 217 (0 : Int32).toNatClampNeg) + 20) ≤ 600 → zEv X d zm_158 (22, [some (.ref 215), some (.int x1), some (.int x2), some (.int x3), some (.int x4), some (.int x5)], [], (zS0, R, zu I 215 0 0, J)) r) (k2 : ¬ ((((zu I 215 0 0) 217 (0 : Int32).toNatClampNeg) + 20) ≤ 600) → zEv X d zm_158 (20, [some (.ref 215), some (.int x1), some (.int x2), some (.int x3), some (.int x4), some (.int x5)], [], (zS0, R, zu I 215 0 0, J)) r) : zEv X d zm_158 (0, [some (.ref 215), some (.int x1), some (.int x2), some (.int x3), some (.int x4), some (.int x5)], [], (zS0, R, I, J)) r := by
  refine zEv_k 4 (f' := (6, [some (.ref 215), some (.int x1), some (.int x2), some (.int x3), some (.int x4), some (.int x5)], [.ref 215], (zS0, R, zu I 215 0 0, J))) rfl ?_
  refine zEv_gr rfl rfl rfl (by decide) (hR 215 2 217 rfl) ?_
  refine zEv_k 1 (f' := (10, [some (.ref 215), some (.int x1), some (.int x2), some (.int x3), some (.int x4), some (.int x5)], [.int 0, .ref 217], (zS0, R, zu I 215 0 0, J))) rfl ?_
  refine zEv_ial rfl rfl (by decide) (by unfold zin; decide) ?_
  refine zEv_k 4 (f' := (if (((zu I 215 0 0) 217 (0 : Int32).toNatClampNeg) + 20) ≤ 600 then 22 else 20, [some (.ref 215), some (.int x1), some (.int x2), some (.int x3), some (.int x4), some (.int x5)], [], (zS0, R, zu I 215 0 0, J))) rfl ?_
  exact zEv_if k1 k2
theorem b_158_20 {X : zX} {d : Nat} {R : zR} {I : zI} {J : zJ} {x1 : Int32} {x2 : Int32} {x3 : Int32} {x4 : Int32} {x5 : Int32} : zEv X d zm_158 (20, [some (.ref 215), some (.int x1), some (.int x2), some (.int x3), some (.int x4), some (.int x5)], [], (zS0, R, I, J)) (some (.int (-1)), (zS0, R, I, J)) := by
  refine zEv_k 1 (f' := (21, [some (.ref 215), some (.int x1), some (.int x2), some (.int x3), some (.int x4), some (.int x5)], [.int (-1)], (zS0, R, I, J))) rfl ?_
  exact zEv_r rfl
theorem b_158_22 {X : zX} {d : Nat} {R : zR} {I : zI} {J : zJ} {r : zA} {x1 : Int32} {x2 : Int32} {x3 : Int32} {x4 : Int32} {x5 : Int32} {R' : zR} {I' : zI} {J' : zJ} (hc : zEv X d zm_159 (0, [some (.ref 215), some (.int x1), none], [], (zS0, R, I, J)) (none, (zS0, R', I', J'))) (k1 : zEv X (d + 1) zm_158 (27, [some (.ref 215), some (.int x1), some (.int x2), some (.int x3), some (.int x4), some (.int x5)], [], (zS0, R', I', J')) r) : zEv X (d + 1) zm_158 (22, [some (.ref 215), some (.int x1), some (.int x2), some (.int x3), some (.int x4), some (.int x5)], [], (zS0, R, I, J)) r := by
  refine zEv_k 2 (f' := (24, [some (.ref 215), some (.int x1), some (.int x2), some (.int x3), some (.int x4), some (.int x5)], [.int x1, .ref 215], (zS0, R, I, J))) rfl ?_
  exact zEv_c (fun _ => rfl) rfl hc rfl rfl k1
theorem b_158_27 {X : zX} {d : Nat} {R : zR} {I : zI} {J : zJ} {r : zA} {x1 : Int32} {x2 : Int32} {x3 : Int32} {x4 : Int32} {x5 : Int32} {R' : zR} {I' : zI} {J' : zJ} (hc : zEv X d zm_159 (0, [some (.ref 215), some (.int x2), none], [], (zS0, R, I, J)) (none, (zS0, R', I', J'))) (k1 : zEv X (d + 1) zm_158 (32, [some (.ref 215), some (.int x1), some (.int x2), some (.int x3), some (.int x4), some (.int x5)], [], (zS0, R', I', J')) r) : zEv X (d + 1) zm_158 (27, [some (.ref 215), some (.int x1), some (.int x2), some (.int x3), some (.int x4), some (.int x5)], [], (zS0, R, I, J)) r := by
  refine zEv_k 2 (f' := (29, [some (.ref 215), some (.int x1), some (.int x2), some (.int x3), some (.int x4), some (.int x5)], [.int x2, .ref 215], (zS0, R, I, J))) rfl ?_
  exact zEv_c (fun _ => rfl) rfl hc rfl rfl k1
theorem b_158_32 {X : zX} {d : Nat} {R : zR} {I : zI} {J : zJ} {r : zA} {x1 : Int32} {x2 : Int32} {x3 : Int32} {x4 : Int32} {x5 : Int32} {R' : zR} {I' : zI} {J' : zJ} (hc : zEv X d zm_159 (0, [some (.ref 215), some (.int x3), none], [], (zS0, R, I, J)) (none, (zS0, R', I', J'))) (k1 : zEv X (d + 1) zm_158 (37, [some (.ref 215), some (.int x1), some (.int x2), some (.int x3), some (.int x4), some (.int x5)], [], (zS0, R', I', J')) r) : zEv X (d + 1) zm_158 (32, [some (.ref 215), some (.int x1), some (.int x2), some (.int x3), some (.int x4), some (.int x5)], [], (zS0, R, I, J)) r := by
  refine zEv_k 2 (f' := (34, [some (.ref 215), some (.int x1), some (.int x2), some (.int x3), some (.int x4), some (.int x5)], [.int x3, .ref 215], (zS0, R, I, J))) rfl ?_
  exact zEv_c (fun _ => rfl) rfl hc rfl rfl k1
theorem b_158_37 {X : zX} {d : Nat} {R : zR} {I : zI} {J : zJ} {r : zA} {x1 : Int32} {x2 : Int32} {x3 : Int32} {x4 : Int32} {x5 : Int32} {R' : zR} {I' : zI} {J' : zJ} (hc : zEv X d zm_159 (0, [some (.ref 215), some (.int x4), none], [], (zS0, R, I, J)) (none, (zS0, R', I', J'))) (k1 : zEv X (d + 1) zm_158 (43, [some (.ref 215), some (.int x1), some (.int x2), some (.int x3), some (.int x4), some (.int x5)], [], (zS0, R', I', J')) r) : zEv X (d + 1) zm_158 (37, [some (.ref 215), some (.int x1), some (.int x2), some (.int x3), some (.int x4), some (.int x5)], [], (zS0, R, I, J)) r := by
  refine zEv_k 2 (f' := (40, [some (.ref 215), some (.int x1), some (.int x2), some (.int x3), some (.int x4), some (.int x5)], [.int x4, .ref 215], (zS0, R, I, J))) rfl ?_
  exact zEv_c (fun _ => rfl) rfl hc rfl rfl k1
theorem b_158_43 {X : zX} {d : Nat} {R : zR} {I : zI} {J : zJ} {r : zA} {x1 : Int32} {x2 : Int32} {x3 : Int32} {x4 : Int32} {x5 : Int32} {R' : zR} {I' : zI} {J' : zJ} (hc : zEv X d zm_159 (0, [some (.ref 215), some (.int x5), none], [], (zS0, R, I, J)) (none, (zS0, R', I', J'))) (k1 : zEv X (d + 1) zm_158 (49, [some (.ref 215), some (.int x1), some (.int x2), some (.int x3), some (.int x4), some (.int x5)], [], (zS0, R', I', J')) r) : zEv X (d + 1) zm_158 (43, [some (.ref 215), some (.int x1), some (.int x2), some (.int x3), some (.int x4), some (.int x5)], [], (zS0, R, I, J)) r := by
  refine zEv_k 2 (f' := (46, [some (.ref 215), some (.int x1), some (.int x2), some (.int x3), some (.int x4), some (.int x5)], [.int x5, .ref 215], (zS0, R, I, J))) rfl ?_
  exact zEv_c (fun _ => rfl) rfl hc rfl rfl k1
theorem b_158_49 {X : zX} {d : Nat} {R : zR} {I : zI} {J : zJ} {x1 : Int32} {x2 : Int32} {x3 : Int32} {x4 : Int32} {x5 : Int32} (hR : zRok R) : zEv X d zm_158 (49, [some (.ref 215), some (.int x1), some (.int x2), some (.int x3), some (.int x4), some (.int x5)], [], (zS0, R, I, J)) (some (.int (I 217 (0 : Int32).toNatClampNeg)), (zS0, R, I, J)) := by
  refine zEv_k 1 (f' := (50, [some (.ref 215), some (.int x1), some (.int x2), some (.int x3), some (.int x4), some (.int x5)], [.ref 215], (zS0, R, I, J))) rfl ?_
  refine zEv_gr rfl rfl rfl (by decide) (hR 215 2 217 rfl) ?_
  refine zEv_k 1 (f' := (54, [some (.ref 215), some (.int x1), some (.int x2), some (.int x3), some (.int x4), some (.int x5)], [.int 0, .ref 217], (zS0, R, I, J))) rfl ?_
  refine zEv_ial rfl rfl (by decide) (by unfold zin; decide) ?_
  exact zEv_r rfl
theorem b_159_0 {X : zX} {d : Nat} {R : zR} {I : zI} {J : zJ} {r : zA} {x1 : Int32} (k1 : zEv X d zm_159 (3, [some (.ref 215), some (.int x1), some (.int 24)], [], (zS0, R, I, J)) r) : zEv X d zm_159 (0, [some (.ref 215), some (.int x1), none], [], (zS0, R, I, J)) r := by
  refine zEv_k 2 (f' := (3, [some (.ref 215), some (.int x1), some (.int 24)], [], (zS0, R, I, J))) rfl ?_
  exact k1
theorem b_159_3 {X : zX} {d : Nat} {R : zR} {I : zI} {J : zJ} {r : zA} {x1 : Int32} {x2 : Int32} (k1 : x2 < 0 → zEv X d zm_159 (38, [some (.ref 215), some (.int x1), some (.int x2)], [], (zS0, R, I, J)) r) (k2 : ¬ (x2 < 0) → zEv X d zm_159 (7, [some (.ref 215), some (.int x1), some (.int x2)], [], (zS0, R, I, J)) r) : zEv X d zm_159 (3, [some (.ref 215), some (.int x1), some (.int x2)], [], (zS0, R, I, J)) r := by
  refine zEv_k 2 (f' := (if x2 < 0 then 38 else 7, [some (.ref 215), some (.int x1), some (.int x2)], [], (zS0, R, I, J))) rfl ?_
  exact zEv_if k1 k2
theorem b_159_7 {X : zX} {d : Nat} {R : zR} {I : zI} {J : zJ} {r : zA} {x1 : Int32} {x2 : Int32} (hR : zRok R) (h21 : zin (I 217 (0 : Int32).toNatClampNeg) 2400) (k1 : zEv X d zm_159 (3, [some (.ref 215), some (.int x1), some (.int (x2 + (-8)))], [], (zS0, R, zu (zu I 216 (I 217 (0 : Int32).toNatClampNeg).toNatClampNeg (Int32.toInt8 ((Int32.toInt8 (x1 >>> (x2 &&& 31))).toInt32)).toInt32) 217 (0 : Int32).toNatClampNeg (((zu I 216 (I 217 (0 : Int32).toNatClampNeg).toNatClampNeg (Int32.toInt8 ((Int32.toInt8 (x1 >>> (x2 &&& 31))).toInt32)).toInt32) 217 (0 : Int32).toNatClampNeg) + 1), J)) r) : zEv X d zm_159 (7, [some (.ref 215), some (.int x1), some (.int x2)], [], (zS0, R, I, J)) r := by
  refine zEv_k 1 (f' := (8, [some (.ref 215), some (.int x1), some (.int x2)], [.ref 215], (zS0, R, I, J))) rfl ?_
  refine zEv_gr rfl rfl rfl (by decide) (hR 215 1 216 rfl) ?_
  refine zEv_k 1 (f' := (12, [some (.ref 215), some (.int x1), some (.int x2)], [.ref 215, .ref 216], (zS0, R, I, J))) rfl ?_
  refine zEv_gr rfl rfl rfl (by decide) (hR 215 2 217 rfl) ?_
  refine zEv_k 1 (f' := (16, [some (.ref 215), some (.int x1), some (.int x2)], [.int 0, .ref 217, .ref 216], (zS0, R, I, J))) rfl ?_
  refine zEv_ial rfl rfl (by decide) (by unfold zin; decide) ?_
  refine zEv_k 4 (f' := (21, [some (.ref 215), some (.int x1), some (.int x2)], [.int ((Int32.toInt8 (x1 >>> (x2 &&& 31))).toInt32), .int (I 217 (0 : Int32).toNatClampNeg), .ref 216], (zS0, R, I, J))) rfl ?_
  refine zEv_bas rfl rfl (by decide) h21 ?_
  refine zEv_k 1 (f' := (23, [some (.ref 215), some (.int x1), some (.int x2)], [.ref 215], (zS0, R, zu I 216 (I 217 (0 : Int32).toNatClampNeg).toNatClampNeg (Int32.toInt8 ((Int32.toInt8 (x1 >>> (x2 &&& 31))).toInt32)).toInt32, J))) rfl ?_
  refine zEv_gr rfl rfl rfl (by decide) (hR 215 2 217 rfl) ?_
  refine zEv_k 2 (f' := (28, [some (.ref 215), some (.int x1), some (.int x2)], [.int 0, .ref 217, .int 0, .ref 217], (zS0, R, zu I 216 (I 217 (0 : Int32).toNatClampNeg).toNatClampNeg (Int32.toInt8 ((Int32.toInt8 (x1 >>> (x2 &&& 31))).toInt32)).toInt32, J))) rfl ?_
  refine zEv_ial rfl rfl (by decide) (by unfold zin; decide) ?_
  refine zEv_k 2 (f' := (31, [some (.ref 215), some (.int x1), some (.int x2)], [.int (((zu I 216 (I 217 (0 : Int32).toNatClampNeg).toNatClampNeg (Int32.toInt8 ((Int32.toInt8 (x1 >>> (x2 &&& 31))).toInt32)).toInt32) 217 (0 : Int32).toNatClampNeg) + 1), .int 0, .ref 217], (zS0, R, zu I 216 (I 217 (0 : Int32).toNatClampNeg).toNatClampNeg (Int32.toInt8 ((Int32.toInt8 (x1 >>> (x2 &&& 31))).toInt32)).toInt32, J))) rfl ?_
  refine zEv_ias rfl rfl (by decide) (by unfold zin; decide) ?_
  refine zEv_k 2 (f' := (3, [some (.ref 215), some (.int x1), some (.int (x2 + (-8)))], [], (zS0, R, zu (zu I 216 (I 217 (0 : Int32).toNatClampNeg).toNatClampNeg (Int32.toInt8 ((Int32.toInt8 (x1 >>> (x2 &&& 31))).toInt32)).toInt32) 217 (0 : Int32).toNatClampNeg (((zu I 216 (I 217 (0 : Int32).toNatClampNeg).toNatClampNeg (Int32.toInt8 ((Int32.toInt8 (x1 >>> (x2 &&& 31))).toInt32)).toInt32) 217 (0 : Int32).toNatClampNeg) + 1), J))) rfl ?_
  exact k1
theorem b_159_38 {X : zX} {d : Nat} {R : zR} {I : zI} {J : zJ} {x1 : Int32} {x2 : Int32} : zEv X d zm_159 (38, [some (.ref 215), some (.int x1), some (.int x2)], [], (zS0, R, I, J)) (none, (zS0, R, I, J)) := by
  exact zEv_r rfl
theorem b_160_0 {X : zX} {d : Nat} {R : zR} {I : zI} {J : zJ} {r : zA} {x1 : Int32} (hR : zRok R) (k1 : ¬ (zf_in x1 0 ((zu I 215 0 0) 217 (0 : Int32).toNatClampNeg)) = 0 → zEv X (d + 1) zm_160 (21, [some (.ref 215), some (.int x1)], [], (zS0, R, zu I 215 0 0, J)) r) (k2 : ¬ (¬ (zf_in x1 0 ((zu I 215 0 0) 217 (0 : Int32).toNatClampNeg)) = 0) → zEv X (d + 1) zm_160 (19, [some (.ref 215), some (.int x1)], [], (zS0, R, zu I 215 0 0, J)) r) : zEv X (d + 1) zm_160 (0, [some (.ref 215), some (.int x1)], [], (zS0, R, I, J)) r := by
  refine zEv_k 6 (f' := (8, [some (.ref 215), some (.int x1)], [.ref 215, .int 0, .int x1], (zS0, R, zu I 215 0 0, J))) rfl ?_
  refine zEv_gr rfl rfl rfl (by decide) (hR 215 2 217 rfl) ?_
  refine zEv_k 1 (f' := (12, [some (.ref 215), some (.int x1)], [.int 0, .ref 217, .int 0, .int x1], (zS0, R, zu I 215 0 0, J))) rfl ?_
  refine zEv_ial rfl rfl (by decide) (by unfold zin; decide) ?_
  refine zEv_c (fun _ => rfl) rfl ev_zf_in rfl rfl ?_
  refine zEv_k 1 (f' := (if ¬ (zf_in x1 0 ((zu I 215 0 0) 217 (0 : Int32).toNatClampNeg)) = 0 then 21 else 19, [some (.ref 215), some (.int x1)], [], (zS0, R, zu I 215 0 0, J))) rfl ?_
  exact zEv_if k1 k2
theorem b_160_19 {X : zX} {d : Nat} {R : zR} {I : zI} {J : zJ} {x1 : Int32} : zEv X d zm_160 (19, [some (.ref 215), some (.int x1)], [], (zS0, R, I, J)) (some (.int (-1)), (zS0, R, I, J)) := by
  refine zEv_k 1 (f' := (20, [some (.ref 215), some (.int x1)], [.int (-1)], (zS0, R, I, J))) rfl ?_
  exact zEv_r rfl
theorem b_160_21 {X : zX} {d : Nat} {R : zR} {I : zI} {J : zJ} {x1 : Int32} (hR : zRok R) : zEv X d zm_160 (21, [some (.ref 215), some (.int x1)], [], (zS0, R, I, J)) (some (.int x1), (zS0, R, zu I 217 (0 : Int32).toNatClampNeg x1, J)) := by
  refine zEv_k 1 (f' := (22, [some (.ref 215), some (.int x1)], [.ref 215], (zS0, R, I, J))) rfl ?_
  refine zEv_gr rfl rfl rfl (by decide) (hR 215 2 217 rfl) ?_
  refine zEv_k 2 (f' := (27, [some (.ref 215), some (.int x1)], [.int x1, .int 0, .ref 217], (zS0, R, I, J))) rfl ?_
  refine zEv_ias rfl rfl (by decide) (by unfold zin; decide) ?_
  refine zEv_k 1 (f' := (29, [some (.ref 215), some (.int x1)], [.int x1], (zS0, R, zu I 217 (0 : Int32).toNatClampNeg x1, J))) rfl ?_
  exact zEv_r rfl
theorem b_161_0 {X : zX} {d : Nat} {R : zR} {I : zI} {J : zJ} {r : zA} (k1 : (I 215 10) ≤ (I 215 9) → zEv X d zm_161 (27, [some (.ref 215)], [], (zS0, R, I, J)) r) (k2 : ¬ ((I 215 10) ≤ (I 215 9)) → zEv X d zm_161 (11, [some (.ref 215)], [], (zS0, R, I, J)) r) : zEv X d zm_161 (0, [some (.ref 215)], [], (zS0, R, I, J)) r := by
  refine zEv_k 5 (f' := (if (I 215 10) ≤ (I 215 9) then 27 else 11, [some (.ref 215)], [], (zS0, R, I, J))) rfl ?_
  exact zEv_if k1 k2
theorem b_161_11 {X : zX} {d : Nat} {R : zR} {I : zI} {J : zJ} (hR : zRok R) (h19 : zin (I 215 9) 2400) : zEv X d zm_161 (11, [some (.ref 215)], [], (zS0, R, I, J)) (some (.int ((I 216 (I 215 9).toNatClampNeg) &&& 255)), (zS0, R, I, J)) := by
  refine zEv_k 1 (f' := (12, [some (.ref 215)], [.ref 215], (zS0, R, I, J))) rfl ?_
  refine zEv_gr rfl rfl rfl (by decide) (hR 215 1 216 rfl) ?_
  refine zEv_k 2 (f' := (19, [some (.ref 215)], [.int (I 215 9), .ref 216], (zS0, R, I, J))) rfl ?_
  refine zEv_bal rfl rfl (by decide) h19 ?_
  refine zEv_k 3 (f' := (28, [some (.ref 215)], [.int ((I 216 (I 215 9).toNatClampNeg) &&& 255)], (zS0, R, I, J))) rfl ?_
  exact zEv_r rfl
theorem b_161_27 {X : zX} {d : Nat} {R : zR} {I : zI} {J : zJ}  : zEv X d zm_161 (27, [some (.ref 215)], [], (zS0, R, I, J)) (some (.int (-1)), (zS0, R, I, J)) := by
  refine zEv_k 1 (f' := (28, [some (.ref 215)], [.int (-1)], (zS0, R, I, J))) rfl ?_
  exact zEv_r rfl
theorem b_162_0 {X : zX} {d : Nat} {R : zR} {I : zI} {J : zJ} {r : zA} {w : Int32} {R' : zR} {I' : zI} {J' : zJ} (hc : zEv X d zm_161 (0, [some (.ref 215)], [], (zS0, R, I, J)) (some (.int w), (zS0, R', I', J'))) (k1 : zEv X (d + 1) zm_162 (4, [some (.ref 215), none, none], [.int w], (zS0, R', I', J')) r) : zEv X (d + 1) zm_162 (0, [some (.ref 215), none, none], [], (zS0, R, I, J)) r := by
  refine zEv_k 1 (f' := (1, [some (.ref 215), none, none], [.ref 215], (zS0, R, I, J))) rfl ?_
  exact zEv_c (fun _ => rfl) rfl hc rfl rfl k1
theorem b_162_4 {X : zX} {d : Nat} {R : zR} {I : zI} {J : zJ} {r : zA} {s0 : Int32} (k1 : s0 = 10 → zEv X d zm_162 (18, [some (.ref 215), none, none], [], (zS0, R, I, J)) r) (k2 : ¬ (s0 = 10) → zEv X d zm_162 (9, [some (.ref 215), none, none], [], (zS0, R, I, J)) r) : zEv X d zm_162 (4, [some (.ref 215), none, none], [.int s0], (zS0, R, I, J)) r := by
  refine zEv_k 2 (f' := (if s0 = 10 then 18 else 9, [some (.ref 215), none, none], [], (zS0, R, I, J))) rfl ?_
  exact zEv_if k1 k2
theorem b_162_9 {X : zX} {d : Nat} {R : zR} {I : zI} {J : zJ} {r : zA} {w : Int32} {R' : zR} {I' : zI} {J' : zJ} (hc : zEv X d zm_161 (0, [some (.ref 215)], [], (zS0, R, I, J)) (some (.int w), (zS0, R', I', J'))) (k1 : zEv X (d + 1) zm_162 (13, [some (.ref 215), none, none], [.int w], (zS0, R', I', J')) r) : zEv X (d + 1) zm_162 (9, [some (.ref 215), none, none], [], (zS0, R, I, J)) r := by
  refine zEv_k 1 (f' := (10, [some (.ref 215), none, none], [.ref 215], (zS0, R, I, J))) rfl ?_
  exact zEv_c (fun _ => rfl) rfl hc rfl rfl k1
theorem b_162_13 {X : zX} {d : Nat} {R : zR} {I : zI} {J : zJ} {r : zA} {s0 : Int32} (k1 : ¬ s0 = 32 → zEv X d zm_162 (31, [some (.ref 215), none, none], [], (zS0, R, I, J)) r) (k2 : ¬ (¬ s0 = 32) → zEv X d zm_162 (18, [some (.ref 215), none, none], [], (zS0, R, I, J)) r) : zEv X d zm_162 (13, [some (.ref 215), none, none], [.int s0], (zS0, R, I, J)) r := by
  refine zEv_k 2 (f' := (if ¬ s0 = 32 then 31 else 18, [some (.ref 215), none, none], [], (zS0, R, I, J))) rfl ?_
  exact zEv_if k1 k2
theorem b_162_18 {X : zX} {d : Nat} {R : zR} {I : zI} {J : zJ} {r : zA} (k1 : zEv X d zm_162 (0, [some (.ref 215), none, none], [], (zS0, R, zu I 215 9 ((I 215 9) + 1), J)) r) : zEv X d zm_162 (18, [some (.ref 215), none, none], [], (zS0, R, I, J)) r := by
  refine zEv_k 7 (f' := (0, [some (.ref 215), none, none], [], (zS0, R, zu I 215 9 ((I 215 9) + 1), J))) rfl ?_
  exact k1
theorem b_162_31 {X : zX} {d : Nat} {R : zR} {I : zI} {J : zJ} {r : zA} {w : Int32} {R' : zR} {I' : zI} {J' : zJ} (hc : zEv X d zm_161 (0, [some (.ref 215)], [], (zS0, R, zu I 215 11 (I 215 9), J)) (some (.int w), (zS0, R', I', J'))) (k1 : zEv X (d + 1) zm_162 (43, [some (.ref 215), none, none], [.int w], (zS0, R', I', J')) r) : zEv X (d + 1) zm_162 (31, [some (.ref 215), none, none], [], (zS0, R, I, J)) r := by
  refine zEv_k 5 (f' := (40, [some (.ref 215), none, none], [.ref 215], (zS0, R, zu I 215 11 (I 215 9), J))) rfl ?_
  exact zEv_c (fun _ => rfl) rfl hc rfl rfl k1
theorem b_162_43 {X : zX} {d : Nat} {R : zR} {I : zI} {J : zJ} {r : zA} {s0 : Int32} (k1 : 0 ≤ s0 → zEv X d zm_162 (63, [some (.ref 215), some (.int s0), some (.int 0)], [], (zS0, R, I, zu J 215 14 0)) r) (k2 : ¬ (0 ≤ s0) → zEv X d zm_162 (55, [some (.ref 215), some (.int s0), some (.int 0)], [], (zS0, R, I, zu J 215 14 0)) r) : zEv X d zm_162 (43, [some (.ref 215), none, none], [.int s0], (zS0, R, I, J)) r := by
  refine zEv_k 8 (f' := (if 0 ≤ s0 then 63 else 55, [some (.ref 215), some (.int s0), some (.int 0)], [], (zS0, R, I, zu J 215 14 0))) rfl ?_
  exact zEv_if k1 k2
theorem b_162_55 {X : zX} {d : Nat} {R : zR} {I : zI} {J : zJ} {x1 : Int32} {x2 : Int32} : zEv X d zm_162 (55, [some (.ref 215), some (.int x1), some (.int x2)], [], (zS0, R, I, J)) (none, (zS0, R, zu I 215 12 0, J)) := by
  refine zEv_k 4 (f' := (266, [some (.ref 215), some (.int x1), some (.int x2)], [], (zS0, R, zu I 215 12 0, J))) rfl ?_
  exact zEv_r rfl
theorem b_162_63 {X : zX} {d : Nat} {R : zR} {I : zI} {J : zJ} {r : zA} {x1 : Int32} {x2 : Int32} (k1 : (zf_in x1 97 122) = 0 → zEv X (d + 1) zm_162 (147, [some (.ref 215), some (.int x1), some (.int x2)], [], (zS0, R, I, J)) r) (k2 : ¬ ((zf_in x1 97 122) = 0) → zEv X (d + 1) zm_162 (74, [some (.ref 215), some (.int x1), some (.int x2)], [], (zS0, R, I, J)) r) : zEv X (d + 1) zm_162 (63, [some (.ref 215), some (.int x1), some (.int x2)], [], (zS0, R, I, J)) r := by
  refine zEv_k 3 (f' := (68, [some (.ref 215), some (.int x1), some (.int x2)], [.int 122, .int 97, .int x1], (zS0, R, I, J))) rfl ?_
  refine zEv_c (fun _ => rfl) rfl ev_zf_in rfl rfl ?_
  refine zEv_k 1 (f' := (if (zf_in x1 97 122) = 0 then 147 else 74, [some (.ref 215), some (.int x1), some (.int x2)], [], (zS0, R, I, J))) rfl ?_
  exact zEv_if k1 k2
theorem b_162_74 {X : zX} {d : Nat} {R : zR} {I : zI} {J : zJ} {r : zA} {x1 : Int32} {x2 : Int32} {w : Int32} {R' : zR} {I' : zI} {J' : zJ} (hc : zEv X d zm_161 (0, [some (.ref 215)], [], (zS0, R, I, J)) (some (.int w), (zS0, R', I', J'))) (k1 : zEv X (d + 1) zm_162 (78, [some (.ref 215), some (.int x1), some (.int x2)], [.int w], (zS0, R', I', J')) r) : zEv X (d + 1) zm_162 (74, [some (.ref 215), some (.int x1), some (.int x2)], [], (zS0, R, I, J)) r := by
  refine zEv_k 1 (f' := (75, [some (.ref 215), some (.int x1), some (.int x2)], [.ref 215], (zS0, R, I, J))) rfl ?_
  exact zEv_c (fun _ => rfl) rfl hc rfl rfl k1
theorem b_162_78 {X : zX} {d : Nat} {R : zR} {I : zI} {J : zJ} {r : zA} {x1 : Int32} {x2 : Int32} {s0 : Int32} (k1 : (zf_in s0 97 122) = 0 → zEv X (d + 1) zm_162 (121, [some (.ref 215), some (.int x1), some (.int x2)], [], (zS0, R, I, J)) r) (k2 : ¬ ((zf_in s0 97 122) = 0) → zEv X (d + 1) zm_162 (88, [some (.ref 215), some (.int x1), some (.int x2)], [], (zS0, R, I, J)) r) : zEv X (d + 1) zm_162 (78, [some (.ref 215), some (.int x1), some (.int x2)], [.int s0], (zS0, R, I, J)) r := by
  refine zEv_k 2 (f' := (82, [some (.ref 215), some (.int x1), some (.int x2)], [.int 122, .int 97, .int s0], (zS0, R, I, J))) rfl ?_
  refine zEv_c (fun _ => rfl) rfl ev_zf_in rfl rfl ?_
  refine zEv_k 1 (f' := (if (zf_in s0 97 122) = 0 then 121 else 88, [some (.ref 215), some (.int x1), some (.int x2)], [], (zS0, R, I, J))) rfl ?_
  exact zEv_if k1 k2
theorem b_162_88 {X : zX} {d : Nat} {R : zR} {I : zI} {J : zJ} {r : zA} {x1 : Int32} {x2 : Int32} {w : Int32} {R' : zR} {I' : zI} {J' : zJ} (hc : zEv X d zm_161 (0, [some (.ref 215)], [], (zS0, R, I, J)) (some (.int w), (zS0, R', I', J'))) (k1 : zEv X (d + 1) zm_162 (100, [some (.ref 215), some (.int x1), some (.int x2)], [.int w, .long ((J 215 14) <<< (Int32.toInt64 8 &&& 63)), .ref 215], (zS0, R', I', J')) r) : zEv X (d + 1) zm_162 (88, [some (.ref 215), some (.int x1), some (.int x2)], [], (zS0, R, I, J)) r := by
  refine zEv_k 6 (f' := (97, [some (.ref 215), some (.int x1), some (.int x2)], [.ref 215, .long ((J 215 14) <<< (Int32.toInt64 8 &&& 63)), .ref 215], (zS0, R, I, J))) rfl ?_
  exact zEv_c (fun _ => rfl) rfl hc rfl rfl k1
theorem b_162_100 {X : zX} {d : Nat} {R : zR} {I : zI} {J : zJ} {r : zA} {x1 : Int32} {x2 : Int32} {s1 : Int64} {s2 : Int32} (k1 : zEv X d zm_162 (74, [some (.ref 215), some (.int x1), some (.int (x2 + 1))], [], (zS0, R, zu I 215 9 ((I 215 9) + 1), zu J 215 14 (s1 ||| (Int32.toInt64 s2)))) r) : zEv X d zm_162 (100, [some (.ref 215), some (.int x1), some (.int x2)], [.int s2, .long s1, .ref 215], (zS0, R, I, J)) r := by
  refine zEv_k 9 (f' := (115, [some (.ref 215), some (.int x1), some (.int x2)], [], (zS0, R, zu I 215 9 ((I 215 9) + 1), zu J 215 14 (s1 ||| (Int32.toInt64 s2))))) rfl ?_
  refine zEv_k 2 (f' := (74, [some (.ref 215), some (.int x1), some (.int (x2 + 1))], [], (zS0, R, zu I 215 9 ((I 215 9) + 1), zu J 215 14 (s1 ||| (Int32.toInt64 s2))))) rfl ?_
  exact k1
theorem b_162_121 {X : zX} {d : Nat} {R : zR} {I : zI} {J : zJ} {r : zA} {x1 : Int32} {x2 : Int32} (k1 : x2 ≤ 8 → zEv X d zm_162 (132, [some (.ref 215), some (.int x1), some (.int x2)], [.ref 215], (zS0, R, I, J)) r) (k2 : ¬ (x2 ≤ 8) → zEv X d zm_162 (128, [some (.ref 215), some (.int x1), some (.int x2)], [.ref 215], (zS0, R, I, J)) r) : zEv X d zm_162 (121, [some (.ref 215), some (.int x1), some (.int x2)], [], (zS0, R, I, J)) r := by
  refine zEv_k 4 (f' := (if x2 ≤ 8 then 132 else 128, [some (.ref 215), some (.int x1), some (.int x2)], [.ref 215], (zS0, R, I, J))) rfl ?_
  exact zEv_if k1 k2
theorem b_162_128 {X : zX} {d : Nat} {R : zR} {I : zI} {J : zJ} {r : zA} {x1 : Int32} {x2 : Int32} (k1 : zEv X d zm_162 (136, [some (.ref 215), some (.int x1), some (.int x2)], [.long 0, .ref 215], (zS0, R, I, J)) r) : zEv X d zm_162 (128, [some (.ref 215), some (.int x1), some (.int x2)], [.ref 215], (zS0, R, I, J)) r := by
  refine zEv_k 2 (f' := (136, [some (.ref 215), some (.int x1), some (.int x2)], [.long 0, .ref 215], (zS0, R, I, J))) rfl ?_
  exact k1
theorem b_162_132 {X : zX} {d : Nat} {R : zR} {I : zI} {J : zJ} {r : zA} {x1 : Int32} {x2 : Int32} (k1 : zEv X d zm_162 (136, [some (.ref 215), some (.int x1), some (.int x2)], [.long (J 215 14), .ref 215], (zS0, R, I, J)) r) : zEv X d zm_162 (132, [some (.ref 215), some (.int x1), some (.int x2)], [.ref 215], (zS0, R, I, J)) r := by
  refine zEv_k 2 (f' := (136, [some (.ref 215), some (.int x1), some (.int x2)], [.long (J 215 14), .ref 215], (zS0, R, I, J))) rfl ?_
  exact k1
theorem b_162_136 {X : zX} {d : Nat} {R : zR} {I : zI} {J : zJ} {x1 : Int32} {x2 : Int32} {s1 : Int64} : zEv X d zm_162 (136, [some (.ref 215), some (.int x1), some (.int x2)], [.long s1, .ref 215], (zS0, R, I, J)) (none, (zS0, R, zu I 215 12 2, zu J 215 14 s1)) := by
  refine zEv_k 5 (f' := (266, [some (.ref 215), some (.int x1), some (.int x2)], [], (zS0, R, zu I 215 12 2, zu J 215 14 s1))) rfl ?_
  exact zEv_r rfl
theorem b_162_147 {X : zX} {d : Nat} {R : zR} {I : zI} {J : zJ} {r : zA} {x1 : Int32} {x2 : Int32} (k1 : (zf_in x1 48 57) = 0 → zEv X (d + 1) zm_162 (241, [some (.ref 215), some (.int x1), some (.int x2)], [], (zS0, R, I, J)) r) (k2 : ¬ ((zf_in x1 48 57) = 0) → zEv X (d + 1) zm_162 (158, [some (.ref 215), some (.int x1), some (.int x2)], [], (zS0, R, I, J)) r) : zEv X (d + 1) zm_162 (147, [some (.ref 215), some (.int x1), some (.int x2)], [], (zS0, R, I, J)) r := by
  refine zEv_k 3 (f' := (152, [some (.ref 215), some (.int x1), some (.int x2)], [.int 57, .int 48, .int x1], (zS0, R, I, J))) rfl ?_
  refine zEv_c (fun _ => rfl) rfl ev_zf_in rfl rfl ?_
  refine zEv_k 1 (f' := (if (zf_in x1 48 57) = 0 then 241 else 158, [some (.ref 215), some (.int x1), some (.int x2)], [], (zS0, R, I, J))) rfl ?_
  exact zEv_if k1 k2
theorem b_162_158 {X : zX} {d : Nat} {R : zR} {I : zI} {J : zJ} {r : zA} {x1 : Int32} {x2 : Int32} (k1 : zEv X d zm_162 (163, [some (.ref 215), some (.int x1), some (.int x2)], [], (zS0, R, zu I 215 13 0, J)) r) : zEv X d zm_162 (158, [some (.ref 215), some (.int x1), some (.int x2)], [], (zS0, R, I, J)) r := by
  refine zEv_k 3 (f' := (163, [some (.ref 215), some (.int x1), some (.int x2)], [], (zS0, R, zu I 215 13 0, J))) rfl ?_
  exact k1
theorem b_162_163 {X : zX} {d : Nat} {R : zR} {I : zI} {J : zJ} {r : zA} {x1 : Int32} {x2 : Int32} {w : Int32} {R' : zR} {I' : zI} {J' : zJ} (hc : zEv X d zm_161 (0, [some (.ref 215)], [], (zS0, R, I, J)) (some (.int w), (zS0, R', I', J'))) (k1 : zEv X (d + 1) zm_162 (167, [some (.ref 215), some (.int x1), some (.int x2)], [.int w], (zS0, R', I', J')) r) : zEv X (d + 1) zm_162 (163, [some (.ref 215), some (.int x1), some (.int x2)], [], (zS0, R, I, J)) r := by
  refine zEv_k 1 (f' := (164, [some (.ref 215), some (.int x1), some (.int x2)], [.ref 215], (zS0, R, I, J))) rfl ?_
  exact zEv_c (fun _ => rfl) rfl hc rfl rfl k1
theorem b_162_167 {X : zX} {d : Nat} {R : zR} {I : zI} {J : zJ} {r : zA} {x1 : Int32} {x2 : Int32} {s0 : Int32} (k1 : (zf_in s0 48 57) = 0 → zEv X (d + 1) zm_162 (224, [some (.ref 215), some (.int x1), some (.int x2)], [], (zS0, R, I, J)) r) (k2 : ¬ ((zf_in s0 48 57) = 0) → zEv X (d + 1) zm_162 (177, [some (.ref 215), some (.int x1), some (.int x2)], [], (zS0, R, I, J)) r) : zEv X (d + 1) zm_162 (167, [some (.ref 215), some (.int x1), some (.int x2)], [.int s0], (zS0, R, I, J)) r := by
  refine zEv_k 2 (f' := (171, [some (.ref 215), some (.int x1), some (.int x2)], [.int 57, .int 48, .int s0], (zS0, R, I, J))) rfl ?_
  refine zEv_c (fun _ => rfl) rfl ev_zf_in rfl rfl ?_
  refine zEv_k 1 (f' := (if (zf_in s0 48 57) = 0 then 224 else 177, [some (.ref 215), some (.int x1), some (.int x2)], [], (zS0, R, I, J))) rfl ?_
  exact zEv_if k1 k2
theorem b_162_177 {X : zX} {d : Nat} {R : zR} {I : zI} {J : zJ} {r : zA} {x1 : Int32} {x2 : Int32} (k1 : 2 ≤ x2 → zEv X d zm_162 (201, [some (.ref 215), some (.int x1), some (.int x2)], [.ref 215], (zS0, R, I, J)) r) (k2 : ¬ (2 ≤ x2) → zEv X d zm_162 (183, [some (.ref 215), some (.int x1), some (.int x2)], [.ref 215], (zS0, R, I, J)) r) : zEv X d zm_162 (177, [some (.ref 215), some (.int x1), some (.int x2)], [], (zS0, R, I, J)) r := by
  refine zEv_k 4 (f' := (if 2 ≤ x2 then 201 else 183, [some (.ref 215), some (.int x1), some (.int x2)], [.ref 215], (zS0, R, I, J))) rfl ?_
  exact zEv_if k1 k2
theorem b_162_183 {X : zX} {d : Nat} {R : zR} {I : zI} {J : zJ} {r : zA} {x1 : Int32} {x2 : Int32} {w : Int32} {R' : zR} {I' : zI} {J' : zJ} (hc : zEv X d zm_161 (0, [some (.ref 215)], [], (zS0, R, I, J)) (some (.int w), (zS0, R', I', J'))) (k1 : zEv X (d + 1) zm_162 (194, [some (.ref 215), some (.int x1), some (.int x2)], [.int w, .int (10 * (I 215 13)), .ref 215], (zS0, R', I', J')) r) : zEv X (d + 1) zm_162 (183, [some (.ref 215), some (.int x1), some (.int x2)], [.ref 215], (zS0, R, I, J)) r := by
  refine zEv_k 5 (f' := (191, [some (.ref 215), some (.int x1), some (.int x2)], [.ref 215, .int (10 * (I 215 13)), .ref 215], (zS0, R, I, J))) rfl ?_
  exact zEv_c (fun _ => rfl) rfl hc rfl rfl k1
theorem b_162_194 {X : zX} {d : Nat} {R : zR} {I : zI} {J : zJ} {r : zA} {x1 : Int32} {x2 : Int32} {s1 : Int32} {s2 : Int32} (k1 : zEv X d zm_162 (205, [some (.ref 215), some (.int x1), some (.int x2)], [.int ((s1 + s2) - 48), .ref 215], (zS0, R, I, J)) r) : zEv X d zm_162 (194, [some (.ref 215), some (.int x1), some (.int x2)], [.int s2, .int s1, .ref 215], (zS0, R, I, J)) r := by
  refine zEv_k 4 (f' := (205, [some (.ref 215), some (.int x1), some (.int x2)], [.int ((s1 + s2) - 48), .ref 215], (zS0, R, I, J))) rfl ?_
  exact k1
theorem b_162_201 {X : zX} {d : Nat} {R : zR} {I : zI} {J : zJ} {r : zA} {x1 : Int32} {x2 : Int32} (k1 : zEv X d zm_162 (205, [some (.ref 215), some (.int x1), some (.int x2)], [.int (I 215 13), .ref 215], (zS0, R, I, J)) r) : zEv X d zm_162 (201, [some (.ref 215), some (.int x1), some (.int x2)], [.ref 215], (zS0, R, I, J)) r := by
  refine zEv_k 2 (f' := (205, [some (.ref 215), some (.int x1), some (.int x2)], [.int (I 215 13), .ref 215], (zS0, R, I, J))) rfl ?_
  exact k1
theorem b_162_205 {X : zX} {d : Nat} {R : zR} {I : zI} {J : zJ} {r : zA} {x1 : Int32} {x2 : Int32} {s1 : Int32} (k1 : zEv X d zm_162 (163, [some (.ref 215), some (.int x1), some (.int (x2 + 1))], [], (zS0, R, zu (zu I 215 13 s1) 215 9 (((zu I 215 13 s1) 215 9) + 1), J)) r) : zEv X d zm_162 (205, [some (.ref 215), some (.int x1), some (.int x2)], [.int s1, .ref 215], (zS0, R, I, J)) r := by
  refine zEv_k 9 (f' := (163, [some (.ref 215), some (.int x1), some (.int (x2 + 1))], [], (zS0, R, zu (zu I 215 13 s1) 215 9 (((zu I 215 13 s1) 215 9) + 1), J))) rfl ?_
  exact k1
theorem b_162_224 {X : zX} {d : Nat} {R : zR} {I : zI} {J : zJ} {r : zA} {x1 : Int32} {x2 : Int32} (k1 : x2 ≤ 2 → zEv X d zm_162 (234, [some (.ref 215), some (.int x1), some (.int x2)], [.ref 215], (zS0, R, I, J)) r) (k2 : ¬ (x2 ≤ 2) → zEv X d zm_162 (230, [some (.ref 215), some (.int x1), some (.int x2)], [.ref 215], (zS0, R, I, J)) r) : zEv X d zm_162 (224, [some (.ref 215), some (.int x1), some (.int x2)], [], (zS0, R, I, J)) r := by
  refine zEv_k 4 (f' := (if x2 ≤ 2 then 234 else 230, [some (.ref 215), some (.int x1), some (.int x2)], [.ref 215], (zS0, R, I, J))) rfl ?_
  exact zEv_if k1 k2
theorem b_162_230 {X : zX} {d : Nat} {R : zR} {I : zI} {J : zJ} {x1 : Int32} {x2 : Int32} : zEv X d zm_162 (230, [some (.ref 215), some (.int x1), some (.int x2)], [.ref 215], (zS0, R, I, J)) (none, (zS0, R, zu I 215 12 1, J)) := by
  refine zEv_k 4 (f' := (266, [some (.ref 215), some (.int x1), some (.int x2)], [], (zS0, R, zu I 215 12 1, J))) rfl ?_
  exact zEv_r rfl
theorem b_162_234 {X : zX} {d : Nat} {R : zR} {I : zI} {J : zJ} {x1 : Int32} {x2 : Int32} : zEv X d zm_162 (234, [some (.ref 215), some (.int x1), some (.int x2)], [.ref 215], (zS0, R, I, J)) (none, (zS0, R, zu I 215 12 3, J)) := by
  refine zEv_k 3 (f' := (266, [some (.ref 215), some (.int x1), some (.int x2)], [], (zS0, R, zu I 215 12 3, J))) rfl ?_
  exact zEv_r rfl
theorem b_162_241 {X : zX} {d : Nat} {R : zR} {I : zI} {J : zJ} {r : zA} {x1 : Int32} {x2 : Int32} (k1 : ¬ x1 = 59 → zEv X d zm_162 (262, [some (.ref 215), some (.int x1), some (.int x2)], [.ref 215], (zS0, R, zu I 215 9 ((I 215 9) + 1), J)) r) (k2 : ¬ (¬ x1 = 59) → zEv X d zm_162 (258, [some (.ref 215), some (.int x1), some (.int x2)], [.ref 215], (zS0, R, zu I 215 9 ((I 215 9) + 1), J)) r) : zEv X d zm_162 (241, [some (.ref 215), some (.int x1), some (.int x2)], [], (zS0, R, I, J)) r := by
  refine zEv_k 9 (f' := (255, [some (.ref 215), some (.int x1), some (.int x2)], [.int 59, .int x1, .ref 215], (zS0, R, zu I 215 9 ((I 215 9) + 1), J))) rfl ?_
  refine zEv_k 1 (f' := (if ¬ x1 = 59 then 262 else 258, [some (.ref 215), some (.int x1), some (.int x2)], [.ref 215], (zS0, R, zu I 215 9 ((I 215 9) + 1), J))) rfl ?_
  exact zEv_if k1 k2
theorem b_162_258 {X : zX} {d : Nat} {R : zR} {I : zI} {J : zJ} {x1 : Int32} {x2 : Int32} : zEv X d zm_162 (258, [some (.ref 215), some (.int x1), some (.int x2)], [.ref 215], (zS0, R, I, J)) (none, (zS0, R, zu I 215 12 4, J)) := by
  refine zEv_k 3 (f' := (266, [some (.ref 215), some (.int x1), some (.int x2)], [], (zS0, R, zu I 215 12 4, J))) rfl ?_
  exact zEv_r rfl
theorem b_162_262 {X : zX} {d : Nat} {R : zR} {I : zI} {J : zJ} {x1 : Int32} {x2 : Int32} : zEv X d zm_162 (262, [some (.ref 215), some (.int x1), some (.int x2)], [.ref 215], (zS0, R, I, J)) (none, (zS0, R, zu I 215 12 1, J)) := by
  refine zEv_k 2 (f' := (266, [some (.ref 215), some (.int x1), some (.int x2)], [], (zS0, R, zu I 215 12 1, J))) rfl ?_
  exact zEv_r rfl
theorem b_163_0 {X : zX} {d : Nat} {R : zR} {I : zI} {J : zJ}  : zEv X d zm_163 (0, [some (.ref 215)], [], (zS0, R, I, J)) (some (.int 0), (zS0, R, zu I 215 15 (I 215 11), J)) := by
  refine zEv_k 5 (f' := (9, [some (.ref 215)], [.int 0], (zS0, R, zu I 215 15 (I 215 11), J))) rfl ?_
  exact zEv_r rfl
theorem b_164_0 {X : zX} {d : Nat} {R : zR} {I : zI} {J : zJ} {r : zA} {x1 : Int32} {x2 : Int32} (k1 : (I 215 16) = 0 → zEv X d zm_164 (31, [some (.ref 215), some (.int x1), some (.int x2)], [], (zS0, R, I, J)) r) (k2 : ¬ ((I 215 16) = 0) → zEv X d zm_164 (7, [some (.ref 215), some (.int x1), some (.int x2)], [], (zS0, R, I, J)) r) : zEv X d zm_164 (0, [some (.ref 215), some (.int x1), some (.int x2)], [], (zS0, R, I, J)) r := by
  refine zEv_k 3 (f' := (if (I 215 16) = 0 then 31 else 7, [some (.ref 215), some (.int x1), some (.int x2)], [], (zS0, R, I, J))) rfl ?_
  exact zEv_if k1 k2
theorem b_164_7 {X : zX} {d : Nat} {R : zR} {I : zI} {J : zJ} {r : zA} {x1 : Int32} {x2 : Int32} (k1 : x2 < (I 215 17) → zEv X d zm_164 (31, [some (.ref 215), some (.int x1), some (.int x2)], [], (zS0, R, I, J)) r) (k2 : ¬ (x2 < (I 215 17)) → zEv X d zm_164 (15, [some (.ref 215), some (.int x1), some (.int x2)], [], (zS0, R, I, J)) r) : zEv X d zm_164 (7, [some (.ref 215), some (.int x1), some (.int x2)], [], (zS0, R, I, J)) r := by
  refine zEv_k 4 (f' := (if x2 < (I 215 17) then 31 else 15, [some (.ref 215), some (.int x1), some (.int x2)], [], (zS0, R, I, J))) rfl ?_
  exact zEv_if k1 k2
theorem b_164_15 {X : zX} {d : Nat} {R : zR} {I : zI} {J : zJ} {r : zA} {x1 : Int32} {x2 : Int32} (k1 : ¬ x2 = (I 215 17) → zEv X d zm_164 (41, [some (.ref 215), some (.int x1), some (.int x2)], [], (zS0, R, I, J)) r) (k2 : ¬ (¬ x2 = (I 215 17)) → zEv X d zm_164 (23, [some (.ref 215), some (.int x1), some (.int x2)], [], (zS0, R, I, J)) r) : zEv X d zm_164 (15, [some (.ref 215), some (.int x1), some (.int x2)], [], (zS0, R, I, J)) r := by
  refine zEv_k 4 (f' := (if ¬ x2 = (I 215 17) then 41 else 23, [some (.ref 215), some (.int x1), some (.int x2)], [], (zS0, R, I, J))) rfl ?_
  exact zEv_if k1 k2
theorem b_164_23 {X : zX} {d : Nat} {R : zR} {I : zI} {J : zJ} {r : zA} {x1 : Int32} {x2 : Int32} (k1 : (I 215 16) ≤ x1 → zEv X d zm_164 (41, [some (.ref 215), some (.int x1), some (.int x2)], [], (zS0, R, I, J)) r) (k2 : ¬ ((I 215 16) ≤ x1) → zEv X d zm_164 (31, [some (.ref 215), some (.int x1), some (.int x2)], [], (zS0, R, I, J)) r) : zEv X d zm_164 (23, [some (.ref 215), some (.int x1), some (.int x2)], [], (zS0, R, I, J)) r := by
  refine zEv_k 4 (f' := (if (I 215 16) ≤ x1 then 41 else 31, [some (.ref 215), some (.int x1), some (.int x2)], [], (zS0, R, I, J))) rfl ?_
  exact zEv_if k1 k2
theorem b_164_31 {X : zX} {d : Nat} {R : zR} {I : zI} {J : zJ} {r : zA} {x1 : Int32} {x2 : Int32} (k1 : zEv X d zm_164 (41, [some (.ref 215), some (.int x1), some (.int x2)], [], (zS0, R, zu (zu I 215 16 x1) 215 17 x2, J)) r) : zEv X d zm_164 (31, [some (.ref 215), some (.int x1), some (.int x2)], [], (zS0, R, I, J)) r := by
  refine zEv_k 6 (f' := (41, [some (.ref 215), some (.int x1), some (.int x2)], [], (zS0, R, zu (zu I 215 16 x1) 215 17 x2, J))) rfl ?_
  exact k1
theorem b_164_41 {X : zX} {d : Nat} {R : zR} {I : zI} {J : zJ} {x1 : Int32} {x2 : Int32} : zEv X d zm_164 (41, [some (.ref 215), some (.int x1), some (.int x2)], [], (zS0, R, I, J)) (none, (zS0, R, I, J)) := by
  exact zEv_r rfl
theorem b_165_0 {X : zX} {d : Nat} {R : zR} {I : zI} {J : zJ} {r : zA} {x1 : Int32} {x2 : Int32} {x3 : Int32} {x4 : Int32} (k1 : (I 215 12) = 3 → zEv X d zm_165 (13, [some (.ref 215), some (.int x1), some (.int x2), some (.int x3), some (.int x4)], [], (zS0, R, I, J)) r) (k2 : ¬ ((I 215 12) = 3) → zEv X d zm_165 (8, [some (.ref 215), some (.int x1), some (.int x2), some (.int x3), some (.int x4)], [], (zS0, R, I, J)) r) : zEv X d zm_165 (0, [some (.ref 215), some (.int x1), some (.int x2), some (.int x3), some (.int x4)], [], (zS0, R, I, J)) r := by
  refine zEv_k 4 (f' := (if (I 215 12) = 3 then 13 else 8, [some (.ref 215), some (.int x1), some (.int x2), some (.int x3), some (.int x4)], [], (zS0, R, I, J))) rfl ?_
  exact zEv_if k1 k2
theorem b_165_8 {X : zX} {d : Nat} {R : zR} {I : zI} {J : zJ} {r : zA} {x1 : Int32} {x2 : Int32} {x3 : Int32} {x4 : Int32} {w : Int32} {R' : zR} {I' : zI} {J' : zJ} (hc : zEv X d zm_163 (0, [some (.ref 215)], [], (zS0, R, I, J)) (some (.int w), (zS0, R', I', J'))) (k1 : zEv X (d + 1) zm_165 (12, [some (.ref 215), some (.int x1), some (.int x2), some (.int x3), some (.int x4)], [.int w], (zS0, R', I', J')) r) : zEv X (d + 1) zm_165 (8, [some (.ref 215), some (.int x1), some (.int x2), some (.int x3), some (.int x4)], [], (zS0, R, I, J)) r := by
  refine zEv_k 1 (f' := (9, [some (.ref 215), some (.int x1), some (.int x2), some (.int x3), some (.int x4)], [.ref 215], (zS0, R, I, J))) rfl ?_
  exact zEv_c (fun _ => rfl) rfl hc rfl rfl k1
theorem b_165_12 {X : zX} {d : Nat} {R : zR} {I : zI} {J : zJ} {x1 : Int32} {x2 : Int32} {x3 : Int32} {x4 : Int32} {s0 : Int32} (h12 : zbool s0 = true) : zEv X d zm_165 (12, [some (.ref 215), some (.int x1), some (.int x2), some (.int x3), some (.int x4)], [.int s0], (zS0, R, I, J)) (some (.int s0), (zS0, R, I, J)) := by
  exact zEv_rz rfl rfl h12
theorem b_165_13 {X : zX} {d : Nat} {R : zR} {I : zI} {J : zJ} {r : zA} {x1 : Int32} {x2 : Int32} {x3 : Int32} {x4 : Int32} (hR : zRok R) (h22 : zin x1 6) (k1 : (zf_in ((zu I 225 (x1).toNatClampNeg (I 215 13)) 215 13) x2 x3) = 0 → zEv X (d + 1) zm_165 (44, [some (.ref 215), some (.int x1), some (.int x2), some (.int x3), some (.int x4)], [], (zS0, R, zu I 225 (x1).toNatClampNeg (I 215 13), J)) r) (k2 : ¬ ((zf_in ((zu I 225 (x1).toNatClampNeg (I 215 13)) 215 13) x2 x3) = 0) → zEv X (d + 1) zm_165 (35, [some (.ref 215), some (.int x1), some (.int x2), some (.int x3), some (.int x4)], [], (zS0, R, zu I 225 (x1).toNatClampNeg (I 215 13), J)) r) : zEv X (d + 1) zm_165 (13, [some (.ref 215), some (.int x1), some (.int x2), some (.int x3), some (.int x4)], [], (zS0, R, I, J)) r := by
  refine zEv_k 1 (f' := (14, [some (.ref 215), some (.int x1), some (.int x2), some (.int x3), some (.int x4)], [.ref 215], (zS0, R, I, J))) rfl ?_
  refine zEv_gr rfl rfl rfl (by decide) (hR 215 19 225 rfl) ?_
  refine zEv_k 3 (f' := (22, [some (.ref 215), some (.int x1), some (.int x2), some (.int x3), some (.int x4)], [.int (I 215 13), .int x1, .ref 225], (zS0, R, I, J))) rfl ?_
  refine zEv_ias rfl rfl (by decide) h22 ?_
  refine zEv_k 4 (f' := (29, [some (.ref 215), some (.int x1), some (.int x2), some (.int x3), some (.int x4)], [.int x3, .int x2, .int ((zu I 225 (x1).toNatClampNeg (I 215 13)) 215 13)], (zS0, R, zu I 225 (x1).toNatClampNeg (I 215 13), J))) rfl ?_
  refine zEv_c (fun _ => rfl) rfl ev_zf_in rfl rfl ?_
  refine zEv_k 1 (f' := (if (zf_in ((zu I 225 (x1).toNatClampNeg (I 215 13)) 215 13) x2 x3) = 0 then 44 else 35, [some (.ref 215), some (.int x1), some (.int x2), some (.int x3), some (.int x4)], [], (zS0, R, zu I 225 (x1).toNatClampNeg (I 215 13), J))) rfl ?_
  exact zEv_if k1 k2
theorem b_165_35 {X : zX} {d : Nat} {R : zR} {I : zI} {J : zJ} {r : zA} {x1 : Int32} {x2 : Int32} {x3 : Int32} {x4 : Int32} (k1 : ¬ (I 215 13) = x4 → zEv X d zm_165 (58, [some (.ref 215), some (.int x1), some (.int x2), some (.int x3), some (.int x4)], [], (zS0, R, I, J)) r) (k2 : ¬ (¬ (I 215 13) = x4) → zEv X d zm_165 (44, [some (.ref 215), some (.int x1), some (.int x2), some (.int x3), some (.int x4)], [], (zS0, R, I, J)) r) : zEv X d zm_165 (35, [some (.ref 215), some (.int x1), some (.int x2), some (.int x3), some (.int x4)], [], (zS0, R, I, J)) r := by
  refine zEv_k 4 (f' := (if ¬ (I 215 13) = x4 then 58 else 44, [some (.ref 215), some (.int x1), some (.int x2), some (.int x3), some (.int x4)], [], (zS0, R, I, J))) rfl ?_
  exact zEv_if k1 k2
theorem b_165_44 {X : zX} {d : Nat} {R : zR} {I : zI} {J : zJ} {r : zA} {x1 : Int32} {x2 : Int32} {x3 : Int32} {x4 : Int32} {R' : zR} {I' : zI} {J' : zJ} (hc : zEv X d zm_164 (0, [some (.ref 215), some (.int 2), some (.int (I 215 11))], [], (zS0, R, I, J)) (none, (zS0, R', I', J'))) (k1 : zEv X (d + 1) zm_165 (53, [some (.ref 215), some (.int x1), some (.int x2), some (.int x3), some (.int x4)], [], (zS0, R', I', J')) r) : zEv X (d + 1) zm_165 (44, [some (.ref 215), some (.int x1), some (.int x2), some (.int x3), some (.int x4)], [], (zS0, R, I, J)) r := by
  refine zEv_k 4 (f' := (50, [some (.ref 215), some (.int x1), some (.int x2), some (.int x3), some (.int x4)], [.int (I 215 11), .int 2, .ref 215], (zS0, R, I, J))) rfl ?_
  exact zEv_c (fun _ => rfl) rfl hc rfl rfl k1
theorem b_165_53 {X : zX} {d : Nat} {R : zR} {I : zI} {J : zJ} {r : zA} {x1 : Int32} {x2 : Int32} {x3 : Int32} {x4 : Int32} (k1 : zEv X d zm_165 (58, [some (.ref 215), some (.int x1), some (.int x2), some (.int x3), some (.int x4)], [], (zS0, R, zu I 215 21 0, J)) r) : zEv X d zm_165 (53, [some (.ref 215), some (.int x1), some (.int x2), some (.int x3), some (.int x4)], [], (zS0, R, I, J)) r := by
  refine zEv_k 3 (f' := (58, [some (.ref 215), some (.int x1), some (.int x2), some (.int x3), some (.int x4)], [], (zS0, R, zu I 215 21 0, J))) rfl ?_
  exact k1
theorem b_165_58 {X : zX} {d : Nat} {R : zR} {I : zI} {J : zJ} {r : zA} {x1 : Int32} {x2 : Int32} {x3 : Int32} {x4 : Int32} {R' : zR} {I' : zI} {J' : zJ} (hc : zEv X d zm_162 (0, [some (.ref 215), none, none], [], (zS0, R, I, J)) (none, (zS0, R', I', J'))) (k1 : zEv X (d + 1) zm_165 (62, [some (.ref 215), some (.int x1), some (.int x2), some (.int x3), some (.int x4)], [], (zS0, R', I', J')) r) : zEv X (d + 1) zm_165 (58, [some (.ref 215), some (.int x1), some (.int x2), some (.int x3), some (.int x4)], [], (zS0, R, I, J)) r := by
  refine zEv_k 1 (f' := (59, [some (.ref 215), some (.int x1), some (.int x2), some (.int x3), some (.int x4)], [.ref 215], (zS0, R, I, J))) rfl ?_
  exact zEv_c (fun _ => rfl) rfl hc rfl rfl k1
theorem b_165_62 {X : zX} {d : Nat} {R : zR} {I : zI} {J : zJ} {x1 : Int32} {x2 : Int32} {x3 : Int32} {x4 : Int32} : zEv X d zm_165 (62, [some (.ref 215), some (.int x1), some (.int x2), some (.int x3), some (.int x4)], [], (zS0, R, I, J)) (some (.int 1), (zS0, R, I, J)) := by
  refine zEv_k 1 (f' := (63, [some (.ref 215), some (.int x1), some (.int x2), some (.int x3), some (.int x4)], [.int 1], (zS0, R, I, J))) rfl ?_
  exact zEv_r rfl
theorem b_166_0 {X : zX} {d : Nat} {R : zR} {I : zI} {J : zJ} {r : zA} {x1 : Int32} {x2 : Int32} {x3 : Int32} {w : Int32} {R' : zR} {I' : zI} {J' : zJ} (hc : zEv X d zm_165 (0, [some (.ref 215), some (.int x1), some (.int x2), some (.int x3), some (.int (-1))], [], (zS0, R, I, J)) (some (.int w), (zS0, R', I', J'))) (k1 : zEv X (d + 1) zm_166 (8, [some (.ref 215), some (.int x1), some (.int x2), some (.int x3)], [.int w], (zS0, R', I', J')) r) : zEv X (d + 1) zm_166 (0, [some (.ref 215), some (.int x1), some (.int x2), some (.int x3)], [], (zS0, R, I, J)) r := by
  refine zEv_k 5 (f' := (5, [some (.ref 215), some (.int x1), some (.int x2), some (.int x3)], [.int (-1), .int x3, .int x2, .int x1, .ref 215], (zS0, R, I, J))) rfl ?_
  exact zEv_c (fun _ => rfl) rfl hc rfl rfl k1
theorem b_166_8 {X : zX} {d : Nat} {R : zR} {I : zI} {J : zJ} {x1 : Int32} {x2 : Int32} {x3 : Int32} {s0 : Int32} (h8 : zbool s0 = true) : zEv X d zm_166 (8, [some (.ref 215), some (.int x1), some (.int x2), some (.int x3)], [.int s0], (zS0, R, I, J)) (some (.int s0), (zS0, R, I, J)) := by
  exact zEv_rz rfl rfl h8
theorem b_167_0 {X : zX} {d : Nat} {R : zR} {I : zI} {J : zJ} {r : zA} {x1 : Int32} {x2 : Int32} {x3 : Int32} (hR : zRok R) (h5 : zin x1 121) (k1 : ¬ (I 224 (x1).toNatClampNeg) = x2 → zEv X d zm_167 (16, [some (.ref 215), some (.int x1), some (.int x2), some (.int x3)], [], (zS0, R, I, J)) r) (k2 : ¬ (¬ (I 224 (x1).toNatClampNeg) = x2) → zEv X d zm_167 (10, [some (.ref 215), some (.int x1), some (.int x2), some (.int x3)], [], (zS0, R, I, J)) r) : zEv X d zm_167 (0, [some (.ref 215), some (.int x1), some (.int x2), some (.int x3)], [], (zS0, R, I, J)) r := by
  refine zEv_k 1 (f' := (1, [some (.ref 215), some (.int x1), some (.int x2), some (.int x3)], [.ref 215], (zS0, R, I, J))) rfl ?_
  refine zEv_gr rfl rfl rfl (by decide) (hR 215 18 224 rfl) ?_
  refine zEv_k 1 (f' := (5, [some (.ref 215), some (.int x1), some (.int x2), some (.int x3)], [.int x1, .ref 224], (zS0, R, I, J))) rfl ?_
  refine zEv_ial rfl rfl (by decide) h5 ?_
  refine zEv_k 2 (f' := (if ¬ (I 224 (x1).toNatClampNeg) = x2 then 16 else 10, [some (.ref 215), some (.int x1), some (.int x2), some (.int x3)], [], (zS0, R, I, J))) rfl ?_
  exact zEv_if k1 k2
theorem b_167_10 {X : zX} {d : Nat} {R : zR} {I : zI} {J : zJ} {r : zA} {x1 : Int32} {x2 : Int32} {x3 : Int32} {R' : zR} {I' : zI} {J' : zJ} (hc : zEv X d zm_164 (0, [some (.ref 215), some (.int 3), some (.int x3)], [], (zS0, R, I, J)) (none, (zS0, R', I', J'))) (k1 : zEv X (d + 1) zm_167 (16, [some (.ref 215), some (.int x1), some (.int x2), some (.int x3)], [], (zS0, R', I', J')) r) : zEv X (d + 1) zm_167 (10, [some (.ref 215), some (.int x1), some (.int x2), some (.int x3)], [], (zS0, R, I, J)) r := by
  refine zEv_k 3 (f' := (13, [some (.ref 215), some (.int x1), some (.int x2), some (.int x3)], [.int x3, .int 3, .ref 215], (zS0, R, I, J))) rfl ?_
  exact zEv_c (fun _ => rfl) rfl hc rfl rfl k1
theorem b_167_16 {X : zX} {d : Nat} {R : zR} {I : zI} {J : zJ} {x1 : Int32} {x2 : Int32} {x3 : Int32} : zEv X d zm_167 (16, [some (.ref 215), some (.int x1), some (.int x2), some (.int x3)], [], (zS0, R, I, J)) (none, (zS0, R, I, J)) := by
  exact zEv_r rfl
theorem b_168_0 {X : zX} {d : Nat} {R : zR} {I : zI} {J : zJ} {r : zA} {x1 : Int32} {R' : zR} {I' : zI} {J' : zJ} (hc : zEv X d zm_167 (0, [some (.ref 215), some (.int 2), some (.int 7), some (.int x1)], [], (zS0, R, I, J)) (none, (zS0, R', I', J'))) (k1 : zEv X (d + 1) zm_168 (8, [some (.ref 215), some (.int x1), none, none], [], (zS0, R', I', J')) r) : zEv X (d + 1) zm_168 (0, [some (.ref 215), some (.int x1), none, none], [], (zS0, R, I, J)) r := by
  refine zEv_k 4 (f' := (5, [some (.ref 215), some (.int x1), none, none], [.int x1, .int 7, .int 2, .ref 215], (zS0, R, I, J))) rfl ?_
  exact zEv_c (fun _ => rfl) rfl hc rfl rfl k1
theorem b_168_8 {X : zX} {d : Nat} {R : zR} {I : zI} {J : zJ} {r : zA} {x1 : Int32} {R' : zR} {I' : zI} {J' : zJ} (hc : zEv X d zm_162 (0, [some (.ref 215), none, none], [], (zS0, R, I, J)) (none, (zS0, R', I', J'))) (k1 : zEv X (d + 1) zm_168 (12, [some (.ref 215), some (.int x1), none, none], [], (zS0, R', I', J')) r) : zEv X (d + 1) zm_168 (8, [some (.ref 215), some (.int x1), none, none], [], (zS0, R, I, J)) r := by
  refine zEv_k 1 (f' := (9, [some (.ref 215), some (.int x1), none, none], [.ref 215], (zS0, R, I, J))) rfl ?_
  exact zEv_c (fun _ => rfl) rfl hc rfl rfl k1
theorem b_168_12 {X : zX} {d : Nat} {R : zR} {I : zI} {J : zJ} {r : zA} {x1 : Int32} {w : Int32} {R' : zR} {I' : zI} {J' : zJ} (hc : zEv X d zm_166 (0, [some (.ref 215), some (.int 0), some (.int 0), some (.int 30)], [], (zS0, R, I, J)) (some (.int w), (zS0, R', I', J'))) (k1 : zEv X (d + 1) zm_168 (20, [some (.ref 215), some (.int x1), none, none], [.int w], (zS0, R', I', J')) r) : zEv X (d + 1) zm_168 (12, [some (.ref 215), some (.int x1), none, none], [], (zS0, R, I, J)) r := by
  refine zEv_k 4 (f' := (17, [some (.ref 215), some (.int x1), none, none], [.int 30, .int 0, .int 0, .ref 215], (zS0, R, I, J))) rfl ?_
  exact zEv_c (fun _ => rfl) rfl hc rfl rfl k1
theorem b_168_20 {X : zX} {d : Nat} {R : zR} {I : zI} {J : zJ} {r : zA} {x1 : Int32} {s0 : Int32} (k1 : s0 = 0 → zEv X d zm_168 (76, [some (.ref 215), some (.int x1), none, none], [], (zS0, R, I, J)) r) (k2 : ¬ (s0 = 0) → zEv X d zm_168 (23, [some (.ref 215), some (.int x1), none, none], [], (zS0, R, I, J)) r) : zEv X d zm_168 (20, [some (.ref 215), some (.int x1), none, none], [.int s0], (zS0, R, I, J)) r := by
  refine zEv_k 1 (f' := (if s0 = 0 then 76 else 23, [some (.ref 215), some (.int x1), none, none], [], (zS0, R, I, J))) rfl ?_
  exact zEv_if k1 k2
theorem b_168_23 {X : zX} {d : Nat} {R : zR} {I : zI} {J : zJ} {r : zA} {x1 : Int32} {w : Int32} {R' : zR} {I' : zI} {J' : zJ} (hc : zEv X d zm_166 (0, [some (.ref 215), some (.int 1), some (.int 0), some (.int 5)], [], (zS0, R, I, J)) (some (.int w), (zS0, R', I', J'))) (k1 : zEv X (d + 1) zm_168 (30, [some (.ref 215), some (.int x1), none, none], [.int w], (zS0, R', I', J')) r) : zEv X (d + 1) zm_168 (23, [some (.ref 215), some (.int x1), none, none], [], (zS0, R, I, J)) r := by
  refine zEv_k 4 (f' := (27, [some (.ref 215), some (.int x1), none, none], [.int 5, .int 0, .int 1, .ref 215], (zS0, R, I, J))) rfl ?_
  exact zEv_c (fun _ => rfl) rfl hc rfl rfl k1
theorem b_168_30 {X : zX} {d : Nat} {R : zR} {I : zI} {J : zJ} {r : zA} {x1 : Int32} {s0 : Int32} (k1 : s0 = 0 → zEv X d zm_168 (76, [some (.ref 215), some (.int x1), none, none], [], (zS0, R, I, J)) r) (k2 : ¬ (s0 = 0) → zEv X d zm_168 (33, [some (.ref 215), some (.int x1), none, none], [], (zS0, R, I, J)) r) : zEv X d zm_168 (30, [some (.ref 215), some (.int x1), none, none], [.int s0], (zS0, R, I, J)) r := by
  refine zEv_k 1 (f' := (if s0 = 0 then 76 else 33, [some (.ref 215), some (.int x1), none, none], [], (zS0, R, I, J))) rfl ?_
  exact zEv_if k1 k2
theorem b_168_33 {X : zX} {d : Nat} {R : zR} {I : zI} {J : zJ} {r : zA} {x1 : Int32} {w : Int32} {R' : zR} {I' : zI} {J' : zJ} (hc : zEv X d zm_166 (0, [some (.ref 215), some (.int 2), some (.int 0), some (.int 30)], [], (zS0, R, I, J)) (some (.int w), (zS0, R', I', J'))) (k1 : zEv X (d + 1) zm_168 (41, [some (.ref 215), some (.int x1), none, none], [.int w], (zS0, R', I', J')) r) : zEv X (d + 1) zm_168 (33, [some (.ref 215), some (.int x1), none, none], [], (zS0, R, I, J)) r := by
  refine zEv_k 4 (f' := (38, [some (.ref 215), some (.int x1), none, none], [.int 30, .int 0, .int 2, .ref 215], (zS0, R, I, J))) rfl ?_
  exact zEv_c (fun _ => rfl) rfl hc rfl rfl k1
theorem b_168_41 {X : zX} {d : Nat} {R : zR} {I : zI} {J : zJ} {r : zA} {x1 : Int32} {s0 : Int32} (k1 : s0 = 0 → zEv X d zm_168 (76, [some (.ref 215), some (.int x1), none, none], [], (zS0, R, I, J)) r) (k2 : ¬ (s0 = 0) → zEv X d zm_168 (44, [some (.ref 215), some (.int x1), none, none], [], (zS0, R, I, J)) r) : zEv X d zm_168 (41, [some (.ref 215), some (.int x1), none, none], [.int s0], (zS0, R, I, J)) r := by
  refine zEv_k 1 (f' := (if s0 = 0 then 76 else 44, [some (.ref 215), some (.int x1), none, none], [], (zS0, R, I, J))) rfl ?_
  exact zEv_if k1 k2
theorem b_168_44 {X : zX} {d : Nat} {R : zR} {I : zI} {J : zJ} {r : zA} {x1 : Int32} {w : Int32} {R' : zR} {I' : zI} {J' : zJ} (hc : zEv X d zm_166 (0, [some (.ref 215), some (.int 3), some (.int 0), some (.int 5)], [], (zS0, R, I, J)) (some (.int w), (zS0, R', I', J'))) (k1 : zEv X (d + 1) zm_168 (51, [some (.ref 215), some (.int x1), none, none], [.int w], (zS0, R', I', J')) r) : zEv X (d + 1) zm_168 (44, [some (.ref 215), some (.int x1), none, none], [], (zS0, R, I, J)) r := by
  refine zEv_k 4 (f' := (48, [some (.ref 215), some (.int x1), none, none], [.int 5, .int 0, .int 3, .ref 215], (zS0, R, I, J))) rfl ?_
  exact zEv_c (fun _ => rfl) rfl hc rfl rfl k1
theorem b_168_51 {X : zX} {d : Nat} {R : zR} {I : zI} {J : zJ} {r : zA} {x1 : Int32} {s0 : Int32} (k1 : s0 = 0 → zEv X d zm_168 (76, [some (.ref 215), some (.int x1), none, none], [], (zS0, R, I, J)) r) (k2 : ¬ (s0 = 0) → zEv X d zm_168 (54, [some (.ref 215), some (.int x1), none, none], [], (zS0, R, I, J)) r) : zEv X d zm_168 (51, [some (.ref 215), some (.int x1), none, none], [.int s0], (zS0, R, I, J)) r := by
  refine zEv_k 1 (f' := (if s0 = 0 then 76 else 54, [some (.ref 215), some (.int x1), none, none], [], (zS0, R, I, J))) rfl ?_
  exact zEv_if k1 k2
theorem b_168_54 {X : zX} {d : Nat} {R : zR} {I : zI} {J : zJ} {r : zA} {x1 : Int32} {w : Int32} {R' : zR} {I' : zI} {J' : zJ} (hc : zEv X d zm_166 (0, [some (.ref 215), some (.int 4), some (.int 1), some (.int 40)], [], (zS0, R, I, J)) (some (.int w), (zS0, R', I', J'))) (k1 : zEv X (d + 1) zm_168 (62, [some (.ref 215), some (.int x1), none, none], [.int w], (zS0, R', I', J')) r) : zEv X (d + 1) zm_168 (54, [some (.ref 215), some (.int x1), none, none], [], (zS0, R, I, J)) r := by
  refine zEv_k 4 (f' := (59, [some (.ref 215), some (.int x1), none, none], [.int 40, .int 1, .int 4, .ref 215], (zS0, R, I, J))) rfl ?_
  exact zEv_c (fun _ => rfl) rfl hc rfl rfl k1
theorem b_168_62 {X : zX} {d : Nat} {R : zR} {I : zI} {J : zJ} {r : zA} {x1 : Int32} {s0 : Int32} (k1 : s0 = 0 → zEv X d zm_168 (76, [some (.ref 215), some (.int x1), none, none], [], (zS0, R, I, J)) r) (k2 : ¬ (s0 = 0) → zEv X d zm_168 (65, [some (.ref 215), some (.int x1), none, none], [], (zS0, R, I, J)) r) : zEv X d zm_168 (62, [some (.ref 215), some (.int x1), none, none], [.int s0], (zS0, R, I, J)) r := by
  refine zEv_k 1 (f' := (if s0 = 0 then 76 else 65, [some (.ref 215), some (.int x1), none, none], [], (zS0, R, I, J))) rfl ?_
  exact zEv_if k1 k2
theorem b_168_65 {X : zX} {d : Nat} {R : zR} {I : zI} {J : zJ} {r : zA} {x1 : Int32} {w : Int32} {R' : zR} {I' : zI} {J' : zJ} (hc : zEv X d zm_166 (0, [some (.ref 215), some (.int 5), some (.int 0), some (.int 20)], [], (zS0, R, I, J)) (some (.int w), (zS0, R', I', J'))) (k1 : zEv X (d + 1) zm_168 (73, [some (.ref 215), some (.int x1), none, none], [.int w], (zS0, R', I', J')) r) : zEv X (d + 1) zm_168 (65, [some (.ref 215), some (.int x1), none, none], [], (zS0, R, I, J)) r := by
  refine zEv_k 4 (f' := (70, [some (.ref 215), some (.int x1), none, none], [.int 20, .int 0, .int 5, .ref 215], (zS0, R, I, J))) rfl ?_
  exact zEv_c (fun _ => rfl) rfl hc rfl rfl k1
theorem b_168_73 {X : zX} {d : Nat} {R : zR} {I : zI} {J : zJ} {r : zA} {x1 : Int32} {s0 : Int32} (k1 : ¬ s0 = 0 → zEv X d zm_168 (78, [some (.ref 215), some (.int x1), none, none], [], (zS0, R, I, J)) r) (k2 : ¬ (¬ s0 = 0) → zEv X d zm_168 (76, [some (.ref 215), some (.int x1), none, none], [], (zS0, R, I, J)) r) : zEv X d zm_168 (73, [some (.ref 215), some (.int x1), none, none], [.int s0], (zS0, R, I, J)) r := by
  refine zEv_k 1 (f' := (if ¬ s0 = 0 then 78 else 76, [some (.ref 215), some (.int x1), none, none], [], (zS0, R, I, J))) rfl ?_
  exact zEv_if k1 k2
theorem b_168_76 {X : zX} {d : Nat} {R : zR} {I : zI} {J : zJ} {x1 : Int32} : zEv X d zm_168 (76, [some (.ref 215), some (.int x1), none, none], [], (zS0, R, I, J)) (some (.int 0), (zS0, R, I, J)) := by
  refine zEv_k 1 (f' := (77, [some (.ref 215), some (.int x1), none, none], [.int 0], (zS0, R, I, J))) rfl ?_
  exact zEv_r rfl
theorem b_168_78 {X : zX} {d : Nat} {R : zR} {I : zI} {J : zJ} {r : zA} {x1 : Int32} (hR : zRok R) (k1 : zEv X d zm_168 (87, [some (.ref 215), some (.int x1), some (.int (I 224 (2 : Int32).toNatClampNeg)), some (.int 0)], [], (zS0, R, I, J)) r) : zEv X d zm_168 (78, [some (.ref 215), some (.int x1), none, none], [], (zS0, R, I, J)) r := by
  refine zEv_k 1 (f' := (79, [some (.ref 215), some (.int x1), none, none], [.ref 215], (zS0, R, I, J))) rfl ?_
  refine zEv_gr rfl rfl rfl (by decide) (hR 215 18 224 rfl) ?_
  refine zEv_k 1 (f' := (83, [some (.ref 215), some (.int x1), none, none], [.int 2, .ref 224], (zS0, R, I, J))) rfl ?_
  refine zEv_ial rfl rfl (by decide) (by unfold zin; decide) ?_
  refine zEv_k 3 (f' := (87, [some (.ref 215), some (.int x1), some (.int (I 224 (2 : Int32).toNatClampNeg)), some (.int 0)], [], (zS0, R, I, J))) rfl ?_
  exact k1
theorem b_168_87 {X : zX} {d : Nat} {R : zR} {I : zI} {J : zJ} {r : zA} {x1 : Int32} {x2 : Int32} {x3 : Int32} (k1 : 6 ≤ x3 → zEv X d zm_168 (124, [some (.ref 215), some (.int x1), some (.int x2), some (.int x3)], [], (zS0, R, I, J)) r) (k2 : ¬ (6 ≤ x3) → zEv X d zm_168 (93, [some (.ref 215), some (.int x1), some (.int x2), some (.int x3)], [], (zS0, R, I, J)) r) : zEv X d zm_168 (87, [some (.ref 215), some (.int x1), some (.int x2), some (.int x3)], [], (zS0, R, I, J)) r := by
  refine zEv_k 3 (f' := (if 6 ≤ x3 then 124 else 93, [some (.ref 215), some (.int x1), some (.int x2), some (.int x3)], [], (zS0, R, I, J))) rfl ?_
  exact zEv_if k1 k2
theorem b_168_93 {X : zX} {d : Nat} {R : zR} {I : zI} {J : zJ} {r : zA} {x1 : Int32} {x2 : Int32} {x3 : Int32} (k1 : 7 ≤ x2 → zEv X d zm_168 (124, [some (.ref 215), some (.int x1), some (.int x2), some (.int x3)], [], (zS0, R, I, J)) r) (k2 : ¬ (7 ≤ x2) → zEv X d zm_168 (99, [some (.ref 215), some (.int x1), some (.int x2), some (.int x3)], [], (zS0, R, I, J)) r) : zEv X d zm_168 (93, [some (.ref 215), some (.int x1), some (.int x2), some (.int x3)], [], (zS0, R, I, J)) r := by
  refine zEv_k 3 (f' := (if 7 ≤ x2 then 124 else 99, [some (.ref 215), some (.int x1), some (.int x2), some (.int x3)], [], (zS0, R, I, J))) rfl ?_
  exact zEv_if k1 k2
theorem b_168_99 {X : zX} {d : Nat} {R : zR} {I : zI} {J : zJ} {r : zA} {x1 : Int32} {x2 : Int32} {x3 : Int32} (hR : zRok R) (h116 : zin x3 6) (h117 : zin ((3 + (7 * x3)) + x2) 121) (k1 : zEv X d zm_168 (87, [some (.ref 215), some (.int x1), some (.int x2), some (.int (x3 + 1))], [], (zS0, R, zu I 224 ((3 + (7 * x3)) + x2).toNatClampNeg (I 225 (x3).toNatClampNeg), J)) r) : zEv X d zm_168 (99, [some (.ref 215), some (.int x1), some (.int x2), some (.int x3)], [], (zS0, R, I, J)) r := by
  refine zEv_k 1 (f' := (100, [some (.ref 215), some (.int x1), some (.int x2), some (.int x3)], [.ref 215], (zS0, R, I, J))) rfl ?_
  refine zEv_gr rfl rfl rfl (by decide) (hR 215 18 224 rfl) ?_
  refine zEv_k 8 (f' := (112, [some (.ref 215), some (.int x1), some (.int x2), some (.int x3)], [.ref 215, .int ((3 + (7 * x3)) + x2), .ref 224], (zS0, R, I, J))) rfl ?_
  refine zEv_gr rfl rfl rfl (by decide) (hR 215 19 225 rfl) ?_
  refine zEv_k 1 (f' := (116, [some (.ref 215), some (.int x1), some (.int x2), some (.int x3)], [.int x3, .ref 225, .int ((3 + (7 * x3)) + x2), .ref 224], (zS0, R, I, J))) rfl ?_
  refine zEv_ial rfl rfl (by decide) h116 ?_
  refine zEv_ias rfl rfl (by decide) h117 ?_
  refine zEv_k 2 (f' := (87, [some (.ref 215), some (.int x1), some (.int x2), some (.int (x3 + 1))], [], (zS0, R, zu I 224 ((3 + (7 * x3)) + x2).toNatClampNeg (I 225 (x3).toNatClampNeg), J))) rfl ?_
  exact k1
theorem b_168_124 {X : zX} {d : Nat} {R : zR} {I : zI} {J : zJ} {x1 : Int32} {x2 : Int32} {x3 : Int32} (hR : zRok R) : zEv X (d + 1) zm_168 (124, [some (.ref 215), some (.int x1), some (.int x2), some (.int x3)], [], (zS0, R, I, J)) (some (.int 1), (zS0, R, zu I 224 (2 : Int32).toNatClampNeg (zf_lesser 7 (x2 + 1)), J)) := by
  refine zEv_k 1 (f' := (125, [some (.ref 215), some (.int x1), some (.int x2), some (.int x3)], [.ref 215], (zS0, R, I, J))) rfl ?_
  refine zEv_gr rfl rfl rfl (by decide) (hR 215 18 224 rfl) ?_
  refine zEv_k 5 (f' := (134, [some (.ref 215), some (.int x1), some (.int x2), some (.int x3)], [.int (x2 + 1), .int 7, .int 2, .ref 224], (zS0, R, I, J))) rfl ?_
  refine zEv_c (fun _ => rfl) rfl ev_zf_lesser rfl rfl ?_
  refine zEv_ias rfl rfl (by decide) (by unfold zin; decide) ?_
  refine zEv_k 1 (f' := (139, [some (.ref 215), some (.int x1), some (.int x2), some (.int x3)], [.int 1], (zS0, R, zu I 224 (2 : Int32).toNatClampNeg (zf_lesser 7 (x2 + 1)), J))) rfl ?_
  exact zEv_r rfl
theorem b_169_0 {X : zX} {d : Nat} {R : zR} {I : zI} {J : zJ} {r : zA} {x1 : Int64} {x3 : Int32} (k1 : ¬ (lg_cmp x1 126862485974631) = 0 → zEv X d zm_169 (14, [some (.ref 215), some (.long x1), none, some (.int x3), none], [], (zS0, R, I, J)) r) (k2 : ¬ (¬ (lg_cmp x1 126862485974631) = 0) → zEv X d zm_169 (8, [some (.ref 215), some (.long x1), none, some (.int x3), none], [], (zS0, R, I, J)) r) : zEv X d zm_169 (0, [some (.ref 215), some (.long x1), none, some (.int x3), none], [], (zS0, R, I, J)) r := by
  refine zEv_k 4 (f' := (if ¬ (lg_cmp x1 126862485974631) = 0 then 14 else 8, [some (.ref 215), some (.long x1), none, some (.int x3), none], [], (zS0, R, I, J))) rfl ?_
  exact zEv_if k1 k2
theorem b_169_8 {X : zX} {d : Nat} {R : zR} {I : zI} {J : zJ} {r : zA} {x1 : Int64} {x3 : Int32} {w : Int32} {R' : zR} {I' : zI} {J' : zJ} (hc : zEv X d zm_168 (0, [some (.ref 215), some (.int x3), none, none], [], (zS0, R, I, J)) (some (.int w), (zS0, R', I', J'))) (k1 : zEv X (d + 1) zm_169 (13, [some (.ref 215), some (.long x1), none, some (.int x3), none], [.int w], (zS0, R', I', J')) r) : zEv X (d + 1) zm_169 (8, [some (.ref 215), some (.long x1), none, some (.int x3), none], [], (zS0, R, I, J)) r := by
  refine zEv_k 2 (f' := (10, [some (.ref 215), some (.long x1), none, some (.int x3), none], [.int x3, .ref 215], (zS0, R, I, J))) rfl ?_
  exact zEv_c (fun _ => rfl) rfl hc rfl rfl k1
theorem b_169_13 {X : zX} {d : Nat} {R : zR} {I : zI} {J : zJ} {x1 : Int64} {x3 : Int32} {s0 : Int32} (h13 : zbool s0 = true) : zEv X d zm_169 (13, [some (.ref 215), some (.long x1), none, some (.int x3), none], [.int s0], (zS0, R, I, J)) (some (.int s0), (zS0, R, I, J)) := by
  exact zEv_rz rfl rfl h13
theorem b_169_14 {X : zX} {d : Nat} {R : zR} {I : zI} {J : zJ} {r : zA} {x1 : Int64} {x3 : Int32} (k1 : (lg_cmp x1 495673369451) = 0 → zEv X d zm_169 (43, [some (.ref 215), some (.long x1), none, some (.int x3), none], [], (zS0, R, I, J)) r) (k2 : ¬ ((lg_cmp x1 495673369451) = 0) → zEv X d zm_169 (22, [some (.ref 215), some (.long x1), none, some (.int x3), none], [], (zS0, R, I, J)) r) : zEv X d zm_169 (14, [some (.ref 215), some (.long x1), none, some (.int x3), none], [], (zS0, R, I, J)) r := by
  refine zEv_k 4 (f' := (if (lg_cmp x1 495673369451) = 0 then 43 else 22, [some (.ref 215), some (.long x1), none, some (.int x3), none], [], (zS0, R, I, J))) rfl ?_
  exact zEv_if k1 k2
theorem b_169_22 {X : zX} {d : Nat} {R : zR} {I : zI} {J : zJ} {r : zA} {x1 : Int64} {x3 : Int32} (k1 : (lg_cmp x1 491327153000) = 0 → zEv X d zm_169 (43, [some (.ref 215), some (.long x1), none, some (.int x3), none], [], (zS0, R, I, J)) r) (k2 : ¬ ((lg_cmp x1 491327153000) = 0) → zEv X d zm_169 (30, [some (.ref 215), some (.long x1), none, some (.int x3), none], [], (zS0, R, I, J)) r) : zEv X d zm_169 (22, [some (.ref 215), some (.long x1), none, some (.int x3), none], [], (zS0, R, I, J)) r := by
  refine zEv_k 4 (f' := (if (lg_cmp x1 491327153000) = 0 then 43 else 30, [some (.ref 215), some (.long x1), none, some (.int x3), none], [], (zS0, R, I, J))) rfl ?_
  exact zEv_if k1 k2
theorem b_169_30 {X : zX} {d : Nat} {R : zR} {I : zI} {J : zJ} {r : zA} {x1 : Int64} {x3 : Int32} (k1 : (lg_cmp x1 27424514944365171) = 0 → zEv X d zm_169 (43, [some (.ref 215), some (.long x1), none, some (.int x3), none], [], (zS0, R, I, J)) r) (k2 : ¬ ((lg_cmp x1 27424514944365171) = 0) → zEv X d zm_169 (38, [some (.ref 215), some (.long x1), none, some (.int x3), none], [], (zS0, R, I, J)) r) : zEv X d zm_169 (30, [some (.ref 215), some (.long x1), none, some (.int x3), none], [], (zS0, R, I, J)) r := by
  refine zEv_k 4 (f' := (if (lg_cmp x1 27424514944365171) = 0 then 43 else 38, [some (.ref 215), some (.long x1), none, some (.int x3), none], [], (zS0, R, I, J))) rfl ?_
  exact zEv_if k1 k2
theorem b_169_38 {X : zX} {d : Nat} {R : zR} {I : zI} {J : zJ} {r : zA} {x1 : Int64} {x3 : Int32} {w : Int32} {R' : zR} {I' : zI} {J' : zJ} (hc : zEv X d zm_163 (0, [some (.ref 215)], [], (zS0, R, I, J)) (some (.int w), (zS0, R', I', J'))) (k1 : zEv X (d + 1) zm_169 (42, [some (.ref 215), some (.long x1), none, some (.int x3), none], [.int w], (zS0, R', I', J')) r) : zEv X (d + 1) zm_169 (38, [some (.ref 215), some (.long x1), none, some (.int x3), none], [], (zS0, R, I, J)) r := by
  refine zEv_k 1 (f' := (39, [some (.ref 215), some (.long x1), none, some (.int x3), none], [.ref 215], (zS0, R, I, J))) rfl ?_
  exact zEv_c (fun _ => rfl) rfl hc rfl rfl k1
theorem b_169_42 {X : zX} {d : Nat} {R : zR} {I : zI} {J : zJ} {x1 : Int64} {x3 : Int32} {s0 : Int32} (h42 : zbool s0 = true) : zEv X d zm_169 (42, [some (.ref 215), some (.long x1), none, some (.int x3), none], [.int s0], (zS0, R, I, J)) (some (.int s0), (zS0, R, I, J)) := by
  exact zEv_rz rfl rfl h42
theorem b_169_43 {X : zX} {d : Nat} {R : zR} {I : zI} {J : zJ} {r : zA} {x1 : Int64} {x3 : Int32} {R' : zR} {I' : zI} {J' : zJ} (hc : zEv X d zm_162 (0, [some (.ref 215), none, none], [], (zS0, R, I, J)) (none, (zS0, R', I', J'))) (k1 : zEv X (d + 1) zm_169 (47, [some (.ref 215), some (.long x1), none, some (.int x3), none], [], (zS0, R', I', J')) r) : zEv X (d + 1) zm_169 (43, [some (.ref 215), some (.long x1), none, some (.int x3), none], [], (zS0, R, I, J)) r := by
  refine zEv_k 1 (f' := (44, [some (.ref 215), some (.long x1), none, some (.int x3), none], [.ref 215], (zS0, R, I, J))) rfl ?_
  exact zEv_c (fun _ => rfl) rfl hc rfl rfl k1
theorem b_169_47 {X : zX} {d : Nat} {R : zR} {I : zI} {J : zJ} {r : zA} {x1 : Int64} {x3 : Int32} (k1 : (lg_cmp x1 27424514944365171) = 0 → zEv X d zm_169 (115, [some (.ref 215), some (.long x1), none, some (.int x3), none], [], (zS0, R, I, J)) r) (k2 : ¬ ((lg_cmp x1 27424514944365171) = 0) → zEv X d zm_169 (55, [some (.ref 215), some (.long x1), none, some (.int x3), none], [], (zS0, R, I, J)) r) : zEv X d zm_169 (47, [some (.ref 215), some (.long x1), none, some (.int x3), none], [], (zS0, R, I, J)) r := by
  refine zEv_k 4 (f' := (if (lg_cmp x1 27424514944365171) = 0 then 115 else 55, [some (.ref 215), some (.long x1), none, some (.int x3), none], [], (zS0, R, I, J))) rfl ?_
  exact zEv_if k1 k2
theorem b_169_55 {X : zX} {d : Nat} {R : zR} {I : zI} {J : zJ} {r : zA} {x1 : Int64} {x3 : Int32} (k1 : ¬ (lg_cmp x1 495673369451) = 0 → zEv X d zm_169 (67, [some (.ref 215), some (.long x1), none, some (.int x3), none], [], (zS0, R, I, J)) r) (k2 : ¬ (¬ (lg_cmp x1 495673369451) = 0) → zEv X d zm_169 (63, [some (.ref 215), some (.long x1), none, some (.int x3), none], [], (zS0, R, I, J)) r) : zEv X d zm_169 (55, [some (.ref 215), some (.long x1), none, some (.int x3), none], [], (zS0, R, I, J)) r := by
  refine zEv_k 4 (f' := (if ¬ (lg_cmp x1 495673369451) = 0 then 67 else 63, [some (.ref 215), some (.long x1), none, some (.int x3), none], [], (zS0, R, I, J))) rfl ?_
  exact zEv_if k1 k2
theorem b_169_63 {X : zX} {d : Nat} {R : zR} {I : zI} {J : zJ} {r : zA} {x1 : Int64} {x3 : Int32} (k1 : zEv X d zm_169 (68, [some (.ref 215), some (.long x1), none, some (.int x3), none], [.int 0], (zS0, R, I, J)) r) : zEv X d zm_169 (63, [some (.ref 215), some (.long x1), none, some (.int x3), none], [], (zS0, R, I, J)) r := by
  refine zEv_k 2 (f' := (68, [some (.ref 215), some (.long x1), none, some (.int x3), none], [.int 0], (zS0, R, I, J))) rfl ?_
  exact k1
theorem b_169_67 {X : zX} {d : Nat} {R : zR} {I : zI} {J : zJ} {r : zA} {x1 : Int64} {x3 : Int32} (k1 : zEv X d zm_169 (68, [some (.ref 215), some (.long x1), none, some (.int x3), none], [.int 1], (zS0, R, I, J)) r) : zEv X d zm_169 (67, [some (.ref 215), some (.long x1), none, some (.int x3), none], [], (zS0, R, I, J)) r := by
  refine zEv_k 1 (f' := (68, [some (.ref 215), some (.long x1), none, some (.int x3), none], [.int 1], (zS0, R, I, J))) rfl ?_
  exact k1
theorem b_169_68 {X : zX} {d : Nat} {R : zR} {I : zI} {J : zJ} {r : zA} {x1 : Int64} {x3 : Int32} {s0 : Int32} {w : Int32} {R' : zR} {I' : zI} {J' : zJ} (hc : zEv X d zm_166 (0, [some (.ref 215), some (.int 0), some (.int 0), some (.int 9)], [], (zS0, R, I, J)) (some (.int w), (zS0, R', I', J'))) (k1 : zEv X (d + 1) zm_169 (78, [some (.ref 215), some (.long x1), none, some (.int x3), some (.int s0)], [.int w], (zS0, R', I', J')) r) : zEv X (d + 1) zm_169 (68, [some (.ref 215), some (.long x1), none, some (.int x3), none], [.int s0], (zS0, R, I, J)) r := by
  refine zEv_k 5 (f' := (75, [some (.ref 215), some (.long x1), none, some (.int x3), some (.int s0)], [.int 9, .int 0, .int 0, .ref 215], (zS0, R, I, J))) rfl ?_
  exact zEv_c (fun _ => rfl) rfl hc rfl rfl k1
theorem b_169_78 {X : zX} {d : Nat} {R : zR} {I : zI} {J : zJ} {r : zA} {x1 : Int64} {x3 : Int32} {x4 : Int32} {s0 : Int32} (k1 : ¬ s0 = 0 → zEv X d zm_169 (83, [some (.ref 215), some (.long x1), none, some (.int x3), some (.int x4)], [], (zS0, R, I, J)) r) (k2 : ¬ (¬ s0 = 0) → zEv X d zm_169 (81, [some (.ref 215), some (.long x1), none, some (.int x3), some (.int x4)], [], (zS0, R, I, J)) r) : zEv X d zm_169 (78, [some (.ref 215), some (.long x1), none, some (.int x3), some (.int x4)], [.int s0], (zS0, R, I, J)) r := by
  refine zEv_k 1 (f' := (if ¬ s0 = 0 then 83 else 81, [some (.ref 215), some (.long x1), none, some (.int x3), some (.int x4)], [], (zS0, R, I, J))) rfl ?_
  exact zEv_if k1 k2
theorem b_169_81 {X : zX} {d : Nat} {R : zR} {I : zI} {J : zJ} {x1 : Int64} {x3 : Int32} {x4 : Int32} : zEv X d zm_169 (81, [some (.ref 215), some (.long x1), none, some (.int x3), some (.int x4)], [], (zS0, R, I, J)) (some (.int 0), (zS0, R, I, J)) := by
  refine zEv_k 1 (f' := (82, [some (.ref 215), some (.long x1), none, some (.int x3), some (.int x4)], [.int 0], (zS0, R, I, J))) rfl ?_
  exact zEv_r rfl
theorem b_169_83 {X : zX} {d : Nat} {R : zR} {I : zI} {J : zJ} {r : zA} {x1 : Int64} {x3 : Int32} {x4 : Int32} (hR : zRok R) (k1 : (I 215 21) = 0 → zEv X d zm_169 (105, [some (.ref 215), some (.long x1), none, some (.int x3), some (.int x4)], [.int x4, .ref 224], (zS0, R, I, J)) r) (k2 : ¬ ((I 215 21) = 0) → zEv X d zm_169 (96, [some (.ref 215), some (.long x1), none, some (.int x3), some (.int x4)], [.int x4, .ref 224], (zS0, R, I, J)) r) : zEv X d zm_169 (83, [some (.ref 215), some (.long x1), none, some (.int x3), some (.int x4)], [], (zS0, R, I, J)) r := by
  refine zEv_k 1 (f' := (84, [some (.ref 215), some (.long x1), none, some (.int x3), some (.int x4)], [.ref 215], (zS0, R, I, J))) rfl ?_
  refine zEv_gr rfl rfl rfl (by decide) (hR 215 18 224 rfl) ?_
  refine zEv_k 4 (f' := (if (I 215 21) = 0 then 105 else 96, [some (.ref 215), some (.long x1), none, some (.int x3), some (.int x4)], [.int x4, .ref 224], (zS0, R, I, J))) rfl ?_
  exact zEv_if k1 k2
theorem b_169_96 {X : zX} {d : Nat} {R : zR} {I : zI} {J : zJ} {x1 : Int64} {x3 : Int32} {x4 : Int32} {s1 : Int32} (hR : zRok R) (h112 : zin s1 121) : zEv X d zm_169 (96, [some (.ref 215), some (.long x1), none, some (.int x3), some (.int x4)], [.int s1, .ref 224], (zS0, R, I, J)) (some (.int 1), (zS0, R, zu I 224 (s1).toNatClampNeg (I 225 (0 : Int32).toNatClampNeg), J)) := by
  refine zEv_k 1 (f' := (97, [some (.ref 215), some (.long x1), none, some (.int x3), some (.int x4)], [.ref 215, .int s1, .ref 224], (zS0, R, I, J))) rfl ?_
  refine zEv_gr rfl rfl rfl (by decide) (hR 215 19 225 rfl) ?_
  refine zEv_k 1 (f' := (101, [some (.ref 215), some (.long x1), none, some (.int x3), some (.int x4)], [.int 0, .ref 225, .int s1, .ref 224], (zS0, R, I, J))) rfl ?_
  refine zEv_ial rfl rfl (by decide) (by unfold zin; decide) ?_
  refine zEv_k 1 (f' := (112, [some (.ref 215), some (.long x1), none, some (.int x3), some (.int x4)], [.int (I 225 (0 : Int32).toNatClampNeg), .int s1, .ref 224], (zS0, R, I, J))) rfl ?_
  refine zEv_ias rfl rfl (by decide) h112 ?_
  refine zEv_k 1 (f' := (114, [some (.ref 215), some (.long x1), none, some (.int x3), some (.int x4)], [.int 1], (zS0, R, zu I 224 (s1).toNatClampNeg (I 225 (0 : Int32).toNatClampNeg), J))) rfl ?_
  exact zEv_r rfl
theorem b_169_105 {X : zX} {d : Nat} {R : zR} {I : zI} {J : zJ} {x1 : Int64} {x3 : Int32} {x4 : Int32} {s1 : Int32} (hR : zRok R) (h111 : zin x4 121) (h112 : zin s1 121) : zEv X d zm_169 (105, [some (.ref 215), some (.long x1), none, some (.int x3), some (.int x4)], [.int s1, .ref 224], (zS0, R, I, J)) (some (.int 1), (zS0, R, zu I 224 (s1).toNatClampNeg (I 224 (x4).toNatClampNeg), J)) := by
  refine zEv_k 1 (f' := (106, [some (.ref 215), some (.long x1), none, some (.int x3), some (.int x4)], [.ref 215, .int s1, .ref 224], (zS0, R, I, J))) rfl ?_
  refine zEv_gr rfl rfl rfl (by decide) (hR 215 18 224 rfl) ?_
  refine zEv_k 1 (f' := (111, [some (.ref 215), some (.long x1), none, some (.int x3), some (.int x4)], [.int x4, .ref 224, .int s1, .ref 224], (zS0, R, I, J))) rfl ?_
  refine zEv_ial rfl rfl (by decide) h111 ?_
  refine zEv_ias rfl rfl (by decide) h112 ?_
  refine zEv_k 1 (f' := (114, [some (.ref 215), some (.long x1), none, some (.int x3), some (.int x4)], [.int 1], (zS0, R, zu I 224 (s1).toNatClampNeg (I 224 (x4).toNatClampNeg), J))) rfl ?_
  exact zEv_r rfl
theorem b_169_115 {X : zX} {d : Nat} {R : zR} {I : zI} {J : zJ} {r : zA} {x1 : Int64} {x3 : Int32} {w : Int32} {R' : zR} {I' : zI} {J' : zJ} (hc : zEv X d zm_166 (0, [some (.ref 215), some (.int 0), some (.int 0), some (.int 6)], [], (zS0, R, I, J)) (some (.int w), (zS0, R', I', J'))) (k1 : zEv X (d + 1) zm_169 (123, [some (.ref 215), some (.long x1), none, some (.int x3), none], [.int w], (zS0, R', I', J')) r) : zEv X (d + 1) zm_169 (115, [some (.ref 215), some (.long x1), none, some (.int x3), none], [], (zS0, R, I, J)) r := by
  refine zEv_k 4 (f' := (120, [some (.ref 215), some (.long x1), none, some (.int x3), none], [.int 6, .int 0, .int 0, .ref 215], (zS0, R, I, J))) rfl ?_
  exact zEv_c (fun _ => rfl) rfl hc rfl rfl k1
theorem b_169_123 {X : zX} {d : Nat} {R : zR} {I : zI} {J : zJ} {r : zA} {x1 : Int64} {x3 : Int32} {s0 : Int32} (k1 : s0 = 0 → zEv X d zm_169 (143, [some (.ref 215), some (.long x1), none, some (.int x3), none], [], (zS0, R, I, J)) r) (k2 : ¬ (s0 = 0) → zEv X d zm_169 (126, [some (.ref 215), some (.long x1), none, some (.int x3), none], [], (zS0, R, I, J)) r) : zEv X d zm_169 (123, [some (.ref 215), some (.long x1), none, some (.int x3), none], [.int s0], (zS0, R, I, J)) r := by
  refine zEv_k 1 (f' := (if s0 = 0 then 143 else 126, [some (.ref 215), some (.long x1), none, some (.int x3), none], [], (zS0, R, I, J))) rfl ?_
  exact zEv_if k1 k2
theorem b_169_126 {X : zX} {d : Nat} {R : zR} {I : zI} {J : zJ} {r : zA} {x1 : Int64} {x3 : Int32} {w : Int32} {R' : zR} {I' : zI} {J' : zJ} (hR : zRok R) (hc : zEv X d zm_165 (0, [some (.ref 215), some (.int 1), some (.int 0), some (.int 6), some (.int (I 225 (0 : Int32).toNatClampNeg))], [], (zS0, R, I, J)) (some (.int w), (zS0, R', I', J'))) (k1 : zEv X (d + 1) zm_169 (140, [some (.ref 215), some (.long x1), none, some (.int x3), none], [.int w], (zS0, R', I', J')) r) : zEv X (d + 1) zm_169 (126, [some (.ref 215), some (.long x1), none, some (.int x3), none], [], (zS0, R, I, J)) r := by
  refine zEv_k 5 (f' := (132, [some (.ref 215), some (.long x1), none, some (.int x3), none], [.ref 215, .int 6, .int 0, .int 1, .ref 215], (zS0, R, I, J))) rfl ?_
  refine zEv_gr rfl rfl rfl (by decide) (hR 215 19 225 rfl) ?_
  refine zEv_k 1 (f' := (136, [some (.ref 215), some (.long x1), none, some (.int x3), none], [.int 0, .ref 225, .int 6, .int 0, .int 1, .ref 215], (zS0, R, I, J))) rfl ?_
  refine zEv_ial rfl rfl (by decide) (by unfold zin; decide) ?_
  exact zEv_c (fun _ => rfl) rfl hc rfl rfl k1
theorem b_169_140 {X : zX} {d : Nat} {R : zR} {I : zI} {J : zJ} {r : zA} {x1 : Int64} {x3 : Int32} {s0 : Int32} (k1 : ¬ s0 = 0 → zEv X d zm_169 (145, [some (.ref 215), some (.long x1), none, some (.int x3), none], [], (zS0, R, I, J)) r) (k2 : ¬ (¬ s0 = 0) → zEv X d zm_169 (143, [some (.ref 215), some (.long x1), none, some (.int x3), none], [], (zS0, R, I, J)) r) : zEv X d zm_169 (140, [some (.ref 215), some (.long x1), none, some (.int x3), none], [.int s0], (zS0, R, I, J)) r := by
  refine zEv_k 1 (f' := (if ¬ s0 = 0 then 145 else 143, [some (.ref 215), some (.long x1), none, some (.int x3), none], [], (zS0, R, I, J))) rfl ?_
  exact zEv_if k1 k2
theorem b_169_143 {X : zX} {d : Nat} {R : zR} {I : zI} {J : zJ} {x1 : Int64} {x3 : Int32} : zEv X d zm_169 (143, [some (.ref 215), some (.long x1), none, some (.int x3), none], [], (zS0, R, I, J)) (some (.int 0), (zS0, R, I, J)) := by
  refine zEv_k 1 (f' := (144, [some (.ref 215), some (.long x1), none, some (.int x3), none], [.int 0], (zS0, R, I, J))) rfl ?_
  exact zEv_r rfl
theorem b_169_145 {X : zX} {d : Nat} {R : zR} {I : zI} {J : zJ} {r : zA} {x1 : Int64} {x3 : Int32} (hR : zRok R) (k1 : ((zu I 215 20 (zf_greater (I 215 20) (zf_greater (I 225 (0 : Int32).toNatClampNeg) (I 225 (1 : Int32).toNatClampNeg)))) 215 21) = 0 → zEv X (d + 1) zm_169 (203, [some (.ref 215), some (.long x1), none, some (.int x3), none], [], (zS0, R, zu I 215 20 (zf_greater (I 215 20) (zf_greater (I 225 (0 : Int32).toNatClampNeg) (I 225 (1 : Int32).toNatClampNeg))), J)) r) (k2 : ¬ (((zu I 215 20 (zf_greater (I 215 20) (zf_greater (I 225 (0 : Int32).toNatClampNeg) (I 225 (1 : Int32).toNatClampNeg)))) 215 21) = 0) → zEv X (d + 1) zm_169 (178, [some (.ref 215), some (.long x1), none, some (.int x3), none], [], (zS0, R, zu I 215 20 (zf_greater (I 215 20) (zf_greater (I 225 (0 : Int32).toNatClampNeg) (I 225 (1 : Int32).toNatClampNeg))), J)) r) : zEv X (d + 1) zm_169 (145, [some (.ref 215), some (.long x1), none, some (.int x3), none], [], (zS0, R, I, J)) r := by
  refine zEv_k 4 (f' := (151, [some (.ref 215), some (.long x1), none, some (.int x3), none], [.ref 215, .int (I 215 20), .ref 215], (zS0, R, I, J))) rfl ?_
  refine zEv_gr rfl rfl rfl (by decide) (hR 215 19 225 rfl) ?_
  refine zEv_k 1 (f' := (155, [some (.ref 215), some (.long x1), none, some (.int x3), none], [.int 0, .ref 225, .int (I 215 20), .ref 215], (zS0, R, I, J))) rfl ?_
  refine zEv_ial rfl rfl (by decide) (by unfold zin; decide) ?_
  refine zEv_k 1 (f' := (157, [some (.ref 215), some (.long x1), none, some (.int x3), none], [.ref 215, .int (I 225 (0 : Int32).toNatClampNeg), .int (I 215 20), .ref 215], (zS0, R, I, J))) rfl ?_
  refine zEv_gr rfl rfl rfl (by decide) (hR 215 19 225 rfl) ?_
  refine zEv_k 1 (f' := (161, [some (.ref 215), some (.long x1), none, some (.int x3), none], [.int 1, .ref 225, .int (I 225 (0 : Int32).toNatClampNeg), .int (I 215 20), .ref 215], (zS0, R, I, J))) rfl ?_
  refine zEv_ial rfl rfl (by decide) (by unfold zin; decide) ?_
  refine zEv_c (fun _ => rfl) rfl ev_zf_greater rfl rfl ?_
  refine zEv_c (fun _ => rfl) rfl ev_zf_greater rfl rfl ?_
  refine zEv_k 4 (f' := (if ((zu I 215 20 (zf_greater (I 215 20) (zf_greater (I 225 (0 : Int32).toNatClampNeg) (I 225 (1 : Int32).toNatClampNeg)))) 215 21) = 0 then 203 else 178, [some (.ref 215), some (.long x1), none, some (.int x3), none], [], (zS0, R, zu I 215 20 (zf_greater (I 215 20) (zf_greater (I 225 (0 : Int32).toNatClampNeg) (I 225 (1 : Int32).toNatClampNeg))), J))) rfl ?_
  exact zEv_if k1 k2
theorem b_169_178 {X : zX} {d : Nat} {R : zR} {I : zI} {J : zJ} {r : zA} {x1 : Int64} {x3 : Int32} (hR : zRok R) (h192 : zin (45 + (I 225 (0 : Int32).toNatClampNeg)) 121) (h202 : zin (45 + (I 225 (0 : Int32).toNatClampNeg)) 121) (k1 : zEv X d zm_169 (203, [some (.ref 215), some (.long x1), none, some (.int x3), none], [], (zS0, R, zu I 224 (45 + (I 225 (0 : Int32).toNatClampNeg)).toNatClampNeg ((I 224 (45 + (I 225 (0 : Int32).toNatClampNeg)).toNatClampNeg) ||| ((1 : Int32) <<< ((I 225 (1 : Int32).toNatClampNeg) &&& 31))), J)) r) : zEv X d zm_169 (178, [some (.ref 215), some (.long x1), none, some (.int x3), none], [], (zS0, R, I, J)) r := by
  refine zEv_k 1 (f' := (179, [some (.ref 215), some (.long x1), none, some (.int x3), none], [.ref 215], (zS0, R, I, J))) rfl ?_
  refine zEv_gr rfl rfl rfl (by decide) (hR 215 18 224 rfl) ?_
  refine zEv_k 2 (f' := (185, [some (.ref 215), some (.long x1), none, some (.int x3), none], [.ref 215, .int 45, .ref 224], (zS0, R, I, J))) rfl ?_
  refine zEv_gr rfl rfl rfl (by decide) (hR 215 19 225 rfl) ?_
  refine zEv_k 1 (f' := (189, [some (.ref 215), some (.long x1), none, some (.int x3), none], [.int 0, .ref 225, .int 45, .ref 224], (zS0, R, I, J))) rfl ?_
  refine zEv_ial rfl rfl (by decide) (by unfold zin; decide) ?_
  refine zEv_k 2 (f' := (192, [some (.ref 215), some (.long x1), none, some (.int x3), none], [.int (45 + (I 225 (0 : Int32).toNatClampNeg)), .ref 224, .int (45 + (I 225 (0 : Int32).toNatClampNeg)), .ref 224], (zS0, R, I, J))) rfl ?_
  refine zEv_ial rfl rfl (by decide) h192 ?_
  refine zEv_k 2 (f' := (195, [some (.ref 215), some (.long x1), none, some (.int x3), none], [.ref 215, .int 1, .int (I 224 (45 + (I 225 (0 : Int32).toNatClampNeg)).toNatClampNeg), .int (45 + (I 225 (0 : Int32).toNatClampNeg)), .ref 224], (zS0, R, I, J))) rfl ?_
  refine zEv_gr rfl rfl rfl (by decide) (hR 215 19 225 rfl) ?_
  refine zEv_k 1 (f' := (199, [some (.ref 215), some (.long x1), none, some (.int x3), none], [.int 1, .ref 225, .int 1, .int (I 224 (45 + (I 225 (0 : Int32).toNatClampNeg)).toNatClampNeg), .int (45 + (I 225 (0 : Int32).toNatClampNeg)), .ref 224], (zS0, R, I, J))) rfl ?_
  refine zEv_ial rfl rfl (by decide) (by unfold zin; decide) ?_
  refine zEv_k 2 (f' := (202, [some (.ref 215), some (.long x1), none, some (.int x3), none], [.int ((I 224 (45 + (I 225 (0 : Int32).toNatClampNeg)).toNatClampNeg) ||| ((1 : Int32) <<< ((I 225 (1 : Int32).toNatClampNeg) &&& 31))), .int (45 + (I 225 (0 : Int32).toNatClampNeg)), .ref 224], (zS0, R, I, J))) rfl ?_
  refine zEv_ias rfl rfl (by decide) h202 ?_
  exact k1
theorem b_169_203 {X : zX} {d : Nat} {R : zR} {I : zI} {J : zJ} {x1 : Int64} {x3 : Int32} : zEv X d zm_169 (203, [some (.ref 215), some (.long x1), none, some (.int x3), none], [], (zS0, R, I, J)) (some (.int 1), (zS0, R, I, J)) := by
  refine zEv_k 1 (f' := (204, [some (.ref 215), some (.long x1), none, some (.int x3), none], [.int 1], (zS0, R, I, J))) rfl ?_
  exact zEv_r rfl
theorem b_170_0 {X : zX} {d : Nat} {R : zR} {I : zI} {J : zJ} {r : zA} {x1 : Int32} {x2 : Int32} (hR : zRok R) (k1 : ¬ (I 224 (0 : Int32).toNatClampNeg) = x2 → zEv X d zm_170 (13, [some (.ref 215), some (.int x1), some (.int x2), some (.int (I 224 (0 : Int32).toNatClampNeg)), none], [], (zS0, R, I, J)) r) (k2 : ¬ (¬ (I 224 (0 : Int32).toNatClampNeg) = x2) → zEv X d zm_170 (12, [some (.ref 215), some (.int x1), some (.int x2), some (.int (I 224 (0 : Int32).toNatClampNeg)), none], [], (zS0, R, I, J)) r) : zEv X d zm_170 (0, [some (.ref 215), some (.int x1), some (.int x2), none, none], [], (zS0, R, I, J)) r := by
  refine zEv_k 1 (f' := (1, [some (.ref 215), some (.int x1), some (.int x2), none, none], [.ref 215], (zS0, R, I, J))) rfl ?_
  refine zEv_gr rfl rfl rfl (by decide) (hR 215 18 224 rfl) ?_
  refine zEv_k 1 (f' := (5, [some (.ref 215), some (.int x1), some (.int x2), none, none], [.int 0, .ref 224], (zS0, R, I, J))) rfl ?_
  refine zEv_ial rfl rfl (by decide) (by unfold zin; decide) ?_
  refine zEv_k 4 (f' := (if ¬ (I 224 (0 : Int32).toNatClampNeg) = x2 then 13 else 12, [some (.ref 215), some (.int x1), some (.int x2), some (.int (I 224 (0 : Int32).toNatClampNeg)), none], [], (zS0, R, I, J))) rfl ?_
  exact zEv_if k1 k2
theorem b_170_12 {X : zX} {d : Nat} {R : zR} {I : zI} {J : zJ} {x1 : Int32} {x2 : Int32} {x3 : Int32} : zEv X d zm_170 (12, [some (.ref 215), some (.int x1), some (.int x2), some (.int x3), none], [], (zS0, R, I, J)) (none, (zS0, R, I, J)) := by
  exact zEv_r rfl
theorem b_170_13 {X : zX} {d : Nat} {R : zR} {I : zI} {J : zJ} {r : zA} {x1 : Int32} {x2 : Int32} {x3 : Int32} (k1 : zEv X d zm_170 (16, [some (.ref 215), some (.int x1), some (.int x2), some (.int x3), some (.int 0)], [], (zS0, R, I, J)) r) : zEv X d zm_170 (13, [some (.ref 215), some (.int x1), some (.int x2), some (.int x3), none], [], (zS0, R, I, J)) r := by
  refine zEv_k 2 (f' := (16, [some (.ref 215), some (.int x1), some (.int x2), some (.int x3), some (.int 0)], [], (zS0, R, I, J))) rfl ?_
  exact k1
theorem b_170_16 {X : zX} {d : Nat} {R : zR} {I : zI} {J : zJ} {r : zA} {x1 : Int32} {x2 : Int32} {x3 : Int32} {x4 : Int32} (k1 : x1 ≤ x4 → zEv X d zm_170 (48, [some (.ref 215), some (.int x1), some (.int x2), some (.int x3), some (.int x4)], [], (zS0, R, I, J)) r) (k2 : ¬ (x1 ≤ x4) → zEv X d zm_170 (22, [some (.ref 215), some (.int x1), some (.int x2), some (.int x3), some (.int x4)], [], (zS0, R, I, J)) r) : zEv X d zm_170 (16, [some (.ref 215), some (.int x1), some (.int x2), some (.int x3), some (.int x4)], [], (zS0, R, I, J)) r := by
  refine zEv_k 3 (f' := (if x1 ≤ x4 then 48 else 22, [some (.ref 215), some (.int x1), some (.int x2), some (.int x3), some (.int x4)], [], (zS0, R, I, J))) rfl ?_
  exact zEv_if k1 k2
theorem b_170_22 {X : zX} {d : Nat} {R : zR} {I : zI} {J : zJ} {r : zA} {x1 : Int32} {x2 : Int32} {x3 : Int32} {x4 : Int32} (hR : zRok R) (h40 : zin x4 6) (h41 : zin ((1 + (x1 * x3)) + x4) 121) (k1 : zEv X d zm_170 (16, [some (.ref 215), some (.int x1), some (.int x2), some (.int x3), some (.int (x4 + 1))], [], (zS0, R, zu I 224 ((1 + (x1 * x3)) + x4).toNatClampNeg (I 225 (x4).toNatClampNeg), J)) r) : zEv X d zm_170 (22, [some (.ref 215), some (.int x1), some (.int x2), some (.int x3), some (.int x4)], [], (zS0, R, I, J)) r := by
  refine zEv_k 1 (f' := (23, [some (.ref 215), some (.int x1), some (.int x2), some (.int x3), some (.int x4)], [.ref 215], (zS0, R, I, J))) rfl ?_
  refine zEv_gr rfl rfl rfl (by decide) (hR 215 18 224 rfl) ?_
  refine zEv_k 8 (f' := (35, [some (.ref 215), some (.int x1), some (.int x2), some (.int x3), some (.int x4)], [.ref 215, .int ((1 + (x1 * x3)) + x4), .ref 224], (zS0, R, I, J))) rfl ?_
  refine zEv_gr rfl rfl rfl (by decide) (hR 215 19 225 rfl) ?_
  refine zEv_k 1 (f' := (40, [some (.ref 215), some (.int x1), some (.int x2), some (.int x3), some (.int x4)], [.int x4, .ref 225, .int ((1 + (x1 * x3)) + x4), .ref 224], (zS0, R, I, J))) rfl ?_
  refine zEv_ial rfl rfl (by decide) h40 ?_
  refine zEv_ias rfl rfl (by decide) h41 ?_
  refine zEv_k 2 (f' := (16, [some (.ref 215), some (.int x1), some (.int x2), some (.int x3), some (.int (x4 + 1))], [], (zS0, R, zu I 224 ((1 + (x1 * x3)) + x4).toNatClampNeg (I 225 (x4).toNatClampNeg), J))) rfl ?_
  exact k1
theorem b_170_48 {X : zX} {d : Nat} {R : zR} {I : zI} {J : zJ} {x1 : Int32} {x2 : Int32} {x3 : Int32} {x4 : Int32} (hR : zRok R) : zEv X d zm_170 (48, [some (.ref 215), some (.int x1), some (.int x2), some (.int x3), some (.int x4)], [], (zS0, R, I, J)) (none, (zS0, R, zu I 224 (0 : Int32).toNatClampNeg ((I 224 (0 : Int32).toNatClampNeg) + 1), J)) := by
  refine zEv_k 1 (f' := (49, [some (.ref 215), some (.int x1), some (.int x2), some (.int x3), some (.int x4)], [.ref 215], (zS0, R, I, J))) rfl ?_
  refine zEv_gr rfl rfl rfl (by decide) (hR 215 18 224 rfl) ?_
  refine zEv_k 2 (f' := (54, [some (.ref 215), some (.int x1), some (.int x2), some (.int x3), some (.int x4)], [.int 0, .ref 224, .int 0, .ref 224], (zS0, R, I, J))) rfl ?_
  refine zEv_ial rfl rfl (by decide) (by unfold zin; decide) ?_
  refine zEv_k 2 (f' := (57, [some (.ref 215), some (.int x1), some (.int x2), some (.int x3), some (.int x4)], [.int ((I 224 (0 : Int32).toNatClampNeg) + 1), .int 0, .ref 224], (zS0, R, I, J))) rfl ?_
  refine zEv_ias rfl rfl (by decide) (by unfold zin; decide) ?_
  exact zEv_r rfl
theorem b_171_0 {X : zX} {d : Nat} {R : zR} {I : zI} {J : zJ} {r : zA} {x1 : Int64} (k1 : ¬ (lg_cmp x1 2036687218) = 0 → zEv X d zm_171 (12, [some (.ref 215), some (.long x1), none], [], (zS0, R, I, J)) r) (k2 : ¬ (¬ (lg_cmp x1 2036687218) = 0) → zEv X d zm_171 (8, [some (.ref 215), some (.long x1), none], [], (zS0, R, I, J)) r) : zEv X d zm_171 (0, [some (.ref 215), some (.long x1), none], [], (zS0, R, I, J)) r := by
  refine zEv_k 4 (f' := (if ¬ (lg_cmp x1 2036687218) = 0 then 12 else 8, [some (.ref 215), some (.long x1), none], [], (zS0, R, I, J))) rfl ?_
  exact zEv_if k1 k2
theorem b_171_8 {X : zX} {d : Nat} {R : zR} {I : zI} {J : zJ} {x1 : Int64} : zEv X d zm_171 (8, [some (.ref 215), some (.long x1), none], [], (zS0, R, I, J)) (some (.int 0), (zS0, R, I, J)) := by
  refine zEv_k 2 (f' := (61, [some (.ref 215), some (.long x1), none], [.int 0], (zS0, R, I, J))) rfl ?_
  exact zEv_r rfl
theorem b_171_12 {X : zX} {d : Nat} {R : zR} {I : zI} {J : zJ} {r : zA} {x1 : Int64} (k1 : ¬ (lg_cmp x1 1869636974) = 0 → zEv X d zm_171 (24, [some (.ref 215), some (.long x1), none], [], (zS0, R, I, J)) r) (k2 : ¬ (¬ (lg_cmp x1 1869636974) = 0) → zEv X d zm_171 (20, [some (.ref 215), some (.long x1), none], [], (zS0, R, I, J)) r) : zEv X d zm_171 (12, [some (.ref 215), some (.long x1), none], [], (zS0, R, I, J)) r := by
  refine zEv_k 4 (f' := (if ¬ (lg_cmp x1 1869636974) = 0 then 24 else 20, [some (.ref 215), some (.long x1), none], [], (zS0, R, I, J))) rfl ?_
  exact zEv_if k1 k2
theorem b_171_20 {X : zX} {d : Nat} {R : zR} {I : zI} {J : zJ} {x1 : Int64} : zEv X d zm_171 (20, [some (.ref 215), some (.long x1), none], [], (zS0, R, I, J)) (some (.int 1), (zS0, R, I, J)) := by
  refine zEv_k 2 (f' := (61, [some (.ref 215), some (.long x1), none], [.int 1], (zS0, R, I, J))) rfl ?_
  exact zEv_r rfl
theorem b_171_24 {X : zX} {d : Nat} {R : zR} {I : zI} {J : zJ} {r : zA} {x1 : Int64} (k1 : ¬ (lg_cmp x1 2003399269) = 0 → zEv X d zm_171 (36, [some (.ref 215), some (.long x1), none], [], (zS0, R, I, J)) r) (k2 : ¬ (¬ (lg_cmp x1 2003399269) = 0) → zEv X d zm_171 (32, [some (.ref 215), some (.long x1), none], [], (zS0, R, I, J)) r) : zEv X d zm_171 (24, [some (.ref 215), some (.long x1), none], [], (zS0, R, I, J)) r := by
  refine zEv_k 4 (f' := (if ¬ (lg_cmp x1 2003399269) = 0 then 36 else 32, [some (.ref 215), some (.long x1), none], [], (zS0, R, I, J))) rfl ?_
  exact zEv_if k1 k2
theorem b_171_32 {X : zX} {d : Nat} {R : zR} {I : zI} {J : zJ} {x1 : Int64} : zEv X d zm_171 (32, [some (.ref 215), some (.long x1), none], [], (zS0, R, I, J)) (some (.int 2), (zS0, R, I, J)) := by
  refine zEv_k 2 (f' := (61, [some (.ref 215), some (.long x1), none], [.int 2], (zS0, R, I, J))) rfl ?_
  exact zEv_r rfl
theorem b_171_36 {X : zX} {d : Nat} {R : zR} {I : zI} {J : zJ} {r : zA} {x1 : Int64} (k1 : ¬ (lg_cmp x1 499850505844) = 0 → zEv X d zm_171 (48, [some (.ref 215), some (.long x1), none], [], (zS0, R, I, J)) r) (k2 : ¬ (¬ (lg_cmp x1 499850505844) = 0) → zEv X d zm_171 (44, [some (.ref 215), some (.long x1), none], [], (zS0, R, I, J)) r) : zEv X d zm_171 (36, [some (.ref 215), some (.long x1), none], [], (zS0, R, I, J)) r := by
  refine zEv_k 4 (f' := (if ¬ (lg_cmp x1 499850505844) = 0 then 48 else 44, [some (.ref 215), some (.long x1), none], [], (zS0, R, I, J))) rfl ?_
  exact zEv_if k1 k2
theorem b_171_44 {X : zX} {d : Nat} {R : zR} {I : zI} {J : zJ} {x1 : Int64} : zEv X d zm_171 (44, [some (.ref 215), some (.long x1), none], [], (zS0, R, I, J)) (some (.int 3), (zS0, R, I, J)) := by
  refine zEv_k 2 (f' := (61, [some (.ref 215), some (.long x1), none], [.int 3], (zS0, R, I, J))) rfl ?_
  exact zEv_r rfl
theorem b_171_48 {X : zX} {d : Nat} {R : zR} {I : zI} {J : zJ} {r : zA} {x1 : Int64} (k1 : ¬ (lg_cmp x1 1836021349) = 0 → zEv X d zm_171 (60, [some (.ref 215), some (.long x1), none], [], (zS0, R, I, J)) r) (k2 : ¬ (¬ (lg_cmp x1 1836021349) = 0) → zEv X d zm_171 (56, [some (.ref 215), some (.long x1), none], [], (zS0, R, I, J)) r) : zEv X d zm_171 (48, [some (.ref 215), some (.long x1), none], [], (zS0, R, I, J)) r := by
  refine zEv_k 4 (f' := (if ¬ (lg_cmp x1 1836021349) = 0 then 60 else 56, [some (.ref 215), some (.long x1), none], [], (zS0, R, I, J))) rfl ?_
  exact zEv_if k1 k2
theorem b_171_56 {X : zX} {d : Nat} {R : zR} {I : zI} {J : zJ} {x1 : Int64} : zEv X d zm_171 (56, [some (.ref 215), some (.long x1), none], [], (zS0, R, I, J)) (some (.int 4), (zS0, R, I, J)) := by
  refine zEv_k 2 (f' := (61, [some (.ref 215), some (.long x1), none], [.int 4], (zS0, R, I, J))) rfl ?_
  exact zEv_r rfl
theorem b_171_60 {X : zX} {d : Nat} {R : zR} {I : zI} {J : zJ} {x1 : Int64} : zEv X d zm_171 (60, [some (.ref 215), some (.long x1), none], [], (zS0, R, I, J)) (some (.int (-1)), (zS0, R, I, J)) := by
  refine zEv_k 1 (f' := (61, [some (.ref 215), some (.long x1), none], [.int (-1)], (zS0, R, I, J))) rfl ?_
  exact zEv_r rfl
theorem b_172_0 {X : zX} {d : Nat} {R : zR} {I : zI} {J : zJ} {r : zA} {x1 : Int64} {x3 : Int32} {w : Int32} {R' : zR} {I' : zI} {J' : zJ} (hc : zEv X d zm_171 (0, [some (.ref 215), some (.long x1), none], [], (zS0, R, I, J)) (some (.int w), (zS0, R', I', J'))) (k1 : zEv X (d + 1) zm_172 (5, [some (.ref 215), some (.long x1), none, some (.int x3), none], [.int w], (zS0, R', I', J')) r) : zEv X (d + 1) zm_172 (0, [some (.ref 215), some (.long x1), none, some (.int x3), none], [], (zS0, R, I, J)) r := by
  refine zEv_k 2 (f' := (2, [some (.ref 215), some (.long x1), none, some (.int x3), none], [.long x1, .ref 215], (zS0, R, I, J))) rfl ?_
  exact zEv_c (fun _ => rfl) rfl hc rfl rfl k1
theorem b_172_5 {X : zX} {d : Nat} {R : zR} {I : zI} {J : zJ} {r : zA} {x1 : Int64} {x3 : Int32} {s0 : Int32} (k1 : ¬ s0 = (-1) → zEv X d zm_172 (18, [some (.ref 215), some (.long x1), none, some (.int x3), some (.int s0)], [], (zS0, R, I, J)) r) (k2 : ¬ (¬ s0 = (-1)) → zEv X d zm_172 (13, [some (.ref 215), some (.long x1), none, some (.int x3), some (.int s0)], [], (zS0, R, I, J)) r) : zEv X d zm_172 (5, [some (.ref 215), some (.long x1), none, some (.int x3), none], [.int s0], (zS0, R, I, J)) r := by
  refine zEv_k 4 (f' := (if ¬ s0 = (-1) then 18 else 13, [some (.ref 215), some (.long x1), none, some (.int x3), some (.int s0)], [], (zS0, R, I, J))) rfl ?_
  exact zEv_if k1 k2
theorem b_172_13 {X : zX} {d : Nat} {R : zR} {I : zI} {J : zJ} {r : zA} {x1 : Int64} {x3 : Int32} {x4 : Int32} {w : Int32} {R' : zR} {I' : zI} {J' : zJ} (hc : zEv X d zm_163 (0, [some (.ref 215)], [], (zS0, R, I, J)) (some (.int w), (zS0, R', I', J'))) (k1 : zEv X (d + 1) zm_172 (17, [some (.ref 215), some (.long x1), none, some (.int x3), some (.int x4)], [.int w], (zS0, R', I', J')) r) : zEv X (d + 1) zm_172 (13, [some (.ref 215), some (.long x1), none, some (.int x3), some (.int x4)], [], (zS0, R, I, J)) r := by
  refine zEv_k 1 (f' := (14, [some (.ref 215), some (.long x1), none, some (.int x3), some (.int x4)], [.ref 215], (zS0, R, I, J))) rfl ?_
  exact zEv_c (fun _ => rfl) rfl hc rfl rfl k1
theorem b_172_17 {X : zX} {d : Nat} {R : zR} {I : zI} {J : zJ} {x1 : Int64} {x3 : Int32} {x4 : Int32} {s0 : Int32} (h17 : zbool s0 = true) : zEv X d zm_172 (17, [some (.ref 215), some (.long x1), none, some (.int x3), some (.int x4)], [.int s0], (zS0, R, I, J)) (some (.int s0), (zS0, R, I, J)) := by
  exact zEv_rz rfl rfl h17
theorem b_172_18 {X : zX} {d : Nat} {R : zR} {I : zI} {J : zJ} {r : zA} {x1 : Int64} {x3 : Int32} {x4 : Int32} {R' : zR} {I' : zI} {J' : zJ} (hc : zEv X d zm_167 (0, [some (.ref 215), some (.int 0), some (.int 40), some (.int x3)], [], (zS0, R, I, J)) (none, (zS0, R', I', J'))) (k1 : zEv X (d + 1) zm_172 (26, [some (.ref 215), some (.long x1), none, some (.int x3), some (.int x4)], [], (zS0, R', I', J')) r) : zEv X (d + 1) zm_172 (18, [some (.ref 215), some (.long x1), none, some (.int x3), some (.int x4)], [], (zS0, R, I, J)) r := by
  refine zEv_k 4 (f' := (23, [some (.ref 215), some (.long x1), none, some (.int x3), some (.int x4)], [.int x3, .int 40, .int 0, .ref 215], (zS0, R, I, J))) rfl ?_
  exact zEv_c (fun _ => rfl) rfl hc rfl rfl k1
theorem b_172_26 {X : zX} {d : Nat} {R : zR} {I : zI} {J : zJ} {r : zA} {x1 : Int64} {x3 : Int32} {x4 : Int32} {R' : zR} {I' : zI} {J' : zJ} (hc : zEv X d zm_162 (0, [some (.ref 215), none, none], [], (zS0, R, I, J)) (none, (zS0, R', I', J'))) (k1 : zEv X (d + 1) zm_172 (30, [some (.ref 215), some (.long x1), none, some (.int x3), some (.int x4)], [], (zS0, R', I', J')) r) : zEv X (d + 1) zm_172 (26, [some (.ref 215), some (.long x1), none, some (.int x3), some (.int x4)], [], (zS0, R, I, J)) r := by
  refine zEv_k 1 (f' := (27, [some (.ref 215), some (.long x1), none, some (.int x3), some (.int x4)], [.ref 215], (zS0, R, I, J))) rfl ?_
  exact zEv_c (fun _ => rfl) rfl hc rfl rfl k1
theorem b_172_30 {X : zX} {d : Nat} {R : zR} {I : zI} {J : zJ} {r : zA} {x1 : Int64} {x3 : Int32} {x4 : Int32} (hR : zRok R) (k1 : x4 = 0 → zEv X d zm_172 (60, [some (.ref 215), some (.long x1), none, some (.int x3), some (.int x4)], [], (zS0, R, zu (zu I 225 (1 : Int32).toNatClampNeg (-1)) 225 (2 : Int32).toNatClampNeg (-1), J)) r) (k2 : ¬ (x4 = 0) → zEv X d zm_172 (49, [some (.ref 215), some (.long x1), none, some (.int x3), some (.int x4)], [], (zS0, R, zu (zu I 225 (1 : Int32).toNatClampNeg (-1)) 225 (2 : Int32).toNatClampNeg (-1), J)) r) : zEv X d zm_172 (30, [some (.ref 215), some (.long x1), none, some (.int x3), some (.int x4)], [], (zS0, R, I, J)) r := by
  refine zEv_k 1 (f' := (31, [some (.ref 215), some (.long x1), none, some (.int x3), some (.int x4)], [.ref 215], (zS0, R, I, J))) rfl ?_
  refine zEv_gr rfl rfl rfl (by decide) (hR 215 19 225 rfl) ?_
  refine zEv_k 2 (f' := (36, [some (.ref 215), some (.long x1), none, some (.int x3), some (.int x4)], [.int (-1), .int 1, .ref 225], (zS0, R, I, J))) rfl ?_
  refine zEv_ias rfl rfl (by decide) (by unfold zin; decide) ?_
  refine zEv_k 1 (f' := (38, [some (.ref 215), some (.long x1), none, some (.int x3), some (.int x4)], [.ref 215], (zS0, R, zu I 225 (1 : Int32).toNatClampNeg (-1), J))) rfl ?_
  refine zEv_gr rfl rfl rfl (by decide) (hR 215 19 225 rfl) ?_
  refine zEv_k 2 (f' := (43, [some (.ref 215), some (.long x1), none, some (.int x3), some (.int x4)], [.int (-1), .int 2, .ref 225], (zS0, R, zu I 225 (1 : Int32).toNatClampNeg (-1), J))) rfl ?_
  refine zEv_ias rfl rfl (by decide) (by unfold zin; decide) ?_
  refine zEv_k 2 (f' := (if x4 = 0 then 60 else 49, [some (.ref 215), some (.long x1), none, some (.int x3), some (.int x4)], [], (zS0, R, zu (zu I 225 (1 : Int32).toNatClampNeg (-1)) 225 (2 : Int32).toNatClampNeg (-1), J))) rfl ?_
  exact zEv_if k1 k2
theorem b_172_49 {X : zX} {d : Nat} {R : zR} {I : zI} {J : zJ} {r : zA} {x1 : Int64} {x3 : Int32} {x4 : Int32} {w : Int32} {R' : zR} {I' : zI} {J' : zJ} (hc : zEv X d zm_166 (0, [some (.ref 215), some (.int 1), some (.int 0), some (.int 6)], [], (zS0, R, I, J)) (some (.int w), (zS0, R', I', J'))) (k1 : zEv X (d + 1) zm_172 (57, [some (.ref 215), some (.long x1), none, some (.int x3), some (.int x4)], [.int w], (zS0, R', I', J')) r) : zEv X (d + 1) zm_172 (49, [some (.ref 215), some (.long x1), none, some (.int x3), some (.int x4)], [], (zS0, R, I, J)) r := by
  refine zEv_k 4 (f' := (54, [some (.ref 215), some (.long x1), none, some (.int x3), some (.int x4)], [.int 6, .int 0, .int 1, .ref 215], (zS0, R, I, J))) rfl ?_
  exact zEv_c (fun _ => rfl) rfl hc rfl rfl k1
theorem b_172_57 {X : zX} {d : Nat} {R : zR} {I : zI} {J : zJ} {r : zA} {x1 : Int64} {x3 : Int32} {x4 : Int32} {s0 : Int32} (k1 : s0 = 0 → zEv X d zm_172 (77, [some (.ref 215), some (.long x1), none, some (.int x3), some (.int x4)], [], (zS0, R, I, J)) r) (k2 : ¬ (s0 = 0) → zEv X d zm_172 (60, [some (.ref 215), some (.long x1), none, some (.int x3), some (.int x4)], [], (zS0, R, I, J)) r) : zEv X d zm_172 (57, [some (.ref 215), some (.long x1), none, some (.int x3), some (.int x4)], [.int s0], (zS0, R, I, J)) r := by
  refine zEv_k 1 (f' := (if s0 = 0 then 77 else 60, [some (.ref 215), some (.long x1), none, some (.int x3), some (.int x4)], [], (zS0, R, I, J))) rfl ?_
  exact zEv_if k1 k2
theorem b_172_60 {X : zX} {d : Nat} {R : zR} {I : zI} {J : zJ} {r : zA} {x1 : Int64} {x3 : Int32} {x4 : Int32} (k1 : ¬ x4 = 4 → zEv X d zm_172 (79, [some (.ref 215), some (.long x1), none, some (.int x3), some (.int x4)], [], (zS0, R, I, J)) r) (k2 : ¬ (¬ x4 = 4) → zEv X d zm_172 (66, [some (.ref 215), some (.long x1), none, some (.int x3), some (.int x4)], [], (zS0, R, I, J)) r) : zEv X d zm_172 (60, [some (.ref 215), some (.long x1), none, some (.int x3), some (.int x4)], [], (zS0, R, I, J)) r := by
  refine zEv_k 3 (f' := (if ¬ x4 = 4 then 79 else 66, [some (.ref 215), some (.long x1), none, some (.int x3), some (.int x4)], [], (zS0, R, I, J))) rfl ?_
  exact zEv_if k1 k2
theorem b_172_66 {X : zX} {d : Nat} {R : zR} {I : zI} {J : zJ} {r : zA} {x1 : Int64} {x3 : Int32} {x4 : Int32} {w : Int32} {R' : zR} {I' : zI} {J' : zJ} (hc : zEv X d zm_166 (0, [some (.ref 215), some (.int 2), some (.int 0), some (.int 20)], [], (zS0, R, I, J)) (some (.int w), (zS0, R', I', J'))) (k1 : zEv X (d + 1) zm_172 (74, [some (.ref 215), some (.long x1), none, some (.int x3), some (.int x4)], [.int w], (zS0, R', I', J')) r) : zEv X (d + 1) zm_172 (66, [some (.ref 215), some (.long x1), none, some (.int x3), some (.int x4)], [], (zS0, R, I, J)) r := by
  refine zEv_k 4 (f' := (71, [some (.ref 215), some (.long x1), none, some (.int x3), some (.int x4)], [.int 20, .int 0, .int 2, .ref 215], (zS0, R, I, J))) rfl ?_
  exact zEv_c (fun _ => rfl) rfl hc rfl rfl k1
theorem b_172_74 {X : zX} {d : Nat} {R : zR} {I : zI} {J : zJ} {r : zA} {x1 : Int64} {x3 : Int32} {x4 : Int32} {s0 : Int32} (k1 : ¬ s0 = 0 → zEv X d zm_172 (79, [some (.ref 215), some (.long x1), none, some (.int x3), some (.int x4)], [], (zS0, R, I, J)) r) (k2 : ¬ (¬ s0 = 0) → zEv X d zm_172 (77, [some (.ref 215), some (.long x1), none, some (.int x3), some (.int x4)], [], (zS0, R, I, J)) r) : zEv X d zm_172 (74, [some (.ref 215), some (.long x1), none, some (.int x3), some (.int x4)], [.int s0], (zS0, R, I, J)) r := by
  refine zEv_k 1 (f' := (if ¬ s0 = 0 then 79 else 77, [some (.ref 215), some (.long x1), none, some (.int x3), some (.int x4)], [], (zS0, R, I, J))) rfl ?_
  exact zEv_if k1 k2
theorem b_172_77 {X : zX} {d : Nat} {R : zR} {I : zI} {J : zJ} {x1 : Int64} {x3 : Int32} {x4 : Int32} : zEv X d zm_172 (77, [some (.ref 215), some (.long x1), none, some (.int x3), some (.int x4)], [], (zS0, R, I, J)) (some (.int 0), (zS0, R, I, J)) := by
  refine zEv_k 1 (f' := (78, [some (.ref 215), some (.long x1), none, some (.int x3), some (.int x4)], [.int 0], (zS0, R, I, J))) rfl ?_
  exact zEv_r rfl
theorem b_172_79 {X : zX} {d : Nat} {R : zR} {I : zI} {J : zJ} {r : zA} {x1 : Int64} {x3 : Int32} {x4 : Int32} {R' : zR} {I' : zI} {J' : zJ} (hR : zRok R) (hc : zEv X d zm_170 (0, [some (.ref 215), some (.int 3), some (.int 40), none, none], [], (zS0, R, zu I 225 (0 : Int32).toNatClampNeg x4, J)) (none, (zS0, R', I', J'))) (k1 : zEv X (d + 1) zm_172 (94, [some (.ref 215), some (.long x1), none, some (.int x3), some (.int x4)], [], (zS0, R', I', J')) r) : zEv X (d + 1) zm_172 (79, [some (.ref 215), some (.long x1), none, some (.int x3), some (.int x4)], [], (zS0, R, I, J)) r := by
  refine zEv_k 1 (f' := (80, [some (.ref 215), some (.long x1), none, some (.int x3), some (.int x4)], [.ref 215], (zS0, R, I, J))) rfl ?_
  refine zEv_gr rfl rfl rfl (by decide) (hR 215 19 225 rfl) ?_
  refine zEv_k 2 (f' := (86, [some (.ref 215), some (.long x1), none, some (.int x3), some (.int x4)], [.int x4, .int 0, .ref 225], (zS0, R, I, J))) rfl ?_
  refine zEv_ias rfl rfl (by decide) (by unfold zin; decide) ?_
  refine zEv_k 3 (f' := (91, [some (.ref 215), some (.long x1), none, some (.int x3), some (.int x4)], [.int 40, .int 3, .ref 215], (zS0, R, zu I 225 (0 : Int32).toNatClampNeg x4, J))) rfl ?_
  exact zEv_c (fun _ => rfl) rfl hc rfl rfl k1
theorem b_172_94 {X : zX} {d : Nat} {R : zR} {I : zI} {J : zJ} {x1 : Int64} {x3 : Int32} {x4 : Int32} : zEv X d zm_172 (94, [some (.ref 215), some (.long x1), none, some (.int x3), some (.int x4)], [], (zS0, R, I, J)) (some (.int 1), (zS0, R, I, J)) := by
  refine zEv_k 1 (f' := (95, [some (.ref 215), some (.long x1), none, some (.int x3), some (.int x4)], [.int 1], (zS0, R, I, J))) rfl ?_
  exact zEv_r rfl
theorem b_173_0 {X : zX} {d : Nat} {R : zR} {I : zI} {J : zJ} {r : zA} {x1 : Int64} {x3 : Int32} (k1 : (lg_cmp x1 448377483876) = 0 → zEv X d zm_173 (13, [some (.ref 215), some (.long x1), none, some (.int x3)], [], (zS0, R, I, J)) r) (k2 : ¬ ((lg_cmp x1 448377483876) = 0) → zEv X d zm_173 (8, [some (.ref 215), some (.long x1), none, some (.int x3)], [], (zS0, R, I, J)) r) : zEv X d zm_173 (0, [some (.ref 215), some (.long x1), none, some (.int x3)], [], (zS0, R, I, J)) r := by
  refine zEv_k 4 (f' := (if (lg_cmp x1 448377483876) = 0 then 13 else 8, [some (.ref 215), some (.long x1), none, some (.int x3)], [], (zS0, R, I, J))) rfl ?_
  exact zEv_if k1 k2
theorem b_173_8 {X : zX} {d : Nat} {R : zR} {I : zI} {J : zJ} {r : zA} {x1 : Int64} {x3 : Int32} {w : Int32} {R' : zR} {I' : zI} {J' : zJ} (hc : zEv X d zm_163 (0, [some (.ref 215)], [], (zS0, R, I, J)) (some (.int w), (zS0, R', I', J'))) (k1 : zEv X (d + 1) zm_173 (12, [some (.ref 215), some (.long x1), none, some (.int x3)], [.int w], (zS0, R', I', J')) r) : zEv X (d + 1) zm_173 (8, [some (.ref 215), some (.long x1), none, some (.int x3)], [], (zS0, R, I, J)) r := by
  refine zEv_k 1 (f' := (9, [some (.ref 215), some (.long x1), none, some (.int x3)], [.ref 215], (zS0, R, I, J))) rfl ?_
  exact zEv_c (fun _ => rfl) rfl hc rfl rfl k1
theorem b_173_12 {X : zX} {d : Nat} {R : zR} {I : zI} {J : zJ} {x1 : Int64} {x3 : Int32} {s0 : Int32} (h12 : zbool s0 = true) : zEv X d zm_173 (12, [some (.ref 215), some (.long x1), none, some (.int x3)], [.int s0], (zS0, R, I, J)) (some (.int s0), (zS0, R, I, J)) := by
  exact zEv_rz rfl rfl h12
theorem b_173_13 {X : zX} {d : Nat} {R : zR} {I : zI} {J : zJ} {r : zA} {x1 : Int64} {x3 : Int32} {R' : zR} {I' : zI} {J' : zJ} (hc : zEv X d zm_167 (0, [some (.ref 215), some (.int 0), some (.int 8), some (.int x3)], [], (zS0, R, I, J)) (none, (zS0, R', I', J'))) (k1 : zEv X (d + 1) zm_173 (21, [some (.ref 215), some (.long x1), none, some (.int x3)], [], (zS0, R', I', J')) r) : zEv X (d + 1) zm_173 (13, [some (.ref 215), some (.long x1), none, some (.int x3)], [], (zS0, R, I, J)) r := by
  refine zEv_k 4 (f' := (18, [some (.ref 215), some (.long x1), none, some (.int x3)], [.int x3, .int 8, .int 0, .ref 215], (zS0, R, I, J))) rfl ?_
  exact zEv_c (fun _ => rfl) rfl hc rfl rfl k1
theorem b_173_21 {X : zX} {d : Nat} {R : zR} {I : zI} {J : zJ} {r : zA} {x1 : Int64} {x3 : Int32} {R' : zR} {I' : zI} {J' : zJ} (hc : zEv X d zm_162 (0, [some (.ref 215), none, none], [], (zS0, R, I, J)) (none, (zS0, R', I', J'))) (k1 : zEv X (d + 1) zm_173 (25, [some (.ref 215), some (.long x1), none, some (.int x3)], [], (zS0, R', I', J')) r) : zEv X (d + 1) zm_173 (21, [some (.ref 215), some (.long x1), none, some (.int x3)], [], (zS0, R, I, J)) r := by
  refine zEv_k 1 (f' := (22, [some (.ref 215), some (.long x1), none, some (.int x3)], [.ref 215], (zS0, R, I, J))) rfl ?_
  exact zEv_c (fun _ => rfl) rfl hc rfl rfl k1
theorem b_173_25 {X : zX} {d : Nat} {R : zR} {I : zI} {J : zJ} {r : zA} {x1 : Int64} {x3 : Int32} {w : Int32} {R' : zR} {I' : zI} {J' : zJ} (hc : zEv X d zm_166 (0, [some (.ref 215), some (.int 0), some (.int 1), some (.int 20)], [], (zS0, R, I, J)) (some (.int w), (zS0, R', I', J'))) (k1 : zEv X (d + 1) zm_173 (33, [some (.ref 215), some (.long x1), none, some (.int x3)], [.int w], (zS0, R', I', J')) r) : zEv X (d + 1) zm_173 (25, [some (.ref 215), some (.long x1), none, some (.int x3)], [], (zS0, R, I, J)) r := by
  refine zEv_k 4 (f' := (30, [some (.ref 215), some (.long x1), none, some (.int x3)], [.int 20, .int 1, .int 0, .ref 215], (zS0, R, I, J))) rfl ?_
  exact zEv_c (fun _ => rfl) rfl hc rfl rfl k1
theorem b_173_33 {X : zX} {d : Nat} {R : zR} {I : zI} {J : zJ} {r : zA} {x1 : Int64} {x3 : Int32} {s0 : Int32} (k1 : s0 = 0 → zEv X d zm_173 (47, [some (.ref 215), some (.long x1), none, some (.int x3)], [], (zS0, R, I, J)) r) (k2 : ¬ (s0 = 0) → zEv X d zm_173 (36, [some (.ref 215), some (.long x1), none, some (.int x3)], [], (zS0, R, I, J)) r) : zEv X d zm_173 (33, [some (.ref 215), some (.long x1), none, some (.int x3)], [.int s0], (zS0, R, I, J)) r := by
  refine zEv_k 1 (f' := (if s0 = 0 then 47 else 36, [some (.ref 215), some (.long x1), none, some (.int x3)], [], (zS0, R, I, J))) rfl ?_
  exact zEv_if k1 k2
theorem b_173_36 {X : zX} {d : Nat} {R : zR} {I : zI} {J : zJ} {r : zA} {x1 : Int64} {x3 : Int32} {w : Int32} {R' : zR} {I' : zI} {J' : zJ} (hc : zEv X d zm_166 (0, [some (.ref 215), some (.int 1), some (.int 0), some (.int 7)], [], (zS0, R, I, J)) (some (.int w), (zS0, R', I', J'))) (k1 : zEv X (d + 1) zm_173 (44, [some (.ref 215), some (.long x1), none, some (.int x3)], [.int w], (zS0, R', I', J')) r) : zEv X (d + 1) zm_173 (36, [some (.ref 215), some (.long x1), none, some (.int x3)], [], (zS0, R, I, J)) r := by
  refine zEv_k 4 (f' := (41, [some (.ref 215), some (.long x1), none, some (.int x3)], [.int 7, .int 0, .int 1, .ref 215], (zS0, R, I, J))) rfl ?_
  exact zEv_c (fun _ => rfl) rfl hc rfl rfl k1
theorem b_173_44 {X : zX} {d : Nat} {R : zR} {I : zI} {J : zJ} {r : zA} {x1 : Int64} {x3 : Int32} {s0 : Int32} (k1 : ¬ s0 = 0 → zEv X d zm_173 (49, [some (.ref 215), some (.long x1), none, some (.int x3)], [], (zS0, R, I, J)) r) (k2 : ¬ (¬ s0 = 0) → zEv X d zm_173 (47, [some (.ref 215), some (.long x1), none, some (.int x3)], [], (zS0, R, I, J)) r) : zEv X d zm_173 (44, [some (.ref 215), some (.long x1), none, some (.int x3)], [.int s0], (zS0, R, I, J)) r := by
  refine zEv_k 1 (f' := (if ¬ s0 = 0 then 49 else 47, [some (.ref 215), some (.long x1), none, some (.int x3)], [], (zS0, R, I, J))) rfl ?_
  exact zEv_if k1 k2
theorem b_173_47 {X : zX} {d : Nat} {R : zR} {I : zI} {J : zJ} {x1 : Int64} {x3 : Int32} : zEv X d zm_173 (47, [some (.ref 215), some (.long x1), none, some (.int x3)], [], (zS0, R, I, J)) (some (.int 0), (zS0, R, I, J)) := by
  refine zEv_k 1 (f' := (48, [some (.ref 215), some (.long x1), none, some (.int x3)], [.int 0], (zS0, R, I, J))) rfl ?_
  exact zEv_r rfl
theorem b_173_49 {X : zX} {d : Nat} {R : zR} {I : zI} {J : zJ} {r : zA} {x1 : Int64} {x3 : Int32} {R' : zR} {I' : zI} {J' : zJ} (hc : zEv X d zm_170 (0, [some (.ref 215), some (.int 2), some (.int 8), none, none], [], (zS0, R, I, J)) (none, (zS0, R', I', J'))) (k1 : zEv X (d + 1) zm_173 (56, [some (.ref 215), some (.long x1), none, some (.int x3)], [], (zS0, R', I', J')) r) : zEv X (d + 1) zm_173 (49, [some (.ref 215), some (.long x1), none, some (.int x3)], [], (zS0, R, I, J)) r := by
  refine zEv_k 3 (f' := (53, [some (.ref 215), some (.long x1), none, some (.int x3)], [.int 8, .int 2, .ref 215], (zS0, R, I, J))) rfl ?_
  exact zEv_c (fun _ => rfl) rfl hc rfl rfl k1
theorem b_173_56 {X : zX} {d : Nat} {R : zR} {I : zI} {J : zJ} {x1 : Int64} {x3 : Int32} : zEv X d zm_173 (56, [some (.ref 215), some (.long x1), none, some (.int x3)], [], (zS0, R, I, J)) (some (.int 1), (zS0, R, I, J)) := by
  refine zEv_k 1 (f' := (57, [some (.ref 215), some (.long x1), none, some (.int x3)], [.int 1], (zS0, R, I, J))) rfl ?_
  exact zEv_r rfl
theorem b_174_0 {X : zX} {d : Nat} {R : zR} {I : zI} {J : zJ} {r : zA} {x1 : Int32} (k1 : zEv X d zm_174 (2, [some (.ref 215), some (.int x1), some (.int 1), none, none, none], [], (zS0, R, I, J)) r) : zEv X d zm_174 (0, [some (.ref 215), some (.int x1), none, none, none, none], [], (zS0, R, I, J)) r := by
  refine zEv_k 2 (f' := (2, [some (.ref 215), some (.int x1), some (.int 1), none, none, none], [], (zS0, R, I, J))) rfl ?_
  exact k1
theorem b_174_2 {X : zX} {d : Nat} {R : zR} {I : zI} {J : zJ} {r : zA} {x1 : Int32} {x2 : Int32} {x3 : Option Value} {x4 : Option Value} (k1 : x2 = 0 → zEv X d zm_174 (106, [some (.ref 215), some (.int x1), some (.int x2), x3, x4, none], [], (zS0, R, I, J)) r) (k2 : ¬ (x2 = 0) → zEv X d zm_174 (6, [some (.ref 215), some (.int x1), some (.int x2), x3, x4, none], [], (zS0, R, I, J)) r) : zEv X d zm_174 (2, [some (.ref 215), some (.int x1), some (.int x2), x3, x4, none], [], (zS0, R, I, J)) r := by
  refine zEv_k 2 (f' := (if x2 = 0 then 106 else 6, [some (.ref 215), some (.int x1), some (.int x2), x3, x4, none], [], (zS0, R, I, J))) rfl ?_
  exact zEv_if k1 k2
theorem b_174_6 {X : zX} {d : Nat} {R : zR} {I : zI} {J : zJ} {r : zA} {x1 : Int32} {x2 : Int32} {x3 : Option Value} {x4 : Option Value} (k1 : (I 215 12) = 0 → zEv X d zm_174 (106, [some (.ref 215), some (.int x1), some (.int x2), x3, x4, none], [], (zS0, R, I, J)) r) (k2 : ¬ ((I 215 12) = 0) → zEv X d zm_174 (13, [some (.ref 215), some (.int x1), some (.int x2), x3, x4, none], [], (zS0, R, I, J)) r) : zEv X d zm_174 (6, [some (.ref 215), some (.int x1), some (.int x2), x3, x4, none], [], (zS0, R, I, J)) r := by
  refine zEv_k 3 (f' := (if (I 215 12) = 0 then 106 else 13, [some (.ref 215), some (.int x1), some (.int x2), x3, x4, none], [], (zS0, R, I, J))) rfl ?_
  exact zEv_if k1 k2
theorem b_174_13 {X : zX} {d : Nat} {R : zR} {I : zI} {J : zJ} {r : zA} {x1 : Int32} {x2 : Int32} {x3 : Option Value} {x4 : Option Value} (k1 : ¬ (I 215 12) = 2 → zEv X d zm_174 (33, [some (.ref 215), some (.int x1), some (.int x2), some (.int (I 215 11)), x4, none], [], (zS0, R, I, J)) r) (k2 : ¬ (¬ (I 215 12) = 2) → zEv X d zm_174 (26, [some (.ref 215), some (.int x1), some (.int x2), some (.int (I 215 11)), x4, none], [], (zS0, R, I, J)) r) : zEv X d zm_174 (13, [some (.ref 215), some (.int x1), some (.int x2), x3, x4, none], [], (zS0, R, I, J)) r := by
  refine zEv_k 7 (f' := (if ¬ (I 215 12) = 2 then 33 else 26, [some (.ref 215), some (.int x1), some (.int x2), some (.int (I 215 11)), x4, none], [], (zS0, R, I, J))) rfl ?_
  exact zEv_if k1 k2
theorem b_174_26 {X : zX} {d : Nat} {R : zR} {I : zI} {J : zJ} {r : zA} {x1 : Int32} {x2 : Int32} {x3 : Int32} {x4 : Option Value} (k1 : zEv X d zm_174 (34, [some (.ref 215), some (.int x1), some (.int x2), some (.int x3), x4, none], [.long (J 215 14)], (zS0, R, I, J)) r) : zEv X d zm_174 (26, [some (.ref 215), some (.int x1), some (.int x2), some (.int x3), x4, none], [], (zS0, R, I, J)) r := by
  refine zEv_k 3 (f' := (34, [some (.ref 215), some (.int x1), some (.int x2), some (.int x3), x4, none], [.long (J 215 14)], (zS0, R, I, J))) rfl ?_
  exact k1
theorem b_174_33 {X : zX} {d : Nat} {R : zR} {I : zI} {J : zJ} {r : zA} {x1 : Int32} {x2 : Int32} {x3 : Int32} {x4 : Option Value} (k1 : zEv X d zm_174 (34, [some (.ref 215), some (.int x1), some (.int x2), some (.int x3), x4, none], [.long 0], (zS0, R, I, J)) r) : zEv X d zm_174 (33, [some (.ref 215), some (.int x1), some (.int x2), some (.int x3), x4, none], [], (zS0, R, I, J)) r := by
  refine zEv_k 1 (f' := (34, [some (.ref 215), some (.int x1), some (.int x2), some (.int x3), x4, none], [.long 0], (zS0, R, I, J))) rfl ?_
  exact k1
theorem b_174_34 {X : zX} {d : Nat} {R : zR} {I : zI} {J : zJ} {r : zA} {x1 : Int32} {x2 : Int32} {x3 : Int32} {x4 : Option Value} {s0 : Int64} (k1 : ¬ x1 = 0 → zEv X d zm_174 (55, [some (.ref 215), some (.int x1), some (.int x2), some (.int x3), some (.long s0), none], [], (zS0, R, zu I 215 21 1, J)) r) (k2 : ¬ (¬ x1 = 0) → zEv X d zm_174 (45, [some (.ref 215), some (.int x1), some (.int x2), some (.int x3), some (.long s0), none], [], (zS0, R, zu I 215 21 1, J)) r) : zEv X d zm_174 (34, [some (.ref 215), some (.int x1), some (.int x2), some (.int x3), x4, none], [.long s0], (zS0, R, I, J)) r := by
  refine zEv_k 6 (f' := (if ¬ x1 = 0 then 55 else 45, [some (.ref 215), some (.int x1), some (.int x2), some (.int x3), some (.long s0), none], [], (zS0, R, zu I 215 21 1, J))) rfl ?_
  exact zEv_if k1 k2
theorem b_174_45 {X : zX} {d : Nat} {R : zR} {I : zI} {J : zJ} {r : zA} {x1 : Int32} {x2 : Int32} {x3 : Int32} {x4 : Int64} {w : Int32} {R' : zR} {I' : zI} {J' : zJ} (hc : zEv X d zm_169 (0, [some (.ref 215), some (.long x4), none, some (.int x3), none], [], (zS0, R, I, J)) (some (.int w), (zS0, R', I', J'))) (k1 : zEv X (d + 1) zm_174 (52, [some (.ref 215), some (.int x1), some (.int x2), some (.int x3), some (.long x4), none], [.int w], (zS0, R', I', J')) r) : zEv X (d + 1) zm_174 (45, [some (.ref 215), some (.int x1), some (.int x2), some (.int x3), some (.long x4), none], [], (zS0, R, I, J)) r := by
  refine zEv_k 3 (f' := (49, [some (.ref 215), some (.int x1), some (.int x2), some (.int x3), some (.long x4), none], [.int x3, .long x4, .ref 215], (zS0, R, I, J))) rfl ?_
  exact zEv_c (fun _ => rfl) rfl hc rfl rfl k1
theorem b_174_52 {X : zX} {d : Nat} {R : zR} {I : zI} {J : zJ} {r : zA} {x1 : Int32} {x2 : Int32} {x3 : Int32} {x4 : Int64} {s0 : Int32} (k1 : zEv X d zm_174 (77, [some (.ref 215), some (.int x1), some (.int x2), some (.int x3), some (.long x4), none], [.int s0], (zS0, R, I, J)) r) : zEv X d zm_174 (52, [some (.ref 215), some (.int x1), some (.int x2), some (.int x3), some (.long x4), none], [.int s0], (zS0, R, I, J)) r := by
  refine zEv_k 1 (f' := (77, [some (.ref 215), some (.int x1), some (.int x2), some (.int x3), some (.long x4), none], [.int s0], (zS0, R, I, J))) rfl ?_
  exact k1
theorem b_174_55 {X : zX} {d : Nat} {R : zR} {I : zI} {J : zJ} {r : zA} {x1 : Int32} {x2 : Int32} {x3 : Int32} {x4 : Int64} (k1 : ¬ x1 = 1 → zEv X d zm_174 (70, [some (.ref 215), some (.int x1), some (.int x2), some (.int x3), some (.long x4), none], [], (zS0, R, I, J)) r) (k2 : ¬ (¬ x1 = 1) → zEv X d zm_174 (60, [some (.ref 215), some (.int x1), some (.int x2), some (.int x3), some (.long x4), none], [], (zS0, R, I, J)) r) : zEv X d zm_174 (55, [some (.ref 215), some (.int x1), some (.int x2), some (.int x3), some (.long x4), none], [], (zS0, R, I, J)) r := by
  refine zEv_k 3 (f' := (if ¬ x1 = 1 then 70 else 60, [some (.ref 215), some (.int x1), some (.int x2), some (.int x3), some (.long x4), none], [], (zS0, R, I, J))) rfl ?_
  exact zEv_if k1 k2
theorem b_174_60 {X : zX} {d : Nat} {R : zR} {I : zI} {J : zJ} {r : zA} {x1 : Int32} {x2 : Int32} {x3 : Int32} {x4 : Int64} {w : Int32} {R' : zR} {I' : zI} {J' : zJ} (hc : zEv X d zm_172 (0, [some (.ref 215), some (.long x4), none, some (.int x3), none], [], (zS0, R, I, J)) (some (.int w), (zS0, R', I', J'))) (k1 : zEv X (d + 1) zm_174 (67, [some (.ref 215), some (.int x1), some (.int x2), some (.int x3), some (.long x4), none], [.int w], (zS0, R', I', J')) r) : zEv X (d + 1) zm_174 (60, [some (.ref 215), some (.int x1), some (.int x2), some (.int x3), some (.long x4), none], [], (zS0, R, I, J)) r := by
  refine zEv_k 3 (f' := (64, [some (.ref 215), some (.int x1), some (.int x2), some (.int x3), some (.long x4), none], [.int x3, .long x4, .ref 215], (zS0, R, I, J))) rfl ?_
  exact zEv_c (fun _ => rfl) rfl hc rfl rfl k1
theorem b_174_67 {X : zX} {d : Nat} {R : zR} {I : zI} {J : zJ} {r : zA} {x1 : Int32} {x2 : Int32} {x3 : Int32} {x4 : Int64} {s0 : Int32} (k1 : zEv X d zm_174 (77, [some (.ref 215), some (.int x1), some (.int x2), some (.int x3), some (.long x4), none], [.int s0], (zS0, R, I, J)) r) : zEv X d zm_174 (67, [some (.ref 215), some (.int x1), some (.int x2), some (.int x3), some (.long x4), none], [.int s0], (zS0, R, I, J)) r := by
  refine zEv_k 1 (f' := (77, [some (.ref 215), some (.int x1), some (.int x2), some (.int x3), some (.long x4), none], [.int s0], (zS0, R, I, J))) rfl ?_
  exact k1
theorem b_174_70 {X : zX} {d : Nat} {R : zR} {I : zI} {J : zJ} {r : zA} {x1 : Int32} {x2 : Int32} {x3 : Int32} {x4 : Int64} {w : Int32} {R' : zR} {I' : zI} {J' : zJ} (hc : zEv X d zm_173 (0, [some (.ref 215), some (.long x4), none, some (.int x3)], [], (zS0, R, I, J)) (some (.int w), (zS0, R', I', J'))) (k1 : zEv X (d + 1) zm_174 (77, [some (.ref 215), some (.int x1), some (.int x2), some (.int x3), some (.long x4), none], [.int w], (zS0, R', I', J')) r) : zEv X (d + 1) zm_174 (70, [some (.ref 215), some (.int x1), some (.int x2), some (.int x3), some (.long x4), none], [], (zS0, R, I, J)) r := by
  refine zEv_k 3 (f' := (74, [some (.ref 215), some (.int x1), some (.int x2), some (.int x3), some (.long x4), none], [.int x3, .long x4, .ref 215], (zS0, R, I, J))) rfl ?_
  exact zEv_c (fun _ => rfl) rfl hc rfl rfl k1
theorem b_174_77 {X : zX} {d : Nat} {R : zR} {I : zI} {J : zJ} {r : zA} {x1 : Int32} {x2 : Int32} {x3 : Int32} {x4 : Int64} {s0 : Int32} (k1 : s0 = 0 → zEv X d zm_174 (95, [some (.ref 215), some (.int x1), some (.int s0), some (.int x3), some (.long x4), none], [], (zS0, R, I, J)) r) (k2 : ¬ (s0 = 0) → zEv X d zm_174 (82, [some (.ref 215), some (.int x1), some (.int s0), some (.int x3), some (.long x4), none], [], (zS0, R, I, J)) r) : zEv X d zm_174 (77, [some (.ref 215), some (.int x1), some (.int x2), some (.int x3), some (.long x4), none], [.int s0], (zS0, R, I, J)) r := by
  refine zEv_k 3 (f' := (if s0 = 0 then 95 else 82, [some (.ref 215), some (.int x1), some (.int s0), some (.int x3), some (.long x4), none], [], (zS0, R, I, J))) rfl ?_
  exact zEv_if k1 k2
theorem b_174_82 {X : zX} {d : Nat} {R : zR} {I : zI} {J : zJ} {r : zA} {x1 : Int32} {x2 : Int32} {x3 : Int32} {x4 : Int64} (k1 : (I 215 12) = 4 → zEv X d zm_174 (95, [some (.ref 215), some (.int x1), some (.int x2), some (.int x3), some (.long x4), none], [], (zS0, R, I, J)) r) (k2 : ¬ ((I 215 12) = 4) → zEv X d zm_174 (90, [some (.ref 215), some (.int x1), some (.int x2), some (.int x3), some (.long x4), none], [], (zS0, R, I, J)) r) : zEv X d zm_174 (82, [some (.ref 215), some (.int x1), some (.int x2), some (.int x3), some (.long x4), none], [], (zS0, R, I, J)) r := by
  refine zEv_k 4 (f' := (if (I 215 12) = 4 then 95 else 90, [some (.ref 215), some (.int x1), some (.int x2), some (.int x3), some (.long x4), none], [], (zS0, R, I, J))) rfl ?_
  exact zEv_if k1 k2
theorem b_174_90 {X : zX} {d : Nat} {R : zR} {I : zI} {J : zJ} {r : zA} {x1 : Int32} {x2 : Int32} {x3 : Int32} {x4 : Int64} {w : Int32} {R' : zR} {I' : zI} {J' : zJ} (hc : zEv X d zm_163 (0, [some (.ref 215)], [], (zS0, R, I, J)) (some (.int w), (zS0, R', I', J'))) (k1 : zEv X (d + 1) zm_174 (94, [some (.ref 215), some (.int x1), some (.int x2), some (.int x3), some (.long x4), none], [.int w], (zS0, R', I', J')) r) : zEv X (d + 1) zm_174 (90, [some (.ref 215), some (.int x1), some (.int x2), some (.int x3), some (.long x4), none], [], (zS0, R, I, J)) r := by
  refine zEv_k 1 (f' := (91, [some (.ref 215), some (.int x1), some (.int x2), some (.int x3), some (.long x4), none], [.ref 215], (zS0, R, I, J))) rfl ?_
  exact zEv_c (fun _ => rfl) rfl hc rfl rfl k1
theorem b_174_94 {X : zX} {d : Nat} {R : zR} {I : zI} {J : zJ} {r : zA} {x1 : Int32} {x2 : Int32} {x3 : Int32} {x4 : Int64} {s0 : Int32} (k1 : zEv X d zm_174 (95, [some (.ref 215), some (.int x1), some (.int s0), some (.int x3), some (.long x4), none], [], (zS0, R, I, J)) r) : zEv X d zm_174 (94, [some (.ref 215), some (.int x1), some (.int x2), some (.int x3), some (.long x4), none], [.int s0], (zS0, R, I, J)) r := by
  refine zEv_k 1 (f' := (95, [some (.ref 215), some (.int x1), some (.int s0), some (.int x3), some (.long x4), none], [], (zS0, R, I, J))) rfl ?_
  exact k1
theorem b_174_95 {X : zX} {d : Nat} {R : zR} {I : zI} {J : zJ} {r : zA} {x1 : Int32} {x2 : Int32} {x3 : Int32} {x4 : Int64} (k1 : x2 = 0 → zEv X d zm_174 (103, [some (.ref 215), some (.int x1), some (.int x2), some (.int x3), some (.long x4), none], [], (zS0, R, I, J)) r) (k2 : ¬ (x2 = 0) → zEv X d zm_174 (99, [some (.ref 215), some (.int x1), some (.int x2), some (.int x3), some (.long x4), none], [], (zS0, R, I, J)) r) : zEv X d zm_174 (95, [some (.ref 215), some (.int x1), some (.int x2), some (.int x3), some (.long x4), none], [], (zS0, R, I, J)) r := by
  refine zEv_k 2 (f' := (if x2 = 0 then 103 else 99, [some (.ref 215), some (.int x1), some (.int x2), some (.int x3), some (.long x4), none], [], (zS0, R, I, J))) rfl ?_
  exact zEv_if k1 k2
theorem b_174_99 {X : zX} {d : Nat} {R : zR} {I : zI} {J : zJ} {r : zA} {x1 : Int32} {x2 : Int32} {x3 : Int32} {x4 : Int64} {R' : zR} {I' : zI} {J' : zJ} (hc : zEv X d zm_162 (0, [some (.ref 215), none, none], [], (zS0, R, I, J)) (none, (zS0, R', I', J'))) (k1 : zEv X (d + 1) zm_174 (103, [some (.ref 215), some (.int x1), some (.int x2), some (.int x3), some (.long x4), none], [], (zS0, R', I', J')) r) : zEv X (d + 1) zm_174 (99, [some (.ref 215), some (.int x1), some (.int x2), some (.int x3), some (.long x4), none], [], (zS0, R, I, J)) r := by
  refine zEv_k 1 (f' := (100, [some (.ref 215), some (.int x1), some (.int x2), some (.int x3), some (.long x4), none], [.ref 215], (zS0, R, I, J))) rfl ?_
  exact zEv_c (fun _ => rfl) rfl hc rfl rfl k1
theorem b_174_103 {X : zX} {d : Nat} {R : zR} {I : zI} {J : zJ} {r : zA} {x1 : Int32} {x2 : Int32} {x3 : Int32} {x4 : Int64} (k1 : zEv X d zm_174 (2, [some (.ref 215), some (.int x1), some (.int x2), some (.int x3), some (.long x4), none], [], (zS0, R, I, J)) r) : zEv X d zm_174 (103, [some (.ref 215), some (.int x1), some (.int x2), some (.int x3), some (.long x4), none], [], (zS0, R, I, J)) r := by
  refine zEv_k 1 (f' := (2, [some (.ref 215), some (.int x1), some (.int x2), some (.int x3), some (.long x4), none], [], (zS0, R, I, J))) rfl ?_
  exact k1
theorem b_174_106 {X : zX} {d : Nat} {R : zR} {I : zI} {J : zJ} {x1 : Int32} {x2 : Int32} {x3 : Option Value} {x4 : Option Value} (h107 : zbool x2 = true) : zEv X d zm_174 (106, [some (.ref 215), some (.int x1), some (.int x2), x3, x4, none], [], (zS0, R, I, J)) (some (.int x2), (zS0, R, I, J)) := by
  refine zEv_k 1 (f' := (107, [some (.ref 215), some (.int x1), some (.int x2), x3, x4, none], [.int x2], (zS0, R, I, J))) rfl ?_
  exact zEv_rz rfl rfl h107
theorem b_175_0 {X : zX} {d : Nat} {R : zR} {I : zI} {J : zJ} {r : zA} {x1 : Int32} (k1 : zEv X d zm_175 (2, [some (.ref 215), some (.int x1), some (.int 0)], [], (zS0, R, I, J)) r) : zEv X d zm_175 (0, [some (.ref 215), some (.int x1), none], [], (zS0, R, I, J)) r := by
  refine zEv_k 2 (f' := (2, [some (.ref 215), some (.int x1), some (.int 0)], [], (zS0, R, I, J))) rfl ?_
  exact k1
theorem b_175_2 {X : zX} {d : Nat} {R : zR} {I : zI} {J : zJ} {r : zA} {x1 : Int32} {x2 : Int32} (k1 : 121 ≤ x2 → zEv X d zm_175 (21, [some (.ref 215), some (.int x1), some (.int x2)], [], (zS0, R, I, J)) r) (k2 : ¬ (121 ≤ x2) → zEv X d zm_175 (8, [some (.ref 215), some (.int x1), some (.int x2)], [], (zS0, R, I, J)) r) : zEv X d zm_175 (2, [some (.ref 215), some (.int x1), some (.int x2)], [], (zS0, R, I, J)) r := by
  refine zEv_k 3 (f' := (if 121 ≤ x2 then 21 else 8, [some (.ref 215), some (.int x1), some (.int x2)], [], (zS0, R, I, J))) rfl ?_
  exact zEv_if k1 k2
theorem b_175_8 {X : zX} {d : Nat} {R : zR} {I : zI} {J : zJ} {r : zA} {x1 : Int32} {x2 : Int32} (hR : zRok R) (h14 : zin x2 121) (k1 : zEv X d zm_175 (2, [some (.ref 215), some (.int x1), some (.int (x2 + 1))], [], (zS0, R, zu I 224 (x2).toNatClampNeg 0, J)) r) : zEv X d zm_175 (8, [some (.ref 215), some (.int x1), some (.int x2)], [], (zS0, R, I, J)) r := by
  refine zEv_k 1 (f' := (9, [some (.ref 215), some (.int x1), some (.int x2)], [.ref 215], (zS0, R, I, J))) rfl ?_
  refine zEv_gr rfl rfl rfl (by decide) (hR 215 18 224 rfl) ?_
  refine zEv_k 2 (f' := (14, [some (.ref 215), some (.int x1), some (.int x2)], [.int 0, .int x2, .ref 224], (zS0, R, I, J))) rfl ?_
  refine zEv_ias rfl rfl (by decide) h14 ?_
  refine zEv_k 2 (f' := (2, [some (.ref 215), some (.int x1), some (.int (x2 + 1))], [], (zS0, R, zu I 224 (x2).toNatClampNeg 0, J))) rfl ?_
  exact k1
theorem b_175_21 {X : zX} {d : Nat} {R : zR} {I : zI} {J : zJ} {r : zA} {x1 : Int32} {x2 : Int32} (hR : zRok R) (k1 : ¬ x1 = 0 → zEv X d zm_175 (34, [some (.ref 215), some (.int x1), some (.int x2)], [.int 0, .ref 224], (zS0, R, I, J)) r) (k2 : ¬ (¬ x1 = 0) → zEv X d zm_175 (30, [some (.ref 215), some (.int x1), some (.int x2)], [.int 0, .ref 224], (zS0, R, I, J)) r) : zEv X d zm_175 (21, [some (.ref 215), some (.int x1), some (.int x2)], [], (zS0, R, I, J)) r := by
  refine zEv_k 1 (f' := (22, [some (.ref 215), some (.int x1), some (.int x2)], [.ref 215], (zS0, R, I, J))) rfl ?_
  refine zEv_gr rfl rfl rfl (by decide) (hR 215 18 224 rfl) ?_
  refine zEv_k 3 (f' := (if ¬ x1 = 0 then 34 else 30, [some (.ref 215), some (.int x1), some (.int x2)], [.int 0, .ref 224], (zS0, R, I, J))) rfl ?_
  exact zEv_if k1 k2
theorem b_175_30 {X : zX} {d : Nat} {R : zR} {I : zI} {J : zJ} {r : zA} {x1 : Int32} {x2 : Int32} {s1 : Int32} (k1 : zEv X d zm_175 (35, [some (.ref 215), some (.int x1), some (.int x2)], [.int 3, .int s1, .ref 224], (zS0, R, I, J)) r) : zEv X d zm_175 (30, [some (.ref 215), some (.int x1), some (.int x2)], [.int s1, .ref 224], (zS0, R, I, J)) r := by
  refine zEv_k 2 (f' := (35, [some (.ref 215), some (.int x1), some (.int x2)], [.int 3, .int s1, .ref 224], (zS0, R, I, J))) rfl ?_
  exact k1
theorem b_175_34 {X : zX} {d : Nat} {R : zR} {I : zI} {J : zJ} {r : zA} {x1 : Int32} {x2 : Int32} {s1 : Int32} (k1 : zEv X d zm_175 (35, [some (.ref 215), some (.int x1), some (.int x2)], [.int 0, .int s1, .ref 224], (zS0, R, I, J)) r) : zEv X d zm_175 (34, [some (.ref 215), some (.int x1), some (.int x2)], [.int s1, .ref 224], (zS0, R, I, J)) r := by
  refine zEv_k 1 (f' := (35, [some (.ref 215), some (.int x1), some (.int x2)], [.int 0, .int s1, .ref 224], (zS0, R, I, J))) rfl ?_
  exact k1
theorem b_175_35 {X : zX} {d : Nat} {R : zR} {I : zI} {J : zJ} {r : zA} {x1 : Int32} {x2 : Int32} {s1 : Int32} {s2 : Int32} (hR : zRok R) (h35 : zin s1 121) (k1 : ¬ x1 = 0 → zEv X d zm_175 (49, [some (.ref 215), some (.int x1), some (.int x2)], [.int 1, .ref 224], (zS0, R, zu I 224 (s1).toNatClampNeg s2, J)) r) (k2 : ¬ (¬ x1 = 0) → zEv X d zm_175 (45, [some (.ref 215), some (.int x1), some (.int x2)], [.int 1, .ref 224], (zS0, R, zu I 224 (s1).toNatClampNeg s2, J)) r) : zEv X d zm_175 (35, [some (.ref 215), some (.int x1), some (.int x2)], [.int s2, .int s1, .ref 224], (zS0, R, I, J)) r := by
  refine zEv_ias rfl rfl (by decide) h35 ?_
  refine zEv_k 1 (f' := (37, [some (.ref 215), some (.int x1), some (.int x2)], [.ref 215], (zS0, R, zu I 224 (s1).toNatClampNeg s2, J))) rfl ?_
  refine zEv_gr rfl rfl rfl (by decide) (hR 215 18 224 rfl) ?_
  refine zEv_k 3 (f' := (if ¬ x1 = 0 then 49 else 45, [some (.ref 215), some (.int x1), some (.int x2)], [.int 1, .ref 224], (zS0, R, zu I 224 (s1).toNatClampNeg s2, J))) rfl ?_
  exact zEv_if k1 k2
theorem b_175_45 {X : zX} {d : Nat} {R : zR} {I : zI} {J : zJ} {r : zA} {x1 : Int32} {x2 : Int32} {s1 : Int32} (k1 : zEv X d zm_175 (50, [some (.ref 215), some (.int x1), some (.int x2)], [.int 1, .int s1, .ref 224], (zS0, R, I, J)) r) : zEv X d zm_175 (45, [some (.ref 215), some (.int x1), some (.int x2)], [.int s1, .ref 224], (zS0, R, I, J)) r := by
  refine zEv_k 2 (f' := (50, [some (.ref 215), some (.int x1), some (.int x2)], [.int 1, .int s1, .ref 224], (zS0, R, I, J))) rfl ?_
  exact k1
theorem b_175_49 {X : zX} {d : Nat} {R : zR} {I : zI} {J : zJ} {r : zA} {x1 : Int32} {x2 : Int32} {s1 : Int32} (k1 : zEv X d zm_175 (50, [some (.ref 215), some (.int x1), some (.int x2)], [.int 0, .int s1, .ref 224], (zS0, R, I, J)) r) : zEv X d zm_175 (49, [some (.ref 215), some (.int x1), some (.int x2)], [.int s1, .ref 224], (zS0, R, I, J)) r := by
  refine zEv_k 1 (f' := (50, [some (.ref 215), some (.int x1), some (.int x2)], [.int 0, .int s1, .ref 224], (zS0, R, I, J))) rfl ?_
  exact k1
theorem b_175_50 {X : zX} {d : Nat} {R : zR} {I : zI} {J : zJ} {r : zA} {x1 : Int32} {x2 : Int32} {s1 : Int32} {s2 : Int32} {R' : zR} {I' : zI} {J' : zJ} (h50 : zin s1 121) (hc : zEv X d zm_162 (0, [some (.ref 215), none, none], [], (zS0, R, zu (zu (zu (zu I 224 (s1).toNatClampNeg s2) 215 20 (-1)) 215 9 0) 215 16 0, J)) (none, (zS0, R', I', J'))) (k1 : zEv X (d + 1) zm_175 (70, [some (.ref 215), some (.int x1), some (.int x2)], [], (zS0, R', I', J')) r) : zEv X (d + 1) zm_175 (50, [some (.ref 215), some (.int x1), some (.int x2)], [.int s2, .int s1, .ref 224], (zS0, R, I, J)) r := by
  refine zEv_ias rfl rfl (by decide) h50 ?_
  refine zEv_k 9 (f' := (66, [some (.ref 215), some (.int x1), some (.int x2)], [], (zS0, R, zu (zu (zu (zu I 224 (s1).toNatClampNeg s2) 215 20 (-1)) 215 9 0) 215 16 0, J))) rfl ?_
  refine zEv_k 1 (f' := (67, [some (.ref 215), some (.int x1), some (.int x2)], [.ref 215], (zS0, R, zu (zu (zu (zu I 224 (s1).toNatClampNeg s2) 215 20 (-1)) 215 9 0) 215 16 0, J))) rfl ?_
  exact zEv_c (fun _ => rfl) rfl hc rfl rfl k1
theorem b_175_70 {X : zX} {d : Nat} {R : zR} {I : zI} {J : zJ} {r : zA} {x1 : Int32} {x2 : Int32} {w : Int32} {R' : zR} {I' : zI} {J' : zJ} (hc : zEv X d zm_174 (0, [some (.ref 215), some (.int x1), none, none, none, none], [], (zS0, R, I, J)) (some (.int w), (zS0, R', I', J'))) (k1 : zEv X (d + 1) zm_175 (75, [some (.ref 215), some (.int x1), some (.int x2)], [.int w], (zS0, R', I', J')) r) : zEv X (d + 1) zm_175 (70, [some (.ref 215), some (.int x1), some (.int x2)], [], (zS0, R, I, J)) r := by
  refine zEv_k 2 (f' := (72, [some (.ref 215), some (.int x1), some (.int x2)], [.int x1, .ref 215], (zS0, R, I, J))) rfl ?_
  exact zEv_c (fun _ => rfl) rfl hc rfl rfl k1
theorem b_175_75 {X : zX} {d : Nat} {R : zR} {I : zI} {J : zJ} {r : zA} {x1 : Int32} {x2 : Int32} {s0 : Int32} (k1 : s0 = 0 → zEv X d zm_175 (113, [some (.ref 215), some (.int x1), some (.int s0)], [], (zS0, R, I, J)) r) (k2 : ¬ (s0 = 0) → zEv X d zm_175 (80, [some (.ref 215), some (.int x1), some (.int s0)], [], (zS0, R, I, J)) r) : zEv X d zm_175 (75, [some (.ref 215), some (.int x1), some (.int x2)], [.int s0], (zS0, R, I, J)) r := by
  refine zEv_k 3 (f' := (if s0 = 0 then 113 else 80, [some (.ref 215), some (.int x1), some (.int s0)], [], (zS0, R, I, J))) rfl ?_
  exact zEv_if k1 k2
theorem b_175_80 {X : zX} {d : Nat} {R : zR} {I : zI} {J : zJ} {r : zA} {x1 : Int32} {x2 : Int32} (k1 : ¬ x1 = 0 → zEv X d zm_175 (113, [some (.ref 215), some (.int x1), some (.int x2)], [], (zS0, R, I, J)) r) (k2 : ¬ (¬ x1 = 0) → zEv X d zm_175 (84, [some (.ref 215), some (.int x1), some (.int x2)], [], (zS0, R, I, J)) r) : zEv X d zm_175 (80, [some (.ref 215), some (.int x1), some (.int x2)], [], (zS0, R, I, J)) r := by
  refine zEv_k 2 (f' := (if ¬ x1 = 0 then 113 else 84, [some (.ref 215), some (.int x1), some (.int x2)], [], (zS0, R, I, J))) rfl ?_
  exact zEv_if k1 k2
theorem b_175_84 {X : zX} {d : Nat} {R : zR} {I : zI} {J : zJ} {r : zA} {x1 : Int32} {x2 : Int32} (k1 : ¬ (I 215 16) = 0 → zEv X d zm_175 (113, [some (.ref 215), some (.int x1), some (.int x2)], [], (zS0, R, I, J)) r) (k2 : ¬ (¬ (I 215 16) = 0) → zEv X d zm_175 (91, [some (.ref 215), some (.int x1), some (.int x2)], [], (zS0, R, I, J)) r) : zEv X d zm_175 (84, [some (.ref 215), some (.int x1), some (.int x2)], [], (zS0, R, I, J)) r := by
  refine zEv_k 3 (f' := (if ¬ (I 215 16) = 0 then 113 else 91, [some (.ref 215), some (.int x1), some (.int x2)], [], (zS0, R, I, J))) rfl ?_
  exact zEv_if k1 k2
theorem b_175_91 {X : zX} {d : Nat} {R : zR} {I : zI} {J : zJ} {r : zA} {x1 : Int32} {x2 : Int32} (hR : zRok R) (k1 : (I 215 20) < (I 224 (2 : Int32).toNatClampNeg) → zEv X d zm_175 (113, [some (.ref 215), some (.int x1), some (.int x2)], [], (zS0, R, I, J)) r) (k2 : ¬ ((I 215 20) < (I 224 (2 : Int32).toNatClampNeg)) → zEv X d zm_175 (104, [some (.ref 215), some (.int x1), some (.int x2)], [], (zS0, R, I, J)) r) : zEv X d zm_175 (91, [some (.ref 215), some (.int x1), some (.int x2)], [], (zS0, R, I, J)) r := by
  refine zEv_k 3 (f' := (96, [some (.ref 215), some (.int x1), some (.int x2)], [.ref 215, .int (I 215 20)], (zS0, R, I, J))) rfl ?_
  refine zEv_gr rfl rfl rfl (by decide) (hR 215 18 224 rfl) ?_
  refine zEv_k 1 (f' := (100, [some (.ref 215), some (.int x1), some (.int x2)], [.int 2, .ref 224, .int (I 215 20)], (zS0, R, I, J))) rfl ?_
  refine zEv_ial rfl rfl (by decide) (by unfold zin; decide) ?_
  refine zEv_k 1 (f' := (if (I 215 20) < (I 224 (2 : Int32).toNatClampNeg) then 113 else 104, [some (.ref 215), some (.int x1), some (.int x2)], [], (zS0, R, I, J))) rfl ?_
  exact zEv_if k1 k2
theorem b_175_104 {X : zX} {d : Nat} {R : zR} {I : zI} {J : zJ} {r : zA} {x1 : Int32} {x2 : Int32} {R' : zR} {I' : zI} {J' : zJ} (hc : zEv X d zm_164 (0, [some (.ref 215), some (.int 4), some (.int (I 215 11))], [], (zS0, R, I, J)) (none, (zS0, R', I', J'))) (k1 : zEv X (d + 1) zm_175 (113, [some (.ref 215), some (.int x1), some (.int x2)], [], (zS0, R', I', J')) r) : zEv X (d + 1) zm_175 (104, [some (.ref 215), some (.int x1), some (.int x2)], [], (zS0, R, I, J)) r := by
  refine zEv_k 4 (f' := (110, [some (.ref 215), some (.int x1), some (.int x2)], [.int (I 215 11), .int 4, .ref 215], (zS0, R, I, J))) rfl ?_
  exact zEv_c (fun _ => rfl) rfl hc rfl rfl k1
theorem b_175_113 {X : zX} {d : Nat} {R : zR} {I : zI} {J : zJ} {r : zA} {x1 : Int32} {x2 : Int32} (hR : zRok R) (k1 : x2 = 0 → zEv X d zm_175 (129, [some (.ref 215), some (.int x1), some (.int x2)], [.int 0, .ref 218], (zS0, R, I, J)) r) (k2 : ¬ (x2 = 0) → zEv X d zm_175 (122, [some (.ref 215), some (.int x1), some (.int x2)], [.int 0, .ref 218], (zS0, R, I, J)) r) : zEv X d zm_175 (113, [some (.ref 215), some (.int x1), some (.int x2)], [], (zS0, R, I, J)) r := by
  refine zEv_k 1 (f' := (114, [some (.ref 215), some (.int x1), some (.int x2)], [.ref 215], (zS0, R, I, J))) rfl ?_
  refine zEv_gr rfl rfl rfl (by decide) (hR 215 3 218 rfl) ?_
  refine zEv_k 3 (f' := (if x2 = 0 then 129 else 122, [some (.ref 215), some (.int x1), some (.int x2)], [.int 0, .ref 218], (zS0, R, I, J))) rfl ?_
  exact zEv_if k1 k2
theorem b_175_122 {X : zX} {d : Nat} {R : zR} {I : zI} {J : zJ} {r : zA} {x1 : Int32} {x2 : Int32} {s1 : Int32} (k1 : zEv X d zm_175 (130, [some (.ref 215), some (.int x1), some (.int x2)], [.int (I 215 16), .int s1, .ref 218], (zS0, R, I, J)) r) : zEv X d zm_175 (122, [some (.ref 215), some (.int x1), some (.int x2)], [.int s1, .ref 218], (zS0, R, I, J)) r := by
  refine zEv_k 3 (f' := (130, [some (.ref 215), some (.int x1), some (.int x2)], [.int (I 215 16), .int s1, .ref 218], (zS0, R, I, J))) rfl ?_
  exact k1
theorem b_175_129 {X : zX} {d : Nat} {R : zR} {I : zI} {J : zJ} {r : zA} {x1 : Int32} {x2 : Int32} {s1 : Int32} (k1 : zEv X d zm_175 (130, [some (.ref 215), some (.int x1), some (.int x2)], [.int 1, .int s1, .ref 218], (zS0, R, I, J)) r) : zEv X d zm_175 (129, [some (.ref 215), some (.int x1), some (.int x2)], [.int s1, .ref 218], (zS0, R, I, J)) r := by
  refine zEv_k 1 (f' := (130, [some (.ref 215), some (.int x1), some (.int x2)], [.int 1, .int s1, .ref 218], (zS0, R, I, J))) rfl ?_
  exact k1
theorem b_175_130 {X : zX} {d : Nat} {R : zR} {I : zI} {J : zJ} {r : zA} {x1 : Int32} {x2 : Int32} {s1 : Int32} {s2 : Int32} (hR : zRok R) (h130 : zin s1 4) (k1 : ¬ x2 = 0 → zEv X d zm_175 (147, [some (.ref 215), some (.int x1), some (.int x2)], [.int 0, .ref 219], (zS0, R, zu I 218 (s1).toNatClampNeg s2, J)) r) (k2 : ¬ (¬ x2 = 0) → zEv X d zm_175 (140, [some (.ref 215), some (.int x1), some (.int x2)], [.int 0, .ref 219], (zS0, R, zu I 218 (s1).toNatClampNeg s2, J)) r) : zEv X d zm_175 (130, [some (.ref 215), some (.int x1), some (.int x2)], [.int s2, .int s1, .ref 218], (zS0, R, I, J)) r := by
  refine zEv_ias rfl rfl (by decide) h130 ?_
  refine zEv_k 1 (f' := (132, [some (.ref 215), some (.int x1), some (.int x2)], [.ref 215], (zS0, R, zu I 218 (s1).toNatClampNeg s2, J))) rfl ?_
  refine zEv_gr rfl rfl rfl (by decide) (hR 215 4 219 rfl) ?_
  refine zEv_k 3 (f' := (if ¬ x2 = 0 then 147 else 140, [some (.ref 215), some (.int x1), some (.int x2)], [.int 0, .ref 219], (zS0, R, zu I 218 (s1).toNatClampNeg s2, J))) rfl ?_
  exact zEv_if k1 k2
theorem b_175_140 {X : zX} {d : Nat} {R : zR} {I : zI} {J : zJ} {r : zA} {x1 : Int32} {x2 : Int32} {s1 : Int32} (k1 : zEv X d zm_175 (162, [some (.ref 215), some (.int x1), some (.int x2)], [.int (I 215 15), .int s1, .ref 219], (zS0, R, I, J)) r) : zEv X d zm_175 (140, [some (.ref 215), some (.int x1), some (.int x2)], [.int s1, .ref 219], (zS0, R, I, J)) r := by
  refine zEv_k 3 (f' := (162, [some (.ref 215), some (.int x1), some (.int x2)], [.int (I 215 15), .int s1, .ref 219], (zS0, R, I, J))) rfl ?_
  exact k1
theorem b_175_147 {X : zX} {d : Nat} {R : zR} {I : zI} {J : zJ} {r : zA} {x1 : Int32} {x2 : Int32} {s1 : Int32} (k1 : (I 215 16) ≤ 0 → zEv X d zm_175 (161, [some (.ref 215), some (.int x1), some (.int x2)], [.int s1, .ref 219], (zS0, R, I, J)) r) (k2 : ¬ ((I 215 16) ≤ 0) → zEv X d zm_175 (154, [some (.ref 215), some (.int x1), some (.int x2)], [.int s1, .ref 219], (zS0, R, I, J)) r) : zEv X d zm_175 (147, [some (.ref 215), some (.int x1), some (.int x2)], [.int s1, .ref 219], (zS0, R, I, J)) r := by
  refine zEv_k 3 (f' := (if (I 215 16) ≤ 0 then 161 else 154, [some (.ref 215), some (.int x1), some (.int x2)], [.int s1, .ref 219], (zS0, R, I, J))) rfl ?_
  exact zEv_if k1 k2
theorem b_175_154 {X : zX} {d : Nat} {R : zR} {I : zI} {J : zJ} {r : zA} {x1 : Int32} {x2 : Int32} {s1 : Int32} (k1 : zEv X d zm_175 (162, [some (.ref 215), some (.int x1), some (.int x2)], [.int (I 215 17), .int s1, .ref 219], (zS0, R, I, J)) r) : zEv X d zm_175 (154, [some (.ref 215), some (.int x1), some (.int x2)], [.int s1, .ref 219], (zS0, R, I, J)) r := by
  refine zEv_k 3 (f' := (162, [some (.ref 215), some (.int x1), some (.int x2)], [.int (I 215 17), .int s1, .ref 219], (zS0, R, I, J))) rfl ?_
  exact k1
theorem b_175_161 {X : zX} {d : Nat} {R : zR} {I : zI} {J : zJ} {r : zA} {x1 : Int32} {x2 : Int32} {s1 : Int32} (k1 : zEv X d zm_175 (162, [some (.ref 215), some (.int x1), some (.int x2)], [.int (-1), .int s1, .ref 219], (zS0, R, I, J)) r) : zEv X d zm_175 (161, [some (.ref 215), some (.int x1), some (.int x2)], [.int s1, .ref 219], (zS0, R, I, J)) r := by
  refine zEv_k 1 (f' := (162, [some (.ref 215), some (.int x1), some (.int x2)], [.int (-1), .int s1, .ref 219], (zS0, R, I, J))) rfl ?_
  exact k1
theorem b_175_162 {X : zX} {d : Nat} {R : zR} {I : zI} {J : zJ} {r : zA} {x1 : Int32} {x2 : Int32} {s1 : Int32} {s2 : Int32} (hR : zRok R) (h162 : zin s1 4) (k1 : ¬ ((zu I 219 (s1).toNatClampNeg s2) 218 (0 : Int32).toNatClampNeg) = 0 → zEv X d zm_175 (176, [some (.ref 215), some (.int x1), some (.int x2)], [], (zS0, R, zu I 219 (s1).toNatClampNeg s2, J)) r) (k2 : ¬ (¬ ((zu I 219 (s1).toNatClampNeg s2) 218 (0 : Int32).toNatClampNeg) = 0) → zEv X d zm_175 (172, [some (.ref 215), some (.int x1), some (.int x2)], [], (zS0, R, zu I 219 (s1).toNatClampNeg s2, J)) r) : zEv X d zm_175 (162, [some (.ref 215), some (.int x1), some (.int x2)], [.int s2, .int s1, .ref 219], (zS0, R, I, J)) r := by
  refine zEv_ias rfl rfl (by decide) h162 ?_
  refine zEv_k 1 (f' := (164, [some (.ref 215), some (.int x1), some (.int x2)], [.ref 215], (zS0, R, zu I 219 (s1).toNatClampNeg s2, J))) rfl ?_
  refine zEv_gr rfl rfl rfl (by decide) (hR 215 3 218 rfl) ?_
  refine zEv_k 1 (f' := (168, [some (.ref 215), some (.int x1), some (.int x2)], [.int 0, .ref 218], (zS0, R, zu I 219 (s1).toNatClampNeg s2, J))) rfl ?_
  refine zEv_ial rfl rfl (by decide) (by unfold zin; decide) ?_
  refine zEv_k 1 (f' := (if ¬ ((zu I 219 (s1).toNatClampNeg s2) 218 (0 : Int32).toNatClampNeg) = 0 then 176 else 172, [some (.ref 215), some (.int x1), some (.int x2)], [], (zS0, R, zu I 219 (s1).toNatClampNeg s2, J))) rfl ?_
  exact zEv_if k1 k2
theorem b_175_172 {X : zX} {d : Nat} {R : zR} {I : zI} {J : zJ} {x1 : Int32} {x2 : Int32} : zEv X d zm_175 (172, [some (.ref 215), some (.int x1), some (.int x2)], [], (zS0, R, I, J)) (some (.int 1), (zS0, R, I, J)) := by
  refine zEv_k 2 (f' := (177, [some (.ref 215), some (.int x1), some (.int x2)], [.int 1], (zS0, R, I, J))) rfl ?_
  exact zEv_r rfl
theorem b_175_176 {X : zX} {d : Nat} {R : zR} {I : zI} {J : zJ} {x1 : Int32} {x2 : Int32} : zEv X d zm_175 (176, [some (.ref 215), some (.int x1), some (.int x2)], [], (zS0, R, I, J)) (some (.int 0), (zS0, R, I, J)) := by
  refine zEv_k 1 (f' := (177, [some (.ref 215), some (.int x1), some (.int x2)], [.int 0], (zS0, R, I, J))) rfl ?_
  exact zEv_r rfl
theorem b_176_0 {X : zX} {d : Nat} {R : zR} {I : zI} {J : zJ} {r : zA} {x1 : Nat} {x2 : Int32} {x3 : Int32} (k1 : zEv X d zm_176 (3, [some (.ref 215), some (.ref x1), some (.int x2), some (.int x3), some (.int 0)], [], (zS0, R, I, J)) r) : zEv X d zm_176 (0, [some (.ref 215), some (.ref x1), some (.int x2), some (.int x3), none], [], (zS0, R, I, J)) r := by
  refine zEv_k 2 (f' := (3, [some (.ref 215), some (.ref x1), some (.int x2), some (.int x3), some (.int 0)], [], (zS0, R, I, J))) rfl ?_
  exact k1
theorem b_176_3 {X : zX} {d : Nat} {R : zR} {I : zI} {J : zJ} {r : zA} {x1 : Nat} {x2 : Int32} {x3 : Int32} {x4 : Int32} (k1 : x2 ≤ x4 → zEv X d zm_176 (30, [some (.ref 215), some (.ref x1), some (.int x2), some (.int x3), some (.int x4)], [], (zS0, R, I, J)) r) (k2 : ¬ (x2 ≤ x4) → zEv X d zm_176 (9, [some (.ref 215), some (.ref x1), some (.int x2), some (.int x3), some (.int x4)], [], (zS0, R, I, J)) r) : zEv X d zm_176 (3, [some (.ref 215), some (.ref x1), some (.int x2), some (.int x3), some (.int x4)], [], (zS0, R, I, J)) r := by
  refine zEv_k 3 (f' := (if x2 ≤ x4 then 30 else 9, [some (.ref 215), some (.ref x1), some (.int x2), some (.int x3), some (.int x4)], [], (zS0, R, I, J))) rfl ?_
  exact zEv_if k1 k2
theorem b_176_30 {X : zX} {d : Nat} {R : zR} {I : zI} {J : zJ} {x1 : Nat} {x2 : Int32} {x3 : Int32} {x4 : Int32} : zEv X d zm_176 (30, [some (.ref 215), some (.ref x1), some (.int x2), some (.int x3), some (.int x4)], [], (zS0, R, I, J)) (none, (zS0, R, I, J)) := by
  exact zEv_r rfl
theorem b_177_0 {X : zX} {d : Nat} {R : zR} {I : zI} {J : zJ} {r : zA} {x1 : Int32} {x2 : Int32} (hR : zRok R) (k1 : (zf_in x1 0 2) = 0 → zEv X (d + 1) zm_177 (72, [some (.ref 215), some (.int x1), some (.int x2), none], [], (zS0, R, zu (zu (zu (zu (zu I 215 0 0) 215 10 ((zu I 215 0 0) 217 (0 : Int32).toNatClampNeg)) 217 (0 : Int32).toNatClampNeg 0) 218 (0 : Int32).toNatClampNeg 0) 219 (0 : Int32).toNatClampNeg (-1), J)) r) (k2 : ¬ ((zf_in x1 0 2) = 0) → zEv X (d + 1) zm_177 (45, [some (.ref 215), some (.int x1), some (.int x2), none], [], (zS0, R, zu (zu (zu (zu (zu I 215 0 0) 215 10 ((zu I 215 0 0) 217 (0 : Int32).toNatClampNeg)) 217 (0 : Int32).toNatClampNeg 0) 218 (0 : Int32).toNatClampNeg 0) 219 (0 : Int32).toNatClampNeg (-1), J)) r) : zEv X (d + 1) zm_177 (0, [some (.ref 215), some (.int x1), some (.int x2), none], [], (zS0, R, I, J)) r := by
  refine zEv_k 5 (f' := (7, [some (.ref 215), some (.int x1), some (.int x2), none], [.ref 215, .ref 215], (zS0, R, zu I 215 0 0, J))) rfl ?_
  refine zEv_gr rfl rfl rfl (by decide) (hR 215 2 217 rfl) ?_
  refine zEv_k 1 (f' := (11, [some (.ref 215), some (.int x1), some (.int x2), none], [.int 0, .ref 217, .ref 215], (zS0, R, zu I 215 0 0, J))) rfl ?_
  refine zEv_ial rfl rfl (by decide) (by unfold zin; decide) ?_
  refine zEv_k 2 (f' := (16, [some (.ref 215), some (.int x1), some (.int x2), none], [.ref 215], (zS0, R, zu (zu I 215 0 0) 215 10 ((zu I 215 0 0) 217 (0 : Int32).toNatClampNeg), J))) rfl ?_
  refine zEv_gr rfl rfl rfl (by decide) (hR 215 2 217 rfl) ?_
  refine zEv_k 2 (f' := (21, [some (.ref 215), some (.int x1), some (.int x2), none], [.int 0, .int 0, .ref 217], (zS0, R, zu (zu I 215 0 0) 215 10 ((zu I 215 0 0) 217 (0 : Int32).toNatClampNeg), J))) rfl ?_
  refine zEv_ias rfl rfl (by decide) (by unfold zin; decide) ?_
  refine zEv_k 1 (f' := (23, [some (.ref 215), some (.int x1), some (.int x2), none], [.ref 215], (zS0, R, zu (zu (zu I 215 0 0) 215 10 ((zu I 215 0 0) 217 (0 : Int32).toNatClampNeg)) 217 (0 : Int32).toNatClampNeg 0, J))) rfl ?_
  refine zEv_gr rfl rfl rfl (by decide) (hR 215 3 218 rfl) ?_
  refine zEv_k 2 (f' := (28, [some (.ref 215), some (.int x1), some (.int x2), none], [.int 0, .int 0, .ref 218], (zS0, R, zu (zu (zu I 215 0 0) 215 10 ((zu I 215 0 0) 217 (0 : Int32).toNatClampNeg)) 217 (0 : Int32).toNatClampNeg 0, J))) rfl ?_
  refine zEv_ias rfl rfl (by decide) (by unfold zin; decide) ?_
  refine zEv_k 1 (f' := (30, [some (.ref 215), some (.int x1), some (.int x2), none], [.ref 215], (zS0, R, zu (zu (zu (zu I 215 0 0) 215 10 ((zu I 215 0 0) 217 (0 : Int32).toNatClampNeg)) 217 (0 : Int32).toNatClampNeg 0) 218 (0 : Int32).toNatClampNeg 0, J))) rfl ?_
  refine zEv_gr rfl rfl rfl (by decide) (hR 215 4 219 rfl) ?_
  refine zEv_k 2 (f' := (35, [some (.ref 215), some (.int x1), some (.int x2), none], [.int (-1), .int 0, .ref 219], (zS0, R, zu (zu (zu (zu I 215 0 0) 215 10 ((zu I 215 0 0) 217 (0 : Int32).toNatClampNeg)) 217 (0 : Int32).toNatClampNeg 0) 218 (0 : Int32).toNatClampNeg 0, J))) rfl ?_
  refine zEv_ias rfl rfl (by decide) (by unfold zin; decide) ?_
  refine zEv_k 3 (f' := (39, [some (.ref 215), some (.int x1), some (.int x2), none], [.int 2, .int 0, .int x1], (zS0, R, zu (zu (zu (zu (zu I 215 0 0) 215 10 ((zu I 215 0 0) 217 (0 : Int32).toNatClampNeg)) 217 (0 : Int32).toNatClampNeg 0) 218 (0 : Int32).toNatClampNeg 0) 219 (0 : Int32).toNatClampNeg (-1), J))) rfl ?_
  refine zEv_c (fun _ => rfl) rfl ev_zf_in rfl rfl ?_
  refine zEv_k 1 (f' := (if (zf_in x1 0 2) = 0 then 72 else 45, [some (.ref 215), some (.int x1), some (.int x2), none], [], (zS0, R, zu (zu (zu (zu (zu I 215 0 0) 215 10 ((zu I 215 0 0) 217 (0 : Int32).toNatClampNeg)) 217 (0 : Int32).toNatClampNeg 0) 218 (0 : Int32).toNatClampNeg 0) 219 (0 : Int32).toNatClampNeg (-1), J))) rfl ?_
  exact zEv_if k1 k2
theorem b_177_45 {X : zX} {d : Nat} {R : zR} {I : zI} {J : zJ} {r : zA} {x1 : Int32} {x2 : Int32} (k1 : ¬ x2 = (-1) → zEv X d zm_177 (63, [some (.ref 215), some (.int x1), some (.int x2), none], [], (zS0, R, I, J)) r) (k2 : ¬ (¬ x2 = (-1)) → zEv X d zm_177 (50, [some (.ref 215), some (.int x1), some (.int x2), none], [], (zS0, R, I, J)) r) : zEv X d zm_177 (45, [some (.ref 215), some (.int x1), some (.int x2), none], [], (zS0, R, I, J)) r := by
  refine zEv_k 3 (f' := (if ¬ x2 = (-1) then 63 else 50, [some (.ref 215), some (.int x1), some (.int x2), none], [], (zS0, R, I, J))) rfl ?_
  exact zEv_if k1 k2
theorem b_177_50 {X : zX} {d : Nat} {R : zR} {I : zI} {J : zJ} {r : zA} {x1 : Int32} {x2 : Int32} (hR : zRok R) (h55 : zin x1 12) (k1 : ¬ (I 220 (x1).toNatClampNeg) = 2 → zEv X d zm_177 (75, [some (.ref 215), some (.int x1), some (.int x2), none], [], (zS0, R, I, J)) r) (k2 : ¬ (¬ (I 220 (x1).toNatClampNeg) = 2) → zEv X d zm_177 (60, [some (.ref 215), some (.int x1), some (.int x2), none], [], (zS0, R, I, J)) r) : zEv X d zm_177 (50, [some (.ref 215), some (.int x1), some (.int x2), none], [], (zS0, R, I, J)) r := by
  refine zEv_k 1 (f' := (51, [some (.ref 215), some (.int x1), some (.int x2), none], [.ref 215], (zS0, R, I, J))) rfl ?_
  refine zEv_gr rfl rfl rfl (by decide) (hR 215 5 220 rfl) ?_
  refine zEv_k 1 (f' := (55, [some (.ref 215), some (.int x1), some (.int x2), none], [.int x1, .ref 220], (zS0, R, I, J))) rfl ?_
  refine zEv_ial rfl rfl (by decide) h55 ?_
  refine zEv_k 2 (f' := (if ¬ (I 220 (x1).toNatClampNeg) = 2 then 75 else 60, [some (.ref 215), some (.int x1), some (.int x2), none], [], (zS0, R, I, J))) rfl ?_
  exact zEv_if k1 k2
theorem b_177_60 {X : zX} {d : Nat} {R : zR} {I : zI} {J : zJ} {r : zA} {x1 : Int32} {x2 : Int32} (k1 : zEv X d zm_177 (72, [some (.ref 215), some (.int x1), some (.int x2), none], [], (zS0, R, I, J)) r) : zEv X d zm_177 (60, [some (.ref 215), some (.int x1), some (.int x2), none], [], (zS0, R, I, J)) r := by
  refine zEv_k 1 (f' := (72, [some (.ref 215), some (.int x1), some (.int x2), none], [], (zS0, R, I, J))) rfl ?_
  exact k1
theorem b_177_63 {X : zX} {d : Nat} {R : zR} {I : zI} {J : zJ} {r : zA} {x1 : Int32} {x2 : Int32} {w : Int32} {R' : zR} {I' : zI} {J' : zJ} (hc : zEv X d zm_157 (0, [some (.ref 215), some (.int x1), some (.int x2)], [], (zS0, R, I, J)) (some (.int w), (zS0, R', I', J'))) (k1 : zEv X (d + 1) zm_177 (69, [some (.ref 215), some (.int x1), some (.int x2), none], [.int w], (zS0, R', I', J')) r) : zEv X (d + 1) zm_177 (63, [some (.ref 215), some (.int x1), some (.int x2), none], [], (zS0, R, I, J)) r := by
  refine zEv_k 3 (f' := (66, [some (.ref 215), some (.int x1), some (.int x2), none], [.int x2, .int x1, .ref 215], (zS0, R, I, J))) rfl ?_
  exact zEv_c (fun _ => rfl) rfl hc rfl rfl k1
theorem b_177_69 {X : zX} {d : Nat} {R : zR} {I : zI} {J : zJ} {r : zA} {x1 : Int32} {x2 : Int32} {s0 : Int32} (k1 : ¬ s0 = 0 → zEv X d zm_177 (75, [some (.ref 215), some (.int x1), some (.int x2), none], [], (zS0, R, I, J)) r) (k2 : ¬ (¬ s0 = 0) → zEv X d zm_177 (72, [some (.ref 215), some (.int x1), some (.int x2), none], [], (zS0, R, I, J)) r) : zEv X d zm_177 (69, [some (.ref 215), some (.int x1), some (.int x2), none], [.int s0], (zS0, R, I, J)) r := by
  refine zEv_k 1 (f' := (if ¬ s0 = 0 then 75 else 72, [some (.ref 215), some (.int x1), some (.int x2), none], [], (zS0, R, I, J))) rfl ?_
  exact zEv_if k1 k2
theorem b_177_72 {X : zX} {d : Nat} {R : zR} {I : zI} {J : zJ} {x1 : Int32} {x2 : Int32} : zEv X d zm_177 (72, [some (.ref 215), some (.int x1), some (.int x2), none], [], (zS0, R, I, J)) (some (.int (-2)), (zS0, R, I, J)) := by
  refine zEv_k 1 (f' := (74, [some (.ref 215), some (.int x1), some (.int x2), none], [.int (-2)], (zS0, R, I, J))) rfl ?_
  exact zEv_r rfl
theorem b_177_75 {X : zX} {d : Nat} {R : zR} {I : zI} {J : zJ} {r : zA} {x1 : Int32} {x2 : Int32} {w : Int32} {R' : zR} {I' : zI} {J' : zJ} (hc : zEv X d zm_175 (0, [some (.ref 215), some (.int x1), none], [], (zS0, R, I, J)) (some (.int w), (zS0, R', I', J'))) (k1 : zEv X (d + 1) zm_177 (80, [some (.ref 215), some (.int x1), some (.int x2), none], [.int w], (zS0, R', I', J')) r) : zEv X (d + 1) zm_177 (75, [some (.ref 215), some (.int x1), some (.int x2), none], [], (zS0, R, I, J)) r := by
  refine zEv_k 2 (f' := (77, [some (.ref 215), some (.int x1), some (.int x2), none], [.int x1, .ref 215], (zS0, R, I, J))) rfl ?_
  exact zEv_c (fun _ => rfl) rfl hc rfl rfl k1
theorem b_177_80 {X : zX} {d : Nat} {R : zR} {I : zI} {J : zJ} {r : zA} {x1 : Int32} {x2 : Int32} {s0 : Int32} (k1 : ¬ s0 = 0 → zEv X d zm_177 (85, [some (.ref 215), some (.int x1), some (.int x2), none], [], (zS0, R, I, J)) r) (k2 : ¬ (¬ s0 = 0) → zEv X d zm_177 (83, [some (.ref 215), some (.int x1), some (.int x2), none], [], (zS0, R, I, J)) r) : zEv X d zm_177 (80, [some (.ref 215), some (.int x1), some (.int x2), none], [.int s0], (zS0, R, I, J)) r := by
  refine zEv_k 1 (f' := (if ¬ s0 = 0 then 85 else 83, [some (.ref 215), some (.int x1), some (.int x2), none], [], (zS0, R, I, J))) rfl ?_
  exact zEv_if k1 k2
theorem b_177_83 {X : zX} {d : Nat} {R : zR} {I : zI} {J : zJ} {x1 : Int32} {x2 : Int32} : zEv X d zm_177 (83, [some (.ref 215), some (.int x1), some (.int x2), none], [], (zS0, R, I, J)) (some (.int (-1)), (zS0, R, I, J)) := by
  refine zEv_k 1 (f' := (84, [some (.ref 215), some (.int x1), some (.int x2), none], [.int (-1)], (zS0, R, I, J))) rfl ?_
  exact zEv_r rfl
theorem b_177_85 {X : zX} {d : Nat} {R : zR} {I : zI} {J : zJ} {r : zA} {x1 : Int32} {x2 : Int32} (k1 : ¬ x2 = (-1) → zEv X d zm_177 (99, [some (.ref 215), some (.int x1), some (.int x2), none], [], (zS0, R, I, J)) r) (k2 : ¬ (¬ x2 = (-1)) → zEv X d zm_177 (90, [some (.ref 215), some (.int x1), some (.int x2), none], [], (zS0, R, I, J)) r) : zEv X d zm_177 (85, [some (.ref 215), some (.int x1), some (.int x2), none], [], (zS0, R, I, J)) r := by
  refine zEv_k 3 (f' := (if ¬ x2 = (-1) then 99 else 90, [some (.ref 215), some (.int x1), some (.int x2), none], [], (zS0, R, I, J))) rfl ?_
  exact zEv_if k1 k2
theorem b_177_90 {X : zX} {d : Nat} {R : zR} {I : zI} {J : zJ} {r : zA} {x1 : Int32} {x2 : Int32} (hR : zRok R) (h95 : zin x1 12) (k1 : zEv X d zm_177 (100, [some (.ref 215), some (.int x1), some (.int x2), none], [.int (I 220 (x1).toNatClampNeg)], (zS0, R, I, J)) r) : zEv X d zm_177 (90, [some (.ref 215), some (.int x1), some (.int x2), none], [], (zS0, R, I, J)) r := by
  refine zEv_k 1 (f' := (91, [some (.ref 215), some (.int x1), some (.int x2), none], [.ref 215], (zS0, R, I, J))) rfl ?_
  refine zEv_gr rfl rfl rfl (by decide) (hR 215 5 220 rfl) ?_
  refine zEv_k 1 (f' := (95, [some (.ref 215), some (.int x1), some (.int x2), none], [.int x1, .ref 220], (zS0, R, I, J))) rfl ?_
  refine zEv_ial rfl rfl (by decide) h95 ?_
  refine zEv_k 1 (f' := (100, [some (.ref 215), some (.int x1), some (.int x2), none], [.int (I 220 (x1).toNatClampNeg)], (zS0, R, I, J))) rfl ?_
  exact k1
theorem b_177_99 {X : zX} {d : Nat} {R : zR} {I : zI} {J : zJ} {r : zA} {x1 : Int32} {x2 : Int32} (k1 : zEv X d zm_177 (100, [some (.ref 215), some (.int x1), some (.int x2), none], [.int x2], (zS0, R, I, J)) r) : zEv X d zm_177 (99, [some (.ref 215), some (.int x1), some (.int x2), none], [], (zS0, R, I, J)) r := by
  refine zEv_k 1 (f' := (100, [some (.ref 215), some (.int x1), some (.int x2), none], [.int x2], (zS0, R, I, J))) rfl ?_
  exact k1
theorem b_177_100 {X : zX} {d : Nat} {R : zR} {I : zI} {J : zJ} {r : zA} {x1 : Int32} {x2 : Int32} {s0 : Int32} (hR : zRok R) (h107 : zin x1 12) (k1 : ¬ x2 = (-1) → zEv X d zm_177 (117, [some (.ref 215), some (.int x1), some (.int x2), some (.int s0)], [.int (I 220 (x1).toNatClampNeg), .int x1, .ref 220], (zS0, R, I, J)) r) (k2 : ¬ (¬ x2 = (-1)) → zEv X d zm_177 (113, [some (.ref 215), some (.int x1), some (.int x2), some (.int s0)], [.int (I 220 (x1).toNatClampNeg), .int x1, .ref 220], (zS0, R, I, J)) r) : zEv X d zm_177 (100, [some (.ref 215), some (.int x1), some (.int x2), none], [.int s0], (zS0, R, I, J)) r := by
  refine zEv_k 2 (f' := (102, [some (.ref 215), some (.int x1), some (.int x2), some (.int s0)], [.ref 215], (zS0, R, I, J))) rfl ?_
  refine zEv_gr rfl rfl rfl (by decide) (hR 215 5 220 rfl) ?_
  refine zEv_k 2 (f' := (107, [some (.ref 215), some (.int x1), some (.int x2), some (.int s0)], [.int x1, .ref 220, .int x1, .ref 220], (zS0, R, I, J))) rfl ?_
  refine zEv_ial rfl rfl (by decide) h107 ?_
  refine zEv_k 3 (f' := (if ¬ x2 = (-1) then 117 else 113, [some (.ref 215), some (.int x1), some (.int x2), some (.int s0)], [.int (I 220 (x1).toNatClampNeg), .int x1, .ref 220], (zS0, R, I, J))) rfl ?_
  exact zEv_if k1 k2
theorem b_177_113 {X : zX} {d : Nat} {R : zR} {I : zI} {J : zJ} {r : zA} {x1 : Int32} {x2 : Int32} {x3 : Int32} {s1 : Int32} {s2 : Int32} (k1 : zEv X d zm_177 (118, [some (.ref 215), some (.int x1), some (.int x2), some (.int x3)], [.int 1, .int s2, .int s1, .ref 220], (zS0, R, I, J)) r) : zEv X d zm_177 (113, [some (.ref 215), some (.int x1), some (.int x2), some (.int x3)], [.int s2, .int s1, .ref 220], (zS0, R, I, J)) r := by
  refine zEv_k 2 (f' := (118, [some (.ref 215), some (.int x1), some (.int x2), some (.int x3)], [.int 1, .int s2, .int s1, .ref 220], (zS0, R, I, J))) rfl ?_
  exact k1
theorem b_177_117 {X : zX} {d : Nat} {R : zR} {I : zI} {J : zJ} {r : zA} {x1 : Int32} {x2 : Int32} {x3 : Int32} {s1 : Int32} {s2 : Int32} (k1 : zEv X d zm_177 (118, [some (.ref 215), some (.int x1), some (.int x2), some (.int x3)], [.int 0, .int s2, .int s1, .ref 220], (zS0, R, I, J)) r) : zEv X d zm_177 (117, [some (.ref 215), some (.int x1), some (.int x2), some (.int x3)], [.int s2, .int s1, .ref 220], (zS0, R, I, J)) r := by
  refine zEv_k 1 (f' := (118, [some (.ref 215), some (.int x1), some (.int x2), some (.int x3)], [.int 0, .int s2, .int s1, .ref 220], (zS0, R, I, J))) rfl ?_
  exact k1
theorem b_177_118 {X : zX} {d : Nat} {R : zR} {I : zI} {J : zJ} {r : zA} {x1 : Int32} {x2 : Int32} {x3 : Int32} {s1 : Int32} {s2 : Int32} {s3 : Int32} (h119 : zin s1 12) (k1 : ¬ x1 = 0 → zEv X d zm_177 (138, [some (.ref 215), some (.int x1), some (.int x2), some (.int x3)], [], (zS0, R, zu I 220 (s1).toNatClampNeg (s2 + s3), J)) r) (k2 : ¬ (¬ x1 = 0) → zEv X d zm_177 (124, [some (.ref 215), some (.int x1), some (.int x2), some (.int x3)], [], (zS0, R, zu I 220 (s1).toNatClampNeg (s2 + s3), J)) r) : zEv X d zm_177 (118, [some (.ref 215), some (.int x1), some (.int x2), some (.int x3)], [.int s3, .int s2, .int s1, .ref 220], (zS0, R, I, J)) r := by
  refine zEv_k 1 (f' := (119, [some (.ref 215), some (.int x1), some (.int x2), some (.int x3)], [.int (s2 + s3), .int s1, .ref 220], (zS0, R, I, J))) rfl ?_
  refine zEv_ias rfl rfl (by decide) h119 ?_
  refine zEv_k 2 (f' := (if ¬ x1 = 0 then 138 else 124, [some (.ref 215), some (.int x1), some (.int x2), some (.int x3)], [], (zS0, R, zu I 220 (s1).toNatClampNeg (s2 + s3), J))) rfl ?_
  exact zEv_if k1 k2
theorem b_177_124 {X : zX} {d : Nat} {R : zR} {I : zI} {J : zJ} {r : zA} {x1 : Int32} {x2 : Int32} {x3 : Int32} {R' : zR} {I' : zI} {J' : zJ} (hR : zRok R) (hc : zEv X d zm_176 (0, [some (.ref 215), some (.ref 221), some (.int 52), some (.int x3), none], [], (zS0, R, I, J)) (none, (zS0, R', I', J'))) (k1 : zEv X (d + 1) zm_177 (135, [some (.ref 215), some (.int x1), some (.int x2), some (.int x3)], [], (zS0, R', I', J')) r) : zEv X (d + 1) zm_177 (124, [some (.ref 215), some (.int x1), some (.int x2), some (.int x3)], [], (zS0, R, I, J)) r := by
  refine zEv_k 2 (f' := (126, [some (.ref 215), some (.int x1), some (.int x2), some (.int x3)], [.ref 215, .ref 215], (zS0, R, I, J))) rfl ?_
  refine zEv_gr rfl rfl rfl (by decide) (hR 215 6 221 rfl) ?_
  refine zEv_k 2 (f' := (132, [some (.ref 215), some (.int x1), some (.int x2), some (.int x3)], [.int x3, .int 52, .ref 221, .ref 215], (zS0, R, I, J))) rfl ?_
  exact zEv_c (fun _ => rfl) rfl hc rfl rfl k1
theorem b_177_135 {X : zX} {d : Nat} {R : zR} {I : zI} {J : zJ} {r : zA} {x1 : Int32} {x2 : Int32} {x3 : Int32} (k1 : zEv X d zm_177 (168, [some (.ref 215), some (.int x1), some (.int x2), some (.int x3)], [], (zS0, R, I, J)) r) : zEv X d zm_177 (135, [some (.ref 215), some (.int x1), some (.int x2), some (.int x3)], [], (zS0, R, I, J)) r := by
  refine zEv_k 1 (f' := (168, [some (.ref 215), some (.int x1), some (.int x2), some (.int x3)], [], (zS0, R, I, J))) rfl ?_
  exact k1
theorem b_177_138 {X : zX} {d : Nat} {R : zR} {I : zI} {J : zJ} {r : zA} {x1 : Int32} {x2 : Int32} {x3 : Int32} (k1 : ¬ x1 = 1 → zEv X d zm_177 (157, [some (.ref 215), some (.int x1), some (.int x2), some (.int x3)], [], (zS0, R, I, J)) r) (k2 : ¬ (¬ x1 = 1) → zEv X d zm_177 (143, [some (.ref 215), some (.int x1), some (.int x2), some (.int x3)], [], (zS0, R, I, J)) r) : zEv X d zm_177 (138, [some (.ref 215), some (.int x1), some (.int x2), some (.int x3)], [], (zS0, R, I, J)) r := by
  refine zEv_k 3 (f' := (if ¬ x1 = 1 then 157 else 143, [some (.ref 215), some (.int x1), some (.int x2), some (.int x3)], [], (zS0, R, I, J))) rfl ?_
  exact zEv_if k1 k2
theorem b_177_143 {X : zX} {d : Nat} {R : zR} {I : zI} {J : zJ} {r : zA} {x1 : Int32} {x2 : Int32} {x3 : Int32} {R' : zR} {I' : zI} {J' : zJ} (hR : zRok R) (hc : zEv X d zm_176 (0, [some (.ref 215), some (.ref 222), some (.int 121), some (.int x3), none], [], (zS0, R, I, J)) (none, (zS0, R', I', J'))) (k1 : zEv X (d + 1) zm_177 (154, [some (.ref 215), some (.int x1), some (.int x2), some (.int x3)], [], (zS0, R', I', J')) r) : zEv X (d + 1) zm_177 (143, [some (.ref 215), some (.int x1), some (.int x2), some (.int x3)], [], (zS0, R, I, J)) r := by
  refine zEv_k 2 (f' := (145, [some (.ref 215), some (.int x1), some (.int x2), some (.int x3)], [.ref 215, .ref 215], (zS0, R, I, J))) rfl ?_
  refine zEv_gr rfl rfl rfl (by decide) (hR 215 7 222 rfl) ?_
  refine zEv_k 2 (f' := (151, [some (.ref 215), some (.int x1), some (.int x2), some (.int x3)], [.int x3, .int 121, .ref 222, .ref 215], (zS0, R, I, J))) rfl ?_
  exact zEv_c (fun _ => rfl) rfl hc rfl rfl k1
theorem b_177_154 {X : zX} {d : Nat} {R : zR} {I : zI} {J : zJ} {r : zA} {x1 : Int32} {x2 : Int32} {x3 : Int32} (k1 : zEv X d zm_177 (168, [some (.ref 215), some (.int x1), some (.int x2), some (.int x3)], [], (zS0, R, I, J)) r) : zEv X d zm_177 (154, [some (.ref 215), some (.int x1), some (.int x2), some (.int x3)], [], (zS0, R, I, J)) r := by
  refine zEv_k 1 (f' := (168, [some (.ref 215), some (.int x1), some (.int x2), some (.int x3)], [], (zS0, R, I, J))) rfl ?_
  exact k1
theorem b_177_157 {X : zX} {d : Nat} {R : zR} {I : zI} {J : zJ} {r : zA} {x1 : Int32} {x2 : Int32} {x3 : Int32} {R' : zR} {I' : zI} {J' : zJ} (hR : zRok R) (hc : zEv X d zm_176 (0, [some (.ref 215), some (.ref 223), some (.int 17), some (.int x3), none], [], (zS0, R, I, J)) (none, (zS0, R', I', J'))) (k1 : zEv X (d + 1) zm_177 (168, [some (.ref 215), some (.int x1), some (.int x2), some (.int x3)], [], (zS0, R', I', J')) r) : zEv X (d + 1) zm_177 (157, [some (.ref 215), some (.int x1), some (.int x2), some (.int x3)], [], (zS0, R, I, J)) r := by
  refine zEv_k 2 (f' := (159, [some (.ref 215), some (.int x1), some (.int x2), some (.int x3)], [.ref 215, .ref 215], (zS0, R, I, J))) rfl ?_
  refine zEv_gr rfl rfl rfl (by decide) (hR 215 8 223 rfl) ?_
  refine zEv_k 2 (f' := (165, [some (.ref 215), some (.int x1), some (.int x2), some (.int x3)], [.int x3, .int 17, .ref 223, .ref 215], (zS0, R, I, J))) rfl ?_
  exact zEv_c (fun _ => rfl) rfl hc rfl rfl k1
theorem b_177_168 {X : zX} {d : Nat} {R : zR} {I : zI} {J : zJ} {x1 : Int32} {x2 : Int32} {x3 : Int32} : zEv X d zm_177 (168, [some (.ref 215), some (.int x1), some (.int x2), some (.int x3)], [], (zS0, R, I, J)) (some (.int x3), (zS0, R, I, J)) := by
  refine zEv_k 1 (f' := (169, [some (.ref 215), some (.int x1), some (.int x2), some (.int x3)], [.int x3], (zS0, R, I, J))) rfl ?_
  exact zEv_r rfl
theorem b_178_0 {X : zX} {d : Nat} {R : zR} {I : zI} {J : zJ} {r : zA} {x1 : Int32} (k1 : ¬ x1 = 0 → zEv X d zm_178 (18, [some (.ref 215), some (.int x1)], [], (zS0, R, zu I 215 0 0, J)) r) (k2 : ¬ (¬ x1 = 0) → zEv X d zm_178 (9, [some (.ref 215), some (.int x1)], [], (zS0, R, zu I 215 0 0, J)) r) : zEv X d zm_178 (0, [some (.ref 215), some (.int x1)], [], (zS0, R, I, J)) r := by
  refine zEv_k 5 (f' := (if ¬ x1 = 0 then 18 else 9, [some (.ref 215), some (.int x1)], [], (zS0, R, zu I 215 0 0, J))) rfl ?_
  exact zEv_if k1 k2
