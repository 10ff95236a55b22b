theorem b_112_0 {X : zX} {d : Nat} {R : zR} {I : zI} {J : zJ} {r : zA} {x1 : Int32} {x2 : Int32} {x3 : Int32} {x4 : Int32} {x5 : Int32} (hR : zRok R) (k1 : ((I 1 1) + 20) ≤ 600 → zEv X d zm_112 (18, [some (.ref 0), some (.int x1), some (.int x2), some (.int x3), some (.int x4), some (.int x5)], [], (zS0, R, I, J)) r) (k2 : ¬ (((I 1 1) + 20) ≤ 600) → zEv X d zm_112 (16, [some (.ref 0), some (.int x1), some (.int x2), some (.int x3), some (.int x4), some (.int x5)], [], (zS0, R, I, J)) r) : zEv X d zm_112 (0, [some (.ref 0), some (.int x1), some (.int x2), some (.int x3), some (.int x4), some (.int x5)], [], (zS0, R, I, J)) r := by
  refine zEv_k 1 (f' := (1, [some (.ref 0), some (.int x1), some (.int x2), some (.int x3), some (.int x4), some (.int x5)], [.ref 0], (zS0, R, I, J))) rfl ?_
  refine zEv_gr rfl rfl rfl (by decide) (hR (0) 0 (1) rfl) ?_
  refine zEv_k 5 (f' := (if ((I 1 1) + 20) ≤ 600 then 18 else 16, [some (.ref 0), some (.int x1), some (.int x2), some (.int x3), some (.int x4), some (.int x5)], [], (zS0, R, I, J))) rfl ?_
  exact zEv_if k1 k2
theorem b_112_16 {X : zX} {d : Nat} {R : zR} {I : zI} {J : zJ} {x1 : Int32} {x2 : Int32} {x3 : Int32} {x4 : Int32} {x5 : Int32} : zEv X d zm_112 (16, [some (.ref 0), some (.int x1), some (.int x2), some (.int x3), some (.int x4), some (.int x5)], [], (zS0, R, I, J)) (some (.int (-1)), (zS0, R, I, J)) := by
  refine zEv_k 1 (f' := (17, [some (.ref 0), some (.int x1), some (.int x2), some (.int x3), some (.int x4), some (.int x5)], [.int (-1)], (zS0, R, I, J))) rfl ?_
  exact zEv_r rfl
theorem b_112_18 {X : zX} {d : Nat} {R : zR} {I : zI} {J : zJ} {r : zA} {x1 : Int32} {x2 : Int32} {x3 : Int32} {x4 : Int32} {x5 : Int32} {R' : zR} {I' : zI} {J' : zJ} (hR : zRok R) (hc : zEv X d zm_88 (0, [some (.ref 1), some (.int x1), none], [], (zS0, R, I, J)) (none, (zS0, R', I', J'))) (k1 : zEv X (d + 1) zm_112 (26, [some (.ref 0), some (.int x1), some (.int x2), some (.int x3), some (.int x4), some (.int x5)], [], (zS0, R', I', J')) r) : zEv X (d + 1) zm_112 (18, [some (.ref 0), some (.int x1), some (.int x2), some (.int x3), some (.int x4), some (.int x5)], [], (zS0, R, I, J)) r := by
  refine zEv_k 1 (f' := (19, [some (.ref 0), some (.int x1), some (.int x2), some (.int x3), some (.int x4), some (.int x5)], [.ref 0], (zS0, R, I, J))) rfl ?_
  refine zEv_gr rfl rfl rfl (by decide) (hR (0) 0 (1) rfl) ?_
  refine zEv_k 1 (f' := (23, [some (.ref 0), some (.int x1), some (.int x2), some (.int x3), some (.int x4), some (.int x5)], [.int x1, .ref 1], (zS0, R, I, J))) rfl ?_
  exact zEv_c (fun _ => rfl) rfl hc rfl rfl k1
theorem b_112_26 {X : zX} {d : Nat} {R : zR} {I : zI} {J : zJ} {r : zA} {x1 : Int32} {x2 : Int32} {x3 : Int32} {x4 : Int32} {x5 : Int32} {R' : zR} {I' : zI} {J' : zJ} (hR : zRok R) (hc : zEv X d zm_88 (0, [some (.ref 1), some (.int x2), none], [], (zS0, R, I, J)) (none, (zS0, R', I', J'))) (k1 : zEv X (d + 1) zm_112 (34, [some (.ref 0), some (.int x1), some (.int x2), some (.int x3), some (.int x4), some (.int x5)], [], (zS0, R', I', J')) r) : zEv X (d + 1) zm_112 (26, [some (.ref 0), some (.int x1), some (.int x2), some (.int x3), some (.int x4), some (.int x5)], [], (zS0, R, I, J)) r := by
  refine zEv_k 1 (f' := (27, [some (.ref 0), some (.int x1), some (.int x2), some (.int x3), some (.int x4), some (.int x5)], [.ref 0], (zS0, R, I, J))) rfl ?_
  refine zEv_gr rfl rfl rfl (by decide) (hR (0) 0 (1) rfl) ?_
  refine zEv_k 1 (f' := (31, [some (.ref 0), some (.int x1), some (.int x2), some (.int x3), some (.int x4), some (.int x5)], [.int x2, .ref 1], (zS0, R, I, J))) rfl ?_
  exact zEv_c (fun _ => rfl) rfl hc rfl rfl k1
theorem b_112_34 {X : zX} {d : Nat} {R : zR} {I : zI} {J : zJ} {r : zA} {x1 : Int32} {x2 : Int32} {x3 : Int32} {x4 : Int32} {x5 : Int32} {R' : zR} {I' : zI} {J' : zJ} (hR : zRok R) (hc : zEv X d zm_88 (0, [some (.ref 1), some (.int x3), none], [], (zS0, R, I, J)) (none, (zS0, R', I', J'))) (k1 : zEv X (d + 1) zm_112 (42, [some (.ref 0), some (.int x1), some (.int x2), some (.int x3), some (.int x4), some (.int x5)], [], (zS0, R', I', J')) r) : zEv X (d + 1) zm_112 (34, [some (.ref 0), some (.int x1), some (.int x2), some (.int x3), some (.int x4), some (.int x5)], [], (zS0, R, I, J)) r := by
  refine zEv_k 1 (f' := (35, [some (.ref 0), some (.int x1), some (.int x2), some (.int x3), some (.int x4), some (.int x5)], [.ref 0], (zS0, R, I, J))) rfl ?_
  refine zEv_gr rfl rfl rfl (by decide) (hR (0) 0 (1) rfl) ?_
  refine zEv_k 1 (f' := (39, [some (.ref 0), some (.int x1), some (.int x2), some (.int x3), some (.int x4), some (.int x5)], [.int x3, .ref 1], (zS0, R, I, J))) rfl ?_
  exact zEv_c (fun _ => rfl) rfl hc rfl rfl k1
theorem b_112_42 {X : zX} {d : Nat} {R : zR} {I : zI} {J : zJ} {r : zA} {x1 : Int32} {x2 : Int32} {x3 : Int32} {x4 : Int32} {x5 : Int32} {R' : zR} {I' : zI} {J' : zJ} (hR : zRok R) (hc : zEv X d zm_88 (0, [some (.ref 1), some (.int x4), none], [], (zS0, R, I, J)) (none, (zS0, R', I', J'))) (k1 : zEv X (d + 1) zm_112 (51, [some (.ref 0), some (.int x1), some (.int x2), some (.int x3), some (.int x4), some (.int x5)], [], (zS0, R', I', J')) r) : zEv X (d + 1) zm_112 (42, [some (.ref 0), some (.int x1), some (.int x2), some (.int x3), some (.int x4), some (.int x5)], [], (zS0, R, I, J)) r := by
  refine zEv_k 1 (f' := (43, [some (.ref 0), some (.int x1), some (.int x2), some (.int x3), some (.int x4), some (.int x5)], [.ref 0], (zS0, R, I, J))) rfl ?_
  refine zEv_gr rfl rfl rfl (by decide) (hR (0) 0 (1) rfl) ?_
  refine zEv_k 1 (f' := (48, [some (.ref 0), some (.int x1), some (.int x2), some (.int x3), some (.int x4), some (.int x5)], [.int x4, .ref 1], (zS0, R, I, J))) rfl ?_
  exact zEv_c (fun _ => rfl) rfl hc rfl rfl k1
theorem b_112_51 {X : zX} {d : Nat} {R : zR} {I : zI} {J : zJ} {r : zA} {x1 : Int32} {x2 : Int32} {x3 : Int32} {x4 : Int32} {x5 : Int32} {R' : zR} {I' : zI} {J' : zJ} (hR : zRok R) (hc : zEv X d zm_88 (0, [some (.ref 1), some (.int x5), none], [], (zS0, R, I, J)) (none, (zS0, R', I', J'))) (k1 : zEv X (d + 1) zm_112 (60, [some (.ref 0), some (.int x1), some (.int x2), some (.int x3), some (.int x4), some (.int x5)], [], (zS0, R', I', J')) r) : zEv X (d + 1) zm_112 (51, [some (.ref 0), some (.int x1), some (.int x2), some (.int x3), some (.int x4), some (.int x5)], [], (zS0, R, I, J)) r := by
  refine zEv_k 1 (f' := (52, [some (.ref 0), some (.int x1), some (.int x2), some (.int x3), some (.int x4), some (.int x5)], [.ref 0], (zS0, R, I, J))) rfl ?_
  refine zEv_gr rfl rfl rfl (by decide) (hR (0) 0 (1) rfl) ?_
  refine zEv_k 1 (f' := (57, [some (.ref 0), some (.int x1), some (.int x2), some (.int x3), some (.int x4), some (.int x5)], [.int x5, .ref 1], (zS0, R, I, J))) rfl ?_
  exact zEv_c (fun _ => rfl) rfl hc rfl rfl k1
theorem b_112_60 {X : zX} {d : Nat} {R : zR} {I : zI} {J : zJ} {x1 : Int32} {x2 : Int32} {x3 : Int32} {x4 : Int32} {x5 : Int32} (hR : zRok R) : zEv X d zm_112 (60, [some (.ref 0), some (.int x1), some (.int x2), some (.int x3), some (.int x4), some (.int x5)], [], (zS0, R, I, J)) (some (.int (I 1 1)), (zS0, R, I, J)) := by
  refine zEv_k 1 (f' := (61, [some (.ref 0), some (.int x1), some (.int x2), some (.int x3), some (.int x4), some (.int x5)], [.ref 0], (zS0, R, I, J))) rfl ?_
  refine zEv_gr rfl rfl rfl (by decide) (hR (0) 0 (1) rfl) ?_
  refine zEv_k 1 (f' := (67, [some (.ref 0), some (.int x1), some (.int x2), some (.int x3), some (.int x4), some (.int x5)], [.int (I 1 1)], (zS0, R, I, J))) rfl ?_
  exact zEv_r rfl
theorem b_113_0 {X : zX} {d : Nat} {R : zR} {I : zI} {J : zJ} {r : zA} {x1 : Int32} (k1 : x1 < 0 → zEv X d zm_113 (15, [some (.ref 0), some (.int x1)], [], (zS0, R, I, J)) r) (k2 : ¬ (x1 < 0) → zEv X d zm_113 (4, [some (.ref 0), some (.int x1)], [], (zS0, R, I, J)) r) : zEv X d zm_113 (0, [some (.ref 0), some (.int x1)], [], (zS0, R, I, J)) r := by
  refine zEv_k 2 (f' := (if x1 < 0 then 15 else 4, [some (.ref 0), some (.int x1)], [], (zS0, R, I, J))) rfl ?_
  exact zEv_if k1 k2
theorem b_113_4 {X : zX} {d : Nat} {R : zR} {I : zI} {J : zJ} {r : zA} {x1 : Int32} (hR : zRok R) (k1 : x1 ≤ (I 1 1) → zEv X d zm_113 (17, [some (.ref 0), some (.int x1)], [], (zS0, R, I, J)) r) (k2 : ¬ (x1 ≤ (I 1 1)) → zEv X d zm_113 (15, [some (.ref 0), some (.int x1)], [], (zS0, R, I, J)) r) : zEv X d zm_113 (4, [some (.ref 0), some (.int x1)], [], (zS0, R, I, J)) r := by
  refine zEv_k 2 (f' := (6, [some (.ref 0), some (.int x1)], [.ref 0, .int x1], (zS0, R, I, J))) rfl ?_
  refine zEv_gr rfl rfl rfl (by decide) (hR (0) 0 (1) rfl) ?_
  refine zEv_k 2 (f' := (if x1 ≤ (I 1 1) then 17 else 15, [some (.ref 0), some (.int x1)], [], (zS0, R, I, J))) rfl ?_
  exact zEv_if k1 k2
theorem b_113_15 {X : zX} {d : Nat} {R : zR} {I : zI} {J : zJ} {x1 : Int32} : zEv X d zm_113 (15, [some (.ref 0), some (.int x1)], [], (zS0, R, I, J)) (some (.int (-1)), (zS0, R, I, J)) := by
  refine zEv_k 1 (f' := (16, [some (.ref 0), some (.int x1)], [.int (-1)], (zS0, R, I, J))) rfl ?_
  exact zEv_r rfl
theorem b_113_17 {X : zX} {d : Nat} {R : zR} {I : zI} {J : zJ} {x1 : Int32} (hR : zRok R) : zEv X d zm_113 (17, [some (.ref 0), some (.int x1)], [], (zS0, R, I, J)) (some (.int x1), (zS0, R, zu I 1 1 x1, J)) := by
  refine zEv_k 1 (f' := (18, [some (.ref 0), some (.int x1)], [.ref 0], (zS0, R, I, J))) rfl ?_
  refine zEv_gr rfl rfl rfl (by decide) (hR (0) 0 (1) rfl) ?_
  refine zEv_k 3 (f' := (26, [some (.ref 0), some (.int x1)], [.int x1], (zS0, R, zu I 1 1 x1, J))) rfl ?_
  exact zEv_r rfl
theorem b_114_0 {X : zX} {d : Nat} {R : zR} {I : zI} {J : zJ} {r : zA} {x1 : Int32} {x2 : Int32} (hR : zRok R) (k1 : x1 < 0 → zEv X d zm_114 (41, [some (.ref 0), some (.int x1), some (.int x2), some (.int (I 1 1)), none, none], [], (zS0, R, zu (zu (zu I 1 1 0) 1 2 0) 1 3 (-1), J)) r) (k2 : ¬ (x1 < 0) → zEv X d zm_114 (36, [some (.ref 0), some (.int x1), some (.int x2), some (.int (I 1 1)), none, none], [], (zS0, R, zu (zu (zu I 1 1 0) 1 2 0) 1 3 (-1), J)) r) : zEv X d zm_114 (0, [some (.ref 0), some (.int x1), some (.int x2), none, none, none], [], (zS0, R, I, J)) r := by
  refine zEv_k 1 (f' := (1, [some (.ref 0), some (.int x1), some (.int x2), none, none, none], [.ref 0], (zS0, R, I, J))) rfl ?_
  refine zEv_gr rfl rfl rfl (by decide) (hR (0) 0 (1) rfl) ?_
  refine zEv_k 3 (f' := (9, [some (.ref 0), some (.int x1), some (.int x2), some (.int (I 1 1)), none, none], [.ref 0], (zS0, R, I, J))) rfl ?_
  refine zEv_gr rfl rfl rfl (by decide) (hR (0) 0 (1) rfl) ?_
  refine zEv_k 3 (f' := (17, [some (.ref 0), some (.int x1), some (.int x2), some (.int (I 1 1)), none, none], [.ref 0], (zS0, R, zu I 1 1 0, J))) rfl ?_
  refine zEv_gr rfl rfl rfl (by decide) (hR (0) 0 (1) rfl) ?_
  refine zEv_k 3 (f' := (25, [some (.ref 0), some (.int x1), some (.int x2), some (.int (I 1 1)), none, none], [.ref 0], (zS0, R, zu (zu I 1 1 0) 1 2 0, J))) rfl ?_
  refine zEv_gr rfl rfl rfl (by decide) (hR (0) 0 (1) rfl) ?_
  refine zEv_k 4 (f' := (if x1 < 0 then 41 else 36, [some (.ref 0), some (.int x1), some (.int x2), some (.int (I 1 1)), none, none], [], (zS0, R, zu (zu (zu I 1 1 0) 1 2 0) 1 3 (-1), J))) rfl ?_
  exact zEv_if k1 k2
theorem b_114_36 {X : zX} {d : Nat} {R : zR} {I : zI} {J : zJ} {r : zA} {x1 : Int32} {x2 : Int32} {x3 : Int32} (k1 : x1 < 3 → zEv X d zm_114 (44, [some (.ref 0), some (.int x1), some (.int x2), some (.int x3), none, none], [], (zS0, R, I, J)) r) (k2 : ¬ (x1 < 3) → zEv X d zm_114 (41, [some (.ref 0), some (.int x1), some (.int x2), some (.int x3), none, none], [], (zS0, R, I, J)) r) : zEv X d zm_114 (36, [some (.ref 0), some (.int x1), some (.int x2), some (.int x3), none, none], [], (zS0, R, I, J)) r := by
  refine zEv_k 3 (f' := (if x1 < 3 then 44 else 41, [some (.ref 0), some (.int x1), some (.int x2), some (.int x3), none, none], [], (zS0, R, I, J))) rfl ?_
  exact zEv_if k1 k2
theorem b_114_41 {X : zX} {d : Nat} {R : zR} {I : zI} {J : zJ} {x1 : Int32} {x2 : Int32} {x3 : Int32} : zEv X d zm_114 (41, [some (.ref 0), some (.int x1), some (.int x2), some (.int x3), none, none], [], (zS0, R, I, J)) (some (.int (-2)), (zS0, R, I, J)) := by
  refine zEv_k 1 (f' := (43, [some (.ref 0), some (.int x1), some (.int x2), some (.int x3), none, none], [.int (-2)], (zS0, R, I, J))) rfl ?_
  exact zEv_r rfl
theorem b_114_44 {X : zX} {d : Nat} {R : zR} {I : zI} {J : zJ} {r : zA} {x1 : Int32} {x2 : Int32} {x3 : Int32} (k1 : ¬ x2 = (-1) → zEv X d zm_114 (61, [some (.ref 0), some (.int x1), some (.int x2), some (.int x3), none, none], [], (zS0, R, I, J)) r) (k2 : ¬ (¬ x2 = (-1)) → zEv X d zm_114 (49, [some (.ref 0), some (.int x1), some (.int x2), some (.int x3), none, none], [], (zS0, R, I, J)) r) : zEv X d zm_114 (44, [some (.ref 0), some (.int x1), some (.int x2), some (.int x3), none, none], [], (zS0, R, I, J)) r := by
  refine zEv_k 3 (f' := (if ¬ x2 = (-1) then 61 else 49, [some (.ref 0), some (.int x1), some (.int x2), some (.int x3), none, none], [], (zS0, R, I, J))) rfl ?_
  exact zEv_if k1 k2
theorem b_114_49 {X : zX} {d : Nat} {R : zR} {I : zI} {J : zJ} {r : zA} {x1 : Int32} {x2 : Int32} {x3 : Int32} (hR : zRok R) (h57 : zin x1 3) (k1 : zEv X d zm_114 (62, [some (.ref 0), some (.int x1), some (.int x2), some (.int x3), none, none], [.int (I 3 (x1).toNatClampNeg)], (zS0, R, I, J)) r) : zEv X d zm_114 (49, [some (.ref 0), some (.int x1), some (.int x2), some (.int x3), none, none], [], (zS0, R, I, J)) r := by
  refine zEv_k 1 (f' := (50, [some (.ref 0), some (.int x1), some (.int x2), some (.int x3), none, none], [.ref 0], (zS0, R, I, J))) rfl ?_
  refine zEv_gr rfl rfl rfl (by decide) (hR (0) 0 (1) rfl) ?_
  refine zEv_gr rfl rfl rfl (by decide) (hR (1) 4 (3) rfl) ?_
  refine zEv_k 1 (f' := (57, [some (.ref 0), some (.int x1), some (.int x2), some (.int x3), none, none], [.int x1, .ref 3], (zS0, R, I, J))) rfl ?_
  refine zEv_ial rfl rfl (by decide) h57 ?_
  refine zEv_k 1 (f' := (62, [some (.ref 0), some (.int x1), some (.int x2), some (.int x3), none, none], [.int (I 3 (x1).toNatClampNeg)], (zS0, R, I, J))) rfl ?_
  exact k1
theorem b_114_61 {X : zX} {d : Nat} {R : zR} {I : zI} {J : zJ} {r : zA} {x1 : Int32} {x2 : Int32} {x3 : Int32} (k1 : zEv X d zm_114 (62, [some (.ref 0), some (.int x1), some (.int x2), some (.int x3), none, none], [.int x2], (zS0, R, I, J)) r) : zEv X d zm_114 (61, [some (.ref 0), some (.int x1), some (.int x2), some (.int x3), none, none], [], (zS0, R, I, J)) r := by
  refine zEv_k 1 (f' := (62, [some (.ref 0), some (.int x1), some (.int x2), some (.int x3), none, none], [.int x2], (zS0, R, I, J))) rfl ?_
  exact k1
theorem b_114_62 {X : zX} {d : Nat} {R : zR} {I : zI} {J : zJ} {r : zA} {x1 : Int32} {x2 : Int32} {x3 : Int32} {s0 : Int32} (k1 : ¬ x2 = (-1) → zEv X d zm_114 (73, [some (.ref 0), some (.int x1), some (.int x2), some (.int x3), some (.int s0), none], [], (zS0, R, I, J)) r) (k2 : ¬ (¬ x2 = (-1)) → zEv X d zm_114 (69, [some (.ref 0), some (.int x1), some (.int x2), some (.int x3), some (.int s0), none], [], (zS0, R, I, J)) r) : zEv X d zm_114 (62, [some (.ref 0), some (.int x1), some (.int x2), some (.int x3), none, none], [.int s0], (zS0, R, I, J)) r := by
  refine zEv_k 4 (f' := (if ¬ x2 = (-1) then 73 else 69, [some (.ref 0), some (.int x1), some (.int x2), some (.int x3), some (.int s0), none], [], (zS0, R, I, J))) rfl ?_
  exact zEv_if k1 k2
theorem b_114_69 {X : zX} {d : Nat} {R : zR} {I : zI} {J : zJ} {r : zA} {x1 : Int32} {x2 : Int32} {x3 : Int32} {x4 : Int32} (k1 : zEv X d zm_114 (82, [some (.ref 0), some (.int x1), some (.int x2), some (.int x3), some (.int x4), none], [.int 2], (zS0, R, I, J)) r) : zEv X d zm_114 (69, [some (.ref 0), some (.int x1), some (.int x2), some (.int x3), some (.int x4), none], [], (zS0, R, I, J)) r := by
  refine zEv_k 2 (f' := (82, [some (.ref 0), some (.int x1), some (.int x2), some (.int x3), some (.int x4), none], [.int 2], (zS0, R, I, J))) rfl ?_
  exact k1
theorem b_114_73 {X : zX} {d : Nat} {R : zR} {I : zI} {J : zJ} {r : zA} {x1 : Int32} {x2 : Int32} {x3 : Int32} {x4 : Int32} (hR : zRok R) (h81 : zin x1 3) (k1 : zEv X d zm_114 (82, [some (.ref 0), some (.int x1), some (.int x2), some (.int x3), some (.int x4), none], [.int (I 3 (x1).toNatClampNeg)], (zS0, R, I, J)) r) : zEv X d zm_114 (73, [some (.ref 0), some (.int x1), some (.int x2), some (.int x3), some (.int x4), none], [], (zS0, R, I, J)) r := by
  refine zEv_k 1 (f' := (74, [some (.ref 0), some (.int x1), some (.int x2), some (.int x3), some (.int x4), none], [.ref 0], (zS0, R, I, J))) rfl ?_
  refine zEv_gr rfl rfl rfl (by decide) (hR (0) 0 (1) rfl) ?_
  refine zEv_gr rfl rfl rfl (by decide) (hR (1) 4 (3) rfl) ?_
  refine zEv_k 1 (f' := (81, [some (.ref 0), some (.int x1), some (.int x2), some (.int x3), some (.int x4), none], [.int x1, .ref 3], (zS0, R, I, J))) rfl ?_
  refine zEv_ial rfl rfl (by decide) h81 ?_
  exact k1
theorem b_114_82 {X : zX} {d : Nat} {R : zR} {I : zI} {J : zJ} {r : zA} {x1 : Int32} {x2 : Int32} {x3 : Int32} {x4 : Int32} {s0 : Int32} (k1 : x4 < 0 → zEv X d zm_114 (96, [some (.ref 0), some (.int x1), some (.int x2), some (.int x3), some (.int x4), some (.int s0)], [], (zS0, R, I, J)) r) (k2 : ¬ (x4 < 0) → zEv X d zm_114 (89, [some (.ref 0), some (.int x1), some (.int x2), some (.int x3), some (.int x4), some (.int s0)], [], (zS0, R, I, J)) r) : zEv X d zm_114 (82, [some (.ref 0), some (.int x1), some (.int x2), some (.int x3), some (.int x4), none], [.int s0], (zS0, R, I, J)) r := by
  refine zEv_k 3 (f' := (if x4 < 0 then 96 else 89, [some (.ref 0), some (.int x1), some (.int x2), some (.int x3), some (.int x4), some (.int s0)], [], (zS0, R, I, J))) rfl ?_
  exact zEv_if k1 k2
theorem b_114_89 {X : zX} {d : Nat} {R : zR} {I : zI} {J : zJ} {r : zA} {x1 : Int32} {x2 : Int32} {x3 : Int32} {x4 : Int32} {x5 : Int32} (k1 : x4 < x5 → zEv X d zm_114 (99, [some (.ref 0), some (.int x1), some (.int x2), some (.int x3), some (.int x4), some (.int x5)], [], (zS0, R, I, J)) r) (k2 : ¬ (x4 < x5) → zEv X d zm_114 (96, [some (.ref 0), some (.int x1), some (.int x2), some (.int x3), some (.int x4), some (.int x5)], [], (zS0, R, I, J)) r) : zEv X d zm_114 (89, [some (.ref 0), some (.int x1), some (.int x2), some (.int x3), some (.int x4), some (.int x5)], [], (zS0, R, I, J)) r := by
  refine zEv_k 3 (f' := (if x4 < x5 then 99 else 96, [some (.ref 0), some (.int x1), some (.int x2), some (.int x3), some (.int x4), some (.int x5)], [], (zS0, R, I, J))) rfl ?_
  exact zEv_if k1 k2
theorem b_114_96 {X : zX} {d : Nat} {R : zR} {I : zI} {J : zJ} {x1 : Int32} {x2 : Int32} {x3 : Int32} {x4 : Int32} {x5 : Int32} : zEv X d zm_114 (96, [some (.ref 0), some (.int x1), some (.int x2), some (.int x3), some (.int x4), some (.int x5)], [], (zS0, R, I, J)) (some (.int (-2)), (zS0, R, I, J)) := by
  refine zEv_k 1 (f' := (98, [some (.ref 0), some (.int x1), some (.int x2), some (.int x3), some (.int x4), some (.int x5)], [.int (-2)], (zS0, R, I, J))) rfl ?_
  exact zEv_r rfl
theorem b_114_99 {X : zX} {d : Nat} {R : zR} {I : zI} {J : zJ} {r : zA} {x1 : Int32} {x2 : Int32} {x3 : Int32} {x4 : Int32} {x5 : Int32} {R' : zR} {I' : zI} {J' : zJ} (hR : zRok R) (hc : zEv X d zm_54 (0, [some (.ref 147), some (.int x1), some (.ref 2), some (.int x3), none], [], (zS0, R, I, J)) (none, (zS0, R', I', J'))) (k1 : zEv X (d + 1) zm_114 (115, [some (.ref 0), some (.int x1), some (.int x2), some (.int x3), some (.int x4), some (.int x5)], [], (zS0, R', I', J')) r) : zEv X (d + 1) zm_114 (99, [some (.ref 0), some (.int x1), some (.int x2), some (.int x3), some (.int x4), some (.int x5)], [], (zS0, R, I, J)) r := by
  refine zEv_k 1 (f' := (100, [some (.ref 0), some (.int x1), some (.int x2), some (.int x3), some (.int x4), some (.int x5)], [.ref 0], (zS0, R, I, J))) rfl ?_
  refine zEv_gr rfl rfl rfl (by decide) (hR (0) 3 (147) rfl) ?_
  refine zEv_k 2 (f' := (105, [some (.ref 0), some (.int x1), some (.int x2), some (.int x3), some (.int x4), some (.int x5)], [.ref 0, .int x1, .ref 147], (zS0, R, I, J))) rfl ?_
  refine zEv_gr rfl rfl rfl (by decide) (hR (0) 0 (1) rfl) ?_
  refine zEv_gr rfl rfl rfl (by decide) (hR (1) 0 (2) rfl) ?_
  refine zEv_k 1 (f' := (112, [some (.ref 0), some (.int x1), some (.int x2), some (.int x3), some (.int x4), some (.int x5)], [.int x3, .ref 2, .int x1, .ref 147], (zS0, R, I, J))) rfl ?_
  exact zEv_c (fun _ => rfl) rfl hc rfl rfl k1
theorem b_114_115 {X : zX} {d : Nat} {R : zR} {I : zI} {J : zJ} {r : zA} {x1 : Int32} {x2 : Int32} {x3 : Int32} {x4 : Int32} {x5 : Int32} (hR : zRok R) (k1 : (I 147 3) = 0 → zEv X d zm_114 (155, [some (.ref 0), some (.int x1), some (.int x2), some (.int x3), some (.int x4), some (.int x5)], [], (zS0, R, I, J)) r) (k2 : ¬ ((I 147 3) = 0) → zEv X d zm_114 (125, [some (.ref 0), some (.int x1), some (.int x2), some (.int x3), some (.int x4), some (.int x5)], [], (zS0, R, I, J)) r) : zEv X d zm_114 (115, [some (.ref 0), some (.int x1), some (.int x2), some (.int x3), some (.int x4), some (.int x5)], [], (zS0, R, I, J)) r := by
  refine zEv_k 1 (f' := (116, [some (.ref 0), some (.int x1), some (.int x2), some (.int x3), some (.int x4), some (.int x5)], [.ref 0], (zS0, R, I, J))) rfl ?_
  refine zEv_gr rfl rfl rfl (by decide) (hR (0) 3 (147) rfl) ?_
  refine zEv_k 2 (f' := (if (I 147 3) = 0 then 155 else 125, [some (.ref 0), some (.int x1), some (.int x2), some (.int x3), some (.int x4), some (.int x5)], [], (zS0, R, I, J))) rfl ?_
  exact zEv_if k1 k2
theorem b_114_125 {X : zX} {d : Nat} {R : zR} {I : zI} {J : zJ} {x1 : Int32} {x2 : Int32} {x3 : Int32} {x4 : Int32} {x5 : Int32} (hR : zRok R) : zEv X d zm_114 (125, [some (.ref 0), some (.int x1), some (.int x2), some (.int x3), some (.int x4), some (.int x5)], [], (zS0, R, I, J)) (some (.int (-1)), (zS0, R, zu (zu I 1 2 (I 147 3)) 1 3 (I 147 4), J)) := by
  refine zEv_k 1 (f' := (126, [some (.ref 0), some (.int x1), some (.int x2), some (.int x3), some (.int x4), some (.int x5)], [.ref 0], (zS0, R, I, J))) rfl ?_
  refine zEv_gr rfl rfl rfl (by decide) (hR (0) 0 (1) rfl) ?_
  refine zEv_k 1 (f' := (130, [some (.ref 0), some (.int x1), some (.int x2), some (.int x3), some (.int x4), some (.int x5)], [.ref 0, .ref 1], (zS0, R, I, J))) rfl ?_
  refine zEv_gr rfl rfl rfl (by decide) (hR (0) 3 (147) rfl) ?_
  refine zEv_k 3 (f' := (140, [some (.ref 0), some (.int x1), some (.int x2), some (.int x3), some (.int x4), some (.int x5)], [.ref 0], (zS0, R, zu I 1 2 (I 147 3), J))) rfl ?_
  refine zEv_gr rfl rfl rfl (by decide) (hR (0) 0 (1) rfl) ?_
  refine zEv_k 1 (f' := (144, [some (.ref 0), some (.int x1), some (.int x2), some (.int x3), some (.int x4), some (.int x5)], [.ref 0, .ref 1], (zS0, R, zu I 1 2 (I 147 3), J))) rfl ?_
  refine zEv_gr rfl rfl rfl (by decide) (hR (0) 3 (147) rfl) ?_
  refine zEv_k 3 (f' := (154, [some (.ref 0), some (.int x1), some (.int x2), some (.int x3), some (.int x4), some (.int x5)], [.int (-1)], (zS0, R, zu (zu I 1 2 (I 147 3)) 1 3 (I 147 4), J))) rfl ?_
  exact zEv_r rfl
theorem b_114_155 {X : zX} {d : Nat} {R : zR} {I : zI} {J : zJ} {r : zA} {x1 : Int32} {x2 : Int32} {x3 : Int32} {x4 : Int32} {x5 : Int32} {R' : zR} {I' : zI} {J' : zJ} (hR : zRok R) (hc : zEv X d zm_92 (0, [some (.ref 1), some (.ref 147), some (.int x1), some (.int x4)], [], (zS0, R, I, J)) (none, (zS0, R', I', J'))) (k1 : zEv X (d + 1) zm_114 (169, [some (.ref 0), some (.int x1), some (.int x2), some (.int x3), some (.int x4), some (.int x5)], [], (zS0, R', I', J')) r) : zEv X (d + 1) zm_114 (155, [some (.ref 0), some (.int x1), some (.int x2), some (.int x3), some (.int x4), some (.int x5)], [], (zS0, R, I, J)) r := by
  refine zEv_k 1 (f' := (156, [some (.ref 0), some (.int x1), some (.int x2), some (.int x3), some (.int x4), some (.int x5)], [.ref 0], (zS0, R, I, J))) rfl ?_
  refine zEv_gr rfl rfl rfl (by decide) (hR (0) 0 (1) rfl) ?_
  refine zEv_k 1 (f' := (160, [some (.ref 0), some (.int x1), some (.int x2), some (.int x3), some (.int x4), some (.int x5)], [.ref 0, .ref 1], (zS0, R, I, J))) rfl ?_
  refine zEv_gr rfl rfl rfl (by decide) (hR (0) 3 (147) rfl) ?_
  refine zEv_k 2 (f' := (166, [some (.ref 0), some (.int x1), some (.int x2), some (.int x3), some (.int x4), some (.int x5)], [.int x4, .int x1, .ref 147, .ref 1], (zS0, R, I, J))) rfl ?_
  exact zEv_c (fun _ => rfl) rfl hc rfl rfl k1
theorem b_114_169 {X : zX} {d : Nat} {R : zR} {I : zI} {J : zJ} {r : zA} {x1 : Int32} {x2 : Int32} {x3 : Int32} {x4 : Int32} {x5 : Int32} (k1 : ¬ x1 = 0 → zEv X d zm_114 (177, [some (.ref 0), some (.int x1), some (.int x2), some (.int x3), some (.int x4), some (.int x5)], [], (zS0, R, I, J)) r) (k2 : ¬ (¬ x1 = 0) → zEv X d zm_114 (173, [some (.ref 0), some (.int x1), some (.int x2), some (.int x3), some (.int x4), some (.int x5)], [], (zS0, R, I, J)) r) : zEv X d zm_114 (169, [some (.ref 0), some (.int x1), some (.int x2), some (.int x3), some (.int x4), some (.int x5)], [], (zS0, R, I, J)) r := by
  refine zEv_k 2 (f' := (if ¬ x1 = 0 then 177 else 173, [some (.ref 0), some (.int x1), some (.int x2), some (.int x3), some (.int x4), some (.int x5)], [], (zS0, R, I, J))) rfl ?_
  exact zEv_if k1 k2
theorem b_114_173 {X : zX} {d : Nat} {R : zR} {I : zI} {J : zJ} {r : zA} {x1 : Int32} {x2 : Int32} {x3 : Int32} {x4 : Int32} {x5 : Int32} {R' : zR} {I' : zI} {J' : zJ} (hc : zEv X d zm_142 (0, [some (.ref 0)], [], (zS0, R, I, J)) (none, (zS0, R', I', J'))) (k1 : zEv X (d + 1) zm_114 (177, [some (.ref 0), some (.int x1), some (.int x2), some (.int x3), some (.int x4), some (.int x5)], [], (zS0, R', I', J')) r) : zEv X (d + 1) zm_114 (173, [some (.ref 0), some (.int x1), some (.int x2), some (.int x3), some (.int x4), some (.int x5)], [], (zS0, R, I, J)) r := by
  refine zEv_k 1 (f' := (174, [some (.ref 0), some (.int x1), some (.int x2), some (.int x3), some (.int x4), some (.int x5)], [.ref 0], (zS0, R, I, J))) rfl ?_
  exact zEv_c (fun _ => rfl) rfl hc rfl rfl k1
theorem b_114_177 {X : zX} {d : Nat} {R : zR} {I : zI} {J : zJ} {x1 : Int32} {x2 : Int32} {x3 : Int32} {x4 : Int32} {x5 : Int32} : zEv X d zm_114 (177, [some (.ref 0), some (.int x1), some (.int x2), some (.int x3), some (.int x4), some (.int x5)], [], (zS0, R, I, J)) (some (.int x4), (zS0, R, I, J)) := by
  refine zEv_k 1 (f' := (179, [some (.ref 0), some (.int x1), some (.int x2), some (.int x3), some (.int x4), some (.int x5)], [.int x4], (zS0, R, I, J))) rfl ?_
  exact zEv_r rfl
theorem b_115_0 {X : zX} {d : Nat} {R : zR} {I : zI} {J : zJ} {r : zA} {x1 : Int32} (k1 : ¬ x1 = 0 → zEv X d zm_115 (12, [some (.ref 0), some (.int x1)], [], (zS0, R, I, J)) r) (k2 : ¬ (¬ x1 = 0) → zEv X d zm_115 (4, [some (.ref 0), some (.int x1)], [], (zS0, R, I, J)) r) : zEv X d zm_115 (0, [some (.ref 0), some (.int x1)], [], (zS0, R, I, J)) r := by
  refine zEv_k 2 (f' := (if ¬ x1 = 0 then 12 else 4, [some (.ref 0), some (.int x1)], [], (zS0, R, I, J))) rfl ?_
  exact zEv_if k1 k2
theorem b_115_4 {X : zX} {d : Nat} {R : zR} {I : zI} {J : zJ} {x1 : Int32} (hR : zRok R) : zEv X d zm_115 (4, [some (.ref 0), some (.int x1)], [], (zS0, R, I, J)) (some (.int (I 1 2)), (zS0, R, I, J)) := by
  refine zEv_k 1 (f' := (5, [some (.ref 0), some (.int x1)], [.ref 0], (zS0, R, I, J))) rfl ?_
  refine zEv_gr rfl rfl rfl (by decide) (hR (0) 0 (1) rfl) ?_
  refine zEv_k 1 (f' := (11, [some (.ref 0), some (.int x1)], [.int (I 1 2)], (zS0, R, I, J))) rfl ?_
  exact zEv_r rfl
theorem b_115_12 {X : zX} {d : Nat} {R : zR} {I : zI} {J : zJ} {r : zA} {x1 : Int32} (k1 : ¬ x1 = 1 → zEv X d zm_115 (27, [some (.ref 0), some (.int x1)], [], (zS0, R, I, J)) r) (k2 : ¬ (¬ x1 = 1) → zEv X d zm_115 (17, [some (.ref 0), some (.int x1)], [], (zS0, R, I, J)) r) : zEv X d zm_115 (12, [some (.ref 0), some (.int x1)], [], (zS0, R, I, J)) r := by
  refine zEv_k 3 (f' := (if ¬ x1 = 1 then 27 else 17, [some (.ref 0), some (.int x1)], [], (zS0, R, I, J))) rfl ?_
  exact zEv_if k1 k2
theorem b_115_17 {X : zX} {d : Nat} {R : zR} {I : zI} {J : zJ} {x1 : Int32} (hR : zRok R) : zEv X d zm_115 (17, [some (.ref 0), some (.int x1)], [], (zS0, R, I, J)) (some (.int (I 1 3)), (zS0, R, I, J)) := by
  refine zEv_k 1 (f' := (18, [some (.ref 0), some (.int x1)], [.ref 0], (zS0, R, I, J))) rfl ?_
  refine zEv_gr rfl rfl rfl (by decide) (hR (0) 0 (1) rfl) ?_
  refine zEv_k 2 (f' := (28, [some (.ref 0), some (.int x1)], [.int (I 1 3)], (zS0, R, I, J))) rfl ?_
  exact zEv_r rfl
theorem b_115_27 {X : zX} {d : Nat} {R : zR} {I : zI} {J : zJ} {x1 : Int32} : zEv X d zm_115 (27, [some (.ref 0), some (.int x1)], [], (zS0, R, I, J)) (some (.int (-1)), (zS0, R, I, J)) := by
  refine zEv_k 1 (f' := (28, [some (.ref 0), some (.int x1)], [.int (-1)], (zS0, R, I, J))) rfl ?_
  exact zEv_r rfl
theorem b_116_0r {X : zX} {d : Nat} {R : zR} {I : zI} {J : zJ} {r : zA} {c : Nat} {x1 : Int32} {x2 : Int32} {R' : zR} {I' : zI} {J' : zJ} (hR : zRok R) (ho : c = 7 ∨ c = 22) (hc : zEv X d zm_89 (0, [some (.ref 1), some (.int x1)], [], (zS0, R, I, J)) (some (.ref c), (zS0, R', I', J'))) (k1 : zEv X (d + 1) zm_116 (8, [some (.ref 0), some (.int x1), some (.int x2), none, none], [.ref c], (zS0, R', I', J')) r) : zEv X (d + 1) zm_116 (0, [some (.ref 0), some (.int x1), some (.int x2), none, none], [], (zS0, R, I, J)) r := by
  rcases ho with rfl | rfl
  · refine zEv_k 1 (f' := (1, [some (.ref 0), some (.int x1), some (.int x2), none, none], [.ref 0], (zS0, R, I, J))) rfl ?_
    refine zEv_gr rfl rfl rfl (by decide) (hR (0) 0 (1) rfl) ?_
    refine zEv_k 1 (f' := (5, [some (.ref 0), some (.int x1), some (.int x2), none, none], [.int x1, .ref 1], (zS0, R, I, J))) rfl ?_
    exact zEv_c (fun _ => rfl) rfl hc rfl rfl k1
  · refine zEv_k 1 (f' := (1, [some (.ref 0), some (.int x1), some (.int x2), none, none], [.ref 0], (zS0, R, I, J))) rfl ?_
    refine zEv_gr rfl rfl rfl (by decide) (hR (0) 0 (1) rfl) ?_
    refine zEv_k 1 (f' := (5, [some (.ref 0), some (.int x1), some (.int x2), none, none], [.int x1, .ref 1], (zS0, R, I, J))) rfl ?_
    exact zEv_c (fun _ => rfl) rfl hc rfl rfl k1
theorem b_116_0n {X : zX} {d : Nat} {R : zR} {I : zI} {J : zJ} {r : zA} {x1 : Int32} {x2 : Int32} {R' : zR} {I' : zI} {J' : zJ} (hR : zRok R) (hc : zEv X d zm_89 (0, [some (.ref 1), some (.int x1)], [], (zS0, R, I, J)) (some .null, (zS0, R', I', J'))) (k1 : zEv X (d + 1) zm_116 (8, [some (.ref 0), some (.int x1), some (.int x2), none, none], [.null], (zS0, R', I', J')) r) : zEv X (d + 1) zm_116 (0, [some (.ref 0), some (.int x1), some (.int x2), none, none], [], (zS0, R, I, J)) r := by
  refine zEv_k 1 (f' := (1, [some (.ref 0), some (.int x1), some (.int x2), none, none], [.ref 0], (zS0, R, I, J))) rfl ?_
  refine zEv_gr rfl rfl rfl (by decide) (hR (0) 0 (1) rfl) ?_
  refine zEv_k 1 (f' := (5, [some (.ref 0), some (.int x1), some (.int x2), none, none], [.int x1, .ref 1], (zS0, R, I, J))) rfl ?_
  exact zEv_c (fun _ => rfl) rfl hc rfl rfl k1
theorem b_116_8 {X : zX} {d : Nat} {R : zR} {I : zI} {J : zJ} {r : zA} {c : Nat} {x1 : Int32} {x2 : Int32} (ho : c = 7 ∨ c = 22) (k1 : 0 ≤ x2 → zEv X d zm_116 (19, [some (.ref 0), some (.int x1), some (.int x2), some (.ref c), none], [], (zS0, R, I, J)) r) (k2 : ¬ (0 ≤ x2) → zEv X d zm_116 (17, [some (.ref 0), some (.int x1), some (.int x2), some (.ref c), none], [], (zS0, R, I, J)) r) : zEv X d zm_116 (8, [some (.ref 0), some (.int x1), some (.int x2), none, none], [.ref c], (zS0, R, I, J)) r := by
  rcases ho with rfl | rfl
  · refine zEv_k 5 (f' := (if 0 ≤ x2 then 19 else 17, [some (.ref 0), some (.int x1), some (.int x2), some (.ref 7), none], [], (zS0, R, I, J))) rfl ?_
    exact zEv_if k1 k2
  · refine zEv_k 5 (f' := (if 0 ≤ x2 then 19 else 17, [some (.ref 0), some (.int x1), some (.int x2), some (.ref 22), none], [], (zS0, R, I, J))) rfl ?_
    exact zEv_if k1 k2
theorem b_116_8n100 {X : zX} {d : Nat} {R : zR} {I : zI} {J : zJ} {r : zA} {x1 : Int32} {x2 : Int32} (k1 : zEv X d zm_116 (17, [some (.ref 0), some (.int x1), some (.int x2), some (.null), none], [], (zS0, R, I, J)) r) : zEv X d zm_116 (8, [some (.ref 0), some (.int x1), some (.int x2), none, none], [.null], (zS0, R, I, J)) r := by
  refine zEv_k 3 (f' := (17, [some (.ref 0), some (.int x1), some (.int x2), some (.null), none], [], (zS0, R, I, J))) rfl ?_
  exact k1
theorem b_116_17 {X : zX} {d : Nat} {R : zR} {I : zI} {J : zJ} {c : Nat} {x1 : Int32} {x2 : Int32} (ho : c = 7 ∨ c = 22) : zEv X d zm_116 (17, [some (.ref 0), some (.int x1), some (.int x2), some (.ref c), none], [], (zS0, R, I, J)) (some (.int (-1)), (zS0, R, I, J)) := by
  rcases ho with rfl | rfl
  · refine zEv_k 1 (f' := (18, [some (.ref 0), some (.int x1), some (.int x2), some (.ref 7), none], [.int (-1)], (zS0, R, I, J))) rfl ?_
    exact zEv_r rfl
  · refine zEv_k 1 (f' := (18, [some (.ref 0), some (.int x1), some (.int x2), some (.ref 22), none], [.int (-1)], (zS0, R, I, J))) rfl ?_
    exact zEv_r rfl
theorem b_116_17n3 {X : zX} {d : Nat} {R : zR} {I : zI} {J : zJ} {x1 : Int32} {x2 : Int32} : zEv X d zm_116 (17, [some (.ref 0), some (.int x1), some (.int x2), some (.null), none], [], (zS0, R, I, J)) (some (.int (-1)), (zS0, R, I, J)) := by
  refine zEv_k 1 (f' := (18, [some (.ref 0), some (.int x1), some (.int x2), some (.null), none], [.int (-1)], (zS0, R, I, J))) rfl ?_
  exact zEv_r rfl
theorem b_116_19 {X : zX} {d : Nat} {R : zR} {I : zI} {J : zJ} {r : zA} {c : Nat} {x1 : Int32} {x2 : Int32} (ho : c = 7 ∨ c = 22) (k0 : x2 = 0 → zEv X d zm_116 (48, [some (.ref 0), some (.int x1), some (.int x2), some (.ref c), none], [], (zS0, R, I, J)) r) (k1 : x2 = 1 → zEv X d zm_116 (53, [some (.ref 0), some (.int x1), some (.int x2), some (.ref c), none], [], (zS0, R, I, J)) r) (k2 : x2 = 2 → zEv X d zm_116 (58, [some (.ref 0), some (.int x1), some (.int x2), some (.ref c), none], [], (zS0, R, I, J)) r) (kd : ¬ (0 ≤ (x2 : Int32).toInt ∧ (x2 : Int32).toInt ≤ 2) → zEv X d zm_116 (63, [some (.ref 0), some (.int x1), some (.int x2), some (.ref c), none], [], (zS0, R, I, J)) r) : zEv X d zm_116 (19, [some (.ref 0), some (.int x1), some (.int x2), some (.ref c), none], [], (zS0, R, I, J)) r := by
  rcases ho with rfl | rfl
  · refine zEv_k 1 (f' := (20, [some (.ref 0), some (.int x1), some (.int x2), some (.ref 7), none], [.int x2], (zS0, R, I, J))) rfl ?_
    refine zEv_ts rfl (by decide) (by decide) (by decide) (fun hh => ?_) (fun j hj hh => ?_)
    · exact kd (by omega)
    · rcases (by have hj2 : j < 3 := hj; omega : j = 0 ∨ j = 1 ∨ j = 2) with rfl | rfl | rfl
      · exact k0 (zeqI hh (by decide))
      · exact k1 (zeqI hh (by decide))
      · exact k2 (zeqI hh (by decide))
  · refine zEv_k 1 (f' := (20, [some (.ref 0), some (.int x1), some (.int x2), some (.ref 22), none], [.int x2], (zS0, R, I, J))) rfl ?_
    refine zEv_ts rfl (by decide) (by decide) (by decide) (fun hh => ?_) (fun j hj hh => ?_)
    · exact kd (by omega)
    · rcases (by have hj2 : j < 3 := hj; omega : j = 0 ∨ j = 1 ∨ j = 2) with rfl | rfl | rfl
      · exact k0 (zeqI hh (by decide))
      · exact k1 (zeqI hh (by decide))
      · exact k2 (zeqI hh (by decide))
theorem b_116_48 {X : zX} {d : Nat} {R : zR} {I : zI} {J : zJ} {c : Nat} {x1 : Int32} {x2 : Int32} (ho : c = 7 ∨ c = 22) : zEv X d zm_116 (48, [some (.ref 0), some (.int x1), some (.int x2), some (.ref c), none], [], (zS0, R, I, J)) (some (.int (I c 0)), (zS0, R, I, J)) := by
  rcases ho with rfl | rfl
  · refine zEv_k 2 (f' := (52, [some (.ref 0), some (.int x1), some (.int x2), some (.ref 7), none], [.int (I 7 0)], (zS0, R, I, J))) rfl ?_
    exact zEv_r rfl
  · refine zEv_k 2 (f' := (52, [some (.ref 0), some (.int x1), some (.int x2), some (.ref 22), none], [.int (I 22 0)], (zS0, R, I, J))) rfl ?_
    exact zEv_r rfl
theorem b_116_53 {X : zX} {d : Nat} {R : zR} {I : zI} {J : zJ} {c : Nat} {x1 : Int32} {x2 : Int32} (ho : c = 7 ∨ c = 22) : zEv X d zm_116 (53, [some (.ref 0), some (.int x1), some (.int x2), some (.ref c), none], [], (zS0, R, I, J)) (some (.int (I c 1)), (zS0, R, I, J)) := by
  rcases ho with rfl | rfl
  · refine zEv_k 2 (f' := (57, [some (.ref 0), some (.int x1), some (.int x2), some (.ref 7), none], [.int (I 7 1)], (zS0, R, I, J))) rfl ?_
    exact zEv_r rfl
  · refine zEv_k 2 (f' := (57, [some (.ref 0), some (.int x1), some (.int x2), some (.ref 22), none], [.int (I 22 1)], (zS0, R, I, J))) rfl ?_
    exact zEv_r rfl
theorem b_116_58 {X : zX} {d : Nat} {R : zR} {I : zI} {J : zJ} {c : Nat} {x1 : Int32} {x2 : Int32} (ho : c = 7 ∨ c = 22) : zEv X d zm_116 (58, [some (.ref 0), some (.int x1), some (.int x2), some (.ref c), none], [], (zS0, R, I, J)) (some (.int (I c 2)), (zS0, R, I, J)) := by
  rcases ho with rfl | rfl
  · refine zEv_k 2 (f' := (62, [some (.ref 0), some (.int x1), some (.int x2), some (.ref 7), none], [.int (I 7 2)], (zS0, R, I, J))) rfl ?_
    exact zEv_r rfl
  · refine zEv_k 2 (f' := (62, [some (.ref 0), some (.int x1), some (.int x2), some (.ref 22), none], [.int (I 22 2)], (zS0, R, I, J))) rfl ?_
    exact zEv_r rfl
theorem b_116_63 {X : zX} {d : Nat} {R : zR} {I : zI} {J : zJ} {r : zA} {c : Nat} {x1 : Int32} {x2 : Int32} {w : Int32} {R' : zR} {I' : zI} {J' : zJ} (ho : c = 7 ∨ c = 22) (hc : zEv X d zm_6 (0, [some (.ref c), some (.int (x2 - x2 / 10 * 10))], [], (zS0, R, I, J)) (some (.int w), (zS0, R', I', J'))) (k1 : zEv X (d + 1) zm_116 (75, [some (.ref 0), some (.int x1), some (.int x2), some (.ref c), some (.int (x2 - x2 / 10 * 10))], [.int w], (zS0, R', I', J')) r) : zEv X (d + 1) zm_116 (63, [some (.ref 0), some (.int x1), some (.int x2), some (.ref c), none], [], (zS0, R, I, J)) r := by
  rcases ho with rfl | rfl
  · refine zEv_k 2 (f' := (66, [some (.ref 0), some (.int x1), some (.int x2), some (.ref 7), none], [.int 10, .int x2], (zS0, R, I, J))) rfl ?_
    refine zEv_rem rfl (by decide) ?_
    refine zEv_k 3 (f' := (72, [some (.ref 0), some (.int x1), some (.int x2), some (.ref 7), some (.int (x2 - x2 / 10 * 10))], [.int (x2 - x2 / 10 * 10), .ref 7], (zS0, R, I, J))) rfl ?_
    exact zEv_c (fun _ => rfl) rfl hc rfl rfl k1
  · refine zEv_k 2 (f' := (66, [some (.ref 0), some (.int x1), some (.int x2), some (.ref 22), none], [.int 10, .int x2], (zS0, R, I, J))) rfl ?_
    refine zEv_rem rfl (by decide) ?_
    refine zEv_k 3 (f' := (72, [some (.ref 0), some (.int x1), some (.int x2), some (.ref 22), some (.int (x2 - x2 / 10 * 10))], [.int (x2 - x2 / 10 * 10), .ref 22], (zS0, R, I, J))) rfl ?_
    exact zEv_c (fun _ => rfl) rfl hc rfl rfl k1
theorem b_116_75 {X : zX} {d : Nat} {R : zR} {I : zI} {J : zJ} {r : zA} {c : Nat} {x1 : Int32} {x2 : Int32} {x4 : Int32} {s0 : Int32} (ho : c = 7 ∨ c = 22) (k1 : ¬ s0 = 0 → zEv X d zm_116 (80, [some (.ref 0), some (.int x1), some (.int x2), some (.ref c), some (.int x4)], [], (zS0, R, I, J)) r) (k2 : ¬ (¬ s0 = 0) → zEv X d zm_116 (78, [some (.ref 0), some (.int x1), some (.int x2), some (.ref c), some (.int x4)], [], (zS0, R, I, J)) r) : zEv X d zm_116 (75, [some (.ref 0), some (.int x1), some (.int x2), some (.ref c), some (.int x4)], [.int s0], (zS0, R, I, J)) r := by
  rcases ho with rfl | rfl
  · refine zEv_k 1 (f' := (if ¬ s0 = 0 then 80 else 78, [some (.ref 0), some (.int x1), some (.int x2), some (.ref 7), some (.int x4)], [], (zS0, R, I, J))) rfl ?_
    exact zEv_if k1 k2
  · refine zEv_k 1 (f' := (if ¬ s0 = 0 then 80 else 78, [some (.ref 0), some (.int x1), some (.int x2), some (.ref 22), some (.int x4)], [], (zS0, R, I, J))) rfl ?_
    exact zEv_if k1 k2
theorem b_116_78 {X : zX} {d : Nat} {R : zR} {I : zI} {J : zJ} {c : Nat} {x1 : Int32} {x2 : Int32} {x4 : Int32} (ho : c = 7 ∨ c = 22) : zEv X d zm_116 (78, [some (.ref 0), some (.int x1), some (.int x2), some (.ref c), some (.int x4)], [], (zS0, R, I, J)) (some (.int (-1)), (zS0, R, I, J)) := by
  rcases ho with rfl | rfl
  · refine zEv_k 1 (f' := (79, [some (.ref 0), some (.int x1), some (.int x2), some (.ref 7), some (.int x4)], [.int (-1)], (zS0, R, I, J))) rfl ?_
    exact zEv_r rfl
  · refine zEv_k 1 (f' := (79, [some (.ref 0), some (.int x1), some (.int x2), some (.ref 22), some (.int x4)], [.int (-1)], (zS0, R, I, J))) rfl ?_
    exact zEv_r rfl
theorem b_116_80 {X : zX} {d : Nat} {R : zR} {I : zI} {J : zJ} {r : zA} {c : Nat} {x1 : Int32} {x2 : Int32} {x4 : Int32} (ho : c = 7 ∨ c = 22) (k0 : (x2 / 10) = 1 → zEv X d zm_116 (128, [some (.ref 0), some (.int x1), some (.int x2), some (.ref c), some (.int x4)], [], (zS0, R, I, J)) r) (k1 : (x2 / 10) = 2 → zEv X d zm_116 (136, [some (.ref 0), some (.int x1), some (.int x2), some (.ref c), some (.int x4)], [], (zS0, R, I, J)) r) (k2 : (x2 / 10) = 3 → zEv X d zm_116 (144, [some (.ref 0), some (.int x1), some (.int x2), some (.ref c), some (.int x4)], [], (zS0, R, I, J)) r) (k3 : (x2 / 10) = 4 → zEv X d zm_116 (152, [some (.ref 0), some (.int x1), some (.int x2), some (.ref c), some (.int x4)], [], (zS0, R, I, J)) r) (k4 : (x2 / 10) = 5 → zEv X d zm_116 (160, [some (.ref 0), some (.int x1), some (.int x2), some (.ref c), some (.int x4)], [], (zS0, R, I, J)) r) (k5 : (x2 / 10) = 6 → zEv X d zm_116 (168, [some (.ref 0), some (.int x1), some (.int x2), some (.ref c), some (.int x4)], [], (zS0, R, I, J)) r) (k6 : (x2 / 10) = 7 → zEv X d zm_116 (176, [some (.ref 0), some (.int x1), some (.int x2), some (.ref c), some (.int x4)], [], (zS0, R, I, J)) r) (kd : ¬ (1 ≤ (x2 / 10 : Int32).toInt ∧ (x2 / 10 : Int32).toInt ≤ 7) → zEv X d zm_116 (184, [some (.ref 0), some (.int x1), some (.int x2), some (.ref c), some (.int x4)], [], (zS0, R, I, J)) r) : zEv X d zm_116 (80, [some (.ref 0), some (.int x1), some (.int x2), some (.ref c), some (.int x4)], [], (zS0, R, I, J)) r := by
  rcases ho with rfl | rfl
  · refine zEv_k 2 (f' := (83, [some (.ref 0), some (.int x1), some (.int x2), some (.ref 7), some (.int x4)], [.int 10, .int x2], (zS0, R, I, J))) rfl ?_
    refine zEv_div rfl (by decide) ?_
    refine zEv_ts rfl (by decide) (by decide) (by decide) (fun hh => ?_) (fun j hj hh => ?_)
    · exact kd (by omega)
    · rcases (by have hj2 : j < 7 := hj; omega : j = 0 ∨ j = 1 ∨ j = 2 ∨ j = 3 ∨ j = 4 ∨ j = 5 ∨ j = 6) with rfl | rfl | rfl | rfl | rfl | rfl | rfl
      · exact k0 (zeqI hh (by decide))
      · exact k1 (zeqI hh (by decide))
      · exact k2 (zeqI hh (by decide))
      · exact k3 (zeqI hh (by decide))
      · exact k4 (zeqI hh (by decide))
      · exact k5 (zeqI hh (by decide))
      · exact k6 (zeqI hh (by decide))
  · refine zEv_k 2 (f' := (83, [some (.ref 0), some (.int x1), some (.int x2), some (.ref 22), some (.int x4)], [.int 10, .int x2], (zS0, R, I, J))) rfl ?_
    refine zEv_div rfl (by decide) ?_
    refine zEv_ts rfl (by decide) (by decide) (by decide) (fun hh => ?_) (fun j hj hh => ?_)
    · exact kd (by omega)
    · rcases (by have hj2 : j < 7 := hj; omega : j = 0 ∨ j = 1 ∨ j = 2 ∨ j = 3 ∨ j = 4 ∨ j = 5 ∨ j = 6) with rfl | rfl | rfl | rfl | rfl | rfl | rfl
      · exact k0 (zeqI hh (by decide))
      · exact k1 (zeqI hh (by decide))
      · exact k2 (zeqI hh (by decide))
      · exact k3 (zeqI hh (by decide))
      · exact k4 (zeqI hh (by decide))
      · exact k5 (zeqI hh (by decide))
      · exact k6 (zeqI hh (by decide))
theorem b_116_128 {X : zX} {d : Nat} {R : zR} {I : zI} {J : zJ} {c : Nat} {x1 : Int32} {x2 : Int32} {x4 : Int32} (hR : zRok R) (ho : c = 7 ∨ c = 22) (h134 : zin x4 7) : zEv X d zm_116 (128, [some (.ref 0), some (.int x1), some (.int x2), some (.ref c), some (.int x4)], [], (zS0, R, I, J)) (some (.int (I (c + 1) (x4).toNatClampNeg)), (zS0, R, I, J)) := by
  rcases ho with rfl | rfl
  · refine zEv_k 1 (f' := (129, [some (.ref 0), some (.int x1), some (.int x2), some (.ref 7), some (.int x4)], [.ref 7], (zS0, R, I, J))) rfl ?_
    refine zEv_gr rfl rfl rfl (by decide) (hR (7) 3 (7 + 1) rfl) ?_
    refine zEv_k 1 (f' := (134, [some (.ref 0), some (.int x1), some (.int x2), some (.ref 7), some (.int x4)], [.int x4, .ref (7 + 1)], (zS0, R, I, J))) rfl ?_
    refine zEv_ial rfl rfl (by decide) h134 ?_
    exact zEv_r rfl
  · refine zEv_k 1 (f' := (129, [some (.ref 0), some (.int x1), some (.int x2), some (.ref 22), some (.int x4)], [.ref 22], (zS0, R, I, J))) rfl ?_
    refine zEv_gr rfl rfl rfl (by decide) (hR (22) 3 (22 + 1) rfl) ?_
    refine zEv_k 1 (f' := (134, [some (.ref 0), some (.int x1), some (.int x2), some (.ref 22), some (.int x4)], [.int x4, .ref (22 + 1)], (zS0, R, I, J))) rfl ?_
    refine zEv_ial rfl rfl (by decide) h134 ?_
    exact zEv_r rfl
theorem b_116_136 {X : zX} {d : Nat} {R : zR} {I : zI} {J : zJ} {c : Nat} {x1 : Int32} {x2 : Int32} {x4 : Int32} (hR : zRok R) (ho : c = 7 ∨ c = 22) (h142 : zin x4 7) : zEv X d zm_116 (136, [some (.ref 0), some (.int x1), some (.int x2), some (.ref c), some (.int x4)], [], (zS0, R, I, J)) (some (.int (I (c + 2) (x4).toNatClampNeg)), (zS0, R, I, J)) := by
  rcases ho with rfl | rfl
  · refine zEv_k 1 (f' := (137, [some (.ref 0), some (.int x1), some (.int x2), some (.ref 7), some (.int x4)], [.ref 7], (zS0, R, I, J))) rfl ?_
    refine zEv_gr rfl rfl rfl (by decide) (hR (7) 4 (7 + 2) rfl) ?_
    refine zEv_k 1 (f' := (142, [some (.ref 0), some (.int x1), some (.int x2), some (.ref 7), some (.int x4)], [.int x4, .ref (7 + 2)], (zS0, R, I, J))) rfl ?_
    refine zEv_ial rfl rfl (by decide) h142 ?_
    exact zEv_r rfl
  · refine zEv_k 1 (f' := (137, [some (.ref 0), some (.int x1), some (.int x2), some (.ref 22), some (.int x4)], [.ref 22], (zS0, R, I, J))) rfl ?_
    refine zEv_gr rfl rfl rfl (by decide) (hR (22) 4 (22 + 2) rfl) ?_
    refine zEv_k 1 (f' := (142, [some (.ref 0), some (.int x1), some (.int x2), some (.ref 22), some (.int x4)], [.int x4, .ref (22 + 2)], (zS0, R, I, J))) rfl ?_
    refine zEv_ial rfl rfl (by decide) h142 ?_
    exact zEv_r rfl
theorem b_116_144 {X : zX} {d : Nat} {R : zR} {I : zI} {J : zJ} {c : Nat} {x1 : Int32} {x2 : Int32} {x4 : Int32} (hR : zRok R) (ho : c = 7 ∨ c = 22) (h150 : zin x4 7) : zEv X d zm_116 (144, [some (.ref 0), some (.int x1), some (.int x2), some (.ref c), some (.int x4)], [], (zS0, R, I, J)) (some (.int (I (c + 3) (x4).toNatClampNeg)), (zS0, R, I, J)) := by
  rcases ho with rfl | rfl
  · refine zEv_k 1 (f' := (145, [some (.ref 0), some (.int x1), some (.int x2), some (.ref 7), some (.int x4)], [.ref 7], (zS0, R, I, J))) rfl ?_
    refine zEv_gr rfl rfl rfl (by decide) (hR (7) 5 (7 + 3) rfl) ?_
    refine zEv_k 1 (f' := (150, [some (.ref 0), some (.int x1), some (.int x2), some (.ref 7), some (.int x4)], [.int x4, .ref (7 + 3)], (zS0, R, I, J))) rfl ?_
    refine zEv_ial rfl rfl (by decide) h150 ?_
    exact zEv_r rfl
  · refine zEv_k 1 (f' := (145, [some (.ref 0), some (.int x1), some (.int x2), some (.ref 22), some (.int x4)], [.ref 22], (zS0, R, I, J))) rfl ?_
    refine zEv_gr rfl rfl rfl (by decide) (hR (22) 5 (22 + 3) rfl) ?_
    refine zEv_k 1 (f' := (150, [some (.ref 0), some (.int x1), some (.int x2), some (.ref 22), some (.int x4)], [.int x4, .ref (22 + 3)], (zS0, R, I, J))) rfl ?_
    refine zEv_ial rfl rfl (by decide) h150 ?_
    exact zEv_r rfl
theorem b_116_152 {X : zX} {d : Nat} {R : zR} {I : zI} {J : zJ} {c : Nat} {x1 : Int32} {x2 : Int32} {x4 : Int32} (hR : zRok R) (ho : c = 7 ∨ c = 22) (h158 : zin x4 7) : zEv X d zm_116 (152, [some (.ref 0), some (.int x1), some (.int x2), some (.ref c), some (.int x4)], [], (zS0, R, I, J)) (some (.int (I (c + 4) (x4).toNatClampNeg)), (zS0, R, I, J)) := by
  rcases ho with rfl | rfl
  · refine zEv_k 1 (f' := (153, [some (.ref 0), some (.int x1), some (.int x2), some (.ref 7), some (.int x4)], [.ref 7], (zS0, R, I, J))) rfl ?_
    refine zEv_gr rfl rfl rfl (by decide) (hR (7) 6 (7 + 4) rfl) ?_
    refine zEv_k 1 (f' := (158, [some (.ref 0), some (.int x1), some (.int x2), some (.ref 7), some (.int x4)], [.int x4, .ref (7 + 4)], (zS0, R, I, J))) rfl ?_
    refine zEv_ial rfl rfl (by decide) h158 ?_
    exact zEv_r rfl
  · refine zEv_k 1 (f' := (153, [some (.ref 0), some (.int x1), some (.int x2), some (.ref 22), some (.int x4)], [.ref 22], (zS0, R, I, J))) rfl ?_
    refine zEv_gr rfl rfl rfl (by decide) (hR (22) 6 (22 + 4) rfl) ?_
    refine zEv_k 1 (f' := (158, [some (.ref 0), some (.int x1), some (.int x2), some (.ref 22), some (.int x4)], [.int x4, .ref (22 + 4)], (zS0, R, I, J))) rfl ?_
    refine zEv_ial rfl rfl (by decide) h158 ?_
    exact zEv_r rfl
theorem b_116_160 {X : zX} {d : Nat} {R : zR} {I : zI} {J : zJ} {c : Nat} {x1 : Int32} {x2 : Int32} {x4 : Int32} (hR : zRok R) (ho : c = 7 ∨ c = 22) (h166 : zin x4 7) : zEv X d zm_116 (160, [some (.ref 0), some (.int x1), some (.int x2), some (.ref c), some (.int x4)], [], (zS0, R, I, J)) (some (.int (I (c + 5) (x4).toNatClampNeg)), (zS0, R, I, J)) := by
  rcases ho with rfl | rfl
  · refine zEv_k 1 (f' := (161, [some (.ref 0), some (.int x1), some (.int x2), some (.ref 7), some (.int x4)], [.ref 7], (zS0, R, I, J))) rfl ?_
    refine zEv_gr rfl rfl rfl (by decide) (hR (7) 7 (7 + 5) rfl) ?_
    refine zEv_k 1 (f' := (166, [some (.ref 0), some (.int x1), some (.int x2), some (.ref 7), some (.int x4)], [.int x4, .ref (7 + 5)], (zS0, R, I, J))) rfl ?_
    refine zEv_ial rfl rfl (by decide) h166 ?_
    exact zEv_r rfl
  · refine zEv_k 1 (f' := (161, [some (.ref 0), some (.int x1), some (.int x2), some (.ref 22), some (.int x4)], [.ref 22], (zS0, R, I, J))) rfl ?_
    refine zEv_gr rfl rfl rfl (by decide) (hR (22) 7 (22 + 5) rfl) ?_
    refine zEv_k 1 (f' := (166, [some (.ref 0), some (.int x1), some (.int x2), some (.ref 22), some (.int x4)], [.int x4, .ref (22 + 5)], (zS0, R, I, J))) rfl ?_
    refine zEv_ial rfl rfl (by decide) h166 ?_
    exact zEv_r rfl
theorem b_116_168 {X : zX} {d : Nat} {R : zR} {I : zI} {J : zJ} {c : Nat} {x1 : Int32} {x2 : Int32} {x4 : Int32} (hR : zRok R) (ho : c = 7 ∨ c = 22) (h174 : zin x4 7) : zEv X d zm_116 (168, [some (.ref 0), some (.int x1), some (.int x2), some (.ref c), some (.int x4)], [], (zS0, R, I, J)) (some (.int (I (c + 6) (x4).toNatClampNeg)), (zS0, R, I, J)) := by
  rcases ho with rfl | rfl
  · refine zEv_k 1 (f' := (169, [some (.ref 0), some (.int x1), some (.int x2), some (.ref 7), some (.int x4)], [.ref 7], (zS0, R, I, J))) rfl ?_
    refine zEv_gr rfl rfl rfl (by decide) (hR (7) 8 (7 + 6) rfl) ?_
    refine zEv_k 1 (f' := (174, [some (.ref 0), some (.int x1), some (.int x2), some (.ref 7), some (.int x4)], [.int x4, .ref (7 + 6)], (zS0, R, I, J))) rfl ?_
    refine zEv_ial rfl rfl (by decide) h174 ?_
    exact zEv_r rfl
  · refine zEv_k 1 (f' := (169, [some (.ref 0), some (.int x1), some (.int x2), some (.ref 22), some (.int x4)], [.ref 22], (zS0, R, I, J))) rfl ?_
    refine zEv_gr rfl rfl rfl (by decide) (hR (22) 8 (22 + 6) rfl) ?_
    refine zEv_k 1 (f' := (174, [some (.ref 0), some (.int x1), some (.int x2), some (.ref 22), some (.int x4)], [.int x4, .ref (22 + 6)], (zS0, R, I, J))) rfl ?_
    refine zEv_ial rfl rfl (by decide) h174 ?_
    exact zEv_r rfl
theorem b_116_176 {X : zX} {d : Nat} {R : zR} {I : zI} {J : zJ} {c : Nat} {x1 : Int32} {x2 : Int32} {x4 : Int32} (hR : zRok R) (ho : c = 7 ∨ c = 22) (h182 : zin x4 7) : zEv X d zm_116 (176, [some (.ref 0), some (.int x1), some (.int x2), some (.ref c), some (.int x4)], [], (zS0, R, I, J)) (some (.int (I (c + 7) (x4).toNatClampNeg)), (zS0, R, I, J)) := by
  rcases ho with rfl | rfl
  · refine zEv_k 1 (f' := (177, [some (.ref 0), some (.int x1), some (.int x2), some (.ref 7), some (.int x4)], [.ref 7], (zS0, R, I, J))) rfl ?_
    refine zEv_gr rfl rfl rfl (by decide) (hR (7) 9 (7 + 7) rfl) ?_
    refine zEv_k 1 (f' := (182, [some (.ref 0), some (.int x1), some (.int x2), some (.ref 7), some (.int x4)], [.int x4, .ref (7 + 7)], (zS0, R, I, J))) rfl ?_
    refine zEv_ial rfl rfl (by decide) h182 ?_
    exact zEv_r rfl
  · refine zEv_k 1 (f' := (177, [some (.ref 0), some (.int x1), some (.int x2), some (.ref 22), some (.int x4)], [.ref 22], (zS0, R, I, J))) rfl ?_
    refine zEv_gr rfl rfl rfl (by decide) (hR (22) 9 (22 + 7) rfl) ?_
    refine zEv_k 1 (f' := (182, [some (.ref 0), some (.int x1), some (.int x2), some (.ref 22), some (.int x4)], [.int x4, .ref (22 + 7)], (zS0, R, I, J))) rfl ?_
    refine zEv_ial rfl rfl (by decide) h182 ?_
    exact zEv_r rfl
theorem b_116_184 {X : zX} {d : Nat} {R : zR} {I : zI} {J : zJ} {c : Nat} {x1 : Int32} {x2 : Int32} {x4 : Int32} (ho : c = 7 ∨ c = 22) : zEv X d zm_116 (184, [some (.ref 0), some (.int x1), some (.int x2), some (.ref c), some (.int x4)], [], (zS0, R, I, J)) (some (.int (-1)), (zS0, R, I, J)) := by
  rcases ho with rfl | rfl
  · refine zEv_k 1 (f' := (185, [some (.ref 0), some (.int x1), some (.int x2), some (.ref 7), some (.int x4)], [.int (-1)], (zS0, R, I, J))) rfl ?_
    exact zEv_r rfl
  · refine zEv_k 1 (f' := (185, [some (.ref 0), some (.int x1), some (.int x2), some (.ref 22), some (.int x4)], [.int (-1)], (zS0, R, I, J))) rfl ?_
    exact zEv_r rfl
theorem b_117_0r {X : zX} {d : Nat} {R : zR} {I : zI} {J : zJ} {r : zA} {e : Nat} {x1 : Int32} {x2 : Int32} {x3 : Int32} {R' : zR} {I' : zI} {J' : zJ} (hR : zRok R) (ho : e = 15 ∨ e = 30) (hc : zEv X d zm_90 (0, [some (.ref 1), some (.int x1)], [], (zS0, R, I, J)) (some (.ref e), (zS0, R', I', J'))) (k1 : zEv X (d + 1) zm_117 (8, [some (.ref 0), some (.int x1), some (.int x2), some (.int x3), none], [.ref e], (zS0, R', I', J')) r) : zEv X (d + 1) zm_117 (0, [some (.ref 0), some (.int x1), some (.int x2), some (.int x3), none], [], (zS0, R, I, J)) r := by
  rcases ho with rfl | rfl
  · refine zEv_k 1 (f' := (1, [some (.ref 0), some (.int x1), some (.int x2), some (.int x3), none], [.ref 0], (zS0, R, I, J))) rfl ?_
    refine zEv_gr rfl rfl rfl (by decide) (hR (0) 0 (1) rfl) ?_
    refine zEv_k 1 (f' := (5, [some (.ref 0), some (.int x1), some (.int x2), some (.int x3), none], [.int x1, .ref 1], (zS0, R, I, J))) rfl ?_
    exact zEv_c (fun _ => rfl) rfl hc rfl rfl k1
  · refine zEv_k 1 (f' := (1, [some (.ref 0), some (.int x1), some (.int x2), some (.int x3), none], [.ref 0], (zS0, R, I, J))) rfl ?_
    refine zEv_gr rfl rfl rfl (by decide) (hR (0) 0 (1) rfl) ?_
    refine zEv_k 1 (f' := (5, [some (.ref 0), some (.int x1), some (.int x2), some (.int x3), none], [.int x1, .ref 1], (zS0, R, I, J))) rfl ?_
    exact zEv_c (fun _ => rfl) rfl hc rfl rfl k1
theorem b_117_0n {X : zX} {d : Nat} {R : zR} {I : zI} {J : zJ} {r : zA} {x1 : Int32} {x2 : Int32} {x3 : Int32} {R' : zR} {I' : zI} {J' : zJ} (hR : zRok R) (hc : zEv X d zm_90 (0, [some (.ref 1), some (.int x1)], [], (zS0, R, I, J)) (some .null, (zS0, R', I', J'))) (k1 : zEv X (d + 1) zm_117 (8, [some (.ref 0), some (.int x1), some (.int x2), some (.int x3), none], [.null], (zS0, R', I', J')) r) : zEv X (d + 1) zm_117 (0, [some (.ref 0), some (.int x1), some (.int x2), some (.int x3), none], [], (zS0, R, I, J)) r := by
  refine zEv_k 1 (f' := (1, [some (.ref 0), some (.int x1), some (.int x2), some (.int x3), none], [.ref 0], (zS0, R, I, J))) rfl ?_
  refine zEv_gr rfl rfl rfl (by decide) (hR (0) 0 (1) rfl) ?_
  refine zEv_k 1 (f' := (5, [some (.ref 0), some (.int x1), some (.int x2), some (.int x3), none], [.int x1, .ref 1], (zS0, R, I, J))) rfl ?_
  exact zEv_c (fun _ => rfl) rfl hc rfl rfl k1
theorem b_117_8 {X : zX} {d : Nat} {R : zR} {I : zI} {J : zJ} {r : zA} {e : Nat} {x1 : Int32} {x2 : Int32} {x3 : Int32} (ho : e = 15 ∨ e = 30) (k1 : ¬ x2 = (-1) → zEv X d zm_117 (33, [some (.ref 0), some (.int x1), some (.int x2), some (.int x3), some (.ref e)], [], (zS0, R, I, J)) r) (k2 : ¬ (¬ x2 = (-1)) → zEv X d zm_117 (23, [some (.ref 0), some (.int x1), some (.int x2), some (.int x3), some (.ref e)], [], (zS0, R, I, J)) r) : zEv X d zm_117 (8, [some (.ref 0), some (.int x1), some (.int x2), some (.int x3), none], [.ref e], (zS0, R, I, J)) r := by
  rcases ho with rfl | rfl
  · refine zEv_k 6 (f' := (if ¬ x2 = (-1) then 33 else 23, [some (.ref 0), some (.int x1), some (.int x2), some (.int x3), some (.ref 15)], [], (zS0, R, I, J))) rfl ?_
    exact zEv_if k1 k2
  · refine zEv_k 6 (f' := (if ¬ x2 = (-1) then 33 else 23, [some (.ref 0), some (.int x1), some (.int x2), some (.int x3), some (.ref 30)], [], (zS0, R, I, J))) rfl ?_
    exact zEv_if k1 k2
theorem b_117_8n100 {X : zX} {d : Nat} {R : zR} {I : zI} {J : zJ} {x1 : Int32} {x2 : Int32} {x3 : Int32} : zEv X d zm_117 (8, [some (.ref 0), some (.int x1), some (.int x2), some (.int x3), none], [.null], (zS0, R, I, J)) (some (.int (-2)), (zS0, R, I, J)) := by
  refine zEv_k 4 (f' := (17, [some (.ref 0), some (.int x1), some (.int x2), some (.int x3), some (.null)], [.int (-2)], (zS0, R, I, J))) rfl ?_
  exact zEv_r rfl
theorem b_117_23 {X : zX} {d : Nat} {R : zR} {I : zI} {J : zJ} {r : zA} {e : Nat} {x1 : Int32} {x2 : Int32} {x3 : Int32} (ho : e = 15 ∨ e = 30) (k1 : ¬ x3 = 0 → zEv X d zm_117 (33, [some (.ref 0), some (.int x1), some (.int x2), some (.int x3), some (.ref e)], [], (zS0, R, I, J)) r) (k2 : ¬ (¬ x3 = 0) → zEv X d zm_117 (27, [some (.ref 0), some (.int x1), some (.int x2), some (.int x3), some (.ref e)], [], (zS0, R, I, J)) r) : zEv X d zm_117 (23, [some (.ref 0), some (.int x1), some (.int x2), some (.int x3), some (.ref e)], [], (zS0, R, I, J)) r := by
  rcases ho with rfl | rfl
  · refine zEv_k 2 (f' := (if ¬ x3 = 0 then 33 else 27, [some (.ref 0), some (.int x1), some (.int x2), some (.int x3), some (.ref 15)], [], (zS0, R, I, J))) rfl ?_
    exact zEv_if k1 k2
  · refine zEv_k 2 (f' := (if ¬ x3 = 0 then 33 else 27, [some (.ref 0), some (.int x1), some (.int x2), some (.int x3), some (.ref 30)], [], (zS0, R, I, J))) rfl ?_
    exact zEv_if k1 k2
theorem b_117_27 {X : zX} {d : Nat} {R : zR} {I : zI} {J : zJ} {e : Nat} {x1 : Int32} {x2 : Int32} {x3 : Int32} (ho : e = 15 ∨ e = 30) : zEv X d zm_117 (27, [some (.ref 0), some (.int x1), some (.int x2), some (.int x3), some (.ref e)], [], (zS0, R, I, J)) (some (.int (I e 0)), (zS0, R, I, J)) := by
  rcases ho with rfl | rfl
  · refine zEv_k 2 (f' := (32, [some (.ref 0), some (.int x1), some (.int x2), some (.int x3), some (.ref 15)], [.int (I 15 0)], (zS0, R, I, J))) rfl ?_
    exact zEv_r rfl
  · refine zEv_k 2 (f' := (32, [some (.ref 0), some (.int x1), some (.int x2), some (.int x3), some (.ref 30)], [.int (I 30 0)], (zS0, R, I, J))) rfl ?_
    exact zEv_r rfl
theorem b_117_33 {X : zX} {d : Nat} {R : zR} {I : zI} {J : zJ} {r : zA} {e : Nat} {x1 : Int32} {x2 : Int32} {x3 : Int32} (ho : e = 15 ∨ e = 30) (k1 : x2 < 0 → zEv X d zm_117 (46, [some (.ref 0), some (.int x1), some (.int x2), some (.int x3), some (.ref e)], [], (zS0, R, I, J)) r) (k2 : ¬ (x2 < 0) → zEv X d zm_117 (37, [some (.ref 0), some (.int x1), some (.int x2), some (.int x3), some (.ref e)], [], (zS0, R, I, J)) r) : zEv X d zm_117 (33, [some (.ref 0), some (.int x1), some (.int x2), some (.int x3), some (.ref e)], [], (zS0, R, I, J)) r := by
  rcases ho with rfl | rfl
  · refine zEv_k 2 (f' := (if x2 < 0 then 46 else 37, [some (.ref 0), some (.int x1), some (.int x2), some (.int x3), some (.ref 15)], [], (zS0, R, I, J))) rfl ?_
    exact zEv_if k1 k2
  · refine zEv_k 2 (f' := (if x2 < 0 then 46 else 37, [some (.ref 0), some (.int x1), some (.int x2), some (.int x3), some (.ref 30)], [], (zS0, R, I, J))) rfl ?_
    exact zEv_if k1 k2
theorem b_117_37 {X : zX} {d : Nat} {R : zR} {I : zI} {J : zJ} {r : zA} {e : Nat} {x1 : Int32} {x2 : Int32} {x3 : Int32} (ho : e = 15 ∨ e = 30) (k1 : x2 < (I e 0) → zEv X d zm_117 (49, [some (.ref 0), some (.int x1), some (.int x2), some (.int x3), some (.ref e)], [], (zS0, R, I, J)) r) (k2 : ¬ (x2 < (I e 0)) → zEv X d zm_117 (46, [some (.ref 0), some (.int x1), some (.int x2), some (.int x3), some (.ref e)], [], (zS0, R, I, J)) r) : zEv X d zm_117 (37, [some (.ref 0), some (.int x1), some (.int x2), some (.int x3), some (.ref e)], [], (zS0, R, I, J)) r := by
  rcases ho with rfl | rfl
  · refine zEv_k 4 (f' := (if x2 < (I 15 0) then 49 else 46, [some (.ref 0), some (.int x1), some (.int x2), some (.int x3), some (.ref 15)], [], (zS0, R, I, J))) rfl ?_
    exact zEv_if k1 k2
  · refine zEv_k 4 (f' := (if x2 < (I 30 0) then 49 else 46, [some (.ref 0), some (.int x1), some (.int x2), some (.int x3), some (.ref 30)], [], (zS0, R, I, J))) rfl ?_
    exact zEv_if k1 k2
theorem b_117_46 {X : zX} {d : Nat} {R : zR} {I : zI} {J : zJ} {e : Nat} {x1 : Int32} {x2 : Int32} {x3 : Int32} (ho : e = 15 ∨ e = 30) : zEv X d zm_117 (46, [some (.ref 0), some (.int x1), some (.int x2), some (.int x3), some (.ref e)], [], (zS0, R, I, J)) (some (.int (-2)), (zS0, R, I, J)) := by
  rcases ho with rfl | rfl
  · refine zEv_k 1 (f' := (48, [some (.ref 0), some (.int x1), some (.int x2), some (.int x3), some (.ref 15)], [.int (-2)], (zS0, R, I, J))) rfl ?_
    exact zEv_r rfl
  · refine zEv_k 1 (f' := (48, [some (.ref 0), some (.int x1), some (.int x2), some (.int x3), some (.ref 30)], [.int (-2)], (zS0, R, I, J))) rfl ?_
    exact zEv_r rfl
theorem b_117_49 {X : zX} {d : Nat} {R : zR} {I : zI} {J : zJ} {r : zA} {e : Nat} {x1 : Int32} {x2 : Int32} {x3 : Int32} (ho : e = 15 ∨ e = 30) (k0 : x3 = 0 → zEv X d zm_117 (76, [some (.ref 0), some (.int x1), some (.int x2), some (.int x3), some (.ref e)], [], (zS0, R, I, J)) r) (k1 : x3 = 1 → zEv X d zm_117 (84, [some (.ref 0), some (.int x1), some (.int x2), some (.int x3), some (.ref e)], [], (zS0, R, I, J)) r) (k2 : x3 = 2 → zEv X d zm_117 (92, [some (.ref 0), some (.int x1), some (.int x2), some (.int x3), some (.ref e)], [], (zS0, R, I, J)) r) (kd : ¬ (0 ≤ (x3 : Int32).toInt ∧ (x3 : Int32).toInt ≤ 2) → zEv X d zm_117 (100, [some (.ref 0), some (.int x1), some (.int x2), some (.int x3), some (.ref e)], [], (zS0, R, I, J)) r) : zEv X d zm_117 (49, [some (.ref 0), some (.int x1), some (.int x2), some (.int x3), some (.ref e)], [], (zS0, R, I, J)) r := by
  rcases ho with rfl | rfl
  · refine zEv_k 1 (f' := (50, [some (.ref 0), some (.int x1), some (.int x2), some (.int x3), some (.ref 15)], [.int x3], (zS0, R, I, J))) rfl ?_
    refine zEv_ts rfl (by decide) (by decide) (by decide) (fun hh => ?_) (fun j hj hh => ?_)
    · exact kd (by omega)
    · rcases (by have hj2 : j < 3 := hj; omega : j = 0 ∨ j = 1 ∨ j = 2) with rfl | rfl | rfl
      · exact k0 (zeqI hh (by decide))
      · exact k1 (zeqI hh (by decide))
      · exact k2 (zeqI hh (by decide))
  · refine zEv_k 1 (f' := (50, [some (.ref 0), some (.int x1), some (.int x2), some (.int x3), some (.ref 30)], [.int x3], (zS0, R, I, J))) rfl ?_
    refine zEv_ts rfl (by decide) (by decide) (by decide) (fun hh => ?_) (fun j hj hh => ?_)
    · exact kd (by omega)
    · rcases (by have hj2 : j < 3 := hj; omega : j = 0 ∨ j = 1 ∨ j = 2) with rfl | rfl | rfl
      · exact k0 (zeqI hh (by decide))
      · exact k1 (zeqI hh (by decide))
      · exact k2 (zeqI hh (by decide))
theorem b_117_76 {X : zX} {d : Nat} {R : zR} {I : zI} {J : zJ} {e : Nat} {x1 : Int32} {x2 : Int32} {x3 : Int32} (hR : zRok R) (ho : e = 15 ∨ e = 30) (h82 : zin x2 40) : zEv X d zm_117 (76, [some (.ref 0), some (.int x1), some (.int x2), some (.int x3), some (.ref e)], [], (zS0, R, I, J)) (some (.int (I (e + 1) (x2).toNatClampNeg)), (zS0, R, I, J)) := by
  rcases ho with rfl | rfl
  · refine zEv_k 1 (f' := (78, [some (.ref 0), some (.int x1), some (.int x2), some (.int x3), some (.ref 15)], [.ref 15], (zS0, R, I, J))) rfl ?_
    refine zEv_gr rfl rfl rfl (by decide) (hR (15) 1 (15 + 1) rfl) ?_
    refine zEv_k 1 (f' := (82, [some (.ref 0), some (.int x1), some (.int x2), some (.int x3), some (.ref 15)], [.int x2, .ref (15 + 1)], (zS0, R, I, J))) rfl ?_
    refine zEv_ial rfl rfl (by decide) h82 ?_
    exact zEv_r rfl
  · refine zEv_k 1 (f' := (78, [some (.ref 0), some (.int x1), some (.int x2), some (.int x3), some (.ref 30)], [.ref 30], (zS0, R, I, J))) rfl ?_
    refine zEv_gr rfl rfl rfl (by decide) (hR (30) 1 (30 + 1) rfl) ?_
    refine zEv_k 1 (f' := (82, [some (.ref 0), some (.int x1), some (.int x2), some (.int x3), some (.ref 30)], [.int x2, .ref (30 + 1)], (zS0, R, I, J))) rfl ?_
    refine zEv_ial rfl rfl (by decide) h82 ?_
    exact zEv_r rfl
theorem b_117_84 {X : zX} {d : Nat} {R : zR} {I : zI} {J : zJ} {e : Nat} {x1 : Int32} {x2 : Int32} {x3 : Int32} (hR : zRok R) (ho : e = 15 ∨ e = 30) (h90 : zin x2 40) : zEv X d zm_117 (84, [some (.ref 0), some (.int x1), some (.int x2), some (.int x3), some (.ref e)], [], (zS0, R, I, J)) (some (.int (I (e + 2) (x2).toNatClampNeg)), (zS0, R, I, J)) := by
  rcases ho with rfl | rfl
  · refine zEv_k 1 (f' := (86, [some (.ref 0), some (.int x1), some (.int x2), some (.int x3), some (.ref 15)], [.ref 15], (zS0, R, I, J))) rfl ?_
    refine zEv_gr rfl rfl rfl (by decide) (hR (15) 2 (15 + 2) rfl) ?_
    refine zEv_k 1 (f' := (90, [some (.ref 0), some (.int x1), some (.int x2), some (.int x3), some (.ref 15)], [.int x2, .ref (15 + 2)], (zS0, R, I, J))) rfl ?_
    refine zEv_ial rfl rfl (by decide) h90 ?_
    exact zEv_r rfl
  · refine zEv_k 1 (f' := (86, [some (.ref 0), some (.int x1), some (.int x2), some (.int x3), some (.ref 30)], [.ref 30], (zS0, R, I, J))) rfl ?_
    refine zEv_gr rfl rfl rfl (by decide) (hR (30) 2 (30 + 2) rfl) ?_
    refine zEv_k 1 (f' := (90, [some (.ref 0), some (.int x1), some (.int x2), some (.int x3), some (.ref 30)], [.int x2, .ref (30 + 2)], (zS0, R, I, J))) rfl ?_
    refine zEv_ial rfl rfl (by decide) h90 ?_
    exact zEv_r rfl
theorem b_117_92 {X : zX} {d : Nat} {R : zR} {I : zI} {J : zJ} {e : Nat} {x1 : Int32} {x2 : Int32} {x3 : Int32} (hR : zRok R) (ho : e = 15 ∨ e = 30) (h98 : zin x2 40) : zEv X d zm_117 (92, [some (.ref 0), some (.int x1), some (.int x2), some (.int x3), some (.ref e)], [], (zS0, R, I, J)) (some (.int (I (e + 3) (x2).toNatClampNeg)), (zS0, R, I, J)) := by
  rcases ho with rfl | rfl
  · refine zEv_k 1 (f' := (94, [some (.ref 0), some (.int x1), some (.int x2), some (.int x3), some (.ref 15)], [.ref 15], (zS0, R, I, J))) rfl ?_
    refine zEv_gr rfl rfl rfl (by decide) (hR (15) 3 (15 + 3) rfl) ?_
    refine zEv_k 1 (f' := (98, [some (.ref 0), some (.int x1), some (.int x2), some (.int x3), some (.ref 15)], [.int x2, .ref (15 + 3)], (zS0, R, I, J))) rfl ?_
    refine zEv_ial rfl rfl (by decide) h98 ?_
    exact zEv_r rfl
  · refine zEv_k 1 (f' := (94, [some (.ref 0), some (.int x1), some (.int x2), some (.int x3), some (.ref 30)], [.ref 30], (zS0, R, I, J))) rfl ?_
    refine zEv_gr rfl rfl rfl (by decide) (hR (30) 3 (30 + 3) rfl) ?_
    refine zEv_k 1 (f' := (98, [some (.ref 0), some (.int x1), some (.int x2), some (.int x3), some (.ref 30)], [.int x2, .ref (30 + 3)], (zS0, R, I, J))) rfl ?_
    refine zEv_ial rfl rfl (by decide) h98 ?_
    exact zEv_r rfl
theorem b_117_100 {X : zX} {d : Nat} {R : zR} {I : zI} {J : zJ} {e : Nat} {x1 : Int32} {x2 : Int32} {x3 : Int32} (ho : e = 15 ∨ e = 30) : zEv X d zm_117 (100, [some (.ref 0), some (.int x1), some (.int x2), some (.int x3), some (.ref e)], [], (zS0, R, I, J)) (some (.int (-2)), (zS0, R, I, J)) := by
  rcases ho with rfl | rfl
  · refine zEv_k 1 (f' := (102, [some (.ref 0), some (.int x1), some (.int x2), some (.int x3), some (.ref 15)], [.int (-2)], (zS0, R, I, J))) rfl ?_
    exact zEv_r rfl
  · refine zEv_k 1 (f' := (102, [some (.ref 0), some (.int x1), some (.int x2), some (.int x3), some (.ref 30)], [.int (-2)], (zS0, R, I, J))) rfl ?_
    exact zEv_r rfl
theorem b_118_0r {X : zX} {d : Nat} {R : zR} {I : zI} {J : zJ} {r : zA} {c : Nat} {x1 : Int32} {x2 : Int32} {R' : zR} {I' : zI} {J' : zJ} (hR : zRok R) (ho : c = 7 ∨ c = 22) (hc : zEv X d zm_89 (0, [some (.ref 1), some (.int x1)], [], (zS0, R, I, J)) (some (.ref c), (zS0, R', I', J'))) (k1 : zEv X (d + 1) zm_118 (8, [some (.ref 0), some (.int x1), some (.int x2), none, none], [.ref c], (zS0, R', I', J')) r) : zEv X (d + 1) zm_118 (0, [some (.ref 0), some (.int x1), some (.int x2), none, none], [], (zS0, R, I, J)) r := by
  rcases ho with rfl | rfl
  · refine zEv_k 1 (f' := (1, [some (.ref 0), some (.int x1), some (.int x2), none, none], [.ref 0], (zS0, R, I, J))) rfl ?_
    refine zEv_gr rfl rfl rfl (by decide) (hR (0) 0 (1) rfl) ?_
    refine zEv_k 1 (f' := (5, [some (.ref 0), some (.int x1), some (.int x2), none, none], [.int x1, .ref 1], (zS0, R, I, J))) rfl ?_
    exact zEv_c (fun _ => rfl) rfl hc rfl rfl k1
  · refine zEv_k 1 (f' := (1, [some (.ref 0), some (.int x1), some (.int x2), none, none], [.ref 0], (zS0, R, I, J))) rfl ?_
    refine zEv_gr rfl rfl rfl (by decide) (hR (0) 0 (1) rfl) ?_
    refine zEv_k 1 (f' := (5, [some (.ref 0), some (.int x1), some (.int x2), none, none], [.int x1, .ref 1], (zS0, R, I, J))) rfl ?_
    exact zEv_c (fun _ => rfl) rfl hc rfl rfl k1
theorem b_118_0n {X : zX} {d : Nat} {R : zR} {I : zI} {J : zJ} {r : zA} {x1 : Int32} {x2 : Int32} {R' : zR} {I' : zI} {J' : zJ} (hR : zRok R) (hc : zEv X d zm_89 (0, [some (.ref 1), some (.int x1)], [], (zS0, R, I, J)) (some .null, (zS0, R', I', J'))) (k1 : zEv X (d + 1) zm_118 (8, [some (.ref 0), some (.int x1), some (.int x2), none, none], [.null], (zS0, R', I', J')) r) : zEv X (d + 1) zm_118 (0, [some (.ref 0), some (.int x1), some (.int x2), none, none], [], (zS0, R, I, J)) r := by
  refine zEv_k 1 (f' := (1, [some (.ref 0), some (.int x1), some (.int x2), none, none], [.ref 0], (zS0, R, I, J))) rfl ?_
  refine zEv_gr rfl rfl rfl (by decide) (hR (0) 0 (1) rfl) ?_
  refine zEv_k 1 (f' := (5, [some (.ref 0), some (.int x1), some (.int x2), none, none], [.int x1, .ref 1], (zS0, R, I, J))) rfl ?_
  exact zEv_c (fun _ => rfl) rfl hc rfl rfl k1
theorem b_118_8r {X : zX} {d : Nat} {R : zR} {I : zI} {J : zJ} {r : zA} {c : Nat} {e : Nat} {x1 : Int32} {x2 : Int32} {R' : zR} {I' : zI} {J' : zJ} (hR : zRok R) (ho : (c = 7 ∧ e = 15) ∨ (c = 7 ∧ e = 30) ∨ (c = 22 ∧ e = 15) ∨ (c = 22 ∧ e = 30)) (hc : zEv X d zm_90 (0, [some (.ref 1), some (.int x2)], [], (zS0, R, I, J)) (some (.ref e), (zS0, R', I', J'))) (k1 : zEv X (d + 1) zm_118 (17, [some (.ref 0), some (.int x1), some (.int x2), some (.ref c), none], [.ref e], (zS0, R', I', J')) r) : zEv X (d + 1) zm_118 (8, [some (.ref 0), some (.int x1), some (.int x2), none, none], [.ref c], (zS0, R, I, J)) r := by
  rcases ho with ⟨rfl, rfl⟩ | ⟨rfl, rfl⟩ | ⟨rfl, rfl⟩ | ⟨rfl, rfl⟩
  · refine zEv_k 2 (f' := (10, [some (.ref 0), some (.int x1), some (.int x2), some (.ref 7), none], [.ref 0], (zS0, R, I, J))) rfl ?_
    refine zEv_gr rfl rfl rfl (by decide) (hR (0) 0 (1) rfl) ?_
    refine zEv_k 1 (f' := (14, [some (.ref 0), some (.int x1), some (.int x2), some (.ref 7), none], [.int x2, .ref 1], (zS0, R, I, J))) rfl ?_
    exact zEv_c (fun _ => rfl) rfl hc rfl rfl k1
  · refine zEv_k 2 (f' := (10, [some (.ref 0), some (.int x1), some (.int x2), some (.ref 7), none], [.ref 0], (zS0, R, I, J))) rfl ?_
    refine zEv_gr rfl rfl rfl (by decide) (hR (0) 0 (1) rfl) ?_
    refine zEv_k 1 (f' := (14, [some (.ref 0), some (.int x1), some (.int x2), some (.ref 7), none], [.int x2, .ref 1], (zS0, R, I, J))) rfl ?_
    exact zEv_c (fun _ => rfl) rfl hc rfl rfl k1
  · refine zEv_k 2 (f' := (10, [some (.ref 0), some (.int x1), some (.int x2), some (.ref 22), none], [.ref 0], (zS0, R, I, J))) rfl ?_
    refine zEv_gr rfl rfl rfl (by decide) (hR (0) 0 (1) rfl) ?_
    refine zEv_k 1 (f' := (14, [some (.ref 0), some (.int x1), some (.int x2), some (.ref 22), none], [.int x2, .ref 1], (zS0, R, I, J))) rfl ?_
    exact zEv_c (fun _ => rfl) rfl hc rfl rfl k1
  · refine zEv_k 2 (f' := (10, [some (.ref 0), some (.int x1), some (.int x2), some (.ref 22), none], [.ref 0], (zS0, R, I, J))) rfl ?_
    refine zEv_gr rfl rfl rfl (by decide) (hR (0) 0 (1) rfl) ?_
    refine zEv_k 1 (f' := (14, [some (.ref 0), some (.int x1), some (.int x2), some (.ref 22), none], [.int x2, .ref 1], (zS0, R, I, J))) rfl ?_
    exact zEv_c (fun _ => rfl) rfl hc rfl rfl k1
theorem b_118_8n {X : zX} {d : Nat} {R : zR} {I : zI} {J : zJ} {r : zA} {c : Nat} {x1 : Int32} {x2 : Int32} {R' : zR} {I' : zI} {J' : zJ} (hR : zRok R) (ho : c = 7 ∨ c = 22) (hc : zEv X d zm_90 (0, [some (.ref 1), some (.int x2)], [], (zS0, R, I, J)) (some .null, (zS0, R', I', J'))) (k1 : zEv X (d + 1) zm_118 (17, [some (.ref 0), some (.int x1), some (.int x2), some (.ref c), none], [.null], (zS0, R', I', J')) r) : zEv X (d + 1) zm_118 (8, [some (.ref 0), some (.int x1), some (.int x2), none, none], [.ref c], (zS0, R, I, J)) r := by
  rcases ho with rfl | rfl
  · refine zEv_k 2 (f' := (10, [some (.ref 0), some (.int x1), some (.int x2), some (.ref 7), none], [.ref 0], (zS0, R, I, J))) rfl ?_
    refine zEv_gr rfl rfl rfl (by decide) (hR (0) 0 (1) rfl) ?_
    refine zEv_k 1 (f' := (14, [some (.ref 0), some (.int x1), some (.int x2), some (.ref 7), none], [.int x2, .ref 1], (zS0, R, I, J))) rfl ?_
    exact zEv_c (fun _ => rfl) rfl hc rfl rfl k1
  · refine zEv_k 2 (f' := (10, [some (.ref 0), some (.int x1), some (.int x2), some (.ref 22), none], [.ref 0], (zS0, R, I, J))) rfl ?_
    refine zEv_gr rfl rfl rfl (by decide) (hR (0) 0 (1) rfl) ?_
    refine zEv_k 1 (f' := (14, [some (.ref 0), some (.int x1), some (.int x2), some (.ref 22), none], [.int x2, .ref 1], (zS0, R, I, J))) rfl ?_
    exact zEv_c (fun _ => rfl) rfl hc rfl rfl k1
theorem b_118_8n100r {X : zX} {d : Nat} {R : zR} {I : zI} {J : zJ} {r : zA} {e : Nat} {x1 : Int32} {x2 : Int32} {R' : zR} {I' : zI} {J' : zJ} (hR : zRok R) (ho : e = 15 ∨ e = 30) (hc : zEv X d zm_90 (0, [some (.ref 1), some (.int x2)], [], (zS0, R, I, J)) (some (.ref e), (zS0, R', I', J'))) (k1 : zEv X (d + 1) zm_118 (17, [some (.ref 0), some (.int x1), some (.int x2), some (.null), none], [.ref e], (zS0, R', I', J')) r) : zEv X (d + 1) zm_118 (8, [some (.ref 0), some (.int x1), some (.int x2), none, none], [.null], (zS0, R, I, J)) r := by
  rcases ho with rfl | rfl
  · refine zEv_k 2 (f' := (10, [some (.ref 0), some (.int x1), some (.int x2), some (.null), none], [.ref 0], (zS0, R, I, J))) rfl ?_
    refine zEv_gr rfl rfl rfl (by decide) (hR (0) 0 (1) rfl) ?_
    refine zEv_k 1 (f' := (14, [some (.ref 0), some (.int x1), some (.int x2), some (.null), none], [.int x2, .ref 1], (zS0, R, I, J))) rfl ?_
    exact zEv_c (fun _ => rfl) rfl hc rfl rfl k1
  · refine zEv_k 2 (f' := (10, [some (.ref 0), some (.int x1), some (.int x2), some (.null), none], [.ref 0], (zS0, R, I, J))) rfl ?_
    refine zEv_gr rfl rfl rfl (by decide) (hR (0) 0 (1) rfl) ?_
    refine zEv_k 1 (f' := (14, [some (.ref 0), some (.int x1), some (.int x2), some (.null), none], [.int x2, .ref 1], (zS0, R, I, J))) rfl ?_
    exact zEv_c (fun _ => rfl) rfl hc rfl rfl k1
theorem b_118_8n100n {X : zX} {d : Nat} {R : zR} {I : zI} {J : zJ} {r : zA} {x1 : Int32} {x2 : Int32} {R' : zR} {I' : zI} {J' : zJ} (hR : zRok R) (hc : zEv X d zm_90 (0, [some (.ref 1), some (.int x2)], [], (zS0, R, I, J)) (some .null, (zS0, R', I', J'))) (k1 : zEv X (d + 1) zm_118 (17, [some (.ref 0), some (.int x1), some (.int x2), some (.null), none], [.null], (zS0, R', I', J')) r) : zEv X (d + 1) zm_118 (8, [some (.ref 0), some (.int x1), some (.int x2), none, none], [.null], (zS0, R, I, J)) r := by
  refine zEv_k 2 (f' := (10, [some (.ref 0), some (.int x1), some (.int x2), some (.null), none], [.ref 0], (zS0, R, I, J))) rfl ?_
  refine zEv_gr rfl rfl rfl (by decide) (hR (0) 0 (1) rfl) ?_
  refine zEv_k 1 (f' := (14, [some (.ref 0), some (.int x1), some (.int x2), some (.null), none], [.int x2, .ref 1], (zS0, R, I, J))) rfl ?_
  exact zEv_c (fun _ => rfl) rfl hc rfl rfl k1
theorem b_118_17 {X : zX} {d : Nat} {R : zR} {I : zI} {J : zJ} {r : zA} {c : Nat} {e : Nat} {x1 : Int32} {x2 : Int32} {R' : zR} {I' : zI} {J' : zJ} (hR : zRok R) (ho : (c = 7 ∧ e = 15) ∨ (c = 7 ∧ e = 30) ∨ (c = 22 ∧ e = 15) ∨ (c = 22 ∧ e = 30)) (hc : zEv X d zm_70 (0, [some (.ref 166), some (.ref c), none], [], (zS0, R, I, J)) (none, (zS0, R', I', J'))) (k1 : zEv X (d + 1) zm_118 (38, [some (.ref 0), some (.int x1), some (.int x2), some (.ref c), some (.ref e)], [], (zS0, R', I', J')) r) : zEv X (d + 1) zm_118 (17, [some (.ref 0), some (.int x1), some (.int x2), some (.ref c), none], [.ref e], (zS0, R, I, J)) r := by
  rcases ho with ⟨rfl, rfl⟩ | ⟨rfl, rfl⟩ | ⟨rfl, rfl⟩ | ⟨rfl, rfl⟩
  · refine zEv_k 6 (f' := (31, [some (.ref 0), some (.int x1), some (.int x2), some (.ref 7), some (.ref 15)], [.ref 0], (zS0, R, I, J))) rfl ?_
    refine zEv_gr rfl rfl rfl (by decide) (hR (0) 4 (166) rfl) ?_
    refine zEv_k 1 (f' := (35, [some (.ref 0), some (.int x1), some (.int x2), some (.ref 7), some (.ref 15)], [.ref 7, .ref 166], (zS0, R, I, J))) rfl ?_
    exact zEv_c (fun _ => rfl) rfl hc rfl rfl k1
  · refine zEv_k 6 (f' := (31, [some (.ref 0), some (.int x1), some (.int x2), some (.ref 7), some (.ref 30)], [.ref 0], (zS0, R, I, J))) rfl ?_
    refine zEv_gr rfl rfl rfl (by decide) (hR (0) 4 (166) rfl) ?_
    refine zEv_k 1 (f' := (35, [some (.ref 0), some (.int x1), some (.int x2), some (.ref 7), some (.ref 30)], [.ref 7, .ref 166], (zS0, R, I, J))) rfl ?_
    exact zEv_c (fun _ => rfl) rfl hc rfl rfl k1
  · refine zEv_k 6 (f' := (31, [some (.ref 0), some (.int x1), some (.int x2), some (.ref 22), some (.ref 15)], [.ref 0], (zS0, R, I, J))) rfl ?_
    refine zEv_gr rfl rfl rfl (by decide) (hR (0) 4 (166) rfl) ?_
    refine zEv_k 1 (f' := (35, [some (.ref 0), some (.int x1), some (.int x2), some (.ref 22), some (.ref 15)], [.ref 22, .ref 166], (zS0, R, I, J))) rfl ?_
    exact zEv_c (fun _ => rfl) rfl hc rfl rfl k1
  · refine zEv_k 6 (f' := (31, [some (.ref 0), some (.int x1), some (.int x2), some (.ref 22), some (.ref 30)], [.ref 0], (zS0, R, I, J))) rfl ?_
    refine zEv_gr rfl rfl rfl (by decide) (hR (0) 4 (166) rfl) ?_
    refine zEv_k 1 (f' := (35, [some (.ref 0), some (.int x1), some (.int x2), some (.ref 22), some (.ref 30)], [.ref 22, .ref 166], (zS0, R, I, J))) rfl ?_
    exact zEv_c (fun _ => rfl) rfl hc rfl rfl k1
theorem b_118_17n3 {X : zX} {d : Nat} {R : zR} {I : zI} {J : zJ} {e : Nat} {x1 : Int32} {x2 : Int32} (ho : e = 15 ∨ e = 30) : zEv X d zm_118 (17, [some (.ref 0), some (.int x1), some (.int x2), some (.null), none], [.ref e], (zS0, R, I, J)) (some (.int (-1)), (zS0, R, I, J)) := by
  rcases ho with rfl | rfl
  · refine zEv_k 4 (f' := (29, [some (.ref 0), some (.int x1), some (.int x2), some (.null), some (.ref 15)], [.int (-1)], (zS0, R, I, J))) rfl ?_
    exact zEv_r rfl
  · refine zEv_k 4 (f' := (29, [some (.ref 0), some (.int x1), some (.int x2), some (.null), some (.ref 30)], [.int (-1)], (zS0, R, I, J))) rfl ?_
    exact zEv_r rfl
theorem b_118_17n3_100 {X : zX} {d : Nat} {R : zR} {I : zI} {J : zJ} {x1 : Int32} {x2 : Int32} : zEv X d zm_118 (17, [some (.ref 0), some (.int x1), some (.int x2), some (.null), none], [.null], (zS0, R, I, J)) (some (.int (-1)), (zS0, R, I, J)) := by
  refine zEv_k 4 (f' := (29, [some (.ref 0), some (.int x1), some (.int x2), some (.null), some (.null)], [.int (-1)], (zS0, R, I, J))) rfl ?_
  exact zEv_r rfl
theorem b_118_17n100 {X : zX} {d : Nat} {R : zR} {I : zI} {J : zJ} {c : Nat} {x1 : Int32} {x2 : Int32} (ho : c = 7 ∨ c = 22) : zEv X d zm_118 (17, [some (.ref 0), some (.int x1), some (.int x2), some (.ref c), none], [.null], (zS0, R, I, J)) (some (.int (-1)), (zS0, R, I, J)) := by
  rcases ho with rfl | rfl
  · refine zEv_k 6 (f' := (29, [some (.ref 0), some (.int x1), some (.int x2), some (.ref 7), some (.null)], [.int (-1)], (zS0, R, I, J))) rfl ?_
    exact zEv_r rfl
  · refine zEv_k 6 (f' := (29, [some (.ref 0), some (.int x1), some (.int x2), some (.ref 22), some (.null)], [.int (-1)], (zS0, R, I, J))) rfl ?_
    exact zEv_r rfl
theorem b_118_38 {X : zX} {d : Nat} {R : zR} {I : zI} {J : zJ} {r : zA} {c : Nat} {e : Nat} {x1 : Int32} {x2 : Int32} {w : Int32} {R' : zR} {I' : zI} {J' : zJ} (hR : zRok R) (ho : (c = 7 ∧ e = 15) ∨ (c = 7 ∧ e = 30) ∨ (c = 22 ∧ e = 15) ∨ (c = 22 ∧ e = 30)) (hc : zEv X d zm_71 (0, [some (.ref 166), some (.ref e), some (.int (I e 0)), none], [], (zS0, R, I, J)) (some (.int w), (zS0, R', I', J'))) (k1 : zEv X (d + 1) zm_118 (52, [some (.ref 0), some (.int x1), some (.int x2), some (.ref c), some (.ref e)], [.int w], (zS0, R', I', J')) r) : zEv X (d + 1) zm_118 (38, [some (.ref 0), some (.int x1), some (.int x2), some (.ref c), some (.ref e)], [], (zS0, R, I, J)) r := by
  rcases ho with ⟨rfl, rfl⟩ | ⟨rfl, rfl⟩ | ⟨rfl, rfl⟩ | ⟨rfl, rfl⟩
  · refine zEv_k 1 (f' := (39, [some (.ref 0), some (.int x1), some (.int x2), some (.ref 7), some (.ref 15)], [.ref 0], (zS0, R, I, J))) rfl ?_
    refine zEv_gr rfl rfl rfl (by decide) (hR (0) 4 (166) rfl) ?_
    refine zEv_k 3 (f' := (49, [some (.ref 0), some (.int x1), some (.int x2), some (.ref 7), some (.ref 15)], [.int (I 15 0), .ref 15, .ref 166], (zS0, R, I, J))) rfl ?_
    exact zEv_c (fun _ => rfl) rfl hc rfl rfl k1
  · refine zEv_k 1 (f' := (39, [some (.ref 0), some (.int x1), some (.int x2), some (.ref 7), some (.ref 30)], [.ref 0], (zS0, R, I, J))) rfl ?_
    refine zEv_gr rfl rfl rfl (by decide) (hR (0) 4 (166) rfl) ?_
    refine zEv_k 3 (f' := (49, [some (.ref 0), some (.int x1), some (.int x2), some (.ref 7), some (.ref 30)], [.int (I 30 0), .ref 30, .ref 166], (zS0, R, I, J))) rfl ?_
    exact zEv_c (fun _ => rfl) rfl hc rfl rfl k1
  · refine zEv_k 1 (f' := (39, [some (.ref 0), some (.int x1), some (.int x2), some (.ref 22), some (.ref 15)], [.ref 0], (zS0, R, I, J))) rfl ?_
    refine zEv_gr rfl rfl rfl (by decide) (hR (0) 4 (166) rfl) ?_
    refine zEv_k 3 (f' := (49, [some (.ref 0), some (.int x1), some (.int x2), some (.ref 22), some (.ref 15)], [.int (I 15 0), .ref 15, .ref 166], (zS0, R, I, J))) rfl ?_
    exact zEv_c (fun _ => rfl) rfl hc rfl rfl k1
  · refine zEv_k 1 (f' := (39, [some (.ref 0), some (.int x1), some (.int x2), some (.ref 22), some (.ref 30)], [.ref 0], (zS0, R, I, J))) rfl ?_
    refine zEv_gr rfl rfl rfl (by decide) (hR (0) 4 (166) rfl) ?_
    refine zEv_k 3 (f' := (49, [some (.ref 0), some (.int x1), some (.int x2), some (.ref 22), some (.ref 30)], [.int (I 30 0), .ref 30, .ref 166], (zS0, R, I, J))) rfl ?_
    exact zEv_c (fun _ => rfl) rfl hc rfl rfl k1
theorem b_118_52 {X : zX} {d : Nat} {R : zR} {I : zI} {J : zJ} {c : Nat} {e : Nat} {x1 : Int32} {x2 : Int32} {s0 : Int32} (ho : (c = 7 ∧ e = 15) ∨ (c = 7 ∧ e = 30) ∨ (c = 22 ∧ e = 15) ∨ (c = 22 ∧ e = 30)) : zEv X d zm_118 (52, [some (.ref 0), some (.int x1), some (.int x2), some (.ref c), some (.ref e)], [.int s0], (zS0, R, I, J)) (some (.int s0), (zS0, R, I, J)) := by
  rcases ho with ⟨rfl, rfl⟩ | ⟨rfl, rfl⟩ | ⟨rfl, rfl⟩ | ⟨rfl, rfl⟩
  · exact zEv_r rfl
  · exact zEv_r rfl
  · exact zEv_r rfl
  · exact zEv_r rfl
theorem b_119_0r {X : zX} {d : Nat} {R : zR} {I : zI} {J : zJ} {r : zA} {c : Nat} {x1 : Int32} {x2 : Int32} {x3 : Int32} {x4 : Int32} {R' : zR} {I' : zI} {J' : zJ} (hR : zRok R) (ho : c = 7 ∨ c = 22) (hc : zEv X d zm_89 (0, [some (.ref 1), some (.int x1)], [], (zS0, R, I, J)) (some (.ref c), (zS0, R', I', J'))) (k1 : zEv X (d + 1) zm_119 (8, [some (.ref 0), some (.int x1), some (.int x2), some (.int x3), some (.int x4), none, none], [.ref c], (zS0, R', I', J')) r) : zEv X (d + 1) zm_119 (0, [some (.ref 0), some (.int x1), some (.int x2), some (.int x3), some (.int x4), none, none], [], (zS0, R, I, J)) r := by
  rcases ho with rfl | rfl
  · refine zEv_k 1 (f' := (1, [some (.ref 0), some (.int x1), some (.int x2), some (.int x3), some (.int x4), none, none], [.ref 0], (zS0, R, I, J))) rfl ?_
    refine zEv_gr rfl rfl rfl (by decide) (hR (0) 0 (1) rfl) ?_
    refine zEv_k 1 (f' := (5, [some (.ref 0), some (.int x1), some (.int x2), some (.int x3), some (.int x4), none, none], [.int x1, .ref 1], (zS0, R, I, J))) rfl ?_
    exact zEv_c (fun _ => rfl) rfl hc rfl rfl k1
  · refine zEv_k 1 (f' := (1, [some (.ref 0), some (.int x1), some (.int x2), some (.int x3), some (.int x4), none, none], [.ref 0], (zS0, R, I, J))) rfl ?_
    refine zEv_gr rfl rfl rfl (by decide) (hR (0) 0 (1) rfl) ?_
    refine zEv_k 1 (f' := (5, [some (.ref 0), some (.int x1), some (.int x2), some (.int x3), some (.int x4), none, none], [.int x1, .ref 1], (zS0, R, I, J))) rfl ?_
    exact zEv_c (fun _ => rfl) rfl hc rfl rfl k1
theorem b_119_0n {X : zX} {d : Nat} {R : zR} {I : zI} {J : zJ} {r : zA} {x1 : Int32} {x2 : Int32} {x3 : Int32} {x4 : Int32} {R' : zR} {I' : zI} {J' : zJ} (hR : zRok R) (hc : zEv X d zm_89 (0, [some (.ref 1), some (.int x1)], [], (zS0, R, I, J)) (some .null, (zS0, R', I', J'))) (k1 : zEv X (d + 1) zm_119 (8, [some (.ref 0), some (.int x1), some (.int x2), some (.int x3), some (.int x4), none, none], [.null], (zS0, R', I', J')) r) : zEv X (d + 1) zm_119 (0, [some (.ref 0), some (.int x1), some (.int x2), some (.int x3), some (.int x4), none, none], [], (zS0, R, I, J)) r := by
  refine zEv_k 1 (f' := (1, [some (.ref 0), some (.int x1), some (.int x2), some (.int x3), some (.int x4), none, none], [.ref 0], (zS0, R, I, J))) rfl ?_
  refine zEv_gr rfl rfl rfl (by decide) (hR (0) 0 (1) rfl) ?_
  refine zEv_k 1 (f' := (5, [some (.ref 0), some (.int x1), some (.int x2), some (.int x3), some (.int x4), none, none], [.int x1, .ref 1], (zS0, R, I, J))) rfl ?_
  exact zEv_c (fun _ => rfl) rfl hc rfl rfl k1
theorem b_119_8r {X : zX} {d : Nat} {R : zR} {I : zI} {J : zJ} {r : zA} {c : Nat} {e : Nat} {x1 : Int32} {x2 : Int32} {x3 : Int32} {x4 : Int32} {R' : zR} {I' : zI} {J' : zJ} (hR : zRok R) (ho : (c = 7 ∧ e = 15) ∨ (c = 7 ∧ e = 30) ∨ (c = 22 ∧ e = 15) ∨ (c = 22 ∧ e = 30)) (hc : zEv X d zm_90 (0, [some (.ref 1), some (.int x2)], [], (zS0, R, I, J)) (some (.ref e), (zS0, R', I', J'))) (k1 : zEv X (d + 1) zm_119 (18, [some (.ref 0), some (.int x1), some (.int x2), some (.int x3), some (.int x4), some (.ref c), none], [.ref e], (zS0, R', I', J')) r) : zEv X (d + 1) zm_119 (8, [some (.ref 0), some (.int x1), some (.int x2), some (.int x3), some (.int x4), none, none], [.ref c], (zS0, R, I, J)) r := by
  rcases ho with ⟨rfl, rfl⟩ | ⟨rfl, rfl⟩ | ⟨rfl, rfl⟩ | ⟨rfl, rfl⟩
  · refine zEv_k 2 (f' := (11, [some (.ref 0), some (.int x1), some (.int x2), some (.int x3), some (.int x4), some (.ref 7), none], [.ref 0], (zS0, R, I, J))) rfl ?_
    refine zEv_gr rfl rfl rfl (by decide) (hR (0) 0 (1) rfl) ?_
    refine zEv_k 1 (f' := (15, [some (.ref 0), some (.int x1), some (.int x2), some (.int x3), some (.int x4), some (.ref 7), none], [.int x2, .ref 1], (zS0, R, I, J))) rfl ?_
    exact zEv_c (fun _ => rfl) rfl hc rfl rfl k1
  · refine zEv_k 2 (f' := (11, [some (.ref 0), some (.int x1), some (.int x2), some (.int x3), some (.int x4), some (.ref 7), none], [.ref 0], (zS0, R, I, J))) rfl ?_
    refine zEv_gr rfl rfl rfl (by decide) (hR (0) 0 (1) rfl) ?_
    refine zEv_k 1 (f' := (15, [some (.ref 0), some (.int x1), some (.int x2), some (.int x3), some (.int x4), some (.ref 7), none], [.int x2, .ref 1], (zS0, R, I, J))) rfl ?_
    exact zEv_c (fun _ => rfl) rfl hc rfl rfl k1
  · refine zEv_k 2 (f' := (11, [some (.ref 0), some (.int x1), some (.int x2), some (.int x3), some (.int x4), some (.ref 22), none], [.ref 0], (zS0, R, I, J))) rfl ?_
    refine zEv_gr rfl rfl rfl (by decide) (hR (0) 0 (1) rfl) ?_
    refine zEv_k 1 (f' := (15, [some (.ref 0), some (.int x1), some (.int x2), some (.int x3), some (.int x4), some (.ref 22), none], [.int x2, .ref 1], (zS0, R, I, J))) rfl ?_
    exact zEv_c (fun _ => rfl) rfl hc rfl rfl k1
  · refine zEv_k 2 (f' := (11, [some (.ref 0), some (.int x1), some (.int x2), some (.int x3), some (.int x4), some (.ref 22), none], [.ref 0], (zS0, R, I, J))) rfl ?_
    refine zEv_gr rfl rfl rfl (by decide) (hR (0) 0 (1) rfl) ?_
    refine zEv_k 1 (f' := (15, [some (.ref 0), some (.int x1), some (.int x2), some (.int x3), some (.int x4), some (.ref 22), none], [.int x2, .ref 1], (zS0, R, I, J))) rfl ?_
    exact zEv_c (fun _ => rfl) rfl hc rfl rfl k1
theorem b_119_8n {X : zX} {d : Nat} {R : zR} {I : zI} {J : zJ} {r : zA} {c : Nat} {x1 : Int32} {x2 : Int32} {x3 : Int32} {x4 : Int32} {R' : zR} {I' : zI} {J' : zJ} (hR : zRok R) (ho : c = 7 ∨ c = 22) (hc : zEv X d zm_90 (0, [some (.ref 1), some (.int x2)], [], (zS0, R, I, J)) (some .null, (zS0, R', I', J'))) (k1 : zEv X (d + 1) zm_119 (18, [some (.ref 0), some (.int x1), some (.int x2), some (.int x3), some (.int x4), some (.ref c), none], [.null], (zS0, R', I', J')) r) : zEv X (d + 1) zm_119 (8, [some (.ref 0), some (.int x1), some (.int x2), some (.int x3), some (.int x4), none, none], [.ref c], (zS0, R, I, J)) r := by
  rcases ho with rfl | rfl
  · refine zEv_k 2 (f' := (11, [some (.ref 0), some (.int x1), some (.int x2), some (.int x3), some (.int x4), some (.ref 7), none], [.ref 0], (zS0, R, I, J))) rfl ?_
    refine zEv_gr rfl rfl rfl (by decide) (hR (0) 0 (1) rfl) ?_
    refine zEv_k 1 (f' := (15, [some (.ref 0), some (.int x1), some (.int x2), some (.int x3), some (.int x4), some (.ref 7), none], [.int x2, .ref 1], (zS0, R, I, J))) rfl ?_
    exact zEv_c (fun _ => rfl) rfl hc rfl rfl k1
  · refine zEv_k 2 (f' := (11, [some (.ref 0), some (.int x1), some (.int x2), some (.int x3), some (.int x4), some (.ref 22), none], [.ref 0], (zS0, R, I, J))) rfl ?_
    refine zEv_gr rfl rfl rfl (by decide) (hR (0) 0 (1) rfl) ?_
    refine zEv_k 1 (f' := (15, [some (.ref 0), some (.int x1), some (.int x2), some (.int x3), some (.int x4), some (.ref 22), none], [.int x2, .ref 1], (zS0, R, I, J))) rfl ?_
    exact zEv_c (fun _ => rfl) rfl hc rfl rfl k1
theorem b_119_8n100r {X : zX} {d : Nat} {R : zR} {I : zI} {J : zJ} {r : zA} {e : Nat} {x1 : Int32} {x2 : Int32} {x3 : Int32} {x4 : Int32} {R' : zR} {I' : zI} {J' : zJ} (hR : zRok R) (ho : e = 15 ∨ e = 30) (hc : zEv X d zm_90 (0, [some (.ref 1), some (.int x2)], [], (zS0, R, I, J)) (some (.ref e), (zS0, R', I', J'))) (k1 : zEv X (d + 1) zm_119 (18, [some (.ref 0), some (.int x1), some (.int x2), some (.int x3), some (.int x4), some (.null), none], [.ref e], (zS0, R', I', J')) r) : zEv X (d + 1) zm_119 (8, [some (.ref 0), some (.int x1), some (.int x2), some (.int x3), some (.int x4), none, none], [.null], (zS0, R, I, J)) r := by
  rcases ho with rfl | rfl
  · refine zEv_k 2 (f' := (11, [some (.ref 0), some (.int x1), some (.int x2), some (.int x3), some (.int x4), some (.null), none], [.ref 0], (zS0, R, I, J))) rfl ?_
    refine zEv_gr rfl rfl rfl (by decide) (hR (0) 0 (1) rfl) ?_
    refine zEv_k 1 (f' := (15, [some (.ref 0), some (.int x1), some (.int x2), some (.int x3), some (.int x4), some (.null), none], [.int x2, .ref 1], (zS0, R, I, J))) rfl ?_
    exact zEv_c (fun _ => rfl) rfl hc rfl rfl k1
  · refine zEv_k 2 (f' := (11, [some (.ref 0), some (.int x1), some (.int x2), some (.int x3), some (.int x4), some (.null), none], [.ref 0], (zS0, R, I, J))) rfl ?_
    refine zEv_gr rfl rfl rfl (by decide) (hR (0) 0 (1) rfl) ?_
    refine zEv_k 1 (f' := (15, [some (.ref 0), some (.int x1), some (.int x2), some (.int x3), some (.int x4), some (.null), none], [.int x2, .ref 1], (zS0, R, I, J))) rfl ?_
    exact zEv_c (fun _ => rfl) rfl hc rfl rfl k1
theorem b_119_8n100n {X : zX} {d : Nat} {R : zR} {I : zI} {J : zJ} {r : zA} {x1 : Int32} {x2 : Int32} {x3 : Int32} {x4 : Int32} {R' : zR} {I' : zI} {J' : zJ} (hR : zRok R) (hc : zEv X d zm_90 (0, [some (.ref 1), some (.int x2)], [], (zS0, R, I, J)) (some .null, (zS0, R', I', J'))) (k1 : zEv X (d + 1) zm_119 (18, [some (.ref 0), some (.int x1), some (.int x2), some (.int x3), some (.int x4), some (.null), none], [.null], (zS0, R', I', J')) r) : zEv X (d + 1) zm_119 (8, [some (.ref 0), some (.int x1), some (.int x2), some (.int x3), some (.int x4), none, none], [.null], (zS0, R, I, J)) r := by
  refine zEv_k 2 (f' := (11, [some (.ref 0), some (.int x1), some (.int x2), some (.int x3), some (.int x4), some (.null), none], [.ref 0], (zS0, R, I, J))) rfl ?_
  refine zEv_gr rfl rfl rfl (by decide) (hR (0) 0 (1) rfl) ?_
  refine zEv_k 1 (f' := (15, [some (.ref 0), some (.int x1), some (.int x2), some (.int x3), some (.int x4), some (.null), none], [.int x2, .ref 1], (zS0, R, I, J))) rfl ?_
  exact zEv_c (fun _ => rfl) rfl hc rfl rfl k1
theorem b_119_18 {X : zX} {d : Nat} {R : zR} {I : zI} {J : zJ} {r : zA} {c : Nat} {e : Nat} {x1 : Int32} {x2 : Int32} {x3 : Int32} {x4 : Int32} (ho : (c = 7 ∧ e = 15) ∨ (c = 7 ∧ e = 30) ∨ (c = 22 ∧ e = 15) ∨ (c = 22 ∧ e = 30)) (k1 : x3 < 0 → zEv X d zm_119 (43, [some (.ref 0), some (.int x1), some (.int x2), some (.int x3), some (.int x4), some (.ref c), some (.ref e)], [], (zS0, R, I, J)) r) (k2 : ¬ (x3 < 0) → zEv X d zm_119 (34, [some (.ref 0), some (.int x1), some (.int x2), some (.int x3), some (.int x4), some (.ref c), some (.ref e)], [], (zS0, R, I, J)) r) : zEv X d zm_119 (18, [some (.ref 0), some (.int x1), some (.int x2), some (.int x3), some (.int x4), some (.ref c), none], [.ref e], (zS0, R, I, J)) r := by
  rcases ho with ⟨rfl, rfl⟩ | ⟨rfl, rfl⟩ | ⟨rfl, rfl⟩ | ⟨rfl, rfl⟩
  · refine zEv_k 7 (f' := (if x3 < 0 then 43 else 34, [some (.ref 0), some (.int x1), some (.int x2), some (.int x3), some (.int x4), some (.ref 7), some (.ref 15)], [], (zS0, R, I, J))) rfl ?_
    exact zEv_if k1 k2
  · refine zEv_k 7 (f' := (if x3 < 0 then 43 else 34, [some (.ref 0), some (.int x1), some (.int x2), some (.int x3), some (.int x4), some (.ref 7), some (.ref 30)], [], (zS0, R, I, J))) rfl ?_
    exact zEv_if k1 k2
  · refine zEv_k 7 (f' := (if x3 < 0 then 43 else 34, [some (.ref 0), some (.int x1), some (.int x2), some (.int x3), some (.int x4), some (.ref 22), some (.ref 15)], [], (zS0, R, I, J))) rfl ?_
    exact zEv_if k1 k2
  · refine zEv_k 7 (f' := (if x3 < 0 then 43 else 34, [some (.ref 0), some (.int x1), some (.int x2), some (.int x3), some (.int x4), some (.ref 22), some (.ref 30)], [], (zS0, R, I, J))) rfl ?_
    exact zEv_if k1 k2
theorem b_119_18n5 {X : zX} {d : Nat} {R : zR} {I : zI} {J : zJ} {r : zA} {e : Nat} {x1 : Int32} {x2 : Int32} {x3 : Int32} {x4 : Int32} (ho : e = 15 ∨ e = 30) (k1 : zEv X d zm_119 (43, [some (.ref 0), some (.int x1), some (.int x2), some (.int x3), some (.int x4), some (.null), some (.ref e)], [], (zS0, R, I, J)) r) : zEv X d zm_119 (18, [some (.ref 0), some (.int x1), some (.int x2), some (.int x3), some (.int x4), some (.null), none], [.ref e], (zS0, R, I, J)) r := by
  rcases ho with rfl | rfl
  · refine zEv_k 3 (f' := (43, [some (.ref 0), some (.int x1), some (.int x2), some (.int x3), some (.int x4), some (.null), some (.ref 15)], [], (zS0, R, I, J))) rfl ?_
    exact k1
  · refine zEv_k 3 (f' := (43, [some (.ref 0), some (.int x1), some (.int x2), some (.int x3), some (.int x4), some (.null), some (.ref 30)], [], (zS0, R, I, J))) rfl ?_
    exact k1
theorem b_119_18n5_100 {X : zX} {d : Nat} {R : zR} {I : zI} {J : zJ} {r : zA} {x1 : Int32} {x2 : Int32} {x3 : Int32} {x4 : Int32} (k1 : zEv X d zm_119 (43, [some (.ref 0), some (.int x1), some (.int x2), some (.int x3), some (.int x4), some (.null), some (.null)], [], (zS0, R, I, J)) r) : zEv X d zm_119 (18, [some (.ref 0), some (.int x1), some (.int x2), some (.int x3), some (.int x4), some (.null), none], [.null], (zS0, R, I, J)) r := by
  refine zEv_k 3 (f' := (43, [some (.ref 0), some (.int x1), some (.int x2), some (.int x3), some (.int x4), some (.null), some (.null)], [], (zS0, R, I, J))) rfl ?_
  exact k1
theorem b_119_18n100 {X : zX} {d : Nat} {R : zR} {I : zI} {J : zJ} {r : zA} {c : Nat} {x1 : Int32} {x2 : Int32} {x3 : Int32} {x4 : Int32} (ho : c = 7 ∨ c = 22) (k1 : zEv X d zm_119 (43, [some (.ref 0), some (.int x1), some (.int x2), some (.int x3), some (.int x4), some (.ref c), some (.null)], [], (zS0, R, I, J)) r) : zEv X d zm_119 (18, [some (.ref 0), some (.int x1), some (.int x2), some (.int x3), some (.int x4), some (.ref c), none], [.null], (zS0, R, I, J)) r := by
  rcases ho with rfl | rfl
  · refine zEv_k 5 (f' := (43, [some (.ref 0), some (.int x1), some (.int x2), some (.int x3), some (.int x4), some (.ref 7), some (.null)], [], (zS0, R, I, J))) rfl ?_
    exact k1
  · refine zEv_k 5 (f' := (43, [some (.ref 0), some (.int x1), some (.int x2), some (.int x3), some (.int x4), some (.ref 22), some (.null)], [], (zS0, R, I, J))) rfl ?_
    exact k1
theorem b_119_34 {X : zX} {d : Nat} {R : zR} {I : zI} {J : zJ} {r : zA} {c : Nat} {e : Nat} {x1 : Int32} {x2 : Int32} {x3 : Int32} {x4 : Int32} (ho : (c = 7 ∧ e = 15) ∨ (c = 7 ∧ e = 30) ∨ (c = 22 ∧ e = 15) ∨ (c = 22 ∧ e = 30)) (k1 : x3 ≤ (I e 0) → zEv X d zm_119 (45, [some (.ref 0), some (.int x1), some (.int x2), some (.int x3), some (.int x4), some (.ref c), some (.ref e)], [], (zS0, R, I, J)) r) (k2 : ¬ (x3 ≤ (I e 0)) → zEv X d zm_119 (43, [some (.ref 0), some (.int x1), some (.int x2), some (.int x3), some (.int x4), some (.ref c), some (.ref e)], [], (zS0, R, I, J)) r) : zEv X d zm_119 (34, [some (.ref 0), some (.int x1), some (.int x2), some (.int x3), some (.int x4), some (.ref c), some (.ref e)], [], (zS0, R, I, J)) r := by
  rcases ho with ⟨rfl, rfl⟩ | ⟨rfl, rfl⟩ | ⟨rfl, rfl⟩ | ⟨rfl, rfl⟩
  · refine zEv_k 4 (f' := (if x3 ≤ (I 15 0) then 45 else 43, [some (.ref 0), some (.int x1), some (.int x2), some (.int x3), some (.int x4), some (.ref 7), some (.ref 15)], [], (zS0, R, I, J))) rfl ?_
    exact zEv_if k1 k2
  · refine zEv_k 4 (f' := (if x3 ≤ (I 30 0) then 45 else 43, [some (.ref 0), some (.int x1), some (.int x2), some (.int x3), some (.int x4), some (.ref 7), some (.ref 30)], [], (zS0, R, I, J))) rfl ?_
    exact zEv_if k1 k2
  · refine zEv_k 4 (f' := (if x3 ≤ (I 15 0) then 45 else 43, [some (.ref 0), some (.int x1), some (.int x2), some (.int x3), some (.int x4), some (.ref 22), some (.ref 15)], [], (zS0, R, I, J))) rfl ?_
    exact zEv_if k1 k2
  · refine zEv_k 4 (f' := (if x3 ≤ (I 30 0) then 45 else 43, [some (.ref 0), some (.int x1), some (.int x2), some (.int x3), some (.int x4), some (.ref 22), some (.ref 30)], [], (zS0, R, I, J))) rfl ?_
    exact zEv_if k1 k2
theorem b_119_43 {X : zX} {d : Nat} {R : zR} {I : zI} {J : zJ} {c : Nat} {e : Nat} {x1 : Int32} {x2 : Int32} {x3 : Int32} {x4 : Int32} (ho : (c = 7 ∧ e = 15) ∨ (c = 7 ∧ e = 30) ∨ (c = 22 ∧ e = 15) ∨ (c = 22 ∧ e = 30)) : zEv X d zm_119 (43, [some (.ref 0), some (.int x1), some (.int x2), some (.int x3), some (.int x4), some (.ref c), some (.ref e)], [], (zS0, R, I, J)) (some (.int (-1)), (zS0, R, I, J)) := by
  rcases ho with ⟨rfl, rfl⟩ | ⟨rfl, rfl⟩ | ⟨rfl, rfl⟩ | ⟨rfl, rfl⟩
  · refine zEv_k 1 (f' := (44, [some (.ref 0), some (.int x1), some (.int x2), some (.int x3), some (.int x4), some (.ref 7), some (.ref 15)], [.int (-1)], (zS0, R, I, J))) rfl ?_
    exact zEv_r rfl
  · refine zEv_k 1 (f' := (44, [some (.ref 0), some (.int x1), some (.int x2), some (.int x3), some (.int x4), some (.ref 7), some (.ref 30)], [.int (-1)], (zS0, R, I, J))) rfl ?_
    exact zEv_r rfl
  · refine zEv_k 1 (f' := (44, [some (.ref 0), some (.int x1), some (.int x2), some (.int x3), some (.int x4), some (.ref 22), some (.ref 15)], [.int (-1)], (zS0, R, I, J))) rfl ?_
    exact zEv_r rfl
  · refine zEv_k 1 (f' := (44, [some (.ref 0), some (.int x1), some (.int x2), some (.int x3), some (.int x4), some (.ref 22), some (.ref 30)], [.int (-1)], (zS0, R, I, J))) rfl ?_
    exact zEv_r rfl
theorem b_119_43n5 {X : zX} {d : Nat} {R : zR} {I : zI} {J : zJ} {e : Nat} {x1 : Int32} {x2 : Int32} {x3 : Int32} {x4 : Int32} (ho : e = 15 ∨ e = 30) : zEv X d zm_119 (43, [some (.ref 0), some (.int x1), some (.int x2), some (.int x3), some (.int x4), some (.null), some (.ref e)], [], (zS0, R, I, J)) (some (.int (-1)), (zS0, R, I, J)) := by
  rcases ho with rfl | rfl
  · refine zEv_k 1 (f' := (44, [some (.ref 0), some (.int x1), some (.int x2), some (.int x3), some (.int x4), some (.null), some (.ref 15)], [.int (-1)], (zS0, R, I, J))) rfl ?_
    exact zEv_r rfl
  · refine zEv_k 1 (f' := (44, [some (.ref 0), some (.int x1), some (.int x2), some (.int x3), some (.int x4), some (.null), some (.ref 30)], [.int (-1)], (zS0, R, I, J))) rfl ?_
    exact zEv_r rfl
theorem b_119_43n5_6 {X : zX} {d : Nat} {R : zR} {I : zI} {J : zJ} {x1 : Int32} {x2 : Int32} {x3 : Int32} {x4 : Int32} : zEv X d zm_119 (43, [some (.ref 0), some (.int x1), some (.int x2), some (.int x3), some (.int x4), some (.null), some (.null)], [], (zS0, R, I, J)) (some (.int (-1)), (zS0, R, I, J)) := by
  refine zEv_k 1 (f' := (44, [some (.ref 0), some (.int x1), some (.int x2), some (.int x3), some (.int x4), some (.null), some (.null)], [.int (-1)], (zS0, R, I, J))) rfl ?_
  exact zEv_r rfl
theorem b_119_43n6 {X : zX} {d : Nat} {R : zR} {I : zI} {J : zJ} {c : Nat} {x1 : Int32} {x2 : Int32} {x3 : Int32} {x4 : Int32} (ho : c = 7 ∨ c = 22) : zEv X d zm_119 (43, [some (.ref 0), some (.int x1), some (.int x2), some (.int x3), some (.int x4), some (.ref c), some (.null)], [], (zS0, R, I, J)) (some (.int (-1)), (zS0, R, I, J)) := by
  rcases ho with rfl | rfl
  · refine zEv_k 1 (f' := (44, [some (.ref 0), some (.int x1), some (.int x2), some (.int x3), some (.int x4), some (.ref 7), some (.null)], [.int (-1)], (zS0, R, I, J))) rfl ?_
    exact zEv_r rfl
  · refine zEv_k 1 (f' := (44, [some (.ref 0), some (.int x1), some (.int x2), some (.int x3), some (.int x4), some (.ref 22), some (.null)], [.int (-1)], (zS0, R, I, J))) rfl ?_
    exact zEv_r rfl
theorem b_119_45 {X : zX} {d : Nat} {R : zR} {I : zI} {J : zJ} {r : zA} {c : Nat} {e : Nat} {x1 : Int32} {x2 : Int32} {x3 : Int32} {x4 : Int32} {R' : zR} {I' : zI} {J' : zJ} (hR : zRok R) (ho : (c = 7 ∧ e = 15) ∨ (c = 7 ∧ e = 30) ∨ (c = 22 ∧ e = 15) ∨ (c = 22 ∧ e = 30)) (hc : zEv X d zm_70 (0, [some (.ref 166), some (.ref c), none], [], (zS0, R, I, J)) (none, (zS0, R', I', J'))) (k1 : zEv X (d + 1) zm_119 (54, [some (.ref 0), some (.int x1), some (.int x2), some (.int x3), some (.int x4), some (.ref c), some (.ref e)], [], (zS0, R', I', J')) r) : zEv X (d + 1) zm_119 (45, [some (.ref 0), some (.int x1), some (.int x2), some (.int x3), some (.int x4), some (.ref c), some (.ref e)], [], (zS0, R, I, J)) r := by
  rcases ho with ⟨rfl, rfl⟩ | ⟨rfl, rfl⟩ | ⟨rfl, rfl⟩ | ⟨rfl, rfl⟩
  · refine zEv_k 1 (f' := (46, [some (.ref 0), some (.int x1), some (.int x2), some (.int x3), some (.int x4), some (.ref 7), some (.ref 15)], [.ref 0], (zS0, R, I, J))) rfl ?_
    refine zEv_gr rfl rfl rfl (by decide) (hR (0) 4 (166) rfl) ?_
    refine zEv_k 1 (f' := (51, [some (.ref 0), some (.int x1), some (.int x2), some (.int x3), some (.int x4), some (.ref 7), some (.ref 15)], [.ref 7, .ref 166], (zS0, R, I, J))) rfl ?_
    exact zEv_c (fun _ => rfl) rfl hc rfl rfl k1
  · refine zEv_k 1 (f' := (46, [some (.ref 0), some (.int x1), some (.int x2), some (.int x3), some (.int x4), some (.ref 7), some (.ref 30)], [.ref 0], (zS0, R, I, J))) rfl ?_
    refine zEv_gr rfl rfl rfl (by decide) (hR (0) 4 (166) rfl) ?_
    refine zEv_k 1 (f' := (51, [some (.ref 0), some (.int x1), some (.int x2), some (.int x3), some (.int x4), some (.ref 7), some (.ref 30)], [.ref 7, .ref 166], (zS0, R, I, J))) rfl ?_
    exact zEv_c (fun _ => rfl) rfl hc rfl rfl k1
  · refine zEv_k 1 (f' := (46, [some (.ref 0), some (.int x1), some (.int x2), some (.int x3), some (.int x4), some (.ref 22), some (.ref 15)], [.ref 0], (zS0, R, I, J))) rfl ?_
    refine zEv_gr rfl rfl rfl (by decide) (hR (0) 4 (166) rfl) ?_
    refine zEv_k 1 (f' := (51, [some (.ref 0), some (.int x1), some (.int x2), some (.int x3), some (.int x4), some (.ref 22), some (.ref 15)], [.ref 22, .ref 166], (zS0, R, I, J))) rfl ?_
    exact zEv_c (fun _ => rfl) rfl hc rfl rfl k1
  · refine zEv_k 1 (f' := (46, [some (.ref 0), some (.int x1), some (.int x2), some (.int x3), some (.int x4), some (.ref 22), some (.ref 30)], [.ref 0], (zS0, R, I, J))) rfl ?_
    refine zEv_gr rfl rfl rfl (by decide) (hR (0) 4 (166) rfl) ?_
    refine zEv_k 1 (f' := (51, [some (.ref 0), some (.int x1), some (.int x2), some (.int x3), some (.int x4), some (.ref 22), some (.ref 30)], [.ref 22, .ref 166], (zS0, R, I, J))) rfl ?_
    exact zEv_c (fun _ => rfl) rfl hc rfl rfl k1
theorem b_119_54 {X : zX} {d : Nat} {R : zR} {I : zI} {J : zJ} {r : zA} {c : Nat} {e : Nat} {x1 : Int32} {x2 : Int32} {x3 : Int32} {x4 : Int32} {w : Int32} {R' : zR} {I' : zI} {J' : zJ} (hR : zRok R) (ho : (c = 7 ∧ e = 15) ∨ (c = 7 ∧ e = 30) ∨ (c = 22 ∧ e = 15) ∨ (c = 22 ∧ e = 30)) (hc : zEv X d zm_71 (0, [some (.ref 166), some (.ref e), some (.int x3), none], [], (zS0, R, I, J)) (some (.int w), (zS0, R', I', J'))) (k1 : zEv X (d + 1) zm_119 (64, [some (.ref 0), some (.int x1), some (.int x2), some (.int x3), some (.int x4), some (.ref c), some (.ref e)], [.int w], (zS0, R', I', J')) r) : zEv X (d + 1) zm_119 (54, [some (.ref 0), some (.int x1), some (.int x2), some (.int x3), some (.int x4), some (.ref c), some (.ref e)], [], (zS0, R, I, J)) r := by
  rcases ho with ⟨rfl, rfl⟩ | ⟨rfl, rfl⟩ | ⟨rfl, rfl⟩ | ⟨rfl, rfl⟩
  · refine zEv_k 1 (f' := (55, [some (.ref 0), some (.int x1), some (.int x2), some (.int x3), some (.int x4), some (.ref 7), some (.ref 15)], [.ref 0], (zS0, R, I, J))) rfl ?_
    refine zEv_gr rfl rfl rfl (by decide) (hR (0) 4 (166) rfl) ?_
    refine zEv_k 2 (f' := (61, [some (.ref 0), some (.int x1), some (.int x2), some (.int x3), some (.int x4), some (.ref 7), some (.ref 15)], [.int x3, .ref 15, .ref 166], (zS0, R, I, J))) rfl ?_
    exact zEv_c (fun _ => rfl) rfl hc rfl rfl k1
  · refine zEv_k 1 (f' := (55, [some (.ref 0), some (.int x1), some (.int x2), some (.int x3), some (.int x4), some (.ref 7), some (.ref 30)], [.ref 0], (zS0, R, I, J))) rfl ?_
    refine zEv_gr rfl rfl rfl (by decide) (hR (0) 4 (166) rfl) ?_
    refine zEv_k 2 (f' := (61, [some (.ref 0), some (.int x1), some (.int x2), some (.int x3), some (.int x4), some (.ref 7), some (.ref 30)], [.int x3, .ref 30, .ref 166], (zS0, R, I, J))) rfl ?_
    exact zEv_c (fun _ => rfl) rfl hc rfl rfl k1
  · refine zEv_k 1 (f' := (55, [some (.ref 0), some (.int x1), some (.int x2), some (.int x3), some (.int x4), some (.ref 22), some (.ref 15)], [.ref 0], (zS0, R, I, J))) rfl ?_
    refine zEv_gr rfl rfl rfl (by decide) (hR (0) 4 (166) rfl) ?_
    refine zEv_k 2 (f' := (61, [some (.ref 0), some (.int x1), some (.int x2), some (.int x3), some (.int x4), some (.ref 22), some (.ref 15)], [.int x3, .ref 15, .ref 166], (zS0, R, I, J))) rfl ?_
    exact zEv_c (fun _ => rfl) rfl hc rfl rfl k1
  · refine zEv_k 1 (f' := (55, [some (.ref 0), some (.int x1), some (.int x2), some (.int x3), some (.int x4), some (.ref 22), some (.ref 30)], [.ref 0], (zS0, R, I, J))) rfl ?_
    refine zEv_gr rfl rfl rfl (by decide) (hR (0) 4 (166) rfl) ?_
    refine zEv_k 2 (f' := (61, [some (.ref 0), some (.int x1), some (.int x2), some (.int x3), some (.int x4), some (.ref 22), some (.ref 30)], [.int x3, .ref 30, .ref 166], (zS0, R, I, J))) rfl ?_
    exact zEv_c (fun _ => rfl) rfl hc rfl rfl k1
theorem b_119_64 {X : zX} {d : Nat} {R : zR} {I : zI} {J : zJ} {r : zA} {c : Nat} {e : Nat} {x1 : Int32} {x2 : Int32} {x3 : Int32} {x4 : Int32} {s0 : Int32} (ho : (c = 7 ∧ e = 15) ∨ (c = 7 ∧ e = 30) ∨ (c = 22 ∧ e = 15) ∨ (c = 22 ∧ e = 30)) (k1 : x3 ≤ s0 → zEv X d zm_119 (70, [some (.ref 0), some (.int x1), some (.int x2), some (.int x3), some (.int x4), some (.ref c), some (.ref e)], [], (zS0, R, I, J)) r) (k2 : ¬ (x3 ≤ s0) → zEv X d zm_119 (68, [some (.ref 0), some (.int x1), some (.int x2), some (.int x3), some (.int x4), some (.ref c), some (.ref e)], [], (zS0, R, I, J)) r) : zEv X d zm_119 (64, [some (.ref 0), some (.int x1), some (.int x2), some (.int x3), some (.int x4), some (.ref c), some (.ref e)], [.int s0], (zS0, R, I, J)) r := by
  rcases ho with ⟨rfl, rfl⟩ | ⟨rfl, rfl⟩ | ⟨rfl, rfl⟩ | ⟨rfl, rfl⟩
  · refine zEv_k 2 (f' := (if x3 ≤ s0 then 70 else 68, [some (.ref 0), some (.int x1), some (.int x2), some (.int x3), some (.int x4), some (.ref 7), some (.ref 15)], [], (zS0, R, I, J))) rfl ?_
    exact zEv_if k1 k2
  · refine zEv_k 2 (f' := (if x3 ≤ s0 then 70 else 68, [some (.ref 0), some (.int x1), some (.int x2), some (.int x3), some (.int x4), some (.ref 7), some (.ref 30)], [], (zS0, R, I, J))) rfl ?_
    exact zEv_if k1 k2
  · refine zEv_k 2 (f' := (if x3 ≤ s0 then 70 else 68, [some (.ref 0), some (.int x1), some (.int x2), some (.int x3), some (.int x4), some (.ref 22), some (.ref 15)], [], (zS0, R, I, J))) rfl ?_
    exact zEv_if k1 k2
  · refine zEv_k 2 (f' := (if x3 ≤ s0 then 70 else 68, [some (.ref 0), some (.int x1), some (.int x2), some (.int x3), some (.int x4), some (.ref 22), some (.ref 30)], [], (zS0, R, I, J))) rfl ?_
    exact zEv_if k1 k2
theorem b_119_68 {X : zX} {d : Nat} {R : zR} {I : zI} {J : zJ} {c : Nat} {e : Nat} {x1 : Int32} {x2 : Int32} {x3 : Int32} {x4 : Int32} (ho : (c = 7 ∧ e = 15) ∨ (c = 7 ∧ e = 30) ∨ (c = 22 ∧ e = 15) ∨ (c = 22 ∧ e = 30)) : zEv X d zm_119 (68, [some (.ref 0), some (.int x1), some (.int x2), some (.int x3), some (.int x4), some (.ref c), some (.ref e)], [], (zS0, R, I, J)) (some (.int (-1)), (zS0, R, I, J)) := by
  rcases ho with ⟨rfl, rfl⟩ | ⟨rfl, rfl⟩ | ⟨rfl, rfl⟩ | ⟨rfl, rfl⟩
  · refine zEv_k 1 (f' := (69, [some (.ref 0), some (.int x1), some (.int x2), some (.int x3), some (.int x4), some (.ref 7), some (.ref 15)], [.int (-1)], (zS0, R, I, J))) rfl ?_
    exact zEv_r rfl
  · refine zEv_k 1 (f' := (69, [some (.ref 0), some (.int x1), some (.int x2), some (.int x3), some (.int x4), some (.ref 7), some (.ref 30)], [.int (-1)], (zS0, R, I, J))) rfl ?_
    exact zEv_r rfl
  · refine zEv_k 1 (f' := (69, [some (.ref 0), some (.int x1), some (.int x2), some (.int x3), some (.int x4), some (.ref 22), some (.ref 15)], [.int (-1)], (zS0, R, I, J))) rfl ?_
    exact zEv_r rfl
  · refine zEv_k 1 (f' := (69, [some (.ref 0), some (.int x1), some (.int x2), some (.int x3), some (.int x4), some (.ref 22), some (.ref 30)], [.int (-1)], (zS0, R, I, J))) rfl ?_
    exact zEv_r rfl
theorem b_119_70 {X : zX} {d : Nat} {R : zR} {I : zI} {J : zJ} {r : zA} {c : Nat} {e : Nat} {x1 : Int32} {x2 : Int32} {x3 : Int32} {x4 : Int32} {w : Int32} {R' : zR} {I' : zI} {J' : zJ} (hR : zRok R) (ho : (c = 7 ∧ e = 15) ∨ (c = 7 ∧ e = 30) ∨ (c = 22 ∧ e = 15) ∨ (c = 22 ∧ e = 30)) (hc : zEv X d zm_75 (0, [some (.ref 166), some (.int x4), none], [], (zS0, R, I, J)) (some (.int w), (zS0, R', I', J'))) (k1 : zEv X (d + 1) zm_119 (79, [some (.ref 0), some (.int x1), some (.int x2), some (.int x3), some (.int x4), some (.ref c), some (.ref e)], [.int w], (zS0, R', I', J')) r) : zEv X (d + 1) zm_119 (70, [some (.ref 0), some (.int x1), some (.int x2), some (.int x3), some (.int x4), some (.ref c), some (.ref e)], [], (zS0, R, I, J)) r := by
  rcases ho with ⟨rfl, rfl⟩ | ⟨rfl, rfl⟩ | ⟨rfl, rfl⟩ | ⟨rfl, rfl⟩
  · refine zEv_k 1 (f' := (71, [some (.ref 0), some (.int x1), some (.int x2), some (.int x3), some (.int x4), some (.ref 7), some (.ref 15)], [.ref 0], (zS0, R, I, J))) rfl ?_
    refine zEv_gr rfl rfl rfl (by decide) (hR (0) 4 (166) rfl) ?_
    refine zEv_k 1 (f' := (76, [some (.ref 0), some (.int x1), some (.int x2), some (.int x3), some (.int x4), some (.ref 7), some (.ref 15)], [.int x4, .ref 166], (zS0, R, I, J))) rfl ?_
    exact zEv_c (fun _ => rfl) rfl hc rfl rfl k1
  · refine zEv_k 1 (f' := (71, [some (.ref 0), some (.int x1), some (.int x2), some (.int x3), some (.int x4), some (.ref 7), some (.ref 30)], [.ref 0], (zS0, R, I, J))) rfl ?_
    refine zEv_gr rfl rfl rfl (by decide) (hR (0) 4 (166) rfl) ?_
    refine zEv_k 1 (f' := (76, [some (.ref 0), some (.int x1), some (.int x2), some (.int x3), some (.int x4), some (.ref 7), some (.ref 30)], [.int x4, .ref 166], (zS0, R, I, J))) rfl ?_
    exact zEv_c (fun _ => rfl) rfl hc rfl rfl k1
  · refine zEv_k 1 (f' := (71, [some (.ref 0), some (.int x1), some (.int x2), some (.int x3), some (.int x4), some (.ref 22), some (.ref 15)], [.ref 0], (zS0, R, I, J))) rfl ?_
    refine zEv_gr rfl rfl rfl (by decide) (hR (0) 4 (166) rfl) ?_
    refine zEv_k 1 (f' := (76, [some (.ref 0), some (.int x1), some (.int x2), some (.int x3), some (.int x4), some (.ref 22), some (.ref 15)], [.int x4, .ref 166], (zS0, R, I, J))) rfl ?_
    exact zEv_c (fun _ => rfl) rfl hc rfl rfl k1
  · refine zEv_k 1 (f' := (71, [some (.ref 0), some (.int x1), some (.int x2), some (.int x3), some (.int x4), some (.ref 22), some (.ref 30)], [.ref 0], (zS0, R, I, J))) rfl ?_
    refine zEv_gr rfl rfl rfl (by decide) (hR (0) 4 (166) rfl) ?_
    refine zEv_k 1 (f' := (76, [some (.ref 0), some (.int x1), some (.int x2), some (.int x3), some (.int x4), some (.ref 22), some (.ref 30)], [.int x4, .ref 166], (zS0, R, I, J))) rfl ?_
    exact zEv_c (fun _ => rfl) rfl hc rfl rfl k1
theorem b_119_79 {X : zX} {d : Nat} {R : zR} {I : zI} {J : zJ} {c : Nat} {e : Nat} {x1 : Int32} {x2 : Int32} {x3 : Int32} {x4 : Int32} {s0 : Int32} (ho : (c = 7 ∧ e = 15) ∨ (c = 7 ∧ e = 30) ∨ (c = 22 ∧ e = 15) ∨ (c = 22 ∧ e = 30)) : zEv X d zm_119 (79, [some (.ref 0), some (.int x1), some (.int x2), some (.int x3), some (.int x4), some (.ref c), some (.ref e)], [.int s0], (zS0, R, I, J)) (some (.int s0), (zS0, R, I, J)) := by
  rcases ho with ⟨rfl, rfl⟩ | ⟨rfl, rfl⟩ | ⟨rfl, rfl⟩ | ⟨rfl, rfl⟩
  · exact zEv_r rfl
  · exact zEv_r rfl
  · exact zEv_r rfl
  · exact zEv_r rfl
theorem b_120_0r {X : zX} {d : Nat} {R : zR} {I : zI} {J : zJ} {r : zA} {c : Nat} {x1 : Int32} {x2 : Int32} {R' : zR} {I' : zI} {J' : zJ} (hR : zRok R) (ho : c = 7 ∨ c = 22) (hc : zEv X d zm_89 (0, [some (.ref 1), some (.int x1)], [], (zS0, R, I, J)) (some (.ref c), (zS0, R', I', J'))) (k1 : zEv X (d + 1) zm_120 (8, [some (.ref 0), some (.int x1), some (.int x2), none], [.ref c], (zS0, R', I', J')) r) : zEv X (d + 1) zm_120 (0, [some (.ref 0), some (.int x1), some (.int x2), none], [], (zS0, R, I, J)) r := by
  rcases ho with rfl | rfl
  · refine zEv_k 1 (f' := (1, [some (.ref 0), some (.int x1), some (.int x2), none], [.ref 0], (zS0, R, I, J))) rfl ?_
    refine zEv_gr rfl rfl rfl (by decide) (hR (0) 0 (1) rfl) ?_
    refine zEv_k 1 (f' := (5, [some (.ref 0), some (.int x1), some (.int x2), none], [.int x1, .ref 1], (zS0, R, I, J))) rfl ?_
    exact zEv_c (fun _ => rfl) rfl hc rfl rfl k1
  · refine zEv_k 1 (f' := (1, [some (.ref 0), some (.int x1), some (.int x2), none], [.ref 0], (zS0, R, I, J))) rfl ?_
    refine zEv_gr rfl rfl rfl (by decide) (hR (0) 0 (1) rfl) ?_
    refine zEv_k 1 (f' := (5, [some (.ref 0), some (.int x1), some (.int x2), none], [.int x1, .ref 1], (zS0, R, I, J))) rfl ?_
    exact zEv_c (fun _ => rfl) rfl hc rfl rfl k1
theorem b_120_0n {X : zX} {d : Nat} {R : zR} {I : zI} {J : zJ} {r : zA} {x1 : Int32} {x2 : Int32} {R' : zR} {I' : zI} {J' : zJ} (hR : zRok R) (hc : zEv X d zm_89 (0, [some (.ref 1), some (.int x1)], [], (zS0, R, I, J)) (some .null, (zS0, R', I', J'))) (k1 : zEv X (d + 1) zm_120 (8, [some (.ref 0), some (.int x1), some (.int x2), none], [.null], (zS0, R', I', J')) r) : zEv X (d + 1) zm_120 (0, [some (.ref 0), some (.int x1), some (.int x2), none], [], (zS0, R, I, J)) r := by
  refine zEv_k 1 (f' := (1, [some (.ref 0), some (.int x1), some (.int x2), none], [.ref 0], (zS0, R, I, J))) rfl ?_
  refine zEv_gr rfl rfl rfl (by decide) (hR (0) 0 (1) rfl) ?_
  refine zEv_k 1 (f' := (5, [some (.ref 0), some (.int x1), some (.int x2), none], [.int x1, .ref 1], (zS0, R, I, J))) rfl ?_
  exact zEv_c (fun _ => rfl) rfl hc rfl rfl k1
theorem b_120_8 {X : zX} {d : Nat} {R : zR} {I : zI} {J : zJ} {r : zA} {c : Nat} {x1 : Int32} {x2 : Int32} {w : Int32} {R' : zR} {I' : zI} {J' : zJ} (ho : c = 7 ∨ c = 22) (hc : zEv X d zm_6 (0, [some (.ref c), some (.int x2)], [], (zS0, R, I, J)) (some (.int w), (zS0, R', I', J'))) (k1 : zEv X (d + 1) zm_120 (18, [some (.ref 0), some (.int x1), some (.int x2), some (.ref c)], [.int w], (zS0, R', I', J')) r) : zEv X (d + 1) zm_120 (8, [some (.ref 0), some (.int x1), some (.int x2), none], [.ref c], (zS0, R, I, J)) r := by
  rcases ho with rfl | rfl
  · refine zEv_k 5 (f' := (15, [some (.ref 0), some (.int x1), some (.int x2), some (.ref 7)], [.int x2, .ref 7], (zS0, R, I, J))) rfl ?_
    exact zEv_c (fun _ => rfl) rfl hc rfl rfl k1
  · refine zEv_k 5 (f' := (15, [some (.ref 0), some (.int x1), some (.int x2), some (.ref 22)], [.int x2, .ref 22], (zS0, R, I, J))) rfl ?_
    exact zEv_c (fun _ => rfl) rfl hc rfl rfl k1
theorem b_120_8n100 {X : zX} {d : Nat} {R : zR} {I : zI} {J : zJ} {r : zA} {x1 : Int32} {x2 : Int32} (k1 : zEv X d zm_120 (21, [some (.ref 0), some (.int x1), some (.int x2), some (.null)], [], (zS0, R, I, J)) r) : zEv X d zm_120 (8, [some (.ref 0), some (.int x1), some (.int x2), none], [.null], (zS0, R, I, J)) r := by
  refine zEv_k 3 (f' := (21, [some (.ref 0), some (.int x1), some (.int x2), some (.null)], [], (zS0, R, I, J))) rfl ?_
  exact k1
theorem b_120_18 {X : zX} {d : Nat} {R : zR} {I : zI} {J : zJ} {r : zA} {c : Nat} {x1 : Int32} {x2 : Int32} {s0 : Int32} (ho : c = 7 ∨ c = 22) (k1 : ¬ s0 = 0 → zEv X d zm_120 (23, [some (.ref 0), some (.int x1), some (.int x2), some (.ref c)], [], (zS0, R, I, J)) r) (k2 : ¬ (¬ s0 = 0) → zEv X d zm_120 (21, [some (.ref 0), some (.int x1), some (.int x2), some (.ref c)], [], (zS0, R, I, J)) r) : zEv X d zm_120 (18, [some (.ref 0), some (.int x1), some (.int x2), some (.ref c)], [.int s0], (zS0, R, I, J)) r := by
  rcases ho with rfl | rfl
  · refine zEv_k 1 (f' := (if ¬ s0 = 0 then 23 else 21, [some (.ref 0), some (.int x1), some (.int x2), some (.ref 7)], [], (zS0, R, I, J))) rfl ?_
    exact zEv_if k1 k2
  · refine zEv_k 1 (f' := (if ¬ s0 = 0 then 23 else 21, [some (.ref 0), some (.int x1), some (.int x2), some (.ref 22)], [], (zS0, R, I, J))) rfl ?_
    exact zEv_if k1 k2
theorem b_120_21 {X : zX} {d : Nat} {R : zR} {I : zI} {J : zJ} {c : Nat} {x1 : Int32} {x2 : Int32} (ho : c = 7 ∨ c = 22) : zEv X d zm_120 (21, [some (.ref 0), some (.int x1), some (.int x2), some (.ref c)], [], (zS0, R, I, J)) (some (.int (-1)), (zS0, R, I, J)) := by
  rcases ho with rfl | rfl
  · refine zEv_k 1 (f' := (22, [some (.ref 0), some (.int x1), some (.int x2), some (.ref 7)], [.int (-1)], (zS0, R, I, J))) rfl ?_
    exact zEv_r rfl
  · refine zEv_k 1 (f' := (22, [some (.ref 0), some (.int x1), some (.int x2), some (.ref 22)], [.int (-1)], (zS0, R, I, J))) rfl ?_
    exact zEv_r rfl
theorem b_120_21n3 {X : zX} {d : Nat} {R : zR} {I : zI} {J : zJ} {x1 : Int32} {x2 : Int32} : zEv X d zm_120 (21, [some (.ref 0), some (.int x1), some (.int x2), some (.null)], [], (zS0, R, I, J)) (some (.int (-1)), (zS0, R, I, J)) := by
  refine zEv_k 1 (f' := (22, [some (.ref 0), some (.int x1), some (.int x2), some (.null)], [.int (-1)], (zS0, R, I, J))) rfl ?_
  exact zEv_r rfl
theorem b_120_23 {X : zX} {d : Nat} {R : zR} {I : zI} {J : zJ} {r : zA} {c : Nat} {x1 : Int32} {x2 : Int32} {R' : zR} {I' : zI} {J' : zJ} (hR : zRok R) (ho : c = 7 ∨ c = 22) (hc : zEv X d zm_95 (0, [some (.ref 180), some (.ref c), none], [], (zS0, R, I, J)) (none, (zS0, R', I', J'))) (k1 : zEv X (d + 1) zm_120 (31, [some (.ref 0), some (.int x1), some (.int x2), some (.ref c)], [], (zS0, R', I', J')) r) : zEv X (d + 1) zm_120 (23, [some (.ref 0), some (.int x1), some (.int x2), some (.ref c)], [], (zS0, R, I, J)) r := by
  rcases ho with rfl | rfl
  · refine zEv_k 1 (f' := (24, [some (.ref 0), some (.int x1), some (.int x2), some (.ref 7)], [.ref 0], (zS0, R, I, J))) rfl ?_
    refine zEv_gr rfl rfl rfl (by decide) (hR (0) 5 (180) rfl) ?_
    refine zEv_k 1 (f' := (28, [some (.ref 0), some (.int x1), some (.int x2), some (.ref 7)], [.ref 7, .ref 180], (zS0, R, I, J))) rfl ?_
    exact zEv_c (fun _ => rfl) rfl hc rfl rfl k1
  · refine zEv_k 1 (f' := (24, [some (.ref 0), some (.int x1), some (.int x2), some (.ref 22)], [.ref 0], (zS0, R, I, J))) rfl ?_
    refine zEv_gr rfl rfl rfl (by decide) (hR (0) 5 (180) rfl) ?_
    refine zEv_k 1 (f' := (28, [some (.ref 0), some (.int x1), some (.int x2), some (.ref 22)], [.ref 22, .ref 180], (zS0, R, I, J))) rfl ?_
    exact zEv_c (fun _ => rfl) rfl hc rfl rfl k1
theorem b_120_31 {X : zX} {d : Nat} {R : zR} {I : zI} {J : zJ} {r : zA} {c : Nat} {x1 : Int32} {x2 : Int32} {w : Int32} {R' : zR} {I' : zI} {J' : zJ} (hR : zRok R) (ho : c = 7 ∨ c = 22) (hc : zEv X d zm_100 (0, [some (.ref 180), some (.int x2), none, none, none, none], [], (zS0, R, I, J)) (some (.int w), (zS0, R', I', J'))) (k1 : zEv X (d + 1) zm_120 (39, [some (.ref 0), some (.int x1), some (.int x2), some (.ref c)], [.int w], (zS0, R', I', J')) r) : zEv X (d + 1) zm_120 (31, [some (.ref 0), some (.int x1), some (.int x2), some (.ref c)], [], (zS0, R, I, J)) r := by
  rcases ho with rfl | rfl
  · refine zEv_k 1 (f' := (32, [some (.ref 0), some (.int x1), some (.int x2), some (.ref 7)], [.ref 0], (zS0, R, I, J))) rfl ?_
    refine zEv_gr rfl rfl rfl (by decide) (hR (0) 5 (180) rfl) ?_
    refine zEv_k 1 (f' := (36, [some (.ref 0), some (.int x1), some (.int x2), some (.ref 7)], [.int x2, .ref 180], (zS0, R, I, J))) rfl ?_
    exact zEv_c (fun _ => rfl) rfl hc rfl rfl k1
  · refine zEv_k 1 (f' := (32, [some (.ref 0), some (.int x1), some (.int x2), some (.ref 22)], [.ref 0], (zS0, R, I, J))) rfl ?_
    refine zEv_gr rfl rfl rfl (by decide) (hR (0) 5 (180) rfl) ?_
    refine zEv_k 1 (f' := (36, [some (.ref 0), some (.int x1), some (.int x2), some (.ref 22)], [.int x2, .ref 180], (zS0, R, I, J))) rfl ?_
    exact zEv_c (fun _ => rfl) rfl hc rfl rfl k1
theorem b_120_39 {X : zX} {d : Nat} {R : zR} {I : zI} {J : zJ} {c : Nat} {x1 : Int32} {x2 : Int32} {s0 : Int32} (ho : c = 7 ∨ c = 22) : zEv X d zm_120 (39, [some (.ref 0), some (.int x1), some (.int x2), some (.ref c)], [.int s0], (zS0, R, I, J)) (some (.int s0), (zS0, R, I, J)) := by
  rcases ho with rfl | rfl
  · exact zEv_r rfl
  · exact zEv_r rfl
theorem b_121_0r {X : zX} {d : Nat} {R : zR} {I : zI} {J : zJ} {r : zA} {c : Nat} {x1 : Int32} {x2 : Int32} {R' : zR} {I' : zI} {J' : zJ} (hR : zRok R) (ho : c = 7 ∨ c = 22) (hc : zEv X d zm_89 (0, [some (.ref 1), some (.int x1)], [], (zS0, R, I, J)) (some (.ref c), (zS0, R', I', J'))) (k1 : zEv X (d + 1) zm_121 (8, [some (.ref 0), some (.int x1), some (.int x2), none], [.ref c], (zS0, R', I', J')) r) : zEv X (d + 1) zm_121 (0, [some (.ref 0), some (.int x1), some (.int x2), none], [], (zS0, R, I, J)) r := by
  rcases ho with rfl | rfl
  · refine zEv_k 1 (f' := (1, [some (.ref 0), some (.int x1), some (.int x2), none], [.ref 0], (zS0, R, I, J))) rfl ?_
    refine zEv_gr rfl rfl rfl (by decide) (hR (0) 0 (1) rfl) ?_
    refine zEv_k 1 (f' := (5, [some (.ref 0), some (.int x1), some (.int x2), none], [.int x1, .ref 1], (zS0, R, I, J))) rfl ?_
    exact zEv_c (fun _ => rfl) rfl hc rfl rfl k1
  · refine zEv_k 1 (f' := (1, [some (.ref 0), some (.int x1), some (.int x2), none], [.ref 0], (zS0, R, I, J))) rfl ?_
    refine zEv_gr rfl rfl rfl (by decide) (hR (0) 0 (1) rfl) ?_
    refine zEv_k 1 (f' := (5, [some (.ref 0), some (.int x1), some (.int x2), none], [.int x1, .ref 1], (zS0, R, I, J))) rfl ?_
    exact zEv_c (fun _ => rfl) rfl hc rfl rfl k1
theorem b_121_0n {X : zX} {d : Nat} {R : zR} {I : zI} {J : zJ} {r : zA} {x1 : Int32} {x2 : Int32} {R' : zR} {I' : zI} {J' : zJ} (hR : zRok R) (hc : zEv X d zm_89 (0, [some (.ref 1), some (.int x1)], [], (zS0, R, I, J)) (some .null, (zS0, R', I', J'))) (k1 : zEv X (d + 1) zm_121 (8, [some (.ref 0), some (.int x1), some (.int x2), none], [.null], (zS0, R', I', J')) r) : zEv X (d + 1) zm_121 (0, [some (.ref 0), some (.int x1), some (.int x2), none], [], (zS0, R, I, J)) r := by
  refine zEv_k 1 (f' := (1, [some (.ref 0), some (.int x1), some (.int x2), none], [.ref 0], (zS0, R, I, J))) rfl ?_
  refine zEv_gr rfl rfl rfl (by decide) (hR (0) 0 (1) rfl) ?_
  refine zEv_k 1 (f' := (5, [some (.ref 0), some (.int x1), some (.int x2), none], [.int x1, .ref 1], (zS0, R, I, J))) rfl ?_
  exact zEv_c (fun _ => rfl) rfl hc rfl rfl k1
theorem b_121_8 {X : zX} {d : Nat} {R : zR} {I : zI} {J : zJ} {r : zA} {c : Nat} {x1 : Int32} {x2 : Int32} (ho : c = 7 ∨ c = 22) (k1 : x2 = (-1) → zEv X d zm_121 (28, [some (.ref 0), some (.int x1), some (.int x2), some (.ref c)], [], (zS0, R, I, J)) r) (k2 : ¬ (x2 = (-1)) → zEv X d zm_121 (18, [some (.ref 0), some (.int x1), some (.int x2), some (.ref c)], [], (zS0, R, I, J)) r) : zEv X d zm_121 (8, [some (.ref 0), some (.int x1), some (.int x2), none], [.ref c], (zS0, R, I, J)) r := by
  rcases ho with rfl | rfl
  · refine zEv_k 6 (f' := (if x2 = (-1) then 28 else 18, [some (.ref 0), some (.int x1), some (.int x2), some (.ref 7)], [], (zS0, R, I, J))) rfl ?_
    exact zEv_if k1 k2
  · refine zEv_k 6 (f' := (if x2 = (-1) then 28 else 18, [some (.ref 0), some (.int x1), some (.int x2), some (.ref 22)], [], (zS0, R, I, J))) rfl ?_
    exact zEv_if k1 k2
theorem b_121_8n100 {X : zX} {d : Nat} {R : zR} {I : zI} {J : zJ} {r : zA} {x1 : Int32} {x2 : Int32} (k1 : zEv X d zm_121 (26, [some (.ref 0), some (.int x1), some (.int x2), some (.null)], [], (zS0, R, I, J)) r) : zEv X d zm_121 (8, [some (.ref 0), some (.int x1), some (.int x2), none], [.null], (zS0, R, I, J)) r := by
  refine zEv_k 3 (f' := (26, [some (.ref 0), some (.int x1), some (.int x2), some (.null)], [], (zS0, R, I, J))) rfl ?_
  exact k1
theorem b_121_18 {X : zX} {d : Nat} {R : zR} {I : zI} {J : zJ} {r : zA} {c : Nat} {x1 : Int32} {x2 : Int32} {w : Int32} {R' : zR} {I' : zI} {J' : zJ} (ho : c = 7 ∨ c = 22) (hc : zEv X d zm_6 (0, [some (.ref c), some (.int x2)], [], (zS0, R, I, J)) (some (.int w), (zS0, R', I', J'))) (k1 : zEv X (d + 1) zm_121 (23, [some (.ref 0), some (.int x1), some (.int x2), some (.ref c)], [.int w], (zS0, R', I', J')) r) : zEv X (d + 1) zm_121 (18, [some (.ref 0), some (.int x1), some (.int x2), some (.ref c)], [], (zS0, R, I, J)) r := by
  rcases ho with rfl | rfl
  · refine zEv_k 2 (f' := (20, [some (.ref 0), some (.int x1), some (.int x2), some (.ref 7)], [.int x2, .ref 7], (zS0, R, I, J))) rfl ?_
    exact zEv_c (fun _ => rfl) rfl hc rfl rfl k1
  · refine zEv_k 2 (f' := (20, [some (.ref 0), some (.int x1), some (.int x2), some (.ref 22)], [.int x2, .ref 22], (zS0, R, I, J))) rfl ?_
    exact zEv_c (fun _ => rfl) rfl hc rfl rfl k1
theorem b_121_23 {X : zX} {d : Nat} {R : zR} {I : zI} {J : zJ} {r : zA} {c : Nat} {x1 : Int32} {x2 : Int32} {s0 : Int32} (ho : c = 7 ∨ c = 22) (k1 : ¬ s0 = 0 → zEv X d zm_121 (28, [some (.ref 0), some (.int x1), some (.int x2), some (.ref c)], [], (zS0, R, I, J)) r) (k2 : ¬ (¬ s0 = 0) → zEv X d zm_121 (26, [some (.ref 0), some (.int x1), some (.int x2), some (.ref c)], [], (zS0, R, I, J)) r) : zEv X d zm_121 (23, [some (.ref 0), some (.int x1), some (.int x2), some (.ref c)], [.int s0], (zS0, R, I, J)) r := by
  rcases ho with rfl | rfl
  · refine zEv_k 1 (f' := (if ¬ s0 = 0 then 28 else 26, [some (.ref 0), some (.int x1), some (.int x2), some (.ref 7)], [], (zS0, R, I, J))) rfl ?_
    exact zEv_if k1 k2
  · refine zEv_k 1 (f' := (if ¬ s0 = 0 then 28 else 26, [some (.ref 0), some (.int x1), some (.int x2), some (.ref 22)], [], (zS0, R, I, J))) rfl ?_
    exact zEv_if k1 k2
theorem b_121_26 {X : zX} {d : Nat} {R : zR} {I : zI} {J : zJ} {c : Nat} {x1 : Int32} {x2 : Int32} (ho : c = 7 ∨ c = 22) : zEv X d zm_121 (26, [some (.ref 0), some (.int x1), some (.int x2), some (.ref c)], [], (zS0, R, I, J)) (some (.int (-1)), (zS0, R, I, J)) := by
  rcases ho with rfl | rfl
  · refine zEv_k 1 (f' := (27, [some (.ref 0), some (.int x1), some (.int x2), some (.ref 7)], [.int (-1)], (zS0, R, I, J))) rfl ?_
    exact zEv_r rfl
  · refine zEv_k 1 (f' := (27, [some (.ref 0), some (.int x1), some (.int x2), some (.ref 22)], [.int (-1)], (zS0, R, I, J))) rfl ?_
    exact zEv_r rfl
theorem b_121_26n3 {X : zX} {d : Nat} {R : zR} {I : zI} {J : zJ} {x1 : Int32} {x2 : Int32} : zEv X d zm_121 (26, [some (.ref 0), some (.int x1), some (.int x2), some (.null)], [], (zS0, R, I, J)) (some (.int (-1)), (zS0, R, I, J)) := by
  refine zEv_k 1 (f' := (27, [some (.ref 0), some (.int x1), some (.int x2), some (.null)], [.int (-1)], (zS0, R, I, J))) rfl ?_
  exact zEv_r rfl
theorem b_121_28 {X : zX} {d : Nat} {R : zR} {I : zI} {J : zJ} {r : zA} {c : Nat} {x1 : Int32} {x2 : Int32} {R' : zR} {I' : zI} {J' : zJ} (hR : zRok R) (ho : c = 7 ∨ c = 22) (hc : zEv X d zm_29 (0, [some (.ref 184), some (.int x1), some (.ref c), none], [], (zS0, R, I, J)) (none, (zS0, R', I', J'))) (k1 : zEv X (d + 1) zm_121 (37, [some (.ref 0), some (.int x1), some (.int x2), some (.ref c)], [], (zS0, R', I', J')) r) : zEv X (d + 1) zm_121 (28, [some (.ref 0), some (.int x1), some (.int x2), some (.ref c)], [], (zS0, R, I, J)) r := by
  rcases ho with rfl | rfl
  · refine zEv_k 1 (f' := (29, [some (.ref 0), some (.int x1), some (.int x2), some (.ref 7)], [.ref 0], (zS0, R, I, J))) rfl ?_
    refine zEv_gr rfl rfl rfl (by decide) (hR (0) 6 (184) rfl) ?_
    refine zEv_k 2 (f' := (34, [some (.ref 0), some (.int x1), some (.int x2), some (.ref 7)], [.ref 7, .int x1, .ref 184], (zS0, R, I, J))) rfl ?_
    exact zEv_c (fun _ => rfl) rfl hc rfl rfl k1
  · refine zEv_k 1 (f' := (29, [some (.ref 0), some (.int x1), some (.int x2), some (.ref 22)], [.ref 0], (zS0, R, I, J))) rfl ?_
    refine zEv_gr rfl rfl rfl (by decide) (hR (0) 6 (184) rfl) ?_
    refine zEv_k 2 (f' := (34, [some (.ref 0), some (.int x1), some (.int x2), some (.ref 22)], [.ref 22, .int x1, .ref 184], (zS0, R, I, J))) rfl ?_
    exact zEv_c (fun _ => rfl) rfl hc rfl rfl k1
theorem b_121_37 {X : zX} {d : Nat} {R : zR} {I : zI} {J : zJ} {r : zA} {c : Nat} {x1 : Int32} {x2 : Int32} (ho : c = 7 ∨ c = 22) (k1 : ¬ x2 = (-1) → zEv X d zm_121 (52, [some (.ref 0), some (.int x1), some (.int x2), some (.ref c)], [], (zS0, R, I, J)) r) (k2 : ¬ (¬ x2 = (-1)) → zEv X d zm_121 (42, [some (.ref 0), some (.int x1), some (.int x2), some (.ref c)], [], (zS0, R, I, J)) r) : zEv X d zm_121 (37, [some (.ref 0), some (.int x1), some (.int x2), some (.ref c)], [], (zS0, R, I, J)) r := by
  rcases ho with rfl | rfl
  · refine zEv_k 3 (f' := (if ¬ x2 = (-1) then 52 else 42, [some (.ref 0), some (.int x1), some (.int x2), some (.ref 7)], [], (zS0, R, I, J))) rfl ?_
    exact zEv_if k1 k2
  · refine zEv_k 3 (f' := (if ¬ x2 = (-1) then 52 else 42, [some (.ref 0), some (.int x1), some (.int x2), some (.ref 22)], [], (zS0, R, I, J))) rfl ?_
    exact zEv_if k1 k2
theorem b_121_42 {X : zX} {d : Nat} {R : zR} {I : zI} {J : zJ} {c : Nat} {x1 : Int32} {x2 : Int32} (hR : zRok R) (ho : c = 7 ∨ c = 22) : zEv X d zm_121 (42, [some (.ref 0), some (.int x1), some (.int x2), some (.ref c)], [], (zS0, R, I, J)) (some (.int (I 184 0)), (zS0, R, I, J)) := by
  rcases ho with rfl | rfl
  · refine zEv_k 1 (f' := (43, [some (.ref 0), some (.int x1), some (.int x2), some (.ref 7)], [.ref 0], (zS0, R, I, J))) rfl ?_
    refine zEv_gr rfl rfl rfl (by decide) (hR (0) 6 (184) rfl) ?_
    refine zEv_k 2 (f' := (61, [some (.ref 0), some (.int x1), some (.int x2), some (.ref 7)], [.int (I 184 0)], (zS0, R, I, J))) rfl ?_
    exact zEv_r rfl
  · refine zEv_k 1 (f' := (43, [some (.ref 0), some (.int x1), some (.int x2), some (.ref 22)], [.ref 0], (zS0, R, I, J))) rfl ?_
    refine zEv_gr rfl rfl rfl (by decide) (hR (0) 6 (184) rfl) ?_
    refine zEv_k 2 (f' := (61, [some (.ref 0), some (.int x1), some (.int x2), some (.ref 22)], [.int (I 184 0)], (zS0, R, I, J))) rfl ?_
    exact zEv_r rfl
theorem b_121_52 {X : zX} {d : Nat} {R : zR} {I : zI} {J : zJ} {c : Nat} {x1 : Int32} {x2 : Int32} (hR : zRok R) (ho : c = 7 ∨ c = 22) (h60 : zin x2 7) : zEv X d zm_121 (52, [some (.ref 0), some (.int x1), some (.int x2), some (.ref c)], [], (zS0, R, I, J)) (some (.int (I 185 (x2).toNatClampNeg)), (zS0, R, I, J)) := by
  rcases ho with rfl | rfl
  · refine zEv_k 1 (f' := (53, [some (.ref 0), some (.int x1), some (.int x2), some (.ref 7)], [.ref 0], (zS0, R, I, J))) rfl ?_
    refine zEv_gr rfl rfl rfl (by decide) (hR (0) 6 (184) rfl) ?_
    refine zEv_gr rfl rfl rfl (by decide) (hR (184) 1 (185) rfl) ?_
    refine zEv_k 1 (f' := (60, [some (.ref 0), some (.int x1), some (.int x2), some (.ref 7)], [.int x2, .ref 185], (zS0, R, I, J))) rfl ?_
    refine zEv_ial rfl rfl (by decide) h60 ?_
    exact zEv_r rfl
  · refine zEv_k 1 (f' := (53, [some (.ref 0), some (.int x1), some (.int x2), some (.ref 22)], [.ref 0], (zS0, R, I, J))) rfl ?_
    refine zEv_gr rfl rfl rfl (by decide) (hR (0) 6 (184) rfl) ?_
    refine zEv_gr rfl rfl rfl (by decide) (hR (184) 1 (185) rfl) ?_
    refine zEv_k 1 (f' := (60, [some (.ref 0), some (.int x1), some (.int x2), some (.ref 22)], [.int x2, .ref 185], (zS0, R, I, J))) rfl ?_
    refine zEv_ial rfl rfl (by decide) h60 ?_
    exact zEv_r rfl
theorem b_122_0r {X : zX} {d : Nat} {R : zR} {I : zI} {J : zJ} {r : zA} {c : Nat} {x1 : Int32} {x2 : Int32} {R' : zR} {I' : zI} {J' : zJ} (hR : zRok R) (ho : c = 7 ∨ c = 22) (hc : zEv X d zm_89 (0, [some (.ref 1), some (.int x1)], [], (zS0, R, I, J)) (some (.ref c), (zS0, R', I', J'))) (k1 : zEv X (d + 1) zm_122 (8, [some (.ref 0), some (.int x1), some (.int x2), none], [.ref c], (zS0, R', I', J')) r) : zEv X (d + 1) zm_122 (0, [some (.ref 0), some (.int x1), some (.int x2), none], [], (zS0, R, I, J)) r := by
  rcases ho with rfl | rfl
  · refine zEv_k 1 (f' := (1, [some (.ref 0), some (.int x1), some (.int x2), none], [.ref 0], (zS0, R, I, J))) rfl ?_
    refine zEv_gr rfl rfl rfl (by decide) (hR (0) 0 (1) rfl) ?_
    refine zEv_k 1 (f' := (5, [some (.ref 0), some (.int x1), some (.int x2), none], [.int x1, .ref 1], (zS0, R, I, J))) rfl ?_
    exact zEv_c (fun _ => rfl) rfl hc rfl rfl k1
  · refine zEv_k 1 (f' := (1, [some (.ref 0), some (.int x1), some (.int x2), none], [.ref 0], (zS0, R, I, J))) rfl ?_
    refine zEv_gr rfl rfl rfl (by decide) (hR (0) 0 (1) rfl) ?_
    refine zEv_k 1 (f' := (5, [some (.ref 0), some (.int x1), some (.int x2), none], [.int x1, .ref 1], (zS0, R, I, J))) rfl ?_
    exact zEv_c (fun _ => rfl) rfl hc rfl rfl k1
theorem b_122_0n {X : zX} {d : Nat} {R : zR} {I : zI} {J : zJ} {r : zA} {x1 : Int32} {x2 : Int32} {R' : zR} {I' : zI} {J' : zJ} (hR : zRok R) (hc : zEv X d zm_89 (0, [some (.ref 1), some (.int x1)], [], (zS0, R, I, J)) (some .null, (zS0, R', I', J'))) (k1 : zEv X (d + 1) zm_122 (8, [some (.ref 0), some (.int x1), some (.int x2), none], [.null], (zS0, R', I', J')) r) : zEv X (d + 1) zm_122 (0, [some (.ref 0), some (.int x1), some (.int x2), none], [], (zS0, R, I, J)) r := by
  refine zEv_k 1 (f' := (1, [some (.ref 0), some (.int x1), some (.int x2), none], [.ref 0], (zS0, R, I, J))) rfl ?_
  refine zEv_gr rfl rfl rfl (by decide) (hR (0) 0 (1) rfl) ?_
  refine zEv_k 1 (f' := (5, [some (.ref 0), some (.int x1), some (.int x2), none], [.int x1, .ref 1], (zS0, R, I, J))) rfl ?_
  exact zEv_c (fun _ => rfl) rfl hc rfl rfl k1
theorem b_122_8 {X : zX} {d : Nat} {R : zR} {I : zI} {J : zJ} {r : zA} {c : Nat} {x1 : Int32} {x2 : Int32} {w : Int32} {R' : zR} {I' : zI} {J' : zJ} (ho : c = 7 ∨ c = 22) (hc : zEv X d zm_6 (0, [some (.ref c), some (.int x2)], [], (zS0, R, I, J)) (some (.int w), (zS0, R', I', J'))) (k1 : zEv X (d + 1) zm_122 (18, [some (.ref 0), some (.int x1), some (.int x2), some (.ref c)], [.int w], (zS0, R', I', J')) r) : zEv X (d + 1) zm_122 (8, [some (.ref 0), some (.int x1), some (.int x2), none], [.ref c], (zS0, R, I, J)) r := by
  rcases ho with rfl | rfl
  · refine zEv_k 5 (f' := (15, [some (.ref 0), some (.int x1), some (.int x2), some (.ref 7)], [.int x2, .ref 7], (zS0, R, I, J))) rfl ?_
    exact zEv_c (fun _ => rfl) rfl hc rfl rfl k1
  · refine zEv_k 5 (f' := (15, [some (.ref 0), some (.int x1), some (.int x2), some (.ref 22)], [.int x2, .ref 22], (zS0, R, I, J))) rfl ?_
    exact zEv_c (fun _ => rfl) rfl hc rfl rfl k1
theorem b_122_8n100 {X : zX} {d : Nat} {R : zR} {I : zI} {J : zJ} {r : zA} {x1 : Int32} {x2 : Int32} (k1 : zEv X d zm_122 (21, [some (.ref 0), some (.int x1), some (.int x2), some (.null)], [], (zS0, R, I, J)) r) : zEv X d zm_122 (8, [some (.ref 0), some (.int x1), some (.int x2), none], [.null], (zS0, R, I, J)) r := by
  refine zEv_k 3 (f' := (21, [some (.ref 0), some (.int x1), some (.int x2), some (.null)], [], (zS0, R, I, J))) rfl ?_
  exact k1
theorem b_122_18 {X : zX} {d : Nat} {R : zR} {I : zI} {J : zJ} {r : zA} {c : Nat} {x1 : Int32} {x2 : Int32} {s0 : Int32} (ho : c = 7 ∨ c = 22) (k1 : ¬ s0 = 0 → zEv X d zm_122 (23, [some (.ref 0), some (.int x1), some (.int x2), some (.ref c)], [], (zS0, R, I, J)) r) (k2 : ¬ (¬ s0 = 0) → zEv X d zm_122 (21, [some (.ref 0), some (.int x1), some (.int x2), some (.ref c)], [], (zS0, R, I, J)) r) : zEv X d zm_122 (18, [some (.ref 0), some (.int x1), some (.int x2), some (.ref c)], [.int s0], (zS0, R, I, J)) r := by
  rcases ho with rfl | rfl
  · refine zEv_k 1 (f' := (if ¬ s0 = 0 then 23 else 21, [some (.ref 0), some (.int x1), some (.int x2), some (.ref 7)], [], (zS0, R, I, J))) rfl ?_
    exact zEv_if k1 k2
  · refine zEv_k 1 (f' := (if ¬ s0 = 0 then 23 else 21, [some (.ref 0), some (.int x1), some (.int x2), some (.ref 22)], [], (zS0, R, I, J))) rfl ?_
    exact zEv_if k1 k2
theorem b_122_21 {X : zX} {d : Nat} {R : zR} {I : zI} {J : zJ} {c : Nat} {x1 : Int32} {x2 : Int32} (ho : c = 7 ∨ c = 22) : zEv X d zm_122 (21, [some (.ref 0), some (.int x1), some (.int x2), some (.ref c)], [], (zS0, R, I, J)) (some (.int (-1)), (zS0, R, I, J)) := by
  rcases ho with rfl | rfl
  · refine zEv_k 1 (f' := (22, [some (.ref 0), some (.int x1), some (.int x2), some (.ref 7)], [.int (-1)], (zS0, R, I, J))) rfl ?_
    exact zEv_r rfl
  · refine zEv_k 1 (f' := (22, [some (.ref 0), some (.int x1), some (.int x2), some (.ref 22)], [.int (-1)], (zS0, R, I, J))) rfl ?_
    exact zEv_r rfl
theorem b_122_21n3 {X : zX} {d : Nat} {R : zR} {I : zI} {J : zJ} {x1 : Int32} {x2 : Int32} : zEv X d zm_122 (21, [some (.ref 0), some (.int x1), some (.int x2), some (.null)], [], (zS0, R, I, J)) (some (.int (-1)), (zS0, R, I, J)) := by
  refine zEv_k 1 (f' := (22, [some (.ref 0), some (.int x1), some (.int x2), some (.null)], [.int (-1)], (zS0, R, I, J))) rfl ?_
  exact zEv_r rfl
theorem b_122_23 {X : zX} {d : Nat} {R : zR} {I : zI} {J : zJ} {r : zA} {c : Nat} {x1 : Int32} {x2 : Int32} {w : Int32} {R' : zR} {I' : zI} {J' : zJ} (ho : c = 7 ∨ c = 22) (hc : zEv X d zm_9 (0, [some (.ref c), some (.int x2), none], [], (zS0, R, I, J)) (some (.int w), (zS0, R', I', J'))) (k1 : zEv X (d + 1) zm_122 (28, [some (.ref 0), some (.int x1), some (.int x2), some (.ref c)], [.int w], (zS0, R', I', J')) r) : zEv X (d + 1) zm_122 (23, [some (.ref 0), some (.int x1), some (.int x2), some (.ref c)], [], (zS0, R, I, J)) r := by
  rcases ho with rfl | rfl
  · refine zEv_k 2 (f' := (25, [some (.ref 0), some (.int x1), some (.int x2), some (.ref 7)], [.int x2, .ref 7], (zS0, R, I, J))) rfl ?_
    exact zEv_c (fun _ => rfl) rfl hc rfl rfl k1
  · refine zEv_k 2 (f' := (25, [some (.ref 0), some (.int x1), some (.int x2), some (.ref 22)], [.int x2, .ref 22], (zS0, R, I, J))) rfl ?_
    exact zEv_c (fun _ => rfl) rfl hc rfl rfl k1
theorem b_122_28 {X : zX} {d : Nat} {R : zR} {I : zI} {J : zJ} {c : Nat} {x1 : Int32} {x2 : Int32} {s0 : Int32} (ho : c = 7 ∨ c = 22) : zEv X d zm_122 (28, [some (.ref 0), some (.int x1), some (.int x2), some (.ref c)], [.int s0], (zS0, R, I, J)) (some (.int s0), (zS0, R, I, J)) := by
  rcases ho with rfl | rfl
  · exact zEv_r rfl
  · exact zEv_r rfl
theorem b_123_0r {X : zX} {d : Nat} {R : zR} {I : zI} {J : zJ} {r : zA} {c : Nat} {x1 : Int32} {x2 : Int32} {x3 : Int32} {R' : zR} {I' : zI} {J' : zJ} (hR : zRok R) (ho : c = 7 ∨ c = 22) (hc : zEv X d zm_89 (0, [some (.ref 1), some (.int x1)], [], (zS0, R, I, J)) (some (.ref c), (zS0, R', I', J'))) (k1 : zEv X (d + 1) zm_123 (8, [some (.ref 0), some (.int x1), some (.int x2), some (.int x3), none], [.ref c], (zS0, R', I', J')) r) : zEv X (d + 1) zm_123 (0, [some (.ref 0), some (.int x1), some (.int x2), some (.int x3), none], [], (zS0, R, I, J)) r := by
  rcases ho with rfl | rfl
  · refine zEv_k 1 (f' := (1, [some (.ref 0), some (.int x1), some (.int x2), some (.int x3), none], [.ref 0], (zS0, R, I, J))) rfl ?_
    refine zEv_gr rfl rfl rfl (by decide) (hR (0) 0 (1) rfl) ?_
    refine zEv_k 1 (f' := (5, [some (.ref 0), some (.int x1), some (.int x2), some (.int x3), none], [.int x1, .ref 1], (zS0, R, I, J))) rfl ?_
    exact zEv_c (fun _ => rfl) rfl hc rfl rfl k1
  · refine zEv_k 1 (f' := (1, [some (.ref 0), some (.int x1), some (.int x2), some (.int x3), none], [.ref 0], (zS0, R, I, J))) rfl ?_
    refine zEv_gr rfl rfl rfl (by decide) (hR (0) 0 (1) rfl) ?_
    refine zEv_k 1 (f' := (5, [some (.ref 0), some (.int x1), some (.int x2), some (.int x3), none], [.int x1, .ref 1], (zS0, R, I, J))) rfl ?_
    exact zEv_c (fun _ => rfl) rfl hc rfl rfl k1
theorem b_123_0n {X : zX} {d : Nat} {R : zR} {I : zI} {J : zJ} {r : zA} {x1 : Int32} {x2 : Int32} {x3 : Int32} {R' : zR} {I' : zI} {J' : zJ} (hR : zRok R) (hc : zEv X d zm_89 (0, [some (.ref 1), some (.int x1)], [], (zS0, R, I, J)) (some .null, (zS0, R', I', J'))) (k1 : zEv X (d + 1) zm_123 (8, [some (.ref 0), some (.int x1), some (.int x2), some (.int x3), none], [.null], (zS0, R', I', J')) r) : zEv X (d + 1) zm_123 (0, [some (.ref 0), some (.int x1), some (.int x2), some (.int x3), none], [], (zS0, R, I, J)) r := by
  refine zEv_k 1 (f' := (1, [some (.ref 0), some (.int x1), some (.int x2), some (.int x3), none], [.ref 0], (zS0, R, I, J))) rfl ?_
  refine zEv_gr rfl rfl rfl (by decide) (hR (0) 0 (1) rfl) ?_
  refine zEv_k 1 (f' := (5, [some (.ref 0), some (.int x1), some (.int x2), some (.int x3), none], [.int x1, .ref 1], (zS0, R, I, J))) rfl ?_
  exact zEv_c (fun _ => rfl) rfl hc rfl rfl k1
theorem b_123_8 {X : zX} {d : Nat} {R : zR} {I : zI} {J : zJ} {r : zA} {c : Nat} {x1 : Int32} {x2 : Int32} {x3 : Int32} (ho : c = 7 ∨ c = 22) (k1 : x2 < 0 → zEv X d zm_123 (35, [some (.ref 0), some (.int x1), some (.int x2), some (.int x3), some (.ref c)], [], (zS0, R, I, J)) r) (k2 : ¬ (x2 < 0) → zEv X d zm_123 (19, [some (.ref 0), some (.int x1), some (.int x2), some (.int x3), some (.ref c)], [], (zS0, R, I, J)) r) : zEv X d zm_123 (8, [some (.ref 0), some (.int x1), some (.int x2), some (.int x3), none], [.ref c], (zS0, R, I, J)) r := by
  rcases ho with rfl | rfl
  · refine zEv_k 5 (f' := (if x2 < 0 then 35 else 19, [some (.ref 0), some (.int x1), some (.int x2), some (.int x3), some (.ref 7)], [], (zS0, R, I, J))) rfl ?_
    exact zEv_if k1 k2
  · refine zEv_k 5 (f' := (if x2 < 0 then 35 else 19, [some (.ref 0), some (.int x1), some (.int x2), some (.int x3), some (.ref 22)], [], (zS0, R, I, J))) rfl ?_
    exact zEv_if k1 k2
theorem b_123_8n100 {X : zX} {d : Nat} {R : zR} {I : zI} {J : zJ} {r : zA} {x1 : Int32} {x2 : Int32} {x3 : Int32} (k1 : zEv X d zm_123 (35, [some (.ref 0), some (.int x1), some (.int x2), some (.int x3), some (.null)], [], (zS0, R, I, J)) r) : zEv X d zm_123 (8, [some (.ref 0), some (.int x1), some (.int x2), some (.int x3), none], [.null], (zS0, R, I, J)) r := by
  refine zEv_k 3 (f' := (35, [some (.ref 0), some (.int x1), some (.int x2), some (.int x3), some (.null)], [], (zS0, R, I, J))) rfl ?_
  exact k1
theorem b_123_19 {X : zX} {d : Nat} {R : zR} {I : zI} {J : zJ} {r : zA} {c : Nat} {x1 : Int32} {x2 : Int32} {x3 : Int32} (ho : c = 7 ∨ c = 22) (k1 : 10 < x2 → zEv X d zm_123 (35, [some (.ref 0), some (.int x1), some (.int x2), some (.int x3), some (.ref c)], [], (zS0, R, I, J)) r) (k2 : ¬ (10 < x2) → zEv X d zm_123 (25, [some (.ref 0), some (.int x1), some (.int x2), some (.int x3), some (.ref c)], [], (zS0, R, I, J)) r) : zEv X d zm_123 (19, [some (.ref 0), some (.int x1), some (.int x2), some (.int x3), some (.ref c)], [], (zS0, R, I, J)) r := by
  rcases ho with rfl | rfl
  · refine zEv_k 3 (f' := (if 10 < x2 then 35 else 25, [some (.ref 0), some (.int x1), some (.int x2), some (.int x3), some (.ref 7)], [], (zS0, R, I, J))) rfl ?_
    exact zEv_if k1 k2
  · refine zEv_k 3 (f' := (if 10 < x2 then 35 else 25, [some (.ref 0), some (.int x1), some (.int x2), some (.int x3), some (.ref 22)], [], (zS0, R, I, J))) rfl ?_
    exact zEv_if k1 k2
theorem b_123_25 {X : zX} {d : Nat} {R : zR} {I : zI} {J : zJ} {r : zA} {c : Nat} {x1 : Int32} {x2 : Int32} {x3 : Int32} (ho : c = 7 ∨ c = 22) (k1 : x3 < (-1) → zEv X d zm_123 (35, [some (.ref 0), some (.int x1), some (.int x2), some (.int x3), some (.ref c)], [], (zS0, R, I, J)) r) (k2 : ¬ (x3 < (-1)) → zEv X d zm_123 (30, [some (.ref 0), some (.int x1), some (.int x2), some (.int x3), some (.ref c)], [], (zS0, R, I, J)) r) : zEv X d zm_123 (25, [some (.ref 0), some (.int x1), some (.int x2), some (.int x3), some (.ref c)], [], (zS0, R, I, J)) r := by
  rcases ho with rfl | rfl
  · refine zEv_k 3 (f' := (if x3 < (-1) then 35 else 30, [some (.ref 0), some (.int x1), some (.int x2), some (.int x3), some (.ref 7)], [], (zS0, R, I, J))) rfl ?_
    exact zEv_if k1 k2
  · refine zEv_k 3 (f' := (if x3 < (-1) then 35 else 30, [some (.ref 0), some (.int x1), some (.int x2), some (.int x3), some (.ref 22)], [], (zS0, R, I, J))) rfl ?_
    exact zEv_if k1 k2
theorem b_123_30 {X : zX} {d : Nat} {R : zR} {I : zI} {J : zJ} {r : zA} {c : Nat} {x1 : Int32} {x2 : Int32} {x3 : Int32} (ho : c = 7 ∨ c = 22) (k1 : x3 < x2 → zEv X d zm_123 (37, [some (.ref 0), some (.int x1), some (.int x2), some (.int x3), some (.ref c)], [], (zS0, R, I, J)) r) (k2 : ¬ (x3 < x2) → zEv X d zm_123 (35, [some (.ref 0), some (.int x1), some (.int x2), some (.int x3), some (.ref c)], [], (zS0, R, I, J)) r) : zEv X d zm_123 (30, [some (.ref 0), some (.int x1), some (.int x2), some (.int x3), some (.ref c)], [], (zS0, R, I, J)) r := by
  rcases ho with rfl | rfl
  · refine zEv_k 3 (f' := (if x3 < x2 then 37 else 35, [some (.ref 0), some (.int x1), some (.int x2), some (.int x3), some (.ref 7)], [], (zS0, R, I, J))) rfl ?_
    exact zEv_if k1 k2
  · refine zEv_k 3 (f' := (if x3 < x2 then 37 else 35, [some (.ref 0), some (.int x1), some (.int x2), some (.int x3), some (.ref 22)], [], (zS0, R, I, J))) rfl ?_
    exact zEv_if k1 k2
theorem b_123_35 {X : zX} {d : Nat} {R : zR} {I : zI} {J : zJ} {c : Nat} {x1 : Int32} {x2 : Int32} {x3 : Int32} (ho : c = 7 ∨ c = 22) : zEv X d zm_123 (35, [some (.ref 0), some (.int x1), some (.int x2), some (.int x3), some (.ref c)], [], (zS0, R, I, J)) (some (.int (-1)), (zS0, R, I, J)) := by
  rcases ho with rfl | rfl
  · refine zEv_k 1 (f' := (36, [some (.ref 0), some (.int x1), some (.int x2), some (.int x3), some (.ref 7)], [.int (-1)], (zS0, R, I, J))) rfl ?_
    exact zEv_r rfl
  · refine zEv_k 1 (f' := (36, [some (.ref 0), some (.int x1), some (.int x2), some (.int x3), some (.ref 22)], [.int (-1)], (zS0, R, I, J))) rfl ?_
    exact zEv_r rfl
theorem b_123_35n4 {X : zX} {d : Nat} {R : zR} {I : zI} {J : zJ} {x1 : Int32} {x2 : Int32} {x3 : Int32} : zEv X d zm_123 (35, [some (.ref 0), some (.int x1), some (.int x2), some (.int x3), some (.null)], [], (zS0, R, I, J)) (some (.int (-1)), (zS0, R, I, J)) := by
  refine zEv_k 1 (f' := (36, [some (.ref 0), some (.int x1), some (.int x2), some (.int x3), some (.null)], [.int (-1)], (zS0, R, I, J))) rfl ?_
  exact zEv_r rfl
theorem b_123_37 {X : zX} {d : Nat} {R : zR} {I : zI} {J : zJ} {r : zA} {c : Nat} {x1 : Int32} {x2 : Int32} {x3 : Int32} {R' : zR} {I' : zI} {J' : zJ} (hR : zRok R) (ho : c = 7 ∨ c = 22) (hc : zEv X d zm_41 (0, [some (.ref 192), some (.ref c), some (.int x2), none, none], [], (zS0, R, I, J)) (none, (zS0, R', I', J'))) (k1 : zEv X (d + 1) zm_123 (47, [some (.ref 0), some (.int x1), some (.int x2), some (.int x3), some (.ref c)], [], (zS0, R', I', J')) r) : zEv X (d + 1) zm_123 (37, [some (.ref 0), some (.int x1), some (.int x2), some (.int x3), some (.ref c)], [], (zS0, R, I, J)) r := by
  rcases ho with rfl | rfl
  · refine zEv_k 1 (f' := (38, [some (.ref 0), some (.int x1), some (.int x2), some (.int x3), some (.ref 7)], [.ref 0], (zS0, R, I, J))) rfl ?_
    refine zEv_gr rfl rfl rfl (by decide) (hR (0) 7 (192) rfl) ?_
    refine zEv_k 2 (f' := (44, [some (.ref 0), some (.int x1), some (.int x2), some (.int x3), some (.ref 7)], [.int x2, .ref 7, .ref 192], (zS0, R, I, J))) rfl ?_
    exact zEv_c (fun _ => rfl) rfl hc rfl rfl k1
  · refine zEv_k 1 (f' := (38, [some (.ref 0), some (.int x1), some (.int x2), some (.int x3), some (.ref 22)], [.ref 0], (zS0, R, I, J))) rfl ?_
    refine zEv_gr rfl rfl rfl (by decide) (hR (0) 7 (192) rfl) ?_
    refine zEv_k 2 (f' := (44, [some (.ref 0), some (.int x1), some (.int x2), some (.int x3), some (.ref 22)], [.int x2, .ref 22, .ref 192], (zS0, R, I, J))) rfl ?_
    exact zEv_c (fun _ => rfl) rfl hc rfl rfl k1
theorem b_123_47 {X : zX} {d : Nat} {R : zR} {I : zI} {J : zJ} {r : zA} {c : Nat} {x1 : Int32} {x2 : Int32} {x3 : Int32} (ho : c = 7 ∨ c = 22) (k1 : ¬ x3 = (-1) → zEv X d zm_123 (62, [some (.ref 0), some (.int x1), some (.int x2), some (.int x3), some (.ref c)], [], (zS0, R, I, J)) r) (k2 : ¬ (¬ x3 = (-1)) → zEv X d zm_123 (52, [some (.ref 0), some (.int x1), some (.int x2), some (.int x3), some (.ref c)], [], (zS0, R, I, J)) r) : zEv X d zm_123 (47, [some (.ref 0), some (.int x1), some (.int x2), some (.int x3), some (.ref c)], [], (zS0, R, I, J)) r := by
  rcases ho with rfl | rfl
  · refine zEv_k 3 (f' := (if ¬ x3 = (-1) then 62 else 52, [some (.ref 0), some (.int x1), some (.int x2), some (.int x3), some (.ref 7)], [], (zS0, R, I, J))) rfl ?_
    exact zEv_if k1 k2
  · refine zEv_k 3 (f' := (if ¬ x3 = (-1) then 62 else 52, [some (.ref 0), some (.int x1), some (.int x2), some (.int x3), some (.ref 22)], [], (zS0, R, I, J))) rfl ?_
    exact zEv_if k1 k2
theorem b_123_52 {X : zX} {d : Nat} {R : zR} {I : zI} {J : zJ} {c : Nat} {x1 : Int32} {x2 : Int32} {x3 : Int32} (hR : zRok R) (ho : c = 7 ∨ c = 22) : zEv X d zm_123 (52, [some (.ref 0), some (.int x1), some (.int x2), some (.int x3), some (.ref c)], [], (zS0, R, I, J)) (some (.int (I 192 0)), (zS0, R, I, J)) := by
  rcases ho with rfl | rfl
  · refine zEv_k 1 (f' := (53, [some (.ref 0), some (.int x1), some (.int x2), some (.int x3), some (.ref 7)], [.ref 0], (zS0, R, I, J))) rfl ?_
    refine zEv_gr rfl rfl rfl (by decide) (hR (0) 7 (192) rfl) ?_
    refine zEv_k 2 (f' := (71, [some (.ref 0), some (.int x1), some (.int x2), some (.int x3), some (.ref 7)], [.int (I 192 0)], (zS0, R, I, J))) rfl ?_
    exact zEv_r rfl
  · refine zEv_k 1 (f' := (53, [some (.ref 0), some (.int x1), some (.int x2), some (.int x3), some (.ref 22)], [.ref 0], (zS0, R, I, J))) rfl ?_
    refine zEv_gr rfl rfl rfl (by decide) (hR (0) 7 (192) rfl) ?_
    refine zEv_k 2 (f' := (71, [some (.ref 0), some (.int x1), some (.int x2), some (.int x3), some (.ref 22)], [.int (I 192 0)], (zS0, R, I, J))) rfl ?_
    exact zEv_r rfl
theorem b_123_62 {X : zX} {d : Nat} {R : zR} {I : zI} {J : zJ} {c : Nat} {x1 : Int32} {x2 : Int32} {x3 : Int32} (hR : zRok R) (ho : c = 7 ∨ c = 22) (h70 : zin x3 10) : zEv X d zm_123 (62, [some (.ref 0), some (.int x1), some (.int x2), some (.int x3), some (.ref c)], [], (zS0, R, I, J)) (some (.int (I 193 (x3).toNatClampNeg)), (zS0, R, I, J)) := by
  rcases ho with rfl | rfl
  · refine zEv_k 1 (f' := (63, [some (.ref 0), some (.int x1), some (.int x2), some (.int x3), some (.ref 7)], [.ref 0], (zS0, R, I, J))) rfl ?_
    refine zEv_gr rfl rfl rfl (by decide) (hR (0) 7 (192) rfl) ?_
    refine zEv_gr rfl rfl rfl (by decide) (hR (192) 2 (193) rfl) ?_
    refine zEv_k 1 (f' := (70, [some (.ref 0), some (.int x1), some (.int x2), some (.int x3), some (.ref 7)], [.int x3, .ref 193], (zS0, R, I, J))) rfl ?_
    refine zEv_ial rfl rfl (by decide) h70 ?_
    exact zEv_r rfl
  · refine zEv_k 1 (f' := (63, [some (.ref 0), some (.int x1), some (.int x2), some (.int x3), some (.ref 22)], [.ref 0], (zS0, R, I, J))) rfl ?_
    refine zEv_gr rfl rfl rfl (by decide) (hR (0) 7 (192) rfl) ?_
    refine zEv_gr rfl rfl rfl (by decide) (hR (192) 2 (193) rfl) ?_
    refine zEv_k 1 (f' := (70, [some (.ref 0), some (.int x1), some (.int x2), some (.int x3), some (.ref 22)], [.int x3, .ref 193], (zS0, R, I, J))) rfl ?_
    refine zEv_ial rfl rfl (by decide) h70 ?_
    exact zEv_r rfl
theorem b_124_0r {X : zX} {d : Nat} {R : zR} {I : zI} {J : zJ} {r : zA} {c : Nat} {x1 : Int32} {x2 : Int32} {R' : zR} {I' : zI} {J' : zJ} (hR : zRok R) (ho : c = 7 ∨ c = 22) (hc : zEv X d zm_89 (0, [some (.ref 1), some (.int x1)], [], (zS0, R, I, J)) (some (.ref c), (zS0, R', I', J'))) (k1 : zEv X (d + 1) zm_124 (8, [some (.ref 0), some (.int x1), some (.int x2), none], [.ref c], (zS0, R', I', J')) r) : zEv X (d + 1) zm_124 (0, [some (.ref 0), some (.int x1), some (.int x2), none], [], (zS0, R, I, J)) r := by
  rcases ho with rfl | rfl
  · refine zEv_k 1 (f' := (1, [some (.ref 0), some (.int x1), some (.int x2), none], [.ref 0], (zS0, R, I, J))) rfl ?_
    refine zEv_gr rfl rfl rfl (by decide) (hR (0) 0 (1) rfl) ?_
    refine zEv_k 1 (f' := (5, [some (.ref 0), some (.int x1), some (.int x2), none], [.int x1, .ref 1], (zS0, R, I, J))) rfl ?_
    exact zEv_c (fun _ => rfl) rfl hc rfl rfl k1
  · refine zEv_k 1 (f' := (1, [some (.ref 0), some (.int x1), some (.int x2), none], [.ref 0], (zS0, R, I, J))) rfl ?_
    refine zEv_gr rfl rfl rfl (by decide) (hR (0) 0 (1) rfl) ?_
    refine zEv_k 1 (f' := (5, [some (.ref 0), some (.int x1), some (.int x2), none], [.int x1, .ref 1], (zS0, R, I, J))) rfl ?_
    exact zEv_c (fun _ => rfl) rfl hc rfl rfl k1
