theorem b_28_0 {X : zX} {d : Nat} {R : zR} {I : zI} {J : zJ}  : zEv X d zm_28 (0, [some (.ref 184)], [], (zS0, R, I, J)) (none, (zS0, R, zu I 184 7 (-1), J)) := by
  refine zEv_k 3 (f' := (5, [some (.ref 184)], [], (zS0, R, zu I 184 7 (-1), J))) rfl ?_
  exact zEv_r rfl
theorem b_29_0 {X : zX} {d : Nat} {R : zR} {I : zI} {J : zJ} {r : zA} {c : Nat} {x1 : Int32} (ho : c = 7 ∨ c = 22) (k1 : ¬ (I 184 7) = x1 → zEv X d zm_29 (9, [some (.ref 184), some (.int x1), some (.ref c), none], [], (zS0, R, I, J)) r) (k2 : ¬ (¬ (I 184 7) = x1) → zEv X d zm_29 (8, [some (.ref 184), some (.int x1), some (.ref c), none], [], (zS0, R, I, J)) r) : zEv X d zm_29 (0, [some (.ref 184), some (.int x1), some (.ref c), none], [], (zS0, R, I, J)) r := by
  rcases ho with rfl | rfl
  · refine zEv_k 4 (f' := (if ¬ (I 184 7) = x1 then 9 else 8, [some (.ref 184), some (.int x1), some (.ref 7), none], [], (zS0, R, I, J))) rfl ?_
    exact zEv_if k1 k2
  · refine zEv_k 4 (f' := (if ¬ (I 184 7) = x1 then 9 else 8, [some (.ref 184), some (.int x1), some (.ref 22), none], [], (zS0, R, I, J))) rfl ?_
    exact zEv_if k1 k2
theorem b_29_8 {X : zX} {d : Nat} {R : zR} {I : zI} {J : zJ} {c : Nat} {x1 : Int32} (ho : c = 7 ∨ c = 22) : zEv X d zm_29 (8, [some (.ref 184), some (.int x1), some (.ref c), none], [], (zS0, R, I, J)) (none, (zS0, R, I, J)) := by
  rcases ho with rfl | rfl
  · exact zEv_r rfl
  · exact zEv_r rfl
theorem b_29_9 {X : zX} {d : Nat} {R : zR} {I : zI} {J : zJ} {r : zA} {c : Nat} {x1 : Int32} {R' : zR} {I' : zI} {J' : zJ} (hR : zRok R) (ho : c = 7 ∨ c = 22) (hc : zEv X d zm_95 (0, [some (.ref 186), some (.ref c), none], [], (zS0, R, zu I 184 7 x1, J)) (none, (zS0, R', I', J'))) (k1 : zEv X (d + 1) zm_29 (22, [some (.ref 184), some (.int x1), some (.ref c), none], [], (zS0, R', I', J')) r) : zEv X (d + 1) zm_29 (9, [some (.ref 184), some (.int x1), some (.ref c), none], [], (zS0, R, I, J)) r := by
  rcases ho with rfl | rfl
  · refine zEv_k 4 (f' := (15, [some (.ref 184), some (.int x1), some (.ref 7), none], [.ref 184], (zS0, R, zu I 184 7 x1, J))) rfl ?_
    refine zEv_gr rfl rfl rfl (by decide) (hR (184) 2 (186) rfl) ?_
    refine zEv_k 1 (f' := (19, [some (.ref 184), some (.int x1), some (.ref 7), none], [.ref 7, .ref 186], (zS0, R, zu I 184 7 x1, J))) rfl ?_
    exact zEv_c (fun _ => rfl) rfl hc rfl rfl k1
  · refine zEv_k 4 (f' := (15, [some (.ref 184), some (.int x1), some (.ref 22), none], [.ref 184], (zS0, R, zu I 184 7 x1, J))) rfl ?_
    refine zEv_gr rfl rfl rfl (by decide) (hR (184) 2 (186) rfl) ?_
    refine zEv_k 1 (f' := (19, [some (.ref 184), some (.int x1), some (.ref 22), none], [.ref 22, .ref 186], (zS0, R, zu I 184 7 x1, J))) rfl ?_
    exact zEv_c (fun _ => rfl) rfl hc rfl rfl k1
theorem b_29_22 {X : zX} {d : Nat} {R : zR} {I : zI} {J : zJ} {r : zA} {c : Nat} {x1 : Int32} (ho : c = 7 ∨ c = 22) (k1 : zEv X d zm_29 (24, [some (.ref 184), some (.int x1), some (.ref c), some (.int 0)], [], (zS0, R, I, J)) r) : zEv X d zm_29 (22, [some (.ref 184), some (.int x1), some (.ref c), none], [], (zS0, R, I, J)) r := by
  rcases ho with rfl | rfl
  · refine zEv_k 2 (f' := (24, [some (.ref 184), some (.int x1), some (.ref 7), some (.int 0)], [], (zS0, R, I, J))) rfl ?_
    exact k1
  · refine zEv_k 2 (f' := (24, [some (.ref 184), some (.int x1), some (.ref 22), some (.int 0)], [], (zS0, R, I, J))) rfl ?_
    exact k1
theorem b_29_24 {X : zX} {d : Nat} {R : zR} {I : zI} {J : zJ} {r : zA} {c : Nat} {x1 : Int32} {x3 : Int32} (ho : c = 7 ∨ c = 22) (k1 : (I c 2) ≤ x3 → zEv X d zm_29 (46, [some (.ref 184), some (.int x1), some (.ref c), some (.int x3)], [], (zS0, R, I, J)) r) (k2 : ¬ ((I c 2) ≤ x3) → zEv X d zm_29 (32, [some (.ref 184), some (.int x1), some (.ref c), some (.int x3)], [], (zS0, R, I, J)) r) : zEv X d zm_29 (24, [some (.ref 184), some (.int x1), some (.ref c), some (.int x3)], [], (zS0, R, I, J)) r := by
  rcases ho with rfl | rfl
  · refine zEv_k 4 (f' := (if (I 7 2) ≤ x3 then 46 else 32, [some (.ref 184), some (.int x1), some (.ref 7), some (.int x3)], [], (zS0, R, I, J))) rfl ?_
    exact zEv_if k1 k2
  · refine zEv_k 4 (f' := (if (I 22 2) ≤ x3 then 46 else 32, [some (.ref 184), some (.int x1), some (.ref 22), some (.int x3)], [], (zS0, R, I, J))) rfl ?_
    exact zEv_if k1 k2
theorem b_29_32 {X : zX} {d : Nat} {R : zR} {I : zI} {J : zJ} {r : zA} {c : Nat} {x1 : Int32} {x3 : Int32} {R' : zR} {I' : zI} {J' : zJ} (hR : zRok R) (ho : c = 7 ∨ c = 22) (hc : zEv X d zm_99 (0, [some (.ref 186), some (.int x3), none], [], (zS0, R, I, J)) (none, (zS0, R', I', J'))) (k1 : zEv X (d + 1) zm_29 (40, [some (.ref 184), some (.int x1), some (.ref c), some (.int x3)], [], (zS0, R', I', J')) r) : zEv X (d + 1) zm_29 (32, [some (.ref 184), some (.int x1), some (.ref c), some (.int x3)], [], (zS0, R, I, J)) r := by
  rcases ho with rfl | rfl
  · refine zEv_k 1 (f' := (33, [some (.ref 184), some (.int x1), some (.ref 7), some (.int x3)], [.ref 184], (zS0, R, I, J))) rfl ?_
    refine zEv_gr rfl rfl rfl (by decide) (hR (184) 2 (186) rfl) ?_
    refine zEv_k 1 (f' := (37, [some (.ref 184), some (.int x1), some (.ref 7), some (.int x3)], [.int x3, .ref 186], (zS0, R, I, J))) rfl ?_
    exact zEv_c (fun _ => rfl) rfl hc rfl rfl k1
  · refine zEv_k 1 (f' := (33, [some (.ref 184), some (.int x1), some (.ref 22), some (.int x3)], [.ref 184], (zS0, R, I, J))) rfl ?_
    refine zEv_gr rfl rfl rfl (by decide) (hR (184) 2 (186) rfl) ?_
    refine zEv_k 1 (f' := (37, [some (.ref 184), some (.int x1), some (.ref 22), some (.int x3)], [.int x3, .ref 186], (zS0, R, I, J))) rfl ?_
    exact zEv_c (fun _ => rfl) rfl hc rfl rfl k1
theorem b_29_40 {X : zX} {d : Nat} {R : zR} {I : zI} {J : zJ} {r : zA} {c : Nat} {x1 : Int32} {x3 : Int32} (ho : c = 7 ∨ c = 22) (k1 : zEv X d zm_29 (24, [some (.ref 184), some (.int x1), some (.ref c), some (.int (x3 + 1))], [], (zS0, R, I, J)) r) : zEv X d zm_29 (40, [some (.ref 184), some (.int x1), some (.ref c), some (.int x3)], [], (zS0, R, I, J)) r := by
  rcases ho with rfl | rfl
  · refine zEv_k 2 (f' := (24, [some (.ref 184), some (.int x1), some (.ref 7), some (.int (x3 + 1))], [], (zS0, R, I, J))) rfl ?_
    exact k1
  · refine zEv_k 2 (f' := (24, [some (.ref 184), some (.int x1), some (.ref 22), some (.int (x3 + 1))], [], (zS0, R, I, J))) rfl ?_
    exact k1
theorem b_29_46 {X : zX} {d : Nat} {R : zR} {I : zI} {J : zJ} {r : zA} {c : Nat} {x1 : Int32} {x3 : Int32} {R' : zR} {I' : zI} {J' : zJ} (ho : c = 7 ∨ c = 22) (hc : zEv X d zm_30 (0, [some (.ref 184), some (.ref c), none, none], [], (zS0, R, I, J)) (none, (zS0, R', I', J'))) (k1 : zEv X (d + 1) zm_29 (51, [some (.ref 184), some (.int x1), some (.ref c), some (.int x3)], [], (zS0, R', I', J')) r) : zEv X (d + 1) zm_29 (46, [some (.ref 184), some (.int x1), some (.ref c), some (.int x3)], [], (zS0, R, I, J)) r := by
  rcases ho with rfl | rfl
  · refine zEv_k 2 (f' := (48, [some (.ref 184), some (.int x1), some (.ref 7), some (.int x3)], [.ref 7, .ref 184], (zS0, R, I, J))) rfl ?_
    exact zEv_c (fun _ => rfl) rfl hc rfl rfl k1
  · refine zEv_k 2 (f' := (48, [some (.ref 184), some (.int x1), some (.ref 22), some (.int x3)], [.ref 22, .ref 184], (zS0, R, I, J))) rfl ?_
    exact zEv_c (fun _ => rfl) rfl hc rfl rfl k1
theorem b_29_51 {X : zX} {d : Nat} {R : zR} {I : zI} {J : zJ} {r : zA} {c : Nat} {x1 : Int32} {x3 : Int32} {w : Int32} {R' : zR} {I' : zI} {J' : zJ} (hR : zRok R) (ho : c = 7 ∨ c = 22) (hc : zEv X d zm_101 (0, [some (.ref 186), some (.int ((zu (zu I 184 5 0) 184 0 ((I c 2) + 1)) 184 0)), none, none], [], (zS0, R, zu (zu I 184 5 0) 184 0 ((I c 2) + 1), J)) (some (.int w), (zS0, R', I', J'))) (k1 : zEv X (d + 1) zm_29 (78, [some (.ref 184), some (.int x1), some (.ref c), some (.int x3)], [.int w, .ref 184], (zS0, R', I', J')) r) : zEv X (d + 1) zm_29 (51, [some (.ref 184), some (.int x1), some (.ref c), some (.int x3)], [], (zS0, R, I, J)) r := by
  rcases ho with rfl | rfl
  · refine zEv_k 9 (f' := (66, [some (.ref 184), some (.int x1), some (.ref 7), some (.int x3)], [], (zS0, R, zu (zu I 184 5 0) 184 0 ((I 7 2) + 1), J))) rfl ?_
    refine zEv_k 2 (f' := (68, [some (.ref 184), some (.int x1), some (.ref 7), some (.int x3)], [.ref 184, .ref 184], (zS0, R, zu (zu I 184 5 0) 184 0 ((I 7 2) + 1), J))) rfl ?_
    refine zEv_gr rfl rfl rfl (by decide) (hR (184) 2 (186) rfl) ?_
    refine zEv_k 2 (f' := (75, [some (.ref 184), some (.int x1), some (.ref 7), some (.int x3)], [.int ((zu (zu I 184 5 0) 184 0 ((I 7 2) + 1)) 184 0), .ref 186, .ref 184], (zS0, R, zu (zu I 184 5 0) 184 0 ((I 7 2) + 1), J))) rfl ?_
    exact zEv_c (fun _ => rfl) rfl hc rfl rfl k1
  · refine zEv_k 9 (f' := (66, [some (.ref 184), some (.int x1), some (.ref 22), some (.int x3)], [], (zS0, R, zu (zu I 184 5 0) 184 0 ((I 22 2) + 1), J))) rfl ?_
    refine zEv_k 2 (f' := (68, [some (.ref 184), some (.int x1), some (.ref 22), some (.int x3)], [.ref 184, .ref 184], (zS0, R, zu (zu I 184 5 0) 184 0 ((I 22 2) + 1), J))) rfl ?_
    refine zEv_gr rfl rfl rfl (by decide) (hR (184) 2 (186) rfl) ?_
    refine zEv_k 2 (f' := (75, [some (.ref 184), some (.int x1), some (.ref 22), some (.int x3)], [.int ((zu (zu I 184 5 0) 184 0 ((I 22 2) + 1)) 184 0), .ref 186, .ref 184], (zS0, R, zu (zu I 184 5 0) 184 0 ((I 22 2) + 1), J))) rfl ?_
    exact zEv_c (fun _ => rfl) rfl hc rfl rfl k1
theorem b_29_78 {X : zX} {d : Nat} {R : zR} {I : zI} {J : zJ} {r : zA} {c : Nat} {x1 : Int32} {x3 : Int32} {s1 : Int32} {R' : zR} {I' : zI} {J' : zJ} (ho : c = 7 ∨ c = 22) (hc : zEv X d zm_31 (0, [some (.ref 184), some (.int 0), some (.int ((zu I 184 6 s1) 184 6)), none, none], [], (zS0, R, zu I 184 6 s1, J)) (none, (zS0, R', I', J'))) (k1 : zEv X (d + 1) zm_29 (90, [some (.ref 184), some (.int x1), some (.ref c), some (.int x3)], [], (zS0, R', I', J')) r) : zEv X (d + 1) zm_29 (78, [some (.ref 184), some (.int x1), some (.ref c), some (.int x3)], [.int s1, .ref 184], (zS0, R, I, J)) r := by
  rcases ho with rfl | rfl
  · refine zEv_k 5 (f' := (87, [some (.ref 184), some (.int x1), some (.ref 7), some (.int x3)], [.int ((zu I 184 6 s1) 184 6), .int 0, .ref 184], (zS0, R, zu I 184 6 s1, J))) rfl ?_
    exact zEv_c (fun _ => rfl) rfl hc rfl rfl k1
  · refine zEv_k 5 (f' := (87, [some (.ref 184), some (.int x1), some (.ref 22), some (.int x3)], [.int ((zu I 184 6 s1) 184 6), .int 0, .ref 184], (zS0, R, zu I 184 6 s1, J))) rfl ?_
    exact zEv_c (fun _ => rfl) rfl hc rfl rfl k1
theorem b_29_90 {X : zX} {d : Nat} {R : zR} {I : zI} {J : zJ} {c : Nat} {x1 : Int32} {x3 : Int32} (ho : c = 7 ∨ c = 22) : zEv X d zm_29 (90, [some (.ref 184), some (.int x1), some (.ref c), some (.int x3)], [], (zS0, R, I, J)) (none, (zS0, R, I, J)) := by
  rcases ho with rfl | rfl
  · exact zEv_r rfl
  · exact zEv_r rfl
theorem b_30_0 {X : zX} {d : Nat} {R : zR} {I : zI} {J : zJ} {r : zA} {c : Nat} (ho : c = 7 ∨ c = 22) (k1 : zEv X d zm_30 (2, [some (.ref 184), some (.ref c), some (.int 0), none], [], (zS0, R, I, J)) r) : zEv X d zm_30 (0, [some (.ref 184), some (.ref c), none, none], [], (zS0, R, I, J)) r := by
  rcases ho with rfl | rfl
  · refine zEv_k 2 (f' := (2, [some (.ref 184), some (.ref 7), some (.int 0), none], [], (zS0, R, I, J))) rfl ?_
    exact k1
  · refine zEv_k 2 (f' := (2, [some (.ref 184), some (.ref 22), some (.int 0), none], [], (zS0, R, I, J))) rfl ?_
    exact k1
theorem b_30_2 {X : zX} {d : Nat} {R : zR} {I : zI} {J : zJ} {r : zA} {c : Nat} {x2 : Int32} {x3 : Option Value} (ho : c = 7 ∨ c = 22) (k1 : (I c 2) ≤ x2 → zEv X d zm_30 (71, [some (.ref 184), some (.ref c), some (.int x2), x3], [], (zS0, R, I, J)) r) (k2 : ¬ ((I c 2) ≤ x2) → zEv X d zm_30 (10, [some (.ref 184), some (.ref c), some (.int x2), x3], [], (zS0, R, I, J)) r) : zEv X d zm_30 (2, [some (.ref 184), some (.ref c), some (.int x2), x3], [], (zS0, R, I, J)) r := by
  rcases ho with rfl | rfl
  · refine zEv_k 4 (f' := (if (I 7 2) ≤ x2 then 71 else 10, [some (.ref 184), some (.ref 7), some (.int x2), x3], [], (zS0, R, I, J))) rfl ?_
    exact zEv_if k1 k2
  · refine zEv_k 4 (f' := (if (I 22 2) ≤ x2 then 71 else 10, [some (.ref 184), some (.ref 22), some (.int x2), x3], [], (zS0, R, I, J))) rfl ?_
    exact zEv_if k1 k2
theorem b_30_10 {X : zX} {d : Nat} {R : zR} {I : zI} {J : zJ} {r : zA} {c : Nat} {x2 : Int32} {x3 : Option Value} (ho : c = 7 ∨ c = 22) (k1 : zEv X d zm_30 (12, [some (.ref 184), some (.ref c), some (.int x2), some (.int x2)], [], (zS0, R, I, J)) r) : zEv X d zm_30 (10, [some (.ref 184), some (.ref c), some (.int x2), x3], [], (zS0, R, I, J)) r := by
  rcases ho with rfl | rfl
  · refine zEv_k 2 (f' := (12, [some (.ref 184), some (.ref 7), some (.int x2), some (.int x2)], [], (zS0, R, I, J))) rfl ?_
    exact k1
  · refine zEv_k 2 (f' := (12, [some (.ref 184), some (.ref 22), some (.int x2), some (.int x2)], [], (zS0, R, I, J))) rfl ?_
    exact k1
theorem b_30_12 {X : zX} {d : Nat} {R : zR} {I : zI} {J : zJ} {r : zA} {c : Nat} {x2 : Int32} {x3 : Int32} (ho : c = 7 ∨ c = 22) (k1 : x3 ≤ 0 → zEv X d zm_30 (53, [some (.ref 184), some (.ref c), some (.int x2), some (.int x3)], [], (zS0, R, I, J)) r) (k2 : ¬ (x3 ≤ 0) → zEv X d zm_30 (16, [some (.ref 184), some (.ref c), some (.int x2), some (.int x3)], [], (zS0, R, I, J)) r) : zEv X d zm_30 (12, [some (.ref 184), some (.ref c), some (.int x2), some (.int x3)], [], (zS0, R, I, J)) r := by
  rcases ho with rfl | rfl
  · refine zEv_k 2 (f' := (if x3 ≤ 0 then 53 else 16, [some (.ref 184), some (.ref 7), some (.int x2), some (.int x3)], [], (zS0, R, I, J))) rfl ?_
    exact zEv_if k1 k2
  · refine zEv_k 2 (f' := (if x3 ≤ 0 then 53 else 16, [some (.ref 184), some (.ref 22), some (.int x2), some (.int x3)], [], (zS0, R, I, J))) rfl ?_
    exact zEv_if k1 k2
theorem b_30_16 {X : zX} {d : Nat} {R : zR} {I : zI} {J : zJ} {r : zA} {c : Nat} {x2 : Int32} {x3 : Int32} (hR : zRok R) (ho : c = 7 ∨ c = 22) (h23 : zin (x3 - 1) 7) (h29 : zin x2 7) (k1 : (I 190 (x3 - 1).toNatClampNeg) ≤ (I (c + 6) (x2).toNatClampNeg) → zEv X d zm_30 (53, [some (.ref 184), some (.ref c), some (.int x2), some (.int x3)], [], (zS0, R, I, J)) r) (k2 : ¬ ((I 190 (x3 - 1).toNatClampNeg) ≤ (I (c + 6) (x2).toNatClampNeg)) → zEv X d zm_30 (33, [some (.ref 184), some (.ref c), some (.int x2), some (.int x3)], [], (zS0, R, I, J)) r) : zEv X d zm_30 (16, [some (.ref 184), some (.ref c), some (.int x2), some (.int x3)], [], (zS0, R, I, J)) r := by
  rcases ho with rfl | rfl
  · refine zEv_k 1 (f' := (17, [some (.ref 184), some (.ref 7), some (.int x2), some (.int x3)], [.ref 184], (zS0, R, I, J))) rfl ?_
    refine zEv_gr rfl rfl rfl (by decide) (hR (184) 3 (190) rfl) ?_
    refine zEv_k 3 (f' := (23, [some (.ref 184), some (.ref 7), some (.int x2), some (.int x3)], [.int (x3 - 1), .ref 190], (zS0, R, I, J))) rfl ?_
    refine zEv_ial rfl rfl (by decide) h23 ?_
    refine zEv_k 1 (f' := (25, [some (.ref 184), some (.ref 7), some (.int x2), some (.int x3)], [.ref 7, .int (I 190 (x3 - 1).toNatClampNeg)], (zS0, R, I, J))) rfl ?_
    refine zEv_gr rfl rfl rfl (by decide) (hR (7) 8 (7 + 6) rfl) ?_
    refine zEv_k 1 (f' := (29, [some (.ref 184), some (.ref 7), some (.int x2), some (.int x3)], [.int x2, .ref (7 + 6), .int (I 190 (x3 - 1).toNatClampNeg)], (zS0, R, I, J))) rfl ?_
    refine zEv_ial rfl rfl (by decide) h29 ?_
    refine zEv_k 1 (f' := (if (I 190 (x3 - 1).toNatClampNeg) ≤ (I (7 + 6) (x2).toNatClampNeg) then 53 else 33, [some (.ref 184), some (.ref 7), some (.int x2), some (.int x3)], [], (zS0, R, I, J))) rfl ?_
    exact zEv_if k1 k2
  · refine zEv_k 1 (f' := (17, [some (.ref 184), some (.ref 22), some (.int x2), some (.int x3)], [.ref 184], (zS0, R, I, J))) rfl ?_
    refine zEv_gr rfl rfl rfl (by decide) (hR (184) 3 (190) rfl) ?_
    refine zEv_k 3 (f' := (23, [some (.ref 184), some (.ref 22), some (.int x2), some (.int x3)], [.int (x3 - 1), .ref 190], (zS0, R, I, J))) rfl ?_
    refine zEv_ial rfl rfl (by decide) h23 ?_
    refine zEv_k 1 (f' := (25, [some (.ref 184), some (.ref 22), some (.int x2), some (.int x3)], [.ref 22, .int (I 190 (x3 - 1).toNatClampNeg)], (zS0, R, I, J))) rfl ?_
    refine zEv_gr rfl rfl rfl (by decide) (hR (22) 8 (22 + 6) rfl) ?_
    refine zEv_k 1 (f' := (29, [some (.ref 184), some (.ref 22), some (.int x2), some (.int x3)], [.int x2, .ref (22 + 6), .int (I 190 (x3 - 1).toNatClampNeg)], (zS0, R, I, J))) rfl ?_
    refine zEv_ial rfl rfl (by decide) h29 ?_
    refine zEv_k 1 (f' := (if (I 190 (x3 - 1).toNatClampNeg) ≤ (I (22 + 6) (x2).toNatClampNeg) then 53 else 33, [some (.ref 184), some (.ref 22), some (.int x2), some (.int x3)], [], (zS0, R, I, J))) rfl ?_
    exact zEv_if k1 k2
theorem b_30_33 {X : zX} {d : Nat} {R : zR} {I : zI} {J : zJ} {r : zA} {c : Nat} {x2 : Int32} {x3 : Int32} (hR : zRok R) (ho : c = 7 ∨ c = 22) (h45 : zin (x3 - 1) 7) (h46 : zin x3 7) (k1 : zEv X d zm_30 (12, [some (.ref 184), some (.ref c), some (.int x2), some (.int (x3 + (-1)))], [], (zS0, R, zu I 190 (x3).toNatClampNeg (I 190 (x3 - 1).toNatClampNeg), J)) r) : zEv X d zm_30 (33, [some (.ref 184), some (.ref c), some (.int x2), some (.int x3)], [], (zS0, R, I, J)) r := by
  rcases ho with rfl | rfl
  · refine zEv_k 1 (f' := (34, [some (.ref 184), some (.ref 7), some (.int x2), some (.int x3)], [.ref 184], (zS0, R, I, J))) rfl ?_
    refine zEv_gr rfl rfl rfl (by decide) (hR (184) 3 (190) rfl) ?_
    refine zEv_k 2 (f' := (39, [some (.ref 184), some (.ref 7), some (.int x2), some (.int x3)], [.ref 184, .int x3, .ref 190], (zS0, R, I, J))) rfl ?_
    refine zEv_gr rfl rfl rfl (by decide) (hR (184) 3 (190) rfl) ?_
    refine zEv_k 3 (f' := (45, [some (.ref 184), some (.ref 7), some (.int x2), some (.int x3)], [.int (x3 - 1), .ref 190, .int x3, .ref 190], (zS0, R, I, J))) rfl ?_
    refine zEv_ial rfl rfl (by decide) h45 ?_
    refine zEv_ias rfl rfl (by decide) h46 ?_
    refine zEv_k 2 (f' := (12, [some (.ref 184), some (.ref 7), some (.int x2), some (.int (x3 + (-1)))], [], (zS0, R, zu I 190 (x3).toNatClampNeg (I 190 (x3 - 1).toNatClampNeg), J))) rfl ?_
    exact k1
  · refine zEv_k 1 (f' := (34, [some (.ref 184), some (.ref 22), some (.int x2), some (.int x3)], [.ref 184], (zS0, R, I, J))) rfl ?_
    refine zEv_gr rfl rfl rfl (by decide) (hR (184) 3 (190) rfl) ?_
    refine zEv_k 2 (f' := (39, [some (.ref 184), some (.ref 22), some (.int x2), some (.int x3)], [.ref 184, .int x3, .ref 190], (zS0, R, I, J))) rfl ?_
    refine zEv_gr rfl rfl rfl (by decide) (hR (184) 3 (190) rfl) ?_
    refine zEv_k 3 (f' := (45, [some (.ref 184), some (.ref 22), some (.int x2), some (.int x3)], [.int (x3 - 1), .ref 190, .int x3, .ref 190], (zS0, R, I, J))) rfl ?_
    refine zEv_ial rfl rfl (by decide) h45 ?_
    refine zEv_ias rfl rfl (by decide) h46 ?_
    refine zEv_k 2 (f' := (12, [some (.ref 184), some (.ref 22), some (.int x2), some (.int (x3 + (-1)))], [], (zS0, R, zu I 190 (x3).toNatClampNeg (I 190 (x3 - 1).toNatClampNeg), J))) rfl ?_
    exact k1
theorem b_30_53 {X : zX} {d : Nat} {R : zR} {I : zI} {J : zJ} {r : zA} {c : Nat} {x2 : Int32} {x3 : Int32} (hR : zRok R) (ho : c = 7 ∨ c = 22) (h63 : zin x2 7) (h64 : zin x3 7) (k1 : zEv X d zm_30 (2, [some (.ref 184), some (.ref c), some (.int (x2 + 1)), some (.int x3)], [], (zS0, R, zu I 190 (x3).toNatClampNeg (I (c + 6) (x2).toNatClampNeg), J)) r) : zEv X d zm_30 (53, [some (.ref 184), some (.ref c), some (.int x2), some (.int x3)], [], (zS0, R, I, J)) r := by
  rcases ho with rfl | rfl
  · refine zEv_k 1 (f' := (54, [some (.ref 184), some (.ref 7), some (.int x2), some (.int x3)], [.ref 184], (zS0, R, I, J))) rfl ?_
    refine zEv_gr rfl rfl rfl (by decide) (hR (184) 3 (190) rfl) ?_
    refine zEv_k 2 (f' := (59, [some (.ref 184), some (.ref 7), some (.int x2), some (.int x3)], [.ref 7, .int x3, .ref 190], (zS0, R, I, J))) rfl ?_
    refine zEv_gr rfl rfl rfl (by decide) (hR (7) 8 (7 + 6) rfl) ?_
    refine zEv_k 1 (f' := (63, [some (.ref 184), some (.ref 7), some (.int x2), some (.int x3)], [.int x2, .ref (7 + 6), .int x3, .ref 190], (zS0, R, I, J))) rfl ?_
    refine zEv_ial rfl rfl (by decide) h63 ?_
    refine zEv_ias rfl rfl (by decide) h64 ?_
    refine zEv_k 2 (f' := (2, [some (.ref 184), some (.ref 7), some (.int (x2 + 1)), some (.int x3)], [], (zS0, R, zu I 190 (x3).toNatClampNeg (I (7 + 6) (x2).toNatClampNeg), J))) rfl ?_
    exact k1
  · refine zEv_k 1 (f' := (54, [some (.ref 184), some (.ref 22), some (.int x2), some (.int x3)], [.ref 184], (zS0, R, I, J))) rfl ?_
    refine zEv_gr rfl rfl rfl (by decide) (hR (184) 3 (190) rfl) ?_
    refine zEv_k 2 (f' := (59, [some (.ref 184), some (.ref 22), some (.int x2), some (.int x3)], [.ref 22, .int x3, .ref 190], (zS0, R, I, J))) rfl ?_
    refine zEv_gr rfl rfl rfl (by decide) (hR (22) 8 (22 + 6) rfl) ?_
    refine zEv_k 1 (f' := (63, [some (.ref 184), some (.ref 22), some (.int x2), some (.int x3)], [.int x2, .ref (22 + 6), .int x3, .ref 190], (zS0, R, I, J))) rfl ?_
    refine zEv_ial rfl rfl (by decide) h63 ?_
    refine zEv_ias rfl rfl (by decide) h64 ?_
    refine zEv_k 2 (f' := (2, [some (.ref 184), some (.ref 22), some (.int (x2 + 1)), some (.int x3)], [], (zS0, R, zu I 190 (x3).toNatClampNeg (I (22 + 6) (x2).toNatClampNeg), J))) rfl ?_
    exact k1
theorem b_30_71 {X : zX} {d : Nat} {R : zR} {I : zI} {J : zJ} {c : Nat} {x2 : Int32} {x3 : Option Value} (ho : c = 7 ∨ c = 22) : zEv X d zm_30 (71, [some (.ref 184), some (.ref c), some (.int x2), x3], [], (zS0, R, I, J)) (none, (zS0, R, I, J)) := by
  rcases ho with rfl | rfl
  · exact zEv_r rfl
  · exact zEv_r rfl
theorem b_31_0 {X : zX} {d : Nat} {R : zR} {I : zI} {J : zJ} {r : zA} {x1 : Int32} {x2 : Int32} (hR : zRok R) (k1 : x1 < (I 186 0) → zEv X d zm_31 (17, [some (.ref 184), some (.int x1), some (.int x2), none, none], [], (zS0, R, I, J)) r) (k2 : ¬ (x1 < (I 186 0)) → zEv X d zm_31 (11, [some (.ref 184), some (.int x1), some (.int x2), none, none], [], (zS0, R, I, J)) r) : zEv X d zm_31 (0, [some (.ref 184), some (.int x1), some (.int x2), none, none], [], (zS0, R, I, J)) r := by
  refine zEv_k 2 (f' := (2, [some (.ref 184), some (.int x1), some (.int x2), none, none], [.ref 184, .int x1], (zS0, R, I, J))) rfl ?_
  refine zEv_gr rfl rfl rfl (by decide) (hR (184) 2 (186) rfl) ?_
  refine zEv_k 2 (f' := (if x1 < (I 186 0) then 17 else 11, [some (.ref 184), some (.int x1), some (.int x2), none, none], [], (zS0, R, I, J))) rfl ?_
  exact zEv_if k1 k2
theorem b_31_11 {X : zX} {d : Nat} {R : zR} {I : zI} {J : zJ} {r : zA} {x1 : Int32} {x2 : Int32} {R' : zR} {I' : zI} {J' : zJ} (hc : zEv X d zm_32 (0, [some (.ref 184), some (.int x2), none], [], (zS0, R, I, J)) (none, (zS0, R', I', J'))) (k1 : zEv X (d + 1) zm_31 (16, [some (.ref 184), some (.int x1), some (.int x2), none, none], [], (zS0, R', I', J')) r) : zEv X (d + 1) zm_31 (11, [some (.ref 184), some (.int x1), some (.int x2), none, none], [], (zS0, R, I, J)) r := by
  refine zEv_k 2 (f' := (13, [some (.ref 184), some (.int x1), some (.int x2), none, none], [.int x2, .ref 184], (zS0, R, I, J))) rfl ?_
  exact zEv_c (fun _ => rfl) rfl hc rfl rfl k1
theorem b_31_16 {X : zX} {d : Nat} {R : zR} {I : zI} {J : zJ} {x1 : Int32} {x2 : Int32} : zEv X d zm_31 (16, [some (.ref 184), some (.int x1), some (.int x2), none, none], [], (zS0, R, I, J)) (none, (zS0, R, I, J)) := by
  exact zEv_r rfl
theorem b_31_17 {X : zX} {d : Nat} {R : zR} {I : zI} {J : zJ} {r : zA} {x1 : Int32} {x2 : Int32} {w : Int32} {R' : zR} {I' : zI} {J' : zJ} (hc : zEv X d zm_33 (0, [some (.ref 184), some (.int x1), none], [], (zS0, R, I, J)) (some (.int w), (zS0, R', I', J'))) (k1 : zEv X (d + 1) zm_31 (22, [some (.ref 184), some (.int x1), some (.int x2), none, none], [.int w], (zS0, R', I', J')) r) : zEv X (d + 1) zm_31 (17, [some (.ref 184), some (.int x1), some (.int x2), none, none], [], (zS0, R, I, J)) r := by
  refine zEv_k 2 (f' := (19, [some (.ref 184), some (.int x1), some (.int x2), none, none], [.int x1, .ref 184], (zS0, R, I, J))) rfl ?_
  exact zEv_c (fun _ => rfl) rfl hc rfl rfl k1
theorem b_31_22 {X : zX} {d : Nat} {R : zR} {I : zI} {J : zJ} {r : zA} {x1 : Int32} {x2 : Int32} {s0 : Int32} (k1 : zEv X d zm_31 (23, [some (.ref 184), some (.int x1), some (.int x2), some (.int s0), none], [], (zS0, R, I, J)) r) : zEv X d zm_31 (22, [some (.ref 184), some (.int x1), some (.int x2), none, none], [.int s0], (zS0, R, I, J)) r := by
  refine zEv_k 1 (f' := (23, [some (.ref 184), some (.int x1), some (.int x2), some (.int s0), none], [], (zS0, R, I, J))) rfl ?_
  exact k1
theorem b_31_23 {X : zX} {d : Nat} {R : zR} {I : zI} {J : zJ} {r : zA} {x1 : Int32} {x2 : Int32} {x3 : Int32} {x4 : Option Value} (hR : zRok R) (k1 : (I 186 0) ≤ x3 → zEv X d zm_31 (148, [some (.ref 184), some (.int x1), some (.int x2), some (.int x3), x4], [], (zS0, R, I, J)) r) (k2 : ¬ ((I 186 0) ≤ x3) → zEv X d zm_31 (34, [some (.ref 184), some (.int x1), some (.int x2), some (.int x3), x4], [], (zS0, R, I, J)) r) : zEv X d zm_31 (23, [some (.ref 184), some (.int x1), some (.int x2), some (.int x3), x4], [], (zS0, R, I, J)) r := by
  refine zEv_k 2 (f' := (25, [some (.ref 184), some (.int x1), some (.int x2), some (.int x3), x4], [.ref 184, .int x3], (zS0, R, I, J))) rfl ?_
  refine zEv_gr rfl rfl rfl (by decide) (hR (184) 2 (186) rfl) ?_
  refine zEv_k 2 (f' := (if (I 186 0) ≤ x3 then 148 else 34, [some (.ref 184), some (.int x1), some (.int x2), some (.int x3), x4], [], (zS0, R, I, J))) rfl ?_
  exact zEv_if k1 k2
theorem b_31_34 {X : zX} {d : Nat} {R : zR} {I : zI} {J : zJ} {r : zA} {x1 : Int32} {x2 : Int32} {x3 : Int32} {x4 : Option Value} (k1 : (I 184 0) ≤ (I 184 6) → zEv X d zm_31 (148, [some (.ref 184), some (.int x1), some (.int x2), some (.int x3), x4], [], (zS0, R, I, J)) r) (k2 : ¬ ((I 184 0) ≤ (I 184 6)) → zEv X d zm_31 (45, [some (.ref 184), some (.int x1), some (.int x2), some (.int x3), x4], [], (zS0, R, I, J)) r) : zEv X d zm_31 (34, [some (.ref 184), some (.int x1), some (.int x2), some (.int x3), x4], [], (zS0, R, I, J)) r := by
  refine zEv_k 5 (f' := (if (I 184 0) ≤ (I 184 6) then 148 else 45, [some (.ref 184), some (.int x1), some (.int x2), some (.int x3), x4], [], (zS0, R, I, J))) rfl ?_
  exact zEv_if k1 k2
theorem b_31_45 {X : zX} {d : Nat} {R : zR} {I : zI} {J : zJ} {r : zA} {x1 : Int32} {x2 : Int32} {x3 : Int32} {x4 : Option Value} {w : Int32} {R' : zR} {I' : zI} {J' : zJ} (hc : zEv X d zm_34 (0, [some (.ref 184), some (.int x3), none], [], (zS0, R, I, J)) (some (.int w), (zS0, R', I', J'))) (k1 : zEv X (d + 1) zm_31 (50, [some (.ref 184), some (.int x1), some (.int x2), some (.int x3), x4], [.int w], (zS0, R', I', J')) r) : zEv X (d + 1) zm_31 (45, [some (.ref 184), some (.int x1), some (.int x2), some (.int x3), x4], [], (zS0, R, I, J)) r := by
  refine zEv_k 2 (f' := (47, [some (.ref 184), some (.int x1), some (.int x2), some (.int x3), x4], [.int x3, .ref 184], (zS0, R, I, J))) rfl ?_
  exact zEv_c (fun _ => rfl) rfl hc rfl rfl k1
theorem b_31_50 {X : zX} {d : Nat} {R : zR} {I : zI} {J : zJ} {r : zA} {x1 : Int32} {x2 : Int32} {x3 : Int32} {x4 : Option Value} {s0 : Int32} (k1 : ¬ s0 = 0 → zEv X d zm_31 (56, [some (.ref 184), some (.int x1), some (.int x2), some (.int x3), x4], [], (zS0, R, I, J)) r) (k2 : ¬ (¬ s0 = 0) → zEv X d zm_31 (53, [some (.ref 184), some (.int x1), some (.int x2), some (.int x3), x4], [], (zS0, R, I, J)) r) : zEv X d zm_31 (50, [some (.ref 184), some (.int x1), some (.int x2), some (.int x3), x4], [.int s0], (zS0, R, I, J)) r := by
  refine zEv_k 1 (f' := (if ¬ s0 = 0 then 56 else 53, [some (.ref 184), some (.int x1), some (.int x2), some (.int x3), x4], [], (zS0, R, I, J))) rfl ?_
  exact zEv_if k1 k2
theorem b_31_53 {X : zX} {d : Nat} {R : zR} {I : zI} {J : zJ} {r : zA} {x1 : Int32} {x2 : Int32} {x3 : Int32} {x4 : Option Value} (k1 : zEv X d zm_31 (142, [some (.ref 184), some (.int x1), some (.int x2), some (.int x3), x4], [], (zS0, R, I, J)) r) : zEv X d zm_31 (53, [some (.ref 184), some (.int x1), some (.int x2), some (.int x3), x4], [], (zS0, R, I, J)) r := by
  refine zEv_k 1 (f' := (142, [some (.ref 184), some (.int x1), some (.int x2), some (.int x3), x4], [], (zS0, R, I, J))) rfl ?_
  exact k1
theorem b_31_56 {X : zX} {d : Nat} {R : zR} {I : zI} {J : zJ} {r : zA} {x1 : Int32} {x2 : Int32} {x3 : Int32} {x4 : Option Value} {R' : zR} {I' : zI} {J' : zJ} (hR : zRok R) (h74 : zin x1 7) (h85 : zin x3 7) (hc : zEv X d zm_98 (0, [some (.ref 186), some (.int x1), some (.int (I 190 (x3).toNatClampNeg)), none], [], (zS0, R, zu (zu I 184 5 ((I 184 5) ||| ((1 : Int32) <<< (x3 &&& 31)))) 191 (x1).toNatClampNeg x3, J)) (none, (zS0, R', I', J'))) (k1 : zEv X (d + 1) zm_31 (89, [some (.ref 184), some (.int x1), some (.int x2), some (.int x3), x4], [], (zS0, R', I', J')) r) : zEv X (d + 1) zm_31 (56, [some (.ref 184), some (.int x1), some (.int x2), some (.int x3), x4], [], (zS0, R, I, J)) r := by
  refine zEv_k 9 (f' := (69, [some (.ref 184), some (.int x1), some (.int x2), some (.int x3), x4], [.ref 184], (zS0, R, zu I 184 5 ((I 184 5) ||| ((1 : Int32) <<< (x3 &&& 31))), J))) rfl ?_
  refine zEv_gr rfl rfl rfl (by decide) (hR (184) 4 (191) rfl) ?_
  refine zEv_k 2 (f' := (74, [some (.ref 184), some (.int x1), some (.int x2), some (.int x3), x4], [.int x3, .int x1, .ref 191], (zS0, R, zu I 184 5 ((I 184 5) ||| ((1 : Int32) <<< (x3 &&& 31))), J))) rfl ?_
  refine zEv_ias rfl rfl (by decide) h74 ?_
  refine zEv_k 1 (f' := (76, [some (.ref 184), some (.int x1), some (.int x2), some (.int x3), x4], [.ref 184], (zS0, R, zu (zu I 184 5 ((I 184 5) ||| ((1 : Int32) <<< (x3 &&& 31)))) 191 (x1).toNatClampNeg x3, J))) rfl ?_
  refine zEv_gr rfl rfl rfl (by decide) (hR (184) 2 (186) rfl) ?_
  refine zEv_k 2 (f' := (81, [some (.ref 184), some (.int x1), some (.int x2), some (.int x3), x4], [.ref 184, .int x1, .ref 186], (zS0, R, zu (zu I 184 5 ((I 184 5) ||| ((1 : Int32) <<< (x3 &&& 31)))) 191 (x1).toNatClampNeg x3, J))) rfl ?_
  refine zEv_gr rfl rfl rfl (by decide) (hR (184) 3 (190) rfl) ?_
  refine zEv_k 1 (f' := (85, [some (.ref 184), some (.int x1), some (.int x2), some (.int x3), x4], [.int x3, .ref 190, .int x1, .ref 186], (zS0, R, zu (zu I 184 5 ((I 184 5) ||| ((1 : Int32) <<< (x3 &&& 31)))) 191 (x1).toNatClampNeg x3, J))) rfl ?_
  refine zEv_ial rfl rfl (by decide) h85 ?_
  exact zEv_c (fun _ => rfl) rfl hc rfl rfl k1
theorem b_31_89 {X : zX} {d : Nat} {R : zR} {I : zI} {J : zJ} {r : zA} {x1 : Int32} {x2 : Int32} {x3 : Int32} {x4 : Option Value} {w : Int32} {R' : zR} {I' : zI} {J' : zJ} (hR : zRok R) (hc : zEv X d zm_101 (0, [some (.ref 186), some (.int (I 184 0)), none, none], [], (zS0, R, I, J)) (some (.int w), (zS0, R', I', J'))) (k1 : zEv X (d + 1) zm_31 (100, [some (.ref 184), some (.int x1), some (.int x2), some (.int x3), x4], [.int w], (zS0, R', I', J')) r) : zEv X (d + 1) zm_31 (89, [some (.ref 184), some (.int x1), some (.int x2), some (.int x3), x4], [], (zS0, R, I, J)) r := by
  refine zEv_k 1 (f' := (90, [some (.ref 184), some (.int x1), some (.int x2), some (.int x3), x4], [.ref 184], (zS0, R, I, J))) rfl ?_
  refine zEv_gr rfl rfl rfl (by decide) (hR (184) 2 (186) rfl) ?_
  refine zEv_k 2 (f' := (97, [some (.ref 184), some (.int x1), some (.int x2), some (.int x3), x4], [.int (I 184 0), .ref 186], (zS0, R, I, J))) rfl ?_
  exact zEv_c (fun _ => rfl) rfl hc rfl rfl k1
theorem b_31_100 {X : zX} {d : Nat} {R : zR} {I : zI} {J : zJ} {r : zA} {x1 : Int32} {x2 : Int32} {x3 : Int32} {x4 : Option Value} {s0 : Int32} (k1 : (I 184 0) ≤ s0 → zEv X d zm_31 (120, [some (.ref 184), some (.int x1), some (.int x2), some (.int x3), some (.int s0)], [], (zS0, R, I, J)) r) (k2 : ¬ ((I 184 0) ≤ s0) → zEv X d zm_31 (111, [some (.ref 184), some (.int x1), some (.int x2), some (.int x3), some (.int s0)], [], (zS0, R, I, J)) r) : zEv X d zm_31 (100, [some (.ref 184), some (.int x1), some (.int x2), some (.int x3), x4], [.int s0], (zS0, R, I, J)) r := by
  refine zEv_k 5 (f' := (if (I 184 0) ≤ s0 then 120 else 111, [some (.ref 184), some (.int x1), some (.int x2), some (.int x3), some (.int s0)], [], (zS0, R, I, J))) rfl ?_
  exact zEv_if k1 k2
theorem b_31_111 {X : zX} {d : Nat} {R : zR} {I : zI} {J : zJ} {r : zA} {x1 : Int32} {x2 : Int32} {x3 : Int32} {x4 : Int32} {R' : zR} {I' : zI} {J' : zJ} (hc : zEv X d zm_31 (0, [some (.ref 184), some (.int (x1 + 1)), some (.int x4), none, none], [], (zS0, R, I, J)) (none, (zS0, R', I', J'))) (k1 : zEv X (d + 1) zm_31 (120, [some (.ref 184), some (.int x1), some (.int x2), some (.int x3), some (.int x4)], [], (zS0, R', I', J')) r) : zEv X (d + 1) zm_31 (111, [some (.ref 184), some (.int x1), some (.int x2), some (.int x3), some (.int x4)], [], (zS0, R, I, J)) r := by
  refine zEv_k 5 (f' := (117, [some (.ref 184), some (.int x1), some (.int x2), some (.int x3), some (.int x4)], [.int x4, .int (x1 + 1), .ref 184], (zS0, R, I, J))) rfl ?_
  exact zEv_c (fun _ => rfl) rfl hc rfl rfl k1
theorem b_31_120 {X : zX} {d : Nat} {R : zR} {I : zI} {J : zJ} {r : zA} {x1 : Int32} {x2 : Int32} {x3 : Int32} {x4 : Int32} {R' : zR} {I' : zI} {J' : zJ} (hR : zRok R) (hc : zEv X d zm_99 (0, [some (.ref 186), some (.int x1), none], [], (zS0, R, I, J)) (none, (zS0, R', I', J'))) (k1 : zEv X (d + 1) zm_31 (128, [some (.ref 184), some (.int x1), some (.int x2), some (.int x3), some (.int x4)], [], (zS0, R', I', J')) r) : zEv X (d + 1) zm_31 (120, [some (.ref 184), some (.int x1), some (.int x2), some (.int x3), some (.int x4)], [], (zS0, R, I, J)) r := by
  refine zEv_k 1 (f' := (121, [some (.ref 184), some (.int x1), some (.int x2), some (.int x3), some (.int x4)], [.ref 184], (zS0, R, I, J))) rfl ?_
  refine zEv_gr rfl rfl rfl (by decide) (hR (184) 2 (186) rfl) ?_
  refine zEv_k 1 (f' := (125, [some (.ref 184), some (.int x1), some (.int x2), some (.int x3), some (.int x4)], [.int x1, .ref 186], (zS0, R, I, J))) rfl ?_
  exact zEv_c (fun _ => rfl) rfl hc rfl rfl k1
theorem b_31_128 {X : zX} {d : Nat} {R : zR} {I : zI} {J : zJ} {r : zA} {x1 : Int32} {x2 : Int32} {x3 : Int32} {x4 : Int32} (k1 : zEv X d zm_31 (142, [some (.ref 184), some (.int x1), some (.int x2), some (.int x3), some (.int x4)], [], (zS0, R, zu I 184 5 ((I 184 5) &&& (((1 : Int32) <<< (x3 &&& 31)) ^^^ (-1))), J)) r) : zEv X d zm_31 (128, [some (.ref 184), some (.int x1), some (.int x2), some (.int x3), some (.int x4)], [], (zS0, R, I, J)) r := by
  refine zEv_k 9 (f' := (139, [some (.ref 184), some (.int x1), some (.int x2), some (.int x3), some (.int x4)], [.int ((I 184 5) &&& (((1 : Int32) <<< (x3 &&& 31)) ^^^ (-1))), .ref 184], (zS0, R, I, J))) rfl ?_
  refine zEv_k 1 (f' := (142, [some (.ref 184), some (.int x1), some (.int x2), some (.int x3), some (.int x4)], [], (zS0, R, zu I 184 5 ((I 184 5) &&& (((1 : Int32) <<< (x3 &&& 31)) ^^^ (-1))), J))) rfl ?_
  exact k1
theorem b_31_142 {X : zX} {d : Nat} {R : zR} {I : zI} {J : zJ} {r : zA} {x1 : Int32} {x2 : Int32} {x3 : Int32} {x4 : Option Value} (k1 : zEv X d zm_31 (23, [some (.ref 184), some (.int x1), some (.int x2), some (.int (x3 + 1)), x4], [], (zS0, R, I, J)) r) : zEv X d zm_31 (142, [some (.ref 184), some (.int x1), some (.int x2), some (.int x3), x4], [], (zS0, R, I, J)) r := by
  refine zEv_k 2 (f' := (23, [some (.ref 184), some (.int x1), some (.int x2), some (.int (x3 + 1)), x4], [], (zS0, R, I, J))) rfl ?_
  exact k1
theorem b_31_148 {X : zX} {d : Nat} {R : zR} {I : zI} {J : zJ} {x1 : Int32} {x2 : Int32} {x3 : Int32} {x4 : Option Value} : zEv X d zm_31 (148, [some (.ref 184), some (.int x1), some (.int x2), some (.int x3), x4], [], (zS0, R, I, J)) (none, (zS0, R, I, J)) := by
  exact zEv_r rfl
theorem b_32_0 {X : zX} {d : Nat} {R : zR} {I : zI} {J : zJ} {r : zA} {x1 : Int32} (k1 : zEv X d zm_32 (7, [some (.ref 184), some (.int x1), some (.int 0)], [], (zS0, R, zu I 184 0 x1, J)) r) : zEv X d zm_32 (0, [some (.ref 184), some (.int x1), none], [], (zS0, R, I, J)) r := by
  refine zEv_k 5 (f' := (7, [some (.ref 184), some (.int x1), some (.int 0)], [], (zS0, R, zu I 184 0 x1, J))) rfl ?_
  exact k1
theorem b_32_7 {X : zX} {d : Nat} {R : zR} {I : zI} {J : zJ} {r : zA} {x1 : Int32} {x2 : Int32} (hR : zRok R) (k1 : (I 186 0) ≤ x2 → zEv X d zm_32 (41, [some (.ref 184), some (.int x1), some (.int x2)], [], (zS0, R, I, J)) r) (k2 : ¬ ((I 186 0) ≤ x2) → zEv X d zm_32 (18, [some (.ref 184), some (.int x1), some (.int x2)], [], (zS0, R, I, J)) r) : zEv X d zm_32 (7, [some (.ref 184), some (.int x1), some (.int x2)], [], (zS0, R, I, J)) r := by
  refine zEv_k 2 (f' := (9, [some (.ref 184), some (.int x1), some (.int x2)], [.ref 184, .int x2], (zS0, R, I, J))) rfl ?_
  refine zEv_gr rfl rfl rfl (by decide) (hR (184) 2 (186) rfl) ?_
  refine zEv_k 2 (f' := (if (I 186 0) ≤ x2 then 41 else 18, [some (.ref 184), some (.int x1), some (.int x2)], [], (zS0, R, I, J))) rfl ?_
  exact zEv_if k1 k2
theorem b_32_18 {X : zX} {d : Nat} {R : zR} {I : zI} {J : zJ} {r : zA} {x1 : Int32} {x2 : Int32} (hR : zRok R) (h32 : zin x2 7) (h33 : zin (I 191 (x2).toNatClampNeg) 7) (h34 : zin x2 7) (k1 : zEv X d zm_32 (7, [some (.ref 184), some (.int x1), some (.int (x2 + 1))], [], (zS0, R, zu I 185 (x2).toNatClampNeg (I 190 (I 191 (x2).toNatClampNeg).toNatClampNeg), J)) r) : zEv X d zm_32 (18, [some (.ref 184), some (.int x1), some (.int x2)], [], (zS0, R, I, J)) r := by
  refine zEv_k 1 (f' := (19, [some (.ref 184), some (.int x1), some (.int x2)], [.ref 184], (zS0, R, I, J))) rfl ?_
  refine zEv_gr rfl rfl rfl (by decide) (hR (184) 1 (185) rfl) ?_
  refine zEv_k 2 (f' := (24, [some (.ref 184), some (.int x1), some (.int x2)], [.ref 184, .int x2, .ref 185], (zS0, R, I, J))) rfl ?_
  refine zEv_gr rfl rfl rfl (by decide) (hR (184) 3 (190) rfl) ?_
  refine zEv_k 1 (f' := (28, [some (.ref 184), some (.int x1), some (.int x2)], [.ref 184, .ref 190, .int x2, .ref 185], (zS0, R, I, J))) rfl ?_
  refine zEv_gr rfl rfl rfl (by decide) (hR (184) 4 (191) rfl) ?_
  refine zEv_k 1 (f' := (32, [some (.ref 184), some (.int x1), some (.int x2)], [.int x2, .ref 191, .ref 190, .int x2, .ref 185], (zS0, R, I, J))) rfl ?_
  refine zEv_ial rfl rfl (by decide) h32 ?_
  refine zEv_ial rfl rfl (by decide) h33 ?_
  refine zEv_ias rfl rfl (by decide) h34 ?_
  refine zEv_k 2 (f' := (7, [some (.ref 184), some (.int x1), some (.int (x2 + 1))], [], (zS0, R, zu I 185 (x2).toNatClampNeg (I 190 (I 191 (x2).toNatClampNeg).toNatClampNeg), J))) rfl ?_
  exact k1
theorem b_32_41 {X : zX} {d : Nat} {R : zR} {I : zI} {J : zJ} {x1 : Int32} {x2 : Int32} : zEv X d zm_32 (41, [some (.ref 184), some (.int x1), some (.int x2)], [], (zS0, R, I, J)) (none, (zS0, R, I, J)) := by
  exact zEv_r rfl
theorem b_33_0 {X : zX} {d : Nat} {R : zR} {I : zI} {J : zJ} {r : zA} {x1 : Int32} (k1 : zEv X d zm_33 (4, [some (.ref 184), some (.int x1), some (.int (x1 - 1))], [], (zS0, R, I, J)) r) : zEv X d zm_33 (0, [some (.ref 184), some (.int x1), none], [], (zS0, R, I, J)) r := by
  refine zEv_k 4 (f' := (4, [some (.ref 184), some (.int x1), some (.int (x1 - 1))], [], (zS0, R, I, J))) rfl ?_
  exact k1
theorem b_33_4 {X : zX} {d : Nat} {R : zR} {I : zI} {J : zJ} {r : zA} {x1 : Int32} {x2 : Int32} (k1 : x2 < 0 → zEv X d zm_33 (44, [some (.ref 184), some (.int x1), some (.int x2)], [], (zS0, R, I, J)) r) (k2 : ¬ (x2 < 0) → zEv X d zm_33 (8, [some (.ref 184), some (.int x1), some (.int x2)], [], (zS0, R, I, J)) r) : zEv X d zm_33 (4, [some (.ref 184), some (.int x1), some (.int x2)], [], (zS0, R, I, J)) r := by
  refine zEv_k 2 (f' := (if x2 < 0 then 44 else 8, [some (.ref 184), some (.int x1), some (.int x2)], [], (zS0, R, I, J))) rfl ?_
  exact zEv_if k1 k2
theorem b_33_8 {X : zX} {d : Nat} {R : zR} {I : zI} {J : zJ} {r : zA} {x1 : Int32} {x2 : Int32} (hR : zRok R) (h16 : zin x2 7) (h25 : zin x1 7) (k1 : ¬ (I 187 (x2).toNatClampNeg) = (I 187 (x1).toNatClampNeg) → zEv X d zm_33 (38, [some (.ref 184), some (.int x1), some (.int x2)], [], (zS0, R, I, J)) r) (k2 : ¬ (¬ (I 187 (x2).toNatClampNeg) = (I 187 (x1).toNatClampNeg)) → zEv X d zm_33 (29, [some (.ref 184), some (.int x1), some (.int x2)], [], (zS0, R, I, J)) r) : zEv X d zm_33 (8, [some (.ref 184), some (.int x1), some (.int x2)], [], (zS0, R, I, J)) r := by
  refine zEv_k 1 (f' := (9, [some (.ref 184), some (.int x1), some (.int x2)], [.ref 184], (zS0, R, I, J))) rfl ?_
  refine zEv_gr rfl rfl rfl (by decide) (hR (184) 2 (186) rfl) ?_
  refine zEv_gr rfl rfl rfl (by decide) (hR (186) 1 (187) rfl) ?_
  refine zEv_k 1 (f' := (16, [some (.ref 184), some (.int x1), some (.int x2)], [.int x2, .ref 187], (zS0, R, I, J))) rfl ?_
  refine zEv_ial rfl rfl (by decide) h16 ?_
  refine zEv_k 1 (f' := (18, [some (.ref 184), some (.int x1), some (.int x2)], [.ref 184, .int (I 187 (x2).toNatClampNeg)], (zS0, R, I, J))) rfl ?_
  refine zEv_gr rfl rfl rfl (by decide) (hR (184) 2 (186) rfl) ?_
  refine zEv_gr rfl rfl rfl (by decide) (hR (186) 1 (187) rfl) ?_
  refine zEv_k 1 (f' := (25, [some (.ref 184), some (.int x1), some (.int x2)], [.int x1, .ref 187, .int (I 187 (x2).toNatClampNeg)], (zS0, R, I, J))) rfl ?_
  refine zEv_ial rfl rfl (by decide) h25 ?_
  refine zEv_k 1 (f' := (if ¬ (I 187 (x2).toNatClampNeg) = (I 187 (x1).toNatClampNeg) then 38 else 29, [some (.ref 184), some (.int x1), some (.int x2)], [], (zS0, R, I, J))) rfl ?_
  exact zEv_if k1 k2
theorem b_33_29 {X : zX} {d : Nat} {R : zR} {I : zI} {J : zJ} {x1 : Int32} {x2 : Int32} (hR : zRok R) (h34 : zin x2 7) : zEv X d zm_33 (29, [some (.ref 184), some (.int x1), some (.int x2)], [], (zS0, R, I, J)) (some (.int ((I 191 (x2).toNatClampNeg) + 1)), (zS0, R, I, J)) := by
  refine zEv_k 1 (f' := (30, [some (.ref 184), some (.int x1), some (.int x2)], [.ref 184], (zS0, R, I, J))) rfl ?_
  refine zEv_gr rfl rfl rfl (by decide) (hR (184) 4 (191) rfl) ?_
  refine zEv_k 1 (f' := (34, [some (.ref 184), some (.int x1), some (.int x2)], [.int x2, .ref 191], (zS0, R, I, J))) rfl ?_
  refine zEv_ial rfl rfl (by decide) h34 ?_
  refine zEv_k 2 (f' := (37, [some (.ref 184), some (.int x1), some (.int x2)], [.int ((I 191 (x2).toNatClampNeg) + 1)], (zS0, R, I, J))) rfl ?_
  exact zEv_r rfl
theorem b_33_38 {X : zX} {d : Nat} {R : zR} {I : zI} {J : zJ} {r : zA} {x1 : Int32} {x2 : Int32} (k1 : zEv X d zm_33 (4, [some (.ref 184), some (.int x1), some (.int (x2 + (-1)))], [], (zS0, R, I, J)) r) : zEv X d zm_33 (38, [some (.ref 184), some (.int x1), some (.int x2)], [], (zS0, R, I, J)) r := by
  refine zEv_k 2 (f' := (4, [some (.ref 184), some (.int x1), some (.int (x2 + (-1)))], [], (zS0, R, I, J))) rfl ?_
  exact k1
theorem b_33_44 {X : zX} {d : Nat} {R : zR} {I : zI} {J : zJ} {x1 : Int32} {x2 : Int32} : zEv X d zm_33 (44, [some (.ref 184), some (.int x1), some (.int x2)], [], (zS0, R, I, J)) (some (.int 0), (zS0, R, I, J)) := by
  refine zEv_k 1 (f' := (45, [some (.ref 184), some (.int x1), some (.int x2)], [.int 0], (zS0, R, I, J))) rfl ?_
  exact zEv_r rfl
theorem b_34_0 {X : zX} {d : Nat} {R : zR} {I : zI} {J : zJ} {r : zA} {x1 : Int32} (k1 : x1 ≤ 0 → zEv X d zm_34 (38, [some (.ref 184), some (.int x1), none], [], (zS0, R, I, J)) r) (k2 : ¬ (x1 ≤ 0) → zEv X d zm_34 (4, [some (.ref 184), some (.int x1), none], [], (zS0, R, I, J)) r) : zEv X d zm_34 (0, [some (.ref 184), some (.int x1), none], [], (zS0, R, I, J)) r := by
  refine zEv_k 2 (f' := (if x1 ≤ 0 then 38 else 4, [some (.ref 184), some (.int x1), none], [], (zS0, R, I, J))) rfl ?_
  exact zEv_if k1 k2
theorem b_34_4 {X : zX} {d : Nat} {R : zR} {I : zI} {J : zJ} {r : zA} {x1 : Int32} (hR : zRok R) (h11 : zin (x1 - 1) 7) (h17 : zin x1 7) (k1 : ¬ (I 190 (x1 - 1).toNatClampNeg) = (I 190 (x1).toNatClampNeg) → zEv X d zm_34 (38, [some (.ref 184), some (.int x1), none], [], (zS0, R, I, J)) r) (k2 : ¬ (¬ (I 190 (x1 - 1).toNatClampNeg) = (I 190 (x1).toNatClampNeg)) → zEv X d zm_34 (21, [some (.ref 184), some (.int x1), none], [], (zS0, R, I, J)) r) : zEv X d zm_34 (4, [some (.ref 184), some (.int x1), none], [], (zS0, R, I, J)) r := by
  refine zEv_k 1 (f' := (5, [some (.ref 184), some (.int x1), none], [.ref 184], (zS0, R, I, J))) rfl ?_
  refine zEv_gr rfl rfl rfl (by decide) (hR (184) 3 (190) rfl) ?_
  refine zEv_k 3 (f' := (11, [some (.ref 184), some (.int x1), none], [.int (x1 - 1), .ref 190], (zS0, R, I, J))) rfl ?_
  refine zEv_ial rfl rfl (by decide) h11 ?_
  refine zEv_k 1 (f' := (13, [some (.ref 184), some (.int x1), none], [.ref 184, .int (I 190 (x1 - 1).toNatClampNeg)], (zS0, R, I, J))) rfl ?_
  refine zEv_gr rfl rfl rfl (by decide) (hR (184) 3 (190) rfl) ?_
  refine zEv_k 1 (f' := (17, [some (.ref 184), some (.int x1), none], [.int x1, .ref 190, .int (I 190 (x1 - 1).toNatClampNeg)], (zS0, R, I, J))) rfl ?_
  refine zEv_ial rfl rfl (by decide) h17 ?_
  refine zEv_k 1 (f' := (if ¬ (I 190 (x1 - 1).toNatClampNeg) = (I 190 (x1).toNatClampNeg) then 38 else 21, [some (.ref 184), some (.int x1), none], [], (zS0, R, I, J))) rfl ?_
  exact zEv_if k1 k2
theorem b_34_21 {X : zX} {d : Nat} {R : zR} {I : zI} {J : zJ} {r : zA} {x1 : Int32} (k1 : ¬ (zf_cin (I 184 5) (x1 - 1)) = 0 → zEv X (d + 1) zm_34 (38, [some (.ref 184), some (.int x1), none], [], (zS0, R, I, J)) r) (k2 : ¬ (¬ (zf_cin (I 184 5) (x1 - 1)) = 0) → zEv X (d + 1) zm_34 (34, [some (.ref 184), some (.int x1), none], [], (zS0, R, I, J)) r) : zEv X (d + 1) zm_34 (21, [some (.ref 184), some (.int x1), none], [], (zS0, R, I, J)) r := by
  refine zEv_k 5 (f' := (28, [some (.ref 184), some (.int x1), none], [.int (x1 - 1), .int (I 184 5)], (zS0, R, I, J))) rfl ?_
  refine zEv_c (fun _ => rfl) rfl ev_zf_cin rfl rfl ?_
  refine zEv_k 1 (f' := (if ¬ (zf_cin (I 184 5) (x1 - 1)) = 0 then 38 else 34, [some (.ref 184), some (.int x1), none], [], (zS0, R, I, J))) rfl ?_
  exact zEv_if k1 k2
theorem b_34_34 {X : zX} {d : Nat} {R : zR} {I : zI} {J : zJ} {r : zA} {x1 : Int32} (k1 : zEv X d zm_34 (39, [some (.ref 184), some (.int x1), none], [.int 1], (zS0, R, I, J)) r) : zEv X d zm_34 (34, [some (.ref 184), some (.int x1), none], [], (zS0, R, I, J)) r := by
  refine zEv_k 2 (f' := (39, [some (.ref 184), some (.int x1), none], [.int 1], (zS0, R, I, J))) rfl ?_
  exact k1
theorem b_34_38 {X : zX} {d : Nat} {R : zR} {I : zI} {J : zJ} {r : zA} {x1 : Int32} (k1 : zEv X d zm_34 (39, [some (.ref 184), some (.int x1), none], [.int 0], (zS0, R, I, J)) r) : zEv X d zm_34 (38, [some (.ref 184), some (.int x1), none], [], (zS0, R, I, J)) r := by
  refine zEv_k 1 (f' := (39, [some (.ref 184), some (.int x1), none], [.int 0], (zS0, R, I, J))) rfl ?_
  exact k1
theorem b_34_39 {X : zX} {d : Nat} {R : zR} {I : zI} {J : zJ} {r : zA} {x1 : Int32} {s0 : Int32} (k1 : ¬ (zf_cin (I 184 5) x1) = 0 → zEv X (d + 1) zm_34 (59, [some (.ref 184), some (.int x1), some (.int s0)], [], (zS0, R, I, J)) r) (k2 : ¬ (¬ (zf_cin (I 184 5) x1) = 0) → zEv X (d + 1) zm_34 (51, [some (.ref 184), some (.int x1), some (.int s0)], [], (zS0, R, I, J)) r) : zEv X (d + 1) zm_34 (39, [some (.ref 184), some (.int x1), none], [.int s0], (zS0, R, I, J)) r := by
  refine zEv_k 4 (f' := (45, [some (.ref 184), some (.int x1), some (.int s0)], [.int x1, .int (I 184 5)], (zS0, R, I, J))) rfl ?_
  refine zEv_c (fun _ => rfl) rfl ev_zf_cin rfl rfl ?_
  refine zEv_k 1 (f' := (if ¬ (zf_cin (I 184 5) x1) = 0 then 59 else 51, [some (.ref 184), some (.int x1), some (.int s0)], [], (zS0, R, I, J))) rfl ?_
  exact zEv_if k1 k2
theorem b_34_51 {X : zX} {d : Nat} {R : zR} {I : zI} {J : zJ} {r : zA} {x1 : Int32} {x2 : Int32} (k1 : ¬ x2 = 0 → zEv X d zm_34 (59, [some (.ref 184), some (.int x1), some (.int x2)], [], (zS0, R, I, J)) r) (k2 : ¬ (¬ x2 = 0) → zEv X d zm_34 (55, [some (.ref 184), some (.int x1), some (.int x2)], [], (zS0, R, I, J)) r) : zEv X d zm_34 (51, [some (.ref 184), some (.int x1), some (.int x2)], [], (zS0, R, I, J)) r := by
  refine zEv_k 2 (f' := (if ¬ x2 = 0 then 59 else 55, [some (.ref 184), some (.int x1), some (.int x2)], [], (zS0, R, I, J))) rfl ?_
  exact zEv_if k1 k2
theorem b_34_55 {X : zX} {d : Nat} {R : zR} {I : zI} {J : zJ} {x1 : Int32} {x2 : Int32} : zEv X d zm_34 (55, [some (.ref 184), some (.int x1), some (.int x2)], [], (zS0, R, I, J)) (some (.int 1), (zS0, R, I, J)) := by
  refine zEv_k 2 (f' := (60, [some (.ref 184), some (.int x1), some (.int x2)], [.int 1], (zS0, R, I, J))) rfl ?_
  exact zEv_r rfl
theorem b_34_59 {X : zX} {d : Nat} {R : zR} {I : zI} {J : zJ} {x1 : Int32} {x2 : Int32} : zEv X d zm_34 (59, [some (.ref 184), some (.int x1), some (.int x2)], [], (zS0, R, I, J)) (some (.int 0), (zS0, R, I, J)) := by
  refine zEv_k 1 (f' := (60, [some (.ref 184), some (.int x1), some (.int x2)], [.int 0], (zS0, R, I, J))) rfl ?_
  exact zEv_r rfl
