theorem b_233_37 {X : zX} {d : Nat} {R : zR} {I : zI} {J : zJ} {r : zA} {x1 : Int32} {x2 : Int32} {x3 : Int32} {x4 : Option Value} {s0 : Int32} (k1 : x3 ≤ 0 → zEv X d zm_233 (51, [some (.ref 215), some (.int x1), some (.int x2), some (.int x3), some (.int s0)], [], (zS0, R, I, J)) r) (k2 : ¬ (x3 ≤ 0) → zEv X d zm_233 (43, [some (.ref 215), some (.int x1), some (.int x2), some (.int x3), some (.int s0)], [], (zS0, R, I, J)) r) : zEv X d zm_233 (37, [some (.ref 215), some (.int x1), some (.int x2), some (.int x3), x4], [.int s0], (zS0, R, I, J)) r := by
  refine zEv_k 3 (f' := (if x3 ≤ 0 then 51 else 43, [some (.ref 215), some (.int x1), some (.int x2), some (.int x3), some (.int s0)], [], (zS0, R, I, J))) rfl ?_
  exact zEv_if k1 k2
theorem b_233_43 {X : zX} {d : Nat} {R : zR} {I : zI} {J : zJ} {r : zA} {x1 : Int32} {x2 : Int32} {x3 : Int32} {x4 : Int32} (k1 : x4 = x2 → zEv X d zm_233 (51, [some (.ref 215), some (.int x1), some (.int x2), some (.int x3), some (.int x4)], [], (zS0, R, I, J)) r) (k2 : ¬ (x4 = x2) → zEv X d zm_233 (49, [some (.ref 215), some (.int x1), some (.int x2), some (.int x3), some (.int x4)], [], (zS0, R, I, J)) r) : zEv X d zm_233 (43, [some (.ref 215), some (.int x1), some (.int x2), some (.int x3), some (.int x4)], [], (zS0, R, I, J)) r := by
  refine zEv_k 3 (f' := (if x4 = x2 then 51 else 49, [some (.ref 215), some (.int x1), some (.int x2), some (.int x3), some (.int x4)], [], (zS0, R, I, J))) rfl ?_
  exact zEv_if k1 k2
theorem b_233_49 {X : zX} {d : Nat} {R : zR} {I : zI} {J : zJ} {x1 : Int32} {x2 : Int32} {x3 : Int32} {x4 : Int32} : zEv X d zm_233 (49, [some (.ref 215), some (.int x1), some (.int x2), some (.int x3), some (.int x4)], [], (zS0, R, I, J)) (some (.int (-1)), (zS0, R, I, J)) := by
  refine zEv_k 1 (f' := (50, [some (.ref 215), some (.int x1), some (.int x2), some (.int x3), some (.int x4)], [.int (-1)], (zS0, R, I, J))) rfl ?_
  exact zEv_r rfl
theorem b_233_51 {X : zX} {d : Nat} {R : zR} {I : zI} {J : zJ} {r : zA} {x1 : Int32} {x2 : Int32} {x3 : Int32} {x4 : Int32} (k1 : zEv X d zm_233 (4, [some (.ref 215), some (.int x1), some (.int x4), some (.int (x3 + 1)), some (.int x4)], [], (zS0, R, I, J)) r) : zEv X d zm_233 (51, [some (.ref 215), some (.int x1), some (.int x2), some (.int x3), some (.int x4)], [], (zS0, R, I, J)) r := by
  refine zEv_k 4 (f' := (4, [some (.ref 215), some (.int x1), some (.int x4), some (.int (x3 + 1)), some (.int x4)], [], (zS0, R, I, J))) rfl ?_
  exact k1
theorem b_233_60 {X : zX} {d : Nat} {R : zR} {I : zI} {J : zJ} {x1 : Int32} {x2 : Int32} {x3 : Int32} {x4 : Option Value} : zEv X d zm_233 (60, [some (.ref 215), some (.int x1), some (.int x2), some (.int x3), x4], [], (zS0, R, I, J)) (some (.int x2), (zS0, R, I, J)) := by
  refine zEv_k 1 (f' := (61, [some (.ref 215), some (.int x1), some (.int x2), some (.int x3), x4], [.int x2], (zS0, R, I, J))) rfl ?_
  exact zEv_r rfl
theorem b_234_0 {X : zX} {d : Nat} {R : zR} {I : zI} {J : zJ} {r : zA} {x1 : Int32} (k1 : zEv X d zm_234 (4, [some (.ref 215), some (.int x1), some (.int 0), some (.int 0), none, none], [], (zS0, R, I, J)) r) : zEv X d zm_234 (0, [some (.ref 215), some (.int x1), none, none, none, none], [], (zS0, R, I, J)) r := by
  refine zEv_k 4 (f' := (4, [some (.ref 215), some (.int x1), some (.int 0), some (.int 0), none, none], [], (zS0, R, I, J))) rfl ?_
  exact k1
theorem b_234_4 {X : zX} {d : Nat} {R : zR} {I : zI} {J : zJ} {r : zA} {x1 : Int32} {x2 : Int32} {x3 : Int32} {x4 : Option Value} {x5 : Option Value} (k1 : 7 < x3 → zEv X d zm_234 (70, [some (.ref 215), some (.int x1), some (.int x2), some (.int x3), x4, x5], [], (zS0, R, I, J)) r) (k2 : ¬ (7 < x3) → zEv X d zm_234 (10, [some (.ref 215), some (.int x1), some (.int x2), some (.int x3), x4, x5], [], (zS0, R, I, J)) r) : zEv X d zm_234 (4, [some (.ref 215), some (.int x1), some (.int x2), some (.int x3), x4, x5], [], (zS0, R, I, J)) r := by
  refine zEv_k 3 (f' := (if 7 < x3 then 70 else 10, [some (.ref 215), some (.int x1), some (.int x2), some (.int x3), x4, x5], [], (zS0, R, I, J))) rfl ?_
  exact zEv_if k1 k2
theorem b_234_10 {X : zX} {d : Nat} {R : zR} {I : zI} {J : zJ} {r : zA} {x1 : Int32} {x2 : Int32} {x3 : Int32} {x4 : Option Value} {x5 : Option Value} (k1 : zEv X d zm_234 (16, [some (.ref 215), some (.int x1), some (.int x2), some (.int x3), some (.int 0), some (.int 0)], [], (zS0, R, I, J)) r) : zEv X d zm_234 (10, [some (.ref 215), some (.int x1), some (.int x2), some (.int x3), x4, x5], [], (zS0, R, I, J)) r := by
  refine zEv_k 4 (f' := (16, [some (.ref 215), some (.int x1), some (.int x2), some (.int x3), some (.int 0), some (.int 0)], [], (zS0, R, I, J))) rfl ?_
  exact k1
theorem b_234_16 {X : zX} {d : Nat} {R : zR} {I : zI} {J : zJ} {r : zA} {x1 : Int32} {x2 : Int32} {x3 : Int32} {x4 : Int32} {x5 : Int32} (k1 : (I 215 46) ≤ x5 → zEv X d zm_234 (57, [some (.ref 215), some (.int x1), some (.int x2), some (.int x3), some (.int x4), some (.int x5)], [], (zS0, R, I, J)) r) (k2 : ¬ ((I 215 46) ≤ x5) → zEv X d zm_234 (25, [some (.ref 215), some (.int x1), some (.int x2), some (.int x3), some (.int x4), some (.int x5)], [], (zS0, R, I, J)) r) : zEv X d zm_234 (16, [some (.ref 215), some (.int x1), some (.int x2), some (.int x3), some (.int x4), some (.int x5)], [], (zS0, R, I, J)) r := by
  refine zEv_k 4 (f' := (if (I 215 46) ≤ x5 then 57 else 25, [some (.ref 215), some (.int x1), some (.int x2), some (.int x3), some (.int x4), some (.int x5)], [], (zS0, R, I, J))) rfl ?_
  exact zEv_if k1 k2
theorem b_234_25 {X : zX} {d : Nat} {R : zR} {I : zI} {J : zJ} {r : zA} {x1 : Int32} {x2 : Int32} {x3 : Int32} {x4 : Int32} {x5 : Int32} (hR : zRok R) (h38 : zin ((21 * x5) + x1) 2100) (k1 : ¬ (I 235 ((21 * x5) + x1).toNatClampNeg) = x3 → zEv X d zm_234 (47, [some (.ref 215), some (.int x1), some (.int x2), some (.int x3), some (.int x4), some (.int x5)], [.int x4], (zS0, R, I, J)) r) (k2 : ¬ (¬ (I 235 ((21 * x5) + x1).toNatClampNeg) = x3) → zEv X d zm_234 (43, [some (.ref 215), some (.int x1), some (.int x2), some (.int x3), some (.int x4), some (.int x5)], [.int x4], (zS0, R, I, J)) r) : zEv X d zm_234 (25, [some (.ref 215), some (.int x1), some (.int x2), some (.int x3), some (.int x4), some (.int x5)], [], (zS0, R, I, J)) r := by
  refine zEv_k 2 (f' := (28, [some (.ref 215), some (.int x1), some (.int x2), some (.int x3), some (.int x4), some (.int x5)], [.ref 215, .int x4], (zS0, R, I, J))) rfl ?_
  refine zEv_gr rfl rfl rfl (by decide) (hR 215 45 235 rfl) ?_
  refine zEv_k 5 (f' := (38, [some (.ref 215), some (.int x1), some (.int x2), some (.int x3), some (.int x4), some (.int x5)], [.int ((21 * x5) + x1), .ref 235, .int x4], (zS0, R, I, J))) rfl ?_
  refine zEv_ial rfl rfl (by decide) h38 ?_
  refine zEv_k 2 (f' := (if ¬ (I 235 ((21 * x5) + x1).toNatClampNeg) = x3 then 47 else 43, [some (.ref 215), some (.int x1), some (.int x2), some (.int x3), some (.int x4), some (.int x5)], [.int x4], (zS0, R, I, J))) rfl ?_
  exact zEv_if k1 k2
theorem b_234_43 {X : zX} {d : Nat} {R : zR} {I : zI} {J : zJ} {r : zA} {x1 : Int32} {x2 : Int32} {x3 : Int32} {x4 : Int32} {x5 : Int32} {s0 : Int32} (k1 : zEv X d zm_234 (48, [some (.ref 215), some (.int x1), some (.int x2), some (.int x3), some (.int x4), some (.int x5)], [.int 1, .int s0], (zS0, R, I, J)) r) : zEv X d zm_234 (43, [some (.ref 215), some (.int x1), some (.int x2), some (.int x3), some (.int x4), some (.int x5)], [.int s0], (zS0, R, I, J)) r := by
  refine zEv_k 2 (f' := (48, [some (.ref 215), some (.int x1), some (.int x2), some (.int x3), some (.int x4), some (.int x5)], [.int 1, .int s0], (zS0, R, I, J))) rfl ?_
  exact k1
theorem b_234_47 {X : zX} {d : Nat} {R : zR} {I : zI} {J : zJ} {r : zA} {x1 : Int32} {x2 : Int32} {x3 : Int32} {x4 : Int32} {x5 : Int32} {s0 : Int32} (k1 : zEv X d zm_234 (48, [some (.ref 215), some (.int x1), some (.int x2), some (.int x3), some (.int x4), some (.int x5)], [.int 0, .int s0], (zS0, R, I, J)) r) : zEv X d zm_234 (47, [some (.ref 215), some (.int x1), some (.int x2), some (.int x3), some (.int x4), some (.int x5)], [.int s0], (zS0, R, I, J)) r := by
  refine zEv_k 1 (f' := (48, [some (.ref 215), some (.int x1), some (.int x2), some (.int x3), some (.int x4), some (.int x5)], [.int 0, .int s0], (zS0, R, I, J))) rfl ?_
  exact k1
theorem b_234_48 {X : zX} {d : Nat} {R : zR} {I : zI} {J : zJ} {r : zA} {x1 : Int32} {x2 : Int32} {x3 : Int32} {x4 : Int32} {x5 : Int32} {s0 : Int32} {s1 : Int32} (k1 : zEv X d zm_234 (16, [some (.ref 215), some (.int x1), some (.int x2), some (.int x3), some (.int (s0 + s1)), some (.int (x5 + 1))], [], (zS0, R, I, J)) r) : zEv X d zm_234 (48, [some (.ref 215), some (.int x1), some (.int x2), some (.int x3), some (.int x4), some (.int x5)], [.int s1, .int s0], (zS0, R, I, J)) r := by
  refine zEv_k 4 (f' := (16, [some (.ref 215), some (.int x1), some (.int x2), some (.int x3), some (.int (s0 + s1)), some (.int (x5 + 1))], [], (zS0, R, I, J))) rfl ?_
  exact k1
theorem b_234_57 {X : zX} {d : Nat} {R : zR} {I : zI} {J : zJ} {r : zA} {x1 : Int32} {x2 : Int32} {x3 : Int32} {x4 : Int32} {x5 : Int32} (k1 : zEv X (d + 1) zm_234 (4, [some (.ref 215), some (.int x1), some (.int (zf_greater x2 x4)), some (.int (x3 + 1)), some (.int x4), some (.int x5)], [], (zS0, R, I, J)) r) : zEv X (d + 1) zm_234 (57, [some (.ref 215), some (.int x1), some (.int x2), some (.int x3), some (.int x4), some (.int x5)], [], (zS0, R, I, J)) r := by
  refine zEv_k 2 (f' := (60, [some (.ref 215), some (.int x1), some (.int x2), some (.int x3), some (.int x4), some (.int x5)], [.int x4, .int x2], (zS0, R, I, J))) rfl ?_
  refine zEv_c (fun _ => rfl) rfl ev_zf_greater rfl rfl ?_
  refine zEv_k 3 (f' := (4, [some (.ref 215), some (.int x1), some (.int (zf_greater x2 x4)), some (.int (x3 + 1)), some (.int x4), some (.int x5)], [], (zS0, R, I, J))) rfl ?_
  exact k1
theorem b_234_70 {X : zX} {d : Nat} {R : zR} {I : zI} {J : zJ} {x1 : Int32} {x2 : Int32} {x3 : Int32} {x4 : Option Value} {x5 : Option Value} : zEv X d zm_234 (70, [some (.ref 215), some (.int x1), some (.int x2), some (.int x3), x4, x5], [], (zS0, R, I, J)) (some (.int x2), (zS0, R, I, J)) := by
  refine zEv_k 1 (f' := (71, [some (.ref 215), some (.int x1), some (.int x2), some (.int x3), x4, x5], [.int x2], (zS0, R, I, J))) rfl ?_
  exact zEv_r rfl
theorem b_235_0 {X : zX} {d : Nat} {R : zR} {I : zI} {J : zJ} {r : zA} (k1 : zEv X d zm_235 (4, [some (.ref 215), some (.int (-1)), some (.int 1)], [], (zS0, R, I, J)) r) : zEv X d zm_235 (0, [some (.ref 215), none, none], [], (zS0, R, I, J)) r := by
  refine zEv_k 4 (f' := (4, [some (.ref 215), some (.int (-1)), some (.int 1)], [], (zS0, R, I, J))) rfl ?_
  exact k1
theorem b_235_4 {X : zX} {d : Nat} {R : zR} {I : zI} {J : zJ} {r : zA} {x1 : Int32} {x2 : Int32} (k1 : 20 < x2 → zEv X d zm_235 (47, [some (.ref 215), some (.int x1), some (.int x2)], [], (zS0, R, I, J)) r) (k2 : ¬ (20 < x2) → zEv X d zm_235 (10, [some (.ref 215), some (.int x1), some (.int x2)], [], (zS0, R, I, J)) r) : zEv X d zm_235 (4, [some (.ref 215), some (.int x1), some (.int x2)], [], (zS0, R, I, J)) r := by
  refine zEv_k 3 (f' := (if 20 < x2 then 47 else 10, [some (.ref 215), some (.int x1), some (.int x2)], [], (zS0, R, I, J))) rfl ?_
  exact zEv_if k1 k2
theorem b_235_10 {X : zX} {d : Nat} {R : zR} {I : zI} {J : zJ} {r : zA} {x1 : Int32} {x2 : Int32} (k1 : (I 215 46) ≤ 0 → zEv X d zm_235 (47, [some (.ref 215), some (.int x1), some (.int x2)], [], (zS0, R, I, J)) r) (k2 : ¬ ((I 215 46) ≤ 0) → zEv X d zm_235 (17, [some (.ref 215), some (.int x1), some (.int x2)], [], (zS0, R, I, J)) r) : zEv X d zm_235 (10, [some (.ref 215), some (.int x1), some (.int x2)], [], (zS0, R, I, J)) r := by
  refine zEv_k 3 (f' := (if (I 215 46) ≤ 0 then 47 else 17, [some (.ref 215), some (.int x1), some (.int x2)], [], (zS0, R, I, J))) rfl ?_
  exact zEv_if k1 k2
theorem b_235_17 {X : zX} {d : Nat} {R : zR} {I : zI} {J : zJ} {r : zA} {x1 : Int32} {x2 : Int32} (k1 : x1 = (-1) → zEv X d zm_235 (35, [some (.ref 215), some (.int x1), some (.int x2)], [], (zS0, R, I, J)) r) (k2 : ¬ (x1 = (-1)) → zEv X d zm_235 (22, [some (.ref 215), some (.int x1), some (.int x2)], [], (zS0, R, I, J)) r) : zEv X d zm_235 (17, [some (.ref 215), some (.int x1), some (.int x2)], [], (zS0, R, I, J)) r := by
  refine zEv_k 3 (f' := (if x1 = (-1) then 35 else 22, [some (.ref 215), some (.int x1), some (.int x2)], [], (zS0, R, I, J))) rfl ?_
  exact zEv_if k1 k2
theorem b_235_22 {X : zX} {d : Nat} {R : zR} {I : zI} {J : zJ} {r : zA} {x1 : Int32} {x2 : Int32} {w : Int32} {R' : zR} {I' : zI} {J' : zJ} (hc : zEv X d zm_234 (0, [some (.ref 215), some (.int x2), none, none, none, none], [], (zS0, R, I, J)) (some (.int w), (zS0, R', I', J'))) (k1 : zEv X (d + 1) zm_235 (27, [some (.ref 215), some (.int x1), some (.int x2)], [.int w], (zS0, R', I', J')) r) : zEv X (d + 1) zm_235 (22, [some (.ref 215), some (.int x1), some (.int x2)], [], (zS0, R, I, J)) r := by
  refine zEv_k 2 (f' := (24, [some (.ref 215), some (.int x1), some (.int x2)], [.int x2, .ref 215], (zS0, R, I, J))) rfl ?_
  exact zEv_c (fun _ => rfl) rfl hc rfl rfl k1
theorem b_235_27 {X : zX} {d : Nat} {R : zR} {I : zI} {J : zJ} {r : zA} {x1 : Int32} {x2 : Int32} {s0 : Int32} {w : Int32} {R' : zR} {I' : zI} {J' : zJ} (hc : zEv X d zm_234 (0, [some (.ref 215), some (.int x1), none, none, none, none], [], (zS0, R, I, J)) (some (.int w), (zS0, R', I', J'))) (k1 : zEv X (d + 1) zm_235 (32, [some (.ref 215), some (.int x1), some (.int x2)], [.int w, .int s0], (zS0, R', I', J')) r) : zEv X (d + 1) zm_235 (27, [some (.ref 215), some (.int x1), some (.int x2)], [.int s0], (zS0, R, I, J)) r := by
  refine zEv_k 2 (f' := (29, [some (.ref 215), some (.int x1), some (.int x2)], [.int x1, .ref 215, .int s0], (zS0, R, I, J))) rfl ?_
  exact zEv_c (fun _ => rfl) rfl hc rfl rfl k1
theorem b_235_32 {X : zX} {d : Nat} {R : zR} {I : zI} {J : zJ} {r : zA} {x1 : Int32} {x2 : Int32} {s0 : Int32} {s1 : Int32} (k1 : s1 ≤ s0 → zEv X d zm_235 (39, [some (.ref 215), some (.int x1), some (.int x2)], [], (zS0, R, I, J)) r) (k2 : ¬ (s1 ≤ s0) → zEv X d zm_235 (35, [some (.ref 215), some (.int x1), some (.int x2)], [], (zS0, R, I, J)) r) : zEv X d zm_235 (32, [some (.ref 215), some (.int x1), some (.int x2)], [.int s1, .int s0], (zS0, R, I, J)) r := by
  refine zEv_k 1 (f' := (if s1 ≤ s0 then 39 else 35, [some (.ref 215), some (.int x1), some (.int x2)], [], (zS0, R, I, J))) rfl ?_
  exact zEv_if k1 k2
theorem b_235_35 {X : zX} {d : Nat} {R : zR} {I : zI} {J : zJ} {r : zA} {x1 : Int32} {x2 : Int32} (k1 : zEv X d zm_235 (40, [some (.ref 215), some (.int x1), some (.int x2)], [.int x2], (zS0, R, I, J)) r) : zEv X d zm_235 (35, [some (.ref 215), some (.int x1), some (.int x2)], [], (zS0, R, I, J)) r := by
  refine zEv_k 2 (f' := (40, [some (.ref 215), some (.int x1), some (.int x2)], [.int x2], (zS0, R, I, J))) rfl ?_
  exact k1
theorem b_235_39 {X : zX} {d : Nat} {R : zR} {I : zI} {J : zJ} {r : zA} {x1 : Int32} {x2 : Int32} (k1 : zEv X d zm_235 (40, [some (.ref 215), some (.int x1), some (.int x2)], [.int x1], (zS0, R, I, J)) r) : zEv X d zm_235 (39, [some (.ref 215), some (.int x1), some (.int x2)], [], (zS0, R, I, J)) r := by
  refine zEv_k 1 (f' := (40, [some (.ref 215), some (.int x1), some (.int x2)], [.int x1], (zS0, R, I, J))) rfl ?_
  exact k1
theorem b_235_40 {X : zX} {d : Nat} {R : zR} {I : zI} {J : zJ} {r : zA} {x1 : Int32} {x2 : Int32} {s0 : Int32} (k1 : zEv X d zm_235 (4, [some (.ref 215), some (.int s0), some (.int (x2 + 1))], [], (zS0, R, I, J)) r) : zEv X d zm_235 (40, [some (.ref 215), some (.int x1), some (.int x2)], [.int s0], (zS0, R, I, J)) r := by
  refine zEv_k 3 (f' := (4, [some (.ref 215), some (.int s0), some (.int (x2 + 1))], [], (zS0, R, I, J))) rfl ?_
  exact k1
theorem b_235_47 {X : zX} {d : Nat} {R : zR} {I : zI} {J : zJ} {x1 : Int32} {x2 : Int32} : zEv X d zm_235 (47, [some (.ref 215), some (.int x1), some (.int x2)], [], (zS0, R, I, J)) (some (.int x1), (zS0, R, I, J)) := by
  refine zEv_k 1 (f' := (48, [some (.ref 215), some (.int x1), some (.int x2)], [.int x1], (zS0, R, I, J))) rfl ?_
  exact zEv_r rfl
theorem b_236_0 {X : zX} {d : Nat} {R : zR} {I : zI} {J : zJ} {r : zA} {x1 : Int32} {x2 : Int32} {x3 : Int32} {w : Int32} {R' : zR} {I' : zI} {J' : zJ} (hc : zEv X d zm_232 (0, [some (.ref 215), some (.int x1), some (.int x2), none], [], (zS0, R, zu I 215 0 0, J)) (some (.int w), (zS0, R', I', J'))) (k1 : zEv X (d + 1) zm_236 (11, [some (.ref 215), some (.int x1), some (.int x2), some (.int x3)], [.int w], (zS0, R', I', J')) r) : zEv X (d + 1) zm_236 (0, [some (.ref 215), some (.int x1), some (.int x2), some (.int x3)], [], (zS0, R, I, J)) r := by
  refine zEv_k 6 (f' := (8, [some (.ref 215), some (.int x1), some (.int x2), some (.int x3)], [.int x2, .int x1, .ref 215], (zS0, R, zu I 215 0 0, J))) rfl ?_
  exact zEv_c (fun _ => rfl) rfl hc rfl rfl k1
theorem b_236_11 {X : zX} {d : Nat} {R : zR} {I : zI} {J : zJ} {r : zA} {x1 : Int32} {x2 : Int32} {x3 : Int32} {s0 : Int32} (k1 : ¬ s0 = 0 → zEv X d zm_236 (17, [some (.ref 215), some (.int x1), some (.int x2), some (.int x3)], [], (zS0, R, I, J)) r) (k2 : ¬ (¬ s0 = 0) → zEv X d zm_236 (14, [some (.ref 215), some (.int x1), some (.int x2), some (.int x3)], [], (zS0, R, I, J)) r) : zEv X d zm_236 (11, [some (.ref 215), some (.int x1), some (.int x2), some (.int x3)], [.int s0], (zS0, R, I, J)) r := by
  refine zEv_k 1 (f' := (if ¬ s0 = 0 then 17 else 14, [some (.ref 215), some (.int x1), some (.int x2), some (.int x3)], [], (zS0, R, I, J))) rfl ?_
  exact zEv_if k1 k2
theorem b_236_14 {X : zX} {d : Nat} {R : zR} {I : zI} {J : zJ} {x1 : Int32} {x2 : Int32} {x3 : Int32} : zEv X d zm_236 (14, [some (.ref 215), some (.int x1), some (.int x2), some (.int x3)], [], (zS0, R, I, J)) (some (.int (-2)), (zS0, R, I, J)) := by
  refine zEv_k 1 (f' := (16, [some (.ref 215), some (.int x1), some (.int x2), some (.int x3)], [.int (-2)], (zS0, R, I, J))) rfl ?_
  exact zEv_r rfl
theorem b_236_17 {X : zX} {d : Nat} {R : zR} {I : zI} {J : zJ} {r : zA} {x1 : Int32} {x2 : Int32} {x3 : Int32} (k1 : x3 < 10 → zEv X d zm_236 (49, [some (.ref 215), some (.int x1), some (.int x2), some (.int x3)], [], (zS0, R, I, J)) r) (k2 : ¬ (x3 < 10) → zEv X d zm_236 (23, [some (.ref 215), some (.int x1), some (.int x2), some (.int x3)], [], (zS0, R, I, J)) r) : zEv X d zm_236 (17, [some (.ref 215), some (.int x1), some (.int x2), some (.int x3)], [], (zS0, R, I, J)) r := by
  refine zEv_k 3 (f' := (if x3 < 10 then 49 else 23, [some (.ref 215), some (.int x1), some (.int x2), some (.int x3)], [], (zS0, R, I, J))) rfl ?_
  exact zEv_if k1 k2
theorem b_236_23 {X : zX} {d : Nat} {R : zR} {I : zI} {J : zJ} {r : zA} {x1 : Int32} {x2 : Int32} {x3 : Int32} (k1 : (I 215 46) ≤ (x3 - 10) → zEv X d zm_236 (46, [some (.ref 215), some (.int x1), some (.int x2), some (.int x3)], [], (zS0, R, I, J)) r) (k2 : ¬ ((I 215 46) ≤ (x3 - 10)) → zEv X d zm_236 (34, [some (.ref 215), some (.int x1), some (.int x2), some (.int x3)], [], (zS0, R, I, J)) r) : zEv X d zm_236 (23, [some (.ref 215), some (.int x1), some (.int x2), some (.int x3)], [], (zS0, R, I, J)) r := by
  refine zEv_k 6 (f' := (if (I 215 46) ≤ (x3 - 10) then 46 else 34, [some (.ref 215), some (.int x1), some (.int x2), some (.int x3)], [], (zS0, R, I, J))) rfl ?_
  exact zEv_if k1 k2
theorem b_236_34 {X : zX} {d : Nat} {R : zR} {I : zI} {J : zJ} {x1 : Int32} {x2 : Int32} {x3 : Int32} (hR : zRok R) (h42 : zin (x3 - 10) 100) : zEv X d zm_236 (34, [some (.ref 215), some (.int x1), some (.int x2), some (.int x3)], [], (zS0, R, I, J)) (some (.int (I 234 (x3 - 10).toNatClampNeg)), (zS0, R, I, J)) := by
  refine zEv_k 1 (f' := (35, [some (.ref 215), some (.int x1), some (.int x2), some (.int x3)], [.ref 215], (zS0, R, I, J))) rfl ?_
  refine zEv_gr rfl rfl rfl (by decide) (hR 215 44 234 rfl) ?_
  refine zEv_k 3 (f' := (42, [some (.ref 215), some (.int x1), some (.int x2), some (.int x3)], [.int (x3 - 10), .ref 234], (zS0, R, I, J))) rfl ?_
  refine zEv_ial rfl rfl (by decide) h42 ?_
  refine zEv_k 1 (f' := (48, [some (.ref 215), some (.int x1), some (.int x2), some (.int x3)], [.int (I 234 (x3 - 10).toNatClampNeg)], (zS0, R, I, J))) rfl ?_
  exact zEv_r rfl
theorem b_236_46 {X : zX} {d : Nat} {R : zR} {I : zI} {J : zJ} {x1 : Int32} {x2 : Int32} {x3 : Int32} : zEv X d zm_236 (46, [some (.ref 215), some (.int x1), some (.int x2), some (.int x3)], [], (zS0, R, I, J)) (some (.int (-2)), (zS0, R, I, J)) := by
  refine zEv_k 1 (f' := (48, [some (.ref 215), some (.int x1), some (.int x2), some (.int x3)], [.int (-2)], (zS0, R, I, J))) rfl ?_
  exact zEv_r rfl
theorem b_236_49 {X : zX} {d : Nat} {R : zR} {I : zI} {J : zJ} {r : zA} {x1 : Int32} {x2 : Int32} {x3 : Int32} (k0 : x3 = 0 → zEv X d zm_236 (80, [some (.ref 215), some (.int x1), some (.int x2), some (.int x3)], [], (zS0, R, I, J)) r) (k1 : x3 = 1 → zEv X d zm_236 (85, [some (.ref 215), some (.int x1), some (.int x2), some (.int x3)], [], (zS0, R, I, J)) r) (k2 : x3 = 2 → zEv X d zm_236 (85, [some (.ref 215), some (.int x1), some (.int x2), some (.int x3)], [], (zS0, R, I, J)) r) (k3 : x3 = 3 → zEv X d zm_236 (100, [some (.ref 215), some (.int x1), some (.int x2), some (.int x3)], [], (zS0, R, I, J)) r) (kd : ¬ (0 ≤ (x3 : Int32).toInt ∧ (x3 : Int32).toInt ≤ 3) → zEv X d zm_236 (105, [some (.ref 215), some (.int x1), some (.int x2), some (.int x3)], [], (zS0, R, I, J)) r) : zEv X d zm_236 (49, [some (.ref 215), some (.int x1), some (.int x2), some (.int x3)], [], (zS0, R, I, J)) r := by
  refine zEv_k 1 (f' := (50, [some (.ref 215), some (.int x1), some (.int x2), some (.int x3)], [.int x3], (zS0, R, I, J))) rfl ?_
  refine zEv_ts rfl (by decide) (by decide) (by decide) (fun hh => ?_) (fun j hj hh => ?_)
  · exact kd (by omega)
  · rcases (by have hj2 : j < 4 := hj; omega : j = 0 ∨ j = 1 ∨ j = 2 ∨ j = 3) with rfl | rfl | rfl | rfl
    · exact k0 (zeqI hh (by decide))
    · exact k1 (zeqI hh (by decide))
    · exact k2 (zeqI hh (by decide))
    · exact k3 (zeqI hh (by decide))
theorem b_236_80 {X : zX} {d : Nat} {R : zR} {I : zI} {J : zJ} {x1 : Int32} {x2 : Int32} {x3 : Int32} : zEv X d zm_236 (80, [some (.ref 215), some (.int x1), some (.int x2), some (.int x3)], [], (zS0, R, I, J)) (some (.int (I 215 46)), (zS0, R, I, J)) := by
  refine zEv_k 2 (f' := (84, [some (.ref 215), some (.int x1), some (.int x2), some (.int x3)], [.int (I 215 46)], (zS0, R, I, J))) rfl ?_
  exact zEv_r rfl
theorem b_236_85 {X : zX} {d : Nat} {R : zR} {I : zI} {J : zJ} {r : zA} {x1 : Int32} {x2 : Int32} {x3 : Int32} (k1 : ¬ x3 = 1 → zEv X d zm_236 (95, [some (.ref 215), some (.int x1), some (.int x2), some (.int x3)], [.ref 215], (zS0, R, I, J)) r) (k2 : ¬ (¬ x3 = 1) → zEv X d zm_236 (91, [some (.ref 215), some (.int x1), some (.int x2), some (.int x3)], [.ref 215], (zS0, R, I, J)) r) : zEv X d zm_236 (85, [some (.ref 215), some (.int x1), some (.int x2), some (.int x3)], [], (zS0, R, I, J)) r := by
  refine zEv_k 4 (f' := (if ¬ x3 = 1 then 95 else 91, [some (.ref 215), some (.int x1), some (.int x2), some (.int x3)], [.ref 215], (zS0, R, I, J))) rfl ?_
  exact zEv_if k1 k2
theorem b_236_91 {X : zX} {d : Nat} {R : zR} {I : zI} {J : zJ} {r : zA} {x1 : Int32} {x2 : Int32} {x3 : Int32} (k1 : zEv X d zm_236 (96, [some (.ref 215), some (.int x1), some (.int x2), some (.int x3)], [.int 1, .ref 215], (zS0, R, I, J)) r) : zEv X d zm_236 (91, [some (.ref 215), some (.int x1), some (.int x2), some (.int x3)], [.ref 215], (zS0, R, I, J)) r := by
  refine zEv_k 2 (f' := (96, [some (.ref 215), some (.int x1), some (.int x2), some (.int x3)], [.int 1, .ref 215], (zS0, R, I, J))) rfl ?_
  exact k1
theorem b_236_95 {X : zX} {d : Nat} {R : zR} {I : zI} {J : zJ} {r : zA} {x1 : Int32} {x2 : Int32} {x3 : Int32} (k1 : zEv X d zm_236 (96, [some (.ref 215), some (.int x1), some (.int x2), some (.int x3)], [.int 0, .ref 215], (zS0, R, I, J)) r) : zEv X d zm_236 (95, [some (.ref 215), some (.int x1), some (.int x2), some (.int x3)], [.ref 215], (zS0, R, I, J)) r := by
  refine zEv_k 1 (f' := (96, [some (.ref 215), some (.int x1), some (.int x2), some (.int x3)], [.int 0, .ref 215], (zS0, R, I, J))) rfl ?_
  exact k1
theorem b_236_96 {X : zX} {d : Nat} {R : zR} {I : zI} {J : zJ} {r : zA} {x1 : Int32} {x2 : Int32} {x3 : Int32} {s1 : Int32} {w : Int32} {R' : zR} {I' : zI} {J' : zJ} (hc : zEv X d zm_233 (0, [some (.ref 215), some (.int s1), none, none, none], [], (zS0, R, I, J)) (some (.int w), (zS0, R', I', J'))) (k1 : zEv X (d + 1) zm_236 (99, [some (.ref 215), some (.int x1), some (.int x2), some (.int x3)], [.int w], (zS0, R', I', J')) r) : zEv X (d + 1) zm_236 (96, [some (.ref 215), some (.int x1), some (.int x2), some (.int x3)], [.int s1, .ref 215], (zS0, R, I, J)) r := by
  exact zEv_c (fun _ => rfl) rfl hc rfl rfl k1
theorem b_236_99 {X : zX} {d : Nat} {R : zR} {I : zI} {J : zJ} {x1 : Int32} {x2 : Int32} {x3 : Int32} {s0 : Int32} : zEv X d zm_236 (99, [some (.ref 215), some (.int x1), some (.int x2), some (.int x3)], [.int s0], (zS0, R, I, J)) (some (.int s0), (zS0, R, I, J)) := by
  exact zEv_r rfl
theorem b_236_100 {X : zX} {d : Nat} {R : zR} {I : zI} {J : zJ} {r : zA} {x1 : Int32} {x2 : Int32} {x3 : Int32} {w : Int32} {R' : zR} {I' : zI} {J' : zJ} (hc : zEv X d zm_235 (0, [some (.ref 215), none, none], [], (zS0, R, I, J)) (some (.int w), (zS0, R', I', J'))) (k1 : zEv X (d + 1) zm_236 (104, [some (.ref 215), some (.int x1), some (.int x2), some (.int x3)], [.int w], (zS0, R', I', J')) r) : zEv X (d + 1) zm_236 (100, [some (.ref 215), some (.int x1), some (.int x2), some (.int x3)], [], (zS0, R, I, J)) r := by
  refine zEv_k 1 (f' := (101, [some (.ref 215), some (.int x1), some (.int x2), some (.int x3)], [.ref 215], (zS0, R, I, J))) rfl ?_
  exact zEv_c (fun _ => rfl) rfl hc rfl rfl k1
theorem b_236_104 {X : zX} {d : Nat} {R : zR} {I : zI} {J : zJ} {x1 : Int32} {x2 : Int32} {x3 : Int32} {s0 : Int32} : zEv X d zm_236 (104, [some (.ref 215), some (.int x1), some (.int x2), some (.int x3)], [.int s0], (zS0, R, I, J)) (some (.int s0), (zS0, R, I, J)) := by
  exact zEv_r rfl
theorem b_236_105 {X : zX} {d : Nat} {R : zR} {I : zI} {J : zJ} {x1 : Int32} {x2 : Int32} {x3 : Int32} : zEv X d zm_236 (105, [some (.ref 215), some (.int x1), some (.int x2), some (.int x3)], [], (zS0, R, I, J)) (some (.int (-2)), (zS0, R, I, J)) := by
  refine zEv_k 1 (f' := (107, [some (.ref 215), some (.int x1), some (.int x2), some (.int x3)], [.int (-2)], (zS0, R, I, J))) rfl ?_
  exact zEv_r rfl
theorem b_237_0 {X : zX} {d : Nat} {R : zR} {I : zI} {J : zJ} {x1 : Int32} (h24 : ¬ x1 = 0) : zEv X d zm_237 (0, [some (.ref 215), some (.int x1)], [], (zS0, R, I, J)) (some (.int (((Int32.toUInt32 ((zu I 215 47 (((I 215 47) * 1103515245) + 12345)) 215 47) >>> (Int32.toUInt32 16 &&& Int32.toUInt32 31)).toInt32) - ((Int32.toUInt32 ((zu I 215 47 (((I 215 47) * 1103515245) + 12345)) 215 47) >>> (Int32.toUInt32 16 &&& Int32.toUInt32 31)).toInt32) / x1 * x1)), (zS0, R, zu I 215 47 (((I 215 47) * 1103515245) + 12345), J)) := by
  refine zEv_k 9 (f' := (17, [some (.ref 215), some (.int x1)], [.ref 215], (zS0, R, zu I 215 47 (((I 215 47) * 1103515245) + 12345), J))) rfl ?_
  refine zEv_k 4 (f' := (24, [some (.ref 215), some (.int x1)], [.int x1, .int ((Int32.toUInt32 ((zu I 215 47 (((I 215 47) * 1103515245) + 12345)) 215 47) >>> (Int32.toUInt32 16 &&& Int32.toUInt32 31)).toInt32)], (zS0, R, zu I 215 47 (((I 215 47) * 1103515245) + 12345), J))) rfl ?_
  refine zEv_rem rfl h24 ?_
  exact zEv_r rfl
theorem b_238_0 {X : zX} {d : Nat} {R : zR} {I : zI} {J : zJ} {r : zA} {w : Int32} {R' : zR} {I' : zI} {J' : zJ} (hc : zEv X d zm_237 (0, [some (.ref 215), some (.int 10)], [], (zS0, R, I, J)) (some (.int w), (zS0, R', I', J'))) (k1 : zEv X (d + 1) zm_238 (6, [some (.ref 215), none, none, none], [.int w], (zS0, R', I', J')) r) : zEv X (d + 1) zm_238 (0, [some (.ref 215), none, none, none], [], (zS0, R, I, J)) r := by
  refine zEv_k 2 (f' := (3, [some (.ref 215), none, none, none], [.int 10, .ref 215], (zS0, R, I, J))) rfl ?_
  exact zEv_c (fun _ => rfl) rfl hc rfl rfl k1
theorem b_238_6 {X : zX} {d : Nat} {R : zR} {I : zI} {J : zJ} {r : zA} {s0 : Int32} (k1 : 4 ≤ s0 → zEv X d zm_238 (23, [some (.ref 215), some (.int s0), none, none], [], (zS0, R, I, J)) r) (k2 : ¬ (4 ≤ s0) → zEv X d zm_238 (12, [some (.ref 215), some (.int s0), none, none], [], (zS0, R, I, J)) r) : zEv X d zm_238 (6, [some (.ref 215), none, none, none], [.int s0], (zS0, R, I, J)) r := by
  refine zEv_k 4 (f' := (if 4 ≤ s0 then 23 else 12, [some (.ref 215), some (.int s0), none, none], [], (zS0, R, I, J))) rfl ?_
  exact zEv_if k1 k2
theorem b_238_12 {X : zX} {d : Nat} {R : zR} {I : zI} {J : zJ} {r : zA} {x1 : Int32} {w : Int32} {R' : zR} {I' : zI} {J' : zJ} (hc : zEv X d zm_194 (0, [some (.ref 215), some (.int 0), some (.int (-1)), some (.int (-1))], [], (zS0, R, I, J)) (some (.int w), (zS0, R', I', J'))) (k1 : zEv X (d + 1) zm_238 (19, [some (.ref 215), some (.int x1), none, none], [.int w], (zS0, R', I', J')) r) : zEv X (d + 1) zm_238 (12, [some (.ref 215), some (.int x1), none, none], [], (zS0, R, I, J)) r := by
  refine zEv_k 4 (f' := (16, [some (.ref 215), some (.int x1), none, none], [.int (-1), .int (-1), .int 0, .ref 215], (zS0, R, I, J))) rfl ?_
  exact zEv_c (fun _ => rfl) rfl hc rfl rfl k1
theorem b_238_19 {X : zX} {d : Nat} {R : zR} {I : zI} {J : zJ} {r : zA} {x1 : Int32} {s0 : Int32} (k1 : zEv X d zm_238 (94, [some (.ref 215), some (.int x1), none, none], [], (zS0, R, I, J)) r) : zEv X d zm_238 (19, [some (.ref 215), some (.int x1), none, none], [.int s0], (zS0, R, I, J)) r := by
  refine zEv_k 2 (f' := (94, [some (.ref 215), some (.int x1), none, none], [], (zS0, R, I, J))) rfl ?_
  exact k1
theorem b_238_23 {X : zX} {d : Nat} {R : zR} {I : zI} {J : zJ} {r : zA} {x1 : Int32} (k1 : (I 215 23) ≤ 0 → zEv X d zm_238 (94, [some (.ref 215), some (.int x1), none, none], [], (zS0, R, I, J)) r) (k2 : ¬ ((I 215 23) ≤ 0) → zEv X d zm_238 (30, [some (.ref 215), some (.int x1), none, none], [], (zS0, R, I, J)) r) : zEv X d zm_238 (23, [some (.ref 215), some (.int x1), none, none], [], (zS0, R, I, J)) r := by
  refine zEv_k 3 (f' := (if (I 215 23) ≤ 0 then 94 else 30, [some (.ref 215), some (.int x1), none, none], [], (zS0, R, I, J))) rfl ?_
  exact zEv_if k1 k2
theorem b_238_30 {X : zX} {d : Nat} {R : zR} {I : zI} {J : zJ} {r : zA} {x1 : Int32} {w : Int32} {R' : zR} {I' : zI} {J' : zJ} (hc : zEv X d zm_237 (0, [some (.ref 215), some (.int (I 215 23))], [], (zS0, R, I, J)) (some (.int w), (zS0, R', I', J'))) (k1 : zEv X (d + 1) zm_238 (38, [some (.ref 215), some (.int x1), none, none], [.int w], (zS0, R', I', J')) r) : zEv X (d + 1) zm_238 (30, [some (.ref 215), some (.int x1), none, none], [], (zS0, R, I, J)) r := by
  refine zEv_k 3 (f' := (35, [some (.ref 215), some (.int x1), none, none], [.int (I 215 23), .ref 215], (zS0, R, I, J))) rfl ?_
  exact zEv_c (fun _ => rfl) rfl hc rfl rfl k1
theorem b_238_38 {X : zX} {d : Nat} {R : zR} {I : zI} {J : zJ} {r : zA} {x1 : Int32} {s0 : Int32} (k1 : x1 ≤ 7 → zEv X d zm_238 (54, [some (.ref 215), some (.int x1), some (.int s0), none], [], (zS0, R, I, J)) r) (k2 : ¬ (x1 ≤ 7) → zEv X d zm_238 (45, [some (.ref 215), some (.int x1), some (.int s0), none], [], (zS0, R, I, J)) r) : zEv X d zm_238 (38, [some (.ref 215), some (.int x1), none, none], [.int s0], (zS0, R, I, J)) r := by
  refine zEv_k 4 (f' := (if x1 ≤ 7 then 54 else 45, [some (.ref 215), some (.int x1), some (.int s0), none], [], (zS0, R, I, J))) rfl ?_
  exact zEv_if k1 k2
theorem b_238_45 {X : zX} {d : Nat} {R : zR} {I : zI} {J : zJ} {r : zA} {x1 : Int32} {x2 : Int32} {w : Int32} {R' : zR} {I' : zI} {J' : zJ} (hc : zEv X d zm_237 (0, [some (.ref 215), some (.int 21)], [], (zS0, R, I, J)) (some (.int w), (zS0, R', I', J'))) (k1 : zEv X (d + 1) zm_238 (51, [some (.ref 215), some (.int x1), some (.int x2), none], [.int w], (zS0, R', I', J')) r) : zEv X (d + 1) zm_238 (45, [some (.ref 215), some (.int x1), some (.int x2), none], [], (zS0, R, I, J)) r := by
  refine zEv_k 2 (f' := (48, [some (.ref 215), some (.int x1), some (.int x2), none], [.int 21, .ref 215], (zS0, R, I, J))) rfl ?_
  exact zEv_c (fun _ => rfl) rfl hc rfl rfl k1
theorem b_238_51 {X : zX} {d : Nat} {R : zR} {I : zI} {J : zJ} {r : zA} {x1 : Int32} {x2 : Int32} {s0 : Int32} (k1 : zEv X d zm_238 (55, [some (.ref 215), some (.int x1), some (.int x2), none], [.int s0], (zS0, R, I, J)) r) : zEv X d zm_238 (51, [some (.ref 215), some (.int x1), some (.int x2), none], [.int s0], (zS0, R, I, J)) r := by
  refine zEv_k 1 (f' := (55, [some (.ref 215), some (.int x1), some (.int x2), none], [.int s0], (zS0, R, I, J))) rfl ?_
  exact k1
theorem b_238_54 {X : zX} {d : Nat} {R : zR} {I : zI} {J : zJ} {r : zA} {x1 : Int32} {x2 : Int32} (k1 : zEv X d zm_238 (55, [some (.ref 215), some (.int x1), some (.int x2), none], [.int (-1)], (zS0, R, I, J)) r) : zEv X d zm_238 (54, [some (.ref 215), some (.int x1), some (.int x2), none], [], (zS0, R, I, J)) r := by
  refine zEv_k 1 (f' := (55, [some (.ref 215), some (.int x1), some (.int x2), none], [.int (-1)], (zS0, R, I, J))) rfl ?_
  exact k1
theorem b_238_55 {X : zX} {d : Nat} {R : zR} {I : zI} {J : zJ} {r : zA} {x1 : Int32} {x2 : Int32} {s0 : Int32} (k1 : 6 ≤ x1 → zEv X d zm_238 (67, [some (.ref 215), some (.int x1), some (.int x2), some (.int s0)], [.ref 215], (zS0, R, I, J)) r) (k2 : ¬ (6 ≤ x1) → zEv X d zm_238 (63, [some (.ref 215), some (.int x1), some (.int x2), some (.int s0)], [.ref 215], (zS0, R, I, J)) r) : zEv X d zm_238 (55, [some (.ref 215), some (.int x1), some (.int x2), none], [.int s0], (zS0, R, I, J)) r := by
  refine zEv_k 5 (f' := (if 6 ≤ x1 then 67 else 63, [some (.ref 215), some (.int x1), some (.int x2), some (.int s0)], [.ref 215], (zS0, R, I, J))) rfl ?_
  exact zEv_if k1 k2
theorem b_238_63 {X : zX} {d : Nat} {R : zR} {I : zI} {J : zJ} {r : zA} {x1 : Int32} {x2 : Int32} {x3 : Int32} (k1 : zEv X d zm_238 (88, [some (.ref 215), some (.int x1), some (.int x2), some (.int x3)], [.int 1, .ref 215], (zS0, R, I, J)) r) : zEv X d zm_238 (63, [some (.ref 215), some (.int x1), some (.int x2), some (.int x3)], [.ref 215], (zS0, R, I, J)) r := by
  refine zEv_k 2 (f' := (88, [some (.ref 215), some (.int x1), some (.int x2), some (.int x3)], [.int 1, .ref 215], (zS0, R, I, J))) rfl ?_
  exact k1
theorem b_238_67 {X : zX} {d : Nat} {R : zR} {I : zI} {J : zJ} {r : zA} {x1 : Int32} {x2 : Int32} {x3 : Int32} (k1 : ¬ x1 = 6 → zEv X d zm_238 (77, [some (.ref 215), some (.int x1), some (.int x2), some (.int x3)], [.ref 215], (zS0, R, I, J)) r) (k2 : ¬ (¬ x1 = 6) → zEv X d zm_238 (73, [some (.ref 215), some (.int x1), some (.int x2), some (.int x3)], [.ref 215], (zS0, R, I, J)) r) : zEv X d zm_238 (67, [some (.ref 215), some (.int x1), some (.int x2), some (.int x3)], [.ref 215], (zS0, R, I, J)) r := by
  refine zEv_k 3 (f' := (if ¬ x1 = 6 then 77 else 73, [some (.ref 215), some (.int x1), some (.int x2), some (.int x3)], [.ref 215], (zS0, R, I, J))) rfl ?_
  exact zEv_if k1 k2
theorem b_238_73 {X : zX} {d : Nat} {R : zR} {I : zI} {J : zJ} {r : zA} {x1 : Int32} {x2 : Int32} {x3 : Int32} (k1 : zEv X d zm_238 (88, [some (.ref 215), some (.int x1), some (.int x2), some (.int x3)], [.int 2, .ref 215], (zS0, R, I, J)) r) : zEv X d zm_238 (73, [some (.ref 215), some (.int x1), some (.int x2), some (.int x3)], [.ref 215], (zS0, R, I, J)) r := by
  refine zEv_k 2 (f' := (88, [some (.ref 215), some (.int x1), some (.int x2), some (.int x3)], [.int 2, .ref 215], (zS0, R, I, J))) rfl ?_
  exact k1
theorem b_238_77 {X : zX} {d : Nat} {R : zR} {I : zI} {J : zJ} {r : zA} {x1 : Int32} {x2 : Int32} {x3 : Int32} (k1 : ¬ x1 = 7 → zEv X d zm_238 (87, [some (.ref 215), some (.int x1), some (.int x2), some (.int x3)], [.ref 215], (zS0, R, I, J)) r) (k2 : ¬ (¬ x1 = 7) → zEv X d zm_238 (83, [some (.ref 215), some (.int x1), some (.int x2), some (.int x3)], [.ref 215], (zS0, R, I, J)) r) : zEv X d zm_238 (77, [some (.ref 215), some (.int x1), some (.int x2), some (.int x3)], [.ref 215], (zS0, R, I, J)) r := by
  refine zEv_k 3 (f' := (if ¬ x1 = 7 then 87 else 83, [some (.ref 215), some (.int x1), some (.int x2), some (.int x3)], [.ref 215], (zS0, R, I, J))) rfl ?_
  exact zEv_if k1 k2
theorem b_238_83 {X : zX} {d : Nat} {R : zR} {I : zI} {J : zJ} {r : zA} {x1 : Int32} {x2 : Int32} {x3 : Int32} (k1 : zEv X d zm_238 (88, [some (.ref 215), some (.int x1), some (.int x2), some (.int x3)], [.int 3, .ref 215], (zS0, R, I, J)) r) : zEv X d zm_238 (83, [some (.ref 215), some (.int x1), some (.int x2), some (.int x3)], [.ref 215], (zS0, R, I, J)) r := by
  refine zEv_k 2 (f' := (88, [some (.ref 215), some (.int x1), some (.int x2), some (.int x3)], [.int 3, .ref 215], (zS0, R, I, J))) rfl ?_
  exact k1
theorem b_238_87 {X : zX} {d : Nat} {R : zR} {I : zI} {J : zJ} {r : zA} {x1 : Int32} {x2 : Int32} {x3 : Int32} (k1 : zEv X d zm_238 (88, [some (.ref 215), some (.int x1), some (.int x2), some (.int x3)], [.int 4, .ref 215], (zS0, R, I, J)) r) : zEv X d zm_238 (87, [some (.ref 215), some (.int x1), some (.int x2), some (.int x3)], [.ref 215], (zS0, R, I, J)) r := by
  refine zEv_k 1 (f' := (88, [some (.ref 215), some (.int x1), some (.int x2), some (.int x3)], [.int 4, .ref 215], (zS0, R, I, J))) rfl ?_
  exact k1
theorem b_238_88 {X : zX} {d : Nat} {R : zR} {I : zI} {J : zJ} {r : zA} {x1 : Int32} {x2 : Int32} {x3 : Int32} {s1 : Int32} {w : Int32} {R' : zR} {I' : zI} {J' : zJ} (hc : zEv X d zm_194 (0, [some (.ref 215), some (.int s1), some (.int x2), some (.int x3)], [], (zS0, R, I, J)) (some (.int w), (zS0, R', I', J'))) (k1 : zEv X (d + 1) zm_238 (93, [some (.ref 215), some (.int x1), some (.int x2), some (.int x3)], [.int w], (zS0, R', I', J')) r) : zEv X (d + 1) zm_238 (88, [some (.ref 215), some (.int x1), some (.int x2), some (.int x3)], [.int s1, .ref 215], (zS0, R, I, J)) r := by
  refine zEv_k 2 (f' := (90, [some (.ref 215), some (.int x1), some (.int x2), some (.int x3)], [.int x3, .int x2, .int s1, .ref 215], (zS0, R, I, J))) rfl ?_
  exact zEv_c (fun _ => rfl) rfl hc rfl rfl k1
theorem b_238_93 {X : zX} {d : Nat} {R : zR} {I : zI} {J : zJ} {r : zA} {x1 : Int32} {x2 : Int32} {x3 : Int32} {s0 : Int32} (k1 : zEv X d zm_238 (94, [some (.ref 215), some (.int x1), some (.int x2), some (.int x3)], [], (zS0, R, I, J)) r) : zEv X d zm_238 (93, [some (.ref 215), some (.int x1), some (.int x2), some (.int x3)], [.int s0], (zS0, R, I, J)) r := by
  refine zEv_k 1 (f' := (94, [some (.ref 215), some (.int x1), some (.int x2), some (.int x3)], [], (zS0, R, I, J))) rfl ?_
  exact k1
theorem b_238_94 {X : zX} {d : Nat} {R : zR} {I : zI} {J : zJ} {x1 : Int32} {x2 : Option Value} {x3 : Option Value} : zEv X d zm_238 (94, [some (.ref 215), some (.int x1), x2, x3], [], (zS0, R, I, J)) (none, (zS0, R, I, J)) := by
  exact zEv_r rfl
theorem b_239_0 {X : zX} {d : Nat} {R : zR} {I : zI} {J : zJ} {r : zA} {x1 : Int32} {x2 : Int32} {x3 : Int32} {x4 : Int32} (k1 : (zf_in x3 0 60) = 0 → zEv X (d + 1) zm_239 (23, [some (.ref 215), some (.int x1), some (.int x2), some (.int x3), some (.int x4), none], [], (zS0, R, zu I 215 0 0, J)) r) (k2 : ¬ ((zf_in x3 0 60) = 0) → zEv X (d + 1) zm_239 (15, [some (.ref 215), some (.int x1), some (.int x2), some (.int x3), some (.int x4), none], [], (zS0, R, zu I 215 0 0, J)) r) : zEv X (d + 1) zm_239 (0, [some (.ref 215), some (.int x1), some (.int x2), some (.int x3), some (.int x4), none], [], (zS0, R, I, J)) r := by
  refine zEv_k 6 (f' := (9, [some (.ref 215), some (.int x1), some (.int x2), some (.int x3), some (.int x4), none], [.int 60, .int 0, .int x3], (zS0, R, zu I 215 0 0, J))) rfl ?_
  refine zEv_c (fun _ => rfl) rfl ev_zf_in rfl rfl ?_
  refine zEv_k 1 (f' := (if (zf_in x3 0 60) = 0 then 23 else 15, [some (.ref 215), some (.int x1), some (.int x2), some (.int x3), some (.int x4), none], [], (zS0, R, zu I 215 0 0, J))) rfl ?_
  exact zEv_if k1 k2
theorem b_239_15 {X : zX} {d : Nat} {R : zR} {I : zI} {J : zJ} {r : zA} {x1 : Int32} {x2 : Int32} {x3 : Int32} {x4 : Int32} {w : Int32} {R' : zR} {I' : zI} {J' : zJ} (hc : zEv X d zm_181 (0, [some (.ref 215), some (.int x1)], [], (zS0, R, I, J)) (some (.int w), (zS0, R', I', J'))) (k1 : zEv X (d + 1) zm_239 (20, [some (.ref 215), some (.int x1), some (.int x2), some (.int x3), some (.int x4), none], [.int w], (zS0, R', I', J')) r) : zEv X (d + 1) zm_239 (15, [some (.ref 215), some (.int x1), some (.int x2), some (.int x3), some (.int x4), none], [], (zS0, R, I, J)) r := by
  refine zEv_k 2 (f' := (17, [some (.ref 215), some (.int x1), some (.int x2), some (.int x3), some (.int x4), none], [.int x1, .ref 215], (zS0, R, I, J))) rfl ?_
  exact zEv_c (fun _ => rfl) rfl hc rfl rfl k1
theorem b_239_20 {X : zX} {d : Nat} {R : zR} {I : zI} {J : zJ} {r : zA} {x1 : Int32} {x2 : Int32} {x3 : Int32} {x4 : Int32} {s0 : Int32} (k1 : ¬ s0 = 0 → zEv X d zm_239 (25, [some (.ref 215), some (.int x1), some (.int x2), some (.int x3), some (.int x4), none], [], (zS0, R, I, J)) r) (k2 : ¬ (¬ s0 = 0) → zEv X d zm_239 (23, [some (.ref 215), some (.int x1), some (.int x2), some (.int x3), some (.int x4), none], [], (zS0, R, I, J)) r) : zEv X d zm_239 (20, [some (.ref 215), some (.int x1), some (.int x2), some (.int x3), some (.int x4), none], [.int s0], (zS0, R, I, J)) r := by
  refine zEv_k 1 (f' := (if ¬ s0 = 0 then 25 else 23, [some (.ref 215), some (.int x1), some (.int x2), some (.int x3), some (.int x4), none], [], (zS0, R, I, J))) rfl ?_
  exact zEv_if k1 k2
theorem b_239_23 {X : zX} {d : Nat} {R : zR} {I : zI} {J : zJ} {x1 : Int32} {x2 : Int32} {x3 : Int32} {x4 : Int32} : zEv X d zm_239 (23, [some (.ref 215), some (.int x1), some (.int x2), some (.int x3), some (.int x4), none], [], (zS0, R, I, J)) (some (.int (-1)), (zS0, R, I, J)) := by
  refine zEv_k 1 (f' := (24, [some (.ref 215), some (.int x1), some (.int x2), some (.int x3), some (.int x4), none], [.int (-1)], (zS0, R, I, J))) rfl ?_
  exact zEv_r rfl
theorem b_239_25 {X : zX} {d : Nat} {R : zR} {I : zI} {J : zJ} {r : zA} {x1 : Int32} {x2 : Int32} {x3 : Int32} {x4 : Int32} (k1 : zEv X d zm_239 (33, [some (.ref 215), some (.int x1), some (.int x2), some (.int x3), some (.int x4), some (.int 0)], [], (zS0, R, zu I 215 47 x2, J)) r) : zEv X d zm_239 (25, [some (.ref 215), some (.int x1), some (.int x2), some (.int x3), some (.int x4), none], [], (zS0, R, I, J)) r := by
  refine zEv_k 5 (f' := (33, [some (.ref 215), some (.int x1), some (.int x2), some (.int x3), some (.int x4), some (.int 0)], [], (zS0, R, zu I 215 47 x2, J))) rfl ?_
  exact k1
theorem b_239_33 {X : zX} {d : Nat} {R : zR} {I : zI} {J : zJ} {r : zA} {x1 : Int32} {x2 : Int32} {x3 : Int32} {x4 : Int32} {x5 : Int32} (k1 : x3 ≤ x5 → zEv X d zm_239 (49, [some (.ref 215), some (.int x1), some (.int x2), some (.int x3), some (.int x4), some (.int x5)], [], (zS0, R, I, J)) r) (k2 : ¬ (x3 ≤ x5) → zEv X d zm_239 (39, [some (.ref 215), some (.int x1), some (.int x2), some (.int x3), some (.int x4), some (.int x5)], [], (zS0, R, I, J)) r) : zEv X d zm_239 (33, [some (.ref 215), some (.int x1), some (.int x2), some (.int x3), some (.int x4), some (.int x5)], [], (zS0, R, I, J)) r := by
  refine zEv_k 3 (f' := (if x3 ≤ x5 then 49 else 39, [some (.ref 215), some (.int x1), some (.int x2), some (.int x3), some (.int x4), some (.int x5)], [], (zS0, R, I, J))) rfl ?_
  exact zEv_if k1 k2
theorem b_239_39 {X : zX} {d : Nat} {R : zR} {I : zI} {J : zJ} {r : zA} {x1 : Int32} {x2 : Int32} {x3 : Int32} {x4 : Int32} {x5 : Int32} {R' : zR} {I' : zI} {J' : zJ} (hc : zEv X d zm_238 (0, [some (.ref 215), none, none, none], [], (zS0, R, I, J)) (none, (zS0, R', I', J'))) (k1 : zEv X (d + 1) zm_239 (43, [some (.ref 215), some (.int x1), some (.int x2), some (.int x3), some (.int x4), some (.int x5)], [], (zS0, R', I', J')) r) : zEv X (d + 1) zm_239 (39, [some (.ref 215), some (.int x1), some (.int x2), some (.int x3), some (.int x4), some (.int x5)], [], (zS0, R, I, J)) r := by
  refine zEv_k 1 (f' := (40, [some (.ref 215), some (.int x1), some (.int x2), some (.int x3), some (.int x4), some (.int x5)], [.ref 215], (zS0, R, I, J))) rfl ?_
  exact zEv_c (fun _ => rfl) rfl hc rfl rfl k1
theorem b_239_43 {X : zX} {d : Nat} {R : zR} {I : zI} {J : zJ} {r : zA} {x1 : Int32} {x2 : Int32} {x3 : Int32} {x4 : Int32} {x5 : Int32} (k1 : zEv X d zm_239 (33, [some (.ref 215), some (.int x1), some (.int x2), some (.int x3), some (.int x4), some (.int (x5 + 1))], [], (zS0, R, I, J)) r) : zEv X d zm_239 (43, [some (.ref 215), some (.int x1), some (.int x2), some (.int x3), some (.int x4), some (.int x5)], [], (zS0, R, I, J)) r := by
  refine zEv_k 2 (f' := (33, [some (.ref 215), some (.int x1), some (.int x2), some (.int x3), some (.int x4), some (.int (x5 + 1))], [], (zS0, R, I, J))) rfl ?_
  exact k1
theorem b_239_49 {X : zX} {d : Nat} {R : zR} {I : zI} {J : zJ} {r : zA} {x1 : Int32} {x2 : Int32} {x3 : Int32} {x4 : Int32} {x5 : Int32} {w : Int32} {R' : zR} {I' : zI} {J' : zJ} (hc : zEv X d zm_199 (0, [some (.ref 215), some (.int x4), none], [], (zS0, R, I, J)) (some (.int w), (zS0, R', I', J'))) (k1 : zEv X (d + 1) zm_239 (55, [some (.ref 215), some (.int x1), some (.int x2), some (.int x3), some (.int x4), some (.int x5)], [.int w], (zS0, R', I', J')) r) : zEv X (d + 1) zm_239 (49, [some (.ref 215), some (.int x1), some (.int x2), some (.int x3), some (.int x4), some (.int x5)], [], (zS0, R, I, J)) r := by
  refine zEv_k 2 (f' := (52, [some (.ref 215), some (.int x1), some (.int x2), some (.int x3), some (.int x4), some (.int x5)], [.int x4, .ref 215], (zS0, R, I, J))) rfl ?_
  exact zEv_c (fun _ => rfl) rfl hc rfl rfl k1
theorem b_239_55 {X : zX} {d : Nat} {R : zR} {I : zI} {J : zJ} {x1 : Int32} {x2 : Int32} {x3 : Int32} {x4 : Int32} {x5 : Int32} {s0 : Int32} : zEv X d zm_239 (55, [some (.ref 215), some (.int x1), some (.int x2), some (.int x3), some (.int x4), some (.int x5)], [.int s0], (zS0, R, I, J)) (some (.int s0), (zS0, R, I, J)) := by
  exact zEv_r rfl
theorem b_240_0 {X : zX} {d : Nat} {R : zR} {I : zI} {J : zJ} {r : zA} (k1 : zEv X d zm_240 (4, [some (.ref 215), some (.int (-1)), some (.int 0)], [], (zS0, R, I, J)) r) : zEv X d zm_240 (0, [some (.ref 215), none, none], [], (zS0, R, I, J)) r := by
  refine zEv_k 4 (f' := (4, [some (.ref 215), some (.int (-1)), some (.int 0)], [], (zS0, R, I, J))) rfl ?_
  exact k1
theorem b_240_4 {X : zX} {d : Nat} {R : zR} {I : zI} {J : zJ} {r : zA} {x1 : Int32} {x2 : Int32} (k1 : (I 215 23) ≤ x2 → zEv X d zm_240 (46, [some (.ref 215), some (.int x1), some (.int x2)], [], (zS0, R, I, J)) r) (k2 : ¬ ((I 215 23) ≤ x2) → zEv X d zm_240 (12, [some (.ref 215), some (.int x1), some (.int x2)], [], (zS0, R, I, J)) r) : zEv X d zm_240 (4, [some (.ref 215), some (.int x1), some (.int x2)], [], (zS0, R, I, J)) r := by
  refine zEv_k 4 (f' := (if (I 215 23) ≤ x2 then 46 else 12, [some (.ref 215), some (.int x1), some (.int x2)], [], (zS0, R, I, J))) rfl ?_
  exact zEv_if k1 k2
theorem b_240_12 {X : zX} {d : Nat} {R : zR} {I : zI} {J : zJ} {r : zA} {x1 : Int32} {x2 : Int32} (k1 : x1 = (-1) → zEv X d zm_240 (34, [some (.ref 215), some (.int x1), some (.int x2)], [], (zS0, R, I, J)) r) (k2 : ¬ (x1 = (-1)) → zEv X d zm_240 (17, [some (.ref 215), some (.int x1), some (.int x2)], [], (zS0, R, I, J)) r) : zEv X d zm_240 (12, [some (.ref 215), some (.int x1), some (.int x2)], [], (zS0, R, I, J)) r := by
  refine zEv_k 3 (f' := (if x1 = (-1) then 34 else 17, [some (.ref 215), some (.int x1), some (.int x2)], [], (zS0, R, I, J))) rfl ?_
  exact zEv_if k1 k2
theorem b_240_17 {X : zX} {d : Nat} {R : zR} {I : zI} {J : zJ} {r : zA} {x1 : Int32} {x2 : Int32} {w : Int32} {R' : zR} {I' : zI} {J' : zJ} (hc : zEv X d zm_179 (0, [some (.ref 215), some (.int (3 + x2))], [], (zS0, R, I, J)) (some (.int w), (zS0, R', I', J'))) (k1 : zEv X (d + 1) zm_240 (24, [some (.ref 215), some (.int x1), some (.int x2)], [.int w], (zS0, R', I', J')) r) : zEv X (d + 1) zm_240 (17, [some (.ref 215), some (.int x1), some (.int x2)], [], (zS0, R, I, J)) r := by
  refine zEv_k 4 (f' := (21, [some (.ref 215), some (.int x1), some (.int x2)], [.int (3 + x2), .ref 215], (zS0, R, I, J))) rfl ?_
  exact zEv_c (fun _ => rfl) rfl hc rfl rfl k1
theorem b_240_24 {X : zX} {d : Nat} {R : zR} {I : zI} {J : zJ} {r : zA} {x1 : Int32} {x2 : Int32} {s0 : Int32} {w : Int32} {R' : zR} {I' : zI} {J' : zJ} (hc : zEv X d zm_179 (0, [some (.ref 215), some (.int (3 + x1))], [], (zS0, R, I, J)) (some (.int w), (zS0, R', I', J'))) (k1 : zEv X (d + 1) zm_240 (31, [some (.ref 215), some (.int x1), some (.int x2)], [.int w, .int s0], (zS0, R', I', J')) r) : zEv X (d + 1) zm_240 (24, [some (.ref 215), some (.int x1), some (.int x2)], [.int s0], (zS0, R, I, J)) r := by
  refine zEv_k 4 (f' := (28, [some (.ref 215), some (.int x1), some (.int x2)], [.int (3 + x1), .ref 215, .int s0], (zS0, R, I, J))) rfl ?_
  exact zEv_c (fun _ => rfl) rfl hc rfl rfl k1
theorem b_240_31 {X : zX} {d : Nat} {R : zR} {I : zI} {J : zJ} {r : zA} {x1 : Int32} {x2 : Int32} {s0 : Int32} {s1 : Int32} (k1 : s0 ≤ s1 → zEv X d zm_240 (38, [some (.ref 215), some (.int x1), some (.int x2)], [], (zS0, R, I, J)) r) (k2 : ¬ (s0 ≤ s1) → zEv X d zm_240 (34, [some (.ref 215), some (.int x1), some (.int x2)], [], (zS0, R, I, J)) r) : zEv X d zm_240 (31, [some (.ref 215), some (.int x1), some (.int x2)], [.int s1, .int s0], (zS0, R, I, J)) r := by
  refine zEv_k 1 (f' := (if s0 ≤ s1 then 38 else 34, [some (.ref 215), some (.int x1), some (.int x2)], [], (zS0, R, I, J))) rfl ?_
  exact zEv_if k1 k2
theorem b_240_34 {X : zX} {d : Nat} {R : zR} {I : zI} {J : zJ} {r : zA} {x1 : Int32} {x2 : Int32} (k1 : zEv X d zm_240 (39, [some (.ref 215), some (.int x1), some (.int x2)], [.int x2], (zS0, R, I, J)) r) : zEv X d zm_240 (34, [some (.ref 215), some (.int x1), some (.int x2)], [], (zS0, R, I, J)) r := by
  refine zEv_k 2 (f' := (39, [some (.ref 215), some (.int x1), some (.int x2)], [.int x2], (zS0, R, I, J))) rfl ?_
  exact k1
theorem b_240_38 {X : zX} {d : Nat} {R : zR} {I : zI} {J : zJ} {r : zA} {x1 : Int32} {x2 : Int32} (k1 : zEv X d zm_240 (39, [some (.ref 215), some (.int x1), some (.int x2)], [.int x1], (zS0, R, I, J)) r) : zEv X d zm_240 (38, [some (.ref 215), some (.int x1), some (.int x2)], [], (zS0, R, I, J)) r := by
  refine zEv_k 1 (f' := (39, [some (.ref 215), some (.int x1), some (.int x2)], [.int x1], (zS0, R, I, J))) rfl ?_
  exact k1
theorem b_240_39 {X : zX} {d : Nat} {R : zR} {I : zI} {J : zJ} {r : zA} {x1 : Int32} {x2 : Int32} {s0 : Int32} (k1 : zEv X d zm_240 (4, [some (.ref 215), some (.int s0), some (.int (x2 + 1))], [], (zS0, R, I, J)) r) : zEv X d zm_240 (39, [some (.ref 215), some (.int x1), some (.int x2)], [.int s0], (zS0, R, I, J)) r := by
  refine zEv_k 3 (f' := (4, [some (.ref 215), some (.int s0), some (.int (x2 + 1))], [], (zS0, R, I, J))) rfl ?_
  exact k1
theorem b_240_46 {X : zX} {d : Nat} {R : zR} {I : zI} {J : zJ} {x1 : Int32} {x2 : Int32} : zEv X d zm_240 (46, [some (.ref 215), some (.int x1), some (.int x2)], [], (zS0, R, I, J)) (some (.int x1), (zS0, R, I, J)) := by
  refine zEv_k 1 (f' := (47, [some (.ref 215), some (.int x1), some (.int x2)], [.int x1], (zS0, R, I, J))) rfl ?_
  exact zEv_r rfl
theorem b_241_0 {X : zX} {d : Nat} {R : zR} {I : zI} {J : zJ} {r : zA} {x1 : Int32} (k1 : zEv X d zm_241 (4, [some (.ref 215), some (.int x1), some (.int 0), some (.int 0)], [], (zS0, R, I, J)) r) : zEv X d zm_241 (0, [some (.ref 215), some (.int x1), none, none], [], (zS0, R, I, J)) r := by
  refine zEv_k 4 (f' := (4, [some (.ref 215), some (.int x1), some (.int 0), some (.int 0)], [], (zS0, R, I, J))) rfl ?_
  exact k1
theorem b_241_4 {X : zX} {d : Nat} {R : zR} {I : zI} {J : zJ} {r : zA} {x1 : Int32} {x2 : Int32} {x3 : Int32} (k1 : (I 215 23) ≤ x3 → zEv X d zm_241 (40, [some (.ref 215), some (.int x1), some (.int x2), some (.int x3)], [], (zS0, R, I, J)) r) (k2 : ¬ ((I 215 23) ≤ x3) → zEv X d zm_241 (12, [some (.ref 215), some (.int x1), some (.int x2), some (.int x3)], [], (zS0, R, I, J)) r) : zEv X d zm_241 (4, [some (.ref 215), some (.int x1), some (.int x2), some (.int x3)], [], (zS0, R, I, J)) r := by
  refine zEv_k 4 (f' := (if (I 215 23) ≤ x3 then 40 else 12, [some (.ref 215), some (.int x1), some (.int x2), some (.int x3)], [], (zS0, R, I, J))) rfl ?_
  exact zEv_if k1 k2
theorem b_241_12 {X : zX} {d : Nat} {R : zR} {I : zI} {J : zJ} {r : zA} {x1 : Int32} {x2 : Int32} {x3 : Int32} (k1 : (zf_has x1 x3) = 0 → zEv X (d + 1) zm_241 (31, [some (.ref 215), some (.int x1), some (.int x2), some (.int x3)], [.int x2], (zS0, R, I, J)) r) (k2 : ¬ ((zf_has x1 x3) = 0) → zEv X (d + 1) zm_241 (21, [some (.ref 215), some (.int x1), some (.int x2), some (.int x3)], [.int x2], (zS0, R, I, J)) r) : zEv X (d + 1) zm_241 (12, [some (.ref 215), some (.int x1), some (.int x2), some (.int x3)], [], (zS0, R, I, J)) r := by
  refine zEv_k 3 (f' := (15, [some (.ref 215), some (.int x1), some (.int x2), some (.int x3)], [.int x3, .int x1, .int x2], (zS0, R, I, J))) rfl ?_
  refine zEv_c (fun _ => rfl) rfl ev_zf_has rfl rfl ?_
  refine zEv_k 1 (f' := (if (zf_has x1 x3) = 0 then 31 else 21, [some (.ref 215), some (.int x1), some (.int x2), some (.int x3)], [.int x2], (zS0, R, I, J))) rfl ?_
  exact zEv_if k1 k2
theorem b_241_21 {X : zX} {d : Nat} {R : zR} {I : zI} {J : zJ} {r : zA} {x1 : Int32} {x2 : Int32} {x3 : Int32} {s0 : Int32} {w : Int32} {R' : zR} {I' : zI} {J' : zJ} (hc : zEv X d zm_179 (0, [some (.ref 215), some (.int (3 + x3))], [], (zS0, R, I, J)) (some (.int w), (zS0, R', I', J'))) (k1 : zEv X (d + 1) zm_241 (28, [some (.ref 215), some (.int x1), some (.int x2), some (.int x3)], [.int w, .int s0], (zS0, R', I', J')) r) : zEv X (d + 1) zm_241 (21, [some (.ref 215), some (.int x1), some (.int x2), some (.int x3)], [.int s0], (zS0, R, I, J)) r := by
  refine zEv_k 4 (f' := (25, [some (.ref 215), some (.int x1), some (.int x2), some (.int x3)], [.int (3 + x3), .ref 215, .int s0], (zS0, R, I, J))) rfl ?_
  exact zEv_c (fun _ => rfl) rfl hc rfl rfl k1
theorem b_241_28 {X : zX} {d : Nat} {R : zR} {I : zI} {J : zJ} {r : zA} {x1 : Int32} {x2 : Int32} {x3 : Int32} {s0 : Int32} {s1 : Int32} (k1 : zEv X d zm_241 (32, [some (.ref 215), some (.int x1), some (.int x2), some (.int x3)], [.int s1, .int s0], (zS0, R, I, J)) r) : zEv X d zm_241 (28, [some (.ref 215), some (.int x1), some (.int x2), some (.int x3)], [.int s1, .int s0], (zS0, R, I, J)) r := by
  refine zEv_k 1 (f' := (32, [some (.ref 215), some (.int x1), some (.int x2), some (.int x3)], [.int s1, .int s0], (zS0, R, I, J))) rfl ?_
  exact k1
theorem b_241_31 {X : zX} {d : Nat} {R : zR} {I : zI} {J : zJ} {r : zA} {x1 : Int32} {x2 : Int32} {x3 : Int32} {s0 : Int32} (k1 : zEv X d zm_241 (32, [some (.ref 215), some (.int x1), some (.int x2), some (.int x3)], [.int 0, .int s0], (zS0, R, I, J)) r) : zEv X d zm_241 (31, [some (.ref 215), some (.int x1), some (.int x2), some (.int x3)], [.int s0], (zS0, R, I, J)) r := by
  refine zEv_k 1 (f' := (32, [some (.ref 215), some (.int x1), some (.int x2), some (.int x3)], [.int 0, .int s0], (zS0, R, I, J))) rfl ?_
  exact k1
theorem b_241_32 {X : zX} {d : Nat} {R : zR} {I : zI} {J : zJ} {r : zA} {x1 : Int32} {x2 : Int32} {x3 : Int32} {s0 : Int32} {s1 : Int32} (k1 : zEv X d zm_241 (4, [some (.ref 215), some (.int x1), some (.int (s0 + s1)), some (.int (x3 + 1))], [], (zS0, R, I, J)) r) : zEv X d zm_241 (32, [some (.ref 215), some (.int x1), some (.int x2), some (.int x3)], [.int s1, .int s0], (zS0, R, I, J)) r := by
  refine zEv_k 4 (f' := (4, [some (.ref 215), some (.int x1), some (.int (s0 + s1)), some (.int (x3 + 1))], [], (zS0, R, I, J))) rfl ?_
  exact k1
theorem b_241_40 {X : zX} {d : Nat} {R : zR} {I : zI} {J : zJ} {x1 : Int32} {x2 : Int32} {x3 : Int32} : zEv X d zm_241 (40, [some (.ref 215), some (.int x1), some (.int x2), some (.int x3)], [], (zS0, R, I, J)) (some (.int x2), (zS0, R, I, J)) := by
  refine zEv_k 1 (f' := (41, [some (.ref 215), some (.int x1), some (.int x2), some (.int x3)], [.int x2], (zS0, R, I, J))) rfl ?_
  exact zEv_r rfl
theorem b_242_0 {X : zX} {d : Nat} {R : zR} {I : zI} {J : zJ} {r : zA} (k1 : zEv X d zm_242 (8, [some (.ref 215), some (.int (-1)), some (.int (-1000000)), some (.int 0), none], [], (zS0, R, I, J)) r) : zEv X d zm_242 (0, [some (.ref 215), none, none, none, none], [], (zS0, R, I, J)) r := by
  refine zEv_k 6 (f' := (8, [some (.ref 215), some (.int (-1)), some (.int (-1000000)), some (.int 0), none], [], (zS0, R, I, J))) rfl ?_
  exact k1
theorem b_242_8 {X : zX} {d : Nat} {R : zR} {I : zI} {J : zJ} {r : zA} {x1 : Int32} {x2 : Int32} {x3 : Int32} {x4 : Option Value} (k1 : (I 215 23) ≤ x3 → zEv X d zm_242 (60, [some (.ref 215), some (.int x1), some (.int x2), some (.int x3), x4], [], (zS0, R, I, J)) r) (k2 : ¬ ((I 215 23) ≤ x3) → zEv X d zm_242 (16, [some (.ref 215), some (.int x1), some (.int x2), some (.int x3), x4], [], (zS0, R, I, J)) r) : zEv X d zm_242 (8, [some (.ref 215), some (.int x1), some (.int x2), some (.int x3), x4], [], (zS0, R, I, J)) r := by
  refine zEv_k 4 (f' := (if (I 215 23) ≤ x3 then 60 else 16, [some (.ref 215), some (.int x1), some (.int x2), some (.int x3), x4], [], (zS0, R, I, J))) rfl ?_
  exact zEv_if k1 k2
theorem b_242_16 {X : zX} {d : Nat} {R : zR} {I : zI} {J : zJ} {r : zA} {x1 : Int32} {x2 : Int32} {x3 : Int32} {x4 : Option Value} {w : Int32} {R' : zR} {I' : zI} {J' : zJ} (hc : zEv X d zm_179 (0, [some (.ref 215), some (.int (17 + x3))], [], (zS0, R, I, J)) (some (.int w), (zS0, R', I', J'))) (k1 : zEv X (d + 1) zm_242 (24, [some (.ref 215), some (.int x1), some (.int x2), some (.int x3), x4], [.int w], (zS0, R', I', J')) r) : zEv X (d + 1) zm_242 (16, [some (.ref 215), some (.int x1), some (.int x2), some (.int x3), x4], [], (zS0, R, I, J)) r := by
  refine zEv_k 4 (f' := (21, [some (.ref 215), some (.int x1), some (.int x2), some (.int x3), x4], [.int (17 + x3), .ref 215], (zS0, R, I, J))) rfl ?_
  exact zEv_c (fun _ => rfl) rfl hc rfl rfl k1
theorem b_242_24 {X : zX} {d : Nat} {R : zR} {I : zI} {J : zJ} {r : zA} {x1 : Int32} {x2 : Int32} {x3 : Int32} {x4 : Option Value} {s0 : Int32} {w : Int32} {R' : zR} {I' : zI} {J' : zJ} (hc : zEv X d zm_179 (0, [some (.ref 215), some (.int (31 + x3))], [], (zS0, R, I, J)) (some (.int w), (zS0, R', I', J'))) (k1 : zEv X (d + 1) zm_242 (32, [some (.ref 215), some (.int x1), some (.int x2), some (.int x3), x4], [.int w, .int s0], (zS0, R', I', J')) r) : zEv X (d + 1) zm_242 (24, [some (.ref 215), some (.int x1), some (.int x2), some (.int x3), x4], [.int s0], (zS0, R, I, J)) r := by
  refine zEv_k 4 (f' := (29, [some (.ref 215), some (.int x1), some (.int x2), some (.int x3), x4], [.int (31 + x3), .ref 215, .int s0], (zS0, R, I, J))) rfl ?_
  exact zEv_c (fun _ => rfl) rfl hc rfl rfl k1
theorem b_242_32 {X : zX} {d : Nat} {R : zR} {I : zI} {J : zJ} {r : zA} {x1 : Int32} {x2 : Int32} {x3 : Int32} {x4 : Option Value} {s0 : Int32} {s1 : Int32} (k1 : (s0 - s1) ≤ x2 → zEv X d zm_242 (45, [some (.ref 215), some (.int x1), some (.int x2), some (.int x3), some (.int (s0 - s1))], [], (zS0, R, I, J)) r) (k2 : ¬ ((s0 - s1) ≤ x2) → zEv X d zm_242 (41, [some (.ref 215), some (.int x1), some (.int x2), some (.int x3), some (.int (s0 - s1))], [], (zS0, R, I, J)) r) : zEv X d zm_242 (32, [some (.ref 215), some (.int x1), some (.int x2), some (.int x3), x4], [.int s1, .int s0], (zS0, R, I, J)) r := by
  refine zEv_k 5 (f' := (if (s0 - s1) ≤ x2 then 45 else 41, [some (.ref 215), some (.int x1), some (.int x2), some (.int x3), some (.int (s0 - s1))], [], (zS0, R, I, J))) rfl ?_
  exact zEv_if k1 k2
theorem b_242_41 {X : zX} {d : Nat} {R : zR} {I : zI} {J : zJ} {r : zA} {x1 : Int32} {x2 : Int32} {x3 : Int32} {x4 : Int32} (k1 : zEv X d zm_242 (46, [some (.ref 215), some (.int x1), some (.int x2), some (.int x3), some (.int x4)], [.int x3], (zS0, R, I, J)) r) : zEv X d zm_242 (41, [some (.ref 215), some (.int x1), some (.int x2), some (.int x3), some (.int x4)], [], (zS0, R, I, J)) r := by
  refine zEv_k 2 (f' := (46, [some (.ref 215), some (.int x1), some (.int x2), some (.int x3), some (.int x4)], [.int x3], (zS0, R, I, J))) rfl ?_
  exact k1
theorem b_242_45 {X : zX} {d : Nat} {R : zR} {I : zI} {J : zJ} {r : zA} {x1 : Int32} {x2 : Int32} {x3 : Int32} {x4 : Int32} (k1 : zEv X d zm_242 (46, [some (.ref 215), some (.int x1), some (.int x2), some (.int x3), some (.int x4)], [.int x1], (zS0, R, I, J)) r) : zEv X d zm_242 (45, [some (.ref 215), some (.int x1), some (.int x2), some (.int x3), some (.int x4)], [], (zS0, R, I, J)) r := by
  refine zEv_k 1 (f' := (46, [some (.ref 215), some (.int x1), some (.int x2), some (.int x3), some (.int x4)], [.int x1], (zS0, R, I, J))) rfl ?_
  exact k1
theorem b_242_46 {X : zX} {d : Nat} {R : zR} {I : zI} {J : zJ} {r : zA} {x1 : Int32} {x2 : Int32} {x3 : Int32} {x4 : Int32} {s0 : Int32} (k1 : zEv X (d + 1) zm_242 (8, [some (.ref 215), some (.int s0), some (.int (zf_greater x2 x4)), some (.int (x3 + 1)), some (.int x4)], [], (zS0, R, I, J)) r) : zEv X (d + 1) zm_242 (46, [some (.ref 215), some (.int x1), some (.int x2), some (.int x3), some (.int x4)], [.int s0], (zS0, R, I, J)) r := by
  refine zEv_k 3 (f' := (50, [some (.ref 215), some (.int s0), some (.int x2), some (.int x3), some (.int x4)], [.int x4, .int x2], (zS0, R, I, J))) rfl ?_
  refine zEv_c (fun _ => rfl) rfl ev_zf_greater rfl rfl ?_
  refine zEv_k 3 (f' := (8, [some (.ref 215), some (.int s0), some (.int (zf_greater x2 x4)), some (.int (x3 + 1)), some (.int x4)], [], (zS0, R, I, J))) rfl ?_
  exact k1
theorem b_242_60 {X : zX} {d : Nat} {R : zR} {I : zI} {J : zJ} {x1 : Int32} {x2 : Int32} {x3 : Int32} {x4 : Option Value} : zEv X d zm_242 (60, [some (.ref 215), some (.int x1), some (.int x2), some (.int x3), x4], [], (zS0, R, I, J)) (some (.int x1), (zS0, R, I, J)) := by
  refine zEv_k 1 (f' := (61, [some (.ref 215), some (.int x1), some (.int x2), some (.int x3), x4], [.int x1], (zS0, R, I, J))) rfl ?_
  exact zEv_r rfl
theorem b_243_0 {X : zX} {d : Nat} {R : zR} {I : zI} {J : zJ} {r : zA} {x1 : Int32} (k1 : zEv X d zm_243 (7, [some (.ref 215), some (.int x1), some (.int (-1)), some (.int (-1)), some (.int 0), none], [], (zS0, R, I, J)) r) : zEv X d zm_243 (0, [some (.ref 215), some (.int x1), none, none, none, none], [], (zS0, R, I, J)) r := by
  refine zEv_k 6 (f' := (7, [some (.ref 215), some (.int x1), some (.int (-1)), some (.int (-1)), some (.int 0), none], [], (zS0, R, I, J))) rfl ?_
  exact k1
theorem b_243_7 {X : zX} {d : Nat} {R : zR} {I : zI} {J : zJ} {r : zA} {x1 : Int32} {x2 : Int32} {x3 : Int32} {x4 : Int32} {x5 : Option Value} (k1 : (I 215 23) ≤ x4 → zEv X d zm_243 (55, [some (.ref 215), some (.int x1), some (.int x2), some (.int x3), some (.int x4), x5], [], (zS0, R, I, J)) r) (k2 : ¬ ((I 215 23) ≤ x4) → zEv X d zm_243 (16, [some (.ref 215), some (.int x1), some (.int x2), some (.int x3), some (.int x4), x5], [], (zS0, R, I, J)) r) : zEv X d zm_243 (7, [some (.ref 215), some (.int x1), some (.int x2), some (.int x3), some (.int x4), x5], [], (zS0, R, I, J)) r := by
  refine zEv_k 4 (f' := (if (I 215 23) ≤ x4 then 55 else 16, [some (.ref 215), some (.int x1), some (.int x2), some (.int x3), some (.int x4), x5], [], (zS0, R, I, J))) rfl ?_
  exact zEv_if k1 k2
theorem b_243_16 {X : zX} {d : Nat} {R : zR} {I : zI} {J : zJ} {r : zA} {x1 : Int32} {x2 : Int32} {x3 : Int32} {x4 : Int32} {x5 : Option Value} {w : Int32} {R' : zR} {I' : zI} {J' : zJ} (hc : zEv X d zm_201 (0, [some (.ref 215), some (.int x4), some (.int 0), none], [], (zS0, R, I, J)) (some (.int w), (zS0, R', I', J'))) (k1 : zEv X (d + 1) zm_243 (24, [some (.ref 215), some (.int x1), some (.int x2), some (.int x3), some (.int x4), x5], [.int w, .ref 215], (zS0, R', I', J')) r) : zEv X (d + 1) zm_243 (16, [some (.ref 215), some (.int x1), some (.int x2), some (.int x3), some (.int x4), x5], [], (zS0, R, I, J)) r := by
  refine zEv_k 4 (f' := (21, [some (.ref 215), some (.int x1), some (.int x2), some (.int x3), some (.int x4), x5], [.int 0, .int x4, .ref 215, .ref 215], (zS0, R, I, J))) rfl ?_
  exact zEv_c (fun _ => rfl) rfl hc rfl rfl k1
theorem b_243_24 {X : zX} {d : Nat} {R : zR} {I : zI} {J : zJ} {r : zA} {x1 : Int32} {x2 : Int32} {x3 : Int32} {x4 : Int32} {x5 : Option Value} {s1 : Int32} {w : Int32} {R' : zR} {I' : zI} {J' : zJ} (hc : zEv X d zm_241 (0, [some (.ref 215), some (.int s1), none, none], [], (zS0, R, I, J)) (some (.int w), (zS0, R', I', J'))) (k1 : zEv X (d + 1) zm_243 (27, [some (.ref 215), some (.int x1), some (.int x2), some (.int x3), some (.int x4), x5], [.int w], (zS0, R', I', J')) r) : zEv X (d + 1) zm_243 (24, [some (.ref 215), some (.int x1), some (.int x2), some (.int x3), some (.int x4), x5], [.int s1, .ref 215], (zS0, R, I, J)) r := by
  exact zEv_c (fun _ => rfl) rfl hc rfl rfl k1
theorem b_243_27 {X : zX} {d : Nat} {R : zR} {I : zI} {J : zJ} {r : zA} {x1 : Int32} {x2 : Int32} {x3 : Int32} {x4 : Int32} {x5 : Option Value} {s0 : Int32} (k1 : s0 ≤ x3 → zEv X d zm_243 (40, [some (.ref 215), some (.int x1), some (.int x2), some (.int x3), some (.int x4), some (.int s0)], [], (zS0, R, I, J)) r) (k2 : ¬ (s0 ≤ x3) → zEv X d zm_243 (35, [some (.ref 215), some (.int x1), some (.int x2), some (.int x3), some (.int x4), some (.int s0)], [], (zS0, R, I, J)) r) : zEv X d zm_243 (27, [some (.ref 215), some (.int x1), some (.int x2), some (.int x3), some (.int x4), x5], [.int s0], (zS0, R, I, J)) r := by
  refine zEv_k 4 (f' := (if s0 ≤ x3 then 40 else 35, [some (.ref 215), some (.int x1), some (.int x2), some (.int x3), some (.int x4), some (.int s0)], [], (zS0, R, I, J))) rfl ?_
  exact zEv_if k1 k2
theorem b_243_35 {X : zX} {d : Nat} {R : zR} {I : zI} {J : zJ} {r : zA} {x1 : Int32} {x2 : Int32} {x3 : Int32} {x4 : Int32} {x5 : Int32} (k1 : zEv X d zm_243 (41, [some (.ref 215), some (.int x1), some (.int x2), some (.int x3), some (.int x4), some (.int x5)], [.int x4], (zS0, R, I, J)) r) : zEv X d zm_243 (35, [some (.ref 215), some (.int x1), some (.int x2), some (.int x3), some (.int x4), some (.int x5)], [], (zS0, R, I, J)) r := by
  refine zEv_k 2 (f' := (41, [some (.ref 215), some (.int x1), some (.int x2), some (.int x3), some (.int x4), some (.int x5)], [.int x4], (zS0, R, I, J))) rfl ?_
  exact k1
theorem b_243_40 {X : zX} {d : Nat} {R : zR} {I : zI} {J : zJ} {r : zA} {x1 : Int32} {x2 : Int32} {x3 : Int32} {x4 : Int32} {x5 : Int32} (k1 : zEv X d zm_243 (41, [some (.ref 215), some (.int x1), some (.int x2), some (.int x3), some (.int x4), some (.int x5)], [.int x2], (zS0, R, I, J)) r) : zEv X d zm_243 (40, [some (.ref 215), some (.int x1), some (.int x2), some (.int x3), some (.int x4), some (.int x5)], [], (zS0, R, I, J)) r := by
  refine zEv_k 1 (f' := (41, [some (.ref 215), some (.int x1), some (.int x2), some (.int x3), some (.int x4), some (.int x5)], [.int x2], (zS0, R, I, J))) rfl ?_
  exact k1
theorem b_243_41 {X : zX} {d : Nat} {R : zR} {I : zI} {J : zJ} {r : zA} {x1 : Int32} {x2 : Int32} {x3 : Int32} {x4 : Int32} {x5 : Int32} {s0 : Int32} (k1 : zEv X (d + 1) zm_243 (7, [some (.ref 215), some (.int x1), some (.int s0), some (.int (zf_greater x3 x5)), some (.int (x4 + 1)), some (.int x5)], [], (zS0, R, I, J)) r) : zEv X (d + 1) zm_243 (41, [some (.ref 215), some (.int x1), some (.int x2), some (.int x3), some (.int x4), some (.int x5)], [.int s0], (zS0, R, I, J)) r := by
  refine zEv_k 3 (f' := (45, [some (.ref 215), some (.int x1), some (.int s0), some (.int x3), some (.int x4), some (.int x5)], [.int x5, .int x3], (zS0, R, I, J))) rfl ?_
  refine zEv_c (fun _ => rfl) rfl ev_zf_greater rfl rfl ?_
  refine zEv_k 3 (f' := (7, [some (.ref 215), some (.int x1), some (.int s0), some (.int (zf_greater x3 x5)), some (.int (x4 + 1)), some (.int x5)], [], (zS0, R, I, J))) rfl ?_
  exact k1
theorem b_243_55 {X : zX} {d : Nat} {R : zR} {I : zI} {J : zJ} {r : zA} {x1 : Int32} {x2 : Int32} {x3 : Int32} {x4 : Int32} {x5 : Option Value} (k1 : x1 = 0 → zEv X d zm_243 (67, [some (.ref 215), some (.int x1), some (.int x2), some (.int x3), some (.int x4), x5], [], (zS0, R, I, J)) r) (k2 : ¬ (x1 = 0) → zEv X d zm_243 (59, [some (.ref 215), some (.int x1), some (.int x2), some (.int x3), some (.int x4), x5], [], (zS0, R, I, J)) r) : zEv X d zm_243 (55, [some (.ref 215), some (.int x1), some (.int x2), some (.int x3), some (.int x4), x5], [], (zS0, R, I, J)) r := by
  refine zEv_k 2 (f' := (if x1 = 0 then 67 else 59, [some (.ref 215), some (.int x1), some (.int x2), some (.int x3), some (.int x4), x5], [], (zS0, R, I, J))) rfl ?_
  exact zEv_if k1 k2
theorem b_243_59 {X : zX} {d : Nat} {R : zR} {I : zI} {J : zJ} {x1 : Int32} {x2 : Int32} {x3 : Int32} {x4 : Int32} {x5 : Option Value} : zEv X (d + 1) zm_243 (59, [some (.ref 215), some (.int x1), some (.int x2), some (.int x3), some (.int x4), x5], [], (zS0, R, I, J)) (some (.int (zf_greater 0 x3)), (zS0, R, I, J)) := by
  refine zEv_k 2 (f' := (61, [some (.ref 215), some (.int x1), some (.int x2), some (.int x3), some (.int x4), x5], [.int x3, .int 0], (zS0, R, I, J))) rfl ?_
  refine zEv_c (fun _ => rfl) rfl ev_zf_greater rfl rfl ?_
  refine zEv_k 1 (f' := (68, [some (.ref 215), some (.int x1), some (.int x2), some (.int x3), some (.int x4), x5], [.int (zf_greater 0 x3)], (zS0, R, I, J))) rfl ?_
  exact zEv_r rfl
theorem b_243_67 {X : zX} {d : Nat} {R : zR} {I : zI} {J : zJ} {x1 : Int32} {x2 : Int32} {x3 : Int32} {x4 : Int32} {x5 : Option Value} : zEv X d zm_243 (67, [some (.ref 215), some (.int x1), some (.int x2), some (.int x3), some (.int x4), x5], [], (zS0, R, I, J)) (some (.int x2), (zS0, R, I, J)) := by
  refine zEv_k 1 (f' := (68, [some (.ref 215), some (.int x1), some (.int x2), some (.int x3), some (.int x4), x5], [.int x2], (zS0, R, I, J))) rfl ?_
  exact zEv_r rfl
theorem b_244_0 {X : zX} {d : Nat} {R : zR} {I : zI} {J : zJ} {r : zA} {x1 : Int32} (k1 : zEv X d zm_244 (9, [some (.ref 215), some (.int x1), some (.int (-1)), some (.int 1000000), some (.int 0), none, none], [], (zS0, R, I, J)) r) : zEv X d zm_244 (0, [some (.ref 215), some (.int x1), none, none, none, none, none], [], (zS0, R, I, J)) r := by
  refine zEv_k 6 (f' := (9, [some (.ref 215), some (.int x1), some (.int (-1)), some (.int 1000000), some (.int 0), none, none], [], (zS0, R, I, J))) rfl ?_
  exact k1
theorem b_244_9 {X : zX} {d : Nat} {R : zR} {I : zI} {J : zJ} {r : zA} {x1 : Int32} {x2 : Int32} {x3 : Int32} {x4 : Int32} {x5 : Option Value} {x6 : Option Value} (k1 : (I 215 23) ≤ x4 → zEv X d zm_244 (90, [some (.ref 215), some (.int x1), some (.int x2), some (.int x3), some (.int x4), x5, x6], [], (zS0, R, I, J)) r) (k2 : ¬ ((I 215 23) ≤ x4) → zEv X d zm_244 (18, [some (.ref 215), some (.int x1), some (.int x2), some (.int x3), some (.int x4), x5, x6], [], (zS0, R, I, J)) r) : zEv X d zm_244 (9, [some (.ref 215), some (.int x1), some (.int x2), some (.int x3), some (.int x4), x5, x6], [], (zS0, R, I, J)) r := by
  refine zEv_k 4 (f' := (if (I 215 23) ≤ x4 then 90 else 18, [some (.ref 215), some (.int x1), some (.int x2), some (.int x3), some (.int x4), x5, x6], [], (zS0, R, I, J))) rfl ?_
  exact zEv_if k1 k2
theorem b_244_18 {X : zX} {d : Nat} {R : zR} {I : zI} {J : zJ} {r : zA} {x1 : Int32} {x2 : Int32} {x3 : Int32} {x4 : Int32} {x5 : Option Value} {x6 : Option Value} (k1 : zEv X d zm_244 (24, [some (.ref 215), some (.int x1), some (.int x2), some (.int x3), some (.int x4), some (.int (x4 + 1)), x6], [], (zS0, R, I, J)) r) : zEv X d zm_244 (18, [some (.ref 215), some (.int x1), some (.int x2), some (.int x3), some (.int x4), x5, x6], [], (zS0, R, I, J)) r := by
  refine zEv_k 4 (f' := (24, [some (.ref 215), some (.int x1), some (.int x2), some (.int x3), some (.int x4), some (.int (x4 + 1)), x6], [], (zS0, R, I, J))) rfl ?_
  exact k1
theorem b_244_24 {X : zX} {d : Nat} {R : zR} {I : zI} {J : zJ} {r : zA} {x1 : Int32} {x2 : Int32} {x3 : Int32} {x4 : Int32} {x5 : Int32} {x6 : Option Value} (k1 : (I 215 23) ≤ x5 → zEv X d zm_244 (84, [some (.ref 215), some (.int x1), some (.int x2), some (.int x3), some (.int x4), some (.int x5), x6], [], (zS0, R, I, J)) r) (k2 : ¬ ((I 215 23) ≤ x5) → zEv X d zm_244 (33, [some (.ref 215), some (.int x1), some (.int x2), some (.int x3), some (.int x4), some (.int x5), x6], [], (zS0, R, I, J)) r) : zEv X d zm_244 (24, [some (.ref 215), some (.int x1), some (.int x2), some (.int x3), some (.int x4), some (.int x5), x6], [], (zS0, R, I, J)) r := by
  refine zEv_k 4 (f' := (if (I 215 23) ≤ x5 then 84 else 33, [some (.ref 215), some (.int x1), some (.int x2), some (.int x3), some (.int x4), some (.int x5), x6], [], (zS0, R, I, J))) rfl ?_
  exact zEv_if k1 k2
theorem b_244_33 {X : zX} {d : Nat} {R : zR} {I : zI} {J : zJ} {r : zA} {x1 : Int32} {x2 : Int32} {x3 : Int32} {x4 : Int32} {x5 : Int32} {x6 : Option Value} (hR : zRok R) (h39 : zin x4 7) (h46 : zin x5 7) (k1 : x3 ≤ (zf_away (I 229 (x4).toNatClampNeg) (I 229 (x5).toNatClampNeg)) → zEv X (d + 1) zm_244 (69, [some (.ref 215), some (.int x1), some (.int x2), some (.int x3), some (.int x4), some (.int x5), some (.int (zf_away (I 229 (x4).toNatClampNeg) (I 229 (x5).toNatClampNeg)))], [], (zS0, R, I, J)) r) (k2 : ¬ (x3 ≤ (zf_away (I 229 (x4).toNatClampNeg) (I 229 (x5).toNatClampNeg))) → zEv X (d + 1) zm_244 (58, [some (.ref 215), some (.int x1), some (.int x2), some (.int x3), some (.int x4), some (.int x5), some (.int (zf_away (I 229 (x4).toNatClampNeg) (I 229 (x5).toNatClampNeg)))], [], (zS0, R, I, J)) r) : zEv X (d + 1) zm_244 (33, [some (.ref 215), some (.int x1), some (.int x2), some (.int x3), some (.int x4), some (.int x5), x6], [], (zS0, R, I, J)) r := by
  refine zEv_k 1 (f' := (34, [some (.ref 215), some (.int x1), some (.int x2), some (.int x3), some (.int x4), some (.int x5), x6], [.ref 215], (zS0, R, I, J))) rfl ?_
  refine zEv_gr rfl rfl rfl (by decide) (hR 215 36 229 rfl) ?_
  refine zEv_k 1 (f' := (39, [some (.ref 215), some (.int x1), some (.int x2), some (.int x3), some (.int x4), some (.int x5), x6], [.int x4, .ref 229], (zS0, R, I, J))) rfl ?_
  refine zEv_ial rfl rfl (by decide) h39 ?_
  refine zEv_k 1 (f' := (41, [some (.ref 215), some (.int x1), some (.int x2), some (.int x3), some (.int x4), some (.int x5), x6], [.ref 215, .int (I 229 (x4).toNatClampNeg)], (zS0, R, I, J))) rfl ?_
  refine zEv_gr rfl rfl rfl (by decide) (hR 215 36 229 rfl) ?_
  refine zEv_k 1 (f' := (46, [some (.ref 215), some (.int x1), some (.int x2), some (.int x3), some (.int x4), some (.int x5), x6], [.int x5, .ref 229, .int (I 229 (x4).toNatClampNeg)], (zS0, R, I, J))) rfl ?_
  refine zEv_ial rfl rfl (by decide) h46 ?_
  refine zEv_c (fun _ => rfl) rfl ev_zf_away rfl rfl ?_
  refine zEv_k 4 (f' := (if x3 ≤ (zf_away (I 229 (x4).toNatClampNeg) (I 229 (x5).toNatClampNeg)) then 69 else 58, [some (.ref 215), some (.int x1), some (.int x2), some (.int x3), some (.int x4), some (.int x5), some (.int (zf_away (I 229 (x4).toNatClampNeg) (I 229 (x5).toNatClampNeg)))], [], (zS0, R, I, J))) rfl ?_
  exact zEv_if k1 k2
theorem b_244_58 {X : zX} {d : Nat} {R : zR} {I : zI} {J : zJ} {r : zA} {x1 : Int32} {x2 : Int32} {x3 : Int32} {x4 : Int32} {x5 : Int32} {x6 : Int32} (k1 : zEv X d zm_244 (70, [some (.ref 215), some (.int x1), some (.int x2), some (.int x3), some (.int x4), some (.int x5), some (.int x6)], [.int ((10 * x4) + x5)], (zS0, R, I, J)) r) : zEv X d zm_244 (58, [some (.ref 215), some (.int x1), some (.int x2), some (.int x3), some (.int x4), some (.int x5), some (.int x6)], [], (zS0, R, I, J)) r := by
  refine zEv_k 6 (f' := (70, [some (.ref 215), some (.int x1), some (.int x2), some (.int x3), some (.int x4), some (.int x5), some (.int x6)], [.int ((10 * x4) + x5)], (zS0, R, I, J))) rfl ?_
  exact k1
theorem b_244_69 {X : zX} {d : Nat} {R : zR} {I : zI} {J : zJ} {r : zA} {x1 : Int32} {x2 : Int32} {x3 : Int32} {x4 : Int32} {x5 : Int32} {x6 : Int32} (k1 : zEv X d zm_244 (70, [some (.ref 215), some (.int x1), some (.int x2), some (.int x3), some (.int x4), some (.int x5), some (.int x6)], [.int x2], (zS0, R, I, J)) r) : zEv X d zm_244 (69, [some (.ref 215), some (.int x1), some (.int x2), some (.int x3), some (.int x4), some (.int x5), some (.int x6)], [], (zS0, R, I, J)) r := by
  refine zEv_k 1 (f' := (70, [some (.ref 215), some (.int x1), some (.int x2), some (.int x3), some (.int x4), some (.int x5), some (.int x6)], [.int x2], (zS0, R, I, J))) rfl ?_
  exact k1
theorem b_244_70 {X : zX} {d : Nat} {R : zR} {I : zI} {J : zJ} {r : zA} {x1 : Int32} {x2 : Int32} {x3 : Int32} {x4 : Int32} {x5 : Int32} {x6 : Int32} {s0 : Int32} (k1 : zEv X (d + 1) zm_244 (24, [some (.ref 215), some (.int x1), some (.int s0), some (.int (zf_lesser x3 x6)), some (.int x4), some (.int (x5 + 1)), some (.int x6)], [], (zS0, R, I, J)) r) : zEv X (d + 1) zm_244 (70, [some (.ref 215), some (.int x1), some (.int x2), some (.int x3), some (.int x4), some (.int x5), some (.int x6)], [.int s0], (zS0, R, I, J)) r := by
  refine zEv_k 3 (f' := (74, [some (.ref 215), some (.int x1), some (.int s0), some (.int x3), some (.int x4), some (.int x5), some (.int x6)], [.int x6, .int x3], (zS0, R, I, J))) rfl ?_
  refine zEv_c (fun _ => rfl) rfl ev_zf_lesser rfl rfl ?_
  refine zEv_k 3 (f' := (24, [some (.ref 215), some (.int x1), some (.int s0), some (.int (zf_lesser x3 x6)), some (.int x4), some (.int (x5 + 1)), some (.int x6)], [], (zS0, R, I, J))) rfl ?_
  exact k1
theorem b_244_84 {X : zX} {d : Nat} {R : zR} {I : zI} {J : zJ} {r : zA} {x1 : Int32} {x2 : Int32} {x3 : Int32} {x4 : Int32} {x5 : Int32} {x6 : Option Value} (k1 : zEv X d zm_244 (9, [some (.ref 215), some (.int x1), some (.int x2), some (.int x3), some (.int (x4 + 1)), some (.int x5), x6], [], (zS0, R, I, J)) r) : zEv X d zm_244 (84, [some (.ref 215), some (.int x1), some (.int x2), some (.int x3), some (.int x4), some (.int x5), x6], [], (zS0, R, I, J)) r := by
  refine zEv_k 2 (f' := (9, [some (.ref 215), some (.int x1), some (.int x2), some (.int x3), some (.int (x4 + 1)), some (.int x5), x6], [], (zS0, R, I, J))) rfl ?_
  exact k1
theorem b_244_90 {X : zX} {d : Nat} {R : zR} {I : zI} {J : zJ} {r : zA} {x1 : Int32} {x2 : Int32} {x3 : Int32} {x4 : Int32} {x5 : Option Value} {x6 : Option Value} (k1 : ¬ x1 = 0 → zEv X d zm_244 (98, [some (.ref 215), some (.int x1), some (.int x2), some (.int x3), some (.int x4), x5, x6], [], (zS0, R, I, J)) r) (k2 : ¬ (¬ x1 = 0) → zEv X d zm_244 (94, [some (.ref 215), some (.int x1), some (.int x2), some (.int x3), some (.int x4), x5, x6], [], (zS0, R, I, J)) r) : zEv X d zm_244 (90, [some (.ref 215), some (.int x1), some (.int x2), some (.int x3), some (.int x4), x5, x6], [], (zS0, R, I, J)) r := by
  refine zEv_k 2 (f' := (if ¬ x1 = 0 then 98 else 94, [some (.ref 215), some (.int x1), some (.int x2), some (.int x3), some (.int x4), x5, x6], [], (zS0, R, I, J))) rfl ?_
  exact zEv_if k1 k2
theorem b_244_94 {X : zX} {d : Nat} {R : zR} {I : zI} {J : zJ} {x1 : Int32} {x2 : Int32} {x3 : Int32} {x4 : Int32} {x5 : Option Value} {x6 : Option Value} : zEv X d zm_244 (94, [some (.ref 215), some (.int x1), some (.int x2), some (.int x3), some (.int x4), x5, x6], [], (zS0, R, I, J)) (some (.int x2), (zS0, R, I, J)) := by
  refine zEv_k 2 (f' := (108, [some (.ref 215), some (.int x1), some (.int x2), some (.int x3), some (.int x4), x5, x6], [.int x2], (zS0, R, I, J))) rfl ?_
  exact zEv_r rfl
theorem b_244_98 {X : zX} {d : Nat} {R : zR} {I : zI} {J : zJ} {r : zA} {x1 : Int32} {x2 : Int32} {x3 : Int32} {x4 : Int32} {x5 : Option Value} {x6 : Option Value} (k1 : ¬ x2 = (-1) → zEv X d zm_244 (107, [some (.ref 215), some (.int x1), some (.int x2), some (.int x3), some (.int x4), x5, x6], [], (zS0, R, I, J)) r) (k2 : ¬ (¬ x2 = (-1)) → zEv X d zm_244 (103, [some (.ref 215), some (.int x1), some (.int x2), some (.int x3), some (.int x4), x5, x6], [], (zS0, R, I, J)) r) : zEv X d zm_244 (98, [some (.ref 215), some (.int x1), some (.int x2), some (.int x3), some (.int x4), x5, x6], [], (zS0, R, I, J)) r := by
  refine zEv_k 3 (f' := (if ¬ x2 = (-1) then 107 else 103, [some (.ref 215), some (.int x1), some (.int x2), some (.int x3), some (.int x4), x5, x6], [], (zS0, R, I, J))) rfl ?_
  exact zEv_if k1 k2
theorem b_244_103 {X : zX} {d : Nat} {R : zR} {I : zI} {J : zJ} {x1 : Int32} {x2 : Int32} {x3 : Int32} {x4 : Int32} {x5 : Option Value} {x6 : Option Value} : zEv X d zm_244 (103, [some (.ref 215), some (.int x1), some (.int x2), some (.int x3), some (.int x4), x5, x6], [], (zS0, R, I, J)) (some (.int 0), (zS0, R, I, J)) := by
  refine zEv_k 2 (f' := (108, [some (.ref 215), some (.int x1), some (.int x2), some (.int x3), some (.int x4), x5, x6], [.int 0], (zS0, R, I, J))) rfl ?_
  exact zEv_r rfl
theorem b_244_107 {X : zX} {d : Nat} {R : zR} {I : zI} {J : zJ} {x1 : Int32} {x2 : Int32} {x3 : Int32} {x4 : Int32} {x5 : Option Value} {x6 : Option Value} : zEv X d zm_244 (107, [some (.ref 215), some (.int x1), some (.int x2), some (.int x3), some (.int x4), x5, x6], [], (zS0, R, I, J)) (some (.int x3), (zS0, R, I, J)) := by
  refine zEv_k 1 (f' := (108, [some (.ref 215), some (.int x1), some (.int x2), some (.int x3), some (.int x4), x5, x6], [.int x3], (zS0, R, I, J))) rfl ?_
  exact zEv_r rfl
theorem b_245_0 {X : zX} {d : Nat} {R : zR} {I : zI} {J : zJ} {r : zA} {x1 : Int32} (k1 : zEv X d zm_245 (6, [some (.ref 215), some (.int x1), some (.int ((1 : Int32) <<< (x1 &&& 31))), some (.int 0), none, none], [], (zS0, R, I, J)) r) : zEv X d zm_245 (0, [some (.ref 215), some (.int x1), none, none, none, none], [], (zS0, R, I, J)) r := by
  refine zEv_k 6 (f' := (6, [some (.ref 215), some (.int x1), some (.int ((1 : Int32) <<< (x1 &&& 31))), some (.int 0), none, none], [], (zS0, R, I, J))) rfl ?_
  exact k1
theorem b_245_6 {X : zX} {d : Nat} {R : zR} {I : zI} {J : zJ} {r : zA} {x1 : Int32} {x2 : Int32} {x3 : Int32} {x4 : Option Value} {x5 : Option Value} (k1 : 7 ≤ x3 → zEv X d zm_245 (126, [some (.ref 215), some (.int x1), some (.int x2), some (.int x3), x4, x5], [], (zS0, R, I, J)) r) (k2 : ¬ (7 ≤ x3) → zEv X d zm_245 (12, [some (.ref 215), some (.int x1), some (.int x2), some (.int x3), x4, x5], [], (zS0, R, I, J)) r) : zEv X d zm_245 (6, [some (.ref 215), some (.int x1), some (.int x2), some (.int x3), x4, x5], [], (zS0, R, I, J)) r := by
  refine zEv_k 3 (f' := (if 7 ≤ x3 then 126 else 12, [some (.ref 215), some (.int x1), some (.int x2), some (.int x3), x4, x5], [], (zS0, R, I, J))) rfl ?_
  exact zEv_if k1 k2
theorem b_245_12 {X : zX} {d : Nat} {R : zR} {I : zI} {J : zJ} {r : zA} {x1 : Int32} {x2 : Int32} {x3 : Int32} {x4 : Option Value} {x5 : Option Value} (k1 : zEv X d zm_245 (15, [some (.ref 215), some (.int x1), some (.int x2), some (.int x3), some (.int 0), x5], [], (zS0, R, I, J)) r) : zEv X d zm_245 (12, [some (.ref 215), some (.int x1), some (.int x2), some (.int x3), x4, x5], [], (zS0, R, I, J)) r := by
  refine zEv_k 2 (f' := (15, [some (.ref 215), some (.int x1), some (.int x2), some (.int x3), some (.int 0), x5], [], (zS0, R, I, J))) rfl ?_
  exact k1
theorem b_245_15 {X : zX} {d : Nat} {R : zR} {I : zI} {J : zJ} {r : zA} {x1 : Int32} {x2 : Int32} {x3 : Int32} {x4 : Int32} {x5 : Option Value} (k1 : 49 ≤ x4 → zEv X d zm_245 (120, [some (.ref 215), some (.int x1), some (.int x2), some (.int x3), some (.int x4), x5], [], (zS0, R, I, J)) r) (k2 : ¬ (49 ≤ x4) → zEv X d zm_245 (22, [some (.ref 215), some (.int x1), some (.int x2), some (.int x3), some (.int x4), x5], [], (zS0, R, I, J)) r) : zEv X d zm_245 (15, [some (.ref 215), some (.int x1), some (.int x2), some (.int x3), some (.int x4), x5], [], (zS0, R, I, J)) r := by
  refine zEv_k 3 (f' := (if 49 ≤ x4 then 120 else 22, [some (.ref 215), some (.int x1), some (.int x2), some (.int x3), some (.int x4), x5], [], (zS0, R, I, J))) rfl ?_
  exact zEv_if k1 k2
theorem b_245_22 {X : zX} {d : Nat} {R : zR} {I : zI} {J : zJ} {r : zA} {x1 : Int32} {x2 : Int32} {x3 : Int32} {x4 : Int32} {x5 : Option Value} (k1 : (I 215 23) ≤ (x4 / 7) → zEv X d zm_245 (92, [some (.ref 215), some (.int x1), some (.int x2), some (.int x3), some (.int x4), x5], [], (zS0, R, I, J)) r) (k2 : ¬ ((I 215 23) ≤ (x4 / 7)) → zEv X d zm_245 (34, [some (.ref 215), some (.int x1), some (.int x2), some (.int x3), some (.int x4), x5], [], (zS0, R, I, J)) r) : zEv X d zm_245 (22, [some (.ref 215), some (.int x1), some (.int x2), some (.int x3), some (.int x4), x5], [], (zS0, R, I, J)) r := by
  refine zEv_k 2 (f' := (26, [some (.ref 215), some (.int x1), some (.int x2), some (.int x3), some (.int x4), x5], [.int 7, .int x4], (zS0, R, I, J))) rfl ?_
  refine zEv_div rfl (by decide) ?_
  refine zEv_k 3 (f' := (if (I 215 23) ≤ (x4 / 7) then 92 else 34, [some (.ref 215), some (.int x1), some (.int x2), some (.int x3), some (.int x4), x5], [], (zS0, R, I, J))) rfl ?_
  exact zEv_if k1 k2
theorem b_245_34 {X : zX} {d : Nat} {R : zR} {I : zI} {J : zJ} {r : zA} {x1 : Int32} {x2 : Int32} {x3 : Int32} {x4 : Int32} {x5 : Option Value} (k1 : (I 215 23) ≤ (x4 - x4 / 7 * 7) → zEv X d zm_245 (92, [some (.ref 215), some (.int x1), some (.int x2), some (.int x3), some (.int x4), x5], [], (zS0, R, I, J)) r) (k2 : ¬ ((I 215 23) ≤ (x4 - x4 / 7 * 7)) → zEv X d zm_245 (46, [some (.ref 215), some (.int x1), some (.int x2), some (.int x3), some (.int x4), x5], [], (zS0, R, I, J)) r) : zEv X d zm_245 (34, [some (.ref 215), some (.int x1), some (.int x2), some (.int x3), some (.int x4), x5], [], (zS0, R, I, J)) r := by
  refine zEv_k 2 (f' := (38, [some (.ref 215), some (.int x1), some (.int x2), some (.int x3), some (.int x4), x5], [.int 7, .int x4], (zS0, R, I, J))) rfl ?_
  refine zEv_rem rfl (by decide) ?_
  refine zEv_k 3 (f' := (if (I 215 23) ≤ (x4 - x4 / 7 * 7) then 92 else 46, [some (.ref 215), some (.int x1), some (.int x2), some (.int x3), some (.int x4), x5], [], (zS0, R, I, J))) rfl ?_
  exact zEv_if k1 k2
theorem b_245_46 {X : zX} {d : Nat} {R : zR} {I : zI} {J : zJ} {r : zA} {x1 : Int32} {x2 : Int32} {x3 : Int32} {x4 : Int32} {x5 : Option Value} (k1 : (zf_has x2 (x4 / 7)) = 0 → zEv X (d + 1) zm_245 (92, [some (.ref 215), some (.int x1), some (.int x2), some (.int x3), some (.int x4), x5], [], (zS0, R, I, J)) r) (k2 : ¬ ((zf_has x2 (x4 / 7)) = 0) → zEv X (d + 1) zm_245 (58, [some (.ref 215), some (.int x1), some (.int x2), some (.int x3), some (.int x4), x5], [], (zS0, R, I, J)) r) : zEv X (d + 1) zm_245 (46, [some (.ref 215), some (.int x1), some (.int x2), some (.int x3), some (.int x4), x5], [], (zS0, R, I, J)) r := by
  refine zEv_k 3 (f' := (51, [some (.ref 215), some (.int x1), some (.int x2), some (.int x3), some (.int x4), x5], [.int 7, .int x4, .int x2], (zS0, R, I, J))) rfl ?_
  refine zEv_div rfl (by decide) ?_
  refine zEv_c (fun _ => rfl) rfl ev_zf_has rfl rfl ?_
  refine zEv_k 1 (f' := (if (zf_has x2 (x4 / 7)) = 0 then 92 else 58, [some (.ref 215), some (.int x1), some (.int x2), some (.int x3), some (.int x4), x5], [], (zS0, R, I, J))) rfl ?_
  exact zEv_if k1 k2
theorem b_245_58 {X : zX} {d : Nat} {R : zR} {I : zI} {J : zJ} {r : zA} {x1 : Int32} {x2 : Int32} {x3 : Int32} {x4 : Int32} {x5 : Option Value} (hR : zRok R) (h67 : zin (x4 / 7) 7) (h77 : zin (x4 - x4 / 7 * 7) 7) (k1 : (I 215 25) < (zf_away (I 229 (x4 / 7).toNatClampNeg) (I 229 (x4 - x4 / 7 * 7).toNatClampNeg)) → zEv X (d + 1) zm_245 (92, [some (.ref 215), some (.int x1), some (.int x2), some (.int x3), some (.int x4), x5], [], (zS0, R, I, J)) r) (k2 : ¬ ((I 215 25) < (zf_away (I 229 (x4 / 7).toNatClampNeg) (I 229 (x4 - x4 / 7 * 7).toNatClampNeg))) → zEv X (d + 1) zm_245 (88, [some (.ref 215), some (.int x1), some (.int x2), some (.int x3), some (.int x4), x5], [], (zS0, R, I, J)) r) : zEv X (d + 1) zm_245 (58, [some (.ref 215), some (.int x1), some (.int x2), some (.int x3), some (.int x4), x5], [], (zS0, R, I, J)) r := by
  refine zEv_k 1 (f' := (59, [some (.ref 215), some (.int x1), some (.int x2), some (.int x3), some (.int x4), x5], [.ref 215], (zS0, R, I, J))) rfl ?_
  refine zEv_gr rfl rfl rfl (by decide) (hR 215 36 229 rfl) ?_
  refine zEv_k 2 (f' := (66, [some (.ref 215), some (.int x1), some (.int x2), some (.int x3), some (.int x4), x5], [.int 7, .int x4, .ref 229], (zS0, R, I, J))) rfl ?_
  refine zEv_div rfl (by decide) ?_
  refine zEv_ial rfl rfl (by decide) h67 ?_
  refine zEv_k 1 (f' := (69, [some (.ref 215), some (.int x1), some (.int x2), some (.int x3), some (.int x4), x5], [.ref 215, .int (I 229 (x4 / 7).toNatClampNeg)], (zS0, R, I, J))) rfl ?_
  refine zEv_gr rfl rfl rfl (by decide) (hR 215 36 229 rfl) ?_
  refine zEv_k 2 (f' := (76, [some (.ref 215), some (.int x1), some (.int x2), some (.int x3), some (.int x4), x5], [.int 7, .int x4, .ref 229, .int (I 229 (x4 / 7).toNatClampNeg)], (zS0, R, I, J))) rfl ?_
  refine zEv_rem rfl (by decide) ?_
  refine zEv_ial rfl rfl (by decide) h77 ?_
  refine zEv_c (fun _ => rfl) rfl ev_zf_away rfl rfl ?_
  refine zEv_k 3 (f' := (if (I 215 25) < (zf_away (I 229 (x4 / 7).toNatClampNeg) (I 229 (x4 - x4 / 7 * 7).toNatClampNeg)) then 92 else 88, [some (.ref 215), some (.int x1), some (.int x2), some (.int x3), some (.int x4), x5], [], (zS0, R, I, J))) rfl ?_
  exact zEv_if k1 k2
theorem b_245_88 {X : zX} {d : Nat} {R : zR} {I : zI} {J : zJ} {r : zA} {x1 : Int32} {x2 : Int32} {x3 : Int32} {x4 : Int32} {x5 : Option Value} (k1 : zEv X d zm_245 (93, [some (.ref 215), some (.int x1), some (.int x2), some (.int x3), some (.int x4), x5], [.int 1], (zS0, R, I, J)) r) : zEv X d zm_245 (88, [some (.ref 215), some (.int x1), some (.int x2), some (.int x3), some (.int x4), x5], [], (zS0, R, I, J)) r := by
  refine zEv_k 2 (f' := (93, [some (.ref 215), some (.int x1), some (.int x2), some (.int x3), some (.int x4), x5], [.int 1], (zS0, R, I, J))) rfl ?_
  exact k1
theorem b_245_92 {X : zX} {d : Nat} {R : zR} {I : zI} {J : zJ} {r : zA} {x1 : Int32} {x2 : Int32} {x3 : Int32} {x4 : Int32} {x5 : Option Value} (k1 : zEv X d zm_245 (93, [some (.ref 215), some (.int x1), some (.int x2), some (.int x3), some (.int x4), x5], [.int 0], (zS0, R, I, J)) r) : zEv X d zm_245 (92, [some (.ref 215), some (.int x1), some (.int x2), some (.int x3), some (.int x4), x5], [], (zS0, R, I, J)) r := by
  refine zEv_k 1 (f' := (93, [some (.ref 215), some (.int x1), some (.int x2), some (.int x3), some (.int x4), x5], [.int 0], (zS0, R, I, J))) rfl ?_
  exact k1
theorem b_245_93 {X : zX} {d : Nat} {R : zR} {I : zI} {J : zJ} {r : zA} {x1 : Int32} {x2 : Int32} {x3 : Int32} {x4 : Int32} {x5 : Option Value} {s0 : Int32} (k1 : s0 = 0 → zEv X d zm_245 (111, [some (.ref 215), some (.int x1), some (.int x2), some (.int x3), some (.int x4), some (.int s0)], [.int x2], (zS0, R, I, J)) r) (k2 : ¬ (s0 = 0) → zEv X d zm_245 (101, [some (.ref 215), some (.int x1), some (.int x2), some (.int x3), some (.int x4), some (.int s0)], [.int x2], (zS0, R, I, J)) r) : zEv X d zm_245 (93, [some (.ref 215), some (.int x1), some (.int x2), some (.int x3), some (.int x4), x5], [.int s0], (zS0, R, I, J)) r := by
  refine zEv_k 4 (f' := (if s0 = 0 then 111 else 101, [some (.ref 215), some (.int x1), some (.int x2), some (.int x3), some (.int x4), some (.int s0)], [.int x2], (zS0, R, I, J))) rfl ?_
  exact zEv_if k1 k2
theorem b_245_101 {X : zX} {d : Nat} {R : zR} {I : zI} {J : zJ} {r : zA} {x1 : Int32} {x2 : Int32} {x3 : Int32} {x4 : Int32} {x5 : Int32} {s0 : Int32} (k1 : zEv X d zm_245 (112, [some (.ref 215), some (.int x1), some (.int x2), some (.int x3), some (.int x4), some (.int x5)], [.int ((1 : Int32) <<< ((x4 - x4 / 7 * 7) &&& 31)), .int s0], (zS0, R, I, J)) r) : zEv X d zm_245 (101, [some (.ref 215), some (.int x1), some (.int x2), some (.int x3), some (.int x4), some (.int x5)], [.int s0], (zS0, R, I, J)) r := by
  refine zEv_k 3 (f' := (106, [some (.ref 215), some (.int x1), some (.int x2), some (.int x3), some (.int x4), some (.int x5)], [.int 7, .int x4, .int 1, .int s0], (zS0, R, I, J))) rfl ?_
  refine zEv_rem rfl (by decide) ?_
  refine zEv_k 2 (f' := (112, [some (.ref 215), some (.int x1), some (.int x2), some (.int x3), some (.int x4), some (.int x5)], [.int ((1 : Int32) <<< ((x4 - x4 / 7 * 7) &&& 31)), .int s0], (zS0, R, I, J))) rfl ?_
  exact k1
theorem b_245_111 {X : zX} {d : Nat} {R : zR} {I : zI} {J : zJ} {r : zA} {x1 : Int32} {x2 : Int32} {x3 : Int32} {x4 : Int32} {x5 : Int32} {s0 : Int32} (k1 : zEv X d zm_245 (112, [some (.ref 215), some (.int x1), some (.int x2), some (.int x3), some (.int x4), some (.int x5)], [.int 0, .int s0], (zS0, R, I, J)) r) : zEv X d zm_245 (111, [some (.ref 215), some (.int x1), some (.int x2), some (.int x3), some (.int x4), some (.int x5)], [.int s0], (zS0, R, I, J)) r := by
  refine zEv_k 1 (f' := (112, [some (.ref 215), some (.int x1), some (.int x2), some (.int x3), some (.int x4), some (.int x5)], [.int 0, .int s0], (zS0, R, I, J))) rfl ?_
  exact k1
theorem b_245_112 {X : zX} {d : Nat} {R : zR} {I : zI} {J : zJ} {r : zA} {x1 : Int32} {x2 : Int32} {x3 : Int32} {x4 : Int32} {x5 : Int32} {s0 : Int32} {s1 : Int32} (k1 : zEv X d zm_245 (15, [some (.ref 215), some (.int x1), some (.int (s0 ||| s1)), some (.int x3), some (.int (x4 + 1)), some (.int x5)], [], (zS0, R, I, J)) r) : zEv X d zm_245 (112, [some (.ref 215), some (.int x1), some (.int x2), some (.int x3), some (.int x4), some (.int x5)], [.int s1, .int s0], (zS0, R, I, J)) r := by
  refine zEv_k 4 (f' := (15, [some (.ref 215), some (.int x1), some (.int (s0 ||| s1)), some (.int x3), some (.int (x4 + 1)), some (.int x5)], [], (zS0, R, I, J))) rfl ?_
  exact k1
theorem b_245_120 {X : zX} {d : Nat} {R : zR} {I : zI} {J : zJ} {r : zA} {x1 : Int32} {x2 : Int32} {x3 : Int32} {x4 : Int32} {x5 : Option Value} (k1 : zEv X d zm_245 (6, [some (.ref 215), some (.int x1), some (.int x2), some (.int (x3 + 1)), some (.int x4), x5], [], (zS0, R, I, J)) r) : zEv X d zm_245 (120, [some (.ref 215), some (.int x1), some (.int x2), some (.int x3), some (.int x4), x5], [], (zS0, R, I, J)) r := by
  refine zEv_k 2 (f' := (6, [some (.ref 215), some (.int x1), some (.int x2), some (.int (x3 + 1)), some (.int x4), x5], [], (zS0, R, I, J))) rfl ?_
  exact k1
theorem b_245_126 {X : zX} {d : Nat} {R : zR} {I : zI} {J : zJ} {x1 : Int32} {x2 : Int32} {x3 : Int32} {x4 : Option Value} {x5 : Option Value} : zEv X d zm_245 (126, [some (.ref 215), some (.int x1), some (.int x2), some (.int x3), x4, x5], [], (zS0, R, I, J)) (some (.int x2), (zS0, R, I, J)) := by
  refine zEv_k 1 (f' := (127, [some (.ref 215), some (.int x1), some (.int x2), some (.int x3), x4, x5], [.int x2], (zS0, R, I, J))) rfl ?_
  exact zEv_r rfl
theorem b_246_0 {X : zX} {d : Nat} {R : zR} {I : zI} {J : zJ} {r : zA} {x1 : Int32} (k1 : zEv X d zm_246 (7, [some (.ref 215), some (.int x1), some (.int 0), some (.int 0), some (.int 0), none], [], (zS0, R, I, J)) r) : zEv X d zm_246 (0, [some (.ref 215), some (.int x1), none, none, none, none], [], (zS0, R, I, J)) r := by
  refine zEv_k 6 (f' := (7, [some (.ref 215), some (.int x1), some (.int 0), some (.int 0), some (.int 0), none], [], (zS0, R, I, J))) rfl ?_
  exact k1
theorem b_246_7 {X : zX} {d : Nat} {R : zR} {I : zI} {J : zJ} {r : zA} {x1 : Int32} {x2 : Int32} {x3 : Int32} {x4 : Int32} {x5 : Option Value} (k1 : (I 215 23) ≤ x4 → zEv X d zm_246 (60, [some (.ref 215), some (.int x1), some (.int x2), some (.int x3), some (.int x4), x5], [], (zS0, R, I, J)) r) (k2 : ¬ ((I 215 23) ≤ x4) → zEv X d zm_246 (16, [some (.ref 215), some (.int x1), some (.int x2), some (.int x3), some (.int x4), x5], [], (zS0, R, I, J)) r) : zEv X d zm_246 (7, [some (.ref 215), some (.int x1), some (.int x2), some (.int x3), some (.int x4), x5], [], (zS0, R, I, J)) r := by
  refine zEv_k 4 (f' := (if (I 215 23) ≤ x4 then 60 else 16, [some (.ref 215), some (.int x1), some (.int x2), some (.int x3), some (.int x4), x5], [], (zS0, R, I, J))) rfl ?_
  exact zEv_if k1 k2
theorem b_246_16 {X : zX} {d : Nat} {R : zR} {I : zI} {J : zJ} {r : zA} {x1 : Int32} {x2 : Int32} {x3 : Int32} {x4 : Int32} {x5 : Option Value} {w : Int32} {R' : zR} {I' : zI} {J' : zJ} (hc : zEv X d zm_245 (0, [some (.ref 215), some (.int x4), none, none, none, none], [], (zS0, R, I, J)) (some (.int w), (zS0, R', I', J'))) (k1 : zEv X (d + 1) zm_246 (22, [some (.ref 215), some (.int x1), some (.int x2), some (.int x3), some (.int x4), x5], [.int w], (zS0, R', I', J')) r) : zEv X (d + 1) zm_246 (16, [some (.ref 215), some (.int x1), some (.int x2), some (.int x3), some (.int x4), x5], [], (zS0, R, I, J)) r := by
  refine zEv_k 2 (f' := (19, [some (.ref 215), some (.int x1), some (.int x2), some (.int x3), some (.int x4), x5], [.int x4, .ref 215], (zS0, R, I, J))) rfl ?_
  exact zEv_c (fun _ => rfl) rfl hc rfl rfl k1
theorem b_246_22 {X : zX} {d : Nat} {R : zR} {I : zI} {J : zJ} {r : zA} {x1 : Int32} {x2 : Int32} {x3 : Int32} {x4 : Int32} {x5 : Option Value} {s0 : Int32} (k1 : ¬ (s0 &&& (((1 : Int32) <<< (x4 &&& 31)) - 1)) = 0 → zEv X d zm_246 (41, [some (.ref 215), some (.int x1), some (.int x2), some (.int x3), some (.int x4), some (.int s0)], [.int x2], (zS0, R, I, J)) r) (k2 : ¬ (¬ (s0 &&& (((1 : Int32) <<< (x4 &&& 31)) - 1)) = 0) → zEv X d zm_246 (37, [some (.ref 215), some (.int x1), some (.int x2), some (.int x3), some (.int x4), some (.int s0)], [.int x2], (zS0, R, I, J)) r) : zEv X d zm_246 (22, [some (.ref 215), some (.int x1), some (.int x2), some (.int x3), some (.int x4), x5], [.int s0], (zS0, R, I, J)) r := by
  refine zEv_k 9 (f' := (34, [some (.ref 215), some (.int x1), some (.int x2), some (.int x3), some (.int x4), some (.int s0)], [.int (s0 &&& (((1 : Int32) <<< (x4 &&& 31)) - 1)), .int x2], (zS0, R, I, J))) rfl ?_
  refine zEv_k 1 (f' := (if ¬ (s0 &&& (((1 : Int32) <<< (x4 &&& 31)) - 1)) = 0 then 41 else 37, [some (.ref 215), some (.int x1), some (.int x2), some (.int x3), some (.int x4), some (.int s0)], [.int x2], (zS0, R, I, J))) rfl ?_
  exact zEv_if k1 k2
theorem b_246_37 {X : zX} {d : Nat} {R : zR} {I : zI} {J : zJ} {r : zA} {x1 : Int32} {x2 : Int32} {x3 : Int32} {x4 : Int32} {x5 : Int32} {s0 : Int32} (k1 : zEv X d zm_246 (42, [some (.ref 215), some (.int x1), some (.int x2), some (.int x3), some (.int x4), some (.int x5)], [.int 1, .int s0], (zS0, R, I, J)) r) : zEv X d zm_246 (37, [some (.ref 215), some (.int x1), some (.int x2), some (.int x3), some (.int x4), some (.int x5)], [.int s0], (zS0, R, I, J)) r := by
  refine zEv_k 2 (f' := (42, [some (.ref 215), some (.int x1), some (.int x2), some (.int x3), some (.int x4), some (.int x5)], [.int 1, .int s0], (zS0, R, I, J))) rfl ?_
  exact k1
theorem b_246_41 {X : zX} {d : Nat} {R : zR} {I : zI} {J : zJ} {r : zA} {x1 : Int32} {x2 : Int32} {x3 : Int32} {x4 : Int32} {x5 : Int32} {s0 : Int32} (k1 : zEv X d zm_246 (42, [some (.ref 215), some (.int x1), some (.int x2), some (.int x3), some (.int x4), some (.int x5)], [.int 0, .int s0], (zS0, R, I, J)) r) : zEv X d zm_246 (41, [some (.ref 215), some (.int x1), some (.int x2), some (.int x3), some (.int x4), some (.int x5)], [.int s0], (zS0, R, I, J)) r := by
  refine zEv_k 1 (f' := (42, [some (.ref 215), some (.int x1), some (.int x2), some (.int x3), some (.int x4), some (.int x5)], [.int 0, .int s0], (zS0, R, I, J))) rfl ?_
  exact k1
theorem b_246_42 {X : zX} {d : Nat} {R : zR} {I : zI} {J : zJ} {r : zA} {x1 : Int32} {x2 : Int32} {x3 : Int32} {x4 : Int32} {x5 : Int32} {s0 : Int32} {s1 : Int32} {w : Int32} {R' : zR} {I' : zI} {J' : zJ} (hc : zEv X d zm_154 (0, [some (.int x5), none, none], [], (zS0, R, I, J)) (some (.int w), (zS0, R', I', J'))) (k1 : zEv X (d + 1) zm_246 (50, [some (.ref 215), some (.int x1), some (.int (s0 + s1)), some (.int x3), some (.int x4), some (.int x5)], [.int w, .int x3], (zS0, R', I', J')) r) : zEv X (d + 1) zm_246 (42, [some (.ref 215), some (.int x1), some (.int x2), some (.int x3), some (.int x4), some (.int x5)], [.int s1, .int s0], (zS0, R, I, J)) r := by
  refine zEv_k 4 (f' := (47, [some (.ref 215), some (.int x1), some (.int (s0 + s1)), some (.int x3), some (.int x4), some (.int x5)], [.int x5, .int x3], (zS0, R, I, J))) rfl ?_
  exact zEv_c (fun _ => rfl) rfl hc rfl rfl k1
theorem b_246_50 {X : zX} {d : Nat} {R : zR} {I : zI} {J : zJ} {r : zA} {x1 : Int32} {x2 : Int32} {x3 : Int32} {x4 : Int32} {x5 : Int32} {s0 : Int32} {s1 : Int32} (k1 : zEv X (d + 1) zm_246 (7, [some (.ref 215), some (.int x1), some (.int x2), some (.int (zf_greater s0 s1)), some (.int (x4 + 1)), some (.int x5)], [], (zS0, R, I, J)) r) : zEv X (d + 1) zm_246 (50, [some (.ref 215), some (.int x1), some (.int x2), some (.int x3), some (.int x4), some (.int x5)], [.int s1, .int s0], (zS0, R, I, J)) r := by
  refine zEv_c (fun _ => rfl) rfl ev_zf_greater rfl rfl ?_
  refine zEv_k 3 (f' := (7, [some (.ref 215), some (.int x1), some (.int x2), some (.int (zf_greater s0 s1)), some (.int (x4 + 1)), some (.int x5)], [], (zS0, R, I, J))) rfl ?_
  exact k1
theorem b_246_60 {X : zX} {d : Nat} {R : zR} {I : zI} {J : zJ} {r : zA} {x1 : Int32} {x2 : Int32} {x3 : Int32} {x4 : Int32} {x5 : Option Value} (k1 : x1 = 0 → zEv X d zm_246 (68, [some (.ref 215), some (.int x1), some (.int x2), some (.int x3), some (.int x4), x5], [], (zS0, R, I, J)) r) (k2 : ¬ (x1 = 0) → zEv X d zm_246 (64, [some (.ref 215), some (.int x1), some (.int x2), some (.int x3), some (.int x4), x5], [], (zS0, R, I, J)) r) : zEv X d zm_246 (60, [some (.ref 215), some (.int x1), some (.int x2), some (.int x3), some (.int x4), x5], [], (zS0, R, I, J)) r := by
  refine zEv_k 2 (f' := (if x1 = 0 then 68 else 64, [some (.ref 215), some (.int x1), some (.int x2), some (.int x3), some (.int x4), x5], [], (zS0, R, I, J))) rfl ?_
  exact zEv_if k1 k2
theorem b_246_64 {X : zX} {d : Nat} {R : zR} {I : zI} {J : zJ} {x1 : Int32} {x2 : Int32} {x3 : Int32} {x4 : Int32} {x5 : Option Value} : zEv X d zm_246 (64, [some (.ref 215), some (.int x1), some (.int x2), some (.int x3), some (.int x4), x5], [], (zS0, R, I, J)) (some (.int x3), (zS0, R, I, J)) := by
  refine zEv_k 2 (f' := (69, [some (.ref 215), some (.int x1), some (.int x2), some (.int x3), some (.int x4), x5], [.int x3], (zS0, R, I, J))) rfl ?_
  exact zEv_r rfl
theorem b_246_68 {X : zX} {d : Nat} {R : zR} {I : zI} {J : zJ} {x1 : Int32} {x2 : Int32} {x3 : Int32} {x4 : Int32} {x5 : Option Value} : zEv X d zm_246 (68, [some (.ref 215), some (.int x1), some (.int x2), some (.int x3), some (.int x4), x5], [], (zS0, R, I, J)) (some (.int x2), (zS0, R, I, J)) := by
  refine zEv_k 1 (f' := (69, [some (.ref 215), some (.int x1), some (.int x2), some (.int x3), some (.int x4), x5], [.int x2], (zS0, R, I, J))) rfl ?_
  exact zEv_r rfl
theorem b_247_0 {X : zX} {d : Nat} {R : zR} {I : zI} {J : zJ} {r : zA} {x1 : Int32} (k1 : zEv X d zm_247 (2, [some (.ref 215), some (.int x1), some (.int 0)], [], (zS0, R, I, J)) r) : zEv X d zm_247 (0, [some (.ref 215), some (.int x1), none], [], (zS0, R, I, J)) r := by
  refine zEv_k 2 (f' := (2, [some (.ref 215), some (.int x1), some (.int 0)], [], (zS0, R, I, J))) rfl ?_
  exact k1
theorem b_247_2 {X : zX} {d : Nat} {R : zR} {I : zI} {J : zJ} {r : zA} {x1 : Int32} {x2 : Int32} (k1 : (I 215 23) ≤ x2 → zEv X d zm_247 (38, [some (.ref 215), some (.int x1), some (.int x2)], [], (zS0, R, I, J)) r) (k2 : ¬ ((I 215 23) ≤ x2) → zEv X d zm_247 (10, [some (.ref 215), some (.int x1), some (.int x2)], [], (zS0, R, I, J)) r) : zEv X d zm_247 (2, [some (.ref 215), some (.int x1), some (.int x2)], [], (zS0, R, I, J)) r := by
  refine zEv_k 4 (f' := (if (I 215 23) ≤ x2 then 38 else 10, [some (.ref 215), some (.int x1), some (.int x2)], [], (zS0, R, I, J))) rfl ?_
  exact zEv_if k1 k2
theorem b_247_10 {X : zX} {d : Nat} {R : zR} {I : zI} {J : zJ} {r : zA} {x1 : Int32} {x2 : Int32} (k1 : ¬ (zf_has x1 x2) = 0 → zEv X (d + 1) zm_247 (32, [some (.ref 215), some (.int x1), some (.int x2)], [], (zS0, R, I, J)) r) (k2 : ¬ (¬ (zf_has x1 x2) = 0) → zEv X (d + 1) zm_247 (18, [some (.ref 215), some (.int x1), some (.int x2)], [], (zS0, R, I, J)) r) : zEv X (d + 1) zm_247 (10, [some (.ref 215), some (.int x1), some (.int x2)], [], (zS0, R, I, J)) r := by
  refine zEv_k 2 (f' := (12, [some (.ref 215), some (.int x1), some (.int x2)], [.int x2, .int x1], (zS0, R, I, J))) rfl ?_
  refine zEv_c (fun _ => rfl) rfl ev_zf_has rfl rfl ?_
  refine zEv_k 1 (f' := (if ¬ (zf_has x1 x2) = 0 then 32 else 18, [some (.ref 215), some (.int x1), some (.int x2)], [], (zS0, R, I, J))) rfl ?_
  exact zEv_if k1 k2
theorem b_247_18 {X : zX} {d : Nat} {R : zR} {I : zI} {J : zJ} {r : zA} {x1 : Int32} {x2 : Int32} {w : Int32} {R' : zR} {I' : zI} {J' : zJ} (hc : zEv X d zm_201 (0, [some (.ref 215), some (.int x2), some (.int x1), none], [], (zS0, R, I, J)) (some (.int w), (zS0, R', I', J'))) (k1 : zEv X (d + 1) zm_247 (24, [some (.ref 215), some (.int x1), some (.int x2)], [.int w], (zS0, R', I', J')) r) : zEv X (d + 1) zm_247 (18, [some (.ref 215), some (.int x1), some (.int x2)], [], (zS0, R, I, J)) r := by
  refine zEv_k 3 (f' := (21, [some (.ref 215), some (.int x1), some (.int x2)], [.int x1, .int x2, .ref 215], (zS0, R, I, J))) rfl ?_
  exact zEv_c (fun _ => rfl) rfl hc rfl rfl k1
theorem b_247_24 {X : zX} {d : Nat} {R : zR} {I : zI} {J : zJ} {r : zA} {x1 : Int32} {x2 : Int32} {s0 : Int32} (k1 : s0 = ((1 : Int32) <<< (x2 &&& 31)) → zEv X d zm_247 (32, [some (.ref 215), some (.int x1), some (.int x2)], [], (zS0, R, I, J)) r) (k2 : ¬ (s0 = ((1 : Int32) <<< (x2 &&& 31))) → zEv X d zm_247 (30, [some (.ref 215), some (.int x1), some (.int x2)], [], (zS0, R, I, J)) r) : zEv X d zm_247 (24, [some (.ref 215), some (.int x1), some (.int x2)], [.int s0], (zS0, R, I, J)) r := by
  refine zEv_k 4 (f' := (if s0 = ((1 : Int32) <<< (x2 &&& 31)) then 32 else 30, [some (.ref 215), some (.int x1), some (.int x2)], [], (zS0, R, I, J))) rfl ?_
  exact zEv_if k1 k2
theorem b_247_30 {X : zX} {d : Nat} {R : zR} {I : zI} {J : zJ} {x1 : Int32} {x2 : Int32} : zEv X d zm_247 (30, [some (.ref 215), some (.int x1), some (.int x2)], [], (zS0, R, I, J)) (some (.int 0), (zS0, R, I, J)) := by
  refine zEv_k 1 (f' := (31, [some (.ref 215), some (.int x1), some (.int x2)], [.int 0], (zS0, R, I, J))) rfl ?_
  exact zEv_r rfl
theorem b_247_32 {X : zX} {d : Nat} {R : zR} {I : zI} {J : zJ} {r : zA} {x1 : Int32} {x2 : Int32} (k1 : zEv X d zm_247 (2, [some (.ref 215), some (.int x1), some (.int (x2 + 1))], [], (zS0, R, I, J)) r) : zEv X d zm_247 (32, [some (.ref 215), some (.int x1), some (.int x2)], [], (zS0, R, I, J)) r := by
  refine zEv_k 2 (f' := (2, [some (.ref 215), some (.int x1), some (.int (x2 + 1))], [], (zS0, R, I, J))) rfl ?_
  exact k1
theorem b_247_38 {X : zX} {d : Nat} {R : zR} {I : zI} {J : zJ} {x1 : Int32} {x2 : Int32} : zEv X d zm_247 (38, [some (.ref 215), some (.int x1), some (.int x2)], [], (zS0, R, I, J)) (some (.int 1), (zS0, R, I, J)) := by
  refine zEv_k 1 (f' := (39, [some (.ref 215), some (.int x1), some (.int x2)], [.int 1], (zS0, R, I, J))) rfl ?_
  exact zEv_r rfl
theorem b_248_0 {X : zX} {d : Nat} {R : zR} {I : zI} {J : zJ} {r : zA} (k1 : zEv X d zm_248 (4, [some (.ref 215), some (.int (-1)), some (.int 0), none], [], (zS0, R, I, J)) r) : zEv X d zm_248 (0, [some (.ref 215), none, none, none], [], (zS0, R, I, J)) r := by
  refine zEv_k 4 (f' := (4, [some (.ref 215), some (.int (-1)), some (.int 0), none], [], (zS0, R, I, J))) rfl ?_
  exact k1
theorem b_248_4 {X : zX} {d : Nat} {R : zR} {I : zI} {J : zJ} {r : zA} {x1 : Int32} {x2 : Int32} {x3 : Option Value} (k1 : ((1 : Int32) <<< ((I 215 23) &&& 31)) ≤ x2 → zEv X d zm_248 (60, [some (.ref 215), some (.int x1), some (.int x2), x3], [], (zS0, R, I, J)) r) (k2 : ¬ (((1 : Int32) <<< ((I 215 23) &&& 31)) ≤ x2) → zEv X d zm_248 (14, [some (.ref 215), some (.int x1), some (.int x2), x3], [], (zS0, R, I, J)) r) : zEv X d zm_248 (4, [some (.ref 215), some (.int x1), some (.int x2), x3], [], (zS0, R, I, J)) r := by
  refine zEv_k 6 (f' := (if ((1 : Int32) <<< ((I 215 23) &&& 31)) ≤ x2 then 60 else 14, [some (.ref 215), some (.int x1), some (.int x2), x3], [], (zS0, R, I, J))) rfl ?_
  exact zEv_if k1 k2
theorem b_248_14 {X : zX} {d : Nat} {R : zR} {I : zI} {J : zJ} {r : zA} {x1 : Int32} {x2 : Int32} {x3 : Option Value} (k1 : x1 = (-1) → zEv X d zm_248 (30, [some (.ref 215), some (.int x1), some (.int x2), x3], [], (zS0, R, I, J)) r) (k2 : ¬ (x1 = (-1)) → zEv X d zm_248 (19, [some (.ref 215), some (.int x1), some (.int x2), x3], [], (zS0, R, I, J)) r) : zEv X d zm_248 (14, [some (.ref 215), some (.int x1), some (.int x2), x3], [], (zS0, R, I, J)) r := by
  refine zEv_k 3 (f' := (if x1 = (-1) then 30 else 19, [some (.ref 215), some (.int x1), some (.int x2), x3], [], (zS0, R, I, J))) rfl ?_
  exact zEv_if k1 k2
theorem b_248_19 {X : zX} {d : Nat} {R : zR} {I : zI} {J : zJ} {r : zA} {x1 : Int32} {x2 : Int32} {x3 : Option Value} {w : Int32} {R' : zR} {I' : zI} {J' : zJ} (hc : zEv X d zm_154 (0, [some (.int x2), none, none], [], (zS0, R, I, J)) (some (.int w), (zS0, R', I', J'))) (k1 : zEv X (d + 1) zm_248 (23, [some (.ref 215), some (.int x1), some (.int x2), x3], [.int w], (zS0, R', I', J')) r) : zEv X (d + 1) zm_248 (19, [some (.ref 215), some (.int x1), some (.int x2), x3], [], (zS0, R, I, J)) r := by
  refine zEv_k 1 (f' := (20, [some (.ref 215), some (.int x1), some (.int x2), x3], [.int x2], (zS0, R, I, J))) rfl ?_
  exact zEv_c (fun _ => rfl) rfl hc rfl rfl k1
theorem b_248_23 {X : zX} {d : Nat} {R : zR} {I : zI} {J : zJ} {r : zA} {x1 : Int32} {x2 : Int32} {x3 : Option Value} {s0 : Int32} {w : Int32} {R' : zR} {I' : zI} {J' : zJ} (hc : zEv X d zm_154 (0, [some (.int x1), none, none], [], (zS0, R, I, J)) (some (.int w), (zS0, R', I', J'))) (k1 : zEv X (d + 1) zm_248 (27, [some (.ref 215), some (.int x1), some (.int x2), x3], [.int w, .int s0], (zS0, R', I', J')) r) : zEv X (d + 1) zm_248 (23, [some (.ref 215), some (.int x1), some (.int x2), x3], [.int s0], (zS0, R, I, J)) r := by
  refine zEv_k 1 (f' := (24, [some (.ref 215), some (.int x1), some (.int x2), x3], [.int x1, .int s0], (zS0, R, I, J))) rfl ?_
  exact zEv_c (fun _ => rfl) rfl hc rfl rfl k1
theorem b_248_27 {X : zX} {d : Nat} {R : zR} {I : zI} {J : zJ} {r : zA} {x1 : Int32} {x2 : Int32} {x3 : Option Value} {s0 : Int32} {s1 : Int32} (k1 : s1 ≤ s0 → zEv X d zm_248 (34, [some (.ref 215), some (.int x1), some (.int x2), x3], [], (zS0, R, I, J)) r) (k2 : ¬ (s1 ≤ s0) → zEv X d zm_248 (30, [some (.ref 215), some (.int x1), some (.int x2), x3], [], (zS0, R, I, J)) r) : zEv X d zm_248 (27, [some (.ref 215), some (.int x1), some (.int x2), x3], [.int s1, .int s0], (zS0, R, I, J)) r := by
  refine zEv_k 1 (f' := (if s1 ≤ s0 then 34 else 30, [some (.ref 215), some (.int x1), some (.int x2), x3], [], (zS0, R, I, J))) rfl ?_
  exact zEv_if k1 k2
theorem b_248_30 {X : zX} {d : Nat} {R : zR} {I : zI} {J : zJ} {r : zA} {x1 : Int32} {x2 : Int32} {x3 : Option Value} (k1 : zEv X d zm_248 (35, [some (.ref 215), some (.int x1), some (.int x2), x3], [.int 1], (zS0, R, I, J)) r) : zEv X d zm_248 (30, [some (.ref 215), some (.int x1), some (.int x2), x3], [], (zS0, R, I, J)) r := by
  refine zEv_k 2 (f' := (35, [some (.ref 215), some (.int x1), some (.int x2), x3], [.int 1], (zS0, R, I, J))) rfl ?_
  exact k1
theorem b_248_34 {X : zX} {d : Nat} {R : zR} {I : zI} {J : zJ} {r : zA} {x1 : Int32} {x2 : Int32} {x3 : Option Value} (k1 : zEv X d zm_248 (35, [some (.ref 215), some (.int x1), some (.int x2), x3], [.int 0], (zS0, R, I, J)) r) : zEv X d zm_248 (34, [some (.ref 215), some (.int x1), some (.int x2), x3], [], (zS0, R, I, J)) r := by
  refine zEv_k 1 (f' := (35, [some (.ref 215), some (.int x1), some (.int x2), x3], [.int 0], (zS0, R, I, J))) rfl ?_
  exact k1
theorem b_248_35 {X : zX} {d : Nat} {R : zR} {I : zI} {J : zJ} {r : zA} {x1 : Int32} {x2 : Int32} {x3 : Option Value} {s0 : Int32} (k1 : s0 = 0 → zEv X d zm_248 (52, [some (.ref 215), some (.int x1), some (.int x2), some (.int s0)], [], (zS0, R, I, J)) r) (k2 : ¬ (s0 = 0) → zEv X d zm_248 (40, [some (.ref 215), some (.int x1), some (.int x2), some (.int s0)], [], (zS0, R, I, J)) r) : zEv X d zm_248 (35, [some (.ref 215), some (.int x1), some (.int x2), x3], [.int s0], (zS0, R, I, J)) r := by
  refine zEv_k 3 (f' := (if s0 = 0 then 52 else 40, [some (.ref 215), some (.int x1), some (.int x2), some (.int s0)], [], (zS0, R, I, J))) rfl ?_
  exact zEv_if k1 k2
theorem b_248_40 {X : zX} {d : Nat} {R : zR} {I : zI} {J : zJ} {r : zA} {x1 : Int32} {x2 : Int32} {x3 : Int32} {w : Int32} {R' : zR} {I' : zI} {J' : zJ} (hc : zEv X d zm_247 (0, [some (.ref 215), some (.int x2), none], [], (zS0, R, I, J)) (some (.int w), (zS0, R', I', J'))) (k1 : zEv X (d + 1) zm_248 (45, [some (.ref 215), some (.int x1), some (.int x2), some (.int x3)], [.int w], (zS0, R', I', J')) r) : zEv X (d + 1) zm_248 (40, [some (.ref 215), some (.int x1), some (.int x2), some (.int x3)], [], (zS0, R, I, J)) r := by
  refine zEv_k 2 (f' := (42, [some (.ref 215), some (.int x1), some (.int x2), some (.int x3)], [.int x2, .ref 215], (zS0, R, I, J))) rfl ?_
  exact zEv_c (fun _ => rfl) rfl hc rfl rfl k1
theorem b_248_45 {X : zX} {d : Nat} {R : zR} {I : zI} {J : zJ} {r : zA} {x1 : Int32} {x2 : Int32} {x3 : Int32} {s0 : Int32} (k1 : s0 = 0 → zEv X d zm_248 (52, [some (.ref 215), some (.int x1), some (.int x2), some (.int x3)], [], (zS0, R, I, J)) r) (k2 : ¬ (s0 = 0) → zEv X d zm_248 (48, [some (.ref 215), some (.int x1), some (.int x2), some (.int x3)], [], (zS0, R, I, J)) r) : zEv X d zm_248 (45, [some (.ref 215), some (.int x1), some (.int x2), some (.int x3)], [.int s0], (zS0, R, I, J)) r := by
  refine zEv_k 1 (f' := (if s0 = 0 then 52 else 48, [some (.ref 215), some (.int x1), some (.int x2), some (.int x3)], [], (zS0, R, I, J))) rfl ?_
  exact zEv_if k1 k2
theorem b_248_48 {X : zX} {d : Nat} {R : zR} {I : zI} {J : zJ} {r : zA} {x1 : Int32} {x2 : Int32} {x3 : Int32} (k1 : zEv X d zm_248 (53, [some (.ref 215), some (.int x1), some (.int x2), some (.int x3)], [.int x2], (zS0, R, I, J)) r) : zEv X d zm_248 (48, [some (.ref 215), some (.int x1), some (.int x2), some (.int x3)], [], (zS0, R, I, J)) r := by
  refine zEv_k 2 (f' := (53, [some (.ref 215), some (.int x1), some (.int x2), some (.int x3)], [.int x2], (zS0, R, I, J))) rfl ?_
  exact k1
theorem b_248_52 {X : zX} {d : Nat} {R : zR} {I : zI} {J : zJ} {r : zA} {x1 : Int32} {x2 : Int32} {x3 : Int32} (k1 : zEv X d zm_248 (53, [some (.ref 215), some (.int x1), some (.int x2), some (.int x3)], [.int x1], (zS0, R, I, J)) r) : zEv X d zm_248 (52, [some (.ref 215), some (.int x1), some (.int x2), some (.int x3)], [], (zS0, R, I, J)) r := by
  refine zEv_k 1 (f' := (53, [some (.ref 215), some (.int x1), some (.int x2), some (.int x3)], [.int x1], (zS0, R, I, J))) rfl ?_
  exact k1
theorem b_248_53 {X : zX} {d : Nat} {R : zR} {I : zI} {J : zJ} {r : zA} {x1 : Int32} {x2 : Int32} {x3 : Int32} {s0 : Int32} (k1 : zEv X d zm_248 (4, [some (.ref 215), some (.int s0), some (.int (x2 + 1)), some (.int x3)], [], (zS0, R, I, J)) r) : zEv X d zm_248 (53, [some (.ref 215), some (.int x1), some (.int x2), some (.int x3)], [.int s0], (zS0, R, I, J)) r := by
  refine zEv_k 3 (f' := (4, [some (.ref 215), some (.int s0), some (.int (x2 + 1)), some (.int x3)], [], (zS0, R, I, J))) rfl ?_
  exact k1
theorem b_248_60 {X : zX} {d : Nat} {R : zR} {I : zI} {J : zJ} {x1 : Int32} {x2 : Int32} {x3 : Option Value} : zEv X d zm_248 (60, [some (.ref 215), some (.int x1), some (.int x2), x3], [], (zS0, R, I, J)) (some (.int x1), (zS0, R, I, J)) := by
  refine zEv_k 1 (f' := (61, [some (.ref 215), some (.int x1), some (.int x2), x3], [.int x1], (zS0, R, I, J))) rfl ?_
  exact zEv_r rfl
theorem b_249_0 {X : zX} {d : Nat} {R : zR} {I : zI} {J : zJ} {r : zA} (k1 : zEv X d zm_249 (2, [some (.ref 215), some (.int 0), none, none], [], (zS0, R, I, J)) r) : zEv X d zm_249 (0, [some (.ref 215), none, none, none], [], (zS0, R, I, J)) r := by
  refine zEv_k 2 (f' := (2, [some (.ref 215), some (.int 0), none, none], [], (zS0, R, I, J))) rfl ?_
  exact k1
theorem b_249_2 {X : zX} {d : Nat} {R : zR} {I : zI} {J : zJ} {r : zA} {x1 : Int32} {x2 : Option Value} {x3 : Option Value} (k1 : 50 < x1 → zEv X d zm_249 (55, [some (.ref 215), some (.int x1), x2, x3], [], (zS0, R, I, J)) r) (k2 : ¬ (50 < x1) → zEv X d zm_249 (8, [some (.ref 215), some (.int x1), x2, x3], [], (zS0, R, I, J)) r) : zEv X d zm_249 (2, [some (.ref 215), some (.int x1), x2, x3], [], (zS0, R, I, J)) r := by
  refine zEv_k 3 (f' := (if 50 < x1 then 55 else 8, [some (.ref 215), some (.int x1), x2, x3], [], (zS0, R, I, J))) rfl ?_
  exact zEv_if k1 k2
theorem b_249_8 {X : zX} {d : Nat} {R : zR} {I : zI} {J : zJ} {r : zA} {x1 : Int32} {x2 : Option Value} {x3 : Option Value} (k1 : zEv X d zm_249 (12, [some (.ref 215), some (.int x1), some (.int 0), some (.int 0)], [], (zS0, R, I, J)) r) : zEv X d zm_249 (8, [some (.ref 215), some (.int x1), x2, x3], [], (zS0, R, I, J)) r := by
  refine zEv_k 4 (f' := (12, [some (.ref 215), some (.int x1), some (.int 0), some (.int 0)], [], (zS0, R, I, J))) rfl ?_
  exact k1
theorem b_249_12 {X : zX} {d : Nat} {R : zR} {I : zI} {J : zJ} {r : zA} {x1 : Int32} {x2 : Int32} {x3 : Int32} (k1 : (I 215 23) ≤ x3 → zEv X d zm_249 (35, [some (.ref 215), some (.int x1), some (.int x2), some (.int x3)], [], (zS0, R, I, J)) r) (k2 : ¬ ((I 215 23) ≤ x3) → zEv X d zm_249 (20, [some (.ref 215), some (.int x1), some (.int x2), some (.int x3)], [], (zS0, R, I, J)) r) : zEv X d zm_249 (12, [some (.ref 215), some (.int x1), some (.int x2), some (.int x3)], [], (zS0, R, I, J)) r := by
  refine zEv_k 4 (f' := (if (I 215 23) ≤ x3 then 35 else 20, [some (.ref 215), some (.int x1), some (.int x2), some (.int x3)], [], (zS0, R, I, J))) rfl ?_
  exact zEv_if k1 k2
theorem b_249_20 {X : zX} {d : Nat} {R : zR} {I : zI} {J : zJ} {r : zA} {x1 : Int32} {x2 : Int32} {x3 : Int32} {w : Int32} {R' : zR} {I' : zI} {J' : zJ} (hc : zEv X d zm_210 (0, [some (.ref 215), some (.int x3), some (.int x1)], [], (zS0, R, I, J)) (some (.int w), (zS0, R', I', J'))) (k1 : zEv X (d + 1) zm_249 (27, [some (.ref 215), some (.int x1), some (.int x2), some (.int x3)], [.int w, .int x2], (zS0, R', I', J')) r) : zEv X (d + 1) zm_249 (20, [some (.ref 215), some (.int x1), some (.int x2), some (.int x3)], [], (zS0, R, I, J)) r := by
  refine zEv_k 4 (f' := (24, [some (.ref 215), some (.int x1), some (.int x2), some (.int x3)], [.int x1, .int x3, .ref 215, .int x2], (zS0, R, I, J))) rfl ?_
  exact zEv_c (fun _ => rfl) rfl hc rfl rfl k1
theorem b_249_27 {X : zX} {d : Nat} {R : zR} {I : zI} {J : zJ} {r : zA} {x1 : Int32} {x2 : Int32} {x3 : Int32} {s0 : Int32} {s1 : Int32} (k1 : zEv X d zm_249 (12, [some (.ref 215), some (.int x1), some (.int (s0 + s1)), some (.int (x3 + 1))], [], (zS0, R, I, J)) r) : zEv X d zm_249 (27, [some (.ref 215), some (.int x1), some (.int x2), some (.int x3)], [.int s1, .int s0], (zS0, R, I, J)) r := by
  refine zEv_k 4 (f' := (12, [some (.ref 215), some (.int x1), some (.int (s0 + s1)), some (.int (x3 + 1))], [], (zS0, R, I, J))) rfl ?_
  exact k1
theorem b_249_35 {X : zX} {d : Nat} {R : zR} {I : zI} {J : zJ} {r : zA} {x1 : Int32} {x2 : Int32} {x3 : Int32} {w : Int32} {R' : zR} {I' : zI} {J' : zJ} (hc : zEv X d zm_241 (0, [some (.ref 215), some (.int 127), none, none], [], (zS0, R, I, J)) (some (.int w), (zS0, R', I', J'))) (k1 : zEv X (d + 1) zm_249 (44, [some (.ref 215), some (.int x1), some (.int x2), some (.int x3)], [.int w, .int (2 * x2)], (zS0, R', I', J')) r) : zEv X (d + 1) zm_249 (35, [some (.ref 215), some (.int x1), some (.int x2), some (.int x3)], [], (zS0, R, I, J)) r := by
  refine zEv_k 5 (f' := (41, [some (.ref 215), some (.int x1), some (.int x2), some (.int x3)], [.int 127, .ref 215, .int (2 * x2)], (zS0, R, I, J))) rfl ?_
  exact zEv_c (fun _ => rfl) rfl hc rfl rfl k1
theorem b_249_44 {X : zX} {d : Nat} {R : zR} {I : zI} {J : zJ} {r : zA} {x1 : Int32} {x2 : Int32} {x3 : Int32} {s0 : Int32} {s1 : Int32} (k1 : s1 ≤ s0 → zEv X d zm_249 (49, [some (.ref 215), some (.int x1), some (.int x2), some (.int x3)], [], (zS0, R, I, J)) r) (k2 : ¬ (s1 ≤ s0) → zEv X d zm_249 (47, [some (.ref 215), some (.int x1), some (.int x2), some (.int x3)], [], (zS0, R, I, J)) r) : zEv X d zm_249 (44, [some (.ref 215), some (.int x1), some (.int x2), some (.int x3)], [.int s1, .int s0], (zS0, R, I, J)) r := by
  refine zEv_k 1 (f' := (if s1 ≤ s0 then 49 else 47, [some (.ref 215), some (.int x1), some (.int x2), some (.int x3)], [], (zS0, R, I, J))) rfl ?_
  exact zEv_if k1 k2
theorem b_249_47 {X : zX} {d : Nat} {R : zR} {I : zI} {J : zJ} {x1 : Int32} {x2 : Int32} {x3 : Int32} : zEv X d zm_249 (47, [some (.ref 215), some (.int x1), some (.int x2), some (.int x3)], [], (zS0, R, I, J)) (some (.int x1), (zS0, R, I, J)) := by
  refine zEv_k 1 (f' := (48, [some (.ref 215), some (.int x1), some (.int x2), some (.int x3)], [.int x1], (zS0, R, I, J))) rfl ?_
  exact zEv_r rfl
theorem b_249_49 {X : zX} {d : Nat} {R : zR} {I : zI} {J : zJ} {r : zA} {x1 : Int32} {x2 : Int32} {x3 : Int32} (k1 : zEv X d zm_249 (2, [some (.ref 215), some (.int (x1 + 1)), some (.int x2), some (.int x3)], [], (zS0, R, I, J)) r) : zEv X d zm_249 (49, [some (.ref 215), some (.int x1), some (.int x2), some (.int x3)], [], (zS0, R, I, J)) r := by
  refine zEv_k 2 (f' := (2, [some (.ref 215), some (.int (x1 + 1)), some (.int x2), some (.int x3)], [], (zS0, R, I, J))) rfl ?_
  exact k1
theorem b_249_55 {X : zX} {d : Nat} {R : zR} {I : zI} {J : zJ} {x1 : Int32} {x2 : Option Value} {x3 : Option Value} : zEv X d zm_249 (55, [some (.ref 215), some (.int x1), x2, x3], [], (zS0, R, I, J)) (some (.int (-1)), (zS0, R, I, J)) := by
  refine zEv_k 1 (f' := (56, [some (.ref 215), some (.int x1), x2, x3], [.int (-1)], (zS0, R, I, J))) rfl ?_
  exact zEv_r rfl
theorem b_250_0 {X : zX} {d : Nat} {R : zR} {I : zI} {J : zJ} {r : zA} (k1 : zEv X d zm_250 (4, [some (.ref 215), some (.int 0), some (.int 0), none, none], [], (zS0, R, I, J)) r) : zEv X d zm_250 (0, [some (.ref 215), none, none, none, none], [], (zS0, R, I, J)) r := by
  refine zEv_k 4 (f' := (4, [some (.ref 215), some (.int 0), some (.int 0), none, none], [], (zS0, R, I, J))) rfl ?_
  exact k1
theorem b_250_4 {X : zX} {d : Nat} {R : zR} {I : zI} {J : zJ} {r : zA} {x1 : Int32} {x2 : Int32} {x3 : Option Value} {x4 : Option Value} (k1 : (I 215 23) ≤ x2 → zEv X d zm_250 (87, [some (.ref 215), some (.int x1), some (.int x2), x3, x4], [], (zS0, R, I, J)) r) (k2 : ¬ ((I 215 23) ≤ x2) → zEv X d zm_250 (12, [some (.ref 215), some (.int x1), some (.int x2), x3, x4], [], (zS0, R, I, J)) r) : zEv X d zm_250 (4, [some (.ref 215), some (.int x1), some (.int x2), x3, x4], [], (zS0, R, I, J)) r := by
  refine zEv_k 4 (f' := (if (I 215 23) ≤ x2 then 87 else 12, [some (.ref 215), some (.int x1), some (.int x2), x3, x4], [], (zS0, R, I, J))) rfl ?_
  exact zEv_if k1 k2
theorem b_250_12 {X : zX} {d : Nat} {R : zR} {I : zI} {J : zJ} {r : zA} {x1 : Int32} {x2 : Int32} {x3 : Option Value} {x4 : Option Value} {w : Int32} {R' : zR} {I' : zI} {J' : zJ} (hc : zEv X d zm_179 (0, [some (.ref 215), some (.int (45 + x2))], [], (zS0, R, I, J)) (some (.int w), (zS0, R', I', J'))) (k1 : zEv X (d + 1) zm_250 (20, [some (.ref 215), some (.int x1), some (.int x2), x3, x4], [.int w], (zS0, R', I', J')) r) : zEv X (d + 1) zm_250 (12, [some (.ref 215), some (.int x1), some (.int x2), x3, x4], [], (zS0, R, I, J)) r := by
  refine zEv_k 4 (f' := (17, [some (.ref 215), some (.int x1), some (.int x2), x3, x4], [.int (45 + x2), .ref 215], (zS0, R, I, J))) rfl ?_
  exact zEv_c (fun _ => rfl) rfl hc rfl rfl k1
theorem b_250_20 {X : zX} {d : Nat} {R : zR} {I : zI} {J : zJ} {r : zA} {x1 : Int32} {x2 : Int32} {x3 : Option Value} {x4 : Option Value} {s0 : Int32} (k1 : ¬ s0 = 0 → zEv X d zm_250 (27, [some (.ref 215), some (.int x1), some (.int x2), x3, x4], [], (zS0, R, I, J)) r) (k2 : ¬ (¬ s0 = 0) → zEv X d zm_250 (23, [some (.ref 215), some (.int x1), some (.int x2), x3, x4], [], (zS0, R, I, J)) r) : zEv X d zm_250 (20, [some (.ref 215), some (.int x1), some (.int x2), x3, x4], [.int s0], (zS0, R, I, J)) r := by
  refine zEv_k 1 (f' := (if ¬ s0 = 0 then 27 else 23, [some (.ref 215), some (.int x1), some (.int x2), x3, x4], [], (zS0, R, I, J))) rfl ?_
  exact zEv_if k1 k2
theorem b_250_23 {X : zX} {d : Nat} {R : zR} {I : zI} {J : zJ} {r : zA} {x1 : Int32} {x2 : Int32} {x3 : Option Value} {x4 : Option Value} (k1 : zEv X d zm_250 (28, [some (.ref 215), some (.int x1), some (.int x2), x3, x4], [.int 1], (zS0, R, I, J)) r) : zEv X d zm_250 (23, [some (.ref 215), some (.int x1), some (.int x2), x3, x4], [], (zS0, R, I, J)) r := by
  refine zEv_k 2 (f' := (28, [some (.ref 215), some (.int x1), some (.int x2), x3, x4], [.int 1], (zS0, R, I, J))) rfl ?_
  exact k1
theorem b_250_27 {X : zX} {d : Nat} {R : zR} {I : zI} {J : zJ} {r : zA} {x1 : Int32} {x2 : Int32} {x3 : Option Value} {x4 : Option Value} (k1 : zEv X d zm_250 (28, [some (.ref 215), some (.int x1), some (.int x2), x3, x4], [.int 0], (zS0, R, I, J)) r) : zEv X d zm_250 (27, [some (.ref 215), some (.int x1), some (.int x2), x3, x4], [], (zS0, R, I, J)) r := by
  refine zEv_k 1 (f' := (28, [some (.ref 215), some (.int x1), some (.int x2), x3, x4], [.int 0], (zS0, R, I, J))) rfl ?_
  exact k1
theorem b_250_28 {X : zX} {d : Nat} {R : zR} {I : zI} {J : zJ} {r : zA} {x1 : Int32} {x2 : Int32} {x3 : Option Value} {x4 : Option Value} {s0 : Int32} (k1 : zEv X d zm_250 (32, [some (.ref 215), some (.int x1), some (.int x2), some (.int s0), some (.int 0)], [], (zS0, R, I, J)) r) : zEv X d zm_250 (28, [some (.ref 215), some (.int x1), some (.int x2), x3, x4], [.int s0], (zS0, R, I, J)) r := by
  refine zEv_k 3 (f' := (32, [some (.ref 215), some (.int x1), some (.int x2), some (.int s0), some (.int 0)], [], (zS0, R, I, J))) rfl ?_
  exact k1
theorem b_250_32 {X : zX} {d : Nat} {R : zR} {I : zI} {J : zJ} {r : zA} {x1 : Int32} {x2 : Int32} {x3 : Int32} {x4 : Int32} (k1 : (I 215 23) ≤ x4 → zEv X d zm_250 (67, [some (.ref 215), some (.int x1), some (.int x2), some (.int x3), some (.int x4)], [], (zS0, R, I, J)) r) (k2 : ¬ ((I 215 23) ≤ x4) → zEv X d zm_250 (41, [some (.ref 215), some (.int x1), some (.int x2), some (.int x3), some (.int x4)], [], (zS0, R, I, J)) r) : zEv X d zm_250 (32, [some (.ref 215), some (.int x1), some (.int x2), some (.int x3), some (.int x4)], [], (zS0, R, I, J)) r := by
  refine zEv_k 4 (f' := (if (I 215 23) ≤ x4 then 67 else 41, [some (.ref 215), some (.int x1), some (.int x2), some (.int x3), some (.int x4)], [], (zS0, R, I, J))) rfl ?_
  exact zEv_if k1 k2
theorem b_250_41 {X : zX} {d : Nat} {R : zR} {I : zI} {J : zJ} {r : zA} {x1 : Int32} {x2 : Int32} {x3 : Int32} {x4 : Int32} (k1 : x3 = 0 → zEv X d zm_250 (59, [some (.ref 215), some (.int x1), some (.int x2), some (.int x3), some (.int x4)], [], (zS0, R, I, J)) r) (k2 : ¬ (x3 = 0) → zEv X d zm_250 (45, [some (.ref 215), some (.int x1), some (.int x2), some (.int x3), some (.int x4)], [], (zS0, R, I, J)) r) : zEv X d zm_250 (41, [some (.ref 215), some (.int x1), some (.int x2), some (.int x3), some (.int x4)], [], (zS0, R, I, J)) r := by
  refine zEv_k 2 (f' := (if x3 = 0 then 59 else 45, [some (.ref 215), some (.int x1), some (.int x2), some (.int x3), some (.int x4)], [], (zS0, R, I, J))) rfl ?_
  exact zEv_if k1 k2
theorem b_250_45 {X : zX} {d : Nat} {R : zR} {I : zI} {J : zJ} {r : zA} {x1 : Int32} {x2 : Int32} {x3 : Int32} {x4 : Int32} {w : Int32} {R' : zR} {I' : zI} {J' : zJ} (hc : zEv X d zm_213 (0, [some (.ref 215), some (.int x4), some (.int x2)], [], (zS0, R, I, J)) (some (.int w), (zS0, R', I', J'))) (k1 : zEv X (d + 1) zm_250 (52, [some (.ref 215), some (.int x1), some (.int x2), some (.int x3), some (.int x4)], [.int w], (zS0, R', I', J')) r) : zEv X (d + 1) zm_250 (45, [some (.ref 215), some (.int x1), some (.int x2), some (.int x3), some (.int x4)], [], (zS0, R, I, J)) r := by
  refine zEv_k 3 (f' := (49, [some (.ref 215), some (.int x1), some (.int x2), some (.int x3), some (.int x4)], [.int x2, .int x4, .ref 215], (zS0, R, I, J))) rfl ?_
  exact zEv_c (fun _ => rfl) rfl hc rfl rfl k1
theorem b_250_52 {X : zX} {d : Nat} {R : zR} {I : zI} {J : zJ} {r : zA} {x1 : Int32} {x2 : Int32} {x3 : Int32} {x4 : Int32} {s0 : Int32} (k1 : ¬ s0 = 0 → zEv X d zm_250 (59, [some (.ref 215), some (.int x1), some (.int x2), some (.int x3), some (.int x4)], [], (zS0, R, I, J)) r) (k2 : ¬ (¬ s0 = 0) → zEv X d zm_250 (55, [some (.ref 215), some (.int x1), some (.int x2), some (.int x3), some (.int x4)], [], (zS0, R, I, J)) r) : zEv X d zm_250 (52, [some (.ref 215), some (.int x1), some (.int x2), some (.int x3), some (.int x4)], [.int s0], (zS0, R, I, J)) r := by
  refine zEv_k 1 (f' := (if ¬ s0 = 0 then 59 else 55, [some (.ref 215), some (.int x1), some (.int x2), some (.int x3), some (.int x4)], [], (zS0, R, I, J))) rfl ?_
  exact zEv_if k1 k2
theorem b_250_55 {X : zX} {d : Nat} {R : zR} {I : zI} {J : zJ} {r : zA} {x1 : Int32} {x2 : Int32} {x3 : Int32} {x4 : Int32} (k1 : zEv X d zm_250 (60, [some (.ref 215), some (.int x1), some (.int x2), some (.int x3), some (.int x4)], [.int 1], (zS0, R, I, J)) r) : zEv X d zm_250 (55, [some (.ref 215), some (.int x1), some (.int x2), some (.int x3), some (.int x4)], [], (zS0, R, I, J)) r := by
  refine zEv_k 2 (f' := (60, [some (.ref 215), some (.int x1), some (.int x2), some (.int x3), some (.int x4)], [.int 1], (zS0, R, I, J))) rfl ?_
  exact k1
theorem b_250_59 {X : zX} {d : Nat} {R : zR} {I : zI} {J : zJ} {r : zA} {x1 : Int32} {x2 : Int32} {x3 : Int32} {x4 : Int32} (k1 : zEv X d zm_250 (60, [some (.ref 215), some (.int x1), some (.int x2), some (.int x3), some (.int x4)], [.int 0], (zS0, R, I, J)) r) : zEv X d zm_250 (59, [some (.ref 215), some (.int x1), some (.int x2), some (.int x3), some (.int x4)], [], (zS0, R, I, J)) r := by
  refine zEv_k 1 (f' := (60, [some (.ref 215), some (.int x1), some (.int x2), some (.int x3), some (.int x4)], [.int 0], (zS0, R, I, J))) rfl ?_
  exact k1
theorem b_250_60 {X : zX} {d : Nat} {R : zR} {I : zI} {J : zJ} {r : zA} {x1 : Int32} {x2 : Int32} {x3 : Int32} {x4 : Int32} {s0 : Int32} (k1 : zEv X d zm_250 (32, [some (.ref 215), some (.int x1), some (.int x2), some (.int s0), some (.int (x4 + 1))], [], (zS0, R, I, J)) r) : zEv X d zm_250 (60, [some (.ref 215), some (.int x1), some (.int x2), some (.int x3), some (.int x4)], [.int s0], (zS0, R, I, J)) r := by
  refine zEv_k 3 (f' := (32, [some (.ref 215), some (.int x1), some (.int x2), some (.int s0), some (.int (x4 + 1))], [], (zS0, R, I, J))) rfl ?_
  exact k1
theorem b_250_67 {X : zX} {d : Nat} {R : zR} {I : zI} {J : zJ} {r : zA} {x1 : Int32} {x2 : Int32} {x3 : Int32} {x4 : Int32} (k1 : x3 = 0 → zEv X d zm_250 (78, [some (.ref 215), some (.int x1), some (.int x2), some (.int x3), some (.int x4)], [.int x1], (zS0, R, I, J)) r) (k2 : ¬ (x3 = 0) → zEv X d zm_250 (72, [some (.ref 215), some (.int x1), some (.int x2), some (.int x3), some (.int x4)], [.int x1], (zS0, R, I, J)) r) : zEv X d zm_250 (67, [some (.ref 215), some (.int x1), some (.int x2), some (.int x3), some (.int x4)], [], (zS0, R, I, J)) r := by
  refine zEv_k 3 (f' := (if x3 = 0 then 78 else 72, [some (.ref 215), some (.int x1), some (.int x2), some (.int x3), some (.int x4)], [.int x1], (zS0, R, I, J))) rfl ?_
  exact zEv_if k1 k2
theorem b_250_72 {X : zX} {d : Nat} {R : zR} {I : zI} {J : zJ} {r : zA} {x1 : Int32} {x2 : Int32} {x3 : Int32} {x4 : Int32} {s0 : Int32} (k1 : zEv X d zm_250 (79, [some (.ref 215), some (.int x1), some (.int x2), some (.int x3), some (.int x4)], [.int ((1 : Int32) <<< (x2 &&& 31)), .int s0], (zS0, R, I, J)) r) : zEv X d zm_250 (72, [some (.ref 215), some (.int x1), some (.int x2), some (.int x3), some (.int x4)], [.int s0], (zS0, R, I, J)) r := by
  refine zEv_k 4 (f' := (79, [some (.ref 215), some (.int x1), some (.int x2), some (.int x3), some (.int x4)], [.int ((1 : Int32) <<< (x2 &&& 31)), .int s0], (zS0, R, I, J))) rfl ?_
  exact k1
theorem b_250_78 {X : zX} {d : Nat} {R : zR} {I : zI} {J : zJ} {r : zA} {x1 : Int32} {x2 : Int32} {x3 : Int32} {x4 : Int32} {s0 : Int32} (k1 : zEv X d zm_250 (79, [some (.ref 215), some (.int x1), some (.int x2), some (.int x3), some (.int x4)], [.int 0, .int s0], (zS0, R, I, J)) r) : zEv X d zm_250 (78, [some (.ref 215), some (.int x1), some (.int x2), some (.int x3), some (.int x4)], [.int s0], (zS0, R, I, J)) r := by
  refine zEv_k 1 (f' := (79, [some (.ref 215), some (.int x1), some (.int x2), some (.int x3), some (.int x4)], [.int 0, .int s0], (zS0, R, I, J))) rfl ?_
  exact k1
theorem b_250_79 {X : zX} {d : Nat} {R : zR} {I : zI} {J : zJ} {r : zA} {x1 : Int32} {x2 : Int32} {x3 : Int32} {x4 : Int32} {s0 : Int32} {s1 : Int32} (k1 : zEv X d zm_250 (4, [some (.ref 215), some (.int (s0 ||| s1)), some (.int (x2 + 1)), some (.int x3), some (.int x4)], [], (zS0, R, I, J)) r) : zEv X d zm_250 (79, [some (.ref 215), some (.int x1), some (.int x2), some (.int x3), some (.int x4)], [.int s1, .int s0], (zS0, R, I, J)) r := by
  refine zEv_k 4 (f' := (4, [some (.ref 215), some (.int (s0 ||| s1)), some (.int (x2 + 1)), some (.int x3), some (.int x4)], [], (zS0, R, I, J))) rfl ?_
  exact k1
theorem b_250_87 {X : zX} {d : Nat} {R : zR} {I : zI} {J : zJ} {x1 : Int32} {x2 : Int32} {x3 : Option Value} {x4 : Option Value} : zEv X d zm_250 (87, [some (.ref 215), some (.int x1), some (.int x2), x3, x4], [], (zS0, R, I, J)) (some (.int x1), (zS0, R, I, J)) := by
  refine zEv_k 1 (f' := (88, [some (.ref 215), some (.int x1), some (.int x2), x3, x4], [.int x1], (zS0, R, I, J))) rfl ?_
  exact zEv_r rfl
theorem b_251_0 {X : zX} {d : Nat} {R : zR} {I : zI} {J : zJ} {r : zA} {x1 : Int32} (k1 : zEv X d zm_251 (4, [some (.ref 215), some (.int x1), some (.int 0), some (.int 0)], [], (zS0, R, I, J)) r) : zEv X d zm_251 (0, [some (.ref 215), some (.int x1), none, none], [], (zS0, R, I, J)) r := by
  refine zEv_k 4 (f' := (4, [some (.ref 215), some (.int x1), some (.int 0), some (.int 0)], [], (zS0, R, I, J))) rfl ?_
  exact k1
theorem b_251_4 {X : zX} {d : Nat} {R : zR} {I : zI} {J : zJ} {r : zA} {x1 : Int32} {x2 : Int32} {x3 : Int32} (k1 : (I 215 23) ≤ x3 → zEv X d zm_251 (41, [some (.ref 215), some (.int x1), some (.int x2), some (.int x3)], [], (zS0, R, I, J)) r) (k2 : ¬ ((I 215 23) ≤ x3) → zEv X d zm_251 (12, [some (.ref 215), some (.int x1), some (.int x2), some (.int x3)], [], (zS0, R, I, J)) r) : zEv X d zm_251 (4, [some (.ref 215), some (.int x1), some (.int x2), some (.int x3)], [], (zS0, R, I, J)) r := by
  refine zEv_k 4 (f' := (if (I 215 23) ≤ x3 then 41 else 12, [some (.ref 215), some (.int x1), some (.int x2), some (.int x3)], [], (zS0, R, I, J))) rfl ?_
  exact zEv_if k1 k2
theorem b_251_12 {X : zX} {d : Nat} {R : zR} {I : zI} {J : zJ} {r : zA} {x1 : Int32} {x2 : Int32} {x3 : Int32} (k1 : (zf_has x1 x3) = 0 → zEv X (d + 1) zm_251 (32, [some (.ref 215), some (.int x1), some (.int x2), some (.int x3)], [.int x2], (zS0, R, I, J)) r) (k2 : ¬ ((zf_has x1 x3) = 0) → zEv X (d + 1) zm_251 (21, [some (.ref 215), some (.int x1), some (.int x2), some (.int x3)], [.int x2], (zS0, R, I, J)) r) : zEv X (d + 1) zm_251 (12, [some (.ref 215), some (.int x1), some (.int x2), some (.int x3)], [], (zS0, R, I, J)) r := by
  refine zEv_k 3 (f' := (15, [some (.ref 215), some (.int x1), some (.int x2), some (.int x3)], [.int x3, .int x1, .int x2], (zS0, R, I, J))) rfl ?_
  refine zEv_c (fun _ => rfl) rfl ev_zf_has rfl rfl ?_
  refine zEv_k 1 (f' := (if (zf_has x1 x3) = 0 then 32 else 21, [some (.ref 215), some (.int x1), some (.int x2), some (.int x3)], [.int x2], (zS0, R, I, J))) rfl ?_
  exact zEv_if k1 k2
theorem b_251_21 {X : zX} {d : Nat} {R : zR} {I : zI} {J : zJ} {r : zA} {x1 : Int32} {x2 : Int32} {x3 : Int32} {s0 : Int32} {w : Int32} {R' : zR} {I' : zI} {J' : zJ} (hc : zEv X d zm_179 (0, [some (.ref 215), some (.int (45 + x3))], [], (zS0, R, I, J)) (some (.int w), (zS0, R', I', J'))) (k1 : zEv X (d + 1) zm_251 (29, [some (.ref 215), some (.int x1), some (.int x2), some (.int x3)], [.int w, .int s0], (zS0, R', I', J')) r) : zEv X (d + 1) zm_251 (21, [some (.ref 215), some (.int x1), some (.int x2), some (.int x3)], [.int s0], (zS0, R, I, J)) r := by
  refine zEv_k 4 (f' := (26, [some (.ref 215), some (.int x1), some (.int x2), some (.int x3)], [.int (45 + x3), .ref 215, .int s0], (zS0, R, I, J))) rfl ?_
  exact zEv_c (fun _ => rfl) rfl hc rfl rfl k1
theorem b_251_29 {X : zX} {d : Nat} {R : zR} {I : zI} {J : zJ} {r : zA} {x1 : Int32} {x2 : Int32} {x3 : Int32} {s0 : Int32} {s1 : Int32} (k1 : zEv X d zm_251 (33, [some (.ref 215), some (.int x1), some (.int x2), some (.int x3)], [.int s1, .int s0], (zS0, R, I, J)) r) : zEv X d zm_251 (29, [some (.ref 215), some (.int x1), some (.int x2), some (.int x3)], [.int s1, .int s0], (zS0, R, I, J)) r := by
  refine zEv_k 1 (f' := (33, [some (.ref 215), some (.int x1), some (.int x2), some (.int x3)], [.int s1, .int s0], (zS0, R, I, J))) rfl ?_
  exact k1
theorem b_251_32 {X : zX} {d : Nat} {R : zR} {I : zI} {J : zJ} {r : zA} {x1 : Int32} {x2 : Int32} {x3 : Int32} {s0 : Int32} (k1 : zEv X d zm_251 (33, [some (.ref 215), some (.int x1), some (.int x2), some (.int x3)], [.int 0, .int s0], (zS0, R, I, J)) r) : zEv X d zm_251 (32, [some (.ref 215), some (.int x1), some (.int x2), some (.int x3)], [.int s0], (zS0, R, I, J)) r := by
  refine zEv_k 1 (f' := (33, [some (.ref 215), some (.int x1), some (.int x2), some (.int x3)], [.int 0, .int s0], (zS0, R, I, J))) rfl ?_
  exact k1
theorem b_251_33 {X : zX} {d : Nat} {R : zR} {I : zI} {J : zJ} {r : zA} {x1 : Int32} {x2 : Int32} {x3 : Int32} {s0 : Int32} {s1 : Int32} (k1 : zEv X d zm_251 (4, [some (.ref 215), some (.int x1), some (.int (s0 ||| s1)), some (.int (x3 + 1))], [], (zS0, R, I, J)) r) : zEv X d zm_251 (33, [some (.ref 215), some (.int x1), some (.int x2), some (.int x3)], [.int s1, .int s0], (zS0, R, I, J)) r := by
  refine zEv_k 4 (f' := (4, [some (.ref 215), some (.int x1), some (.int (s0 ||| s1)), some (.int (x3 + 1))], [], (zS0, R, I, J))) rfl ?_
  exact k1
theorem b_251_41 {X : zX} {d : Nat} {R : zR} {I : zI} {J : zJ} {x1 : Int32} {x2 : Int32} {x3 : Int32} : zEv X d zm_251 (41, [some (.ref 215), some (.int x1), some (.int x2), some (.int x3)], [], (zS0, R, I, J)) (some (.int x2), (zS0, R, I, J)) := by
  refine zEv_k 1 (f' := (42, [some (.ref 215), some (.int x1), some (.int x2), some (.int x3)], [.int x2], (zS0, R, I, J))) rfl ?_
  exact zEv_r rfl
theorem b_252_0 {X : zX} {d : Nat} {R : zR} {I : zI} {J : zJ} {r : zA} (k1 : zEv X d zm_252 (6, [some (.ref 215), some (.int 1000000), some (.int 0), none, none], [], (zS0, R, I, J)) r) : zEv X d zm_252 (0, [some (.ref 215), none, none, none, none], [], (zS0, R, I, J)) r := by
  refine zEv_k 4 (f' := (6, [some (.ref 215), some (.int 1000000), some (.int 0), none, none], [], (zS0, R, I, J))) rfl ?_
  exact k1
theorem b_252_6 {X : zX} {d : Nat} {R : zR} {I : zI} {J : zJ} {r : zA} {x1 : Int32} {x2 : Int32} {x3 : Option Value} {x4 : Option Value} (k1 : (I 215 23) ≤ x2 → zEv X d zm_252 (65, [some (.ref 215), some (.int x1), some (.int x2), x3, x4], [], (zS0, R, I, J)) r) (k2 : ¬ ((I 215 23) ≤ x2) → zEv X d zm_252 (14, [some (.ref 215), some (.int x1), some (.int x2), x3, x4], [], (zS0, R, I, J)) r) : zEv X d zm_252 (6, [some (.ref 215), some (.int x1), some (.int x2), x3, x4], [], (zS0, R, I, J)) r := by
  refine zEv_k 4 (f' := (if (I 215 23) ≤ x2 then 65 else 14, [some (.ref 215), some (.int x1), some (.int x2), x3, x4], [], (zS0, R, I, J))) rfl ?_
  exact zEv_if k1 k2
theorem b_252_14 {X : zX} {d : Nat} {R : zR} {I : zI} {J : zJ} {r : zA} {x1 : Int32} {x2 : Int32} {x3 : Option Value} {x4 : Option Value} (k1 : zEv X d zm_252 (21, [some (.ref 215), some (.int x1), some (.int x2), some (.int ((1 : Int32) <<< (x2 &&& 31))), some (.int 1)], [], (zS0, R, I, J)) r) : zEv X d zm_252 (14, [some (.ref 215), some (.int x1), some (.int x2), x3, x4], [], (zS0, R, I, J)) r := by
  refine zEv_k 6 (f' := (21, [some (.ref 215), some (.int x1), some (.int x2), some (.int ((1 : Int32) <<< (x2 &&& 31))), some (.int 1)], [], (zS0, R, I, J))) rfl ?_
  exact k1
theorem b_252_21 {X : zX} {d : Nat} {R : zR} {I : zI} {J : zJ} {r : zA} {x1 : Int32} {x2 : Int32} {x3 : Int32} {x4 : Int32} (k1 : 7 < x4 → zEv X d zm_252 (59, [some (.ref 215), some (.int x1), some (.int x2), some (.int x3), some (.int x4)], [], (zS0, R, I, J)) r) (k2 : ¬ (7 < x4) → zEv X d zm_252 (28, [some (.ref 215), some (.int x1), some (.int x2), some (.int x3), some (.int x4)], [], (zS0, R, I, J)) r) : zEv X d zm_252 (21, [some (.ref 215), some (.int x1), some (.int x2), some (.int x3), some (.int x4)], [], (zS0, R, I, J)) r := by
  refine zEv_k 3 (f' := (if 7 < x4 then 59 else 28, [some (.ref 215), some (.int x1), some (.int x2), some (.int x3), some (.int x4)], [], (zS0, R, I, J))) rfl ?_
  exact zEv_if k1 k2
theorem b_252_28 {X : zX} {d : Nat} {R : zR} {I : zI} {J : zJ} {r : zA} {x1 : Int32} {x2 : Int32} {x3 : Int32} {x4 : Int32} {w : Int32} {R' : zR} {I' : zI} {J' : zJ} (hc : zEv X d zm_251 (0, [some (.ref 215), some (.int x3), none, none], [], (zS0, R, I, J)) (some (.int w), (zS0, R', I', J'))) (k1 : zEv X (d + 1) zm_252 (33, [some (.ref 215), some (.int x1), some (.int x2), some (.int x3), some (.int x4)], [.int w], (zS0, R', I', J')) r) : zEv X (d + 1) zm_252 (28, [some (.ref 215), some (.int x1), some (.int x2), some (.int x3), some (.int x4)], [], (zS0, R, I, J)) r := by
  refine zEv_k 2 (f' := (30, [some (.ref 215), some (.int x1), some (.int x2), some (.int x3), some (.int x4)], [.int x3, .ref 215], (zS0, R, I, J))) rfl ?_
  exact zEv_c (fun _ => rfl) rfl hc rfl rfl k1
theorem b_252_33 {X : zX} {d : Nat} {R : zR} {I : zI} {J : zJ} {r : zA} {x1 : Int32} {x2 : Int32} {x3 : Int32} {x4 : Int32} {s0 : Int32} (k1 : (zf_has s0 x2) = 0 → zEv X (d + 1) zm_252 (51, [some (.ref 215), some (.int x1), some (.int x2), some (.int s0), some (.int x4)], [], (zS0, R, I, J)) r) (k2 : ¬ ((zf_has s0 x2) = 0) → zEv X (d + 1) zm_252 (42, [some (.ref 215), some (.int x1), some (.int x2), some (.int s0), some (.int x4)], [], (zS0, R, I, J)) r) : zEv X (d + 1) zm_252 (33, [some (.ref 215), some (.int x1), some (.int x2), some (.int x3), some (.int x4)], [.int s0], (zS0, R, I, J)) r := by
  refine zEv_k 3 (f' := (36, [some (.ref 215), some (.int x1), some (.int x2), some (.int s0), some (.int x4)], [.int x2, .int s0], (zS0, R, I, J))) rfl ?_
  refine zEv_c (fun _ => rfl) rfl ev_zf_has rfl rfl ?_
  refine zEv_k 1 (f' := (if (zf_has s0 x2) = 0 then 51 else 42, [some (.ref 215), some (.int x1), some (.int x2), some (.int s0), some (.int x4)], [], (zS0, R, I, J))) rfl ?_
  exact zEv_if k1 k2
theorem b_252_42 {X : zX} {d : Nat} {R : zR} {I : zI} {J : zJ} {r : zA} {x1 : Int32} {x2 : Int32} {x3 : Int32} {x4 : Int32} (k1 : zEv X (d + 1) zm_252 (52, [some (.ref 215), some (.int x1), some (.int x2), some (.int x3), some (.int x4)], [.int (zf_lesser x1 x4)], (zS0, R, I, J)) r) : zEv X (d + 1) zm_252 (42, [some (.ref 215), some (.int x1), some (.int x2), some (.int x3), some (.int x4)], [], (zS0, R, I, J)) r := by
  refine zEv_k 2 (f' := (45, [some (.ref 215), some (.int x1), some (.int x2), some (.int x3), some (.int x4)], [.int x4, .int x1], (zS0, R, I, J))) rfl ?_
  refine zEv_c (fun _ => rfl) rfl ev_zf_lesser rfl rfl ?_
  refine zEv_k 1 (f' := (52, [some (.ref 215), some (.int x1), some (.int x2), some (.int x3), some (.int x4)], [.int (zf_lesser x1 x4)], (zS0, R, I, J))) rfl ?_
  exact k1
theorem b_252_51 {X : zX} {d : Nat} {R : zR} {I : zI} {J : zJ} {r : zA} {x1 : Int32} {x2 : Int32} {x3 : Int32} {x4 : Int32} (k1 : zEv X d zm_252 (52, [some (.ref 215), some (.int x1), some (.int x2), some (.int x3), some (.int x4)], [.int x1], (zS0, R, I, J)) r) : zEv X d zm_252 (51, [some (.ref 215), some (.int x1), some (.int x2), some (.int x3), some (.int x4)], [], (zS0, R, I, J)) r := by
  refine zEv_k 1 (f' := (52, [some (.ref 215), some (.int x1), some (.int x2), some (.int x3), some (.int x4)], [.int x1], (zS0, R, I, J))) rfl ?_
  exact k1
theorem b_252_52 {X : zX} {d : Nat} {R : zR} {I : zI} {J : zJ} {r : zA} {x1 : Int32} {x2 : Int32} {x3 : Int32} {x4 : Int32} {s0 : Int32} (k1 : zEv X d zm_252 (21, [some (.ref 215), some (.int s0), some (.int x2), some (.int x3), some (.int (x4 + 1))], [], (zS0, R, I, J)) r) : zEv X d zm_252 (52, [some (.ref 215), some (.int x1), some (.int x2), some (.int x3), some (.int x4)], [.int s0], (zS0, R, I, J)) r := by
  refine zEv_k 3 (f' := (21, [some (.ref 215), some (.int s0), some (.int x2), some (.int x3), some (.int (x4 + 1))], [], (zS0, R, I, J))) rfl ?_
  exact k1
theorem b_252_59 {X : zX} {d : Nat} {R : zR} {I : zI} {J : zJ} {r : zA} {x1 : Int32} {x2 : Int32} {x3 : Int32} {x4 : Int32} (k1 : zEv X d zm_252 (6, [some (.ref 215), some (.int x1), some (.int (x2 + 1)), some (.int x3), some (.int x4)], [], (zS0, R, I, J)) r) : zEv X d zm_252 (59, [some (.ref 215), some (.int x1), some (.int x2), some (.int x3), some (.int x4)], [], (zS0, R, I, J)) r := by
  refine zEv_k 2 (f' := (6, [some (.ref 215), some (.int x1), some (.int (x2 + 1)), some (.int x3), some (.int x4)], [], (zS0, R, I, J))) rfl ?_
  exact k1
theorem b_252_65 {X : zX} {d : Nat} {R : zR} {I : zI} {J : zJ} {r : zA} {x1 : Int32} {x2 : Int32} {x3 : Option Value} {x4 : Option Value} (k1 : ¬ x1 = 1000000 → zEv X d zm_252 (76, [some (.ref 215), some (.int x1), some (.int x2), x3, x4], [], (zS0, R, I, J)) r) (k2 : ¬ (¬ x1 = 1000000) → zEv X d zm_252 (72, [some (.ref 215), some (.int x1), some (.int x2), x3, x4], [], (zS0, R, I, J)) r) : zEv X d zm_252 (65, [some (.ref 215), some (.int x1), some (.int x2), x3, x4], [], (zS0, R, I, J)) r := by
  refine zEv_k 3 (f' := (if ¬ x1 = 1000000 then 76 else 72, [some (.ref 215), some (.int x1), some (.int x2), x3, x4], [], (zS0, R, I, J))) rfl ?_
  exact zEv_if k1 k2
theorem b_252_72 {X : zX} {d : Nat} {R : zR} {I : zI} {J : zJ} {x1 : Int32} {x2 : Int32} {x3 : Option Value} {x4 : Option Value} : zEv X d zm_252 (72, [some (.ref 215), some (.int x1), some (.int x2), x3, x4], [], (zS0, R, I, J)) (some (.int (-1)), (zS0, R, I, J)) := by
  refine zEv_k 2 (f' := (77, [some (.ref 215), some (.int x1), some (.int x2), x3, x4], [.int (-1)], (zS0, R, I, J))) rfl ?_
  exact zEv_r rfl
theorem b_252_76 {X : zX} {d : Nat} {R : zR} {I : zI} {J : zJ} {x1 : Int32} {x2 : Int32} {x3 : Option Value} {x4 : Option Value} : zEv X d zm_252 (76, [some (.ref 215), some (.int x1), some (.int x2), x3, x4], [], (zS0, R, I, J)) (some (.int x1), (zS0, R, I, J)) := by
  refine zEv_k 1 (f' := (77, [some (.ref 215), some (.int x1), some (.int x2), x3, x4], [.int x1], (zS0, R, I, J))) rfl ?_
  exact zEv_r rfl
theorem b_253_0 {X : zX} {d : Nat} {R : zR} {I : zI} {J : zJ} {r : zA} {x1 : Int32} (k1 : zEv X d zm_253 (10, [some (.ref 215), some (.int x1), some (.int 0), some (.int (-1)), some (.int 0), some (.int 1), none], [], (zS0, R, I, J)) r) : zEv X d zm_253 (0, [some (.ref 215), some (.int x1), none, none, none, none, none], [], (zS0, R, I, J)) r := by
  refine zEv_k 8 (f' := (10, [some (.ref 215), some (.int x1), some (.int 0), some (.int (-1)), some (.int 0), some (.int 1), none], [], (zS0, R, I, J))) rfl ?_
  exact k1
theorem b_253_10 {X : zX} {d : Nat} {R : zR} {I : zI} {J : zJ} {r : zA} {x1 : Int32} {x2 : Int32} {x3 : Int32} {x4 : Int32} {x5 : Int32} {x6 : Option Value} (k1 : 50 < x5 → zEv X d zm_253 (78, [some (.ref 215), some (.int x1), some (.int x2), some (.int x3), some (.int x4), some (.int x5), x6], [], (zS0, R, I, J)) r) (k2 : ¬ (50 < x5) → zEv X d zm_253 (17, [some (.ref 215), some (.int x1), some (.int x2), some (.int x3), some (.int x4), some (.int x5), x6], [], (zS0, R, I, J)) r) : zEv X d zm_253 (10, [some (.ref 215), some (.int x1), some (.int x2), some (.int x3), some (.int x4), some (.int x5), x6], [], (zS0, R, I, J)) r := by
  refine zEv_k 3 (f' := (if 50 < x5 then 78 else 17, [some (.ref 215), some (.int x1), some (.int x2), some (.int x3), some (.int x4), some (.int x5), x6], [], (zS0, R, I, J))) rfl ?_
  exact zEv_if k1 k2
theorem b_253_17 {X : zX} {d : Nat} {R : zR} {I : zI} {J : zJ} {r : zA} {x1 : Int32} {x2 : Int32} {x3 : Int32} {x4 : Int32} {x5 : Int32} {x6 : Option Value} {w : Int32} {R' : zR} {I' : zI} {J' : zJ} (hc : zEv X d zm_193 (0, [some (.ref 215), none], [], (zS0, R, I, J)) (some (.int w), (zS0, R', I', J'))) (k1 : zEv X (d + 1) zm_253 (27, [some (.ref 215), some (.int x1), some (.int x2), some (.int x3), some (.int x4), some (.int x5), some (.int (I 215 28))], [.int w], (zS0, R', I', J')) r) : zEv X (d + 1) zm_253 (17, [some (.ref 215), some (.int x1), some (.int x2), some (.int x3), some (.int x4), some (.int x5), x6], [], (zS0, R, I, J)) r := by
  refine zEv_k 4 (f' := (24, [some (.ref 215), some (.int x1), some (.int x2), some (.int x3), some (.int x4), some (.int x5), some (.int (I 215 28))], [.ref 215], (zS0, R, I, J))) rfl ?_
  exact zEv_c (fun _ => rfl) rfl hc rfl rfl k1
theorem b_253_27 {X : zX} {d : Nat} {R : zR} {I : zI} {J : zJ} {r : zA} {x1 : Int32} {x2 : Int32} {x3 : Int32} {x4 : Int32} {x5 : Int32} {x6 : Int32} {s0 : Int32} (k1 : ¬ (I 215 28) = x6 → zEv X d zm_253 (44, [some (.ref 215), some (.int x1), some (.int x2), some (.int x3), some (.int x4), some (.int x5), some (.int x6)], [], (zS0, R, I, J)) r) (k2 : ¬ (¬ (I 215 28) = x6) → zEv X d zm_253 (37, [some (.ref 215), some (.int x1), some (.int x2), some (.int x3), some (.int x4), some (.int x5), some (.int x6)], [], (zS0, R, I, J)) r) : zEv X d zm_253 (27, [some (.ref 215), some (.int x1), some (.int x2), some (.int x3), some (.int x4), some (.int x5), some (.int x6)], [.int s0], (zS0, R, I, J)) r := by
  refine zEv_k 5 (f' := (if ¬ (I 215 28) = x6 then 44 else 37, [some (.ref 215), some (.int x1), some (.int x2), some (.int x3), some (.int x4), some (.int x5), some (.int x6)], [], (zS0, R, I, J))) rfl ?_
  exact zEv_if k1 k2
theorem b_253_37 {X : zX} {d : Nat} {R : zR} {I : zI} {J : zJ} {r : zA} {x1 : Int32} {x2 : Int32} {x3 : Int32} {x4 : Int32} {x5 : Int32} {x6 : Int32} (k1 : zEv X d zm_253 (45, [some (.ref 215), some (.int x1), some (.int x2), some (.int x3), some (.int x4), some (.int x5), some (.int x6)], [.int (x4 + 1)], (zS0, R, I, J)) r) : zEv X d zm_253 (37, [some (.ref 215), some (.int x1), some (.int x2), some (.int x3), some (.int x4), some (.int x5), some (.int x6)], [], (zS0, R, I, J)) r := by
  refine zEv_k 4 (f' := (45, [some (.ref 215), some (.int x1), some (.int x2), some (.int x3), some (.int x4), some (.int x5), some (.int x6)], [.int (x4 + 1)], (zS0, R, I, J))) rfl ?_
  exact k1
theorem b_253_44 {X : zX} {d : Nat} {R : zR} {I : zI} {J : zJ} {r : zA} {x1 : Int32} {x2 : Int32} {x3 : Int32} {x4 : Int32} {x5 : Int32} {x6 : Int32} (k1 : zEv X d zm_253 (45, [some (.ref 215), some (.int x1), some (.int x2), some (.int x3), some (.int x4), some (.int x5), some (.int x6)], [.int 0], (zS0, R, I, J)) r) : zEv X d zm_253 (44, [some (.ref 215), some (.int x1), some (.int x2), some (.int x3), some (.int x4), some (.int x5), some (.int x6)], [], (zS0, R, I, J)) r := by
  refine zEv_k 1 (f' := (45, [some (.ref 215), some (.int x1), some (.int x2), some (.int x3), some (.int x4), some (.int x5), some (.int x6)], [.int 0], (zS0, R, I, J))) rfl ?_
  exact k1
theorem b_253_45 {X : zX} {d : Nat} {R : zR} {I : zI} {J : zJ} {r : zA} {x1 : Int32} {x2 : Int32} {x3 : Int32} {x4 : Int32} {x5 : Int32} {x6 : Int32} {s0 : Int32} (k1 : s0 ≤ x2 → zEv X d zm_253 (63, [some (.ref 215), some (.int x1), some (.int x2), some (.int x3), some (.int s0), some (.int x5), some (.int x6)], [], (zS0, R, I, J)) r) (k2 : ¬ (s0 ≤ x2) → zEv X d zm_253 (53, [some (.ref 215), some (.int x1), some (.int x2), some (.int x3), some (.int s0), some (.int x5), some (.int x6)], [], (zS0, R, I, J)) r) : zEv X d zm_253 (45, [some (.ref 215), some (.int x1), some (.int x2), some (.int x3), some (.int x4), some (.int x5), some (.int x6)], [.int s0], (zS0, R, I, J)) r := by
  refine zEv_k 4 (f' := (if s0 ≤ x2 then 63 else 53, [some (.ref 215), some (.int x1), some (.int x2), some (.int x3), some (.int s0), some (.int x5), some (.int x6)], [], (zS0, R, I, J))) rfl ?_
  exact zEv_if k1 k2
theorem b_253_53 {X : zX} {d : Nat} {R : zR} {I : zI} {J : zJ} {r : zA} {x1 : Int32} {x2 : Int32} {x3 : Int32} {x4 : Int32} {x5 : Int32} {x6 : Int32} (k1 : zEv X d zm_253 (64, [some (.ref 215), some (.int x1), some (.int x2), some (.int x3), some (.int x4), some (.int x5), some (.int x6)], [.int ((x5 - x4) + 1)], (zS0, R, I, J)) r) : zEv X d zm_253 (53, [some (.ref 215), some (.int x1), some (.int x2), some (.int x3), some (.int x4), some (.int x5), some (.int x6)], [], (zS0, R, I, J)) r := by
  refine zEv_k 6 (f' := (64, [some (.ref 215), some (.int x1), some (.int x2), some (.int x3), some (.int x4), some (.int x5), some (.int x6)], [.int ((x5 - x4) + 1)], (zS0, R, I, J))) rfl ?_
  exact k1
theorem b_253_63 {X : zX} {d : Nat} {R : zR} {I : zI} {J : zJ} {r : zA} {x1 : Int32} {x2 : Int32} {x3 : Int32} {x4 : Int32} {x5 : Int32} {x6 : Int32} (k1 : zEv X d zm_253 (64, [some (.ref 215), some (.int x1), some (.int x2), some (.int x3), some (.int x4), some (.int x5), some (.int x6)], [.int x3], (zS0, R, I, J)) r) : zEv X d zm_253 (63, [some (.ref 215), some (.int x1), some (.int x2), some (.int x3), some (.int x4), some (.int x5), some (.int x6)], [], (zS0, R, I, J)) r := by
  refine zEv_k 1 (f' := (64, [some (.ref 215), some (.int x1), some (.int x2), some (.int x3), some (.int x4), some (.int x5), some (.int x6)], [.int x3], (zS0, R, I, J))) rfl ?_
  exact k1
theorem b_253_64 {X : zX} {d : Nat} {R : zR} {I : zI} {J : zJ} {r : zA} {x1 : Int32} {x2 : Int32} {x3 : Int32} {x4 : Int32} {x5 : Int32} {x6 : Int32} {s0 : Int32} (k1 : zEv X (d + 1) zm_253 (10, [some (.ref 215), some (.int x1), some (.int (zf_greater x2 x4)), some (.int s0), some (.int x4), some (.int (x5 + 1)), some (.int x6)], [], (zS0, R, I, J)) r) : zEv X (d + 1) zm_253 (64, [some (.ref 215), some (.int x1), some (.int x2), some (.int x3), some (.int x4), some (.int x5), some (.int x6)], [.int s0], (zS0, R, I, J)) r := by
  refine zEv_k 3 (f' := (68, [some (.ref 215), some (.int x1), some (.int x2), some (.int s0), some (.int x4), some (.int x5), some (.int x6)], [.int x4, .int x2], (zS0, R, I, J))) rfl ?_
  refine zEv_c (fun _ => rfl) rfl ev_zf_greater rfl rfl ?_
  refine zEv_k 3 (f' := (10, [some (.ref 215), some (.int x1), some (.int (zf_greater x2 x4)), some (.int s0), some (.int x4), some (.int (x5 + 1)), some (.int x6)], [], (zS0, R, I, J))) rfl ?_
  exact k1
theorem b_253_78 {X : zX} {d : Nat} {R : zR} {I : zI} {J : zJ} {r : zA} {x1 : Int32} {x2 : Int32} {x3 : Int32} {x4 : Int32} {x5 : Int32} {x6 : Option Value} (k1 : x1 = 0 → zEv X d zm_253 (86, [some (.ref 215), some (.int x1), some (.int x2), some (.int x3), some (.int x4), some (.int x5), x6], [], (zS0, R, I, J)) r) (k2 : ¬ (x1 = 0) → zEv X d zm_253 (82, [some (.ref 215), some (.int x1), some (.int x2), some (.int x3), some (.int x4), some (.int x5), x6], [], (zS0, R, I, J)) r) : zEv X d zm_253 (78, [some (.ref 215), some (.int x1), some (.int x2), some (.int x3), some (.int x4), some (.int x5), x6], [], (zS0, R, I, J)) r := by
  refine zEv_k 2 (f' := (if x1 = 0 then 86 else 82, [some (.ref 215), some (.int x1), some (.int x2), some (.int x3), some (.int x4), some (.int x5), x6], [], (zS0, R, I, J))) rfl ?_
  exact zEv_if k1 k2
theorem b_253_82 {X : zX} {d : Nat} {R : zR} {I : zI} {J : zJ} {x1 : Int32} {x2 : Int32} {x3 : Int32} {x4 : Int32} {x5 : Int32} {x6 : Option Value} : zEv X d zm_253 (82, [some (.ref 215), some (.int x1), some (.int x2), some (.int x3), some (.int x4), some (.int x5), x6], [], (zS0, R, I, J)) (some (.int x3), (zS0, R, I, J)) := by
  refine zEv_k 2 (f' := (87, [some (.ref 215), some (.int x1), some (.int x2), some (.int x3), some (.int x4), some (.int x5), x6], [.int x3], (zS0, R, I, J))) rfl ?_
  exact zEv_r rfl
theorem b_253_86 {X : zX} {d : Nat} {R : zR} {I : zI} {J : zJ} {x1 : Int32} {x2 : Int32} {x3 : Int32} {x4 : Int32} {x5 : Int32} {x6 : Option Value} : zEv X d zm_253 (86, [some (.ref 215), some (.int x1), some (.int x2), some (.int x3), some (.int x4), some (.int x5), x6], [], (zS0, R, I, J)) (some (.int x2), (zS0, R, I, J)) := by
  refine zEv_k 1 (f' := (87, [some (.ref 215), some (.int x1), some (.int x2), some (.int x3), some (.int x4), some (.int x5), x6], [.int x2], (zS0, R, I, J))) rfl ?_
  exact zEv_r rfl
theorem b_254_0 {X : zX} {d : Nat} {R : zR} {I : zI} {J : zJ} {r : zA} {w : Int32} {R' : zR} {I' : zI} {J' : zJ} (hc : zEv X d zm_203 (0, [some (.ref 215), none, none], [], (zS0, R, I, J)) (some (.int w), (zS0, R', I', J'))) (k1 : zEv X (d + 1) zm_254 (6, [some (.ref 215), some (.int (-1)), none, none, none, none], [.int w], (zS0, R', I', J')) r) : zEv X (d + 1) zm_254 (0, [some (.ref 215), none, none, none, none, none], [], (zS0, R, I, J)) r := by
  refine zEv_k 3 (f' := (3, [some (.ref 215), some (.int (-1)), none, none, none, none], [.ref 215], (zS0, R, I, J))) rfl ?_
  exact zEv_c (fun _ => rfl) rfl hc rfl rfl k1
theorem b_254_6 {X : zX} {d : Nat} {R : zR} {I : zI} {J : zJ} {r : zA} {x1 : Int32} {s0 : Int32} (k1 : zEv X d zm_254 (9, [some (.ref 215), some (.int x1), some (.int s0), some (.int 0), none, none], [], (zS0, R, I, J)) r) : zEv X d zm_254 (6, [some (.ref 215), some (.int x1), none, none, none, none], [.int s0], (zS0, R, I, J)) r := by
  refine zEv_k 3 (f' := (9, [some (.ref 215), some (.int x1), some (.int s0), some (.int 0), none, none], [], (zS0, R, I, J))) rfl ?_
  exact k1
theorem b_254_9 {X : zX} {d : Nat} {R : zR} {I : zI} {J : zJ} {r : zA} {x1 : Int32} {x2 : Int32} {x3 : Int32} {x4 : Option Value} {x5 : Option Value} (k1 : (I 215 23) ≤ x3 → zEv X d zm_254 (88, [some (.ref 215), some (.int x1), some (.int x2), some (.int x3), x4, x5], [], (zS0, R, I, J)) r) (k2 : ¬ ((I 215 23) ≤ x3) → zEv X d zm_254 (17, [some (.ref 215), some (.int x1), some (.int x2), some (.int x3), x4, x5], [], (zS0, R, I, J)) r) : zEv X d zm_254 (9, [some (.ref 215), some (.int x1), some (.int x2), some (.int x3), x4, x5], [], (zS0, R, I, J)) r := by
  refine zEv_k 4 (f' := (if (I 215 23) ≤ x3 then 88 else 17, [some (.ref 215), some (.int x1), some (.int x2), some (.int x3), x4, x5], [], (zS0, R, I, J))) rfl ?_
  exact zEv_if k1 k2
theorem b_254_17 {X : zX} {d : Nat} {R : zR} {I : zI} {J : zJ} {r : zA} {x1 : Int32} {x2 : Int32} {x3 : Int32} {x4 : Option Value} {x5 : Option Value} (k1 : zEv X d zm_254 (22, [some (.ref 215), some (.int x1), some (.int x2), some (.int x3), some (.int (x3 + 1)), x5], [], (zS0, R, I, J)) r) : zEv X d zm_254 (17, [some (.ref 215), some (.int x1), some (.int x2), some (.int x3), x4, x5], [], (zS0, R, I, J)) r := by
  refine zEv_k 4 (f' := (22, [some (.ref 215), some (.int x1), some (.int x2), some (.int x3), some (.int (x3 + 1)), x5], [], (zS0, R, I, J))) rfl ?_
  exact k1
theorem b_254_22 {X : zX} {d : Nat} {R : zR} {I : zI} {J : zJ} {r : zA} {x1 : Int32} {x2 : Int32} {x3 : Int32} {x4 : Int32} {x5 : Option Value} (k1 : (I 215 23) ≤ x4 → zEv X d zm_254 (82, [some (.ref 215), some (.int x1), some (.int x2), some (.int x3), some (.int x4), x5], [], (zS0, R, I, J)) r) (k2 : ¬ ((I 215 23) ≤ x4) → zEv X d zm_254 (31, [some (.ref 215), some (.int x1), some (.int x2), some (.int x3), some (.int x4), x5], [], (zS0, R, I, J)) r) : zEv X d zm_254 (22, [some (.ref 215), some (.int x1), some (.int x2), some (.int x3), some (.int x4), x5], [], (zS0, R, I, J)) r := by
  refine zEv_k 4 (f' := (if (I 215 23) ≤ x4 then 82 else 31, [some (.ref 215), some (.int x1), some (.int x2), some (.int x3), some (.int x4), x5], [], (zS0, R, I, J))) rfl ?_
  exact zEv_if k1 k2
theorem b_254_31 {X : zX} {d : Nat} {R : zR} {I : zI} {J : zJ} {r : zA} {x1 : Int32} {x2 : Int32} {x3 : Int32} {x4 : Int32} {x5 : Option Value} {R' : zR} {I' : zI} {J' : zJ} (hc : zEv X d zm_204 (0, [some (.ref 215), some (.int x3), some (.int x4), none], [], (zS0, R, I, J)) (none, (zS0, R', I', J'))) (k1 : zEv X (d + 1) zm_254 (38, [some (.ref 215), some (.int x1), some (.int x2), some (.int x3), some (.int x4), x5], [], (zS0, R', I', J')) r) : zEv X (d + 1) zm_254 (31, [some (.ref 215), some (.int x1), some (.int x2), some (.int x3), some (.int x4), x5], [], (zS0, R, I, J)) r := by
  refine zEv_k 3 (f' := (35, [some (.ref 215), some (.int x1), some (.int x2), some (.int x3), some (.int x4), x5], [.int x4, .int x3, .ref 215], (zS0, R, I, J))) rfl ?_
  exact zEv_c (fun _ => rfl) rfl hc rfl rfl k1
theorem b_254_38 {X : zX} {d : Nat} {R : zR} {I : zI} {J : zJ} {r : zA} {x1 : Int32} {x2 : Int32} {x3 : Int32} {x4 : Int32} {x5 : Option Value} {w : Int32} {R' : zR} {I' : zI} {J' : zJ} (hc : zEv X d zm_203 (0, [some (.ref 215), none, none], [], (zS0, R, I, J)) (some (.int w), (zS0, R', I', J'))) (k1 : zEv X (d + 1) zm_254 (42, [some (.ref 215), some (.int x1), some (.int x2), some (.int x3), some (.int x4), x5], [.int w], (zS0, R', I', J')) r) : zEv X (d + 1) zm_254 (38, [some (.ref 215), some (.int x1), some (.int x2), some (.int x3), some (.int x4), x5], [], (zS0, R, I, J)) r := by
  refine zEv_k 1 (f' := (39, [some (.ref 215), some (.int x1), some (.int x2), some (.int x3), some (.int x4), x5], [.ref 215], (zS0, R, I, J))) rfl ?_
  exact zEv_c (fun _ => rfl) rfl hc rfl rfl k1
theorem b_254_42 {X : zX} {d : Nat} {R : zR} {I : zI} {J : zJ} {r : zA} {x1 : Int32} {x2 : Int32} {x3 : Int32} {x4 : Int32} {x5 : Option Value} {s0 : Int32} {R' : zR} {I' : zI} {J' : zJ} (hc : zEv X d zm_204 (0, [some (.ref 215), some (.int x3), some (.int x4), none], [], (zS0, R, I, J)) (none, (zS0, R', I', J'))) (k1 : zEv X (d + 1) zm_254 (51, [some (.ref 215), some (.int x1), some (.int x2), some (.int x3), some (.int x4), some (.int s0)], [], (zS0, R', I', J')) r) : zEv X (d + 1) zm_254 (42, [some (.ref 215), some (.int x1), some (.int x2), some (.int x3), some (.int x4), x5], [.int s0], (zS0, R, I, J)) r := by
  refine zEv_k 4 (f' := (48, [some (.ref 215), some (.int x1), some (.int x2), some (.int x3), some (.int x4), some (.int s0)], [.int x4, .int x3, .ref 215], (zS0, R, I, J))) rfl ?_
  exact zEv_c (fun _ => rfl) rfl hc rfl rfl k1
theorem b_254_51 {X : zX} {d : Nat} {R : zR} {I : zI} {J : zJ} {r : zA} {x1 : Int32} {x2 : Int32} {x3 : Int32} {x4 : Int32} {x5 : Int32} (k1 : x2 ≤ x5 → zEv X d zm_254 (67, [some (.ref 215), some (.int x1), some (.int x2), some (.int x3), some (.int x4), some (.int x5)], [], (zS0, R, I, J)) r) (k2 : ¬ (x2 ≤ x5) → zEv X d zm_254 (57, [some (.ref 215), some (.int x1), some (.int x2), some (.int x3), some (.int x4), some (.int x5)], [], (zS0, R, I, J)) r) : zEv X d zm_254 (51, [some (.ref 215), some (.int x1), some (.int x2), some (.int x3), some (.int x4), some (.int x5)], [], (zS0, R, I, J)) r := by
  refine zEv_k 3 (f' := (if x2 ≤ x5 then 67 else 57, [some (.ref 215), some (.int x1), some (.int x2), some (.int x3), some (.int x4), some (.int x5)], [], (zS0, R, I, J))) rfl ?_
  exact zEv_if k1 k2
theorem b_254_57 {X : zX} {d : Nat} {R : zR} {I : zI} {J : zJ} {r : zA} {x1 : Int32} {x2 : Int32} {x3 : Int32} {x4 : Int32} {x5 : Int32} (k1 : zEv X d zm_254 (68, [some (.ref 215), some (.int x1), some (.int x2), some (.int x3), some (.int x4), some (.int x5)], [.int ((10 * x3) + x4)], (zS0, R, I, J)) r) : zEv X d zm_254 (57, [some (.ref 215), some (.int x1), some (.int x2), some (.int x3), some (.int x4), some (.int x5)], [], (zS0, R, I, J)) r := by
  refine zEv_k 6 (f' := (68, [some (.ref 215), some (.int x1), some (.int x2), some (.int x3), some (.int x4), some (.int x5)], [.int ((10 * x3) + x4)], (zS0, R, I, J))) rfl ?_
  exact k1
theorem b_254_67 {X : zX} {d : Nat} {R : zR} {I : zI} {J : zJ} {r : zA} {x1 : Int32} {x2 : Int32} {x3 : Int32} {x4 : Int32} {x5 : Int32} (k1 : zEv X d zm_254 (68, [some (.ref 215), some (.int x1), some (.int x2), some (.int x3), some (.int x4), some (.int x5)], [.int x1], (zS0, R, I, J)) r) : zEv X d zm_254 (67, [some (.ref 215), some (.int x1), some (.int x2), some (.int x3), some (.int x4), some (.int x5)], [], (zS0, R, I, J)) r := by
  refine zEv_k 1 (f' := (68, [some (.ref 215), some (.int x1), some (.int x2), some (.int x3), some (.int x4), some (.int x5)], [.int x1], (zS0, R, I, J))) rfl ?_
  exact k1
theorem b_254_68 {X : zX} {d : Nat} {R : zR} {I : zI} {J : zJ} {r : zA} {x1 : Int32} {x2 : Int32} {x3 : Int32} {x4 : Int32} {x5 : Int32} {s0 : Int32} (k1 : zEv X (d + 1) zm_254 (22, [some (.ref 215), some (.int s0), some (.int (zf_lesser x2 x5)), some (.int x3), some (.int (x4 + 1)), some (.int x5)], [], (zS0, R, I, J)) r) : zEv X (d + 1) zm_254 (68, [some (.ref 215), some (.int x1), some (.int x2), some (.int x3), some (.int x4), some (.int x5)], [.int s0], (zS0, R, I, J)) r := by
  refine zEv_k 3 (f' := (72, [some (.ref 215), some (.int s0), some (.int x2), some (.int x3), some (.int x4), some (.int x5)], [.int x5, .int x2], (zS0, R, I, J))) rfl ?_
  refine zEv_c (fun _ => rfl) rfl ev_zf_lesser rfl rfl ?_
  refine zEv_k 3 (f' := (22, [some (.ref 215), some (.int s0), some (.int (zf_lesser x2 x5)), some (.int x3), some (.int (x4 + 1)), some (.int x5)], [], (zS0, R, I, J))) rfl ?_
  exact k1
theorem b_254_82 {X : zX} {d : Nat} {R : zR} {I : zI} {J : zJ} {r : zA} {x1 : Int32} {x2 : Int32} {x3 : Int32} {x4 : Int32} {x5 : Option Value} (k1 : zEv X d zm_254 (9, [some (.ref 215), some (.int x1), some (.int x2), some (.int (x3 + 1)), some (.int x4), x5], [], (zS0, R, I, J)) r) : zEv X d zm_254 (82, [some (.ref 215), some (.int x1), some (.int x2), some (.int x3), some (.int x4), x5], [], (zS0, R, I, J)) r := by
  refine zEv_k 2 (f' := (9, [some (.ref 215), some (.int x1), some (.int x2), some (.int (x3 + 1)), some (.int x4), x5], [], (zS0, R, I, J))) rfl ?_
  exact k1
theorem b_254_88 {X : zX} {d : Nat} {R : zR} {I : zI} {J : zJ} {x1 : Int32} {x2 : Int32} {x3 : Int32} {x4 : Option Value} {x5 : Option Value} : zEv X d zm_254 (88, [some (.ref 215), some (.int x1), some (.int x2), some (.int x3), x4, x5], [], (zS0, R, I, J)) (some (.int x1), (zS0, R, I, J)) := by
  refine zEv_k 1 (f' := (89, [some (.ref 215), some (.int x1), some (.int x2), some (.int x3), x4, x5], [.int x1], (zS0, R, I, J))) rfl ?_
  exact zEv_r rfl
theorem b_255_0 {X : zX} {d : Nat} {R : zR} {I : zI} {J : zJ} {r : zA} (k1 : zEv X d zm_255 (4, [some (.ref 215), some (.int (-1)), some (.int 0), none], [], (zS0, R, I, J)) r) : zEv X d zm_255 (0, [some (.ref 215), none, none, none], [], (zS0, R, I, J)) r := by
  refine zEv_k 4 (f' := (4, [some (.ref 215), some (.int (-1)), some (.int 0), none], [], (zS0, R, I, J))) rfl ?_
  exact k1
theorem b_255_4 {X : zX} {d : Nat} {R : zR} {I : zI} {J : zJ} {r : zA} {x1 : Int32} {x2 : Int32} {x3 : Option Value} (k1 : (I 215 23) ≤ x2 → zEv X d zm_255 (61, [some (.ref 215), some (.int x1), some (.int x2), x3], [], (zS0, R, I, J)) r) (k2 : ¬ ((I 215 23) ≤ x2) → zEv X d zm_255 (12, [some (.ref 215), some (.int x1), some (.int x2), x3], [], (zS0, R, I, J)) r) : zEv X d zm_255 (4, [some (.ref 215), some (.int x1), some (.int x2), x3], [], (zS0, R, I, J)) r := by
  refine zEv_k 4 (f' := (if (I 215 23) ≤ x2 then 61 else 12, [some (.ref 215), some (.int x1), some (.int x2), x3], [], (zS0, R, I, J))) rfl ?_
  exact zEv_if k1 k2
theorem b_255_12 {X : zX} {d : Nat} {R : zR} {I : zI} {J : zJ} {r : zA} {x1 : Int32} {x2 : Int32} {x3 : Option Value} {w : Int32} {R' : zR} {I' : zI} {J' : zJ} (hc : zEv X d zm_208 (0, [some (.ref 215), some (.int x2), none], [], (zS0, R, I, J)) (some (.int w), (zS0, R', I', J'))) (k1 : zEv X (d + 1) zm_255 (17, [some (.ref 215), some (.int x1), some (.int x2), x3], [.int w], (zS0, R', I', J')) r) : zEv X (d + 1) zm_255 (12, [some (.ref 215), some (.int x1), some (.int x2), x3], [], (zS0, R, I, J)) r := by
  refine zEv_k 2 (f' := (14, [some (.ref 215), some (.int x1), some (.int x2), x3], [.int x2, .ref 215], (zS0, R, I, J))) rfl ?_
  exact zEv_c (fun _ => rfl) rfl hc rfl rfl k1
theorem b_255_17 {X : zX} {d : Nat} {R : zR} {I : zI} {J : zJ} {r : zA} {x1 : Int32} {x2 : Int32} {x3 : Option Value} {s0 : Int32} (k1 : s0 = (-1) → zEv X d zm_255 (43, [some (.ref 215), some (.int x1), some (.int x2), x3], [], (zS0, R, I, J)) r) (k2 : ¬ (s0 = (-1)) → zEv X d zm_255 (21, [some (.ref 215), some (.int x1), some (.int x2), x3], [], (zS0, R, I, J)) r) : zEv X d zm_255 (17, [some (.ref 215), some (.int x1), some (.int x2), x3], [.int s0], (zS0, R, I, J)) r := by
  refine zEv_k 2 (f' := (if s0 = (-1) then 43 else 21, [some (.ref 215), some (.int x1), some (.int x2), x3], [], (zS0, R, I, J))) rfl ?_
  exact zEv_if k1 k2
theorem b_255_21 {X : zX} {d : Nat} {R : zR} {I : zI} {J : zJ} {r : zA} {x1 : Int32} {x2 : Int32} {x3 : Option Value} (k1 : x1 = (-1) → zEv X d zm_255 (39, [some (.ref 215), some (.int x1), some (.int x2), x3], [], (zS0, R, I, J)) r) (k2 : ¬ (x1 = (-1)) → zEv X d zm_255 (26, [some (.ref 215), some (.int x1), some (.int x2), x3], [], (zS0, R, I, J)) r) : zEv X d zm_255 (21, [some (.ref 215), some (.int x1), some (.int x2), x3], [], (zS0, R, I, J)) r := by
  refine zEv_k 3 (f' := (if x1 = (-1) then 39 else 26, [some (.ref 215), some (.int x1), some (.int x2), x3], [], (zS0, R, I, J))) rfl ?_
  exact zEv_if k1 k2
theorem b_255_26 {X : zX} {d : Nat} {R : zR} {I : zI} {J : zJ} {r : zA} {x1 : Int32} {x2 : Int32} {x3 : Option Value} {w : Int32} {R' : zR} {I' : zI} {J' : zJ} (hc : zEv X d zm_208 (0, [some (.ref 215), some (.int x2), none], [], (zS0, R, I, J)) (some (.int w), (zS0, R', I', J'))) (k1 : zEv X (d + 1) zm_255 (31, [some (.ref 215), some (.int x1), some (.int x2), x3], [.int w], (zS0, R', I', J')) r) : zEv X (d + 1) zm_255 (26, [some (.ref 215), some (.int x1), some (.int x2), x3], [], (zS0, R, I, J)) r := by
  refine zEv_k 2 (f' := (28, [some (.ref 215), some (.int x1), some (.int x2), x3], [.int x2, .ref 215], (zS0, R, I, J))) rfl ?_
  exact zEv_c (fun _ => rfl) rfl hc rfl rfl k1
