theorem b_270_0 {X : zX} {d : Nat} {R : zR} {I : zI} {J : zJ} {r : zA} {c : Nat} (ho : c = 7 ∨ c = 22) (k1 : zEv X d zm_270 (4, [some (.ref c), some (.int (-1)), some (.int 0)], [], (zS0, R, I, J)) r) : zEv X d zm_270 (0, [some (.ref c), none, none], [], (zS0, R, I, J)) r := by
  rcases ho with rfl | rfl
  · refine zEv_k 4 (f' := (4, [some (.ref 7), some (.int (-1)), some (.int 0)], [], (zS0, R, I, J))) rfl ?_
    exact k1
  · refine zEv_k 4 (f' := (4, [some (.ref 22), some (.int (-1)), some (.int 0)], [], (zS0, R, I, J))) rfl ?_
    exact k1
theorem b_270_4 {X : zX} {d : Nat} {R : zR} {I : zI} {J : zJ} {r : zA} {c : Nat} {x1 : Int32} {x2 : Int32} (ho : c = 7 ∨ c = 22) (k1 : (I c 2) ≤ x2 → zEv X d zm_270 (40, [some (.ref c), some (.int x1), some (.int x2)], [], (zS0, R, I, J)) r) (k2 : ¬ ((I c 2) ≤ x2) → zEv X d zm_270 (12, [some (.ref c), some (.int x1), some (.int x2)], [], (zS0, R, I, J)) r) : zEv X d zm_270 (4, [some (.ref c), some (.int x1), some (.int x2)], [], (zS0, R, I, J)) r := by
  rcases ho with rfl | rfl
  · refine zEv_k 4 (f' := (if (I 7 2) ≤ x2 then 40 else 12, [some (.ref 7), some (.int x1), some (.int x2)], [], (zS0, R, I, J))) rfl ?_
    exact zEv_if k1 k2
  · refine zEv_k 4 (f' := (if (I 22 2) ≤ x2 then 40 else 12, [some (.ref 22), some (.int x1), some (.int x2)], [], (zS0, R, I, J))) rfl ?_
    exact zEv_if k1 k2
theorem b_270_12 {X : zX} {d : Nat} {R : zR} {I : zI} {J : zJ} {r : zA} {c : Nat} {x1 : Int32} {x2 : Int32} (ho : c = 7 ∨ c = 22) (k1 : x1 = (-1) → zEv X d zm_270 (32, [some (.ref c), some (.int x1), some (.int x2)], [], (zS0, R, I, J)) r) (k2 : ¬ (x1 = (-1)) → zEv X d zm_270 (17, [some (.ref c), some (.int x1), some (.int x2)], [], (zS0, R, I, J)) r) : zEv X d zm_270 (12, [some (.ref c), some (.int x1), some (.int x2)], [], (zS0, R, I, J)) r := by
  rcases ho with rfl | rfl
  · refine zEv_k 3 (f' := (if x1 = (-1) then 32 else 17, [some (.ref 7), some (.int x1), some (.int x2)], [], (zS0, R, I, J))) rfl ?_
    exact zEv_if k1 k2
  · refine zEv_k 3 (f' := (if x1 = (-1) then 32 else 17, [some (.ref 22), some (.int x1), some (.int x2)], [], (zS0, R, I, J))) rfl ?_
    exact zEv_if k1 k2
theorem b_270_17 {X : zX} {d : Nat} {R : zR} {I : zI} {J : zJ} {r : zA} {c : Nat} {x1 : Int32} {x2 : Int32} (hR : zRok R) (ho : c = 7 ∨ c = 22) (h22 : zin x2 7) (h28 : zin x1 7) (k1 : (I (c + 1) (x2).toNatClampNeg) ≤ (I (c + 1) (x1).toNatClampNeg) → zEv X d zm_270 (34, [some (.ref c), some (.int x1), some (.int x2)], [], (zS0, R, I, J)) r) (k2 : ¬ ((I (c + 1) (x2).toNatClampNeg) ≤ (I (c + 1) (x1).toNatClampNeg)) → zEv X d zm_270 (32, [some (.ref c), some (.int x1), some (.int x2)], [], (zS0, R, I, J)) r) : zEv X d zm_270 (17, [some (.ref c), some (.int x1), some (.int x2)], [], (zS0, R, I, J)) r := by
  rcases ho with rfl | rfl
  · refine zEv_k 1 (f' := (18, [some (.ref 7), some (.int x1), some (.int x2)], [.ref 7], (zS0, R, I, J))) rfl ?_
    refine zEv_gr rfl rfl rfl (by decide) (hR (7) 3 (7 + 1) rfl) ?_
    refine zEv_k 1 (f' := (22, [some (.ref 7), some (.int x1), some (.int x2)], [.int x2, .ref (7 + 1)], (zS0, R, I, J))) rfl ?_
    refine zEv_ial rfl rfl (by decide) h22 ?_
    refine zEv_k 1 (f' := (24, [some (.ref 7), some (.int x1), some (.int x2)], [.ref 7, .int (I (7 + 1) (x2).toNatClampNeg)], (zS0, R, I, J))) rfl ?_
    refine zEv_gr rfl rfl rfl (by decide) (hR (7) 3 (7 + 1) rfl) ?_
    refine zEv_k 1 (f' := (28, [some (.ref 7), some (.int x1), some (.int x2)], [.int x1, .ref (7 + 1), .int (I (7 + 1) (x2).toNatClampNeg)], (zS0, R, I, J))) rfl ?_
    refine zEv_ial rfl rfl (by decide) h28 ?_
    refine zEv_k 1 (f' := (if (I (7 + 1) (x2).toNatClampNeg) ≤ (I (7 + 1) (x1).toNatClampNeg) then 34 else 32, [some (.ref 7), some (.int x1), some (.int x2)], [], (zS0, R, I, J))) rfl ?_
    exact zEv_if k1 k2
  · refine zEv_k 1 (f' := (18, [some (.ref 22), some (.int x1), some (.int x2)], [.ref 22], (zS0, R, I, J))) rfl ?_
    refine zEv_gr rfl rfl rfl (by decide) (hR (22) 3 (22 + 1) rfl) ?_
    refine zEv_k 1 (f' := (22, [some (.ref 22), some (.int x1), some (.int x2)], [.int x2, .ref (22 + 1)], (zS0, R, I, J))) rfl ?_
    refine zEv_ial rfl rfl (by decide) h22 ?_
    refine zEv_k 1 (f' := (24, [some (.ref 22), some (.int x1), some (.int x2)], [.ref 22, .int (I (22 + 1) (x2).toNatClampNeg)], (zS0, R, I, J))) rfl ?_
    refine zEv_gr rfl rfl rfl (by decide) (hR (22) 3 (22 + 1) rfl) ?_
    refine zEv_k 1 (f' := (28, [some (.ref 22), some (.int x1), some (.int x2)], [.int x1, .ref (22 + 1), .int (I (22 + 1) (x2).toNatClampNeg)], (zS0, R, I, J))) rfl ?_
    refine zEv_ial rfl rfl (by decide) h28 ?_
    refine zEv_k 1 (f' := (if (I (22 + 1) (x2).toNatClampNeg) ≤ (I (22 + 1) (x1).toNatClampNeg) then 34 else 32, [some (.ref 22), some (.int x1), some (.int x2)], [], (zS0, R, I, J))) rfl ?_
    exact zEv_if k1 k2
theorem b_270_32 {X : zX} {d : Nat} {R : zR} {I : zI} {J : zJ} {r : zA} {c : Nat} {x1 : Int32} {x2 : Int32} (ho : c = 7 ∨ c = 22) (k1 : zEv X d zm_270 (34, [some (.ref c), some (.int x2), some (.int x2)], [], (zS0, R, I, J)) r) : zEv X d zm_270 (32, [some (.ref c), some (.int x1), some (.int x2)], [], (zS0, R, I, J)) r := by
  rcases ho with rfl | rfl
  · refine zEv_k 2 (f' := (34, [some (.ref 7), some (.int x2), some (.int x2)], [], (zS0, R, I, J))) rfl ?_
    exact k1
  · refine zEv_k 2 (f' := (34, [some (.ref 22), some (.int x2), some (.int x2)], [], (zS0, R, I, J))) rfl ?_
    exact k1
theorem b_270_34 {X : zX} {d : Nat} {R : zR} {I : zI} {J : zJ} {r : zA} {c : Nat} {x1 : Int32} {x2 : Int32} (ho : c = 7 ∨ c = 22) (k1 : zEv X d zm_270 (4, [some (.ref c), some (.int x1), some (.int (x2 + 1))], [], (zS0, R, I, J)) r) : zEv X d zm_270 (34, [some (.ref c), some (.int x1), some (.int x2)], [], (zS0, R, I, J)) r := by
  rcases ho with rfl | rfl
  · refine zEv_k 2 (f' := (4, [some (.ref 7), some (.int x1), some (.int (x2 + 1))], [], (zS0, R, I, J))) rfl ?_
    exact k1
  · refine zEv_k 2 (f' := (4, [some (.ref 22), some (.int x1), some (.int (x2 + 1))], [], (zS0, R, I, J))) rfl ?_
    exact k1
theorem b_270_40 {X : zX} {d : Nat} {R : zR} {I : zI} {J : zJ} {c : Nat} {x1 : Int32} {x2 : Int32} (ho : c = 7 ∨ c = 22) : zEv X d zm_270 (40, [some (.ref c), some (.int x1), some (.int x2)], [], (zS0, R, I, J)) (some (.int x1), (zS0, R, I, J)) := by
  rcases ho with rfl | rfl
  · refine zEv_k 1 (f' := (41, [some (.ref 7), some (.int x1), some (.int x2)], [.int x1], (zS0, R, I, J))) rfl ?_
    exact zEv_r rfl
  · refine zEv_k 1 (f' := (41, [some (.ref 22), some (.int x1), some (.int x2)], [.int x1], (zS0, R, I, J))) rfl ?_
    exact zEv_r rfl
theorem b_271_0 {X : zX} {d : Nat} {R : zR} {I : zI} {J : zJ} {r : zA} {c : Nat} (ho : c = 7 ∨ c = 22) (k1 : zEv X d zm_271 (4, [some (.ref c), some (.int (-1)), some (.int 0)], [], (zS0, R, I, J)) r) : zEv X d zm_271 (0, [some (.ref c), none, none], [], (zS0, R, I, J)) r := by
  rcases ho with rfl | rfl
  · refine zEv_k 4 (f' := (4, [some (.ref 7), some (.int (-1)), some (.int 0)], [], (zS0, R, I, J))) rfl ?_
    exact k1
  · refine zEv_k 4 (f' := (4, [some (.ref 22), some (.int (-1)), some (.int 0)], [], (zS0, R, I, J))) rfl ?_
    exact k1
theorem b_271_4 {X : zX} {d : Nat} {R : zR} {I : zI} {J : zJ} {r : zA} {c : Nat} {x1 : Int32} {x2 : Int32} (ho : c = 7 ∨ c = 22) (k1 : (I c 2) ≤ x2 → zEv X d zm_271 (54, [some (.ref c), some (.int x1), some (.int x2)], [], (zS0, R, I, J)) r) (k2 : ¬ ((I c 2) ≤ x2) → zEv X d zm_271 (12, [some (.ref c), some (.int x1), some (.int x2)], [], (zS0, R, I, J)) r) : zEv X d zm_271 (4, [some (.ref c), some (.int x1), some (.int x2)], [], (zS0, R, I, J)) r := by
  rcases ho with rfl | rfl
  · refine zEv_k 4 (f' := (if (I 7 2) ≤ x2 then 54 else 12, [some (.ref 7), some (.int x1), some (.int x2)], [], (zS0, R, I, J))) rfl ?_
    exact zEv_if k1 k2
  · refine zEv_k 4 (f' := (if (I 22 2) ≤ x2 then 54 else 12, [some (.ref 22), some (.int x1), some (.int x2)], [], (zS0, R, I, J))) rfl ?_
    exact zEv_if k1 k2
theorem b_271_12 {X : zX} {d : Nat} {R : zR} {I : zI} {J : zJ} {r : zA} {c : Nat} {x1 : Int32} {x2 : Int32} (ho : c = 7 ∨ c = 22) (k1 : x1 = (-1) → zEv X d zm_271 (46, [some (.ref c), some (.int x1), some (.int x2)], [], (zS0, R, I, J)) r) (k2 : ¬ (x1 = (-1)) → zEv X d zm_271 (17, [some (.ref c), some (.int x1), some (.int x2)], [], (zS0, R, I, J)) r) : zEv X d zm_271 (12, [some (.ref c), some (.int x1), some (.int x2)], [], (zS0, R, I, J)) r := by
  rcases ho with rfl | rfl
  · refine zEv_k 3 (f' := (if x1 = (-1) then 46 else 17, [some (.ref 7), some (.int x1), some (.int x2)], [], (zS0, R, I, J))) rfl ?_
    exact zEv_if k1 k2
  · refine zEv_k 3 (f' := (if x1 = (-1) then 46 else 17, [some (.ref 22), some (.int x1), some (.int x2)], [], (zS0, R, I, J))) rfl ?_
    exact zEv_if k1 k2
theorem b_271_17 {X : zX} {d : Nat} {R : zR} {I : zI} {J : zJ} {r : zA} {c : Nat} {x1 : Int32} {x2 : Int32} (hR : zRok R) (ho : c = 7 ∨ c = 22) (h22 : zin x2 7) (h28 : zin x2 7) (h35 : zin x1 7) (h41 : zin x1 7) (k1 : ((I (c + 3) (x2).toNatClampNeg) - (I (c + 5) (x2).toNatClampNeg)) ≤ ((I (c + 3) (x1).toNatClampNeg) - (I (c + 5) (x1).toNatClampNeg)) → zEv X d zm_271 (48, [some (.ref c), some (.int x1), some (.int x2)], [], (zS0, R, I, J)) r) (k2 : ¬ (((I (c + 3) (x2).toNatClampNeg) - (I (c + 5) (x2).toNatClampNeg)) ≤ ((I (c + 3) (x1).toNatClampNeg) - (I (c + 5) (x1).toNatClampNeg))) → zEv X d zm_271 (46, [some (.ref c), some (.int x1), some (.int x2)], [], (zS0, R, I, J)) r) : zEv X d zm_271 (17, [some (.ref c), some (.int x1), some (.int x2)], [], (zS0, R, I, J)) r := by
  rcases ho with rfl | rfl
  · refine zEv_k 1 (f' := (18, [some (.ref 7), some (.int x1), some (.int x2)], [.ref 7], (zS0, R, I, J))) rfl ?_
    refine zEv_gr rfl rfl rfl (by decide) (hR (7) 5 (7 + 3) rfl) ?_
    refine zEv_k 1 (f' := (22, [some (.ref 7), some (.int x1), some (.int x2)], [.int x2, .ref (7 + 3)], (zS0, R, I, J))) rfl ?_
    refine zEv_ial rfl rfl (by decide) h22 ?_
    refine zEv_k 1 (f' := (24, [some (.ref 7), some (.int x1), some (.int x2)], [.ref 7, .int (I (7 + 3) (x2).toNatClampNeg)], (zS0, R, I, J))) rfl ?_
    refine zEv_gr rfl rfl rfl (by decide) (hR (7) 7 (7 + 5) rfl) ?_
    refine zEv_k 1 (f' := (28, [some (.ref 7), some (.int x1), some (.int x2)], [.int x2, .ref (7 + 5), .int (I (7 + 3) (x2).toNatClampNeg)], (zS0, R, I, J))) rfl ?_
    refine zEv_ial rfl rfl (by decide) h28 ?_
    refine zEv_k 2 (f' := (31, [some (.ref 7), some (.int x1), some (.int x2)], [.ref 7, .int ((I (7 + 3) (x2).toNatClampNeg) - (I (7 + 5) (x2).toNatClampNeg))], (zS0, R, I, J))) rfl ?_
    refine zEv_gr rfl rfl rfl (by decide) (hR (7) 5 (7 + 3) rfl) ?_
    refine zEv_k 1 (f' := (35, [some (.ref 7), some (.int x1), some (.int x2)], [.int x1, .ref (7 + 3), .int ((I (7 + 3) (x2).toNatClampNeg) - (I (7 + 5) (x2).toNatClampNeg))], (zS0, R, I, J))) rfl ?_
    refine zEv_ial rfl rfl (by decide) h35 ?_
    refine zEv_k 1 (f' := (37, [some (.ref 7), some (.int x1), some (.int x2)], [.ref 7, .int (I (7 + 3) (x1).toNatClampNeg), .int ((I (7 + 3) (x2).toNatClampNeg) - (I (7 + 5) (x2).toNatClampNeg))], (zS0, R, I, J))) rfl ?_
    refine zEv_gr rfl rfl rfl (by decide) (hR (7) 7 (7 + 5) rfl) ?_
    refine zEv_k 1 (f' := (41, [some (.ref 7), some (.int x1), some (.int x2)], [.int x1, .ref (7 + 5), .int (I (7 + 3) (x1).toNatClampNeg), .int ((I (7 + 3) (x2).toNatClampNeg) - (I (7 + 5) (x2).toNatClampNeg))], (zS0, R, I, J))) rfl ?_
    refine zEv_ial rfl rfl (by decide) h41 ?_
    refine zEv_k 2 (f' := (if ((I (7 + 3) (x2).toNatClampNeg) - (I (7 + 5) (x2).toNatClampNeg)) ≤ ((I (7 + 3) (x1).toNatClampNeg) - (I (7 + 5) (x1).toNatClampNeg)) then 48 else 46, [some (.ref 7), some (.int x1), some (.int x2)], [], (zS0, R, I, J))) rfl ?_
    exact zEv_if k1 k2
  · refine zEv_k 1 (f' := (18, [some (.ref 22), some (.int x1), some (.int x2)], [.ref 22], (zS0, R, I, J))) rfl ?_
    refine zEv_gr rfl rfl rfl (by decide) (hR (22) 5 (22 + 3) rfl) ?_
    refine zEv_k 1 (f' := (22, [some (.ref 22), some (.int x1), some (.int x2)], [.int x2, .ref (22 + 3)], (zS0, R, I, J))) rfl ?_
    refine zEv_ial rfl rfl (by decide) h22 ?_
    refine zEv_k 1 (f' := (24, [some (.ref 22), some (.int x1), some (.int x2)], [.ref 22, .int (I (22 + 3) (x2).toNatClampNeg)], (zS0, R, I, J))) rfl ?_
    refine zEv_gr rfl rfl rfl (by decide) (hR (22) 7 (22 + 5) rfl) ?_
    refine zEv_k 1 (f' := (28, [some (.ref 22), some (.int x1), some (.int x2)], [.int x2, .ref (22 + 5), .int (I (22 + 3) (x2).toNatClampNeg)], (zS0, R, I, J))) rfl ?_
    refine zEv_ial rfl rfl (by decide) h28 ?_
    refine zEv_k 2 (f' := (31, [some (.ref 22), some (.int x1), some (.int x2)], [.ref 22, .int ((I (22 + 3) (x2).toNatClampNeg) - (I (22 + 5) (x2).toNatClampNeg))], (zS0, R, I, J))) rfl ?_
    refine zEv_gr rfl rfl rfl (by decide) (hR (22) 5 (22 + 3) rfl) ?_
    refine zEv_k 1 (f' := (35, [some (.ref 22), some (.int x1), some (.int x2)], [.int x1, .ref (22 + 3), .int ((I (22 + 3) (x2).toNatClampNeg) - (I (22 + 5) (x2).toNatClampNeg))], (zS0, R, I, J))) rfl ?_
    refine zEv_ial rfl rfl (by decide) h35 ?_
    refine zEv_k 1 (f' := (37, [some (.ref 22), some (.int x1), some (.int x2)], [.ref 22, .int (I (22 + 3) (x1).toNatClampNeg), .int ((I (22 + 3) (x2).toNatClampNeg) - (I (22 + 5) (x2).toNatClampNeg))], (zS0, R, I, J))) rfl ?_
    refine zEv_gr rfl rfl rfl (by decide) (hR (22) 7 (22 + 5) rfl) ?_
    refine zEv_k 1 (f' := (41, [some (.ref 22), some (.int x1), some (.int x2)], [.int x1, .ref (22 + 5), .int (I (22 + 3) (x1).toNatClampNeg), .int ((I (22 + 3) (x2).toNatClampNeg) - (I (22 + 5) (x2).toNatClampNeg))], (zS0, R, I, J))) rfl ?_
    refine zEv_ial rfl rfl (by decide) h41 ?_
    refine zEv_k 2 (f' := (if ((I (22 + 3) (x2).toNatClampNeg) - (I (22 + 5) (x2).toNatClampNeg)) ≤ ((I (22 + 3) (x1).toNatClampNeg) - (I (22 + 5) (x1).toNatClampNeg)) then 48 else 46, [some (.ref 22), some (.int x1), some (.int x2)], [], (zS0, R, I, J))) rfl ?_
    exact zEv_if k1 k2
theorem b_271_46 {X : zX} {d : Nat} {R : zR} {I : zI} {J : zJ} {r : zA} {c : Nat} {x1 : Int32} {x2 : Int32} (ho : c = 7 ∨ c = 22) (k1 : zEv X d zm_271 (48, [some (.ref c), some (.int x2), some (.int x2)], [], (zS0, R, I, J)) r) : zEv X d zm_271 (46, [some (.ref c), some (.int x1), some (.int x2)], [], (zS0, R, I, J)) r := by
  rcases ho with rfl | rfl
  · refine zEv_k 2 (f' := (48, [some (.ref 7), some (.int x2), some (.int x2)], [], (zS0, R, I, J))) rfl ?_
    exact k1
  · refine zEv_k 2 (f' := (48, [some (.ref 22), some (.int x2), some (.int x2)], [], (zS0, R, I, J))) rfl ?_
    exact k1
theorem b_271_48 {X : zX} {d : Nat} {R : zR} {I : zI} {J : zJ} {r : zA} {c : Nat} {x1 : Int32} {x2 : Int32} (ho : c = 7 ∨ c = 22) (k1 : zEv X d zm_271 (4, [some (.ref c), some (.int x1), some (.int (x2 + 1))], [], (zS0, R, I, J)) r) : zEv X d zm_271 (48, [some (.ref c), some (.int x1), some (.int x2)], [], (zS0, R, I, J)) r := by
  rcases ho with rfl | rfl
  · refine zEv_k 2 (f' := (4, [some (.ref 7), some (.int x1), some (.int (x2 + 1))], [], (zS0, R, I, J))) rfl ?_
    exact k1
  · refine zEv_k 2 (f' := (4, [some (.ref 22), some (.int x1), some (.int (x2 + 1))], [], (zS0, R, I, J))) rfl ?_
    exact k1
theorem b_271_54 {X : zX} {d : Nat} {R : zR} {I : zI} {J : zJ} {c : Nat} {x1 : Int32} {x2 : Int32} (ho : c = 7 ∨ c = 22) : zEv X d zm_271 (54, [some (.ref c), some (.int x1), some (.int x2)], [], (zS0, R, I, J)) (some (.int x1), (zS0, R, I, J)) := by
  rcases ho with rfl | rfl
  · refine zEv_k 1 (f' := (55, [some (.ref 7), some (.int x1), some (.int x2)], [.int x1], (zS0, R, I, J))) rfl ?_
    exact zEv_r rfl
  · refine zEv_k 1 (f' := (55, [some (.ref 22), some (.int x1), some (.int x2)], [.int x1], (zS0, R, I, J))) rfl ?_
    exact zEv_r rfl
theorem b_272_0 {X : zX} {d : Nat} {R : zR} {I : zI} {J : zJ} {r : zA} {c : Nat} {x1 : Int32} (ho : c = 7 ∨ c = 22) (k1 : zEv X d zm_272 (4, [some (.ref c), some (.int x1), some (.int 0), some (.int 0)], [], (zS0, R, I, J)) r) : zEv X d zm_272 (0, [some (.ref c), some (.int x1), none, none], [], (zS0, R, I, J)) r := by
  rcases ho with rfl | rfl
  · refine zEv_k 4 (f' := (4, [some (.ref 7), some (.int x1), some (.int 0), some (.int 0)], [], (zS0, R, I, J))) rfl ?_
    exact k1
  · refine zEv_k 4 (f' := (4, [some (.ref 22), some (.int x1), some (.int 0), some (.int 0)], [], (zS0, R, I, J))) rfl ?_
    exact k1
theorem b_272_4 {X : zX} {d : Nat} {R : zR} {I : zI} {J : zJ} {r : zA} {c : Nat} {x1 : Int32} {x2 : Int32} {x3 : Int32} (ho : c = 7 ∨ c = 22) (k1 : (I c 2) ≤ x3 → zEv X d zm_272 (27, [some (.ref c), some (.int x1), some (.int x2), some (.int x3)], [], (zS0, R, I, J)) r) (k2 : ¬ ((I c 2) ≤ x3) → zEv X d zm_272 (12, [some (.ref c), some (.int x1), some (.int x2), some (.int x3)], [], (zS0, R, I, J)) r) : zEv X d zm_272 (4, [some (.ref c), some (.int x1), some (.int x2), some (.int x3)], [], (zS0, R, I, J)) r := by
  rcases ho with rfl | rfl
  · refine zEv_k 4 (f' := (if (I 7 2) ≤ x3 then 27 else 12, [some (.ref 7), some (.int x1), some (.int x2), some (.int x3)], [], (zS0, R, I, J))) rfl ?_
    exact zEv_if k1 k2
  · refine zEv_k 4 (f' := (if (I 22 2) ≤ x3 then 27 else 12, [some (.ref 22), some (.int x1), some (.int x2), some (.int x3)], [], (zS0, R, I, J))) rfl ?_
    exact zEv_if k1 k2
theorem b_272_12 {X : zX} {d : Nat} {R : zR} {I : zI} {J : zJ} {r : zA} {c : Nat} {x1 : Int32} {x2 : Int32} {x3 : Int32} {w : Int32} {R' : zR} {I' : zI} {J' : zJ} (ho : c = 7 ∨ c = 22) (hc : zEv X d zm_8 (0, [some (.ref c), some (.int x3), some (.int x1)], [], (zS0, R, I, J)) (some (.int w), (zS0, R', I', J'))) (k1 : zEv X (d + 1) zm_272 (19, [some (.ref c), some (.int x1), some (.int x2), some (.int x3)], [.int w, .int x2], (zS0, R', I', J')) r) : zEv X (d + 1) zm_272 (12, [some (.ref c), some (.int x1), some (.int x2), some (.int x3)], [], (zS0, R, I, J)) r := by
  rcases ho with rfl | rfl
  · refine zEv_k 4 (f' := (16, [some (.ref 7), some (.int x1), some (.int x2), some (.int x3)], [.int x1, .int x3, .ref 7, .int x2], (zS0, R, I, J))) rfl ?_
    exact zEv_c (fun _ => rfl) rfl hc rfl rfl k1
  · refine zEv_k 4 (f' := (16, [some (.ref 22), some (.int x1), some (.int x2), some (.int x3)], [.int x1, .int x3, .ref 22, .int x2], (zS0, R, I, J))) rfl ?_
    exact zEv_c (fun _ => rfl) rfl hc rfl rfl k1
theorem b_272_19 {X : zX} {d : Nat} {R : zR} {I : zI} {J : zJ} {r : zA} {c : Nat} {x1 : Int32} {x2 : Int32} {x3 : Int32} {s0 : Int32} {s1 : Int32} (ho : c = 7 ∨ c = 22) (k1 : zEv X d zm_272 (4, [some (.ref c), some (.int x1), some (.int (s0 + s1)), some (.int (x3 + 1))], [], (zS0, R, I, J)) r) : zEv X d zm_272 (19, [some (.ref c), some (.int x1), some (.int x2), some (.int x3)], [.int s1, .int s0], (zS0, R, I, J)) r := by
  rcases ho with rfl | rfl
  · refine zEv_k 4 (f' := (4, [some (.ref 7), some (.int x1), some (.int (s0 + s1)), some (.int (x3 + 1))], [], (zS0, R, I, J))) rfl ?_
    exact k1
  · refine zEv_k 4 (f' := (4, [some (.ref 22), some (.int x1), some (.int (s0 + s1)), some (.int (x3 + 1))], [], (zS0, R, I, J))) rfl ?_
    exact k1
theorem b_272_27 {X : zX} {d : Nat} {R : zR} {I : zI} {J : zJ} {c : Nat} {x1 : Int32} {x2 : Int32} {x3 : Int32} (ho : c = 7 ∨ c = 22) : zEv X d zm_272 (27, [some (.ref c), some (.int x1), some (.int x2), some (.int x3)], [], (zS0, R, I, J)) (some (.int x2), (zS0, R, I, J)) := by
  rcases ho with rfl | rfl
  · refine zEv_k 1 (f' := (28, [some (.ref 7), some (.int x1), some (.int x2), some (.int x3)], [.int x2], (zS0, R, I, J))) rfl ?_
    exact zEv_r rfl
  · refine zEv_k 1 (f' := (28, [some (.ref 22), some (.int x1), some (.int x2), some (.int x3)], [.int x2], (zS0, R, I, J))) rfl ?_
    exact zEv_r rfl
theorem b_273_0 {X : zX} {d : Nat} {R : zR} {I : zI} {J : zJ} {r : zA} {c : Nat} {x1 : Int32} (ho : c = 7 ∨ c = 22) (k1 : zEv X d zm_273 (4, [some (.ref c), some (.int x1), some (.int 0), some (.int 0)], [], (zS0, R, I, J)) r) : zEv X d zm_273 (0, [some (.ref c), some (.int x1), none, none], [], (zS0, R, I, J)) r := by
  rcases ho with rfl | rfl
  · refine zEv_k 4 (f' := (4, [some (.ref 7), some (.int x1), some (.int 0), some (.int 0)], [], (zS0, R, I, J))) rfl ?_
    exact k1
  · refine zEv_k 4 (f' := (4, [some (.ref 22), some (.int x1), some (.int 0), some (.int 0)], [], (zS0, R, I, J))) rfl ?_
    exact k1
theorem b_273_4 {X : zX} {d : Nat} {R : zR} {I : zI} {J : zJ} {r : zA} {c : Nat} {x1 : Int32} {x2 : Int32} {x3 : Int32} (ho : c = 7 ∨ c = 22) (k1 : (I c 2) ≤ x3 → zEv X d zm_273 (35, [some (.ref c), some (.int x1), some (.int x2), some (.int x3)], [], (zS0, R, I, J)) r) (k2 : ¬ ((I c 2) ≤ x3) → zEv X d zm_273 (12, [some (.ref c), some (.int x1), some (.int x2), some (.int x3)], [], (zS0, R, I, J)) r) : zEv X d zm_273 (4, [some (.ref c), some (.int x1), some (.int x2), some (.int x3)], [], (zS0, R, I, J)) r := by
  rcases ho with rfl | rfl
  · refine zEv_k 4 (f' := (if (I 7 2) ≤ x3 then 35 else 12, [some (.ref 7), some (.int x1), some (.int x2), some (.int x3)], [], (zS0, R, I, J))) rfl ?_
    exact zEv_if k1 k2
  · refine zEv_k 4 (f' := (if (I 22 2) ≤ x3 then 35 else 12, [some (.ref 22), some (.int x1), some (.int x2), some (.int x3)], [], (zS0, R, I, J))) rfl ?_
    exact zEv_if k1 k2
theorem b_273_12 {X : zX} {d : Nat} {R : zR} {I : zI} {J : zJ} {r : zA} {c : Nat} {x1 : Int32} {x2 : Int32} {x3 : Int32} (ho : c = 7 ∨ c = 22) (k1 : (zf_cin x1 x3) = 0 → zEv X (d + 1) zm_273 (29, [some (.ref c), some (.int x1), some (.int x2), some (.int x3)], [], (zS0, R, I, J)) r) (k2 : ¬ ((zf_cin x1 x3) = 0) → zEv X (d + 1) zm_273 (20, [some (.ref c), some (.int x1), some (.int x2), some (.int x3)], [], (zS0, R, I, J)) r) : zEv X (d + 1) zm_273 (12, [some (.ref c), some (.int x1), some (.int x2), some (.int x3)], [], (zS0, R, I, J)) r := by
  rcases ho with rfl | rfl
  · refine zEv_k 2 (f' := (14, [some (.ref 7), some (.int x1), some (.int x2), some (.int x3)], [.int x3, .int x1], (zS0, R, I, J))) rfl ?_
    refine zEv_c (fun _ => rfl) rfl ev_zf_cin rfl rfl ?_
    refine zEv_k 1 (f' := (if (zf_cin x1 x3) = 0 then 29 else 20, [some (.ref 7), some (.int x1), some (.int x2), some (.int x3)], [], (zS0, R, I, J))) rfl ?_
    exact zEv_if k1 k2
  · refine zEv_k 2 (f' := (14, [some (.ref 22), some (.int x1), some (.int x2), some (.int x3)], [.int x3, .int x1], (zS0, R, I, J))) rfl ?_
    refine zEv_c (fun _ => rfl) rfl ev_zf_cin rfl rfl ?_
    refine zEv_k 1 (f' := (if (zf_cin x1 x3) = 0 then 29 else 20, [some (.ref 22), some (.int x1), some (.int x2), some (.int x3)], [], (zS0, R, I, J))) rfl ?_
    exact zEv_if k1 k2
theorem b_273_20 {X : zX} {d : Nat} {R : zR} {I : zI} {J : zJ} {r : zA} {c : Nat} {x1 : Int32} {x2 : Int32} {x3 : Int32} (hR : zRok R) (ho : c = 7 ∨ c = 22) (h26 : zin x3 7) (k1 : zEv X d zm_273 (29, [some (.ref c), some (.int x1), some (.int (x2 + (I (c + 1) (x3).toNatClampNeg))), some (.int x3)], [], (zS0, R, I, J)) r) : zEv X d zm_273 (20, [some (.ref c), some (.int x1), some (.int x2), some (.int x3)], [], (zS0, R, I, J)) r := by
  rcases ho with rfl | rfl
  · refine zEv_k 2 (f' := (22, [some (.ref 7), some (.int x1), some (.int x2), some (.int x3)], [.ref 7, .int x2], (zS0, R, I, J))) rfl ?_
    refine zEv_gr rfl rfl rfl (by decide) (hR (7) 3 (7 + 1) rfl) ?_
    refine zEv_k 1 (f' := (26, [some (.ref 7), some (.int x1), some (.int x2), some (.int x3)], [.int x3, .ref (7 + 1), .int x2], (zS0, R, I, J))) rfl ?_
    refine zEv_ial rfl rfl (by decide) h26 ?_
    refine zEv_k 2 (f' := (29, [some (.ref 7), some (.int x1), some (.int (x2 + (I (7 + 1) (x3).toNatClampNeg))), some (.int x3)], [], (zS0, R, I, J))) rfl ?_
    exact k1
  · refine zEv_k 2 (f' := (22, [some (.ref 22), some (.int x1), some (.int x2), some (.int x3)], [.ref 22, .int x2], (zS0, R, I, J))) rfl ?_
    refine zEv_gr rfl rfl rfl (by decide) (hR (22) 3 (22 + 1) rfl) ?_
    refine zEv_k 1 (f' := (26, [some (.ref 22), some (.int x1), some (.int x2), some (.int x3)], [.int x3, .ref (22 + 1), .int x2], (zS0, R, I, J))) rfl ?_
    refine zEv_ial rfl rfl (by decide) h26 ?_
    refine zEv_k 2 (f' := (29, [some (.ref 22), some (.int x1), some (.int (x2 + (I (22 + 1) (x3).toNatClampNeg))), some (.int x3)], [], (zS0, R, I, J))) rfl ?_
    exact k1
theorem b_273_29 {X : zX} {d : Nat} {R : zR} {I : zI} {J : zJ} {r : zA} {c : Nat} {x1 : Int32} {x2 : Int32} {x3 : Int32} (ho : c = 7 ∨ c = 22) (k1 : zEv X d zm_273 (4, [some (.ref c), some (.int x1), some (.int x2), some (.int (x3 + 1))], [], (zS0, R, I, J)) r) : zEv X d zm_273 (29, [some (.ref c), some (.int x1), some (.int x2), some (.int x3)], [], (zS0, R, I, J)) r := by
  rcases ho with rfl | rfl
  · refine zEv_k 2 (f' := (4, [some (.ref 7), some (.int x1), some (.int x2), some (.int (x3 + 1))], [], (zS0, R, I, J))) rfl ?_
    exact k1
  · refine zEv_k 2 (f' := (4, [some (.ref 22), some (.int x1), some (.int x2), some (.int (x3 + 1))], [], (zS0, R, I, J))) rfl ?_
    exact k1
theorem b_273_35 {X : zX} {d : Nat} {R : zR} {I : zI} {J : zJ} {c : Nat} {x1 : Int32} {x2 : Int32} {x3 : Int32} (ho : c = 7 ∨ c = 22) : zEv X d zm_273 (35, [some (.ref c), some (.int x1), some (.int x2), some (.int x3)], [], (zS0, R, I, J)) (some (.int x2), (zS0, R, I, J)) := by
  rcases ho with rfl | rfl
  · refine zEv_k 1 (f' := (36, [some (.ref 7), some (.int x1), some (.int x2), some (.int x3)], [.int x2], (zS0, R, I, J))) rfl ?_
    exact zEv_r rfl
  · refine zEv_k 1 (f' := (36, [some (.ref 22), some (.int x1), some (.int x2), some (.int x3)], [.int x2], (zS0, R, I, J))) rfl ?_
    exact zEv_r rfl
theorem b_274_0 {X : zX} {d : Nat} {R : zR} {I : zI} {J : zJ} {r : zA} {c : Nat} {x1 : Int32} (ho : c = 7 ∨ c = 22) (k1 : zEv X d zm_274 (4, [some (.ref c), some (.int x1), some (.int 0), some (.int 0)], [], (zS0, R, I, J)) r) : zEv X d zm_274 (0, [some (.ref c), some (.int x1), none, none], [], (zS0, R, I, J)) r := by
  rcases ho with rfl | rfl
  · refine zEv_k 4 (f' := (4, [some (.ref 7), some (.int x1), some (.int 0), some (.int 0)], [], (zS0, R, I, J))) rfl ?_
    exact k1
  · refine zEv_k 4 (f' := (4, [some (.ref 22), some (.int x1), some (.int 0), some (.int 0)], [], (zS0, R, I, J))) rfl ?_
    exact k1
theorem b_274_4 {X : zX} {d : Nat} {R : zR} {I : zI} {J : zJ} {r : zA} {c : Nat} {x1 : Int32} {x2 : Int32} {x3 : Int32} (ho : c = 7 ∨ c = 22) (k1 : (I c 2) ≤ x3 → zEv X d zm_274 (30, [some (.ref c), some (.int x1), some (.int x2), some (.int x3)], [], (zS0, R, I, J)) r) (k2 : ¬ ((I c 2) ≤ x3) → zEv X d zm_274 (12, [some (.ref c), some (.int x1), some (.int x2), some (.int x3)], [], (zS0, R, I, J)) r) : zEv X d zm_274 (4, [some (.ref c), some (.int x1), some (.int x2), some (.int x3)], [], (zS0, R, I, J)) r := by
  rcases ho with rfl | rfl
  · refine zEv_k 4 (f' := (if (I 7 2) ≤ x3 then 30 else 12, [some (.ref 7), some (.int x1), some (.int x2), some (.int x3)], [], (zS0, R, I, J))) rfl ?_
    exact zEv_if k1 k2
  · refine zEv_k 4 (f' := (if (I 22 2) ≤ x3 then 30 else 12, [some (.ref 22), some (.int x1), some (.int x2), some (.int x3)], [], (zS0, R, I, J))) rfl ?_
    exact zEv_if k1 k2
theorem b_274_12 {X : zX} {d : Nat} {R : zR} {I : zI} {J : zJ} {r : zA} {c : Nat} {x1 : Int32} {x2 : Int32} {x3 : Int32} {w : Int32} {R' : zR} {I' : zI} {J' : zJ} (ho : c = 7 ∨ c = 22) (hc : zEv X d zm_8 (0, [some (.ref c), some (.int x3), some (.int x1)], [], (zS0, R, I, J)) (some (.int w), (zS0, R', I', J'))) (k1 : zEv X (d + 1) zm_274 (18, [some (.ref c), some (.int x1), some (.int x2), some (.int x3)], [.int w], (zS0, R', I', J')) r) : zEv X (d + 1) zm_274 (12, [some (.ref c), some (.int x1), some (.int x2), some (.int x3)], [], (zS0, R, I, J)) r := by
  rcases ho with rfl | rfl
  · refine zEv_k 3 (f' := (15, [some (.ref 7), some (.int x1), some (.int x2), some (.int x3)], [.int x1, .int x3, .ref 7], (zS0, R, I, J))) rfl ?_
    exact zEv_c (fun _ => rfl) rfl hc rfl rfl k1
  · refine zEv_k 3 (f' := (15, [some (.ref 22), some (.int x1), some (.int x2), some (.int x3)], [.int x1, .int x3, .ref 22], (zS0, R, I, J))) rfl ?_
    exact zEv_c (fun _ => rfl) rfl hc rfl rfl k1
theorem b_274_18 {X : zX} {d : Nat} {R : zR} {I : zI} {J : zJ} {r : zA} {c : Nat} {x1 : Int32} {x2 : Int32} {x3 : Int32} {s0 : Int32} (ho : c = 7 ∨ c = 22) (k1 : ¬ s0 = 0 → zEv X d zm_274 (24, [some (.ref c), some (.int x1), some (.int x2), some (.int x3)], [], (zS0, R, I, J)) r) (k2 : ¬ (¬ s0 = 0) → zEv X d zm_274 (21, [some (.ref c), some (.int x1), some (.int x2), some (.int x3)], [], (zS0, R, I, J)) r) : zEv X d zm_274 (18, [some (.ref c), some (.int x1), some (.int x2), some (.int x3)], [.int s0], (zS0, R, I, J)) r := by
  rcases ho with rfl | rfl
  · refine zEv_k 1 (f' := (if ¬ s0 = 0 then 24 else 21, [some (.ref 7), some (.int x1), some (.int x2), some (.int x3)], [], (zS0, R, I, J))) rfl ?_
    exact zEv_if k1 k2
  · refine zEv_k 1 (f' := (if ¬ s0 = 0 then 24 else 21, [some (.ref 22), some (.int x1), some (.int x2), some (.int x3)], [], (zS0, R, I, J))) rfl ?_
    exact zEv_if k1 k2
theorem b_274_21 {X : zX} {d : Nat} {R : zR} {I : zI} {J : zJ} {r : zA} {c : Nat} {x1 : Int32} {x2 : Int32} {x3 : Int32} (ho : c = 7 ∨ c = 22) (k1 : zEv X d zm_274 (24, [some (.ref c), some (.int x1), some (.int (x2 + 1)), some (.int x3)], [], (zS0, R, I, J)) r) : zEv X d zm_274 (21, [some (.ref c), some (.int x1), some (.int x2), some (.int x3)], [], (zS0, R, I, J)) r := by
  rcases ho with rfl | rfl
  · refine zEv_k 1 (f' := (24, [some (.ref 7), some (.int x1), some (.int (x2 + 1)), some (.int x3)], [], (zS0, R, I, J))) rfl ?_
    exact k1
  · refine zEv_k 1 (f' := (24, [some (.ref 22), some (.int x1), some (.int (x2 + 1)), some (.int x3)], [], (zS0, R, I, J))) rfl ?_
    exact k1
theorem b_274_24 {X : zX} {d : Nat} {R : zR} {I : zI} {J : zJ} {r : zA} {c : Nat} {x1 : Int32} {x2 : Int32} {x3 : Int32} (ho : c = 7 ∨ c = 22) (k1 : zEv X d zm_274 (4, [some (.ref c), some (.int x1), some (.int x2), some (.int (x3 + 1))], [], (zS0, R, I, J)) r) : zEv X d zm_274 (24, [some (.ref c), some (.int x1), some (.int x2), some (.int x3)], [], (zS0, R, I, J)) r := by
  rcases ho with rfl | rfl
  · refine zEv_k 2 (f' := (4, [some (.ref 7), some (.int x1), some (.int x2), some (.int (x3 + 1))], [], (zS0, R, I, J))) rfl ?_
    exact k1
  · refine zEv_k 2 (f' := (4, [some (.ref 22), some (.int x1), some (.int x2), some (.int (x3 + 1))], [], (zS0, R, I, J))) rfl ?_
    exact k1
theorem b_274_30 {X : zX} {d : Nat} {R : zR} {I : zI} {J : zJ} {c : Nat} {x1 : Int32} {x2 : Int32} {x3 : Int32} (ho : c = 7 ∨ c = 22) : zEv X d zm_274 (30, [some (.ref c), some (.int x1), some (.int x2), some (.int x3)], [], (zS0, R, I, J)) (some (.int x2), (zS0, R, I, J)) := by
  rcases ho with rfl | rfl
  · refine zEv_k 1 (f' := (31, [some (.ref 7), some (.int x1), some (.int x2), some (.int x3)], [.int x2], (zS0, R, I, J))) rfl ?_
    exact zEv_r rfl
  · refine zEv_k 1 (f' := (31, [some (.ref 22), some (.int x1), some (.int x2), some (.int x3)], [.int x2], (zS0, R, I, J))) rfl ?_
    exact zEv_r rfl
theorem b_275_0 {X : zX} {d : Nat} {R : zR} {I : zI} {J : zJ} {r : zA} {c : Nat} {w : Int32} {R' : zR} {I' : zI} {J' : zJ} (ho : c = 7 ∨ c = 22) (hc : zEv X d zm_272 (0, [some (.ref c), some (.int 0), none, none], [], (zS0, R, I, J)) (some (.int w), (zS0, R', I', J'))) (k1 : zEv X (d + 1) zm_275 (5, [some (.ref c), none, none], [.int w], (zS0, R', I', J')) r) : zEv X (d + 1) zm_275 (0, [some (.ref c), none, none], [], (zS0, R, I, J)) r := by
  rcases ho with rfl | rfl
  · refine zEv_k 2 (f' := (2, [some (.ref 7), none, none], [.int 0, .ref 7], (zS0, R, I, J))) rfl ?_
    exact zEv_c (fun _ => rfl) rfl hc rfl rfl k1
  · refine zEv_k 2 (f' := (2, [some (.ref 22), none, none], [.int 0, .ref 22], (zS0, R, I, J))) rfl ?_
    exact zEv_c (fun _ => rfl) rfl hc rfl rfl k1
theorem b_275_5 {X : zX} {d : Nat} {R : zR} {I : zI} {J : zJ} {r : zA} {c : Nat} {s0 : Int32} (ho : c = 7 ∨ c = 22) (k1 : zEv X d zm_275 (8, [some (.ref c), some (.int s0), some (.int 0)], [], (zS0, R, I, J)) r) : zEv X d zm_275 (5, [some (.ref c), none, none], [.int s0], (zS0, R, I, J)) r := by
  rcases ho with rfl | rfl
  · refine zEv_k 3 (f' := (8, [some (.ref 7), some (.int s0), some (.int 0)], [], (zS0, R, I, J))) rfl ?_
    exact k1
  · refine zEv_k 3 (f' := (8, [some (.ref 22), some (.int s0), some (.int 0)], [], (zS0, R, I, J))) rfl ?_
    exact k1
theorem b_275_8 {X : zX} {d : Nat} {R : zR} {I : zI} {J : zJ} {r : zA} {c : Nat} {x1 : Int32} {x2 : Int32} (ho : c = 7 ∨ c = 22) (k1 : 50 < x2 → zEv X d zm_275 (33, [some (.ref c), some (.int x1), some (.int x2)], [], (zS0, R, I, J)) r) (k2 : ¬ (50 < x2) → zEv X d zm_275 (14, [some (.ref c), some (.int x1), some (.int x2)], [], (zS0, R, I, J)) r) : zEv X d zm_275 (8, [some (.ref c), some (.int x1), some (.int x2)], [], (zS0, R, I, J)) r := by
  rcases ho with rfl | rfl
  · refine zEv_k 3 (f' := (if 50 < x2 then 33 else 14, [some (.ref 7), some (.int x1), some (.int x2)], [], (zS0, R, I, J))) rfl ?_
    exact zEv_if k1 k2
  · refine zEv_k 3 (f' := (if 50 < x2 then 33 else 14, [some (.ref 22), some (.int x1), some (.int x2)], [], (zS0, R, I, J))) rfl ?_
    exact zEv_if k1 k2
theorem b_275_14 {X : zX} {d : Nat} {R : zR} {I : zI} {J : zJ} {r : zA} {c : Nat} {x1 : Int32} {x2 : Int32} {w : Int32} {R' : zR} {I' : zI} {J' : zJ} (ho : c = 7 ∨ c = 22) (hc : zEv X d zm_272 (0, [some (.ref c), some (.int x2), none, none], [], (zS0, R, I, J)) (some (.int w), (zS0, R', I', J'))) (k1 : zEv X (d + 1) zm_275 (20, [some (.ref c), some (.int x1), some (.int x2)], [.int w, .int 2], (zS0, R', I', J')) r) : zEv X (d + 1) zm_275 (14, [some (.ref c), some (.int x1), some (.int x2)], [], (zS0, R, I, J)) r := by
  rcases ho with rfl | rfl
  · refine zEv_k 3 (f' := (17, [some (.ref 7), some (.int x1), some (.int x2)], [.int x2, .ref 7, .int 2], (zS0, R, I, J))) rfl ?_
    exact zEv_c (fun _ => rfl) rfl hc rfl rfl k1
  · refine zEv_k 3 (f' := (17, [some (.ref 22), some (.int x1), some (.int x2)], [.int x2, .ref 22, .int 2], (zS0, R, I, J))) rfl ?_
    exact zEv_c (fun _ => rfl) rfl hc rfl rfl k1
theorem b_275_20 {X : zX} {d : Nat} {R : zR} {I : zI} {J : zJ} {r : zA} {c : Nat} {x1 : Int32} {x2 : Int32} {s0 : Int32} {s1 : Int32} (ho : c = 7 ∨ c = 22) (k1 : x1 ≤ (s0 * s1) → zEv X d zm_275 (27, [some (.ref c), some (.int x1), some (.int x2)], [], (zS0, R, I, J)) r) (k2 : ¬ (x1 ≤ (s0 * s1)) → zEv X d zm_275 (25, [some (.ref c), some (.int x1), some (.int x2)], [], (zS0, R, I, J)) r) : zEv X d zm_275 (20, [some (.ref c), some (.int x1), some (.int x2)], [.int s1, .int s0], (zS0, R, I, J)) r := by
  rcases ho with rfl | rfl
  · refine zEv_k 3 (f' := (if x1 ≤ (s0 * s1) then 27 else 25, [some (.ref 7), some (.int x1), some (.int x2)], [], (zS0, R, I, J))) rfl ?_
    exact zEv_if k1 k2
  · refine zEv_k 3 (f' := (if x1 ≤ (s0 * s1) then 27 else 25, [some (.ref 22), some (.int x1), some (.int x2)], [], (zS0, R, I, J))) rfl ?_
    exact zEv_if k1 k2
theorem b_275_25 {X : zX} {d : Nat} {R : zR} {I : zI} {J : zJ} {c : Nat} {x1 : Int32} {x2 : Int32} (ho : c = 7 ∨ c = 22) : zEv X d zm_275 (25, [some (.ref c), some (.int x1), some (.int x2)], [], (zS0, R, I, J)) (some (.int x2), (zS0, R, I, J)) := by
  rcases ho with rfl | rfl
  · refine zEv_k 1 (f' := (26, [some (.ref 7), some (.int x1), some (.int x2)], [.int x2], (zS0, R, I, J))) rfl ?_
    exact zEv_r rfl
  · refine zEv_k 1 (f' := (26, [some (.ref 22), some (.int x1), some (.int x2)], [.int x2], (zS0, R, I, J))) rfl ?_
    exact zEv_r rfl
theorem b_275_27 {X : zX} {d : Nat} {R : zR} {I : zI} {J : zJ} {r : zA} {c : Nat} {x1 : Int32} {x2 : Int32} (ho : c = 7 ∨ c = 22) (k1 : zEv X d zm_275 (8, [some (.ref c), some (.int x1), some (.int (x2 + 1))], [], (zS0, R, I, J)) r) : zEv X d zm_275 (27, [some (.ref c), some (.int x1), some (.int x2)], [], (zS0, R, I, J)) r := by
  rcases ho with rfl | rfl
  · refine zEv_k 2 (f' := (8, [some (.ref 7), some (.int x1), some (.int (x2 + 1))], [], (zS0, R, I, J))) rfl ?_
    exact k1
  · refine zEv_k 2 (f' := (8, [some (.ref 22), some (.int x1), some (.int (x2 + 1))], [], (zS0, R, I, J))) rfl ?_
    exact k1
theorem b_275_33 {X : zX} {d : Nat} {R : zR} {I : zI} {J : zJ} {c : Nat} {x1 : Int32} {x2 : Int32} (ho : c = 7 ∨ c = 22) : zEv X d zm_275 (33, [some (.ref c), some (.int x1), some (.int x2)], [], (zS0, R, I, J)) (some (.int (-1)), (zS0, R, I, J)) := by
  rcases ho with rfl | rfl
  · refine zEv_k 1 (f' := (34, [some (.ref 7), some (.int x1), some (.int x2)], [.int (-1)], (zS0, R, I, J))) rfl ?_
    exact zEv_r rfl
  · refine zEv_k 1 (f' := (34, [some (.ref 22), some (.int x1), some (.int x2)], [.int (-1)], (zS0, R, I, J))) rfl ?_
    exact zEv_r rfl
theorem b_276_0 {X : zX} {d : Nat} {R : zR} {I : zI} {J : zJ} {r : zA} {c : Nat} (ho : c = 7 ∨ c = 22) (k1 : zEv X d zm_276 (7, [some (.ref c), some (.int (-1)), some (.int 21), some (.int 0), none, none], [], (zS0, R, I, J)) r) : zEv X d zm_276 (0, [some (.ref c), none, none, none, none, none], [], (zS0, R, I, J)) r := by
  rcases ho with rfl | rfl
  · refine zEv_k 6 (f' := (7, [some (.ref 7), some (.int (-1)), some (.int 21), some (.int 0), none, none], [], (zS0, R, I, J))) rfl ?_
    exact k1
  · refine zEv_k 6 (f' := (7, [some (.ref 22), some (.int (-1)), some (.int 21), some (.int 0), none, none], [], (zS0, R, I, J))) rfl ?_
    exact k1
theorem b_276_7 {X : zX} {d : Nat} {R : zR} {I : zI} {J : zJ} {r : zA} {c : Nat} {x1 : Int32} {x2 : Int32} {x3 : Int32} {x4 : Option Value} {x5 : Option Value} (ho : c = 7 ∨ c = 22) (k1 : (I c 2) ≤ x3 → zEv X d zm_276 (77, [some (.ref c), some (.int x1), some (.int x2), some (.int x3), x4, x5], [], (zS0, R, I, J)) r) (k2 : ¬ ((I c 2) ≤ x3) → zEv X d zm_276 (15, [some (.ref c), some (.int x1), some (.int x2), some (.int x3), x4, x5], [], (zS0, R, I, J)) r) : zEv X d zm_276 (7, [some (.ref c), some (.int x1), some (.int x2), some (.int x3), x4, x5], [], (zS0, R, I, J)) r := by
  rcases ho with rfl | rfl
  · refine zEv_k 4 (f' := (if (I 7 2) ≤ x3 then 77 else 15, [some (.ref 7), some (.int x1), some (.int x2), some (.int x3), x4, x5], [], (zS0, R, I, J))) rfl ?_
    exact zEv_if k1 k2
  · refine zEv_k 4 (f' := (if (I 22 2) ≤ x3 then 77 else 15, [some (.ref 22), some (.int x1), some (.int x2), some (.int x3), x4, x5], [], (zS0, R, I, J))) rfl ?_
    exact zEv_if k1 k2
theorem b_276_15 {X : zX} {d : Nat} {R : zR} {I : zI} {J : zJ} {r : zA} {c : Nat} {x1 : Int32} {x2 : Int32} {x3 : Int32} {x4 : Option Value} {x5 : Option Value} (ho : c = 7 ∨ c = 22) (k1 : zEv X d zm_276 (20, [some (.ref c), some (.int x1), some (.int x2), some (.int x3), some (.int (x3 + 1)), x5], [], (zS0, R, I, J)) r) : zEv X d zm_276 (15, [some (.ref c), some (.int x1), some (.int x2), some (.int x3), x4, x5], [], (zS0, R, I, J)) r := by
  rcases ho with rfl | rfl
  · refine zEv_k 4 (f' := (20, [some (.ref 7), some (.int x1), some (.int x2), some (.int x3), some (.int (x3 + 1)), x5], [], (zS0, R, I, J))) rfl ?_
    exact k1
  · refine zEv_k 4 (f' := (20, [some (.ref 22), some (.int x1), some (.int x2), some (.int x3), some (.int (x3 + 1)), x5], [], (zS0, R, I, J))) rfl ?_
    exact k1
theorem b_276_20 {X : zX} {d : Nat} {R : zR} {I : zI} {J : zJ} {r : zA} {c : Nat} {x1 : Int32} {x2 : Int32} {x3 : Int32} {x4 : Int32} {x5 : Option Value} (ho : c = 7 ∨ c = 22) (k1 : (I c 2) ≤ x4 → zEv X d zm_276 (71, [some (.ref c), some (.int x1), some (.int x2), some (.int x3), some (.int x4), x5], [], (zS0, R, I, J)) r) (k2 : ¬ ((I c 2) ≤ x4) → zEv X d zm_276 (29, [some (.ref c), some (.int x1), some (.int x2), some (.int x3), some (.int x4), x5], [], (zS0, R, I, J)) r) : zEv X d zm_276 (20, [some (.ref c), some (.int x1), some (.int x2), some (.int x3), some (.int x4), x5], [], (zS0, R, I, J)) r := by
  rcases ho with rfl | rfl
  · refine zEv_k 4 (f' := (if (I 7 2) ≤ x4 then 71 else 29, [some (.ref 7), some (.int x1), some (.int x2), some (.int x3), some (.int x4), x5], [], (zS0, R, I, J))) rfl ?_
    exact zEv_if k1 k2
  · refine zEv_k 4 (f' := (if (I 22 2) ≤ x4 then 71 else 29, [some (.ref 22), some (.int x1), some (.int x2), some (.int x3), some (.int x4), x5], [], (zS0, R, I, J))) rfl ?_
    exact zEv_if k1 k2
theorem b_276_29 {X : zX} {d : Nat} {R : zR} {I : zI} {J : zJ} {r : zA} {c : Nat} {x1 : Int32} {x2 : Int32} {x3 : Int32} {x4 : Int32} {x5 : Option Value} (hR : zRok R) (ho : c = 7 ∨ c = 22) (h34 : zin x3 7) (h41 : zin x4 7) (k1 : x2 ≤ (if 0 ≤ ((I (c + 6) (x3).toNatClampNeg) - (I (c + 6) (x4).toNatClampNeg)) then ((I (c + 6) (x3).toNatClampNeg) - (I (c + 6) (x4).toNatClampNeg)) else 0 - ((I (c + 6) (x3).toNatClampNeg) - (I (c + 6) (x4).toNatClampNeg))) → zEv X d zm_276 (65, [some (.ref c), some (.int x1), some (.int x2), some (.int x3), some (.int x4), some (.int (if 0 ≤ ((I (c + 6) (x3).toNatClampNeg) - (I (c + 6) (x4).toNatClampNeg)) then ((I (c + 6) (x3).toNatClampNeg) - (I (c + 6) (x4).toNatClampNeg)) else 0 - ((I (c + 6) (x3).toNatClampNeg) - (I (c + 6) (x4).toNatClampNeg))))], [], (zS0, R, I, J)) r) (k2 : ¬ (x2 ≤ (if 0 ≤ ((I (c + 6) (x3).toNatClampNeg) - (I (c + 6) (x4).toNatClampNeg)) then ((I (c + 6) (x3).toNatClampNeg) - (I (c + 6) (x4).toNatClampNeg)) else 0 - ((I (c + 6) (x3).toNatClampNeg) - (I (c + 6) (x4).toNatClampNeg)))) → zEv X d zm_276 (54, [some (.ref c), some (.int x1), some (.int x2), some (.int x3), some (.int x4), some (.int (if 0 ≤ ((I (c + 6) (x3).toNatClampNeg) - (I (c + 6) (x4).toNatClampNeg)) then ((I (c + 6) (x3).toNatClampNeg) - (I (c + 6) (x4).toNatClampNeg)) else 0 - ((I (c + 6) (x3).toNatClampNeg) - (I (c + 6) (x4).toNatClampNeg))))], [], (zS0, R, I, J)) r) : zEv X d zm_276 (29, [some (.ref c), some (.int x1), some (.int x2), some (.int x3), some (.int x4), x5], [], (zS0, R, I, J)) r := by
  rcases ho with rfl | rfl
  · refine zEv_k 1 (f' := (30, [some (.ref 7), some (.int x1), some (.int x2), some (.int x3), some (.int x4), x5], [.ref 7], (zS0, R, I, J))) rfl ?_
    refine zEv_gr rfl rfl rfl (by decide) (hR (7) 8 (7 + 6) rfl) ?_
    refine zEv_k 1 (f' := (34, [some (.ref 7), some (.int x1), some (.int x2), some (.int x3), some (.int x4), x5], [.int x3, .ref (7 + 6)], (zS0, R, I, J))) rfl ?_
    refine zEv_ial rfl rfl (by decide) h34 ?_
    refine zEv_k 1 (f' := (36, [some (.ref 7), some (.int x1), some (.int x2), some (.int x3), some (.int x4), x5], [.ref 7, .int (I (7 + 6) (x3).toNatClampNeg)], (zS0, R, I, J))) rfl ?_
    refine zEv_gr rfl rfl rfl (by decide) (hR (7) 8 (7 + 6) rfl) ?_
    refine zEv_k 1 (f' := (41, [some (.ref 7), some (.int x1), some (.int x2), some (.int x3), some (.int x4), x5], [.int x4, .ref (7 + 6), .int (I (7 + 6) (x3).toNatClampNeg)], (zS0, R, I, J))) rfl ?_
    refine zEv_ial rfl rfl (by decide) h41 ?_
    refine zEv_k 6 (f' := (if x2 ≤ (if 0 ≤ ((I (7 + 6) (x3).toNatClampNeg) - (I (7 + 6) (x4).toNatClampNeg)) then ((I (7 + 6) (x3).toNatClampNeg) - (I (7 + 6) (x4).toNatClampNeg)) else 0 - ((I (7 + 6) (x3).toNatClampNeg) - (I (7 + 6) (x4).toNatClampNeg))) then 65 else 54, [some (.ref 7), some (.int x1), some (.int x2), some (.int x3), some (.int x4), some (.int (if 0 ≤ ((I (7 + 6) (x3).toNatClampNeg) - (I (7 + 6) (x4).toNatClampNeg)) then ((I (7 + 6) (x3).toNatClampNeg) - (I (7 + 6) (x4).toNatClampNeg)) else 0 - ((I (7 + 6) (x3).toNatClampNeg) - (I (7 + 6) (x4).toNatClampNeg))))], [], (zS0, R, I, J))) rfl ?_
    exact zEv_if k1 k2
  · refine zEv_k 1 (f' := (30, [some (.ref 22), some (.int x1), some (.int x2), some (.int x3), some (.int x4), x5], [.ref 22], (zS0, R, I, J))) rfl ?_
    refine zEv_gr rfl rfl rfl (by decide) (hR (22) 8 (22 + 6) rfl) ?_
    refine zEv_k 1 (f' := (34, [some (.ref 22), some (.int x1), some (.int x2), some (.int x3), some (.int x4), x5], [.int x3, .ref (22 + 6)], (zS0, R, I, J))) rfl ?_
    refine zEv_ial rfl rfl (by decide) h34 ?_
    refine zEv_k 1 (f' := (36, [some (.ref 22), some (.int x1), some (.int x2), some (.int x3), some (.int x4), x5], [.ref 22, .int (I (22 + 6) (x3).toNatClampNeg)], (zS0, R, I, J))) rfl ?_
    refine zEv_gr rfl rfl rfl (by decide) (hR (22) 8 (22 + 6) rfl) ?_
    refine zEv_k 1 (f' := (41, [some (.ref 22), some (.int x1), some (.int x2), some (.int x3), some (.int x4), x5], [.int x4, .ref (22 + 6), .int (I (22 + 6) (x3).toNatClampNeg)], (zS0, R, I, J))) rfl ?_
    refine zEv_ial rfl rfl (by decide) h41 ?_
    refine zEv_k 6 (f' := (if x2 ≤ (if 0 ≤ ((I (22 + 6) (x3).toNatClampNeg) - (I (22 + 6) (x4).toNatClampNeg)) then ((I (22 + 6) (x3).toNatClampNeg) - (I (22 + 6) (x4).toNatClampNeg)) else 0 - ((I (22 + 6) (x3).toNatClampNeg) - (I (22 + 6) (x4).toNatClampNeg))) then 65 else 54, [some (.ref 22), some (.int x1), some (.int x2), some (.int x3), some (.int x4), some (.int (if 0 ≤ ((I (22 + 6) (x3).toNatClampNeg) - (I (22 + 6) (x4).toNatClampNeg)) then ((I (22 + 6) (x3).toNatClampNeg) - (I (22 + 6) (x4).toNatClampNeg)) else 0 - ((I (22 + 6) (x3).toNatClampNeg) - (I (22 + 6) (x4).toNatClampNeg))))], [], (zS0, R, I, J))) rfl ?_
    exact zEv_if k1 k2
theorem b_276_54 {X : zX} {d : Nat} {R : zR} {I : zI} {J : zJ} {r : zA} {c : Nat} {x1 : Int32} {x2 : Int32} {x3 : Int32} {x4 : Int32} {x5 : Int32} (ho : c = 7 ∨ c = 22) (k1 : zEv X d zm_276 (65, [some (.ref c), some (.int ((10 * x3) + x4)), some (.int x5), some (.int x3), some (.int x4), some (.int x5)], [], (zS0, R, I, J)) r) : zEv X d zm_276 (54, [some (.ref c), some (.int x1), some (.int x2), some (.int x3), some (.int x4), some (.int x5)], [], (zS0, R, I, J)) r := by
  rcases ho with rfl | rfl
  · refine zEv_k 8 (f' := (65, [some (.ref 7), some (.int ((10 * x3) + x4)), some (.int x5), some (.int x3), some (.int x4), some (.int x5)], [], (zS0, R, I, J))) rfl ?_
    exact k1
  · refine zEv_k 8 (f' := (65, [some (.ref 22), some (.int ((10 * x3) + x4)), some (.int x5), some (.int x3), some (.int x4), some (.int x5)], [], (zS0, R, I, J))) rfl ?_
    exact k1
theorem b_276_65 {X : zX} {d : Nat} {R : zR} {I : zI} {J : zJ} {r : zA} {c : Nat} {x1 : Int32} {x2 : Int32} {x3 : Int32} {x4 : Int32} {x5 : Int32} (ho : c = 7 ∨ c = 22) (k1 : zEv X d zm_276 (20, [some (.ref c), some (.int x1), some (.int x2), some (.int x3), some (.int (x4 + 1)), some (.int x5)], [], (zS0, R, I, J)) r) : zEv X d zm_276 (65, [some (.ref c), some (.int x1), some (.int x2), some (.int x3), some (.int x4), some (.int x5)], [], (zS0, R, I, J)) r := by
  rcases ho with rfl | rfl
  · refine zEv_k 2 (f' := (20, [some (.ref 7), some (.int x1), some (.int x2), some (.int x3), some (.int (x4 + 1)), some (.int x5)], [], (zS0, R, I, J))) rfl ?_
    exact k1
  · refine zEv_k 2 (f' := (20, [some (.ref 22), some (.int x1), some (.int x2), some (.int x3), some (.int (x4 + 1)), some (.int x5)], [], (zS0, R, I, J))) rfl ?_
    exact k1
theorem b_276_71 {X : zX} {d : Nat} {R : zR} {I : zI} {J : zJ} {r : zA} {c : Nat} {x1 : Int32} {x2 : Int32} {x3 : Int32} {x4 : Int32} {x5 : Option Value} (ho : c = 7 ∨ c = 22) (k1 : zEv X d zm_276 (7, [some (.ref c), some (.int x1), some (.int x2), some (.int (x3 + 1)), some (.int x4), x5], [], (zS0, R, I, J)) r) : zEv X d zm_276 (71, [some (.ref c), some (.int x1), some (.int x2), some (.int x3), some (.int x4), x5], [], (zS0, R, I, J)) r := by
  rcases ho with rfl | rfl
  · refine zEv_k 2 (f' := (7, [some (.ref 7), some (.int x1), some (.int x2), some (.int (x3 + 1)), some (.int x4), x5], [], (zS0, R, I, J))) rfl ?_
    exact k1
  · refine zEv_k 2 (f' := (7, [some (.ref 22), some (.int x1), some (.int x2), some (.int (x3 + 1)), some (.int x4), x5], [], (zS0, R, I, J))) rfl ?_
    exact k1
theorem b_276_77 {X : zX} {d : Nat} {R : zR} {I : zI} {J : zJ} {c : Nat} {x1 : Int32} {x2 : Int32} {x3 : Int32} {x4 : Option Value} {x5 : Option Value} (ho : c = 7 ∨ c = 22) : zEv X d zm_276 (77, [some (.ref c), some (.int x1), some (.int x2), some (.int x3), x4, x5], [], (zS0, R, I, J)) (some (.int x1), (zS0, R, I, J)) := by
  rcases ho with rfl | rfl
  · refine zEv_k 1 (f' := (78, [some (.ref 7), some (.int x1), some (.int x2), some (.int x3), x4, x5], [.int x1], (zS0, R, I, J))) rfl ?_
    exact zEv_r rfl
  · refine zEv_k 1 (f' := (78, [some (.ref 22), some (.int x1), some (.int x2), some (.int x3), x4, x5], [.int x1], (zS0, R, I, J))) rfl ?_
    exact zEv_r rfl
theorem b_277_0 {X : zX} {d : Nat} {R : zR} {I : zI} {J : zJ} {r : zA} {c : Nat} {w : Int32} {R' : zR} {I' : zI} {J' : zJ} (ho : c = 7 ∨ c = 22) (hc : zEv X d zm_276 (0, [some (.ref c), none, none, none, none, none], [], (zS0, R, I, J)) (some (.int w), (zS0, R', I', J'))) (k1 : zEv X (d + 1) zm_277 (4, [some (.ref c), none], [.int w], (zS0, R', I', J')) r) : zEv X (d + 1) zm_277 (0, [some (.ref c), none], [], (zS0, R, I, J)) r := by
  rcases ho with rfl | rfl
  · refine zEv_k 1 (f' := (1, [some (.ref 7), none], [.ref 7], (zS0, R, I, J))) rfl ?_
    exact zEv_c (fun _ => rfl) rfl hc rfl rfl k1
  · refine zEv_k 1 (f' := (1, [some (.ref 22), none], [.ref 22], (zS0, R, I, J))) rfl ?_
    exact zEv_c (fun _ => rfl) rfl hc rfl rfl k1
theorem b_277_4 {X : zX} {d : Nat} {R : zR} {I : zI} {J : zJ} {r : zA} {c : Nat} {s0 : Int32} (ho : c = 7 ∨ c = 22) (k1 : ¬ s0 = (-1) → zEv X d zm_277 (14, [some (.ref c), some (.int s0)], [], (zS0, R, I, J)) r) (k2 : ¬ (¬ s0 = (-1)) → zEv X d zm_277 (10, [some (.ref c), some (.int s0)], [], (zS0, R, I, J)) r) : zEv X d zm_277 (4, [some (.ref c), none], [.int s0], (zS0, R, I, J)) r := by
  rcases ho with rfl | rfl
  · refine zEv_k 4 (f' := (if ¬ s0 = (-1) then 14 else 10, [some (.ref 7), some (.int s0)], [], (zS0, R, I, J))) rfl ?_
    exact zEv_if k1 k2
  · refine zEv_k 4 (f' := (if ¬ s0 = (-1) then 14 else 10, [some (.ref 22), some (.int s0)], [], (zS0, R, I, J))) rfl ?_
    exact zEv_if k1 k2
theorem b_277_10 {X : zX} {d : Nat} {R : zR} {I : zI} {J : zJ} {c : Nat} {x1 : Int32} (ho : c = 7 ∨ c = 22) : zEv X d zm_277 (10, [some (.ref c), some (.int x1)], [], (zS0, R, I, J)) (some (.int 0), (zS0, R, I, J)) := by
  rcases ho with rfl | rfl
  · refine zEv_k 2 (f' := (36, [some (.ref 7), some (.int x1)], [.int 0], (zS0, R, I, J))) rfl ?_
    exact zEv_r rfl
  · refine zEv_k 2 (f' := (36, [some (.ref 22), some (.int x1)], [.int 0], (zS0, R, I, J))) rfl ?_
    exact zEv_r rfl
theorem b_277_14 {X : zX} {d : Nat} {R : zR} {I : zI} {J : zJ} {c : Nat} {x1 : Int32} (hR : zRok R) (ho : c = 7 ∨ c = 22) (h22 : zin (x1 / 10) 7) (h31 : zin (x1 - x1 / 10 * 10) 7) : zEv X d zm_277 (14, [some (.ref c), some (.int x1)], [], (zS0, R, I, J)) (some (.int (if 0 ≤ ((I (c + 6) (x1 / 10).toNatClampNeg) - (I (c + 6) (x1 - x1 / 10 * 10).toNatClampNeg)) then ((I (c + 6) (x1 / 10).toNatClampNeg) - (I (c + 6) (x1 - x1 / 10 * 10).toNatClampNeg)) else 0 - ((I (c + 6) (x1 / 10).toNatClampNeg) - (I (c + 6) (x1 - x1 / 10 * 10).toNatClampNeg)))), (zS0, R, I, J)) := by
  rcases ho with rfl | rfl
  · refine zEv_k 1 (f' := (15, [some (.ref 7), some (.int x1)], [.ref 7], (zS0, R, I, J))) rfl ?_
    refine zEv_gr rfl rfl rfl (by decide) (hR (7) 8 (7 + 6) rfl) ?_
    refine zEv_k 2 (f' := (21, [some (.ref 7), some (.int x1)], [.int 10, .int x1, .ref (7 + 6)], (zS0, R, I, J))) rfl ?_
    refine zEv_div rfl (by decide) ?_
    refine zEv_ial rfl rfl (by decide) h22 ?_
    refine zEv_k 1 (f' := (24, [some (.ref 7), some (.int x1)], [.ref 7, .int (I (7 + 6) (x1 / 10).toNatClampNeg)], (zS0, R, I, J))) rfl ?_
    refine zEv_gr rfl rfl rfl (by decide) (hR (7) 8 (7 + 6) rfl) ?_
    refine zEv_k 2 (f' := (30, [some (.ref 7), some (.int x1)], [.int 10, .int x1, .ref (7 + 6), .int (I (7 + 6) (x1 / 10).toNatClampNeg)], (zS0, R, I, J))) rfl ?_
    refine zEv_rem rfl (by decide) ?_
    refine zEv_ial rfl rfl (by decide) h31 ?_
    refine zEv_k 2 (f' := (36, [some (.ref 7), some (.int x1)], [.int (if 0 ≤ ((I (7 + 6) (x1 / 10).toNatClampNeg) - (I (7 + 6) (x1 - x1 / 10 * 10).toNatClampNeg)) then ((I (7 + 6) (x1 / 10).toNatClampNeg) - (I (7 + 6) (x1 - x1 / 10 * 10).toNatClampNeg)) else 0 - ((I (7 + 6) (x1 / 10).toNatClampNeg) - (I (7 + 6) (x1 - x1 / 10 * 10).toNatClampNeg)))], (zS0, R, I, J))) rfl ?_
    exact zEv_r rfl
  · refine zEv_k 1 (f' := (15, [some (.ref 22), some (.int x1)], [.ref 22], (zS0, R, I, J))) rfl ?_
    refine zEv_gr rfl rfl rfl (by decide) (hR (22) 8 (22 + 6) rfl) ?_
    refine zEv_k 2 (f' := (21, [some (.ref 22), some (.int x1)], [.int 10, .int x1, .ref (22 + 6)], (zS0, R, I, J))) rfl ?_
    refine zEv_div rfl (by decide) ?_
    refine zEv_ial rfl rfl (by decide) h22 ?_
    refine zEv_k 1 (f' := (24, [some (.ref 22), some (.int x1)], [.ref 22, .int (I (22 + 6) (x1 / 10).toNatClampNeg)], (zS0, R, I, J))) rfl ?_
    refine zEv_gr rfl rfl rfl (by decide) (hR (22) 8 (22 + 6) rfl) ?_
    refine zEv_k 2 (f' := (30, [some (.ref 22), some (.int x1)], [.int 10, .int x1, .ref (22 + 6), .int (I (22 + 6) (x1 / 10).toNatClampNeg)], (zS0, R, I, J))) rfl ?_
    refine zEv_rem rfl (by decide) ?_
    refine zEv_ial rfl rfl (by decide) h31 ?_
    refine zEv_k 2 (f' := (36, [some (.ref 22), some (.int x1)], [.int (if 0 ≤ ((I (22 + 6) (x1 / 10).toNatClampNeg) - (I (22 + 6) (x1 - x1 / 10 * 10).toNatClampNeg)) then ((I (22 + 6) (x1 / 10).toNatClampNeg) - (I (22 + 6) (x1 - x1 / 10 * 10).toNatClampNeg)) else 0 - ((I (22 + 6) (x1 / 10).toNatClampNeg) - (I (22 + 6) (x1 - x1 / 10 * 10).toNatClampNeg)))], (zS0, R, I, J))) rfl ?_
    exact zEv_r rfl
theorem b_278_0 {X : zX} {d : Nat} {R : zR} {I : zI} {J : zJ} {r : zA} {c : Nat} (ho : c = 7 ∨ c = 22) (k1 : zEv X d zm_278 (7, [some (.ref c), some (.int (-1)), some (.int 51), some (.int 0), none], [], (zS0, R, I, J)) r) : zEv X d zm_278 (0, [some (.ref c), none, none, none, none], [], (zS0, R, I, J)) r := by
  rcases ho with rfl | rfl
  · refine zEv_k 6 (f' := (7, [some (.ref 7), some (.int (-1)), some (.int 51), some (.int 0), none], [], (zS0, R, I, J))) rfl ?_
    exact k1
  · refine zEv_k 6 (f' := (7, [some (.ref 22), some (.int (-1)), some (.int 51), some (.int 0), none], [], (zS0, R, I, J))) rfl ?_
    exact k1
theorem b_278_7 {X : zX} {d : Nat} {R : zR} {I : zI} {J : zJ} {r : zA} {c : Nat} {x1 : Int32} {x2 : Int32} {x3 : Int32} {x4 : Option Value} (ho : c = 7 ∨ c = 22) (k1 : (I c 2) ≤ x3 → zEv X d zm_278 (45, [some (.ref c), some (.int x1), some (.int x2), some (.int x3), x4], [], (zS0, R, I, J)) r) (k2 : ¬ ((I c 2) ≤ x3) → zEv X d zm_278 (15, [some (.ref c), some (.int x1), some (.int x2), some (.int x3), x4], [], (zS0, R, I, J)) r) : zEv X d zm_278 (7, [some (.ref c), some (.int x1), some (.int x2), some (.int x3), x4], [], (zS0, R, I, J)) r := by
  rcases ho with rfl | rfl
  · refine zEv_k 4 (f' := (if (I 7 2) ≤ x3 then 45 else 15, [some (.ref 7), some (.int x1), some (.int x2), some (.int x3), x4], [], (zS0, R, I, J))) rfl ?_
    exact zEv_if k1 k2
  · refine zEv_k 4 (f' := (if (I 22 2) ≤ x3 then 45 else 15, [some (.ref 22), some (.int x1), some (.int x2), some (.int x3), x4], [], (zS0, R, I, J))) rfl ?_
    exact zEv_if k1 k2
theorem b_278_15 {X : zX} {d : Nat} {R : zR} {I : zI} {J : zJ} {r : zA} {c : Nat} {x1 : Int32} {x2 : Int32} {x3 : Int32} {x4 : Option Value} {w : Int32} {R' : zR} {I' : zI} {J' : zJ} (ho : c = 7 ∨ c = 22) (hc : zEv X d zm_9 (0, [some (.ref c), some (.int x3), none], [], (zS0, R, I, J)) (some (.int w), (zS0, R', I', J'))) (k1 : zEv X (d + 1) zm_278 (20, [some (.ref c), some (.int x1), some (.int x2), some (.int x3), x4], [.int w], (zS0, R', I', J')) r) : zEv X (d + 1) zm_278 (15, [some (.ref c), some (.int x1), some (.int x2), some (.int x3), x4], [], (zS0, R, I, J)) r := by
  rcases ho with rfl | rfl
  · refine zEv_k 2 (f' := (17, [some (.ref 7), some (.int x1), some (.int x2), some (.int x3), x4], [.int x3, .ref 7], (zS0, R, I, J))) rfl ?_
    exact zEv_c (fun _ => rfl) rfl hc rfl rfl k1
  · refine zEv_k 2 (f' := (17, [some (.ref 22), some (.int x1), some (.int x2), some (.int x3), x4], [.int x3, .ref 22], (zS0, R, I, J))) rfl ?_
    exact zEv_c (fun _ => rfl) rfl hc rfl rfl k1
theorem b_278_20 {X : zX} {d : Nat} {R : zR} {I : zI} {J : zJ} {r : zA} {c : Nat} {x1 : Int32} {x2 : Int32} {x3 : Int32} {x4 : Option Value} {s0 : Int32} (ho : c = 7 ∨ c = 22) (k1 : s0 = (-1) → zEv X d zm_278 (39, [some (.ref c), some (.int x1), some (.int x2), some (.int x3), some (.int s0)], [], (zS0, R, I, J)) r) (k2 : ¬ (s0 = (-1)) → zEv X d zm_278 (28, [some (.ref c), some (.int x1), some (.int x2), some (.int x3), some (.int s0)], [], (zS0, R, I, J)) r) : zEv X d zm_278 (20, [some (.ref c), some (.int x1), some (.int x2), some (.int x3), x4], [.int s0], (zS0, R, I, J)) r := by
  rcases ho with rfl | rfl
  · refine zEv_k 4 (f' := (if s0 = (-1) then 39 else 28, [some (.ref 7), some (.int x1), some (.int x2), some (.int x3), some (.int s0)], [], (zS0, R, I, J))) rfl ?_
    exact zEv_if k1 k2
  · refine zEv_k 4 (f' := (if s0 = (-1) then 39 else 28, [some (.ref 22), some (.int x1), some (.int x2), some (.int x3), some (.int s0)], [], (zS0, R, I, J))) rfl ?_
    exact zEv_if k1 k2
theorem b_278_28 {X : zX} {d : Nat} {R : zR} {I : zI} {J : zJ} {r : zA} {c : Nat} {x1 : Int32} {x2 : Int32} {x3 : Int32} {x4 : Int32} (ho : c = 7 ∨ c = 22) (k1 : x2 ≤ x4 → zEv X d zm_278 (39, [some (.ref c), some (.int x1), some (.int x2), some (.int x3), some (.int x4)], [], (zS0, R, I, J)) r) (k2 : ¬ (x2 ≤ x4) → zEv X d zm_278 (34, [some (.ref c), some (.int x1), some (.int x2), some (.int x3), some (.int x4)], [], (zS0, R, I, J)) r) : zEv X d zm_278 (28, [some (.ref c), some (.int x1), some (.int x2), some (.int x3), some (.int x4)], [], (zS0, R, I, J)) r := by
  rcases ho with rfl | rfl
  · refine zEv_k 3 (f' := (if x2 ≤ x4 then 39 else 34, [some (.ref 7), some (.int x1), some (.int x2), some (.int x3), some (.int x4)], [], (zS0, R, I, J))) rfl ?_
    exact zEv_if k1 k2
  · refine zEv_k 3 (f' := (if x2 ≤ x4 then 39 else 34, [some (.ref 22), some (.int x1), some (.int x2), some (.int x3), some (.int x4)], [], (zS0, R, I, J))) rfl ?_
    exact zEv_if k1 k2
theorem b_278_34 {X : zX} {d : Nat} {R : zR} {I : zI} {J : zJ} {r : zA} {c : Nat} {x1 : Int32} {x2 : Int32} {x3 : Int32} {x4 : Int32} (ho : c = 7 ∨ c = 22) (k1 : zEv X d zm_278 (39, [some (.ref c), some (.int x3), some (.int x4), some (.int x3), some (.int x4)], [], (zS0, R, I, J)) r) : zEv X d zm_278 (34, [some (.ref c), some (.int x1), some (.int x2), some (.int x3), some (.int x4)], [], (zS0, R, I, J)) r := by
  rcases ho with rfl | rfl
  · refine zEv_k 4 (f' := (39, [some (.ref 7), some (.int x3), some (.int x4), some (.int x3), some (.int x4)], [], (zS0, R, I, J))) rfl ?_
    exact k1
  · refine zEv_k 4 (f' := (39, [some (.ref 22), some (.int x3), some (.int x4), some (.int x3), some (.int x4)], [], (zS0, R, I, J))) rfl ?_
    exact k1
theorem b_278_39 {X : zX} {d : Nat} {R : zR} {I : zI} {J : zJ} {r : zA} {c : Nat} {x1 : Int32} {x2 : Int32} {x3 : Int32} {x4 : Int32} (ho : c = 7 ∨ c = 22) (k1 : zEv X d zm_278 (7, [some (.ref c), some (.int x1), some (.int x2), some (.int (x3 + 1)), some (.int x4)], [], (zS0, R, I, J)) r) : zEv X d zm_278 (39, [some (.ref c), some (.int x1), some (.int x2), some (.int x3), some (.int x4)], [], (zS0, R, I, J)) r := by
  rcases ho with rfl | rfl
  · refine zEv_k 2 (f' := (7, [some (.ref 7), some (.int x1), some (.int x2), some (.int (x3 + 1)), some (.int x4)], [], (zS0, R, I, J))) rfl ?_
    exact k1
  · refine zEv_k 2 (f' := (7, [some (.ref 22), some (.int x1), some (.int x2), some (.int (x3 + 1)), some (.int x4)], [], (zS0, R, I, J))) rfl ?_
    exact k1
theorem b_278_45 {X : zX} {d : Nat} {R : zR} {I : zI} {J : zJ} {c : Nat} {x1 : Int32} {x2 : Int32} {x3 : Int32} {x4 : Option Value} (ho : c = 7 ∨ c = 22) : zEv X d zm_278 (45, [some (.ref c), some (.int x1), some (.int x2), some (.int x3), x4], [], (zS0, R, I, J)) (some (.int x1), (zS0, R, I, J)) := by
  rcases ho with rfl | rfl
  · refine zEv_k 1 (f' := (46, [some (.ref 7), some (.int x1), some (.int x2), some (.int x3), x4], [.int x1], (zS0, R, I, J))) rfl ?_
    exact zEv_r rfl
  · refine zEv_k 1 (f' := (46, [some (.ref 22), some (.int x1), some (.int x2), some (.int x3), x4], [.int x1], (zS0, R, I, J))) rfl ?_
    exact zEv_r rfl
theorem b_279_0 {X : zX} {d : Nat} {R : zR} {I : zI} {J : zJ} {r : zA} {c : Nat} (ho : c = 7 ∨ c = 22) (k1 : zEv X d zm_279 (4, [some (.ref c), some (.int 0), some (.int 0)], [], (zS0, R, I, J)) r) : zEv X d zm_279 (0, [some (.ref c), none, none], [], (zS0, R, I, J)) r := by
  rcases ho with rfl | rfl
  · refine zEv_k 4 (f' := (4, [some (.ref 7), some (.int 0), some (.int 0)], [], (zS0, R, I, J))) rfl ?_
    exact k1
  · refine zEv_k 4 (f' := (4, [some (.ref 22), some (.int 0), some (.int 0)], [], (zS0, R, I, J))) rfl ?_
    exact k1
theorem b_279_4 {X : zX} {d : Nat} {R : zR} {I : zI} {J : zJ} {r : zA} {c : Nat} {x1 : Int32} {x2 : Int32} (ho : c = 7 ∨ c = 22) (k1 : (I c 2) ≤ x2 → zEv X d zm_279 (33, [some (.ref c), some (.int x1), some (.int x2)], [], (zS0, R, I, J)) r) (k2 : ¬ ((I c 2) ≤ x2) → zEv X d zm_279 (12, [some (.ref c), some (.int x1), some (.int x2)], [], (zS0, R, I, J)) r) : zEv X d zm_279 (4, [some (.ref c), some (.int x1), some (.int x2)], [], (zS0, R, I, J)) r := by
  rcases ho with rfl | rfl
  · refine zEv_k 4 (f' := (if (I 7 2) ≤ x2 then 33 else 12, [some (.ref 7), some (.int x1), some (.int x2)], [], (zS0, R, I, J))) rfl ?_
    exact zEv_if k1 k2
  · refine zEv_k 4 (f' := (if (I 22 2) ≤ x2 then 33 else 12, [some (.ref 22), some (.int x1), some (.int x2)], [], (zS0, R, I, J))) rfl ?_
    exact zEv_if k1 k2
theorem b_279_12 {X : zX} {d : Nat} {R : zR} {I : zI} {J : zJ} {r : zA} {c : Nat} {x1 : Int32} {x2 : Int32} {w : Int32} {R' : zR} {I' : zI} {J' : zJ} (ho : c = 7 ∨ c = 22) (hc : zEv X d zm_9 (0, [some (.ref c), some (.int x2), none], [], (zS0, R, I, J)) (some (.int w), (zS0, R', I', J'))) (k1 : zEv X (d + 1) zm_279 (17, [some (.ref c), some (.int x1), some (.int x2)], [.int w], (zS0, R', I', J')) r) : zEv X (d + 1) zm_279 (12, [some (.ref c), some (.int x1), some (.int x2)], [], (zS0, R, I, J)) r := by
  rcases ho with rfl | rfl
  · refine zEv_k 2 (f' := (14, [some (.ref 7), some (.int x1), some (.int x2)], [.int x2, .ref 7], (zS0, R, I, J))) rfl ?_
    exact zEv_c (fun _ => rfl) rfl hc rfl rfl k1
  · refine zEv_k 2 (f' := (14, [some (.ref 22), some (.int x1), some (.int x2)], [.int x2, .ref 22], (zS0, R, I, J))) rfl ?_
    exact zEv_c (fun _ => rfl) rfl hc rfl rfl k1
theorem b_279_17 {X : zX} {d : Nat} {R : zR} {I : zI} {J : zJ} {r : zA} {c : Nat} {x1 : Int32} {x2 : Int32} {s0 : Int32} (ho : c = 7 ∨ c = 22) (k1 : ¬ s0 = (-1) → zEv X d zm_279 (27, [some (.ref c), some (.int x1), some (.int x2)], [], (zS0, R, I, J)) r) (k2 : ¬ (¬ s0 = (-1)) → zEv X d zm_279 (21, [some (.ref c), some (.int x1), some (.int x2)], [], (zS0, R, I, J)) r) : zEv X d zm_279 (17, [some (.ref c), some (.int x1), some (.int x2)], [.int s0], (zS0, R, I, J)) r := by
  rcases ho with rfl | rfl
  · refine zEv_k 2 (f' := (if ¬ s0 = (-1) then 27 else 21, [some (.ref 7), some (.int x1), some (.int x2)], [], (zS0, R, I, J))) rfl ?_
    exact zEv_if k1 k2
  · refine zEv_k 2 (f' := (if ¬ s0 = (-1) then 27 else 21, [some (.ref 22), some (.int x1), some (.int x2)], [], (zS0, R, I, J))) rfl ?_
    exact zEv_if k1 k2
theorem b_279_21 {X : zX} {d : Nat} {R : zR} {I : zI} {J : zJ} {r : zA} {c : Nat} {x1 : Int32} {x2 : Int32} (ho : c = 7 ∨ c = 22) (k1 : zEv X d zm_279 (27, [some (.ref c), some (.int (x1 ||| ((1 : Int32) <<< (x2 &&& 31)))), some (.int x2)], [], (zS0, R, I, J)) r) : zEv X d zm_279 (21, [some (.ref c), some (.int x1), some (.int x2)], [], (zS0, R, I, J)) r := by
  rcases ho with rfl | rfl
  · refine zEv_k 6 (f' := (27, [some (.ref 7), some (.int (x1 ||| ((1 : Int32) <<< (x2 &&& 31)))), some (.int x2)], [], (zS0, R, I, J))) rfl ?_
    exact k1
  · refine zEv_k 6 (f' := (27, [some (.ref 22), some (.int (x1 ||| ((1 : Int32) <<< (x2 &&& 31)))), some (.int x2)], [], (zS0, R, I, J))) rfl ?_
    exact k1
theorem b_279_27 {X : zX} {d : Nat} {R : zR} {I : zI} {J : zJ} {r : zA} {c : Nat} {x1 : Int32} {x2 : Int32} (ho : c = 7 ∨ c = 22) (k1 : zEv X d zm_279 (4, [some (.ref c), some (.int x1), some (.int (x2 + 1))], [], (zS0, R, I, J)) r) : zEv X d zm_279 (27, [some (.ref c), some (.int x1), some (.int x2)], [], (zS0, R, I, J)) r := by
  rcases ho with rfl | rfl
  · refine zEv_k 2 (f' := (4, [some (.ref 7), some (.int x1), some (.int (x2 + 1))], [], (zS0, R, I, J))) rfl ?_
    exact k1
  · refine zEv_k 2 (f' := (4, [some (.ref 22), some (.int x1), some (.int (x2 + 1))], [], (zS0, R, I, J))) rfl ?_
    exact k1
theorem b_279_33 {X : zX} {d : Nat} {R : zR} {I : zI} {J : zJ} {c : Nat} {x1 : Int32} {x2 : Int32} (ho : c = 7 ∨ c = 22) : zEv X d zm_279 (33, [some (.ref c), some (.int x1), some (.int x2)], [], (zS0, R, I, J)) (some (.int x1), (zS0, R, I, J)) := by
  rcases ho with rfl | rfl
  · refine zEv_k 1 (f' := (34, [some (.ref 7), some (.int x1), some (.int x2)], [.int x1], (zS0, R, I, J))) rfl ?_
    exact zEv_r rfl
  · refine zEv_k 1 (f' := (34, [some (.ref 22), some (.int x1), some (.int x2)], [.int x1], (zS0, R, I, J))) rfl ?_
    exact zEv_r rfl
theorem b_280_0 {X : zX} {d : Nat} {R : zR} {I : zI} {J : zJ} {r : zA} {c : Nat} (ho : c = 7 ∨ c = 22) (k1 : zEv X d zm_280 (4, [some (.ref c), some (.int 0), some (.int 0)], [], (zS0, R, I, J)) r) : zEv X d zm_280 (0, [some (.ref c), none, none], [], (zS0, R, I, J)) r := by
  rcases ho with rfl | rfl
  · refine zEv_k 4 (f' := (4, [some (.ref 7), some (.int 0), some (.int 0)], [], (zS0, R, I, J))) rfl ?_
    exact k1
  · refine zEv_k 4 (f' := (4, [some (.ref 22), some (.int 0), some (.int 0)], [], (zS0, R, I, J))) rfl ?_
    exact k1
theorem b_280_4 {X : zX} {d : Nat} {R : zR} {I : zI} {J : zJ} {r : zA} {c : Nat} {x1 : Int32} {x2 : Int32} (ho : c = 7 ∨ c = 22) (k1 : (I c 2) ≤ x2 → zEv X d zm_280 (40, [some (.ref c), some (.int x1), some (.int x2)], [], (zS0, R, I, J)) r) (k2 : ¬ ((I c 2) ≤ x2) → zEv X d zm_280 (12, [some (.ref c), some (.int x1), some (.int x2)], [], (zS0, R, I, J)) r) : zEv X d zm_280 (4, [some (.ref c), some (.int x1), some (.int x2)], [], (zS0, R, I, J)) r := by
  rcases ho with rfl | rfl
  · refine zEv_k 4 (f' := (if (I 7 2) ≤ x2 then 40 else 12, [some (.ref 7), some (.int x1), some (.int x2)], [], (zS0, R, I, J))) rfl ?_
    exact zEv_if k1 k2
  · refine zEv_k 4 (f' := (if (I 22 2) ≤ x2 then 40 else 12, [some (.ref 22), some (.int x1), some (.int x2)], [], (zS0, R, I, J))) rfl ?_
    exact zEv_if k1 k2
theorem b_280_12 {X : zX} {d : Nat} {R : zR} {I : zI} {J : zJ} {r : zA} {c : Nat} {x1 : Int32} {x2 : Int32} (hR : zRok R) (ho : c = 7 ∨ c = 22) (h17 : zin x2 7) (k1 : (I (c + 7) (x2).toNatClampNeg) = 0 → zEv X d zm_280 (34, [some (.ref c), some (.int x1), some (.int x2)], [], (zS0, R, I, J)) r) (k2 : ¬ ((I (c + 7) (x2).toNatClampNeg) = 0) → zEv X d zm_280 (21, [some (.ref c), some (.int x1), some (.int x2)], [], (zS0, R, I, J)) r) : zEv X d zm_280 (12, [some (.ref c), some (.int x1), some (.int x2)], [], (zS0, R, I, J)) r := by
  rcases ho with rfl | rfl
  · refine zEv_k 1 (f' := (13, [some (.ref 7), some (.int x1), some (.int x2)], [.ref 7], (zS0, R, I, J))) rfl ?_
    refine zEv_gr rfl rfl rfl (by decide) (hR (7) 9 (7 + 7) rfl) ?_
    refine zEv_k 1 (f' := (17, [some (.ref 7), some (.int x1), some (.int x2)], [.int x2, .ref (7 + 7)], (zS0, R, I, J))) rfl ?_
    refine zEv_ial rfl rfl (by decide) h17 ?_
    refine zEv_k 1 (f' := (if (I (7 + 7) (x2).toNatClampNeg) = 0 then 34 else 21, [some (.ref 7), some (.int x1), some (.int x2)], [], (zS0, R, I, J))) rfl ?_
    exact zEv_if k1 k2
  · refine zEv_k 1 (f' := (13, [some (.ref 22), some (.int x1), some (.int x2)], [.ref 22], (zS0, R, I, J))) rfl ?_
    refine zEv_gr rfl rfl rfl (by decide) (hR (22) 9 (22 + 7) rfl) ?_
    refine zEv_k 1 (f' := (17, [some (.ref 22), some (.int x1), some (.int x2)], [.int x2, .ref (22 + 7)], (zS0, R, I, J))) rfl ?_
    refine zEv_ial rfl rfl (by decide) h17 ?_
    refine zEv_k 1 (f' := (if (I (22 + 7) (x2).toNatClampNeg) = 0 then 34 else 21, [some (.ref 22), some (.int x1), some (.int x2)], [], (zS0, R, I, J))) rfl ?_
    exact zEv_if k1 k2
theorem b_280_21 {X : zX} {d : Nat} {R : zR} {I : zI} {J : zJ} {r : zA} {c : Nat} {x1 : Int32} {x2 : Int32} (hR : zRok R) (ho : c = 7 ∨ c = 22) (h27 : zin x2 7) (k1 : zEv X d zm_280 (34, [some (.ref c), some (.int (x1 ||| ((I (c + 7) (x2).toNatClampNeg) ||| ((1 : Int32) <<< (x2 &&& 31))))), some (.int x2)], [], (zS0, R, I, J)) r) : zEv X d zm_280 (21, [some (.ref c), some (.int x1), some (.int x2)], [], (zS0, R, I, J)) r := by
  rcases ho with rfl | rfl
  · refine zEv_k 2 (f' := (23, [some (.ref 7), some (.int x1), some (.int x2)], [.ref 7, .int x1], (zS0, R, I, J))) rfl ?_
    refine zEv_gr rfl rfl rfl (by decide) (hR (7) 9 (7 + 7) rfl) ?_
    refine zEv_k 1 (f' := (27, [some (.ref 7), some (.int x1), some (.int x2)], [.int x2, .ref (7 + 7), .int x1], (zS0, R, I, J))) rfl ?_
    refine zEv_ial rfl rfl (by decide) h27 ?_
    refine zEv_k 6 (f' := (34, [some (.ref 7), some (.int (x1 ||| ((I (7 + 7) (x2).toNatClampNeg) ||| ((1 : Int32) <<< (x2 &&& 31))))), some (.int x2)], [], (zS0, R, I, J))) rfl ?_
    exact k1
  · refine zEv_k 2 (f' := (23, [some (.ref 22), some (.int x1), some (.int x2)], [.ref 22, .int x1], (zS0, R, I, J))) rfl ?_
    refine zEv_gr rfl rfl rfl (by decide) (hR (22) 9 (22 + 7) rfl) ?_
    refine zEv_k 1 (f' := (27, [some (.ref 22), some (.int x1), some (.int x2)], [.int x2, .ref (22 + 7), .int x1], (zS0, R, I, J))) rfl ?_
    refine zEv_ial rfl rfl (by decide) h27 ?_
    refine zEv_k 6 (f' := (34, [some (.ref 22), some (.int (x1 ||| ((I (22 + 7) (x2).toNatClampNeg) ||| ((1 : Int32) <<< (x2 &&& 31))))), some (.int x2)], [], (zS0, R, I, J))) rfl ?_
    exact k1
theorem b_280_34 {X : zX} {d : Nat} {R : zR} {I : zI} {J : zJ} {r : zA} {c : Nat} {x1 : Int32} {x2 : Int32} (ho : c = 7 ∨ c = 22) (k1 : zEv X d zm_280 (4, [some (.ref c), some (.int x1), some (.int (x2 + 1))], [], (zS0, R, I, J)) r) : zEv X d zm_280 (34, [some (.ref c), some (.int x1), some (.int x2)], [], (zS0, R, I, J)) r := by
  rcases ho with rfl | rfl
  · refine zEv_k 2 (f' := (4, [some (.ref 7), some (.int x1), some (.int (x2 + 1))], [], (zS0, R, I, J))) rfl ?_
    exact k1
  · refine zEv_k 2 (f' := (4, [some (.ref 22), some (.int x1), some (.int (x2 + 1))], [], (zS0, R, I, J))) rfl ?_
    exact k1
theorem b_280_40 {X : zX} {d : Nat} {R : zR} {I : zI} {J : zJ} {r : zA} {c : Nat} {x1 : Int32} {x2 : Int32} {w : Int32} {R' : zR} {I' : zI} {J' : zJ} (ho : c = 7 ∨ c = 22) (hc : zEv X d zm_7 (0, [some (.ref c)], [], (zS0, R, I, J)) (some (.int w), (zS0, R', I', J'))) (k1 : zEv X (d + 1) zm_280 (44, [some (.ref c), some (.int x1), some (.int x2)], [.int w], (zS0, R', I', J')) r) : zEv X (d + 1) zm_280 (40, [some (.ref c), some (.int x1), some (.int x2)], [], (zS0, R, I, J)) r := by
  rcases ho with rfl | rfl
  · refine zEv_k 1 (f' := (41, [some (.ref 7), some (.int x1), some (.int x2)], [.ref 7], (zS0, R, I, J))) rfl ?_
    exact zEv_c (fun _ => rfl) rfl hc rfl rfl k1
  · refine zEv_k 1 (f' := (41, [some (.ref 22), some (.int x1), some (.int x2)], [.ref 22], (zS0, R, I, J))) rfl ?_
    exact zEv_c (fun _ => rfl) rfl hc rfl rfl k1
theorem b_280_44 {X : zX} {d : Nat} {R : zR} {I : zI} {J : zJ} {c : Nat} {x1 : Int32} {x2 : Int32} {s0 : Int32} (ho : c = 7 ∨ c = 22) : zEv X d zm_280 (44, [some (.ref c), some (.int x1), some (.int x2)], [.int s0], (zS0, R, I, J)) (some (.int (s0 &&& (x1 ^^^ (-1)))), (zS0, R, I, J)) := by
  rcases ho with rfl | rfl
  · refine zEv_k 4 (f' := (48, [some (.ref 7), some (.int x1), some (.int x2)], [.int (s0 &&& (x1 ^^^ (-1)))], (zS0, R, I, J))) rfl ?_
    exact zEv_r rfl
  · refine zEv_k 4 (f' := (48, [some (.ref 22), some (.int x1), some (.int x2)], [.int (s0 &&& (x1 ^^^ (-1)))], (zS0, R, I, J))) rfl ?_
    exact zEv_r rfl
theorem b_281_0 {X : zX} {d : Nat} {R : zR} {I : zI} {J : zJ} {r : zA} {c : Nat} (ho : c = 7 ∨ c = 22) (k1 : zEv X d zm_281 (4, [some (.ref c), some (.int (-1)), some (.int 0), none, none], [], (zS0, R, I, J)) r) : zEv X d zm_281 (0, [some (.ref c), none, none, none, none], [], (zS0, R, I, J)) r := by
  rcases ho with rfl | rfl
  · refine zEv_k 4 (f' := (4, [some (.ref 7), some (.int (-1)), some (.int 0), none, none], [], (zS0, R, I, J))) rfl ?_
    exact k1
  · refine zEv_k 4 (f' := (4, [some (.ref 22), some (.int (-1)), some (.int 0), none, none], [], (zS0, R, I, J))) rfl ?_
    exact k1
theorem b_281_4 {X : zX} {d : Nat} {R : zR} {I : zI} {J : zJ} {r : zA} {c : Nat} {x1 : Int32} {x2 : Int32} {x3 : Option Value} {x4 : Option Value} (ho : c = 7 ∨ c = 22) (k1 : (I c 2) ≤ x2 → zEv X d zm_281 (68, [some (.ref c), some (.int x1), some (.int x2), x3, x4], [], (zS0, R, I, J)) r) (k2 : ¬ ((I c 2) ≤ x2) → zEv X d zm_281 (12, [some (.ref c), some (.int x1), some (.int x2), x3, x4], [], (zS0, R, I, J)) r) : zEv X d zm_281 (4, [some (.ref c), some (.int x1), some (.int x2), x3, x4], [], (zS0, R, I, J)) r := by
  rcases ho with rfl | rfl
  · refine zEv_k 4 (f' := (if (I 7 2) ≤ x2 then 68 else 12, [some (.ref 7), some (.int x1), some (.int x2), x3, x4], [], (zS0, R, I, J))) rfl ?_
    exact zEv_if k1 k2
  · refine zEv_k 4 (f' := (if (I 22 2) ≤ x2 then 68 else 12, [some (.ref 22), some (.int x1), some (.int x2), x3, x4], [], (zS0, R, I, J))) rfl ?_
    exact zEv_if k1 k2
theorem b_281_12 {X : zX} {d : Nat} {R : zR} {I : zI} {J : zJ} {r : zA} {c : Nat} {x1 : Int32} {x2 : Int32} {x3 : Option Value} {x4 : Option Value} (ho : c = 7 ∨ c = 22) (k1 : zEv X d zm_281 (19, [some (.ref c), some (.int x1), some (.int x2), some (.int ((1 : Int32) <<< (x2 &&& 31))), some (.int 1)], [], (zS0, R, I, J)) r) : zEv X d zm_281 (12, [some (.ref c), some (.int x1), some (.int x2), x3, x4], [], (zS0, R, I, J)) r := by
  rcases ho with rfl | rfl
  · refine zEv_k 6 (f' := (19, [some (.ref 7), some (.int x1), some (.int x2), some (.int ((1 : Int32) <<< (x2 &&& 31))), some (.int 1)], [], (zS0, R, I, J))) rfl ?_
    exact k1
  · refine zEv_k 6 (f' := (19, [some (.ref 22), some (.int x1), some (.int x2), some (.int ((1 : Int32) <<< (x2 &&& 31))), some (.int 1)], [], (zS0, R, I, J))) rfl ?_
    exact k1
theorem b_281_19 {X : zX} {d : Nat} {R : zR} {I : zI} {J : zJ} {r : zA} {c : Nat} {x1 : Int32} {x2 : Int32} {x3 : Int32} {x4 : Int32} (ho : c = 7 ∨ c = 22) (k1 : (I c 2) < x4 → zEv X d zm_281 (62, [some (.ref c), some (.int x1), some (.int x2), some (.int x3), some (.int x4)], [], (zS0, R, I, J)) r) (k2 : ¬ ((I c 2) < x4) → zEv X d zm_281 (28, [some (.ref c), some (.int x1), some (.int x2), some (.int x3), some (.int x4)], [], (zS0, R, I, J)) r) : zEv X d zm_281 (19, [some (.ref c), some (.int x1), some (.int x2), some (.int x3), some (.int x4)], [], (zS0, R, I, J)) r := by
  rcases ho with rfl | rfl
  · refine zEv_k 4 (f' := (if (I 7 2) < x4 then 62 else 28, [some (.ref 7), some (.int x1), some (.int x2), some (.int x3), some (.int x4)], [], (zS0, R, I, J))) rfl ?_
    exact zEv_if k1 k2
  · refine zEv_k 4 (f' := (if (I 22 2) < x4 then 62 else 28, [some (.ref 22), some (.int x1), some (.int x2), some (.int x3), some (.int x4)], [], (zS0, R, I, J))) rfl ?_
    exact zEv_if k1 k2
theorem b_281_28 {X : zX} {d : Nat} {R : zR} {I : zI} {J : zJ} {r : zA} {c : Nat} {x1 : Int32} {x2 : Int32} {x3 : Int32} {x4 : Int32} {w : Int32} {R' : zR} {I' : zI} {J' : zJ} (ho : c = 7 ∨ c = 22) (hc : zEv X d zm_282 (0, [some (.ref c), some (.int x3), none, none], [], (zS0, R, I, J)) (some (.int w), (zS0, R', I', J'))) (k1 : zEv X (d + 1) zm_281 (33, [some (.ref c), some (.int x1), some (.int x2), some (.int x3), some (.int x4)], [.int w], (zS0, R', I', J')) r) : zEv X (d + 1) zm_281 (28, [some (.ref c), some (.int x1), some (.int x2), some (.int x3), some (.int x4)], [], (zS0, R, I, J)) r := by
  rcases ho with rfl | rfl
  · refine zEv_k 2 (f' := (30, [some (.ref 7), some (.int x1), some (.int x2), some (.int x3), some (.int x4)], [.int x3, .ref 7], (zS0, R, I, J))) rfl ?_
    exact zEv_c (fun _ => rfl) rfl hc rfl rfl k1
  · refine zEv_k 2 (f' := (30, [some (.ref 22), some (.int x1), some (.int x2), some (.int x3), some (.int x4)], [.int x3, .ref 22], (zS0, R, I, J))) rfl ?_
    exact zEv_c (fun _ => rfl) rfl hc rfl rfl k1
theorem b_281_33 {X : zX} {d : Nat} {R : zR} {I : zI} {J : zJ} {r : zA} {c : Nat} {x1 : Int32} {x2 : Int32} {x3 : Int32} {x4 : Int32} {s0 : Int32} (ho : c = 7 ∨ c = 22) (k1 : (zf_cin s0 x2) = 0 → zEv X (d + 1) zm_281 (56, [some (.ref c), some (.int x1), some (.int x2), some (.int s0), some (.int x4)], [], (zS0, R, I, J)) r) (k2 : ¬ ((zf_cin s0 x2) = 0) → zEv X (d + 1) zm_281 (42, [some (.ref c), some (.int x1), some (.int x2), some (.int s0), some (.int x4)], [], (zS0, R, I, J)) r) : zEv X (d + 1) zm_281 (33, [some (.ref c), some (.int x1), some (.int x2), some (.int x3), some (.int x4)], [.int s0], (zS0, R, I, J)) r := by
  rcases ho with rfl | rfl
  · refine zEv_k 3 (f' := (36, [some (.ref 7), some (.int x1), some (.int x2), some (.int s0), some (.int x4)], [.int x2, .int s0], (zS0, R, I, J))) rfl ?_
    refine zEv_c (fun _ => rfl) rfl ev_zf_cin rfl rfl ?_
    refine zEv_k 1 (f' := (if (zf_cin s0 x2) = 0 then 56 else 42, [some (.ref 7), some (.int x1), some (.int x2), some (.int s0), some (.int x4)], [], (zS0, R, I, J))) rfl ?_
    exact zEv_if k1 k2
  · refine zEv_k 3 (f' := (36, [some (.ref 22), some (.int x1), some (.int x2), some (.int s0), some (.int x4)], [.int x2, .int s0], (zS0, R, I, J))) rfl ?_
    refine zEv_c (fun _ => rfl) rfl ev_zf_cin rfl rfl ?_
    refine zEv_k 1 (f' := (if (zf_cin s0 x2) = 0 then 56 else 42, [some (.ref 22), some (.int x1), some (.int x2), some (.int s0), some (.int x4)], [], (zS0, R, I, J))) rfl ?_
    exact zEv_if k1 k2
theorem b_281_42 {X : zX} {d : Nat} {R : zR} {I : zI} {J : zJ} {r : zA} {c : Nat} {x1 : Int32} {x2 : Int32} {x3 : Int32} {x4 : Int32} (ho : c = 7 ∨ c = 22) (k1 : x1 = (-1) → zEv X d zm_281 (53, [some (.ref c), some (.int x1), some (.int x2), some (.int x3), some (.int x4)], [], (zS0, R, I, J)) r) (k2 : ¬ (x1 = (-1)) → zEv X d zm_281 (47, [some (.ref c), some (.int x1), some (.int x2), some (.int x3), some (.int x4)], [], (zS0, R, I, J)) r) : zEv X d zm_281 (42, [some (.ref c), some (.int x1), some (.int x2), some (.int x3), some (.int x4)], [], (zS0, R, I, J)) r := by
  rcases ho with rfl | rfl
  · refine zEv_k 3 (f' := (if x1 = (-1) then 53 else 47, [some (.ref 7), some (.int x1), some (.int x2), some (.int x3), some (.int x4)], [], (zS0, R, I, J))) rfl ?_
    exact zEv_if k1 k2
  · refine zEv_k 3 (f' := (if x1 = (-1) then 53 else 47, [some (.ref 22), some (.int x1), some (.int x2), some (.int x3), some (.int x4)], [], (zS0, R, I, J))) rfl ?_
    exact zEv_if k1 k2
theorem b_281_47 {X : zX} {d : Nat} {R : zR} {I : zI} {J : zJ} {r : zA} {c : Nat} {x1 : Int32} {x2 : Int32} {x3 : Int32} {x4 : Int32} (ho : c = 7 ∨ c = 22) (k1 : x1 ≤ x4 → zEv X d zm_281 (56, [some (.ref c), some (.int x1), some (.int x2), some (.int x3), some (.int x4)], [], (zS0, R, I, J)) r) (k2 : ¬ (x1 ≤ x4) → zEv X d zm_281 (53, [some (.ref c), some (.int x1), some (.int x2), some (.int x3), some (.int x4)], [], (zS0, R, I, J)) r) : zEv X d zm_281 (47, [some (.ref c), some (.int x1), some (.int x2), some (.int x3), some (.int x4)], [], (zS0, R, I, J)) r := by
  rcases ho with rfl | rfl
  · refine zEv_k 3 (f' := (if x1 ≤ x4 then 56 else 53, [some (.ref 7), some (.int x1), some (.int x2), some (.int x3), some (.int x4)], [], (zS0, R, I, J))) rfl ?_
    exact zEv_if k1 k2
  · refine zEv_k 3 (f' := (if x1 ≤ x4 then 56 else 53, [some (.ref 22), some (.int x1), some (.int x2), some (.int x3), some (.int x4)], [], (zS0, R, I, J))) rfl ?_
    exact zEv_if k1 k2
theorem b_281_53 {X : zX} {d : Nat} {R : zR} {I : zI} {J : zJ} {r : zA} {c : Nat} {x1 : Int32} {x2 : Int32} {x3 : Int32} {x4 : Int32} (ho : c = 7 ∨ c = 22) (k1 : zEv X d zm_281 (56, [some (.ref c), some (.int x4), some (.int x2), some (.int x3), some (.int x4)], [], (zS0, R, I, J)) r) : zEv X d zm_281 (53, [some (.ref c), some (.int x1), some (.int x2), some (.int x3), some (.int x4)], [], (zS0, R, I, J)) r := by
  rcases ho with rfl | rfl
  · refine zEv_k 2 (f' := (56, [some (.ref 7), some (.int x4), some (.int x2), some (.int x3), some (.int x4)], [], (zS0, R, I, J))) rfl ?_
    exact k1
  · refine zEv_k 2 (f' := (56, [some (.ref 22), some (.int x4), some (.int x2), some (.int x3), some (.int x4)], [], (zS0, R, I, J))) rfl ?_
    exact k1
theorem b_281_56 {X : zX} {d : Nat} {R : zR} {I : zI} {J : zJ} {r : zA} {c : Nat} {x1 : Int32} {x2 : Int32} {x3 : Int32} {x4 : Int32} (ho : c = 7 ∨ c = 22) (k1 : zEv X d zm_281 (19, [some (.ref c), some (.int x1), some (.int x2), some (.int x3), some (.int (x4 + 1))], [], (zS0, R, I, J)) r) : zEv X d zm_281 (56, [some (.ref c), some (.int x1), some (.int x2), some (.int x3), some (.int x4)], [], (zS0, R, I, J)) r := by
  rcases ho with rfl | rfl
  · refine zEv_k 2 (f' := (19, [some (.ref 7), some (.int x1), some (.int x2), some (.int x3), some (.int (x4 + 1))], [], (zS0, R, I, J))) rfl ?_
    exact k1
  · refine zEv_k 2 (f' := (19, [some (.ref 22), some (.int x1), some (.int x2), some (.int x3), some (.int (x4 + 1))], [], (zS0, R, I, J))) rfl ?_
    exact k1
theorem b_281_62 {X : zX} {d : Nat} {R : zR} {I : zI} {J : zJ} {r : zA} {c : Nat} {x1 : Int32} {x2 : Int32} {x3 : Int32} {x4 : Int32} (ho : c = 7 ∨ c = 22) (k1 : zEv X d zm_281 (4, [some (.ref c), some (.int x1), some (.int (x2 + 1)), some (.int x3), some (.int x4)], [], (zS0, R, I, J)) r) : zEv X d zm_281 (62, [some (.ref c), some (.int x1), some (.int x2), some (.int x3), some (.int x4)], [], (zS0, R, I, J)) r := by
  rcases ho with rfl | rfl
  · refine zEv_k 2 (f' := (4, [some (.ref 7), some (.int x1), some (.int (x2 + 1)), some (.int x3), some (.int x4)], [], (zS0, R, I, J))) rfl ?_
    exact k1
  · refine zEv_k 2 (f' := (4, [some (.ref 22), some (.int x1), some (.int (x2 + 1)), some (.int x3), some (.int x4)], [], (zS0, R, I, J))) rfl ?_
    exact k1
theorem b_281_68 {X : zX} {d : Nat} {R : zR} {I : zI} {J : zJ} {c : Nat} {x1 : Int32} {x2 : Int32} {x3 : Option Value} {x4 : Option Value} (ho : c = 7 ∨ c = 22) : zEv X d zm_281 (68, [some (.ref c), some (.int x1), some (.int x2), x3, x4], [], (zS0, R, I, J)) (some (.int x1), (zS0, R, I, J)) := by
  rcases ho with rfl | rfl
  · refine zEv_k 1 (f' := (69, [some (.ref 7), some (.int x1), some (.int x2), x3, x4], [.int x1], (zS0, R, I, J))) rfl ?_
    exact zEv_r rfl
  · refine zEv_k 1 (f' := (69, [some (.ref 22), some (.int x1), some (.int x2), x3, x4], [.int x1], (zS0, R, I, J))) rfl ?_
    exact zEv_r rfl
theorem b_282_0 {X : zX} {d : Nat} {R : zR} {I : zI} {J : zJ} {r : zA} {c : Nat} {x1 : Int32} (ho : c = 7 ∨ c = 22) (k1 : zEv X d zm_282 (4, [some (.ref c), some (.int x1), some (.int 0), some (.int 0)], [], (zS0, R, I, J)) r) : zEv X d zm_282 (0, [some (.ref c), some (.int x1), none, none], [], (zS0, R, I, J)) r := by
  rcases ho with rfl | rfl
  · refine zEv_k 4 (f' := (4, [some (.ref 7), some (.int x1), some (.int 0), some (.int 0)], [], (zS0, R, I, J))) rfl ?_
    exact k1
  · refine zEv_k 4 (f' := (4, [some (.ref 22), some (.int x1), some (.int 0), some (.int 0)], [], (zS0, R, I, J))) rfl ?_
    exact k1
theorem b_282_4 {X : zX} {d : Nat} {R : zR} {I : zI} {J : zJ} {r : zA} {c : Nat} {x1 : Int32} {x2 : Int32} {x3 : Int32} (ho : c = 7 ∨ c = 22) (k1 : (I c 2) ≤ x3 → zEv X d zm_282 (35, [some (.ref c), some (.int x1), some (.int x2), some (.int x3)], [], (zS0, R, I, J)) r) (k2 : ¬ ((I c 2) ≤ x3) → zEv X d zm_282 (12, [some (.ref c), some (.int x1), some (.int x2), some (.int x3)], [], (zS0, R, I, J)) r) : zEv X d zm_282 (4, [some (.ref c), some (.int x1), some (.int x2), some (.int x3)], [], (zS0, R, I, J)) r := by
  rcases ho with rfl | rfl
  · refine zEv_k 4 (f' := (if (I 7 2) ≤ x3 then 35 else 12, [some (.ref 7), some (.int x1), some (.int x2), some (.int x3)], [], (zS0, R, I, J))) rfl ?_
    exact zEv_if k1 k2
  · refine zEv_k 4 (f' := (if (I 22 2) ≤ x3 then 35 else 12, [some (.ref 22), some (.int x1), some (.int x2), some (.int x3)], [], (zS0, R, I, J))) rfl ?_
    exact zEv_if k1 k2
theorem b_282_12 {X : zX} {d : Nat} {R : zR} {I : zI} {J : zJ} {r : zA} {c : Nat} {x1 : Int32} {x2 : Int32} {x3 : Int32} (ho : c = 7 ∨ c = 22) (k1 : (zf_cin x1 x3) = 0 → zEv X (d + 1) zm_282 (29, [some (.ref c), some (.int x1), some (.int x2), some (.int x3)], [], (zS0, R, I, J)) r) (k2 : ¬ ((zf_cin x1 x3) = 0) → zEv X (d + 1) zm_282 (20, [some (.ref c), some (.int x1), some (.int x2), some (.int x3)], [], (zS0, R, I, J)) r) : zEv X (d + 1) zm_282 (12, [some (.ref c), some (.int x1), some (.int x2), some (.int x3)], [], (zS0, R, I, J)) r := by
  rcases ho with rfl | rfl
  · refine zEv_k 2 (f' := (14, [some (.ref 7), some (.int x1), some (.int x2), some (.int x3)], [.int x3, .int x1], (zS0, R, I, J))) rfl ?_
    refine zEv_c (fun _ => rfl) rfl ev_zf_cin rfl rfl ?_
    refine zEv_k 1 (f' := (if (zf_cin x1 x3) = 0 then 29 else 20, [some (.ref 7), some (.int x1), some (.int x2), some (.int x3)], [], (zS0, R, I, J))) rfl ?_
    exact zEv_if k1 k2
  · refine zEv_k 2 (f' := (14, [some (.ref 22), some (.int x1), some (.int x2), some (.int x3)], [.int x3, .int x1], (zS0, R, I, J))) rfl ?_
    refine zEv_c (fun _ => rfl) rfl ev_zf_cin rfl rfl ?_
    refine zEv_k 1 (f' := (if (zf_cin x1 x3) = 0 then 29 else 20, [some (.ref 22), some (.int x1), some (.int x2), some (.int x3)], [], (zS0, R, I, J))) rfl ?_
    exact zEv_if k1 k2
theorem b_282_20 {X : zX} {d : Nat} {R : zR} {I : zI} {J : zJ} {r : zA} {c : Nat} {x1 : Int32} {x2 : Int32} {x3 : Int32} (hR : zRok R) (ho : c = 7 ∨ c = 22) (h26 : zin x3 7) (k1 : zEv X d zm_282 (29, [some (.ref c), some (.int x1), some (.int (x2 ||| (I (c + 7) (x3).toNatClampNeg))), some (.int x3)], [], (zS0, R, I, J)) r) : zEv X d zm_282 (20, [some (.ref c), some (.int x1), some (.int x2), some (.int x3)], [], (zS0, R, I, J)) r := by
  rcases ho with rfl | rfl
  · refine zEv_k 2 (f' := (22, [some (.ref 7), some (.int x1), some (.int x2), some (.int x3)], [.ref 7, .int x2], (zS0, R, I, J))) rfl ?_
    refine zEv_gr rfl rfl rfl (by decide) (hR (7) 9 (7 + 7) rfl) ?_
    refine zEv_k 1 (f' := (26, [some (.ref 7), some (.int x1), some (.int x2), some (.int x3)], [.int x3, .ref (7 + 7), .int x2], (zS0, R, I, J))) rfl ?_
    refine zEv_ial rfl rfl (by decide) h26 ?_
    refine zEv_k 2 (f' := (29, [some (.ref 7), some (.int x1), some (.int (x2 ||| (I (7 + 7) (x3).toNatClampNeg))), some (.int x3)], [], (zS0, R, I, J))) rfl ?_
    exact k1
  · refine zEv_k 2 (f' := (22, [some (.ref 22), some (.int x1), some (.int x2), some (.int x3)], [.ref 22, .int x2], (zS0, R, I, J))) rfl ?_
    refine zEv_gr rfl rfl rfl (by decide) (hR (22) 9 (22 + 7) rfl) ?_
    refine zEv_k 1 (f' := (26, [some (.ref 22), some (.int x1), some (.int x2), some (.int x3)], [.int x3, .ref (22 + 7), .int x2], (zS0, R, I, J))) rfl ?_
    refine zEv_ial rfl rfl (by decide) h26 ?_
    refine zEv_k 2 (f' := (29, [some (.ref 22), some (.int x1), some (.int (x2 ||| (I (22 + 7) (x3).toNatClampNeg))), some (.int x3)], [], (zS0, R, I, J))) rfl ?_
    exact k1
theorem b_282_29 {X : zX} {d : Nat} {R : zR} {I : zI} {J : zJ} {r : zA} {c : Nat} {x1 : Int32} {x2 : Int32} {x3 : Int32} (ho : c = 7 ∨ c = 22) (k1 : zEv X d zm_282 (4, [some (.ref c), some (.int x1), some (.int x2), some (.int (x3 + 1))], [], (zS0, R, I, J)) r) : zEv X d zm_282 (29, [some (.ref c), some (.int x1), some (.int x2), some (.int x3)], [], (zS0, R, I, J)) r := by
  rcases ho with rfl | rfl
  · refine zEv_k 2 (f' := (4, [some (.ref 7), some (.int x1), some (.int x2), some (.int (x3 + 1))], [], (zS0, R, I, J))) rfl ?_
    exact k1
  · refine zEv_k 2 (f' := (4, [some (.ref 22), some (.int x1), some (.int x2), some (.int (x3 + 1))], [], (zS0, R, I, J))) rfl ?_
    exact k1
theorem b_282_35 {X : zX} {d : Nat} {R : zR} {I : zI} {J : zJ} {c : Nat} {x1 : Int32} {x2 : Int32} {x3 : Int32} (ho : c = 7 ∨ c = 22) : zEv X d zm_282 (35, [some (.ref c), some (.int x1), some (.int x2), some (.int x3)], [], (zS0, R, I, J)) (some (.int x2), (zS0, R, I, J)) := by
  rcases ho with rfl | rfl
  · refine zEv_k 1 (f' := (36, [some (.ref 7), some (.int x1), some (.int x2), some (.int x3)], [.int x2], (zS0, R, I, J))) rfl ?_
    exact zEv_r rfl
  · refine zEv_k 1 (f' := (36, [some (.ref 22), some (.int x1), some (.int x2), some (.int x3)], [.int x2], (zS0, R, I, J))) rfl ?_
    exact zEv_r rfl
theorem b_283_0 {X : zX} {d : Nat} {R : zR} {I : zI} {J : zJ} {r : zA} {c : Nat} {x1 : Int32} (ho : c = 7 ∨ c = 22) (k1 : zEv X d zm_283 (4, [some (.ref c), some (.int x1), some (.int 0), some (.int 0), none], [], (zS0, R, I, J)) r) : zEv X d zm_283 (0, [some (.ref c), some (.int x1), none, none, none], [], (zS0, R, I, J)) r := by
  rcases ho with rfl | rfl
  · refine zEv_k 4 (f' := (4, [some (.ref 7), some (.int x1), some (.int 0), some (.int 0), none], [], (zS0, R, I, J))) rfl ?_
    exact k1
  · refine zEv_k 4 (f' := (4, [some (.ref 22), some (.int x1), some (.int 0), some (.int 0), none], [], (zS0, R, I, J))) rfl ?_
    exact k1
theorem b_283_4 {X : zX} {d : Nat} {R : zR} {I : zI} {J : zJ} {r : zA} {c : Nat} {x1 : Int32} {x2 : Int32} {x3 : Int32} {x4 : Option Value} (ho : c = 7 ∨ c = 22) (k1 : (I c 2) ≤ x3 → zEv X d zm_283 (65, [some (.ref c), some (.int x1), some (.int x2), some (.int x3), x4], [], (zS0, R, I, J)) r) (k2 : ¬ ((I c 2) ≤ x3) → zEv X d zm_283 (12, [some (.ref c), some (.int x1), some (.int x2), some (.int x3), x4], [], (zS0, R, I, J)) r) : zEv X d zm_283 (4, [some (.ref c), some (.int x1), some (.int x2), some (.int x3), x4], [], (zS0, R, I, J)) r := by
  rcases ho with rfl | rfl
  · refine zEv_k 4 (f' := (if (I 7 2) ≤ x3 then 65 else 12, [some (.ref 7), some (.int x1), some (.int x2), some (.int x3), x4], [], (zS0, R, I, J))) rfl ?_
    exact zEv_if k1 k2
  · refine zEv_k 4 (f' := (if (I 22 2) ≤ x3 then 65 else 12, [some (.ref 22), some (.int x1), some (.int x2), some (.int x3), x4], [], (zS0, R, I, J))) rfl ?_
    exact zEv_if k1 k2
theorem b_283_12 {X : zX} {d : Nat} {R : zR} {I : zI} {J : zJ} {r : zA} {c : Nat} {x1 : Int32} {x2 : Int32} {x3 : Int32} {x4 : Option Value} (ho : c = 7 ∨ c = 22) (k1 : x1 ≤ 0 → zEv X d zm_283 (65, [some (.ref c), some (.int x1), some (.int x2), some (.int x3), x4], [], (zS0, R, I, J)) r) (k2 : ¬ (x1 ≤ 0) → zEv X d zm_283 (16, [some (.ref c), some (.int x1), some (.int x2), some (.int x3), x4], [], (zS0, R, I, J)) r) : zEv X d zm_283 (12, [some (.ref c), some (.int x1), some (.int x2), some (.int x3), x4], [], (zS0, R, I, J)) r := by
  rcases ho with rfl | rfl
  · refine zEv_k 2 (f' := (if x1 ≤ 0 then 65 else 16, [some (.ref 7), some (.int x1), some (.int x2), some (.int x3), x4], [], (zS0, R, I, J))) rfl ?_
    exact zEv_if k1 k2
  · refine zEv_k 2 (f' := (if x1 ≤ 0 then 65 else 16, [some (.ref 22), some (.int x1), some (.int x2), some (.int x3), x4], [], (zS0, R, I, J))) rfl ?_
    exact zEv_if k1 k2
theorem b_283_16 {X : zX} {d : Nat} {R : zR} {I : zI} {J : zJ} {r : zA} {c : Nat} {x1 : Int32} {x2 : Int32} {x3 : Int32} {x4 : Option Value} (hR : zRok R) (ho : c = 7 ∨ c = 22) (h21 : zin x3 7) (h27 : zin x3 7) (h36 : zin x3 7) (k1 : (((I (c + 3) (x3).toNatClampNeg) + ((I (c + 4) (x3).toNatClampNeg) * x1)) - (I (c + 5) (x3).toNatClampNeg)) ≤ 5 → zEv X d zm_283 (48, [some (.ref c), some (.int x1), some (.int x2), some (.int x3), some (.int (((I (c + 3) (x3).toNatClampNeg) + ((I (c + 4) (x3).toNatClampNeg) * x1)) - (I (c + 5) (x3).toNatClampNeg)))], [], (zS0, R, I, J)) r) (k2 : ¬ ((((I (c + 3) (x3).toNatClampNeg) + ((I (c + 4) (x3).toNatClampNeg) * x1)) - (I (c + 5) (x3).toNatClampNeg)) ≤ 5) → zEv X d zm_283 (46, [some (.ref c), some (.int x1), some (.int x2), some (.int x3), some (.int (((I (c + 3) (x3).toNatClampNeg) + ((I (c + 4) (x3).toNatClampNeg) * x1)) - (I (c + 5) (x3).toNatClampNeg)))], [], (zS0, R, I, J)) r) : zEv X d zm_283 (16, [some (.ref c), some (.int x1), some (.int x2), some (.int x3), x4], [], (zS0, R, I, J)) r := by
  rcases ho with rfl | rfl
  · refine zEv_k 1 (f' := (17, [some (.ref 7), some (.int x1), some (.int x2), some (.int x3), x4], [.ref 7], (zS0, R, I, J))) rfl ?_
    refine zEv_gr rfl rfl rfl (by decide) (hR (7) 5 (7 + 3) rfl) ?_
    refine zEv_k 1 (f' := (21, [some (.ref 7), some (.int x1), some (.int x2), some (.int x3), x4], [.int x3, .ref (7 + 3)], (zS0, R, I, J))) rfl ?_
    refine zEv_ial rfl rfl (by decide) h21 ?_
    refine zEv_k 1 (f' := (23, [some (.ref 7), some (.int x1), some (.int x2), some (.int x3), x4], [.ref 7, .int (I (7 + 3) (x3).toNatClampNeg)], (zS0, R, I, J))) rfl ?_
    refine zEv_gr rfl rfl rfl (by decide) (hR (7) 6 (7 + 4) rfl) ?_
    refine zEv_k 1 (f' := (27, [some (.ref 7), some (.int x1), some (.int x2), some (.int x3), x4], [.int x3, .ref (7 + 4), .int (I (7 + 3) (x3).toNatClampNeg)], (zS0, R, I, J))) rfl ?_
    refine zEv_ial rfl rfl (by decide) h27 ?_
    refine zEv_k 4 (f' := (32, [some (.ref 7), some (.int x1), some (.int x2), some (.int x3), x4], [.ref 7, .int ((I (7 + 3) (x3).toNatClampNeg) + ((I (7 + 4) (x3).toNatClampNeg) * x1))], (zS0, R, I, J))) rfl ?_
    refine zEv_gr rfl rfl rfl (by decide) (hR (7) 7 (7 + 5) rfl) ?_
    refine zEv_k 1 (f' := (36, [some (.ref 7), some (.int x1), some (.int x2), some (.int x3), x4], [.int x3, .ref (7 + 5), .int ((I (7 + 3) (x3).toNatClampNeg) + ((I (7 + 4) (x3).toNatClampNeg) * x1))], (zS0, R, I, J))) rfl ?_
    refine zEv_ial rfl rfl (by decide) h36 ?_
    refine zEv_k 5 (f' := (if (((I (7 + 3) (x3).toNatClampNeg) + ((I (7 + 4) (x3).toNatClampNeg) * x1)) - (I (7 + 5) (x3).toNatClampNeg)) ≤ 5 then 48 else 46, [some (.ref 7), some (.int x1), some (.int x2), some (.int x3), some (.int (((I (7 + 3) (x3).toNatClampNeg) + ((I (7 + 4) (x3).toNatClampNeg) * x1)) - (I (7 + 5) (x3).toNatClampNeg)))], [], (zS0, R, I, J))) rfl ?_
    exact zEv_if k1 k2
  · refine zEv_k 1 (f' := (17, [some (.ref 22), some (.int x1), some (.int x2), some (.int x3), x4], [.ref 22], (zS0, R, I, J))) rfl ?_
    refine zEv_gr rfl rfl rfl (by decide) (hR (22) 5 (22 + 3) rfl) ?_
    refine zEv_k 1 (f' := (21, [some (.ref 22), some (.int x1), some (.int x2), some (.int x3), x4], [.int x3, .ref (22 + 3)], (zS0, R, I, J))) rfl ?_
    refine zEv_ial rfl rfl (by decide) h21 ?_
    refine zEv_k 1 (f' := (23, [some (.ref 22), some (.int x1), some (.int x2), some (.int x3), x4], [.ref 22, .int (I (22 + 3) (x3).toNatClampNeg)], (zS0, R, I, J))) rfl ?_
    refine zEv_gr rfl rfl rfl (by decide) (hR (22) 6 (22 + 4) rfl) ?_
    refine zEv_k 1 (f' := (27, [some (.ref 22), some (.int x1), some (.int x2), some (.int x3), x4], [.int x3, .ref (22 + 4), .int (I (22 + 3) (x3).toNatClampNeg)], (zS0, R, I, J))) rfl ?_
    refine zEv_ial rfl rfl (by decide) h27 ?_
    refine zEv_k 4 (f' := (32, [some (.ref 22), some (.int x1), some (.int x2), some (.int x3), x4], [.ref 22, .int ((I (22 + 3) (x3).toNatClampNeg) + ((I (22 + 4) (x3).toNatClampNeg) * x1))], (zS0, R, I, J))) rfl ?_
    refine zEv_gr rfl rfl rfl (by decide) (hR (22) 7 (22 + 5) rfl) ?_
    refine zEv_k 1 (f' := (36, [some (.ref 22), some (.int x1), some (.int x2), some (.int x3), x4], [.int x3, .ref (22 + 5), .int ((I (22 + 3) (x3).toNatClampNeg) + ((I (22 + 4) (x3).toNatClampNeg) * x1))], (zS0, R, I, J))) rfl ?_
    refine zEv_ial rfl rfl (by decide) h36 ?_
    refine zEv_k 5 (f' := (if (((I (22 + 3) (x3).toNatClampNeg) + ((I (22 + 4) (x3).toNatClampNeg) * x1)) - (I (22 + 5) (x3).toNatClampNeg)) ≤ 5 then 48 else 46, [some (.ref 22), some (.int x1), some (.int x2), some (.int x3), some (.int (((I (22 + 3) (x3).toNatClampNeg) + ((I (22 + 4) (x3).toNatClampNeg) * x1)) - (I (22 + 5) (x3).toNatClampNeg)))], [], (zS0, R, I, J))) rfl ?_
    exact zEv_if k1 k2
theorem b_283_46 {X : zX} {d : Nat} {R : zR} {I : zI} {J : zJ} {c : Nat} {x1 : Int32} {x2 : Int32} {x3 : Int32} {x4 : Int32} (ho : c = 7 ∨ c = 22) : zEv X d zm_283 (46, [some (.ref c), some (.int x1), some (.int x2), some (.int x3), some (.int x4)], [], (zS0, R, I, J)) (some (.int (-1)), (zS0, R, I, J)) := by
  rcases ho with rfl | rfl
  · refine zEv_k 1 (f' := (47, [some (.ref 7), some (.int x1), some (.int x2), some (.int x3), some (.int x4)], [.int (-1)], (zS0, R, I, J))) rfl ?_
    exact zEv_r rfl
  · refine zEv_k 1 (f' := (47, [some (.ref 22), some (.int x1), some (.int x2), some (.int x3), some (.int x4)], [.int (-1)], (zS0, R, I, J))) rfl ?_
    exact zEv_r rfl
theorem b_283_48 {X : zX} {d : Nat} {R : zR} {I : zI} {J : zJ} {r : zA} {c : Nat} {x1 : Int32} {x2 : Int32} {x3 : Int32} {x4 : Int32} (ho : c = 7 ∨ c = 22) (k1 : x4 ≤ 0 → zEv X d zm_283 (59, [some (.ref c), some (.int x1), some (.int x2), some (.int x3), some (.int x4)], [], (zS0, R, I, J)) r) (k2 : ¬ (x4 ≤ 0) → zEv X d zm_283 (53, [some (.ref c), some (.int x1), some (.int x2), some (.int x3), some (.int x4)], [], (zS0, R, I, J)) r) : zEv X d zm_283 (48, [some (.ref c), some (.int x1), some (.int x2), some (.int x3), some (.int x4)], [], (zS0, R, I, J)) r := by
  rcases ho with rfl | rfl
  · refine zEv_k 2 (f' := (if x4 ≤ 0 then 59 else 53, [some (.ref 7), some (.int x1), some (.int x2), some (.int x3), some (.int x4)], [], (zS0, R, I, J))) rfl ?_
    exact zEv_if k1 k2
  · refine zEv_k 2 (f' := (if x4 ≤ 0 then 59 else 53, [some (.ref 22), some (.int x1), some (.int x2), some (.int x3), some (.int x4)], [], (zS0, R, I, J))) rfl ?_
    exact zEv_if k1 k2
theorem b_283_53 {X : zX} {d : Nat} {R : zR} {I : zI} {J : zJ} {r : zA} {c : Nat} {x1 : Int32} {x2 : Int32} {x3 : Int32} {x4 : Int32} (ho : c = 7 ∨ c = 22) (k1 : zEv X d zm_283 (59, [some (.ref c), some (.int x1), some (.int (x2 ||| ((1 : Int32) <<< (x3 &&& 31)))), some (.int x3), some (.int x4)], [], (zS0, R, I, J)) r) : zEv X d zm_283 (53, [some (.ref c), some (.int x1), some (.int x2), some (.int x3), some (.int x4)], [], (zS0, R, I, J)) r := by
  rcases ho with rfl | rfl
  · refine zEv_k 6 (f' := (59, [some (.ref 7), some (.int x1), some (.int (x2 ||| ((1 : Int32) <<< (x3 &&& 31)))), some (.int x3), some (.int x4)], [], (zS0, R, I, J))) rfl ?_
    exact k1
  · refine zEv_k 6 (f' := (59, [some (.ref 22), some (.int x1), some (.int (x2 ||| ((1 : Int32) <<< (x3 &&& 31)))), some (.int x3), some (.int x4)], [], (zS0, R, I, J))) rfl ?_
    exact k1
theorem b_283_59 {X : zX} {d : Nat} {R : zR} {I : zI} {J : zJ} {r : zA} {c : Nat} {x1 : Int32} {x2 : Int32} {x3 : Int32} {x4 : Int32} (ho : c = 7 ∨ c = 22) (k1 : zEv X d zm_283 (4, [some (.ref c), some (.int x1), some (.int x2), some (.int (x3 + 1)), some (.int x4)], [], (zS0, R, I, J)) r) : zEv X d zm_283 (59, [some (.ref c), some (.int x1), some (.int x2), some (.int x3), some (.int x4)], [], (zS0, R, I, J)) r := by
  rcases ho with rfl | rfl
  · refine zEv_k 2 (f' := (4, [some (.ref 7), some (.int x1), some (.int x2), some (.int (x3 + 1)), some (.int x4)], [], (zS0, R, I, J))) rfl ?_
    exact k1
  · refine zEv_k 2 (f' := (4, [some (.ref 22), some (.int x1), some (.int x2), some (.int (x3 + 1)), some (.int x4)], [], (zS0, R, I, J))) rfl ?_
    exact k1
theorem b_283_65 {X : zX} {d : Nat} {R : zR} {I : zI} {J : zJ} {c : Nat} {x1 : Int32} {x2 : Int32} {x3 : Int32} {x4 : Option Value} (ho : c = 7 ∨ c = 22) : zEv X d zm_283 (65, [some (.ref c), some (.int x1), some (.int x2), some (.int x3), x4], [], (zS0, R, I, J)) (some (.int x2), (zS0, R, I, J)) := by
  rcases ho with rfl | rfl
  · refine zEv_k 1 (f' := (66, [some (.ref 7), some (.int x1), some (.int x2), some (.int x3), x4], [.int x2], (zS0, R, I, J))) rfl ?_
    exact zEv_r rfl
  · refine zEv_k 1 (f' := (66, [some (.ref 22), some (.int x1), some (.int x2), some (.int x3), x4], [.int x2], (zS0, R, I, J))) rfl ?_
    exact zEv_r rfl
theorem b_284_0 {X : zX} {d : Nat} {R : zR} {I : zI} {J : zJ} {r : zA} {c : Nat} {x1 : Int32} (ho : c = 7 ∨ c = 22) (k1 : zEv X d zm_284 (7, [some (.ref c), some (.int x1), some (.int (-1)), some (.int (-1)), some (.int 0), none], [], (zS0, R, I, J)) r) : zEv X d zm_284 (0, [some (.ref c), some (.int x1), none, none, none, none], [], (zS0, R, I, J)) r := by
  rcases ho with rfl | rfl
  · refine zEv_k 6 (f' := (7, [some (.ref 7), some (.int x1), some (.int (-1)), some (.int (-1)), some (.int 0), none], [], (zS0, R, I, J))) rfl ?_
    exact k1
  · refine zEv_k 6 (f' := (7, [some (.ref 22), some (.int x1), some (.int (-1)), some (.int (-1)), some (.int 0), none], [], (zS0, R, I, J))) rfl ?_
    exact k1
theorem b_284_7 {X : zX} {d : Nat} {R : zR} {I : zI} {J : zJ} {r : zA} {c : Nat} {x1 : Int32} {x2 : Int32} {x3 : Int32} {x4 : Int32} {x5 : Option Value} {w : Int32} {R' : zR} {I' : zI} {J' : zJ} (ho : c = 7 ∨ c = 22) (hc : zEv X d zm_7 (0, [some (.ref c)], [], (zS0, R, I, J)) (some (.int w), (zS0, R', I', J'))) (k1 : zEv X (d + 1) zm_284 (13, [some (.ref c), some (.int x1), some (.int x2), some (.int x3), some (.int x4), x5], [.int w, .int x4], (zS0, R', I', J')) r) : zEv X (d + 1) zm_284 (7, [some (.ref c), some (.int x1), some (.int x2), some (.int x3), some (.int x4), x5], [], (zS0, R, I, J)) r := by
  rcases ho with rfl | rfl
  · refine zEv_k 2 (f' := (10, [some (.ref 7), some (.int x1), some (.int x2), some (.int x3), some (.int x4), x5], [.ref 7, .int x4], (zS0, R, I, J))) rfl ?_
    exact zEv_c (fun _ => rfl) rfl hc rfl rfl k1
  · refine zEv_k 2 (f' := (10, [some (.ref 22), some (.int x1), some (.int x2), some (.int x3), some (.int x4), x5], [.ref 22, .int x4], (zS0, R, I, J))) rfl ?_
    exact zEv_c (fun _ => rfl) rfl hc rfl rfl k1
theorem b_284_13 {X : zX} {d : Nat} {R : zR} {I : zI} {J : zJ} {r : zA} {c : Nat} {x1 : Int32} {x2 : Int32} {x3 : Int32} {x4 : Int32} {x5 : Option Value} {s0 : Int32} {s1 : Int32} (ho : c = 7 ∨ c = 22) (k1 : s1 < s0 → zEv X d zm_284 (75, [some (.ref c), some (.int x1), some (.int x2), some (.int x3), some (.int x4), x5], [], (zS0, R, I, J)) r) (k2 : ¬ (s1 < s0) → zEv X d zm_284 (16, [some (.ref c), some (.int x1), some (.int x2), some (.int x3), some (.int x4), x5], [], (zS0, R, I, J)) r) : zEv X d zm_284 (13, [some (.ref c), some (.int x1), some (.int x2), some (.int x3), some (.int x4), x5], [.int s1, .int s0], (zS0, R, I, J)) r := by
  rcases ho with rfl | rfl
  · refine zEv_k 1 (f' := (if s1 < s0 then 75 else 16, [some (.ref 7), some (.int x1), some (.int x2), some (.int x3), some (.int x4), x5], [], (zS0, R, I, J))) rfl ?_
    exact zEv_if k1 k2
  · refine zEv_k 1 (f' := (if s1 < s0 then 75 else 16, [some (.ref 22), some (.int x1), some (.int x2), some (.int x3), some (.int x4), x5], [], (zS0, R, I, J))) rfl ?_
    exact zEv_if k1 k2
theorem b_284_16 {X : zX} {d : Nat} {R : zR} {I : zI} {J : zJ} {r : zA} {c : Nat} {x1 : Int32} {x2 : Int32} {x3 : Int32} {x4 : Int32} {x5 : Option Value} {w : Int32} {R' : zR} {I' : zI} {J' : zJ} (ho : c = 7 ∨ c = 22) (hc : zEv X d zm_286 (0, [some (.int x4)], [], (zS0, R, I, J)) (some (.int w), (zS0, R', I', J'))) (k1 : zEv X (d + 1) zm_284 (21, [some (.ref c), some (.int x1), some (.int x2), some (.int x3), some (.int x4), x5], [.int w], (zS0, R', I', J')) r) : zEv X (d + 1) zm_284 (16, [some (.ref c), some (.int x1), some (.int x2), some (.int x3), some (.int x4), x5], [], (zS0, R, I, J)) r := by
  rcases ho with rfl | rfl
  · refine zEv_k 1 (f' := (18, [some (.ref 7), some (.int x1), some (.int x2), some (.int x3), some (.int x4), x5], [.int x4], (zS0, R, I, J))) rfl ?_
    exact zEv_c (fun _ => rfl) rfl hc rfl rfl k1
  · refine zEv_k 1 (f' := (18, [some (.ref 22), some (.int x1), some (.int x2), some (.int x3), some (.int x4), x5], [.int x4], (zS0, R, I, J))) rfl ?_
    exact zEv_c (fun _ => rfl) rfl hc rfl rfl k1
theorem b_284_21 {X : zX} {d : Nat} {R : zR} {I : zI} {J : zJ} {r : zA} {c : Nat} {x1 : Int32} {x2 : Int32} {x3 : Int32} {x4 : Int32} {x5 : Option Value} {s0 : Int32} (ho : c = 7 ∨ c = 22) (k1 : ¬ s0 = x1 → zEv X d zm_284 (41, [some (.ref c), some (.int x1), some (.int x2), some (.int x3), some (.int x4), x5], [], (zS0, R, I, J)) r) (k2 : ¬ (¬ s0 = x1) → zEv X d zm_284 (25, [some (.ref c), some (.int x1), some (.int x2), some (.int x3), some (.int x4), x5], [], (zS0, R, I, J)) r) : zEv X d zm_284 (21, [some (.ref c), some (.int x1), some (.int x2), some (.int x3), some (.int x4), x5], [.int s0], (zS0, R, I, J)) r := by
  rcases ho with rfl | rfl
  · refine zEv_k 2 (f' := (if ¬ s0 = x1 then 41 else 25, [some (.ref 7), some (.int x1), some (.int x2), some (.int x3), some (.int x4), x5], [], (zS0, R, I, J))) rfl ?_
    exact zEv_if k1 k2
  · refine zEv_k 2 (f' := (if ¬ s0 = x1 then 41 else 25, [some (.ref 22), some (.int x1), some (.int x2), some (.int x3), some (.int x4), x5], [], (zS0, R, I, J))) rfl ?_
    exact zEv_if k1 k2
theorem b_284_25 {X : zX} {d : Nat} {R : zR} {I : zI} {J : zJ} {r : zA} {c : Nat} {x1 : Int32} {x2 : Int32} {x3 : Int32} {x4 : Int32} {x5 : Option Value} {w : Int32} {R' : zR} {I' : zI} {J' : zJ} (ho : c = 7 ∨ c = 22) (hc : zEv X d zm_282 (0, [some (.ref c), some (.int x4), none, none], [], (zS0, R, I, J)) (some (.int w), (zS0, R', I', J'))) (k1 : zEv X (d + 1) zm_284 (31, [some (.ref c), some (.int x1), some (.int x2), some (.int x3), some (.int x4), x5], [.int w], (zS0, R', I', J')) r) : zEv X (d + 1) zm_284 (25, [some (.ref c), some (.int x1), some (.int x2), some (.int x3), some (.int x4), x5], [], (zS0, R, I, J)) r := by
  rcases ho with rfl | rfl
  · refine zEv_k 2 (f' := (28, [some (.ref 7), some (.int x1), some (.int x2), some (.int x3), some (.int x4), x5], [.int x4, .ref 7], (zS0, R, I, J))) rfl ?_
    exact zEv_c (fun _ => rfl) rfl hc rfl rfl k1
  · refine zEv_k 2 (f' := (28, [some (.ref 22), some (.int x1), some (.int x2), some (.int x3), some (.int x4), x5], [.int x4, .ref 22], (zS0, R, I, J))) rfl ?_
    exact zEv_c (fun _ => rfl) rfl hc rfl rfl k1
theorem b_284_31 {X : zX} {d : Nat} {R : zR} {I : zI} {J : zJ} {r : zA} {c : Nat} {x1 : Int32} {x2 : Int32} {x3 : Int32} {x4 : Int32} {x5 : Option Value} {s0 : Int32} (ho : c = 7 ∨ c = 22) (k1 : ¬ (s0 &&& x4) = 0 → zEv X d zm_284 (41, [some (.ref c), some (.int x1), some (.int x2), some (.int x3), some (.int x4), x5], [], (zS0, R, I, J)) r) (k2 : ¬ (¬ (s0 &&& x4) = 0) → zEv X d zm_284 (37, [some (.ref c), some (.int x1), some (.int x2), some (.int x3), some (.int x4), x5], [], (zS0, R, I, J)) r) : zEv X d zm_284 (31, [some (.ref c), some (.int x1), some (.int x2), some (.int x3), some (.int x4), x5], [.int s0], (zS0, R, I, J)) r := by
  rcases ho with rfl | rfl
  · refine zEv_k 3 (f' := (if ¬ (s0 &&& x4) = 0 then 41 else 37, [some (.ref 7), some (.int x1), some (.int x2), some (.int x3), some (.int x4), x5], [], (zS0, R, I, J))) rfl ?_
    exact zEv_if k1 k2
  · refine zEv_k 3 (f' := (if ¬ (s0 &&& x4) = 0 then 41 else 37, [some (.ref 22), some (.int x1), some (.int x2), some (.int x3), some (.int x4), x5], [], (zS0, R, I, J))) rfl ?_
    exact zEv_if k1 k2
theorem b_284_37 {X : zX} {d : Nat} {R : zR} {I : zI} {J : zJ} {r : zA} {c : Nat} {x1 : Int32} {x2 : Int32} {x3 : Int32} {x4 : Int32} {x5 : Option Value} (ho : c = 7 ∨ c = 22) (k1 : zEv X d zm_284 (42, [some (.ref c), some (.int x1), some (.int x2), some (.int x3), some (.int x4), x5], [.int 1], (zS0, R, I, J)) r) : zEv X d zm_284 (37, [some (.ref c), some (.int x1), some (.int x2), some (.int x3), some (.int x4), x5], [], (zS0, R, I, J)) r := by
  rcases ho with rfl | rfl
  · refine zEv_k 2 (f' := (42, [some (.ref 7), some (.int x1), some (.int x2), some (.int x3), some (.int x4), x5], [.int 1], (zS0, R, I, J))) rfl ?_
    exact k1
  · refine zEv_k 2 (f' := (42, [some (.ref 22), some (.int x1), some (.int x2), some (.int x3), some (.int x4), x5], [.int 1], (zS0, R, I, J))) rfl ?_
    exact k1
theorem b_284_41 {X : zX} {d : Nat} {R : zR} {I : zI} {J : zJ} {r : zA} {c : Nat} {x1 : Int32} {x2 : Int32} {x3 : Int32} {x4 : Int32} {x5 : Option Value} (ho : c = 7 ∨ c = 22) (k1 : zEv X d zm_284 (42, [some (.ref c), some (.int x1), some (.int x2), some (.int x3), some (.int x4), x5], [.int 0], (zS0, R, I, J)) r) : zEv X d zm_284 (41, [some (.ref c), some (.int x1), some (.int x2), some (.int x3), some (.int x4), x5], [], (zS0, R, I, J)) r := by
  rcases ho with rfl | rfl
  · refine zEv_k 1 (f' := (42, [some (.ref 7), some (.int x1), some (.int x2), some (.int x3), some (.int x4), x5], [.int 0], (zS0, R, I, J))) rfl ?_
    exact k1
  · refine zEv_k 1 (f' := (42, [some (.ref 22), some (.int x1), some (.int x2), some (.int x3), some (.int x4), x5], [.int 0], (zS0, R, I, J))) rfl ?_
    exact k1
theorem b_284_42 {X : zX} {d : Nat} {R : zR} {I : zI} {J : zJ} {r : zA} {c : Nat} {x1 : Int32} {x2 : Int32} {x3 : Int32} {x4 : Int32} {x5 : Option Value} {s0 : Int32} (ho : c = 7 ∨ c = 22) (k1 : s0 = 0 → zEv X d zm_284 (69, [some (.ref c), some (.int x1), some (.int x2), some (.int x3), some (.int x4), some (.int s0)], [], (zS0, R, I, J)) r) (k2 : ¬ (s0 = 0) → zEv X d zm_284 (49, [some (.ref c), some (.int x1), some (.int x2), some (.int x3), some (.int x4), some (.int s0)], [], (zS0, R, I, J)) r) : zEv X d zm_284 (42, [some (.ref c), some (.int x1), some (.int x2), some (.int x3), some (.int x4), x5], [.int s0], (zS0, R, I, J)) r := by
  rcases ho with rfl | rfl
  · refine zEv_k 3 (f' := (if s0 = 0 then 69 else 49, [some (.ref 7), some (.int x1), some (.int x2), some (.int x3), some (.int x4), some (.int s0)], [], (zS0, R, I, J))) rfl ?_
    exact zEv_if k1 k2
  · refine zEv_k 3 (f' := (if s0 = 0 then 69 else 49, [some (.ref 22), some (.int x1), some (.int x2), some (.int x3), some (.int x4), some (.int s0)], [], (zS0, R, I, J))) rfl ?_
    exact zEv_if k1 k2
theorem b_284_49 {X : zX} {d : Nat} {R : zR} {I : zI} {J : zJ} {r : zA} {c : Nat} {x1 : Int32} {x2 : Int32} {x3 : Int32} {x4 : Int32} {x5 : Int32} {w : Int32} {R' : zR} {I' : zI} {J' : zJ} (ho : c = 7 ∨ c = 22) (hc : zEv X d zm_273 (0, [some (.ref c), some (.int x4), none, none], [], (zS0, R, I, J)) (some (.int w), (zS0, R', I', J'))) (k1 : zEv X (d + 1) zm_284 (55, [some (.ref c), some (.int x1), some (.int x2), some (.int x3), some (.int x4), some (.int x5)], [.int w], (zS0, R', I', J')) r) : zEv X (d + 1) zm_284 (49, [some (.ref c), some (.int x1), some (.int x2), some (.int x3), some (.int x4), some (.int x5)], [], (zS0, R, I, J)) r := by
  rcases ho with rfl | rfl
  · refine zEv_k 2 (f' := (52, [some (.ref 7), some (.int x1), some (.int x2), some (.int x3), some (.int x4), some (.int x5)], [.int x4, .ref 7], (zS0, R, I, J))) rfl ?_
    exact zEv_c (fun _ => rfl) rfl hc rfl rfl k1
  · refine zEv_k 2 (f' := (52, [some (.ref 22), some (.int x1), some (.int x2), some (.int x3), some (.int x4), some (.int x5)], [.int x4, .ref 22], (zS0, R, I, J))) rfl ?_
    exact zEv_c (fun _ => rfl) rfl hc rfl rfl k1
theorem b_284_55 {X : zX} {d : Nat} {R : zR} {I : zI} {J : zJ} {r : zA} {c : Nat} {x1 : Int32} {x2 : Int32} {x3 : Int32} {x4 : Int32} {x5 : Int32} {s0 : Int32} (ho : c = 7 ∨ c = 22) (k1 : s0 ≤ x3 → zEv X d zm_284 (69, [some (.ref c), some (.int x1), some (.int x2), some (.int x3), some (.int x4), some (.int x5)], [], (zS0, R, I, J)) r) (k2 : ¬ (s0 ≤ x3) → zEv X d zm_284 (59, [some (.ref c), some (.int x1), some (.int x2), some (.int x3), some (.int x4), some (.int x5)], [], (zS0, R, I, J)) r) : zEv X d zm_284 (55, [some (.ref c), some (.int x1), some (.int x2), some (.int x3), some (.int x4), some (.int x5)], [.int s0], (zS0, R, I, J)) r := by
  rcases ho with rfl | rfl
  · refine zEv_k 2 (f' := (if s0 ≤ x3 then 69 else 59, [some (.ref 7), some (.int x1), some (.int x2), some (.int x3), some (.int x4), some (.int x5)], [], (zS0, R, I, J))) rfl ?_
    exact zEv_if k1 k2
  · refine zEv_k 2 (f' := (if s0 ≤ x3 then 69 else 59, [some (.ref 22), some (.int x1), some (.int x2), some (.int x3), some (.int x4), some (.int x5)], [], (zS0, R, I, J))) rfl ?_
    exact zEv_if k1 k2
theorem b_284_59 {X : zX} {d : Nat} {R : zR} {I : zI} {J : zJ} {r : zA} {c : Nat} {x1 : Int32} {x2 : Int32} {x3 : Int32} {x4 : Int32} {x5 : Int32} {w : Int32} {R' : zR} {I' : zI} {J' : zJ} (ho : c = 7 ∨ c = 22) (hc : zEv X d zm_273 (0, [some (.ref c), some (.int x4), none, none], [], (zS0, R, I, J)) (some (.int w), (zS0, R', I', J'))) (k1 : zEv X (d + 1) zm_284 (65, [some (.ref c), some (.int x1), some (.int x2), some (.int x3), some (.int x4), some (.int x5)], [.int w], (zS0, R', I', J')) r) : zEv X (d + 1) zm_284 (59, [some (.ref c), some (.int x1), some (.int x2), some (.int x3), some (.int x4), some (.int x5)], [], (zS0, R, I, J)) r := by
  rcases ho with rfl | rfl
  · refine zEv_k 2 (f' := (62, [some (.ref 7), some (.int x1), some (.int x2), some (.int x3), some (.int x4), some (.int x5)], [.int x4, .ref 7], (zS0, R, I, J))) rfl ?_
    exact zEv_c (fun _ => rfl) rfl hc rfl rfl k1
  · refine zEv_k 2 (f' := (62, [some (.ref 22), some (.int x1), some (.int x2), some (.int x3), some (.int x4), some (.int x5)], [.int x4, .ref 22], (zS0, R, I, J))) rfl ?_
    exact zEv_c (fun _ => rfl) rfl hc rfl rfl k1
theorem b_284_65 {X : zX} {d : Nat} {R : zR} {I : zI} {J : zJ} {r : zA} {c : Nat} {x1 : Int32} {x2 : Int32} {x3 : Int32} {x4 : Int32} {x5 : Int32} {s0 : Int32} (ho : c = 7 ∨ c = 22) (k1 : zEv X d zm_284 (69, [some (.ref c), some (.int x1), some (.int x4), some (.int s0), some (.int x4), some (.int x5)], [], (zS0, R, I, J)) r) : zEv X d zm_284 (65, [some (.ref c), some (.int x1), some (.int x2), some (.int x3), some (.int x4), some (.int x5)], [.int s0], (zS0, R, I, J)) r := by
  rcases ho with rfl | rfl
  · refine zEv_k 3 (f' := (69, [some (.ref 7), some (.int x1), some (.int x4), some (.int s0), some (.int x4), some (.int x5)], [], (zS0, R, I, J))) rfl ?_
    exact k1
  · refine zEv_k 3 (f' := (69, [some (.ref 22), some (.int x1), some (.int x4), some (.int s0), some (.int x4), some (.int x5)], [], (zS0, R, I, J))) rfl ?_
    exact k1
theorem b_284_69 {X : zX} {d : Nat} {R : zR} {I : zI} {J : zJ} {r : zA} {c : Nat} {x1 : Int32} {x2 : Int32} {x3 : Int32} {x4 : Int32} {x5 : Int32} (ho : c = 7 ∨ c = 22) (k1 : zEv X d zm_284 (7, [some (.ref c), some (.int x1), some (.int x2), some (.int x3), some (.int (x4 + 1)), some (.int x5)], [], (zS0, R, I, J)) r) : zEv X d zm_284 (69, [some (.ref c), some (.int x1), some (.int x2), some (.int x3), some (.int x4), some (.int x5)], [], (zS0, R, I, J)) r := by
  rcases ho with rfl | rfl
  · refine zEv_k 2 (f' := (7, [some (.ref 7), some (.int x1), some (.int x2), some (.int x3), some (.int (x4 + 1)), some (.int x5)], [], (zS0, R, I, J))) rfl ?_
    exact k1
  · refine zEv_k 2 (f' := (7, [some (.ref 22), some (.int x1), some (.int x2), some (.int x3), some (.int (x4 + 1)), some (.int x5)], [], (zS0, R, I, J))) rfl ?_
    exact k1
theorem b_284_75 {X : zX} {d : Nat} {R : zR} {I : zI} {J : zJ} {c : Nat} {x1 : Int32} {x2 : Int32} {x3 : Int32} {x4 : Int32} {x5 : Option Value} (ho : c = 7 ∨ c = 22) : zEv X d zm_284 (75, [some (.ref c), some (.int x1), some (.int x2), some (.int x3), some (.int x4), x5], [], (zS0, R, I, J)) (some (.int x2), (zS0, R, I, J)) := by
  rcases ho with rfl | rfl
  · refine zEv_k 1 (f' := (76, [some (.ref 7), some (.int x1), some (.int x2), some (.int x3), some (.int x4), x5], [.int x2], (zS0, R, I, J))) rfl ?_
    exact zEv_r rfl
  · refine zEv_k 1 (f' := (76, [some (.ref 22), some (.int x1), some (.int x2), some (.int x3), some (.int x4), x5], [.int x2], (zS0, R, I, J))) rfl ?_
    exact zEv_r rfl
