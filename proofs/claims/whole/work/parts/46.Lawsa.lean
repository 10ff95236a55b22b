theorem b_15_0 {X : zX} {d : Nat} {R : zR} {I : zI} {J : zJ} {r : zA} (k1 : zEv X d zm_15 (2, [some (.ref 196), some (.int 0)], [], (zS0, R, I, J)) r) : zEv X d zm_15 (0, [some (.ref 196), none], [], (zS0, R, I, J)) r := by
  refine zEv_k 2 (f' := (2, [some (.ref 196), some (.int 0)], [], (zS0, R, I, J))) rfl ?_
  exact k1
theorem b_15_2 {X : zX} {d : Nat} {R : zR} {I : zI} {J : zJ} {r : zA} {x1 : Int32} (k1 : 2 ≤ x1 → zEv X d zm_15 (20, [some (.ref 196), some (.int x1)], [], (zS0, R, I, J)) r) (k2 : ¬ (2 ≤ x1) → zEv X d zm_15 (7, [some (.ref 196), some (.int x1)], [], (zS0, R, I, J)) r) : zEv X d zm_15 (2, [some (.ref 196), some (.int x1)], [], (zS0, R, I, J)) r := by
  refine zEv_k 3 (f' := (if 2 ≤ x1 then 20 else 7, [some (.ref 196), some (.int x1)], [], (zS0, R, I, J))) rfl ?_
  exact zEv_if k1 k2
theorem b_15_7 {X : zX} {d : Nat} {R : zR} {I : zI} {J : zJ} {r : zA} {x1 : Int32} (hR : zRok R) (h13 : zin x1 2) (k1 : zEv X d zm_15 (2, [some (.ref 196), some (.int (x1 + 1))], [], (zS0, R, zu I 213 (x1).toNatClampNeg (vp_nar .boolean 0), J)) r) : zEv X d zm_15 (7, [some (.ref 196), some (.int x1)], [], (zS0, R, I, J)) r := by
  refine zEv_k 1 (f' := (8, [some (.ref 196), some (.int x1)], [.ref 196], (zS0, R, I, J))) rfl ?_
  refine zEv_gr rfl rfl rfl (by decide) (hR (196) 4 (213) rfl) ?_
  refine zEv_k 2 (f' := (13, [some (.ref 196), some (.int x1)], [.int 0, .int x1, .ref 213], (zS0, R, I, J))) rfl ?_
  refine zEv_zas rfl rfl (by decide) h13 ?_
  refine zEv_k 2 (f' := (2, [some (.ref 196), some (.int (x1 + 1))], [], (zS0, R, zu I 213 (x1).toNatClampNeg (vp_nar .boolean 0), J))) rfl ?_
  exact k1
theorem b_15_20 {X : zX} {d : Nat} {R : zR} {I : zI} {J : zJ} {x1 : Int32} : zEv X d zm_15 (20, [some (.ref 196), some (.int x1)], [], (zS0, R, I, J)) (none, (zS0, R, I, J)) := by
  exact zEv_r rfl
theorem b_16_0 {X : zX} {d : Nat} {R : zR} {I : zI} {J : zJ} {r : zA} {c : Nat} {g : Nat} {x1 : Int32} (ho : (c = 7 ∧ g = 19) ∨ (c = 7 ∧ g = 34) ∨ (c = 22 ∧ g = 19) ∨ (c = 22 ∧ g = 34)) (k1 : x1 < 0 → zEv X d zm_16 (14, [some (.ref 196), some (.int x1), some (.ref c), some (.ref g), none], [], (zS0, R, zu I 196 0 0, J)) r) (k2 : ¬ (x1 < 0) → zEv X d zm_16 (9, [some (.ref 196), some (.int x1), some (.ref c), some (.ref g), none], [], (zS0, R, zu I 196 0 0, J)) r) : zEv X d zm_16 (0, [some (.ref 196), some (.int x1), some (.ref c), some (.ref g), none], [], (zS0, R, I, J)) r := by
  rcases ho with ⟨rfl, rfl⟩ | ⟨rfl, rfl⟩ | ⟨rfl, rfl⟩ | ⟨rfl, rfl⟩
  · refine zEv_k 5 (f' := (if x1 < 0 then 14 else 9, [some (.ref 196), some (.int x1), some (.ref 7), some (.ref 19), none], [], (zS0, R, zu I 196 0 0, J))) rfl ?_
    exact zEv_if k1 k2
  · refine zEv_k 5 (f' := (if x1 < 0 then 14 else 9, [some (.ref 196), some (.int x1), some (.ref 7), some (.ref 34), none], [], (zS0, R, zu I 196 0 0, J))) rfl ?_
    exact zEv_if k1 k2
  · refine zEv_k 5 (f' := (if x1 < 0 then 14 else 9, [some (.ref 196), some (.int x1), some (.ref 22), some (.ref 19), none], [], (zS0, R, zu I 196 0 0, J))) rfl ?_
    exact zEv_if k1 k2
  · refine zEv_k 5 (f' := (if x1 < 0 then 14 else 9, [some (.ref 196), some (.int x1), some (.ref 22), some (.ref 34), none], [], (zS0, R, zu I 196 0 0, J))) rfl ?_
    exact zEv_if k1 k2
theorem b_16_9 {X : zX} {d : Nat} {R : zR} {I : zI} {J : zJ} {r : zA} {c : Nat} {g : Nat} {x1 : Int32} (ho : (c = 7 ∧ g = 19) ∨ (c = 7 ∧ g = 34) ∨ (c = 22 ∧ g = 19) ∨ (c = 22 ∧ g = 34)) (k1 : x1 < 2 → zEv X d zm_16 (15, [some (.ref 196), some (.int x1), some (.ref c), some (.ref g), none], [], (zS0, R, I, J)) r) (k2 : ¬ (x1 < 2) → zEv X d zm_16 (14, [some (.ref 196), some (.int x1), some (.ref c), some (.ref g), none], [], (zS0, R, I, J)) r) : zEv X d zm_16 (9, [some (.ref 196), some (.int x1), some (.ref c), some (.ref g), none], [], (zS0, R, I, J)) r := by
  rcases ho with ⟨rfl, rfl⟩ | ⟨rfl, rfl⟩ | ⟨rfl, rfl⟩ | ⟨rfl, rfl⟩
  · refine zEv_k 3 (f' := (if x1 < 2 then 15 else 14, [some (.ref 196), some (.int x1), some (.ref 7), some (.ref 19), none], [], (zS0, R, I, J))) rfl ?_
    exact zEv_if k1 k2
  · refine zEv_k 3 (f' := (if x1 < 2 then 15 else 14, [some (.ref 196), some (.int x1), some (.ref 7), some (.ref 34), none], [], (zS0, R, I, J))) rfl ?_
    exact zEv_if k1 k2
  · refine zEv_k 3 (f' := (if x1 < 2 then 15 else 14, [some (.ref 196), some (.int x1), some (.ref 22), some (.ref 19), none], [], (zS0, R, I, J))) rfl ?_
    exact zEv_if k1 k2
  · refine zEv_k 3 (f' := (if x1 < 2 then 15 else 14, [some (.ref 196), some (.int x1), some (.ref 22), some (.ref 34), none], [], (zS0, R, I, J))) rfl ?_
    exact zEv_if k1 k2
theorem b_16_14 {X : zX} {d : Nat} {R : zR} {I : zI} {J : zJ} {c : Nat} {g : Nat} {x1 : Int32} (ho : (c = 7 ∧ g = 19) ∨ (c = 7 ∧ g = 34) ∨ (c = 22 ∧ g = 19) ∨ (c = 22 ∧ g = 34)) : zEv X d zm_16 (14, [some (.ref 196), some (.int x1), some (.ref c), some (.ref g), none], [], (zS0, R, I, J)) (none, (zS0, R, I, J)) := by
  rcases ho with ⟨rfl, rfl⟩ | ⟨rfl, rfl⟩ | ⟨rfl, rfl⟩ | ⟨rfl, rfl⟩
  · exact zEv_r rfl
  · exact zEv_r rfl
  · exact zEv_r rfl
  · exact zEv_r rfl
theorem b_16_15 {X : zX} {d : Nat} {R : zR} {I : zI} {J : zJ} {r : zA} {c : Nat} {g : Nat} {x1 : Int32} (hR : zRok R) (ho : (c = 7 ∧ g = 19) ∨ (c = 7 ∧ g = 34) ∨ (c = 22 ∧ g = 19) ∨ (c = 22 ∧ g = 34)) (h28 : zin x1 2) (k1 : ¬ (I 213 (x1).toNatClampNeg) = 0 → zEv X d zm_16 (44, [some (.ref 196), some (.int x1), some (.ref c), some (.ref g), none], [], (zS0, R, zu I 196 6 (x1 * 100), J)) r) (k2 : ¬ (¬ (I 213 (x1).toNatClampNeg) = 0) → zEv X d zm_16 (32, [some (.ref 196), some (.int x1), some (.ref c), some (.ref g), none], [], (zS0, R, zu I 196 6 (x1 * 100), J)) r) : zEv X d zm_16 (15, [some (.ref 196), some (.int x1), some (.ref c), some (.ref g), none], [], (zS0, R, I, J)) r := by
  rcases ho with ⟨rfl, rfl⟩ | ⟨rfl, rfl⟩ | ⟨rfl, rfl⟩ | ⟨rfl, rfl⟩
  · refine zEv_k 6 (f' := (24, [some (.ref 196), some (.int x1), some (.ref 7), some (.ref 19), none], [.ref 196], (zS0, R, zu I 196 6 (x1 * 100), J))) rfl ?_
    refine zEv_gr rfl rfl rfl (by decide) (hR (196) 4 (213) rfl) ?_
    refine zEv_k 1 (f' := (28, [some (.ref 196), some (.int x1), some (.ref 7), some (.ref 19), none], [.int x1, .ref 213], (zS0, R, zu I 196 6 (x1 * 100), J))) rfl ?_
    refine zEv_zal rfl rfl (by decide) h28 ?_
    refine zEv_k 1 (f' := (if ¬ (I 213 (x1).toNatClampNeg) = 0 then 44 else 32, [some (.ref 196), some (.int x1), some (.ref 7), some (.ref 19), none], [], (zS0, R, zu I 196 6 (x1 * 100), J))) rfl ?_
    exact zEv_if k1 k2
  · refine zEv_k 6 (f' := (24, [some (.ref 196), some (.int x1), some (.ref 7), some (.ref 34), none], [.ref 196], (zS0, R, zu I 196 6 (x1 * 100), J))) rfl ?_
    refine zEv_gr rfl rfl rfl (by decide) (hR (196) 4 (213) rfl) ?_
    refine zEv_k 1 (f' := (28, [some (.ref 196), some (.int x1), some (.ref 7), some (.ref 34), none], [.int x1, .ref 213], (zS0, R, zu I 196 6 (x1 * 100), J))) rfl ?_
    refine zEv_zal rfl rfl (by decide) h28 ?_
    refine zEv_k 1 (f' := (if ¬ (I 213 (x1).toNatClampNeg) = 0 then 44 else 32, [some (.ref 196), some (.int x1), some (.ref 7), some (.ref 34), none], [], (zS0, R, zu I 196 6 (x1 * 100), J))) rfl ?_
    exact zEv_if k1 k2
  · refine zEv_k 6 (f' := (24, [some (.ref 196), some (.int x1), some (.ref 22), some (.ref 19), none], [.ref 196], (zS0, R, zu I 196 6 (x1 * 100), J))) rfl ?_
    refine zEv_gr rfl rfl rfl (by decide) (hR (196) 4 (213) rfl) ?_
    refine zEv_k 1 (f' := (28, [some (.ref 196), some (.int x1), some (.ref 22), some (.ref 19), none], [.int x1, .ref 213], (zS0, R, zu I 196 6 (x1 * 100), J))) rfl ?_
    refine zEv_zal rfl rfl (by decide) h28 ?_
    refine zEv_k 1 (f' := (if ¬ (I 213 (x1).toNatClampNeg) = 0 then 44 else 32, [some (.ref 196), some (.int x1), some (.ref 22), some (.ref 19), none], [], (zS0, R, zu I 196 6 (x1 * 100), J))) rfl ?_
    exact zEv_if k1 k2
  · refine zEv_k 6 (f' := (24, [some (.ref 196), some (.int x1), some (.ref 22), some (.ref 34), none], [.ref 196], (zS0, R, zu I 196 6 (x1 * 100), J))) rfl ?_
    refine zEv_gr rfl rfl rfl (by decide) (hR (196) 4 (213) rfl) ?_
    refine zEv_k 1 (f' := (28, [some (.ref 196), some (.int x1), some (.ref 22), some (.ref 34), none], [.int x1, .ref 213], (zS0, R, zu I 196 6 (x1 * 100), J))) rfl ?_
    refine zEv_zal rfl rfl (by decide) h28 ?_
    refine zEv_k 1 (f' := (if ¬ (I 213 (x1).toNatClampNeg) = 0 then 44 else 32, [some (.ref 196), some (.int x1), some (.ref 22), some (.ref 34), none], [], (zS0, R, zu I 196 6 (x1 * 100), J))) rfl ?_
    exact zEv_if k1 k2
theorem b_16_32 {X : zX} {d : Nat} {R : zR} {I : zI} {J : zJ} {r : zA} {c : Nat} {g : Nat} {x1 : Int32} {R' : zR} {I' : zI} {J' : zJ} (ho : (c = 7 ∧ g = 19) ∨ (c = 7 ∧ g = 34) ∨ (c = 22 ∧ g = 19) ∨ (c = 22 ∧ g = 34)) (hc : zEv X d zm_17 (0, [some (.ref 196), some (.ref c), none, none, none, none], [], (zS0, R, I, J)) (none, (zS0, R', I', J'))) (k1 : zEv X (d + 1) zm_16 (37, [some (.ref 196), some (.int x1), some (.ref c), some (.ref g), none], [], (zS0, R', I', J')) r) : zEv X (d + 1) zm_16 (32, [some (.ref 196), some (.int x1), some (.ref c), some (.ref g), none], [], (zS0, R, I, J)) r := by
  rcases ho with ⟨rfl, rfl⟩ | ⟨rfl, rfl⟩ | ⟨rfl, rfl⟩ | ⟨rfl, rfl⟩
  · refine zEv_k 2 (f' := (34, [some (.ref 196), some (.int x1), some (.ref 7), some (.ref 19), none], [.ref 7, .ref 196], (zS0, R, I, J))) rfl ?_
    exact zEv_c (fun _ => rfl) rfl hc rfl rfl k1
  · refine zEv_k 2 (f' := (34, [some (.ref 196), some (.int x1), some (.ref 7), some (.ref 34), none], [.ref 7, .ref 196], (zS0, R, I, J))) rfl ?_
    exact zEv_c (fun _ => rfl) rfl hc rfl rfl k1
  · refine zEv_k 2 (f' := (34, [some (.ref 196), some (.int x1), some (.ref 22), some (.ref 19), none], [.ref 22, .ref 196], (zS0, R, I, J))) rfl ?_
    exact zEv_c (fun _ => rfl) rfl hc rfl rfl k1
  · refine zEv_k 2 (f' := (34, [some (.ref 196), some (.int x1), some (.ref 22), some (.ref 34), none], [.ref 22, .ref 196], (zS0, R, I, J))) rfl ?_
    exact zEv_c (fun _ => rfl) rfl hc rfl rfl k1
theorem b_16_37 {X : zX} {d : Nat} {R : zR} {I : zI} {J : zJ} {r : zA} {c : Nat} {g : Nat} {x1 : Int32} (hR : zRok R) (ho : (c = 7 ∧ g = 19) ∨ (c = 7 ∧ g = 34) ∨ (c = 22 ∧ g = 19) ∨ (c = 22 ∧ g = 34)) (h43 : zin x1 2) (k1 : zEv X d zm_16 (44, [some (.ref 196), some (.int x1), some (.ref c), some (.ref g), none], [], (zS0, R, zu I 213 (x1).toNatClampNeg (vp_nar .boolean 1), J)) r) : zEv X d zm_16 (37, [some (.ref 196), some (.int x1), some (.ref c), some (.ref g), none], [], (zS0, R, I, J)) r := by
  rcases ho with ⟨rfl, rfl⟩ | ⟨rfl, rfl⟩ | ⟨rfl, rfl⟩ | ⟨rfl, rfl⟩
  · refine zEv_k 1 (f' := (38, [some (.ref 196), some (.int x1), some (.ref 7), some (.ref 19), none], [.ref 196], (zS0, R, I, J))) rfl ?_
    refine zEv_gr rfl rfl rfl (by decide) (hR (196) 4 (213) rfl) ?_
    refine zEv_k 2 (f' := (43, [some (.ref 196), some (.int x1), some (.ref 7), some (.ref 19), none], [.int 1, .int x1, .ref 213], (zS0, R, I, J))) rfl ?_
    refine zEv_zas rfl rfl (by decide) h43 ?_
    exact k1
  · refine zEv_k 1 (f' := (38, [some (.ref 196), some (.int x1), some (.ref 7), some (.ref 34), none], [.ref 196], (zS0, R, I, J))) rfl ?_
    refine zEv_gr rfl rfl rfl (by decide) (hR (196) 4 (213) rfl) ?_
    refine zEv_k 2 (f' := (43, [some (.ref 196), some (.int x1), some (.ref 7), some (.ref 34), none], [.int 1, .int x1, .ref 213], (zS0, R, I, J))) rfl ?_
    refine zEv_zas rfl rfl (by decide) h43 ?_
    exact k1
  · refine zEv_k 1 (f' := (38, [some (.ref 196), some (.int x1), some (.ref 22), some (.ref 19), none], [.ref 196], (zS0, R, I, J))) rfl ?_
    refine zEv_gr rfl rfl rfl (by decide) (hR (196) 4 (213) rfl) ?_
    refine zEv_k 2 (f' := (43, [some (.ref 196), some (.int x1), some (.ref 22), some (.ref 19), none], [.int 1, .int x1, .ref 213], (zS0, R, I, J))) rfl ?_
    refine zEv_zas rfl rfl (by decide) h43 ?_
    exact k1
  · refine zEv_k 1 (f' := (38, [some (.ref 196), some (.int x1), some (.ref 22), some (.ref 34), none], [.ref 196], (zS0, R, I, J))) rfl ?_
    refine zEv_gr rfl rfl rfl (by decide) (hR (196) 4 (213) rfl) ?_
    refine zEv_k 2 (f' := (43, [some (.ref 196), some (.int x1), some (.ref 22), some (.ref 34), none], [.int 1, .int x1, .ref 213], (zS0, R, I, J))) rfl ?_
    refine zEv_zas rfl rfl (by decide) h43 ?_
    exact k1
theorem b_16_44 {X : zX} {d : Nat} {R : zR} {I : zI} {J : zJ} {r : zA} {c : Nat} {g : Nat} {x1 : Int32} (ho : (c = 7 ∧ g = 19) ∨ (c = 7 ∧ g = 34) ∨ (c = 22 ∧ g = 19) ∨ (c = 22 ∧ g = 34)) (k1 : zEv X d zm_16 (47, [some (.ref 196), some (.int x1), some (.ref c), some (.ref g), some (.int 0)], [], (zS0, R, I, J)) r) : zEv X d zm_16 (44, [some (.ref 196), some (.int x1), some (.ref c), some (.ref g), none], [], (zS0, R, I, J)) r := by
  rcases ho with ⟨rfl, rfl⟩ | ⟨rfl, rfl⟩ | ⟨rfl, rfl⟩ | ⟨rfl, rfl⟩
  · refine zEv_k 2 (f' := (47, [some (.ref 196), some (.int x1), some (.ref 7), some (.ref 19), some (.int 0)], [], (zS0, R, I, J))) rfl ?_
    exact k1
  · refine zEv_k 2 (f' := (47, [some (.ref 196), some (.int x1), some (.ref 7), some (.ref 34), some (.int 0)], [], (zS0, R, I, J))) rfl ?_
    exact k1
  · refine zEv_k 2 (f' := (47, [some (.ref 196), some (.int x1), some (.ref 22), some (.ref 19), some (.int 0)], [], (zS0, R, I, J))) rfl ?_
    exact k1
  · refine zEv_k 2 (f' := (47, [some (.ref 196), some (.int x1), some (.ref 22), some (.ref 34), some (.int 0)], [], (zS0, R, I, J))) rfl ?_
    exact k1
theorem b_16_47 {X : zX} {d : Nat} {R : zR} {I : zI} {J : zJ} {r : zA} {c : Nat} {g : Nat} {x1 : Int32} {x4 : Int32} (ho : (c = 7 ∧ g = 19) ∨ (c = 7 ∧ g = 34) ∨ (c = 22 ∧ g = 19) ∨ (c = 22 ∧ g = 34)) (k1 : 100 ≤ x4 → zEv X d zm_16 (91, [some (.ref 196), some (.int x1), some (.ref c), some (.ref g), some (.int x4)], [], (zS0, R, I, J)) r) (k2 : ¬ (100 ≤ x4) → zEv X d zm_16 (54, [some (.ref 196), some (.int x1), some (.ref c), some (.ref g), some (.int x4)], [], (zS0, R, I, J)) r) : zEv X d zm_16 (47, [some (.ref 196), some (.int x1), some (.ref c), some (.ref g), some (.int x4)], [], (zS0, R, I, J)) r := by
  rcases ho with ⟨rfl, rfl⟩ | ⟨rfl, rfl⟩ | ⟨rfl, rfl⟩ | ⟨rfl, rfl⟩
  · refine zEv_k 3 (f' := (if 100 ≤ x4 then 91 else 54, [some (.ref 196), some (.int x1), some (.ref 7), some (.ref 19), some (.int x4)], [], (zS0, R, I, J))) rfl ?_
    exact zEv_if k1 k2
  · refine zEv_k 3 (f' := (if 100 ≤ x4 then 91 else 54, [some (.ref 196), some (.int x1), some (.ref 7), some (.ref 34), some (.int x4)], [], (zS0, R, I, J))) rfl ?_
    exact zEv_if k1 k2
  · refine zEv_k 3 (f' := (if 100 ≤ x4 then 91 else 54, [some (.ref 196), some (.int x1), some (.ref 22), some (.ref 19), some (.int x4)], [], (zS0, R, I, J))) rfl ?_
    exact zEv_if k1 k2
  · refine zEv_k 3 (f' := (if 100 ≤ x4 then 91 else 54, [some (.ref 196), some (.int x1), some (.ref 22), some (.ref 34), some (.int x4)], [], (zS0, R, I, J))) rfl ?_
    exact zEv_if k1 k2
theorem b_16_54 {X : zX} {d : Nat} {R : zR} {I : zI} {J : zJ} {r : zA} {c : Nat} {g : Nat} {x1 : Int32} {x4 : Int32} {w : Int32} {R' : zR} {I' : zI} {J' : zJ} (ho : (c = 7 ∧ g = 19) ∨ (c = 7 ∧ g = 34) ∨ (c = 22 ∧ g = 19) ∨ (c = 22 ∧ g = 34)) (hc : zEv X d zm_19 (0, [some (.ref 196), some (.int x4), some (.ref g), none], [], (zS0, R, I, J)) (some (.int w), (zS0, R', I', J'))) (k1 : zEv X (d + 1) zm_16 (61, [some (.ref 196), some (.int x1), some (.ref c), some (.ref g), some (.int x4)], [.int w], (zS0, R', I', J')) r) : zEv X (d + 1) zm_16 (54, [some (.ref 196), some (.int x1), some (.ref c), some (.ref g), some (.int x4)], [], (zS0, R, I, J)) r := by
  rcases ho with ⟨rfl, rfl⟩ | ⟨rfl, rfl⟩ | ⟨rfl, rfl⟩ | ⟨rfl, rfl⟩
  · refine zEv_k 3 (f' := (58, [some (.ref 196), some (.int x1), some (.ref 7), some (.ref 19), some (.int x4)], [.ref 19, .int x4, .ref 196], (zS0, R, I, J))) rfl ?_
    exact zEv_c (fun _ => rfl) rfl hc rfl rfl k1
  · refine zEv_k 3 (f' := (58, [some (.ref 196), some (.int x1), some (.ref 7), some (.ref 34), some (.int x4)], [.ref 34, .int x4, .ref 196], (zS0, R, I, J))) rfl ?_
    exact zEv_c (fun _ => rfl) rfl hc rfl rfl k1
  · refine zEv_k 3 (f' := (58, [some (.ref 196), some (.int x1), some (.ref 22), some (.ref 19), some (.int x4)], [.ref 19, .int x4, .ref 196], (zS0, R, I, J))) rfl ?_
    exact zEv_c (fun _ => rfl) rfl hc rfl rfl k1
  · refine zEv_k 3 (f' := (58, [some (.ref 196), some (.int x1), some (.ref 22), some (.ref 34), some (.int x4)], [.ref 34, .int x4, .ref 196], (zS0, R, I, J))) rfl ?_
    exact zEv_c (fun _ => rfl) rfl hc rfl rfl k1
theorem b_16_61 {X : zX} {d : Nat} {R : zR} {I : zI} {J : zJ} {r : zA} {c : Nat} {g : Nat} {x1 : Int32} {x4 : Int32} {s0 : Int32} (ho : (c = 7 ∧ g = 19) ∨ (c = 7 ∧ g = 34) ∨ (c = 22 ∧ g = 19) ∨ (c = 22 ∧ g = 34)) (k1 : s0 = 0 → zEv X d zm_16 (85, [some (.ref 196), some (.int x1), some (.ref c), some (.ref g), some (.int x4)], [], (zS0, R, I, J)) r) (k2 : ¬ (s0 = 0) → zEv X d zm_16 (64, [some (.ref 196), some (.int x1), some (.ref c), some (.ref g), some (.int x4)], [], (zS0, R, I, J)) r) : zEv X d zm_16 (61, [some (.ref 196), some (.int x1), some (.ref c), some (.ref g), some (.int x4)], [.int s0], (zS0, R, I, J)) r := by
  rcases ho with ⟨rfl, rfl⟩ | ⟨rfl, rfl⟩ | ⟨rfl, rfl⟩ | ⟨rfl, rfl⟩
  · refine zEv_k 1 (f' := (if s0 = 0 then 85 else 64, [some (.ref 196), some (.int x1), some (.ref 7), some (.ref 19), some (.int x4)], [], (zS0, R, I, J))) rfl ?_
    exact zEv_if k1 k2
  · refine zEv_k 1 (f' := (if s0 = 0 then 85 else 64, [some (.ref 196), some (.int x1), some (.ref 7), some (.ref 34), some (.int x4)], [], (zS0, R, I, J))) rfl ?_
    exact zEv_if k1 k2
  · refine zEv_k 1 (f' := (if s0 = 0 then 85 else 64, [some (.ref 196), some (.int x1), some (.ref 22), some (.ref 19), some (.int x4)], [], (zS0, R, I, J))) rfl ?_
    exact zEv_if k1 k2
  · refine zEv_k 1 (f' := (if s0 = 0 then 85 else 64, [some (.ref 196), some (.int x1), some (.ref 22), some (.ref 34), some (.int x4)], [], (zS0, R, I, J))) rfl ?_
    exact zEv_if k1 k2
theorem b_16_64 {X : zX} {d : Nat} {R : zR} {I : zI} {J : zJ} {r : zA} {c : Nat} {g : Nat} {x1 : Int32} {x4 : Int32} (hR : zRok R) (ho : (c = 7 ∧ g = 19) ∨ (c = 7 ∧ g = 34) ∨ (c = 22 ∧ g = 19) ∨ (c = 22 ∧ g = 34)) (h74 : zin (I 196 0) 100) (k1 : zEv X d zm_16 (85, [some (.ref 196), some (.int x1), some (.ref c), some (.ref g), some (.int x4)], [], (zS0, R, zu (zu I 197 (I 196 0).toNatClampNeg x4) 196 0 ((I 196 0) + 1), J)) r) : zEv X d zm_16 (64, [some (.ref 196), some (.int x1), some (.ref c), some (.ref g), some (.int x4)], [], (zS0, R, I, J)) r := by
  rcases ho with ⟨rfl, rfl⟩ | ⟨rfl, rfl⟩ | ⟨rfl, rfl⟩ | ⟨rfl, rfl⟩
  · refine zEv_k 1 (f' := (65, [some (.ref 196), some (.int x1), some (.ref 7), some (.ref 19), some (.int x4)], [.ref 196], (zS0, R, I, J))) rfl ?_
    refine zEv_gr rfl rfl rfl (by decide) (hR (196) 1 (197) rfl) ?_
    refine zEv_k 3 (f' := (74, [some (.ref 196), some (.int x1), some (.ref 7), some (.ref 19), some (.int x4)], [.int x4, .int (I 196 0), .ref 197], (zS0, R, I, J))) rfl ?_
    refine zEv_ias rfl rfl (by decide) h74 ?_
    refine zEv_k 6 (f' := (85, [some (.ref 196), some (.int x1), some (.ref 7), some (.ref 19), some (.int x4)], [], (zS0, R, zu (zu I 197 (I 196 0).toNatClampNeg x4) 196 0 ((I 196 0) + 1), J))) rfl ?_
    exact k1
  · refine zEv_k 1 (f' := (65, [some (.ref 196), some (.int x1), some (.ref 7), some (.ref 34), some (.int x4)], [.ref 196], (zS0, R, I, J))) rfl ?_
    refine zEv_gr rfl rfl rfl (by decide) (hR (196) 1 (197) rfl) ?_
    refine zEv_k 3 (f' := (74, [some (.ref 196), some (.int x1), some (.ref 7), some (.ref 34), some (.int x4)], [.int x4, .int (I 196 0), .ref 197], (zS0, R, I, J))) rfl ?_
    refine zEv_ias rfl rfl (by decide) h74 ?_
    refine zEv_k 6 (f' := (85, [some (.ref 196), some (.int x1), some (.ref 7), some (.ref 34), some (.int x4)], [], (zS0, R, zu (zu I 197 (I 196 0).toNatClampNeg x4) 196 0 ((I 196 0) + 1), J))) rfl ?_
    exact k1
  · refine zEv_k 1 (f' := (65, [some (.ref 196), some (.int x1), some (.ref 22), some (.ref 19), some (.int x4)], [.ref 196], (zS0, R, I, J))) rfl ?_
    refine zEv_gr rfl rfl rfl (by decide) (hR (196) 1 (197) rfl) ?_
    refine zEv_k 3 (f' := (74, [some (.ref 196), some (.int x1), some (.ref 22), some (.ref 19), some (.int x4)], [.int x4, .int (I 196 0), .ref 197], (zS0, R, I, J))) rfl ?_
    refine zEv_ias rfl rfl (by decide) h74 ?_
    refine zEv_k 6 (f' := (85, [some (.ref 196), some (.int x1), some (.ref 22), some (.ref 19), some (.int x4)], [], (zS0, R, zu (zu I 197 (I 196 0).toNatClampNeg x4) 196 0 ((I 196 0) + 1), J))) rfl ?_
    exact k1
  · refine zEv_k 1 (f' := (65, [some (.ref 196), some (.int x1), some (.ref 22), some (.ref 34), some (.int x4)], [.ref 196], (zS0, R, I, J))) rfl ?_
    refine zEv_gr rfl rfl rfl (by decide) (hR (196) 1 (197) rfl) ?_
    refine zEv_k 3 (f' := (74, [some (.ref 196), some (.int x1), some (.ref 22), some (.ref 34), some (.int x4)], [.int x4, .int (I 196 0), .ref 197], (zS0, R, I, J))) rfl ?_
    refine zEv_ias rfl rfl (by decide) h74 ?_
    refine zEv_k 6 (f' := (85, [some (.ref 196), some (.int x1), some (.ref 22), some (.ref 34), some (.int x4)], [], (zS0, R, zu (zu I 197 (I 196 0).toNatClampNeg x4) 196 0 ((I 196 0) + 1), J))) rfl ?_
    exact k1
theorem b_16_85 {X : zX} {d : Nat} {R : zR} {I : zI} {J : zJ} {r : zA} {c : Nat} {g : Nat} {x1 : Int32} {x4 : Int32} (ho : (c = 7 ∧ g = 19) ∨ (c = 7 ∧ g = 34) ∨ (c = 22 ∧ g = 19) ∨ (c = 22 ∧ g = 34)) (k1 : zEv X d zm_16 (47, [some (.ref 196), some (.int x1), some (.ref c), some (.ref g), some (.int (x4 + 1))], [], (zS0, R, I, J)) r) : zEv X d zm_16 (85, [some (.ref 196), some (.int x1), some (.ref c), some (.ref g), some (.int x4)], [], (zS0, R, I, J)) r := by
  rcases ho with ⟨rfl, rfl⟩ | ⟨rfl, rfl⟩ | ⟨rfl, rfl⟩ | ⟨rfl, rfl⟩
  · refine zEv_k 2 (f' := (47, [some (.ref 196), some (.int x1), some (.ref 7), some (.ref 19), some (.int (x4 + 1))], [], (zS0, R, I, J))) rfl ?_
    exact k1
  · refine zEv_k 2 (f' := (47, [some (.ref 196), some (.int x1), some (.ref 7), some (.ref 34), some (.int (x4 + 1))], [], (zS0, R, I, J))) rfl ?_
    exact k1
  · refine zEv_k 2 (f' := (47, [some (.ref 196), some (.int x1), some (.ref 22), some (.ref 19), some (.int (x4 + 1))], [], (zS0, R, I, J))) rfl ?_
    exact k1
  · refine zEv_k 2 (f' := (47, [some (.ref 196), some (.int x1), some (.ref 22), some (.ref 34), some (.int (x4 + 1))], [], (zS0, R, I, J))) rfl ?_
    exact k1
theorem b_16_91 {X : zX} {d : Nat} {R : zR} {I : zI} {J : zJ} {c : Nat} {g : Nat} {x1 : Int32} {x4 : Int32} (ho : (c = 7 ∧ g = 19) ∨ (c = 7 ∧ g = 34) ∨ (c = 22 ∧ g = 19) ∨ (c = 22 ∧ g = 34)) : zEv X d zm_16 (91, [some (.ref 196), some (.int x1), some (.ref c), some (.ref g), some (.int x4)], [], (zS0, R, I, J)) (none, (zS0, R, I, J)) := by
  rcases ho with ⟨rfl, rfl⟩ | ⟨rfl, rfl⟩ | ⟨rfl, rfl⟩ | ⟨rfl, rfl⟩
  · exact zEv_r rfl
  · exact zEv_r rfl
  · exact zEv_r rfl
  · exact zEv_r rfl
theorem b_17_0 {X : zX} {d : Nat} {R : zR} {I : zI} {J : zJ} {r : zA} {c : Nat} (ho : c = 7 ∨ c = 22) (k1 : zEv X d zm_17 (2, [some (.ref 196), some (.ref c), some (.int 0), none, none, none], [], (zS0, R, I, J)) r) : zEv X d zm_17 (0, [some (.ref 196), some (.ref c), none, none, none, none], [], (zS0, R, I, J)) r := by
  rcases ho with rfl | rfl
  · refine zEv_k 2 (f' := (2, [some (.ref 196), some (.ref 7), some (.int 0), none, none, none], [], (zS0, R, I, J))) rfl ?_
    exact k1
  · refine zEv_k 2 (f' := (2, [some (.ref 196), some (.ref 22), some (.int 0), none, none, none], [], (zS0, R, I, J))) rfl ?_
    exact k1
theorem b_17_2 {X : zX} {d : Nat} {R : zR} {I : zI} {J : zJ} {r : zA} {c : Nat} {x2 : Int32} {x3 : Option Value} {x5 : Option Value} (ho : c = 7 ∨ c = 22) (k1 : 100 ≤ x2 → zEv X d zm_17 (102, [some (.ref 196), some (.ref c), some (.int x2), x3, none, x5], [], (zS0, R, I, J)) r) (k2 : ¬ (100 ≤ x2) → zEv X d zm_17 (8, [some (.ref 196), some (.ref c), some (.int x2), x3, none, x5], [], (zS0, R, I, J)) r) : zEv X d zm_17 (2, [some (.ref 196), some (.ref c), some (.int x2), x3, none, x5], [], (zS0, R, I, J)) r := by
  rcases ho with rfl | rfl
  · refine zEv_k 3 (f' := (if 100 ≤ x2 then 102 else 8, [some (.ref 196), some (.ref 7), some (.int x2), x3, none, x5], [], (zS0, R, I, J))) rfl ?_
    exact zEv_if k1 k2
  · refine zEv_k 3 (f' := (if 100 ≤ x2 then 102 else 8, [some (.ref 196), some (.ref 22), some (.int x2), x3, none, x5], [], (zS0, R, I, J))) rfl ?_
    exact zEv_if k1 k2
theorem b_17_8 {X : zX} {d : Nat} {R : zR} {I : zI} {J : zJ} {r : zA} {c : Nat} {x2 : Int32} {x3 : Option Value} {x5 : Option Value} {R' : zR} {I' : zI} {J' : zJ} (hR : zRok R) (ho : c = 7 ∨ c = 22) (hc : zEv X d zm_70 (0, [some (.ref 198), some (.ref c), none], [], (zS0, R, I, J)) (none, (zS0, R', I', J'))) (k1 : zEv X (d + 1) zm_17 (16, [some (.ref 196), some (.ref c), some (.int x2), x3, none, x5], [], (zS0, R', I', J')) r) : zEv X (d + 1) zm_17 (8, [some (.ref 196), some (.ref c), some (.int x2), x3, none, x5], [], (zS0, R, I, J)) r := by
  rcases ho with rfl | rfl
  · refine zEv_k 1 (f' := (9, [some (.ref 196), some (.ref 7), some (.int x2), x3, none, x5], [.ref 196], (zS0, R, I, J))) rfl ?_
    refine zEv_gr rfl rfl rfl (by decide) (hR (196) 2 (198) rfl) ?_
    refine zEv_k 1 (f' := (13, [some (.ref 196), some (.ref 7), some (.int x2), x3, none, x5], [.ref 7, .ref 198], (zS0, R, I, J))) rfl ?_
    exact zEv_c (fun _ => rfl) rfl hc rfl rfl k1
  · refine zEv_k 1 (f' := (9, [some (.ref 196), some (.ref 22), some (.int x2), x3, none, x5], [.ref 196], (zS0, R, I, J))) rfl ?_
    refine zEv_gr rfl rfl rfl (by decide) (hR (196) 2 (198) rfl) ?_
    refine zEv_k 1 (f' := (13, [some (.ref 196), some (.ref 22), some (.int x2), x3, none, x5], [.ref 22, .ref 198], (zS0, R, I, J))) rfl ?_
    exact zEv_c (fun _ => rfl) rfl hc rfl rfl k1
theorem b_17_16 {X : zX} {d : Nat} {R : zR} {I : zI} {J : zJ} {r : zA} {c : Nat} {x2 : Int32} {x3 : Option Value} {x5 : Option Value} {R' : zR} {I' : zI} {J' : zJ} (hR : zRok R) (ho : c = 7 ∨ c = 22) (hc : zEv X d zm_73 (0, [some (.ref 198), some (.int 20), none], [], (zS0, R, zu (zu I 198 3 (x2 / 10)) 198 4 (x2 - x2 / 10 * 10), J)) (none, (zS0, R', I', J'))) (k1 : zEv X (d + 1) zm_17 (49, [some (.ref 196), some (.ref c), some (.int x2), some (.long 0), none, x5], [], (zS0, R', I', J')) r) : zEv X (d + 1) zm_17 (16, [some (.ref 196), some (.ref c), some (.int x2), x3, none, x5], [], (zS0, R, I, J)) r := by
  rcases ho with rfl | rfl
  · refine zEv_k 1 (f' := (17, [some (.ref 196), some (.ref 7), some (.int x2), x3, none, x5], [.ref 196], (zS0, R, I, J))) rfl ?_
    refine zEv_gr rfl rfl rfl (by decide) (hR (196) 2 (198) rfl) ?_
    refine zEv_k 2 (f' := (23, [some (.ref 196), some (.ref 7), some (.int x2), x3, none, x5], [.int 10, .int x2, .ref 198], (zS0, R, I, J))) rfl ?_
    refine zEv_div rfl (by decide) ?_
    refine zEv_k 2 (f' := (28, [some (.ref 196), some (.ref 7), some (.int x2), x3, none, x5], [.ref 196], (zS0, R, zu I 198 3 (x2 / 10), J))) rfl ?_
    refine zEv_gr rfl rfl rfl (by decide) (hR (196) 2 (198) rfl) ?_
    refine zEv_k 2 (f' := (34, [some (.ref 196), some (.ref 7), some (.int x2), x3, none, x5], [.int 10, .int x2, .ref 198], (zS0, R, zu I 198 3 (x2 / 10), J))) rfl ?_
    refine zEv_rem rfl (by decide) ?_
    refine zEv_k 4 (f' := (41, [some (.ref 196), some (.ref 7), some (.int x2), some (.long 0), none, x5], [.ref 196], (zS0, R, zu (zu I 198 3 (x2 / 10)) 198 4 (x2 - x2 / 10 * 10), J))) rfl ?_
    refine zEv_gr rfl rfl rfl (by decide) (hR (196) 2 (198) rfl) ?_
    refine zEv_k 1 (f' := (46, [some (.ref 196), some (.ref 7), some (.int x2), some (.long 0), none, x5], [.int 20, .ref 198], (zS0, R, zu (zu I 198 3 (x2 / 10)) 198 4 (x2 - x2 / 10 * 10), J))) rfl ?_
    exact zEv_c (fun _ => rfl) rfl hc rfl rfl k1
  · refine zEv_k 1 (f' := (17, [some (.ref 196), some (.ref 22), some (.int x2), x3, none, x5], [.ref 196], (zS0, R, I, J))) rfl ?_
    refine zEv_gr rfl rfl rfl (by decide) (hR (196) 2 (198) rfl) ?_
    refine zEv_k 2 (f' := (23, [some (.ref 196), some (.ref 22), some (.int x2), x3, none, x5], [.int 10, .int x2, .ref 198], (zS0, R, I, J))) rfl ?_
    refine zEv_div rfl (by decide) ?_
    refine zEv_k 2 (f' := (28, [some (.ref 196), some (.ref 22), some (.int x2), x3, none, x5], [.ref 196], (zS0, R, zu I 198 3 (x2 / 10), J))) rfl ?_
    refine zEv_gr rfl rfl rfl (by decide) (hR (196) 2 (198) rfl) ?_
    refine zEv_k 2 (f' := (34, [some (.ref 196), some (.ref 22), some (.int x2), x3, none, x5], [.int 10, .int x2, .ref 198], (zS0, R, zu I 198 3 (x2 / 10), J))) rfl ?_
    refine zEv_rem rfl (by decide) ?_
    refine zEv_k 4 (f' := (41, [some (.ref 196), some (.ref 22), some (.int x2), some (.long 0), none, x5], [.ref 196], (zS0, R, zu (zu I 198 3 (x2 / 10)) 198 4 (x2 - x2 / 10 * 10), J))) rfl ?_
    refine zEv_gr rfl rfl rfl (by decide) (hR (196) 2 (198) rfl) ?_
    refine zEv_k 1 (f' := (46, [some (.ref 196), some (.ref 22), some (.int x2), some (.long 0), none, x5], [.int 20, .ref 198], (zS0, R, zu (zu I 198 3 (x2 / 10)) 198 4 (x2 - x2 / 10 * 10), J))) rfl ?_
    exact zEv_c (fun _ => rfl) rfl hc rfl rfl k1
theorem b_17_49 {X : zX} {d : Nat} {R : zR} {I : zI} {J : zJ} {r : zA} {c : Nat} {x2 : Int32} {x3 : Int64} {x5 : Option Value} (ho : c = 7 ∨ c = 22) (k1 : zEv X d zm_17 (52, [some (.ref 196), some (.ref c), some (.int x2), some (.long x3), none, some (.int 1)], [], (zS0, R, I, J)) r) : zEv X d zm_17 (49, [some (.ref 196), some (.ref c), some (.int x2), some (.long x3), none, x5], [], (zS0, R, I, J)) r := by
  rcases ho with rfl | rfl
  · refine zEv_k 2 (f' := (52, [some (.ref 196), some (.ref 7), some (.int x2), some (.long x3), none, some (.int 1)], [], (zS0, R, I, J))) rfl ?_
    exact k1
  · refine zEv_k 2 (f' := (52, [some (.ref 196), some (.ref 22), some (.int x2), some (.long x3), none, some (.int 1)], [], (zS0, R, I, J))) rfl ?_
    exact k1
theorem b_17_52 {X : zX} {d : Nat} {R : zR} {I : zI} {J : zJ} {r : zA} {c : Nat} {x2 : Int32} {x3 : Int64} {x5 : Int32} (ho : c = 7 ∨ c = 22) (k1 : 20 < x5 → zEv X d zm_17 (84, [some (.ref 196), some (.ref c), some (.int x2), some (.long x3), none, some (.int x5)], [], (zS0, R, I, J)) r) (k2 : ¬ (20 < x5) → zEv X d zm_17 (59, [some (.ref 196), some (.ref c), some (.int x2), some (.long x3), none, some (.int x5)], [], (zS0, R, I, J)) r) : zEv X d zm_17 (52, [some (.ref 196), some (.ref c), some (.int x2), some (.long x3), none, some (.int x5)], [], (zS0, R, I, J)) r := by
  rcases ho with rfl | rfl
  · refine zEv_k 3 (f' := (if 20 < x5 then 84 else 59, [some (.ref 196), some (.ref 7), some (.int x2), some (.long x3), none, some (.int x5)], [], (zS0, R, I, J))) rfl ?_
    exact zEv_if k1 k2
  · refine zEv_k 3 (f' := (if 20 < x5 then 84 else 59, [some (.ref 196), some (.ref 22), some (.int x2), some (.long x3), none, some (.int x5)], [], (zS0, R, I, J))) rfl ?_
    exact zEv_if k1 k2
theorem b_17_59 {X : zX} {d : Nat} {R : zR} {I : zI} {J : zJ} {r : zA} {c : Nat} {x2 : Int32} {x3 : Int64} {x5 : Int32} (hR : zRok R) (ho : c = 7 ∨ c = 22) (h69 : zin x5 51) (k1 : zEv X d zm_17 (52, [some (.ref 196), some (.ref c), some (.int x2), some (.long (x3 ||| ((Int32.toInt64 (I 199 (x5).toNatClampNeg)) <<< (Int32.toInt64 (3 * x5) &&& 63)))), none, some (.int (x5 + 1))], [], (zS0, R, I, J)) r) : zEv X d zm_17 (59, [some (.ref 196), some (.ref c), some (.int x2), some (.long x3), none, some (.int x5)], [], (zS0, R, I, J)) r := by
  rcases ho with rfl | rfl
  · refine zEv_k 2 (f' := (61, [some (.ref 196), some (.ref 7), some (.int x2), some (.long x3), none, some (.int x5)], [.ref 196, .long x3], (zS0, R, I, J))) rfl ?_
    refine zEv_gr rfl rfl rfl (by decide) (hR (196) 2 (198) rfl) ?_
    refine zEv_gr rfl rfl rfl (by decide) (hR (198) 5 (199) rfl) ?_
    refine zEv_k 1 (f' := (69, [some (.ref 196), some (.ref 7), some (.int x2), some (.long x3), none, some (.int x5)], [.int x5, .ref 199, .long x3], (zS0, R, I, J))) rfl ?_
    refine zEv_ial rfl rfl (by decide) h69 ?_
    refine zEv_k 9 (f' := (52, [some (.ref 196), some (.ref 7), some (.int x2), some (.long (x3 ||| ((Int32.toInt64 (I 199 (x5).toNatClampNeg)) <<< (Int32.toInt64 (3 * x5) &&& 63)))), none, some (.int (x5 + 1))], [], (zS0, R, I, J))) rfl ?_
    exact k1
  · refine zEv_k 2 (f' := (61, [some (.ref 196), some (.ref 22), some (.int x2), some (.long x3), none, some (.int x5)], [.ref 196, .long x3], (zS0, R, I, J))) rfl ?_
    refine zEv_gr rfl rfl rfl (by decide) (hR (196) 2 (198) rfl) ?_
    refine zEv_gr rfl rfl rfl (by decide) (hR (198) 5 (199) rfl) ?_
    refine zEv_k 1 (f' := (69, [some (.ref 196), some (.ref 22), some (.int x2), some (.long x3), none, some (.int x5)], [.int x5, .ref 199, .long x3], (zS0, R, I, J))) rfl ?_
    refine zEv_ial rfl rfl (by decide) h69 ?_
    refine zEv_k 9 (f' := (52, [some (.ref 196), some (.ref 22), some (.int x2), some (.long (x3 ||| ((Int32.toInt64 (I 199 (x5).toNatClampNeg)) <<< (Int32.toInt64 (3 * x5) &&& 63)))), none, some (.int (x5 + 1))], [], (zS0, R, I, J))) rfl ?_
    exact k1
theorem b_17_84 {X : zX} {d : Nat} {R : zR} {I : zI} {J : zJ} {r : zA} {c : Nat} {x2 : Int32} {x3 : Int64} {x5 : Int32} (hR : zRok R) (ho : c = 7 ∨ c = 22) (h95 : zin ((I 196 6) + x2) 200) (k1 : zEv X d zm_17 (2, [some (.ref 196), some (.ref c), some (.int (x2 + 1)), some (.long x3), none, some (.int x5)], [], (zS0, R, I, zu J 212 ((I 196 6) + x2).toNatClampNeg x3)) r) : zEv X d zm_17 (84, [some (.ref 196), some (.ref c), some (.int x2), some (.long x3), none, some (.int x5)], [], (zS0, R, I, J)) r := by
  rcases ho with rfl | rfl
  · refine zEv_k 1 (f' := (85, [some (.ref 196), some (.ref 7), some (.int x2), some (.long x3), none, some (.int x5)], [.ref 196], (zS0, R, I, J))) rfl ?_
    refine zEv_gr rfl rfl rfl (by decide) (hR (196) 3 (212) rfl) ?_
    refine zEv_k 5 (f' := (95, [some (.ref 196), some (.ref 7), some (.int x2), some (.long x3), none, some (.int x5)], [.long x3, .int ((I 196 6) + x2), .ref 212], (zS0, R, I, J))) rfl ?_
    refine zEv_las rfl rfl (by decide) h95 ?_
    refine zEv_k 2 (f' := (2, [some (.ref 196), some (.ref 7), some (.int (x2 + 1)), some (.long x3), none, some (.int x5)], [], (zS0, R, I, zu J 212 ((I 196 6) + x2).toNatClampNeg x3))) rfl ?_
    exact k1
  · refine zEv_k 1 (f' := (85, [some (.ref 196), some (.ref 22), some (.int x2), some (.long x3), none, some (.int x5)], [.ref 196], (zS0, R, I, J))) rfl ?_
    refine zEv_gr rfl rfl rfl (by decide) (hR (196) 3 (212) rfl) ?_
    refine zEv_k 5 (f' := (95, [some (.ref 196), some (.ref 22), some (.int x2), some (.long x3), none, some (.int x5)], [.long x3, .int ((I 196 6) + x2), .ref 212], (zS0, R, I, J))) rfl ?_
    refine zEv_las rfl rfl (by decide) h95 ?_
    refine zEv_k 2 (f' := (2, [some (.ref 196), some (.ref 22), some (.int (x2 + 1)), some (.long x3), none, some (.int x5)], [], (zS0, R, I, zu J 212 ((I 196 6) + x2).toNatClampNeg x3))) rfl ?_
    exact k1
theorem b_17_102 {X : zX} {d : Nat} {R : zR} {I : zI} {J : zJ} {c : Nat} {x2 : Int32} {x3 : Option Value} {x5 : Option Value} (ho : c = 7 ∨ c = 22) : zEv X d zm_17 (102, [some (.ref 196), some (.ref c), some (.int x2), x3, none, x5], [], (zS0, R, I, J)) (none, (zS0, R, I, J)) := by
  rcases ho with rfl | rfl
  · exact zEv_r rfl
  · exact zEv_r rfl
theorem b_18_0 {X : zX} {d : Nat} {R : zR} {I : zI} {J : zJ} {x1 : Int32} {x2 : Int32} (hR : zRok R) (h10 : zin ((I 196 6) + x1) 200) : zEv X d zm_18 (0, [some (.ref 196), some (.int x1), some (.int x2)], [], (zS0, R, I, J)) (some (.int ((Int64.toInt32 ((Int64.toUInt64 (J 212 ((I 196 6) + x1).toNatClampNeg) >>> ((Int32.toInt64 (3 * x2)).toUInt64 &&& Int64.toUInt64 63)).toInt64)) &&& 7)), (zS0, R, I, J)) := by
  refine zEv_k 1 (f' := (1, [some (.ref 196), some (.int x1), some (.int x2)], [.ref 196], (zS0, R, I, J))) rfl ?_
  refine zEv_gr rfl rfl rfl (by decide) (hR (196) 3 (212) rfl) ?_
  refine zEv_k 4 (f' := (10, [some (.ref 196), some (.int x1), some (.int x2)], [.int ((I 196 6) + x1), .ref 212], (zS0, R, I, J))) rfl ?_
  refine zEv_lal rfl rfl (by decide) h10 ?_
  refine zEv_k 7 (f' := (19, [some (.ref 196), some (.int x1), some (.int x2)], [.int ((Int64.toInt32 ((Int64.toUInt64 (J 212 ((I 196 6) + x1).toNatClampNeg) >>> ((Int32.toInt64 (3 * x2)).toUInt64 &&& Int64.toUInt64 63)).toInt64)) &&& 7)], (zS0, R, I, J))) rfl ?_
  exact zEv_r rfl
theorem b_19_0 {X : zX} {d : Nat} {R : zR} {I : zI} {J : zJ} {r : zA} {g : Nat} {x1 : Int32} (ho : g = 19 ∨ g = 34) (k1 : zEv X d zm_19 (2, [some (.ref 196), some (.int x1), some (.ref g), some (.int 0)], [], (zS0, R, I, J)) r) : zEv X d zm_19 (0, [some (.ref 196), some (.int x1), some (.ref g), none], [], (zS0, R, I, J)) r := by
  rcases ho with rfl | rfl
  · refine zEv_k 2 (f' := (2, [some (.ref 196), some (.int x1), some (.ref 19), some (.int 0)], [], (zS0, R, I, J))) rfl ?_
    exact k1
  · refine zEv_k 2 (f' := (2, [some (.ref 196), some (.int x1), some (.ref 34), some (.int 0)], [], (zS0, R, I, J))) rfl ?_
    exact k1
theorem b_19_2 {X : zX} {d : Nat} {R : zR} {I : zI} {J : zJ} {r : zA} {g : Nat} {x1 : Int32} {x3 : Int32} (ho : g = 19 ∨ g = 34) (k1 : (I g 0) ≤ x3 → zEv X d zm_19 (38, [some (.ref 196), some (.int x1), some (.ref g), some (.int x3)], [], (zS0, R, I, J)) r) (k2 : ¬ ((I g 0) ≤ x3) → zEv X d zm_19 (10, [some (.ref 196), some (.int x1), some (.ref g), some (.int x3)], [], (zS0, R, I, J)) r) : zEv X d zm_19 (2, [some (.ref 196), some (.int x1), some (.ref g), some (.int x3)], [], (zS0, R, I, J)) r := by
  rcases ho with rfl | rfl
  · refine zEv_k 4 (f' := (if (I 19 0) ≤ x3 then 38 else 10, [some (.ref 196), some (.int x1), some (.ref 19), some (.int x3)], [], (zS0, R, I, J))) rfl ?_
    exact zEv_if k1 k2
  · refine zEv_k 4 (f' := (if (I 34 0) ≤ x3 then 38 else 10, [some (.ref 196), some (.int x1), some (.ref 34), some (.int x3)], [], (zS0, R, I, J))) rfl ?_
    exact zEv_if k1 k2
theorem b_19_10 {X : zX} {d : Nat} {R : zR} {I : zI} {J : zJ} {r : zA} {g : Nat} {x1 : Int32} {x3 : Int32} {w : Int32} {R' : zR} {I' : zI} {J' : zJ} (hR : zRok R) (ho : g = 19 ∨ g = 34) (h17 : zin x3 8) (hc : zEv X d zm_18 (0, [some (.ref 196), some (.int x1), some (.int (I (g + 1) (x3).toNatClampNeg))], [], (zS0, R, I, J)) (some (.int w), (zS0, R', I', J'))) (k1 : zEv X (d + 1) zm_19 (21, [some (.ref 196), some (.int x1), some (.ref g), some (.int x3)], [.int w], (zS0, R', I', J')) r) : zEv X (d + 1) zm_19 (10, [some (.ref 196), some (.int x1), some (.ref g), some (.int x3)], [], (zS0, R, I, J)) r := by
  rcases ho with rfl | rfl
  · refine zEv_k 3 (f' := (13, [some (.ref 196), some (.int x1), some (.ref 19), some (.int x3)], [.ref 19, .int x1, .ref 196], (zS0, R, I, J))) rfl ?_
    refine zEv_gr rfl rfl rfl (by decide) (hR (19) 1 (19 + 1) rfl) ?_
    refine zEv_k 1 (f' := (17, [some (.ref 196), some (.int x1), some (.ref 19), some (.int x3)], [.int x3, .ref (19 + 1), .int x1, .ref 196], (zS0, R, I, J))) rfl ?_
    refine zEv_ial rfl rfl (by decide) h17 ?_
    exact zEv_c (fun _ => rfl) rfl hc rfl rfl k1
  · refine zEv_k 3 (f' := (13, [some (.ref 196), some (.int x1), some (.ref 34), some (.int x3)], [.ref 34, .int x1, .ref 196], (zS0, R, I, J))) rfl ?_
    refine zEv_gr rfl rfl rfl (by decide) (hR (34) 1 (34 + 1) rfl) ?_
    refine zEv_k 1 (f' := (17, [some (.ref 196), some (.int x1), some (.ref 34), some (.int x3)], [.int x3, .ref (34 + 1), .int x1, .ref 196], (zS0, R, I, J))) rfl ?_
    refine zEv_ial rfl rfl (by decide) h17 ?_
    exact zEv_c (fun _ => rfl) rfl hc rfl rfl k1
theorem b_19_21 {X : zX} {d : Nat} {R : zR} {I : zI} {J : zJ} {r : zA} {g : Nat} {x1 : Int32} {x3 : Int32} {s0 : Int32} (hR : zRok R) (ho : g = 19 ∨ g = 34) (h26 : zin x3 8) (k1 : s0 = (I (g + 2) (x3).toNatClampNeg) → zEv X d zm_19 (32, [some (.ref 196), some (.int x1), some (.ref g), some (.int x3)], [], (zS0, R, I, J)) r) (k2 : ¬ (s0 = (I (g + 2) (x3).toNatClampNeg)) → zEv X d zm_19 (30, [some (.ref 196), some (.int x1), some (.ref g), some (.int x3)], [], (zS0, R, I, J)) r) : zEv X d zm_19 (21, [some (.ref 196), some (.int x1), some (.ref g), some (.int x3)], [.int s0], (zS0, R, I, J)) r := by
  rcases ho with rfl | rfl
  · refine zEv_k 1 (f' := (22, [some (.ref 196), some (.int x1), some (.ref 19), some (.int x3)], [.ref 19, .int s0], (zS0, R, I, J))) rfl ?_
    refine zEv_gr rfl rfl rfl (by decide) (hR (19) 2 (19 + 2) rfl) ?_
    refine zEv_k 1 (f' := (26, [some (.ref 196), some (.int x1), some (.ref 19), some (.int x3)], [.int x3, .ref (19 + 2), .int s0], (zS0, R, I, J))) rfl ?_
    refine zEv_ial rfl rfl (by decide) h26 ?_
    refine zEv_k 1 (f' := (if s0 = (I (19 + 2) (x3).toNatClampNeg) then 32 else 30, [some (.ref 196), some (.int x1), some (.ref 19), some (.int x3)], [], (zS0, R, I, J))) rfl ?_
    exact zEv_if k1 k2
  · refine zEv_k 1 (f' := (22, [some (.ref 196), some (.int x1), some (.ref 34), some (.int x3)], [.ref 34, .int s0], (zS0, R, I, J))) rfl ?_
    refine zEv_gr rfl rfl rfl (by decide) (hR (34) 2 (34 + 2) rfl) ?_
    refine zEv_k 1 (f' := (26, [some (.ref 196), some (.int x1), some (.ref 34), some (.int x3)], [.int x3, .ref (34 + 2), .int s0], (zS0, R, I, J))) rfl ?_
    refine zEv_ial rfl rfl (by decide) h26 ?_
    refine zEv_k 1 (f' := (if s0 = (I (34 + 2) (x3).toNatClampNeg) then 32 else 30, [some (.ref 196), some (.int x1), some (.ref 34), some (.int x3)], [], (zS0, R, I, J))) rfl ?_
    exact zEv_if k1 k2
theorem b_19_30 {X : zX} {d : Nat} {R : zR} {I : zI} {J : zJ} {g : Nat} {x1 : Int32} {x3 : Int32} (ho : g = 19 ∨ g = 34) : zEv X d zm_19 (30, [some (.ref 196), some (.int x1), some (.ref g), some (.int x3)], [], (zS0, R, I, J)) (some (.int 0), (zS0, R, I, J)) := by
  rcases ho with rfl | rfl
  · refine zEv_k 1 (f' := (31, [some (.ref 196), some (.int x1), some (.ref 19), some (.int x3)], [.int 0], (zS0, R, I, J))) rfl ?_
    exact zEv_r rfl
  · refine zEv_k 1 (f' := (31, [some (.ref 196), some (.int x1), some (.ref 34), some (.int x3)], [.int 0], (zS0, R, I, J))) rfl ?_
    exact zEv_r rfl
theorem b_19_32 {X : zX} {d : Nat} {R : zR} {I : zI} {J : zJ} {r : zA} {g : Nat} {x1 : Int32} {x3 : Int32} (ho : g = 19 ∨ g = 34) (k1 : zEv X d zm_19 (2, [some (.ref 196), some (.int x1), some (.ref g), some (.int (x3 + 1))], [], (zS0, R, I, J)) r) : zEv X d zm_19 (32, [some (.ref 196), some (.int x1), some (.ref g), some (.int x3)], [], (zS0, R, I, J)) r := by
  rcases ho with rfl | rfl
  · refine zEv_k 2 (f' := (2, [some (.ref 196), some (.int x1), some (.ref 19), some (.int (x3 + 1))], [], (zS0, R, I, J))) rfl ?_
    exact k1
  · refine zEv_k 2 (f' := (2, [some (.ref 196), some (.int x1), some (.ref 34), some (.int (x3 + 1))], [], (zS0, R, I, J))) rfl ?_
    exact k1
theorem b_19_38 {X : zX} {d : Nat} {R : zR} {I : zI} {J : zJ} {g : Nat} {x1 : Int32} {x3 : Int32} (ho : g = 19 ∨ g = 34) : zEv X d zm_19 (38, [some (.ref 196), some (.int x1), some (.ref g), some (.int x3)], [], (zS0, R, I, J)) (some (.int 1), (zS0, R, I, J)) := by
  rcases ho with rfl | rfl
  · refine zEv_k 1 (f' := (39, [some (.ref 196), some (.int x1), some (.ref 19), some (.int x3)], [.int 1], (zS0, R, I, J))) rfl ?_
    exact zEv_r rfl
  · refine zEv_k 1 (f' := (39, [some (.ref 196), some (.int x1), some (.ref 34), some (.int x3)], [.int 1], (zS0, R, I, J))) rfl ?_
    exact zEv_r rfl
theorem b_20_0 {X : zX} {d : Nat} {R : zR} {I : zI} {J : zJ} {r : zA} (k1 : (I 196 0) ≤ 0 → zEv X d zm_20 (37, [some (.ref 196), none], [], (zS0, R, I, J)) r) (k2 : ¬ ((I 196 0) ≤ 0) → zEv X d zm_20 (7, [some (.ref 196), none], [], (zS0, R, I, J)) r) : zEv X d zm_20 (0, [some (.ref 196), none], [], (zS0, R, I, J)) r := by
  refine zEv_k 3 (f' := (if (I 196 0) ≤ 0 then 37 else 7, [some (.ref 196), none], [], (zS0, R, I, J))) rfl ?_
  exact zEv_if k1 k2
theorem b_20_7 {X : zX} {d : Nat} {R : zR} {I : zI} {J : zJ} {r : zA} (hR : zRok R) (h26 : zin ((I 196 0) - 1) 100) (k1 : ¬ ((I 197 (0 : Int32).toNatClampNeg) / 10) = ((I 197 ((I 196 0) - 1).toNatClampNeg) / 10) → zEv X d zm_20 (37, [some (.ref 196), none], [], (zS0, R, I, J)) r) (k2 : ¬ (¬ ((I 197 (0 : Int32).toNatClampNeg) / 10) = ((I 197 ((I 196 0) - 1).toNatClampNeg) / 10)) → zEv X d zm_20 (33, [some (.ref 196), none], [], (zS0, R, I, J)) r) : zEv X d zm_20 (7, [some (.ref 196), none], [], (zS0, R, I, J)) r := by
  refine zEv_k 1 (f' := (8, [some (.ref 196), none], [.ref 196], (zS0, R, I, J))) rfl ?_
  refine zEv_gr rfl rfl rfl (by decide) (hR (196) 1 (197) rfl) ?_
  refine zEv_k 1 (f' := (12, [some (.ref 196), none], [.int 0, .ref 197], (zS0, R, I, J))) rfl ?_
  refine zEv_ial rfl rfl (by decide) (by unfold zin; decide) ?_
  refine zEv_k 1 (f' := (15, [some (.ref 196), none], [.int 10, .int (I 197 (0 : Int32).toNatClampNeg)], (zS0, R, I, J))) rfl ?_
  refine zEv_div rfl (by decide) ?_
  refine zEv_k 1 (f' := (17, [some (.ref 196), none], [.ref 196, .int ((I 197 (0 : Int32).toNatClampNeg) / 10)], (zS0, R, I, J))) rfl ?_
  refine zEv_gr rfl rfl rfl (by decide) (hR (196) 1 (197) rfl) ?_
  refine zEv_k 4 (f' := (26, [some (.ref 196), none], [.int ((I 196 0) - 1), .ref 197, .int ((I 197 (0 : Int32).toNatClampNeg) / 10)], (zS0, R, I, J))) rfl ?_
  refine zEv_ial rfl rfl (by decide) h26 ?_
  refine zEv_k 1 (f' := (29, [some (.ref 196), none], [.int 10, .int (I 197 ((I 196 0) - 1).toNatClampNeg), .int ((I 197 (0 : Int32).toNatClampNeg) / 10)], (zS0, R, I, J))) rfl ?_
  refine zEv_div rfl (by decide) ?_
  refine zEv_k 1 (f' := (if ¬ ((I 197 (0 : Int32).toNatClampNeg) / 10) = ((I 197 ((I 196 0) - 1).toNatClampNeg) / 10) then 37 else 33, [some (.ref 196), none], [], (zS0, R, I, J))) rfl ?_
  exact zEv_if k1 k2
theorem b_20_33 {X : zX} {d : Nat} {R : zR} {I : zI} {J : zJ} {r : zA} (k1 : zEv X d zm_20 (38, [some (.ref 196), none], [.int 1], (zS0, R, I, J)) r) : zEv X d zm_20 (33, [some (.ref 196), none], [], (zS0, R, I, J)) r := by
  refine zEv_k 2 (f' := (38, [some (.ref 196), none], [.int 1], (zS0, R, I, J))) rfl ?_
  exact k1
theorem b_20_37 {X : zX} {d : Nat} {R : zR} {I : zI} {J : zJ} {r : zA} (k1 : zEv X d zm_20 (38, [some (.ref 196), none], [.int 0], (zS0, R, I, J)) r) : zEv X d zm_20 (37, [some (.ref 196), none], [], (zS0, R, I, J)) r := by
  refine zEv_k 1 (f' := (38, [some (.ref 196), none], [.int 0], (zS0, R, I, J))) rfl ?_
  exact k1
theorem b_20_38 {X : zX} {d : Nat} {R : zR} {I : zI} {J : zJ} {r : zA} {s0 : Int32} (k1 : s0 = 0 → zEv X d zm_20 (55, [some (.ref 196), some (.int s0)], [], (zS0, R, I, J)) r) (k2 : ¬ (s0 = 0) → zEv X d zm_20 (43, [some (.ref 196), some (.int s0)], [], (zS0, R, I, J)) r) : zEv X d zm_20 (38, [some (.ref 196), none], [.int s0], (zS0, R, I, J)) r := by
  refine zEv_k 3 (f' := (if s0 = 0 then 55 else 43, [some (.ref 196), some (.int s0)], [], (zS0, R, I, J))) rfl ?_
  exact zEv_if k1 k2
theorem b_20_43 {X : zX} {d : Nat} {R : zR} {I : zI} {J : zJ} {x1 : Int32} (hR : zRok R) : zEv X d zm_20 (43, [some (.ref 196), some (.int x1)], [], (zS0, R, I, J)) (some (.int ((I 197 (0 : Int32).toNatClampNeg) / 10)), (zS0, R, I, J)) := by
  refine zEv_k 1 (f' := (44, [some (.ref 196), some (.int x1)], [.ref 196], (zS0, R, I, J))) rfl ?_
  refine zEv_gr rfl rfl rfl (by decide) (hR (196) 1 (197) rfl) ?_
  refine zEv_k 1 (f' := (48, [some (.ref 196), some (.int x1)], [.int 0, .ref 197], (zS0, R, I, J))) rfl ?_
  refine zEv_ial rfl rfl (by decide) (by unfold zin; decide) ?_
  refine zEv_k 1 (f' := (51, [some (.ref 196), some (.int x1)], [.int 10, .int (I 197 (0 : Int32).toNatClampNeg)], (zS0, R, I, J))) rfl ?_
  refine zEv_div rfl (by decide) ?_
  refine zEv_k 1 (f' := (56, [some (.ref 196), some (.int x1)], [.int ((I 197 (0 : Int32).toNatClampNeg) / 10)], (zS0, R, I, J))) rfl ?_
  exact zEv_r rfl
theorem b_20_55 {X : zX} {d : Nat} {R : zR} {I : zI} {J : zJ} {x1 : Int32} : zEv X d zm_20 (55, [some (.ref 196), some (.int x1)], [], (zS0, R, I, J)) (some (.int (-1)), (zS0, R, I, J)) := by
  refine zEv_k 1 (f' := (56, [some (.ref 196), some (.int x1)], [.int (-1)], (zS0, R, I, J))) rfl ?_
  exact zEv_r rfl
theorem b_21_0 {X : zX} {d : Nat} {R : zR} {I : zI} {J : zJ} {r : zA} {w : Int32} {R' : zR} {I' : zI} {J' : zJ} (hc : zEv X d zm_22 (0, [some (.ref 196), none, none], [], (zS0, R, I, J)) (some (.int w), (zS0, R', I', J'))) (k1 : zEv X (d + 1) zm_21 (4, [some (.ref 196)], [.int w], (zS0, R', I', J')) r) : zEv X (d + 1) zm_21 (0, [some (.ref 196)], [], (zS0, R, I, J)) r := by
  refine zEv_k 1 (f' := (1, [some (.ref 196)], [.ref 196], (zS0, R, I, J))) rfl ?_
  exact zEv_c (fun _ => rfl) rfl hc rfl rfl k1
theorem b_21_4 {X : zX} {d : Nat} {R : zR} {I : zI} {J : zJ} {r : zA} {s0 : Int32} {w : Int32} {R' : zR} {I' : zI} {J' : zJ} (hc : zEv X d zm_23 (0, [some (.ref 196), none, none], [], (zS0, R, I, J)) (some (.int w), (zS0, R', I', J'))) (k1 : zEv X (d + 1) zm_21 (8, [some (.ref 196)], [.int w, .int s0], (zS0, R', I', J')) r) : zEv X (d + 1) zm_21 (4, [some (.ref 196)], [.int s0], (zS0, R, I, J)) r := by
  refine zEv_k 1 (f' := (5, [some (.ref 196)], [.ref 196, .int s0], (zS0, R, I, J))) rfl ?_
  exact zEv_c (fun _ => rfl) rfl hc rfl rfl k1
theorem b_21_8 {X : zX} {d : Nat} {R : zR} {I : zI} {J : zJ} {r : zA} {s0 : Int32} {s1 : Int32} (k1 : ¬ s0 = s1 → zEv X d zm_21 (18, [some (.ref 196)], [], (zS0, R, I, J)) r) (k2 : ¬ (¬ s0 = s1) → zEv X d zm_21 (11, [some (.ref 196)], [], (zS0, R, I, J)) r) : zEv X d zm_21 (8, [some (.ref 196)], [.int s1, .int s0], (zS0, R, I, J)) r := by
  refine zEv_k 1 (f' := (if ¬ s0 = s1 then 18 else 11, [some (.ref 196)], [], (zS0, R, I, J))) rfl ?_
  exact zEv_if k1 k2
theorem b_21_11 {X : zX} {d : Nat} {R : zR} {I : zI} {J : zJ} {r : zA} {w : Int32} {R' : zR} {I' : zI} {J' : zJ} (hc : zEv X d zm_22 (0, [some (.ref 196), none, none], [], (zS0, R, I, J)) (some (.int w), (zS0, R', I', J'))) (k1 : zEv X (d + 1) zm_21 (15, [some (.ref 196)], [.int w], (zS0, R', I', J')) r) : zEv X (d + 1) zm_21 (11, [some (.ref 196)], [], (zS0, R, I, J)) r := by
  refine zEv_k 1 (f' := (12, [some (.ref 196)], [.ref 196], (zS0, R, I, J))) rfl ?_
  exact zEv_c (fun _ => rfl) rfl hc rfl rfl k1
theorem b_21_15 {X : zX} {d : Nat} {R : zR} {I : zI} {J : zJ} {s0 : Int32} : zEv X d zm_21 (15, [some (.ref 196)], [.int s0], (zS0, R, I, J)) (some (.int s0), (zS0, R, I, J)) := by
  refine zEv_k 1 (f' := (19, [some (.ref 196)], [.int s0], (zS0, R, I, J))) rfl ?_
  exact zEv_r rfl
theorem b_21_18 {X : zX} {d : Nat} {R : zR} {I : zI} {J : zJ}  : zEv X d zm_21 (18, [some (.ref 196)], [], (zS0, R, I, J)) (some (.int (-1)), (zS0, R, I, J)) := by
  refine zEv_k 1 (f' := (19, [some (.ref 196)], [.int (-1)], (zS0, R, I, J))) rfl ?_
  exact zEv_r rfl
theorem b_22_0 {X : zX} {d : Nat} {R : zR} {I : zI} {J : zJ} {r : zA} (k1 : (I 196 0) ≤ 0 → zEv X d zm_22 (19, [some (.ref 196), none, none], [], (zS0, R, I, J)) r) (k2 : ¬ ((I 196 0) ≤ 0) → zEv X d zm_22 (7, [some (.ref 196), none, none], [], (zS0, R, I, J)) r) : zEv X d zm_22 (0, [some (.ref 196), none, none], [], (zS0, R, I, J)) r := by
  refine zEv_k 3 (f' := (if (I 196 0) ≤ 0 then 19 else 7, [some (.ref 196), none, none], [], (zS0, R, I, J))) rfl ?_
  exact zEv_if k1 k2
theorem b_22_7 {X : zX} {d : Nat} {R : zR} {I : zI} {J : zJ} {r : zA} (hR : zRok R) (k1 : zEv X d zm_22 (20, [some (.ref 196), none, none], [.int ((I 197 (0 : Int32).toNatClampNeg) - (I 197 (0 : Int32).toNatClampNeg) / 10 * 10)], (zS0, R, I, J)) r) : zEv X d zm_22 (7, [some (.ref 196), none, none], [], (zS0, R, I, J)) r := by
  refine zEv_k 1 (f' := (8, [some (.ref 196), none, none], [.ref 196], (zS0, R, I, J))) rfl ?_
  refine zEv_gr rfl rfl rfl (by decide) (hR (196) 1 (197) rfl) ?_
  refine zEv_k 1 (f' := (12, [some (.ref 196), none, none], [.int 0, .ref 197], (zS0, R, I, J))) rfl ?_
  refine zEv_ial rfl rfl (by decide) (by unfold zin; decide) ?_
  refine zEv_k 1 (f' := (15, [some (.ref 196), none, none], [.int 10, .int (I 197 (0 : Int32).toNatClampNeg)], (zS0, R, I, J))) rfl ?_
  refine zEv_rem rfl (by decide) ?_
  refine zEv_k 1 (f' := (20, [some (.ref 196), none, none], [.int ((I 197 (0 : Int32).toNatClampNeg) - (I 197 (0 : Int32).toNatClampNeg) / 10 * 10)], (zS0, R, I, J))) rfl ?_
  exact k1
theorem b_22_19 {X : zX} {d : Nat} {R : zR} {I : zI} {J : zJ} {r : zA} (k1 : zEv X d zm_22 (20, [some (.ref 196), none, none], [.int (-1)], (zS0, R, I, J)) r) : zEv X d zm_22 (19, [some (.ref 196), none, none], [], (zS0, R, I, J)) r := by
  refine zEv_k 1 (f' := (20, [some (.ref 196), none, none], [.int (-1)], (zS0, R, I, J))) rfl ?_
  exact k1
theorem b_22_20 {X : zX} {d : Nat} {R : zR} {I : zI} {J : zJ} {r : zA} {s0 : Int32} (k1 : zEv X d zm_22 (23, [some (.ref 196), some (.int s0), some (.int 0)], [], (zS0, R, I, J)) r) : zEv X d zm_22 (20, [some (.ref 196), none, none], [.int s0], (zS0, R, I, J)) r := by
  refine zEv_k 3 (f' := (23, [some (.ref 196), some (.int s0), some (.int 0)], [], (zS0, R, I, J))) rfl ?_
  exact k1
theorem b_22_23 {X : zX} {d : Nat} {R : zR} {I : zI} {J : zJ} {r : zA} {x1 : Int32} {x2 : Int32} (k1 : (I 196 0) ≤ x2 → zEv X d zm_22 (51, [some (.ref 196), some (.int x1), some (.int x2)], [], (zS0, R, I, J)) r) (k2 : ¬ ((I 196 0) ≤ x2) → zEv X d zm_22 (31, [some (.ref 196), some (.int x1), some (.int x2)], [], (zS0, R, I, J)) r) : zEv X d zm_22 (23, [some (.ref 196), some (.int x1), some (.int x2)], [], (zS0, R, I, J)) r := by
  refine zEv_k 4 (f' := (if (I 196 0) ≤ x2 then 51 else 31, [some (.ref 196), some (.int x1), some (.int x2)], [], (zS0, R, I, J))) rfl ?_
  exact zEv_if k1 k2
theorem b_22_31 {X : zX} {d : Nat} {R : zR} {I : zI} {J : zJ} {r : zA} {x1 : Int32} {x2 : Int32} (hR : zRok R) (h37 : zin x2 100) (k1 : zEv X d zm_22 (23, [some (.ref 196), some (.int (if ((I 197 (x2).toNatClampNeg) - (I 197 (x2).toNatClampNeg) / 10 * 10) < x1 then ((I 197 (x2).toNatClampNeg) - (I 197 (x2).toNatClampNeg) / 10 * 10) else x1)), some (.int (x2 + 1))], [], (zS0, R, I, J)) r) : zEv X d zm_22 (31, [some (.ref 196), some (.int x1), some (.int x2)], [], (zS0, R, I, J)) r := by
  refine zEv_k 2 (f' := (33, [some (.ref 196), some (.int x1), some (.int x2)], [.ref 196, .int x1], (zS0, R, I, J))) rfl ?_
  refine zEv_gr rfl rfl rfl (by decide) (hR (196) 1 (197) rfl) ?_
  refine zEv_k 1 (f' := (37, [some (.ref 196), some (.int x1), some (.int x2)], [.int x2, .ref 197, .int x1], (zS0, R, I, J))) rfl ?_
  refine zEv_ial rfl rfl (by decide) h37 ?_
  refine zEv_k 1 (f' := (40, [some (.ref 196), some (.int x1), some (.int x2)], [.int 10, .int (I 197 (x2).toNatClampNeg), .int x1], (zS0, R, I, J))) rfl ?_
  refine zEv_rem rfl (by decide) ?_
  refine zEv_k 4 (f' := (23, [some (.ref 196), some (.int (if ((I 197 (x2).toNatClampNeg) - (I 197 (x2).toNatClampNeg) / 10 * 10) < x1 then ((I 197 (x2).toNatClampNeg) - (I 197 (x2).toNatClampNeg) / 10 * 10) else x1)), some (.int (x2 + 1))], [], (zS0, R, I, J))) rfl ?_
  exact k1
theorem b_22_51 {X : zX} {d : Nat} {R : zR} {I : zI} {J : zJ} {x1 : Int32} {x2 : Int32} : zEv X d zm_22 (51, [some (.ref 196), some (.int x1), some (.int x2)], [], (zS0, R, I, J)) (some (.int x1), (zS0, R, I, J)) := by
  refine zEv_k 1 (f' := (52, [some (.ref 196), some (.int x1), some (.int x2)], [.int x1], (zS0, R, I, J))) rfl ?_
  exact zEv_r rfl
theorem b_23_0 {X : zX} {d : Nat} {R : zR} {I : zI} {J : zJ} {r : zA} (k1 : zEv X d zm_23 (4, [some (.ref 196), some (.int (-1)), some (.int 0)], [], (zS0, R, I, J)) r) : zEv X d zm_23 (0, [some (.ref 196), none, none], [], (zS0, R, I, J)) r := by
  refine zEv_k 4 (f' := (4, [some (.ref 196), some (.int (-1)), some (.int 0)], [], (zS0, R, I, J))) rfl ?_
  exact k1
theorem b_23_4 {X : zX} {d : Nat} {R : zR} {I : zI} {J : zJ} {r : zA} {x1 : Int32} {x2 : Int32} (k1 : (I 196 0) ≤ x2 → zEv X d zm_23 (32, [some (.ref 196), some (.int x1), some (.int x2)], [], (zS0, R, I, J)) r) (k2 : ¬ ((I 196 0) ≤ x2) → zEv X d zm_23 (12, [some (.ref 196), some (.int x1), some (.int x2)], [], (zS0, R, I, J)) r) : zEv X d zm_23 (4, [some (.ref 196), some (.int x1), some (.int x2)], [], (zS0, R, I, J)) r := by
  refine zEv_k 4 (f' := (if (I 196 0) ≤ x2 then 32 else 12, [some (.ref 196), some (.int x1), some (.int x2)], [], (zS0, R, I, J))) rfl ?_
  exact zEv_if k1 k2
theorem b_23_12 {X : zX} {d : Nat} {R : zR} {I : zI} {J : zJ} {r : zA} {x1 : Int32} {x2 : Int32} (hR : zRok R) (h18 : zin x2 100) (k1 : zEv X d zm_23 (4, [some (.ref 196), some (.int (if x1 < ((I 197 (x2).toNatClampNeg) - (I 197 (x2).toNatClampNeg) / 10 * 10) then ((I 197 (x2).toNatClampNeg) - (I 197 (x2).toNatClampNeg) / 10 * 10) else x1)), some (.int (x2 + 1))], [], (zS0, R, I, J)) r) : zEv X d zm_23 (12, [some (.ref 196), some (.int x1), some (.int x2)], [], (zS0, R, I, J)) r := by
  refine zEv_k 2 (f' := (14, [some (.ref 196), some (.int x1), some (.int x2)], [.ref 196, .int x1], (zS0, R, I, J))) rfl ?_
  refine zEv_gr rfl rfl rfl (by decide) (hR (196) 1 (197) rfl) ?_
  refine zEv_k 1 (f' := (18, [some (.ref 196), some (.int x1), some (.int x2)], [.int x2, .ref 197, .int x1], (zS0, R, I, J))) rfl ?_
  refine zEv_ial rfl rfl (by decide) h18 ?_
  refine zEv_k 1 (f' := (21, [some (.ref 196), some (.int x1), some (.int x2)], [.int 10, .int (I 197 (x2).toNatClampNeg), .int x1], (zS0, R, I, J))) rfl ?_
  refine zEv_rem rfl (by decide) ?_
  refine zEv_k 4 (f' := (4, [some (.ref 196), some (.int (if x1 < ((I 197 (x2).toNatClampNeg) - (I 197 (x2).toNatClampNeg) / 10 * 10) then ((I 197 (x2).toNatClampNeg) - (I 197 (x2).toNatClampNeg) / 10 * 10) else x1)), some (.int (x2 + 1))], [], (zS0, R, I, J))) rfl ?_
  exact k1
theorem b_23_32 {X : zX} {d : Nat} {R : zR} {I : zI} {J : zJ} {x1 : Int32} {x2 : Int32} : zEv X d zm_23 (32, [some (.ref 196), some (.int x1), some (.int x2)], [], (zS0, R, I, J)) (some (.int x1), (zS0, R, I, J)) := by
  refine zEv_k 1 (f' := (33, [some (.ref 196), some (.int x1), some (.int x2)], [.int x1], (zS0, R, I, J))) rfl ?_
  exact zEv_r rfl
theorem b_24_0 {X : zX} {d : Nat} {R : zR} {I : zI} {J : zJ} {r : zA} {x1 : Int32} (k1 : zEv X d zm_24 (4, [some (.ref 196), some (.int x1), some (.int 0), some (.int 0)], [], (zS0, R, I, J)) r) : zEv X d zm_24 (0, [some (.ref 196), some (.int x1), none, none], [], (zS0, R, I, J)) r := by
  refine zEv_k 4 (f' := (4, [some (.ref 196), some (.int x1), some (.int 0), some (.int 0)], [], (zS0, R, I, J))) rfl ?_
  exact k1
theorem b_24_4 {X : zX} {d : Nat} {R : zR} {I : zI} {J : zJ} {r : zA} {x1 : Int32} {x2 : Int32} {x3 : Int32} (k1 : (I 196 0) ≤ x3 → zEv X d zm_24 (34, [some (.ref 196), some (.int x1), some (.int x2), some (.int x3)], [], (zS0, R, I, J)) r) (k2 : ¬ ((I 196 0) ≤ x3) → zEv X d zm_24 (12, [some (.ref 196), some (.int x1), some (.int x2), some (.int x3)], [], (zS0, R, I, J)) r) : zEv X d zm_24 (4, [some (.ref 196), some (.int x1), some (.int x2), some (.int x3)], [], (zS0, R, I, J)) r := by
  refine zEv_k 4 (f' := (if (I 196 0) ≤ x3 then 34 else 12, [some (.ref 196), some (.int x1), some (.int x2), some (.int x3)], [], (zS0, R, I, J))) rfl ?_
  exact zEv_if k1 k2
theorem b_24_12 {X : zX} {d : Nat} {R : zR} {I : zI} {J : zJ} {r : zA} {x1 : Int32} {x2 : Int32} {x3 : Int32} (hR : zRok R) (h17 : zin x3 100) (k1 : ¬ ((I 197 (x3).toNatClampNeg) / 10) = x1 → zEv X d zm_24 (28, [some (.ref 196), some (.int x1), some (.int x2), some (.int x3)], [], (zS0, R, I, J)) r) (k2 : ¬ (¬ ((I 197 (x3).toNatClampNeg) / 10) = x1) → zEv X d zm_24 (25, [some (.ref 196), some (.int x1), some (.int x2), some (.int x3)], [], (zS0, R, I, J)) r) : zEv X d zm_24 (12, [some (.ref 196), some (.int x1), some (.int x2), some (.int x3)], [], (zS0, R, I, J)) r := by
  refine zEv_k 1 (f' := (13, [some (.ref 196), some (.int x1), some (.int x2), some (.int x3)], [.ref 196], (zS0, R, I, J))) rfl ?_
  refine zEv_gr rfl rfl rfl (by decide) (hR (196) 1 (197) rfl) ?_
  refine zEv_k 1 (f' := (17, [some (.ref 196), some (.int x1), some (.int x2), some (.int x3)], [.int x3, .ref 197], (zS0, R, I, J))) rfl ?_
  refine zEv_ial rfl rfl (by decide) h17 ?_
  refine zEv_k 1 (f' := (20, [some (.ref 196), some (.int x1), some (.int x2), some (.int x3)], [.int 10, .int (I 197 (x3).toNatClampNeg)], (zS0, R, I, J))) rfl ?_
  refine zEv_div rfl (by decide) ?_
  refine zEv_k 2 (f' := (if ¬ ((I 197 (x3).toNatClampNeg) / 10) = x1 then 28 else 25, [some (.ref 196), some (.int x1), some (.int x2), some (.int x3)], [], (zS0, R, I, J))) rfl ?_
  exact zEv_if k1 k2
theorem b_24_25 {X : zX} {d : Nat} {R : zR} {I : zI} {J : zJ} {r : zA} {x1 : Int32} {x2 : Int32} {x3 : Int32} (k1 : zEv X d zm_24 (28, [some (.ref 196), some (.int x1), some (.int (x2 + 1)), some (.int x3)], [], (zS0, R, I, J)) r) : zEv X d zm_24 (25, [some (.ref 196), some (.int x1), some (.int x2), some (.int x3)], [], (zS0, R, I, J)) r := by
  refine zEv_k 1 (f' := (28, [some (.ref 196), some (.int x1), some (.int (x2 + 1)), some (.int x3)], [], (zS0, R, I, J))) rfl ?_
  exact k1
theorem b_24_28 {X : zX} {d : Nat} {R : zR} {I : zI} {J : zJ} {r : zA} {x1 : Int32} {x2 : Int32} {x3 : Int32} (k1 : zEv X d zm_24 (4, [some (.ref 196), some (.int x1), some (.int x2), some (.int (x3 + 1))], [], (zS0, R, I, J)) r) : zEv X d zm_24 (28, [some (.ref 196), some (.int x1), some (.int x2), some (.int x3)], [], (zS0, R, I, J)) r := by
  refine zEv_k 2 (f' := (4, [some (.ref 196), some (.int x1), some (.int x2), some (.int (x3 + 1))], [], (zS0, R, I, J))) rfl ?_
  exact k1
theorem b_24_34 {X : zX} {d : Nat} {R : zR} {I : zI} {J : zJ} {x1 : Int32} {x2 : Int32} {x3 : Int32} : zEv X d zm_24 (34, [some (.ref 196), some (.int x1), some (.int x2), some (.int x3)], [], (zS0, R, I, J)) (some (.int x2), (zS0, R, I, J)) := by
  refine zEv_k 1 (f' := (35, [some (.ref 196), some (.int x1), some (.int x2), some (.int x3)], [.int x2], (zS0, R, I, J))) rfl ?_
  exact zEv_r rfl
theorem b_25_0 {X : zX} {d : Nat} {R : zR} {I : zI} {J : zJ} {r : zA} (k1 : zEv X d zm_25 (7, [some (.ref 196), some (.int 101), some (.int (-1)), some (.int 1), none], [], (zS0, R, I, J)) r) : zEv X d zm_25 (0, [some (.ref 196), none, none, none, none], [], (zS0, R, I, J)) r := by
  refine zEv_k 6 (f' := (7, [some (.ref 196), some (.int 101), some (.int (-1)), some (.int 1), none], [], (zS0, R, I, J))) rfl ?_
  exact k1
theorem b_25_7 {X : zX} {d : Nat} {R : zR} {I : zI} {J : zJ} {r : zA} {x1 : Int32} {x2 : Int32} {x3 : Int32} {x4 : Option Value} (k1 : (I 196 0) ≤ 0 → zEv X d zm_25 (44, [some (.ref 196), some (.int x1), some (.int x2), some (.int x3), x4], [], (zS0, R, I, J)) r) (k2 : ¬ ((I 196 0) ≤ 0) → zEv X d zm_25 (14, [some (.ref 196), some (.int x1), some (.int x2), some (.int x3), x4], [], (zS0, R, I, J)) r) : zEv X d zm_25 (7, [some (.ref 196), some (.int x1), some (.int x2), some (.int x3), x4], [], (zS0, R, I, J)) r := by
  refine zEv_k 3 (f' := (if (I 196 0) ≤ 0 then 44 else 14, [some (.ref 196), some (.int x1), some (.int x2), some (.int x3), x4], [], (zS0, R, I, J))) rfl ?_
  exact zEv_if k1 k2
theorem b_25_14 {X : zX} {d : Nat} {R : zR} {I : zI} {J : zJ} {r : zA} {x1 : Int32} {x2 : Int32} {x3 : Int32} {x4 : Option Value} (k1 : 20 < x3 → zEv X d zm_25 (44, [some (.ref 196), some (.int x1), some (.int x2), some (.int x3), x4], [], (zS0, R, I, J)) r) (k2 : ¬ (20 < x3) → zEv X d zm_25 (20, [some (.ref 196), some (.int x1), some (.int x2), some (.int x3), x4], [], (zS0, R, I, J)) r) : zEv X d zm_25 (14, [some (.ref 196), some (.int x1), some (.int x2), some (.int x3), x4], [], (zS0, R, I, J)) r := by
  refine zEv_k 3 (f' := (if 20 < x3 then 44 else 20, [some (.ref 196), some (.int x1), some (.int x2), some (.int x3), x4], [], (zS0, R, I, J))) rfl ?_
  exact zEv_if k1 k2
theorem b_25_20 {X : zX} {d : Nat} {R : zR} {I : zI} {J : zJ} {r : zA} {x1 : Int32} {x2 : Int32} {x3 : Int32} {x4 : Option Value} {w : Int32} {R' : zR} {I' : zI} {J' : zJ} (hc : zEv X d zm_26 (0, [some (.ref 196), some (.int x3), none, none, none], [], (zS0, R, I, J)) (some (.int w), (zS0, R', I', J'))) (k1 : zEv X (d + 1) zm_25 (25, [some (.ref 196), some (.int x1), some (.int x2), some (.int x3), x4], [.int w], (zS0, R', I', J')) r) : zEv X (d + 1) zm_25 (20, [some (.ref 196), some (.int x1), some (.int x2), some (.int x3), x4], [], (zS0, R, I, J)) r := by
  refine zEv_k 2 (f' := (22, [some (.ref 196), some (.int x1), some (.int x2), some (.int x3), x4], [.int x3, .ref 196], (zS0, R, I, J))) rfl ?_
  exact zEv_c (fun _ => rfl) rfl hc rfl rfl k1
theorem b_25_25 {X : zX} {d : Nat} {R : zR} {I : zI} {J : zJ} {r : zA} {x1 : Int32} {x2 : Int32} {x3 : Int32} {x4 : Option Value} {s0 : Int32} (k1 : x1 ≤ s0 → zEv X d zm_25 (38, [some (.ref 196), some (.int x1), some (.int x2), some (.int x3), some (.int s0)], [], (zS0, R, I, J)) r) (k2 : ¬ (x1 ≤ s0) → zEv X d zm_25 (33, [some (.ref 196), some (.int x1), some (.int x2), some (.int x3), some (.int s0)], [], (zS0, R, I, J)) r) : zEv X d zm_25 (25, [some (.ref 196), some (.int x1), some (.int x2), some (.int x3), x4], [.int s0], (zS0, R, I, J)) r := by
  refine zEv_k 4 (f' := (if x1 ≤ s0 then 38 else 33, [some (.ref 196), some (.int x1), some (.int x2), some (.int x3), some (.int s0)], [], (zS0, R, I, J))) rfl ?_
  exact zEv_if k1 k2
theorem b_25_33 {X : zX} {d : Nat} {R : zR} {I : zI} {J : zJ} {r : zA} {x1 : Int32} {x2 : Int32} {x3 : Int32} {x4 : Int32} (k1 : zEv X d zm_25 (38, [some (.ref 196), some (.int x4), some (.int x3), some (.int x3), some (.int x4)], [], (zS0, R, I, J)) r) : zEv X d zm_25 (33, [some (.ref 196), some (.int x1), some (.int x2), some (.int x3), some (.int x4)], [], (zS0, R, I, J)) r := by
  refine zEv_k 4 (f' := (38, [some (.ref 196), some (.int x4), some (.int x3), some (.int x3), some (.int x4)], [], (zS0, R, I, J))) rfl ?_
  exact k1
theorem b_25_38 {X : zX} {d : Nat} {R : zR} {I : zI} {J : zJ} {r : zA} {x1 : Int32} {x2 : Int32} {x3 : Int32} {x4 : Int32} (k1 : zEv X d zm_25 (7, [some (.ref 196), some (.int x1), some (.int x2), some (.int (x3 + 1)), some (.int x4)], [], (zS0, R, I, J)) r) : zEv X d zm_25 (38, [some (.ref 196), some (.int x1), some (.int x2), some (.int x3), some (.int x4)], [], (zS0, R, I, J)) r := by
  refine zEv_k 2 (f' := (7, [some (.ref 196), some (.int x1), some (.int x2), some (.int (x3 + 1)), some (.int x4)], [], (zS0, R, I, J))) rfl ?_
  exact k1
theorem b_25_44 {X : zX} {d : Nat} {R : zR} {I : zI} {J : zJ} {x1 : Int32} {x2 : Int32} {x3 : Int32} {x4 : Option Value} : zEv X d zm_25 (44, [some (.ref 196), some (.int x1), some (.int x2), some (.int x3), x4], [], (zS0, R, I, J)) (some (.int x2), (zS0, R, I, J)) := by
  refine zEv_k 1 (f' := (45, [some (.ref 196), some (.int x1), some (.int x2), some (.int x3), x4], [.int x2], (zS0, R, I, J))) rfl ?_
  exact zEv_r rfl
theorem b_26_0 {X : zX} {d : Nat} {R : zR} {I : zI} {J : zJ} {r : zA} {x1 : Int32} (k1 : zEv X d zm_26 (2, [some (.ref 196), some (.int x1), some (.int 0), none, none], [], (zS0, R, I, J)) r) : zEv X d zm_26 (0, [some (.ref 196), some (.int x1), none, none, none], [], (zS0, R, I, J)) r := by
  refine zEv_k 2 (f' := (2, [some (.ref 196), some (.int x1), some (.int 0), none, none], [], (zS0, R, I, J))) rfl ?_
  exact k1
theorem b_26_2 {X : zX} {d : Nat} {R : zR} {I : zI} {J : zJ} {r : zA} {x1 : Int32} {x2 : Int32} (k1 : 7 < x2 → zEv X d zm_26 (21, [some (.ref 196), some (.int x1), some (.int x2), none, none], [], (zS0, R, I, J)) r) (k2 : ¬ (7 < x2) → zEv X d zm_26 (8, [some (.ref 196), some (.int x1), some (.int x2), none, none], [], (zS0, R, I, J)) r) : zEv X d zm_26 (2, [some (.ref 196), some (.int x1), some (.int x2), none, none], [], (zS0, R, I, J)) r := by
  refine zEv_k 3 (f' := (if 7 < x2 then 21 else 8, [some (.ref 196), some (.int x1), some (.int x2), none, none], [], (zS0, R, I, J))) rfl ?_
  exact zEv_if k1 k2
theorem b_26_8 {X : zX} {d : Nat} {R : zR} {I : zI} {J : zJ} {r : zA} {x1 : Int32} {x2 : Int32} (hR : zRok R) (h14 : zin x2 8) (k1 : zEv X d zm_26 (2, [some (.ref 196), some (.int x1), some (.int (x2 + 1)), none, none], [], (zS0, R, zu I 214 (x2).toNatClampNeg 0, J)) r) : zEv X d zm_26 (8, [some (.ref 196), some (.int x1), some (.int x2), none, none], [], (zS0, R, I, J)) r := by
  refine zEv_k 1 (f' := (9, [some (.ref 196), some (.int x1), some (.int x2), none, none], [.ref 196], (zS0, R, I, J))) rfl ?_
  refine zEv_gr rfl rfl rfl (by decide) (hR (196) 5 (214) rfl) ?_
  refine zEv_k 2 (f' := (14, [some (.ref 196), some (.int x1), some (.int x2), none, none], [.int 0, .int x2, .ref 214], (zS0, R, I, J))) rfl ?_
  refine zEv_ias rfl rfl (by decide) h14 ?_
  refine zEv_k 2 (f' := (2, [some (.ref 196), some (.int x1), some (.int (x2 + 1)), none, none], [], (zS0, R, zu I 214 (x2).toNatClampNeg 0, J))) rfl ?_
  exact k1
theorem b_26_21 {X : zX} {d : Nat} {R : zR} {I : zI} {J : zJ} {r : zA} {x1 : Int32} {x2 : Int32} (k1 : zEv X d zm_26 (25, [some (.ref 196), some (.int x1), some (.int 0), some (.int 0), none], [], (zS0, R, I, J)) r) : zEv X d zm_26 (21, [some (.ref 196), some (.int x1), some (.int x2), none, none], [], (zS0, R, I, J)) r := by
  refine zEv_k 4 (f' := (25, [some (.ref 196), some (.int x1), some (.int 0), some (.int 0), none], [], (zS0, R, I, J))) rfl ?_
  exact k1
theorem b_26_25 {X : zX} {d : Nat} {R : zR} {I : zI} {J : zJ} {r : zA} {x1 : Int32} {x2 : Int32} {x3 : Int32} {x4 : Option Value} (k1 : (I 196 0) ≤ x3 → zEv X d zm_26 (75, [some (.ref 196), some (.int x1), some (.int x2), some (.int x3), x4], [], (zS0, R, I, J)) r) (k2 : ¬ ((I 196 0) ≤ x3) → zEv X d zm_26 (33, [some (.ref 196), some (.int x1), some (.int x2), some (.int x3), x4], [], (zS0, R, I, J)) r) : zEv X d zm_26 (25, [some (.ref 196), some (.int x1), some (.int x2), some (.int x3), x4], [], (zS0, R, I, J)) r := by
  refine zEv_k 4 (f' := (if (I 196 0) ≤ x3 then 75 else 33, [some (.ref 196), some (.int x1), some (.int x2), some (.int x3), x4], [], (zS0, R, I, J))) rfl ?_
  exact zEv_if k1 k2
theorem b_26_33 {X : zX} {d : Nat} {R : zR} {I : zI} {J : zJ} {r : zA} {x1 : Int32} {x2 : Int32} {x3 : Int32} {x4 : Option Value} {w : Int32} {R' : zR} {I' : zI} {J' : zJ} (hR : zRok R) (h39 : zin x3 100) (hc : zEv X d zm_18 (0, [some (.ref 196), some (.int (I 197 (x3).toNatClampNeg)), some (.int x1)], [], (zS0, R, I, J)) (some (.int w), (zS0, R', I', J'))) (k1 : zEv X (d + 1) zm_26 (44, [some (.ref 196), some (.int x1), some (.int x2), some (.int x3), x4], [.int w], (zS0, R', I', J')) r) : zEv X (d + 1) zm_26 (33, [some (.ref 196), some (.int x1), some (.int x2), some (.int x3), x4], [], (zS0, R, I, J)) r := by
  refine zEv_k 2 (f' := (35, [some (.ref 196), some (.int x1), some (.int x2), some (.int x3), x4], [.ref 196, .ref 196], (zS0, R, I, J))) rfl ?_
  refine zEv_gr rfl rfl rfl (by decide) (hR (196) 1 (197) rfl) ?_
  refine zEv_k 1 (f' := (39, [some (.ref 196), some (.int x1), some (.int x2), some (.int x3), x4], [.int x3, .ref 197, .ref 196], (zS0, R, I, J))) rfl ?_
  refine zEv_ial rfl rfl (by decide) h39 ?_
  refine zEv_k 1 (f' := (41, [some (.ref 196), some (.int x1), some (.int x2), some (.int x3), x4], [.int x1, .int (I 197 (x3).toNatClampNeg), .ref 196], (zS0, R, I, J))) rfl ?_
  exact zEv_c (fun _ => rfl) rfl hc rfl rfl k1
theorem b_26_44 {X : zX} {d : Nat} {R : zR} {I : zI} {J : zJ} {r : zA} {x1 : Int32} {x2 : Int32} {x3 : Int32} {x4 : Option Value} {s0 : Int32} (hR : zRok R) (h53 : zin s0 8) (h56 : zin s0 8) (h64 : zin s0 8) (k1 : zEv X d zm_26 (25, [some (.ref 196), some (.int x1), some (.int (if x2 < ((zu I 214 (s0).toNatClampNeg ((I 214 (s0).toNatClampNeg) + 1)) 214 (s0).toNatClampNeg) then ((zu I 214 (s0).toNatClampNeg ((I 214 (s0).toNatClampNeg) + 1)) 214 (s0).toNatClampNeg) else x2)), some (.int (x3 + 1)), some (.int s0)], [], (zS0, R, zu I 214 (s0).toNatClampNeg ((I 214 (s0).toNatClampNeg) + 1), J)) r) : zEv X d zm_26 (44, [some (.ref 196), some (.int x1), some (.int x2), some (.int x3), x4], [.int s0], (zS0, R, I, J)) r := by
  refine zEv_k 2 (f' := (47, [some (.ref 196), some (.int x1), some (.int x2), some (.int x3), some (.int s0)], [.ref 196], (zS0, R, I, J))) rfl ?_
  refine zEv_gr rfl rfl rfl (by decide) (hR (196) 5 (214) rfl) ?_
  refine zEv_k 2 (f' := (53, [some (.ref 196), some (.int x1), some (.int x2), some (.int x3), some (.int s0)], [.int s0, .ref 214, .int s0, .ref 214], (zS0, R, I, J))) rfl ?_
  refine zEv_ial rfl rfl (by decide) h53 ?_
  refine zEv_k 2 (f' := (56, [some (.ref 196), some (.int x1), some (.int x2), some (.int x3), some (.int s0)], [.int ((I 214 (s0).toNatClampNeg) + 1), .int s0, .ref 214], (zS0, R, I, J))) rfl ?_
  refine zEv_ias rfl rfl (by decide) h56 ?_
  refine zEv_k 2 (f' := (59, [some (.ref 196), some (.int x1), some (.int x2), some (.int x3), some (.int s0)], [.ref 196, .int x2], (zS0, R, zu I 214 (s0).toNatClampNeg ((I 214 (s0).toNatClampNeg) + 1), J))) rfl ?_
  refine zEv_gr rfl rfl rfl (by decide) (hR (196) 5 (214) rfl) ?_
  refine zEv_k 1 (f' := (64, [some (.ref 196), some (.int x1), some (.int x2), some (.int x3), some (.int s0)], [.int s0, .ref 214, .int x2], (zS0, R, zu I 214 (s0).toNatClampNeg ((I 214 (s0).toNatClampNeg) + 1), J))) rfl ?_
  refine zEv_ial rfl rfl (by decide) h64 ?_
  refine zEv_k 4 (f' := (25, [some (.ref 196), some (.int x1), some (.int (if x2 < ((zu I 214 (s0).toNatClampNeg ((I 214 (s0).toNatClampNeg) + 1)) 214 (s0).toNatClampNeg) then ((zu I 214 (s0).toNatClampNeg ((I 214 (s0).toNatClampNeg) + 1)) 214 (s0).toNatClampNeg) else x2)), some (.int (x3 + 1)), some (.int s0)], [], (zS0, R, zu I 214 (s0).toNatClampNeg ((I 214 (s0).toNatClampNeg) + 1), J))) rfl ?_
  exact k1
theorem b_26_75 {X : zX} {d : Nat} {R : zR} {I : zI} {J : zJ} {x1 : Int32} {x2 : Int32} {x3 : Int32} {x4 : Option Value} : zEv X d zm_26 (75, [some (.ref 196), some (.int x1), some (.int x2), some (.int x3), x4], [], (zS0, R, I, J)) (some (.int x2), (zS0, R, I, J)) := by
  refine zEv_k 1 (f' := (76, [some (.ref 196), some (.int x1), some (.int x2), some (.int x3), x4], [.int x2], (zS0, R, I, J))) rfl ?_
  exact zEv_r rfl
