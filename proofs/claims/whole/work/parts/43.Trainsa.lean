theorem b_95_0 {X : zX} {d : Nat} {R : zR} {I : zI} {J : zJ} {r : zA} {c : Nat} {o : Nat} (ho : (c = 7 ∧ o = 180) ∨ (c = 7 ∧ o = 186) ∨ (c = 22 ∧ o = 180) ∨ (c = 22 ∧ o = 186)) (k1 : zEv X d zm_95 (18, [some (.ref o), some (.ref c), some (.int 0)], [], (zS0, R, zu (zu I o 0 (I c 2)) o 2 (I c 1), J)) r) : zEv X d zm_95 (0, [some (.ref o), some (.ref c), none], [], (zS0, R, I, J)) r := by
  rcases ho with ⟨rfl, rfl⟩ | ⟨rfl, rfl⟩ | ⟨rfl, rfl⟩ | ⟨rfl, rfl⟩
  · refine zEv_k 9 (f' := (17, [some (.ref 180), some (.ref 7), none], [.int 0], (zS0, R, zu (zu I 180 0 (I 7 2)) 180 2 (I 7 1), J))) rfl ?_
    refine zEv_k 1 (f' := (18, [some (.ref 180), some (.ref 7), some (.int 0)], [], (zS0, R, zu (zu I 180 0 (I 7 2)) 180 2 (I 7 1), J))) rfl ?_
    exact k1
  · refine zEv_k 9 (f' := (17, [some (.ref 186), some (.ref 7), none], [.int 0], (zS0, R, zu (zu I 186 0 (I 7 2)) 186 2 (I 7 1), J))) rfl ?_
    refine zEv_k 1 (f' := (18, [some (.ref 186), some (.ref 7), some (.int 0)], [], (zS0, R, zu (zu I 186 0 (I 7 2)) 186 2 (I 7 1), J))) rfl ?_
    exact k1
  · refine zEv_k 9 (f' := (17, [some (.ref 180), some (.ref 22), none], [.int 0], (zS0, R, zu (zu I 180 0 (I 22 2)) 180 2 (I 22 1), J))) rfl ?_
    refine zEv_k 1 (f' := (18, [some (.ref 180), some (.ref 22), some (.int 0)], [], (zS0, R, zu (zu I 180 0 (I 22 2)) 180 2 (I 22 1), J))) rfl ?_
    exact k1
  · refine zEv_k 9 (f' := (17, [some (.ref 186), some (.ref 22), none], [.int 0], (zS0, R, zu (zu I 186 0 (I 22 2)) 186 2 (I 22 1), J))) rfl ?_
    refine zEv_k 1 (f' := (18, [some (.ref 186), some (.ref 22), some (.int 0)], [], (zS0, R, zu (zu I 186 0 (I 22 2)) 186 2 (I 22 1), J))) rfl ?_
    exact k1
theorem b_95_18 {X : zX} {d : Nat} {R : zR} {I : zI} {J : zJ} {r : zA} {c : Nat} {o : Nat} {x2 : Int32} (ho : (c = 7 ∧ o = 180) ∨ (c = 7 ∧ o = 186) ∨ (c = 22 ∧ o = 180) ∨ (c = 22 ∧ o = 186)) (k1 : (I o 0) ≤ x2 → zEv X d zm_95 (55, [some (.ref o), some (.ref c), some (.int x2)], [], (zS0, R, I, J)) r) (k2 : ¬ ((I o 0) ≤ x2) → zEv X d zm_95 (26, [some (.ref o), some (.ref c), some (.int x2)], [], (zS0, R, I, J)) r) : zEv X d zm_95 (18, [some (.ref o), some (.ref c), some (.int x2)], [], (zS0, R, I, J)) r := by
  rcases ho with ⟨rfl, rfl⟩ | ⟨rfl, rfl⟩ | ⟨rfl, rfl⟩ | ⟨rfl, rfl⟩
  · refine zEv_k 4 (f' := (if (I 180 0) ≤ x2 then 55 else 26, [some (.ref 180), some (.ref 7), some (.int x2)], [], (zS0, R, I, J))) rfl ?_
    exact zEv_if k1 k2
  · refine zEv_k 4 (f' := (if (I 186 0) ≤ x2 then 55 else 26, [some (.ref 186), some (.ref 7), some (.int x2)], [], (zS0, R, I, J))) rfl ?_
    exact zEv_if k1 k2
  · refine zEv_k 4 (f' := (if (I 180 0) ≤ x2 then 55 else 26, [some (.ref 180), some (.ref 22), some (.int x2)], [], (zS0, R, I, J))) rfl ?_
    exact zEv_if k1 k2
  · refine zEv_k 4 (f' := (if (I 186 0) ≤ x2 then 55 else 26, [some (.ref 186), some (.ref 22), some (.int x2)], [], (zS0, R, I, J))) rfl ?_
    exact zEv_if k1 k2
theorem b_95_26 {X : zX} {d : Nat} {R : zR} {I : zI} {J : zJ} {r : zA} {c : Nat} {o : Nat} {x2 : Int32} {w : Int32} {R' : zR} {I' : zI} {J' : zJ} (hR : zRok R) (ho : (c = 7 ∧ o = 180) ∨ (c = 7 ∧ o = 186) ∨ (c = 22 ∧ o = 180) ∨ (c = 22 ∧ o = 186)) (hc : zEv X d zm_96 (0, [some (.ref c), some (.int x2)], [], (zS0, R, I, J)) (some (.int w), (zS0, R', I', J'))) (k1 : zEv X (d + 1) zm_95 (36, [some (.ref o), some (.ref c), some (.int x2)], [.int w, .int x2, .ref (o + 1)], (zS0, R', I', J')) r) : zEv X (d + 1) zm_95 (26, [some (.ref o), some (.ref c), some (.int x2)], [], (zS0, R, I, J)) r := by
  rcases ho with ⟨rfl, rfl⟩ | ⟨rfl, rfl⟩ | ⟨rfl, rfl⟩ | ⟨rfl, rfl⟩
  · refine zEv_k 1 (f' := (27, [some (.ref 180), some (.ref 7), some (.int x2)], [.ref 180], (zS0, R, I, J))) rfl ?_
    refine zEv_gr rfl rfl rfl (by decide) (hR (180) 1 (180 + 1) rfl) ?_
    refine zEv_k 3 (f' := (33, [some (.ref 180), some (.ref 7), some (.int x2)], [.int x2, .ref 7, .int x2, .ref (180 + 1)], (zS0, R, I, J))) rfl ?_
    exact zEv_c (fun _ => rfl) rfl hc rfl rfl k1
  · refine zEv_k 1 (f' := (27, [some (.ref 186), some (.ref 7), some (.int x2)], [.ref 186], (zS0, R, I, J))) rfl ?_
    refine zEv_gr rfl rfl rfl (by decide) (hR (186) 1 (186 + 1) rfl) ?_
    refine zEv_k 3 (f' := (33, [some (.ref 186), some (.ref 7), some (.int x2)], [.int x2, .ref 7, .int x2, .ref (186 + 1)], (zS0, R, I, J))) rfl ?_
    exact zEv_c (fun _ => rfl) rfl hc rfl rfl k1
  · refine zEv_k 1 (f' := (27, [some (.ref 180), some (.ref 22), some (.int x2)], [.ref 180], (zS0, R, I, J))) rfl ?_
    refine zEv_gr rfl rfl rfl (by decide) (hR (180) 1 (180 + 1) rfl) ?_
    refine zEv_k 3 (f' := (33, [some (.ref 180), some (.ref 22), some (.int x2)], [.int x2, .ref 22, .int x2, .ref (180 + 1)], (zS0, R, I, J))) rfl ?_
    exact zEv_c (fun _ => rfl) rfl hc rfl rfl k1
  · refine zEv_k 1 (f' := (27, [some (.ref 186), some (.ref 22), some (.int x2)], [.ref 186], (zS0, R, I, J))) rfl ?_
    refine zEv_gr rfl rfl rfl (by decide) (hR (186) 1 (186 + 1) rfl) ?_
    refine zEv_k 3 (f' := (33, [some (.ref 186), some (.ref 22), some (.int x2)], [.int x2, .ref 22, .int x2, .ref (186 + 1)], (zS0, R, I, J))) rfl ?_
    exact zEv_c (fun _ => rfl) rfl hc rfl rfl k1
theorem b_95_36 {X : zX} {d : Nat} {R : zR} {I : zI} {J : zJ} {r : zA} {c : Nat} {o : Nat} {x2 : Int32} {s1 : Int32} {s2 : Int32} (hR : zRok R) (ho : (c = 7 ∧ o = 180) ∨ (c = 7 ∧ o = 186) ∨ (c = 22 ∧ o = 180) ∨ (c = 22 ∧ o = 186)) (h36 : zin s1 7) (h47 : zin x2 7) (h48 : zin x2 7) (k1 : zEv X d zm_95 (18, [some (.ref o), some (.ref c), some (.int (x2 + 1))], [], (zS0, R, zu (zu I (o + 1) (s1).toNatClampNeg s2) (o + 3) (x2).toNatClampNeg (I (c + 6) (x2).toNatClampNeg), J)) r) : zEv X d zm_95 (36, [some (.ref o), some (.ref c), some (.int x2)], [.int s2, .int s1, .ref (o + 1)], (zS0, R, I, J)) r := by
  rcases ho with ⟨rfl, rfl⟩ | ⟨rfl, rfl⟩ | ⟨rfl, rfl⟩ | ⟨rfl, rfl⟩
  · refine zEv_ias rfl rfl (by decide) h36 ?_
    refine zEv_k 1 (f' := (38, [some (.ref 180), some (.ref 7), some (.int x2)], [.ref 180], (zS0, R, zu I (180 + 1) (s1).toNatClampNeg s2, J))) rfl ?_
    refine zEv_gr rfl rfl rfl (by decide) (hR (180) 4 (180 + 3) rfl) ?_
    refine zEv_k 2 (f' := (43, [some (.ref 180), some (.ref 7), some (.int x2)], [.ref 7, .int x2, .ref (180 + 3)], (zS0, R, zu I (180 + 1) (s1).toNatClampNeg s2, J))) rfl ?_
    refine zEv_gr rfl rfl rfl (by decide) (hR (7) 8 (7 + 6) rfl) ?_
    refine zEv_k 1 (f' := (47, [some (.ref 180), some (.ref 7), some (.int x2)], [.int x2, .ref (7 + 6), .int x2, .ref (180 + 3)], (zS0, R, zu I (180 + 1) (s1).toNatClampNeg s2, J))) rfl ?_
    refine zEv_ial rfl rfl (by decide) h47 ?_
    refine zEv_ias rfl rfl (by decide) h48 ?_
    refine zEv_k 2 (f' := (18, [some (.ref 180), some (.ref 7), some (.int (x2 + 1))], [], (zS0, R, zu (zu I (180 + 1) (s1).toNatClampNeg s2) (180 + 3) (x2).toNatClampNeg (I (7 + 6) (x2).toNatClampNeg), J))) rfl ?_
    exact k1
  · refine zEv_ias rfl rfl (by decide) h36 ?_
    refine zEv_k 1 (f' := (38, [some (.ref 186), some (.ref 7), some (.int x2)], [.ref 186], (zS0, R, zu I (186 + 1) (s1).toNatClampNeg s2, J))) rfl ?_
    refine zEv_gr rfl rfl rfl (by decide) (hR (186) 4 (186 + 3) rfl) ?_
    refine zEv_k 2 (f' := (43, [some (.ref 186), some (.ref 7), some (.int x2)], [.ref 7, .int x2, .ref (186 + 3)], (zS0, R, zu I (186 + 1) (s1).toNatClampNeg s2, J))) rfl ?_
    refine zEv_gr rfl rfl rfl (by decide) (hR (7) 8 (7 + 6) rfl) ?_
    refine zEv_k 1 (f' := (47, [some (.ref 186), some (.ref 7), some (.int x2)], [.int x2, .ref (7 + 6), .int x2, .ref (186 + 3)], (zS0, R, zu I (186 + 1) (s1).toNatClampNeg s2, J))) rfl ?_
    refine zEv_ial rfl rfl (by decide) h47 ?_
    refine zEv_ias rfl rfl (by decide) h48 ?_
    refine zEv_k 2 (f' := (18, [some (.ref 186), some (.ref 7), some (.int (x2 + 1))], [], (zS0, R, zu (zu I (186 + 1) (s1).toNatClampNeg s2) (186 + 3) (x2).toNatClampNeg (I (7 + 6) (x2).toNatClampNeg), J))) rfl ?_
    exact k1
  · refine zEv_ias rfl rfl (by decide) h36 ?_
    refine zEv_k 1 (f' := (38, [some (.ref 180), some (.ref 22), some (.int x2)], [.ref 180], (zS0, R, zu I (180 + 1) (s1).toNatClampNeg s2, J))) rfl ?_
    refine zEv_gr rfl rfl rfl (by decide) (hR (180) 4 (180 + 3) rfl) ?_
    refine zEv_k 2 (f' := (43, [some (.ref 180), some (.ref 22), some (.int x2)], [.ref 22, .int x2, .ref (180 + 3)], (zS0, R, zu I (180 + 1) (s1).toNatClampNeg s2, J))) rfl ?_
    refine zEv_gr rfl rfl rfl (by decide) (hR (22) 8 (22 + 6) rfl) ?_
    refine zEv_k 1 (f' := (47, [some (.ref 180), some (.ref 22), some (.int x2)], [.int x2, .ref (22 + 6), .int x2, .ref (180 + 3)], (zS0, R, zu I (180 + 1) (s1).toNatClampNeg s2, J))) rfl ?_
    refine zEv_ial rfl rfl (by decide) h47 ?_
    refine zEv_ias rfl rfl (by decide) h48 ?_
    refine zEv_k 2 (f' := (18, [some (.ref 180), some (.ref 22), some (.int (x2 + 1))], [], (zS0, R, zu (zu I (180 + 1) (s1).toNatClampNeg s2) (180 + 3) (x2).toNatClampNeg (I (22 + 6) (x2).toNatClampNeg), J))) rfl ?_
    exact k1
  · refine zEv_ias rfl rfl (by decide) h36 ?_
    refine zEv_k 1 (f' := (38, [some (.ref 186), some (.ref 22), some (.int x2)], [.ref 186], (zS0, R, zu I (186 + 1) (s1).toNatClampNeg s2, J))) rfl ?_
    refine zEv_gr rfl rfl rfl (by decide) (hR (186) 4 (186 + 3) rfl) ?_
    refine zEv_k 2 (f' := (43, [some (.ref 186), some (.ref 22), some (.int x2)], [.ref 22, .int x2, .ref (186 + 3)], (zS0, R, zu I (186 + 1) (s1).toNatClampNeg s2, J))) rfl ?_
    refine zEv_gr rfl rfl rfl (by decide) (hR (22) 8 (22 + 6) rfl) ?_
    refine zEv_k 1 (f' := (47, [some (.ref 186), some (.ref 22), some (.int x2)], [.int x2, .ref (22 + 6), .int x2, .ref (186 + 3)], (zS0, R, zu I (186 + 1) (s1).toNatClampNeg s2, J))) rfl ?_
    refine zEv_ial rfl rfl (by decide) h47 ?_
    refine zEv_ias rfl rfl (by decide) h48 ?_
    refine zEv_k 2 (f' := (18, [some (.ref 186), some (.ref 22), some (.int (x2 + 1))], [], (zS0, R, zu (zu I (186 + 1) (s1).toNatClampNeg s2) (186 + 3) (x2).toNatClampNeg (I (22 + 6) (x2).toNatClampNeg), J))) rfl ?_
    exact k1
theorem b_95_55 {X : zX} {d : Nat} {R : zR} {I : zI} {J : zJ} {r : zA} {c : Nat} {o : Nat} {x2 : Int32} {R' : zR} {I' : zI} {J' : zJ} (ho : (c = 7 ∧ o = 180) ∨ (c = 7 ∧ o = 186) ∨ (c = 22 ∧ o = 180) ∨ (c = 22 ∧ o = 186)) (hc : zEv X d zm_97 (0, [some (.ref o), none], [], (zS0, R, I, J)) (none, (zS0, R', I', J'))) (k1 : zEv X (d + 1) zm_95 (59, [some (.ref o), some (.ref c), some (.int x2)], [], (zS0, R', I', J')) r) : zEv X (d + 1) zm_95 (55, [some (.ref o), some (.ref c), some (.int x2)], [], (zS0, R, I, J)) r := by
  rcases ho with ⟨rfl, rfl⟩ | ⟨rfl, rfl⟩ | ⟨rfl, rfl⟩ | ⟨rfl, rfl⟩
  · refine zEv_k 1 (f' := (56, [some (.ref 180), some (.ref 7), some (.int x2)], [.ref 180], (zS0, R, I, J))) rfl ?_
    exact zEv_c (fun _ => rfl) rfl hc rfl rfl k1
  · refine zEv_k 1 (f' := (56, [some (.ref 186), some (.ref 7), some (.int x2)], [.ref 186], (zS0, R, I, J))) rfl ?_
    exact zEv_c (fun _ => rfl) rfl hc rfl rfl k1
  · refine zEv_k 1 (f' := (56, [some (.ref 180), some (.ref 22), some (.int x2)], [.ref 180], (zS0, R, I, J))) rfl ?_
    exact zEv_c (fun _ => rfl) rfl hc rfl rfl k1
  · refine zEv_k 1 (f' := (56, [some (.ref 186), some (.ref 22), some (.int x2)], [.ref 186], (zS0, R, I, J))) rfl ?_
    exact zEv_c (fun _ => rfl) rfl hc rfl rfl k1
theorem b_95_59 {X : zX} {d : Nat} {R : zR} {I : zI} {J : zJ} {c : Nat} {o : Nat} {x2 : Int32} (ho : (c = 7 ∧ o = 180) ∨ (c = 7 ∧ o = 186) ∨ (c = 22 ∧ o = 180) ∨ (c = 22 ∧ o = 186)) : zEv X d zm_95 (59, [some (.ref o), some (.ref c), some (.int x2)], [], (zS0, R, I, J)) (none, (zS0, R, I, J)) := by
  rcases ho with ⟨rfl, rfl⟩ | ⟨rfl, rfl⟩ | ⟨rfl, rfl⟩ | ⟨rfl, rfl⟩
  · exact zEv_r rfl
  · exact zEv_r rfl
  · exact zEv_r rfl
  · exact zEv_r rfl
theorem b_96_0 {X : zX} {d : Nat} {R : zR} {I : zI} {J : zJ} {r : zA} {c : Nat} {x1 : Int32} (hR : zRok R) (ho : c = 7 ∨ c = 22) (h5 : zin x1 7) (h11 : zin x1 7) (k1 : (I (c + 3) (x1).toNatClampNeg) ≤ (I (c + 5) (x1).toNatClampNeg) → zEv X d zm_96 (17, [some (.ref c), some (.int x1)], [], (zS0, R, I, J)) r) (k2 : ¬ ((I (c + 3) (x1).toNatClampNeg) ≤ (I (c + 5) (x1).toNatClampNeg)) → zEv X d zm_96 (15, [some (.ref c), some (.int x1)], [], (zS0, R, I, J)) r) : zEv X d zm_96 (0, [some (.ref c), some (.int x1)], [], (zS0, R, I, J)) r := by
  rcases ho with rfl | rfl
  · refine zEv_k 1 (f' := (1, [some (.ref 7), some (.int x1)], [.ref 7], (zS0, R, I, J))) rfl ?_
    refine zEv_gr rfl rfl rfl (by decide) (hR (7) 5 (7 + 3) rfl) ?_
    refine zEv_k 1 (f' := (5, [some (.ref 7), some (.int x1)], [.int x1, .ref (7 + 3)], (zS0, R, I, J))) rfl ?_
    refine zEv_ial rfl rfl (by decide) h5 ?_
    refine zEv_k 1 (f' := (7, [some (.ref 7), some (.int x1)], [.ref 7, .int (I (7 + 3) (x1).toNatClampNeg)], (zS0, R, I, J))) rfl ?_
    refine zEv_gr rfl rfl rfl (by decide) (hR (7) 7 (7 + 5) rfl) ?_
    refine zEv_k 1 (f' := (11, [some (.ref 7), some (.int x1)], [.int x1, .ref (7 + 5), .int (I (7 + 3) (x1).toNatClampNeg)], (zS0, R, I, J))) rfl ?_
    refine zEv_ial rfl rfl (by decide) h11 ?_
    refine zEv_k 1 (f' := (if (I (7 + 3) (x1).toNatClampNeg) ≤ (I (7 + 5) (x1).toNatClampNeg) then 17 else 15, [some (.ref 7), some (.int x1)], [], (zS0, R, I, J))) rfl ?_
    exact zEv_if k1 k2
  · refine zEv_k 1 (f' := (1, [some (.ref 22), some (.int x1)], [.ref 22], (zS0, R, I, J))) rfl ?_
    refine zEv_gr rfl rfl rfl (by decide) (hR (22) 5 (22 + 3) rfl) ?_
    refine zEv_k 1 (f' := (5, [some (.ref 22), some (.int x1)], [.int x1, .ref (22 + 3)], (zS0, R, I, J))) rfl ?_
    refine zEv_ial rfl rfl (by decide) h5 ?_
    refine zEv_k 1 (f' := (7, [some (.ref 22), some (.int x1)], [.ref 22, .int (I (22 + 3) (x1).toNatClampNeg)], (zS0, R, I, J))) rfl ?_
    refine zEv_gr rfl rfl rfl (by decide) (hR (22) 7 (22 + 5) rfl) ?_
    refine zEv_k 1 (f' := (11, [some (.ref 22), some (.int x1)], [.int x1, .ref (22 + 5), .int (I (22 + 3) (x1).toNatClampNeg)], (zS0, R, I, J))) rfl ?_
    refine zEv_ial rfl rfl (by decide) h11 ?_
    refine zEv_k 1 (f' := (if (I (22 + 3) (x1).toNatClampNeg) ≤ (I (22 + 5) (x1).toNatClampNeg) then 17 else 15, [some (.ref 22), some (.int x1)], [], (zS0, R, I, J))) rfl ?_
    exact zEv_if k1 k2
theorem b_96_15 {X : zX} {d : Nat} {R : zR} {I : zI} {J : zJ} {c : Nat} {x1 : Int32} (ho : c = 7 ∨ c = 22) : zEv X d zm_96 (15, [some (.ref c), some (.int x1)], [], (zS0, R, I, J)) (some (.int 0), (zS0, R, I, J)) := by
  rcases ho with rfl | rfl
  · refine zEv_k 1 (f' := (16, [some (.ref 7), some (.int x1)], [.int 0], (zS0, R, I, J))) rfl ?_
    exact zEv_r rfl
  · refine zEv_k 1 (f' := (16, [some (.ref 22), some (.int x1)], [.int 0], (zS0, R, I, J))) rfl ?_
    exact zEv_r rfl
theorem b_96_17 {X : zX} {d : Nat} {R : zR} {I : zI} {J : zJ} {r : zA} {c : Nat} {x1 : Int32} (ho : c = 7 ∨ c = 22) (k1 : (I c 0) ≤ 0 → zEv X d zm_96 (52, [some (.ref c), some (.int x1)], [], (zS0, R, I, J)) r) (k2 : ¬ ((I c 0) ≤ 0) → zEv X d zm_96 (24, [some (.ref c), some (.int x1)], [], (zS0, R, I, J)) r) : zEv X d zm_96 (17, [some (.ref c), some (.int x1)], [], (zS0, R, I, J)) r := by
  rcases ho with rfl | rfl
  · refine zEv_k 3 (f' := (if (I 7 0) ≤ 0 then 52 else 24, [some (.ref 7), some (.int x1)], [], (zS0, R, I, J))) rfl ?_
    exact zEv_if k1 k2
  · refine zEv_k 3 (f' := (if (I 22 0) ≤ 0 then 52 else 24, [some (.ref 22), some (.int x1)], [], (zS0, R, I, J))) rfl ?_
    exact zEv_if k1 k2
theorem b_96_24 {X : zX} {d : Nat} {R : zR} {I : zI} {J : zJ} {c : Nat} {x1 : Int32} (hR : zRok R) (ho : c = 7 ∨ c = 22) (h31 : zin x1 7) (h37 : zin x1 7) (h43 : ¬ (I c 0) = 0) : zEv X d zm_96 (24, [some (.ref c), some (.int x1)], [], (zS0, R, I, J)) (some (.int (if ((((I (c + 5) (x1).toNatClampNeg) - (I (c + 3) (x1).toNatClampNeg)) / (I c 0)) + 1) < (7 : Int32) then ((((I (c + 5) (x1).toNatClampNeg) - (I (c + 3) (x1).toNatClampNeg)) / (I c 0)) + 1) else (7 : Int32))), (zS0, R, I, J)) := by
  rcases ho with rfl | rfl
  · refine zEv_k 2 (f' := (27, [some (.ref 7), some (.int x1)], [.ref 7, .int 7], (zS0, R, I, J))) rfl ?_
    refine zEv_gr rfl rfl rfl (by decide) (hR (7) 7 (7 + 5) rfl) ?_
    refine zEv_k 1 (f' := (31, [some (.ref 7), some (.int x1)], [.int x1, .ref (7 + 5), .int 7], (zS0, R, I, J))) rfl ?_
    refine zEv_ial rfl rfl (by decide) h31 ?_
    refine zEv_k 1 (f' := (33, [some (.ref 7), some (.int x1)], [.ref 7, .int (I (7 + 5) (x1).toNatClampNeg), .int 7], (zS0, R, I, J))) rfl ?_
    refine zEv_gr rfl rfl rfl (by decide) (hR (7) 5 (7 + 3) rfl) ?_
    refine zEv_k 1 (f' := (37, [some (.ref 7), some (.int x1)], [.int x1, .ref (7 + 3), .int (I (7 + 5) (x1).toNatClampNeg), .int 7], (zS0, R, I, J))) rfl ?_
    refine zEv_ial rfl rfl (by decide) h37 ?_
    refine zEv_k 3 (f' := (43, [some (.ref 7), some (.int x1)], [.int (I 7 0), .int ((I (7 + 5) (x1).toNatClampNeg) - (I (7 + 3) (x1).toNatClampNeg)), .int 7], (zS0, R, I, J))) rfl ?_
    refine zEv_div rfl h43 ?_
    refine zEv_k 4 (f' := (54, [some (.ref 7), some (.int x1)], [.int (if ((((I (7 + 5) (x1).toNatClampNeg) - (I (7 + 3) (x1).toNatClampNeg)) / (I 7 0)) + 1) < (7 : Int32) then ((((I (7 + 5) (x1).toNatClampNeg) - (I (7 + 3) (x1).toNatClampNeg)) / (I 7 0)) + 1) else (7 : Int32))], (zS0, R, I, J))) rfl ?_
    exact zEv_r rfl
  · refine zEv_k 2 (f' := (27, [some (.ref 22), some (.int x1)], [.ref 22, .int 7], (zS0, R, I, J))) rfl ?_
    refine zEv_gr rfl rfl rfl (by decide) (hR (22) 7 (22 + 5) rfl) ?_
    refine zEv_k 1 (f' := (31, [some (.ref 22), some (.int x1)], [.int x1, .ref (22 + 5), .int 7], (zS0, R, I, J))) rfl ?_
    refine zEv_ial rfl rfl (by decide) h31 ?_
    refine zEv_k 1 (f' := (33, [some (.ref 22), some (.int x1)], [.ref 22, .int (I (22 + 5) (x1).toNatClampNeg), .int 7], (zS0, R, I, J))) rfl ?_
    refine zEv_gr rfl rfl rfl (by decide) (hR (22) 5 (22 + 3) rfl) ?_
    refine zEv_k 1 (f' := (37, [some (.ref 22), some (.int x1)], [.int x1, .ref (22 + 3), .int (I (22 + 5) (x1).toNatClampNeg), .int 7], (zS0, R, I, J))) rfl ?_
    refine zEv_ial rfl rfl (by decide) h37 ?_
    refine zEv_k 3 (f' := (43, [some (.ref 22), some (.int x1)], [.int (I 22 0), .int ((I (22 + 5) (x1).toNatClampNeg) - (I (22 + 3) (x1).toNatClampNeg)), .int 7], (zS0, R, I, J))) rfl ?_
    refine zEv_div rfl h43 ?_
    refine zEv_k 4 (f' := (54, [some (.ref 22), some (.int x1)], [.int (if ((((I (22 + 5) (x1).toNatClampNeg) - (I (22 + 3) (x1).toNatClampNeg)) / (I 22 0)) + 1) < (7 : Int32) then ((((I (22 + 5) (x1).toNatClampNeg) - (I (22 + 3) (x1).toNatClampNeg)) / (I 22 0)) + 1) else (7 : Int32))], (zS0, R, I, J))) rfl ?_
    exact zEv_r rfl
theorem b_96_52 {X : zX} {d : Nat} {R : zR} {I : zI} {J : zJ} {c : Nat} {x1 : Int32} (ho : c = 7 ∨ c = 22) : zEv X d zm_96 (52, [some (.ref c), some (.int x1)], [], (zS0, R, I, J)) (some (.int 7), (zS0, R, I, J)) := by
  rcases ho with rfl | rfl
  · refine zEv_k 1 (f' := (54, [some (.ref 7), some (.int x1)], [.int 7], (zS0, R, I, J))) rfl ?_
    exact zEv_r rfl
  · refine zEv_k 1 (f' := (54, [some (.ref 22), some (.int x1)], [.int 7], (zS0, R, I, J))) rfl ?_
    exact zEv_r rfl
theorem b_97_0 {X : zX} {d : Nat} {R : zR} {I : zI} {J : zJ} {r : zA} {o : Nat} (ho : o = 180 ∨ o = 186) (k1 : zEv X d zm_97 (2, [some (.ref o), some (.int 0)], [], (zS0, R, I, J)) r) : zEv X d zm_97 (0, [some (.ref o), none], [], (zS0, R, I, J)) r := by
  rcases ho with rfl | rfl
  · refine zEv_k 2 (f' := (2, [some (.ref 180), some (.int 0)], [], (zS0, R, I, J))) rfl ?_
    exact k1
  · refine zEv_k 2 (f' := (2, [some (.ref 186), some (.int 0)], [], (zS0, R, I, J))) rfl ?_
    exact k1
theorem b_97_2 {X : zX} {d : Nat} {R : zR} {I : zI} {J : zJ} {r : zA} {o : Nat} {x1 : Int32} (ho : o = 180 ∨ o = 186) (k1 : (I o 0) ≤ x1 → zEv X d zm_97 (27, [some (.ref o), some (.int x1)], [], (zS0, R, I, J)) r) (k2 : ¬ ((I o 0) ≤ x1) → zEv X d zm_97 (10, [some (.ref o), some (.int x1)], [], (zS0, R, I, J)) r) : zEv X d zm_97 (2, [some (.ref o), some (.int x1)], [], (zS0, R, I, J)) r := by
  rcases ho with rfl | rfl
  · refine zEv_k 4 (f' := (if (I 180 0) ≤ x1 then 27 else 10, [some (.ref 180), some (.int x1)], [], (zS0, R, I, J))) rfl ?_
    exact zEv_if k1 k2
  · refine zEv_k 4 (f' := (if (I 186 0) ≤ x1 then 27 else 10, [some (.ref 186), some (.int x1)], [], (zS0, R, I, J))) rfl ?_
    exact zEv_if k1 k2
theorem b_97_10 {X : zX} {d : Nat} {R : zR} {I : zI} {J : zJ} {r : zA} {o : Nat} {x1 : Int32} {R' : zR} {I' : zI} {J' : zJ} (hR : zRok R) (ho : o = 180 ∨ o = 186) (h17 : zin x1 7) (hc : zEv X d zm_98 (0, [some (.ref o), some (.int x1), some (.int (I (o + 3) (x1).toNatClampNeg)), none], [], (zS0, R, I, J)) (none, (zS0, R', I', J'))) (k1 : zEv X (d + 1) zm_97 (21, [some (.ref o), some (.int x1)], [], (zS0, R', I', J')) r) : zEv X (d + 1) zm_97 (10, [some (.ref o), some (.int x1)], [], (zS0, R, I, J)) r := by
  rcases ho with rfl | rfl
  · refine zEv_k 3 (f' := (13, [some (.ref 180), some (.int x1)], [.ref 180, .int x1, .ref 180], (zS0, R, I, J))) rfl ?_
    refine zEv_gr rfl rfl rfl (by decide) (hR (180) 4 (180 + 3) rfl) ?_
    refine zEv_k 1 (f' := (17, [some (.ref 180), some (.int x1)], [.int x1, .ref (180 + 3), .int x1, .ref 180], (zS0, R, I, J))) rfl ?_
    refine zEv_ial rfl rfl (by decide) h17 ?_
    exact zEv_c (fun _ => rfl) rfl hc rfl rfl k1
  · refine zEv_k 3 (f' := (13, [some (.ref 186), some (.int x1)], [.ref 186, .int x1, .ref 186], (zS0, R, I, J))) rfl ?_
    refine zEv_gr rfl rfl rfl (by decide) (hR (186) 4 (186 + 3) rfl) ?_
    refine zEv_k 1 (f' := (17, [some (.ref 186), some (.int x1)], [.int x1, .ref (186 + 3), .int x1, .ref 186], (zS0, R, I, J))) rfl ?_
    refine zEv_ial rfl rfl (by decide) h17 ?_
    exact zEv_c (fun _ => rfl) rfl hc rfl rfl k1
theorem b_97_21 {X : zX} {d : Nat} {R : zR} {I : zI} {J : zJ} {r : zA} {o : Nat} {x1 : Int32} (ho : o = 180 ∨ o = 186) (k1 : zEv X d zm_97 (2, [some (.ref o), some (.int (x1 + 1))], [], (zS0, R, I, J)) r) : zEv X d zm_97 (21, [some (.ref o), some (.int x1)], [], (zS0, R, I, J)) r := by
  rcases ho with rfl | rfl
  · refine zEv_k 2 (f' := (2, [some (.ref 180), some (.int (x1 + 1))], [], (zS0, R, I, J))) rfl ?_
    exact k1
  · refine zEv_k 2 (f' := (2, [some (.ref 186), some (.int (x1 + 1))], [], (zS0, R, I, J))) rfl ?_
    exact k1
theorem b_97_27 {X : zX} {d : Nat} {R : zR} {I : zI} {J : zJ} {o : Nat} {x1 : Int32} (ho : o = 180 ∨ o = 186) : zEv X d zm_97 (27, [some (.ref o), some (.int x1)], [], (zS0, R, I, J)) (none, (zS0, R, I, J)) := by
  rcases ho with rfl | rfl
  · exact zEv_r rfl
  · exact zEv_r rfl
theorem b_98_0 {X : zX} {d : Nat} {R : zR} {I : zI} {J : zJ} {r : zA} {o : Nat} {x1 : Int32} {x2 : Int32} (hR : zRok R) (ho : o = 180 ∨ o = 186) (h6 : zin x1 7) (h13 : zin x1 7) (k1 : zEv X d zm_98 (16, [some (.ref o), some (.int x1), some (.int x2), some (.int 0)], [], (zS0, R, zu (zu I (o + 3) (x1).toNatClampNeg x2) (o + 2) (x1).toNatClampNeg 0, J)) r) : zEv X d zm_98 (0, [some (.ref o), some (.int x1), some (.int x2), none], [], (zS0, R, I, J)) r := by
  rcases ho with rfl | rfl
  · refine zEv_k 1 (f' := (1, [some (.ref 180), some (.int x1), some (.int x2), none], [.ref 180], (zS0, R, I, J))) rfl ?_
    refine zEv_gr rfl rfl rfl (by decide) (hR (180) 4 (180 + 3) rfl) ?_
    refine zEv_k 2 (f' := (6, [some (.ref 180), some (.int x1), some (.int x2), none], [.int x2, .int x1, .ref (180 + 3)], (zS0, R, I, J))) rfl ?_
    refine zEv_ias rfl rfl (by decide) h6 ?_
    refine zEv_k 1 (f' := (8, [some (.ref 180), some (.int x1), some (.int x2), none], [.ref 180], (zS0, R, zu I (180 + 3) (x1).toNatClampNeg x2, J))) rfl ?_
    refine zEv_gr rfl rfl rfl (by decide) (hR (180) 3 (180 + 2) rfl) ?_
    refine zEv_k 2 (f' := (13, [some (.ref 180), some (.int x1), some (.int x2), none], [.int 0, .int x1, .ref (180 + 2)], (zS0, R, zu I (180 + 3) (x1).toNatClampNeg x2, J))) rfl ?_
    refine zEv_ias rfl rfl (by decide) h13 ?_
    refine zEv_k 2 (f' := (16, [some (.ref 180), some (.int x1), some (.int x2), some (.int 0)], [], (zS0, R, zu (zu I (180 + 3) (x1).toNatClampNeg x2) (180 + 2) (x1).toNatClampNeg 0, J))) rfl ?_
    exact k1
  · refine zEv_k 1 (f' := (1, [some (.ref 186), some (.int x1), some (.int x2), none], [.ref 186], (zS0, R, I, J))) rfl ?_
    refine zEv_gr rfl rfl rfl (by decide) (hR (186) 4 (186 + 3) rfl) ?_
    refine zEv_k 2 (f' := (6, [some (.ref 186), some (.int x1), some (.int x2), none], [.int x2, .int x1, .ref (186 + 3)], (zS0, R, I, J))) rfl ?_
    refine zEv_ias rfl rfl (by decide) h6 ?_
    refine zEv_k 1 (f' := (8, [some (.ref 186), some (.int x1), some (.int x2), none], [.ref 186], (zS0, R, zu I (186 + 3) (x1).toNatClampNeg x2, J))) rfl ?_
    refine zEv_gr rfl rfl rfl (by decide) (hR (186) 3 (186 + 2) rfl) ?_
    refine zEv_k 2 (f' := (13, [some (.ref 186), some (.int x1), some (.int x2), none], [.int 0, .int x1, .ref (186 + 2)], (zS0, R, zu I (186 + 3) (x1).toNatClampNeg x2, J))) rfl ?_
    refine zEv_ias rfl rfl (by decide) h13 ?_
    refine zEv_k 2 (f' := (16, [some (.ref 186), some (.int x1), some (.int x2), some (.int 0)], [], (zS0, R, zu (zu I (186 + 3) (x1).toNatClampNeg x2) (186 + 2) (x1).toNatClampNeg 0, J))) rfl ?_
    exact k1
theorem b_98_16 {X : zX} {d : Nat} {R : zR} {I : zI} {J : zJ} {r : zA} {o : Nat} {x1 : Int32} {x2 : Int32} {x3 : Int32} (ho : o = 180 ∨ o = 186) (k1 : x1 ≤ x3 → zEv X d zm_98 (69, [some (.ref o), some (.int x1), some (.int x2), some (.int x3)], [], (zS0, R, I, J)) r) (k2 : ¬ (x1 ≤ x3) → zEv X d zm_98 (21, [some (.ref o), some (.int x1), some (.int x2), some (.int x3)], [], (zS0, R, I, J)) r) : zEv X d zm_98 (16, [some (.ref o), some (.int x1), some (.int x2), some (.int x3)], [], (zS0, R, I, J)) r := by
  rcases ho with rfl | rfl
  · refine zEv_k 3 (f' := (if x1 ≤ x3 then 69 else 21, [some (.ref 180), some (.int x1), some (.int x2), some (.int x3)], [], (zS0, R, I, J))) rfl ?_
    exact zEv_if k1 k2
  · refine zEv_k 3 (f' := (if x1 ≤ x3 then 69 else 21, [some (.ref 186), some (.int x1), some (.int x2), some (.int x3)], [], (zS0, R, I, J))) rfl ?_
    exact zEv_if k1 k2
theorem b_98_21 {X : zX} {d : Nat} {R : zR} {I : zI} {J : zJ} {r : zA} {o : Nat} {x1 : Int32} {x2 : Int32} {x3 : Int32} (hR : zRok R) (ho : o = 180 ∨ o = 186) (h26 : zin x3 7) (k1 : (I o 2) < (if 0 ≤ ((I (o + 3) (x3).toNatClampNeg) - x2) then ((I (o + 3) (x3).toNatClampNeg) - x2) else 0 - ((I (o + 3) (x3).toNatClampNeg) - x2)) → zEv X d zm_98 (63, [some (.ref o), some (.int x1), some (.int x2), some (.int x3)], [], (zS0, R, I, J)) r) (k2 : ¬ ((I o 2) < (if 0 ≤ ((I (o + 3) (x3).toNatClampNeg) - x2) then ((I (o + 3) (x3).toNatClampNeg) - x2) else 0 - ((I (o + 3) (x3).toNatClampNeg) - x2))) → zEv X d zm_98 (39, [some (.ref o), some (.int x1), some (.int x2), some (.int x3)], [], (zS0, R, I, J)) r) : zEv X d zm_98 (21, [some (.ref o), some (.int x1), some (.int x2), some (.int x3)], [], (zS0, R, I, J)) r := by
  rcases ho with rfl | rfl
  · refine zEv_k 1 (f' := (22, [some (.ref 180), some (.int x1), some (.int x2), some (.int x3)], [.ref 180], (zS0, R, I, J))) rfl ?_
    refine zEv_gr rfl rfl rfl (by decide) (hR (180) 4 (180 + 3) rfl) ?_
    refine zEv_k 1 (f' := (26, [some (.ref 180), some (.int x1), some (.int x2), some (.int x3)], [.int x3, .ref (180 + 3)], (zS0, R, I, J))) rfl ?_
    refine zEv_ial rfl rfl (by decide) h26 ?_
    refine zEv_k 6 (f' := (if (I 180 2) < (if 0 ≤ ((I (180 + 3) (x3).toNatClampNeg) - x2) then ((I (180 + 3) (x3).toNatClampNeg) - x2) else 0 - ((I (180 + 3) (x3).toNatClampNeg) - x2)) then 63 else 39, [some (.ref 180), some (.int x1), some (.int x2), some (.int x3)], [], (zS0, R, I, J))) rfl ?_
    exact zEv_if k1 k2
  · refine zEv_k 1 (f' := (22, [some (.ref 186), some (.int x1), some (.int x2), some (.int x3)], [.ref 186], (zS0, R, I, J))) rfl ?_
    refine zEv_gr rfl rfl rfl (by decide) (hR (186) 4 (186 + 3) rfl) ?_
    refine zEv_k 1 (f' := (26, [some (.ref 186), some (.int x1), some (.int x2), some (.int x3)], [.int x3, .ref (186 + 3)], (zS0, R, I, J))) rfl ?_
    refine zEv_ial rfl rfl (by decide) h26 ?_
    refine zEv_k 6 (f' := (if (I 186 2) < (if 0 ≤ ((I (186 + 3) (x3).toNatClampNeg) - x2) then ((I (186 + 3) (x3).toNatClampNeg) - x2) else 0 - ((I (186 + 3) (x3).toNatClampNeg) - x2)) then 63 else 39, [some (.ref 186), some (.int x1), some (.int x2), some (.int x3)], [], (zS0, R, I, J))) rfl ?_
    exact zEv_if k1 k2
theorem b_98_39 {X : zX} {d : Nat} {R : zR} {I : zI} {J : zJ} {r : zA} {o : Nat} {x1 : Int32} {x2 : Int32} {x3 : Int32} (hR : zRok R) (ho : o = 180 ∨ o = 186) (h45 : zin x1 7) (h50 : zin x1 7) (h57 : zin x3 7) (h62 : zin x3 7) (k1 : zEv X d zm_98 (63, [some (.ref o), some (.int x1), some (.int x2), some (.int x3)], [], (zS0, R, zu (zu I (o + 2) (x1).toNatClampNeg ((I (o + 2) (x1).toNatClampNeg) ||| ((1 : Int32) <<< (x3 &&& 31)))) (o + 2) (x3).toNatClampNeg (((zu I (o + 2) (x1).toNatClampNeg ((I (o + 2) (x1).toNatClampNeg) ||| ((1 : Int32) <<< (x3 &&& 31)))) (o + 2) (x3).toNatClampNeg) ||| ((1 : Int32) <<< (x1 &&& 31))), J)) r) : zEv X d zm_98 (39, [some (.ref o), some (.int x1), some (.int x2), some (.int x3)], [], (zS0, R, I, J)) r := by
  rcases ho with rfl | rfl
  · refine zEv_k 1 (f' := (40, [some (.ref 180), some (.int x1), some (.int x2), some (.int x3)], [.ref 180], (zS0, R, I, J))) rfl ?_
    refine zEv_gr rfl rfl rfl (by decide) (hR (180) 3 (180 + 2) rfl) ?_
    refine zEv_k 2 (f' := (45, [some (.ref 180), some (.int x1), some (.int x2), some (.int x3)], [.int x1, .ref (180 + 2), .int x1, .ref (180 + 2)], (zS0, R, I, J))) rfl ?_
    refine zEv_ial rfl rfl (by decide) h45 ?_
    refine zEv_k 4 (f' := (50, [some (.ref 180), some (.int x1), some (.int x2), some (.int x3)], [.int ((I (180 + 2) (x1).toNatClampNeg) ||| ((1 : Int32) <<< (x3 &&& 31))), .int x1, .ref (180 + 2)], (zS0, R, I, J))) rfl ?_
    refine zEv_ias rfl rfl (by decide) h50 ?_
    refine zEv_k 1 (f' := (52, [some (.ref 180), some (.int x1), some (.int x2), some (.int x3)], [.ref 180], (zS0, R, zu I (180 + 2) (x1).toNatClampNeg ((I (180 + 2) (x1).toNatClampNeg) ||| ((1 : Int32) <<< (x3 &&& 31))), J))) rfl ?_
    refine zEv_gr rfl rfl rfl (by decide) (hR (180) 3 (180 + 2) rfl) ?_
    refine zEv_k 2 (f' := (57, [some (.ref 180), some (.int x1), some (.int x2), some (.int x3)], [.int x3, .ref (180 + 2), .int x3, .ref (180 + 2)], (zS0, R, zu I (180 + 2) (x1).toNatClampNeg ((I (180 + 2) (x1).toNatClampNeg) ||| ((1 : Int32) <<< (x3 &&& 31))), J))) rfl ?_
    refine zEv_ial rfl rfl (by decide) h57 ?_
    refine zEv_k 4 (f' := (62, [some (.ref 180), some (.int x1), some (.int x2), some (.int x3)], [.int (((zu I (180 + 2) (x1).toNatClampNeg ((I (180 + 2) (x1).toNatClampNeg) ||| ((1 : Int32) <<< (x3 &&& 31)))) (180 + 2) (x3).toNatClampNeg) ||| ((1 : Int32) <<< (x1 &&& 31))), .int x3, .ref (180 + 2)], (zS0, R, zu I (180 + 2) (x1).toNatClampNeg ((I (180 + 2) (x1).toNatClampNeg) ||| ((1 : Int32) <<< (x3 &&& 31))), J))) rfl ?_
    refine zEv_ias rfl rfl (by decide) h62 ?_
    exact k1
  · refine zEv_k 1 (f' := (40, [some (.ref 186), some (.int x1), some (.int x2), some (.int x3)], [.ref 186], (zS0, R, I, J))) rfl ?_
    refine zEv_gr rfl rfl rfl (by decide) (hR (186) 3 (186 + 2) rfl) ?_
    refine zEv_k 2 (f' := (45, [some (.ref 186), some (.int x1), some (.int x2), some (.int x3)], [.int x1, .ref (186 + 2), .int x1, .ref (186 + 2)], (zS0, R, I, J))) rfl ?_
    refine zEv_ial rfl rfl (by decide) h45 ?_
    refine zEv_k 4 (f' := (50, [some (.ref 186), some (.int x1), some (.int x2), some (.int x3)], [.int ((I (186 + 2) (x1).toNatClampNeg) ||| ((1 : Int32) <<< (x3 &&& 31))), .int x1, .ref (186 + 2)], (zS0, R, I, J))) rfl ?_
    refine zEv_ias rfl rfl (by decide) h50 ?_
    refine zEv_k 1 (f' := (52, [some (.ref 186), some (.int x1), some (.int x2), some (.int x3)], [.ref 186], (zS0, R, zu I (186 + 2) (x1).toNatClampNeg ((I (186 + 2) (x1).toNatClampNeg) ||| ((1 : Int32) <<< (x3 &&& 31))), J))) rfl ?_
    refine zEv_gr rfl rfl rfl (by decide) (hR (186) 3 (186 + 2) rfl) ?_
    refine zEv_k 2 (f' := (57, [some (.ref 186), some (.int x1), some (.int x2), some (.int x3)], [.int x3, .ref (186 + 2), .int x3, .ref (186 + 2)], (zS0, R, zu I (186 + 2) (x1).toNatClampNeg ((I (186 + 2) (x1).toNatClampNeg) ||| ((1 : Int32) <<< (x3 &&& 31))), J))) rfl ?_
    refine zEv_ial rfl rfl (by decide) h57 ?_
    refine zEv_k 4 (f' := (62, [some (.ref 186), some (.int x1), some (.int x2), some (.int x3)], [.int (((zu I (186 + 2) (x1).toNatClampNeg ((I (186 + 2) (x1).toNatClampNeg) ||| ((1 : Int32) <<< (x3 &&& 31)))) (186 + 2) (x3).toNatClampNeg) ||| ((1 : Int32) <<< (x1 &&& 31))), .int x3, .ref (186 + 2)], (zS0, R, zu I (186 + 2) (x1).toNatClampNeg ((I (186 + 2) (x1).toNatClampNeg) ||| ((1 : Int32) <<< (x3 &&& 31))), J))) rfl ?_
    refine zEv_ias rfl rfl (by decide) h62 ?_
    exact k1
theorem b_98_63 {X : zX} {d : Nat} {R : zR} {I : zI} {J : zJ} {r : zA} {o : Nat} {x1 : Int32} {x2 : Int32} {x3 : Int32} (ho : o = 180 ∨ o = 186) (k1 : zEv X d zm_98 (16, [some (.ref o), some (.int x1), some (.int x2), some (.int (x3 + 1))], [], (zS0, R, I, J)) r) : zEv X d zm_98 (63, [some (.ref o), some (.int x1), some (.int x2), some (.int x3)], [], (zS0, R, I, J)) r := by
  rcases ho with rfl | rfl
  · refine zEv_k 2 (f' := (16, [some (.ref 180), some (.int x1), some (.int x2), some (.int (x3 + 1))], [], (zS0, R, I, J))) rfl ?_
    exact k1
  · refine zEv_k 2 (f' := (16, [some (.ref 186), some (.int x1), some (.int x2), some (.int (x3 + 1))], [], (zS0, R, I, J))) rfl ?_
    exact k1
theorem b_98_69 {X : zX} {d : Nat} {R : zR} {I : zI} {J : zJ} {o : Nat} {x1 : Int32} {x2 : Int32} {x3 : Int32} (ho : o = 180 ∨ o = 186) : zEv X d zm_98 (69, [some (.ref o), some (.int x1), some (.int x2), some (.int x3)], [], (zS0, R, I, J)) (none, (zS0, R, I, J)) := by
  rcases ho with rfl | rfl
  · exact zEv_r rfl
  · exact zEv_r rfl
theorem b_99_0 {X : zX} {d : Nat} {R : zR} {I : zI} {J : zJ} {r : zA} {o : Nat} {x1 : Int32} (hR : zRok R) (ho : o = 180 ∨ o = 186) (h6 : zin x1 7) (k1 : zEv X d zm_99 (9, [some (.ref o), some (.int x1), some (.int 0)], [], (zS0, R, zu I (o + 2) (x1).toNatClampNeg 0, J)) r) : zEv X d zm_99 (0, [some (.ref o), some (.int x1), none], [], (zS0, R, I, J)) r := by
  rcases ho with rfl | rfl
  · refine zEv_k 1 (f' := (1, [some (.ref 180), some (.int x1), none], [.ref 180], (zS0, R, I, J))) rfl ?_
    refine zEv_gr rfl rfl rfl (by decide) (hR (180) 3 (180 + 2) rfl) ?_
    refine zEv_k 2 (f' := (6, [some (.ref 180), some (.int x1), none], [.int 0, .int x1, .ref (180 + 2)], (zS0, R, I, J))) rfl ?_
    refine zEv_ias rfl rfl (by decide) h6 ?_
    refine zEv_k 2 (f' := (9, [some (.ref 180), some (.int x1), some (.int 0)], [], (zS0, R, zu I (180 + 2) (x1).toNatClampNeg 0, J))) rfl ?_
    exact k1
  · refine zEv_k 1 (f' := (1, [some (.ref 186), some (.int x1), none], [.ref 186], (zS0, R, I, J))) rfl ?_
    refine zEv_gr rfl rfl rfl (by decide) (hR (186) 3 (186 + 2) rfl) ?_
    refine zEv_k 2 (f' := (6, [some (.ref 186), some (.int x1), none], [.int 0, .int x1, .ref (186 + 2)], (zS0, R, I, J))) rfl ?_
    refine zEv_ias rfl rfl (by decide) h6 ?_
    refine zEv_k 2 (f' := (9, [some (.ref 186), some (.int x1), some (.int 0)], [], (zS0, R, zu I (186 + 2) (x1).toNatClampNeg 0, J))) rfl ?_
    exact k1
theorem b_99_9 {X : zX} {d : Nat} {R : zR} {I : zI} {J : zJ} {r : zA} {o : Nat} {x1 : Int32} {x2 : Int32} (ho : o = 180 ∨ o = 186) (k1 : x1 ≤ x2 → zEv X d zm_99 (34, [some (.ref o), some (.int x1), some (.int x2)], [], (zS0, R, I, J)) r) (k2 : ¬ (x1 ≤ x2) → zEv X d zm_99 (14, [some (.ref o), some (.int x1), some (.int x2)], [], (zS0, R, I, J)) r) : zEv X d zm_99 (9, [some (.ref o), some (.int x1), some (.int x2)], [], (zS0, R, I, J)) r := by
  rcases ho with rfl | rfl
  · refine zEv_k 3 (f' := (if x1 ≤ x2 then 34 else 14, [some (.ref 180), some (.int x1), some (.int x2)], [], (zS0, R, I, J))) rfl ?_
    exact zEv_if k1 k2
  · refine zEv_k 3 (f' := (if x1 ≤ x2 then 34 else 14, [some (.ref 186), some (.int x1), some (.int x2)], [], (zS0, R, I, J))) rfl ?_
    exact zEv_if k1 k2
theorem b_99_14 {X : zX} {d : Nat} {R : zR} {I : zI} {J : zJ} {r : zA} {o : Nat} {x1 : Int32} {x2 : Int32} (hR : zRok R) (ho : o = 180 ∨ o = 186) (h20 : zin x2 7) (h27 : zin x2 7) (k1 : zEv X d zm_99 (9, [some (.ref o), some (.int x1), some (.int (x2 + 1))], [], (zS0, R, zu I (o + 2) (x2).toNatClampNeg ((I (o + 2) (x2).toNatClampNeg) &&& (((1 : Int32) <<< (x1 &&& 31)) ^^^ (-1))), J)) r) : zEv X d zm_99 (14, [some (.ref o), some (.int x1), some (.int x2)], [], (zS0, R, I, J)) r := by
  rcases ho with rfl | rfl
  · refine zEv_k 1 (f' := (15, [some (.ref 180), some (.int x1), some (.int x2)], [.ref 180], (zS0, R, I, J))) rfl ?_
    refine zEv_gr rfl rfl rfl (by decide) (hR (180) 3 (180 + 2) rfl) ?_
    refine zEv_k 2 (f' := (20, [some (.ref 180), some (.int x1), some (.int x2)], [.int x2, .ref (180 + 2), .int x2, .ref (180 + 2)], (zS0, R, I, J))) rfl ?_
    refine zEv_ial rfl rfl (by decide) h20 ?_
    refine zEv_k 6 (f' := (27, [some (.ref 180), some (.int x1), some (.int x2)], [.int ((I (180 + 2) (x2).toNatClampNeg) &&& (((1 : Int32) <<< (x1 &&& 31)) ^^^ (-1))), .int x2, .ref (180 + 2)], (zS0, R, I, J))) rfl ?_
    refine zEv_ias rfl rfl (by decide) h27 ?_
    refine zEv_k 2 (f' := (9, [some (.ref 180), some (.int x1), some (.int (x2 + 1))], [], (zS0, R, zu I (180 + 2) (x2).toNatClampNeg ((I (180 + 2) (x2).toNatClampNeg) &&& (((1 : Int32) <<< (x1 &&& 31)) ^^^ (-1))), J))) rfl ?_
    exact k1
  · refine zEv_k 1 (f' := (15, [some (.ref 186), some (.int x1), some (.int x2)], [.ref 186], (zS0, R, I, J))) rfl ?_
    refine zEv_gr rfl rfl rfl (by decide) (hR (186) 3 (186 + 2) rfl) ?_
    refine zEv_k 2 (f' := (20, [some (.ref 186), some (.int x1), some (.int x2)], [.int x2, .ref (186 + 2), .int x2, .ref (186 + 2)], (zS0, R, I, J))) rfl ?_
    refine zEv_ial rfl rfl (by decide) h20 ?_
    refine zEv_k 6 (f' := (27, [some (.ref 186), some (.int x1), some (.int x2)], [.int ((I (186 + 2) (x2).toNatClampNeg) &&& (((1 : Int32) <<< (x1 &&& 31)) ^^^ (-1))), .int x2, .ref (186 + 2)], (zS0, R, I, J))) rfl ?_
    refine zEv_ias rfl rfl (by decide) h27 ?_
    refine zEv_k 2 (f' := (9, [some (.ref 186), some (.int x1), some (.int (x2 + 1))], [], (zS0, R, zu I (186 + 2) (x2).toNatClampNeg ((I (186 + 2) (x2).toNatClampNeg) &&& (((1 : Int32) <<< (x1 &&& 31)) ^^^ (-1))), J))) rfl ?_
    exact k1
theorem b_99_34 {X : zX} {d : Nat} {R : zR} {I : zI} {J : zJ} {o : Nat} {x1 : Int32} {x2 : Int32} (ho : o = 180 ∨ o = 186) : zEv X d zm_99 (34, [some (.ref o), some (.int x1), some (.int x2)], [], (zS0, R, I, J)) (none, (zS0, R, I, J)) := by
  rcases ho with rfl | rfl
  · exact zEv_r rfl
  · exact zEv_r rfl
theorem b_100_0 {X : zX} {d : Nat} {R : zR} {I : zI} {J : zJ} {r : zA} {o : Nat} {x1 : Int32} (ho : o = 180 ∨ o = 186) (k1 : zEv X d zm_100 (9, [some (.ref o), some (.int x1), some (.int ((1 : Int32) <<< (x1 &&& 31))), some (.int 0), some (.int 0), none], [], (zS0, R, I, J)) r) : zEv X d zm_100 (0, [some (.ref o), some (.int x1), none, none, none, none], [], (zS0, R, I, J)) r := by
  rcases ho with rfl | rfl
  · refine zEv_k 8 (f' := (9, [some (.ref 180), some (.int x1), some (.int ((1 : Int32) <<< (x1 &&& 31))), some (.int 0), some (.int 0), none], [], (zS0, R, I, J))) rfl ?_
    exact k1
  · refine zEv_k 8 (f' := (9, [some (.ref 186), some (.int x1), some (.int ((1 : Int32) <<< (x1 &&& 31))), some (.int 0), some (.int 0), none], [], (zS0, R, I, J))) rfl ?_
    exact k1
theorem b_100_9 {X : zX} {d : Nat} {R : zR} {I : zI} {J : zJ} {r : zA} {o : Nat} {x1 : Int32} {x2 : Int32} {x3 : Int32} {x4 : Int32} {x5 : Option Value} (ho : o = 180 ∨ o = 186) (k1 : (I o 0) ≤ x4 → zEv X d zm_100 (87, [some (.ref o), some (.int x1), some (.int x2), some (.int x3), some (.int x4), x5], [], (zS0, R, I, J)) r) (k2 : ¬ ((I o 0) ≤ x4) → zEv X d zm_100 (18, [some (.ref o), some (.int x1), some (.int x2), some (.int x3), some (.int x4), x5], [], (zS0, R, I, J)) r) : zEv X d zm_100 (9, [some (.ref o), some (.int x1), some (.int x2), some (.int x3), some (.int x4), x5], [], (zS0, R, I, J)) r := by
  rcases ho with rfl | rfl
  · refine zEv_k 4 (f' := (if (I 180 0) ≤ x4 then 87 else 18, [some (.ref 180), some (.int x1), some (.int x2), some (.int x3), some (.int x4), x5], [], (zS0, R, I, J))) rfl ?_
    exact zEv_if k1 k2
  · refine zEv_k 4 (f' := (if (I 186 0) ≤ x4 then 87 else 18, [some (.ref 186), some (.int x1), some (.int x2), some (.int x3), some (.int x4), x5], [], (zS0, R, I, J))) rfl ?_
    exact zEv_if k1 k2
theorem b_100_18 {X : zX} {d : Nat} {R : zR} {I : zI} {J : zJ} {r : zA} {o : Nat} {x1 : Int32} {x2 : Int32} {x3 : Int32} {x4 : Int32} {x5 : Option Value} (ho : o = 180 ∨ o = 186) (k1 : x2 = x3 → zEv X d zm_100 (87, [some (.ref o), some (.int x1), some (.int x2), some (.int x3), some (.int x4), x5], [], (zS0, R, I, J)) r) (k2 : ¬ (x2 = x3) → zEv X d zm_100 (23, [some (.ref o), some (.int x1), some (.int x2), some (.int x3), some (.int x4), x5], [], (zS0, R, I, J)) r) : zEv X d zm_100 (18, [some (.ref o), some (.int x1), some (.int x2), some (.int x3), some (.int x4), x5], [], (zS0, R, I, J)) r := by
  rcases ho with rfl | rfl
  · refine zEv_k 3 (f' := (if x2 = x3 then 87 else 23, [some (.ref 180), some (.int x1), some (.int x2), some (.int x3), some (.int x4), x5], [], (zS0, R, I, J))) rfl ?_
    exact zEv_if k1 k2
  · refine zEv_k 3 (f' := (if x2 = x3 then 87 else 23, [some (.ref 186), some (.int x1), some (.int x2), some (.int x3), some (.int x4), x5], [], (zS0, R, I, J))) rfl ?_
    exact zEv_if k1 k2
theorem b_100_23 {X : zX} {d : Nat} {R : zR} {I : zI} {J : zJ} {r : zA} {o : Nat} {x1 : Int32} {x2 : Int32} {x3 : Int32} {x4 : Int32} {x5 : Option Value} (ho : o = 180 ∨ o = 186) (k1 : zEv X d zm_100 (28, [some (.ref o), some (.int x1), some (.int x2), some (.int x2), some (.int x4), some (.int 0)], [], (zS0, R, I, J)) r) : zEv X d zm_100 (23, [some (.ref o), some (.int x1), some (.int x2), some (.int x3), some (.int x4), x5], [], (zS0, R, I, J)) r := by
  rcases ho with rfl | rfl
  · refine zEv_k 4 (f' := (28, [some (.ref 180), some (.int x1), some (.int x2), some (.int x2), some (.int x4), some (.int 0)], [], (zS0, R, I, J))) rfl ?_
    exact k1
  · refine zEv_k 4 (f' := (28, [some (.ref 186), some (.int x1), some (.int x2), some (.int x2), some (.int x4), some (.int 0)], [], (zS0, R, I, J))) rfl ?_
    exact k1
theorem b_100_28 {X : zX} {d : Nat} {R : zR} {I : zI} {J : zJ} {r : zA} {o : Nat} {x1 : Int32} {x2 : Int32} {x3 : Int32} {x4 : Int32} {x5 : Int32} (ho : o = 180 ∨ o = 186) (k1 : (I o 0) ≤ x5 → zEv X d zm_100 (81, [some (.ref o), some (.int x1), some (.int x2), some (.int x3), some (.int x4), some (.int x5)], [], (zS0, R, I, J)) r) (k2 : ¬ ((I o 0) ≤ x5) → zEv X d zm_100 (37, [some (.ref o), some (.int x1), some (.int x2), some (.int x3), some (.int x4), some (.int x5)], [], (zS0, R, I, J)) r) : zEv X d zm_100 (28, [some (.ref o), some (.int x1), some (.int x2), some (.int x3), some (.int x4), some (.int x5)], [], (zS0, R, I, J)) r := by
  rcases ho with rfl | rfl
  · refine zEv_k 4 (f' := (if (I 180 0) ≤ x5 then 81 else 37, [some (.ref 180), some (.int x1), some (.int x2), some (.int x3), some (.int x4), some (.int x5)], [], (zS0, R, I, J))) rfl ?_
    exact zEv_if k1 k2
  · refine zEv_k 4 (f' := (if (I 186 0) ≤ x5 then 81 else 37, [some (.ref 186), some (.int x1), some (.int x2), some (.int x3), some (.int x4), some (.int x5)], [], (zS0, R, I, J))) rfl ?_
    exact zEv_if k1 k2
theorem b_100_37 {X : zX} {d : Nat} {R : zR} {I : zI} {J : zJ} {r : zA} {o : Nat} {x1 : Int32} {x2 : Int32} {x3 : Int32} {x4 : Int32} {x5 : Int32} (ho : o = 180 ∨ o = 186) (k1 : ¬ (zf_cin x2 x5) = 0 → zEv X (d + 1) zm_100 (75, [some (.ref o), some (.int x1), some (.int x2), some (.int x3), some (.int x4), some (.int x5)], [], (zS0, R, I, J)) r) (k2 : ¬ (¬ (zf_cin x2 x5) = 0) → zEv X (d + 1) zm_100 (46, [some (.ref o), some (.int x1), some (.int x2), some (.int x3), some (.int x4), some (.int x5)], [], (zS0, R, I, J)) r) : zEv X (d + 1) zm_100 (37, [some (.ref o), some (.int x1), some (.int x2), some (.int x3), some (.int x4), some (.int x5)], [], (zS0, R, I, J)) r := by
  rcases ho with rfl | rfl
  · refine zEv_k 2 (f' := (40, [some (.ref 180), some (.int x1), some (.int x2), some (.int x3), some (.int x4), some (.int x5)], [.int x5, .int x2], (zS0, R, I, J))) rfl ?_
    refine zEv_c (fun _ => rfl) rfl ev_zf_cin rfl rfl ?_
    refine zEv_k 1 (f' := (if ¬ (zf_cin x2 x5) = 0 then 75 else 46, [some (.ref 180), some (.int x1), some (.int x2), some (.int x3), some (.int x4), some (.int x5)], [], (zS0, R, I, J))) rfl ?_
    exact zEv_if k1 k2
  · refine zEv_k 2 (f' := (40, [some (.ref 186), some (.int x1), some (.int x2), some (.int x3), some (.int x4), some (.int x5)], [.int x5, .int x2], (zS0, R, I, J))) rfl ?_
    refine zEv_c (fun _ => rfl) rfl ev_zf_cin rfl rfl ?_
    refine zEv_k 1 (f' := (if ¬ (zf_cin x2 x5) = 0 then 75 else 46, [some (.ref 186), some (.int x1), some (.int x2), some (.int x3), some (.int x4), some (.int x5)], [], (zS0, R, I, J))) rfl ?_
    exact zEv_if k1 k2
theorem b_100_46 {X : zX} {d : Nat} {R : zR} {I : zI} {J : zJ} {r : zA} {o : Nat} {x1 : Int32} {x2 : Int32} {x3 : Int32} {x4 : Int32} {x5 : Int32} {w : Int32} {R' : zR} {I' : zI} {J' : zJ} (hR : zRok R) (ho : o = 180 ∨ o = 186) (h52 : zin x5 7) (hc : zEv X d zm_286 (0, [some (.int ((I (o + 2) (x5).toNatClampNeg) &&& x2))], [], (zS0, R, I, J)) (some (.int w), (zS0, R', I', J'))) (k1 : zEv X (d + 1) zm_100 (58, [some (.ref o), some (.int x1), some (.int x2), some (.int x3), some (.int x4), some (.int x5)], [.int w], (zS0, R', I', J')) r) : zEv X (d + 1) zm_100 (46, [some (.ref o), some (.int x1), some (.int x2), some (.int x3), some (.int x4), some (.int x5)], [], (zS0, R, I, J)) r := by
  rcases ho with rfl | rfl
  · refine zEv_k 1 (f' := (47, [some (.ref 180), some (.int x1), some (.int x2), some (.int x3), some (.int x4), some (.int x5)], [.ref 180], (zS0, R, I, J))) rfl ?_
    refine zEv_gr rfl rfl rfl (by decide) (hR (180) 3 (180 + 2) rfl) ?_
    refine zEv_k 1 (f' := (52, [some (.ref 180), some (.int x1), some (.int x2), some (.int x3), some (.int x4), some (.int x5)], [.int x5, .ref (180 + 2)], (zS0, R, I, J))) rfl ?_
    refine zEv_ial rfl rfl (by decide) h52 ?_
    refine zEv_k 2 (f' := (55, [some (.ref 180), some (.int x1), some (.int x2), some (.int x3), some (.int x4), some (.int x5)], [.int ((I (180 + 2) (x5).toNatClampNeg) &&& x2)], (zS0, R, I, J))) rfl ?_
    exact zEv_c (fun _ => rfl) rfl hc rfl rfl k1
  · refine zEv_k 1 (f' := (47, [some (.ref 186), some (.int x1), some (.int x2), some (.int x3), some (.int x4), some (.int x5)], [.ref 186], (zS0, R, I, J))) rfl ?_
    refine zEv_gr rfl rfl rfl (by decide) (hR (186) 3 (186 + 2) rfl) ?_
    refine zEv_k 1 (f' := (52, [some (.ref 186), some (.int x1), some (.int x2), some (.int x3), some (.int x4), some (.int x5)], [.int x5, .ref (186 + 2)], (zS0, R, I, J))) rfl ?_
    refine zEv_ial rfl rfl (by decide) h52 ?_
    refine zEv_k 2 (f' := (55, [some (.ref 186), some (.int x1), some (.int x2), some (.int x3), some (.int x4), some (.int x5)], [.int ((I (186 + 2) (x5).toNatClampNeg) &&& x2)], (zS0, R, I, J))) rfl ?_
    exact zEv_c (fun _ => rfl) rfl hc rfl rfl k1
theorem b_100_58 {X : zX} {d : Nat} {R : zR} {I : zI} {J : zJ} {r : zA} {o : Nat} {x1 : Int32} {x2 : Int32} {x3 : Int32} {x4 : Int32} {x5 : Int32} {s0 : Int32} (hR : zRok R) (ho : o = 180 ∨ o = 186) (h64 : zin x5 7) (k1 : s0 < (I (o + 1) (x5).toNatClampNeg) → zEv X d zm_100 (75, [some (.ref o), some (.int x1), some (.int x2), some (.int x3), some (.int x4), some (.int x5)], [], (zS0, R, I, J)) r) (k2 : ¬ (s0 < (I (o + 1) (x5).toNatClampNeg)) → zEv X d zm_100 (68, [some (.ref o), some (.int x1), some (.int x2), some (.int x3), some (.int x4), some (.int x5)], [], (zS0, R, I, J)) r) : zEv X d zm_100 (58, [some (.ref o), some (.int x1), some (.int x2), some (.int x3), some (.int x4), some (.int x5)], [.int s0], (zS0, R, I, J)) r := by
  rcases ho with rfl | rfl
  · refine zEv_k 1 (f' := (59, [some (.ref 180), some (.int x1), some (.int x2), some (.int x3), some (.int x4), some (.int x5)], [.ref 180, .int s0], (zS0, R, I, J))) rfl ?_
    refine zEv_gr rfl rfl rfl (by decide) (hR (180) 1 (180 + 1) rfl) ?_
    refine zEv_k 1 (f' := (64, [some (.ref 180), some (.int x1), some (.int x2), some (.int x3), some (.int x4), some (.int x5)], [.int x5, .ref (180 + 1), .int s0], (zS0, R, I, J))) rfl ?_
    refine zEv_ial rfl rfl (by decide) h64 ?_
    refine zEv_k 1 (f' := (if s0 < (I (180 + 1) (x5).toNatClampNeg) then 75 else 68, [some (.ref 180), some (.int x1), some (.int x2), some (.int x3), some (.int x4), some (.int x5)], [], (zS0, R, I, J))) rfl ?_
    exact zEv_if k1 k2
  · refine zEv_k 1 (f' := (59, [some (.ref 186), some (.int x1), some (.int x2), some (.int x3), some (.int x4), some (.int x5)], [.ref 186, .int s0], (zS0, R, I, J))) rfl ?_
    refine zEv_gr rfl rfl rfl (by decide) (hR (186) 1 (186 + 1) rfl) ?_
    refine zEv_k 1 (f' := (64, [some (.ref 186), some (.int x1), some (.int x2), some (.int x3), some (.int x4), some (.int x5)], [.int x5, .ref (186 + 1), .int s0], (zS0, R, I, J))) rfl ?_
    refine zEv_ial rfl rfl (by decide) h64 ?_
    refine zEv_k 1 (f' := (if s0 < (I (186 + 1) (x5).toNatClampNeg) then 75 else 68, [some (.ref 186), some (.int x1), some (.int x2), some (.int x3), some (.int x4), some (.int x5)], [], (zS0, R, I, J))) rfl ?_
    exact zEv_if k1 k2
theorem b_100_68 {X : zX} {d : Nat} {R : zR} {I : zI} {J : zJ} {r : zA} {o : Nat} {x1 : Int32} {x2 : Int32} {x3 : Int32} {x4 : Int32} {x5 : Int32} (ho : o = 180 ∨ o = 186) (k1 : zEv X d zm_100 (75, [some (.ref o), some (.int x1), some (.int (x2 ||| ((1 : Int32) <<< (x5 &&& 31)))), some (.int x3), some (.int x4), some (.int x5)], [], (zS0, R, I, J)) r) : zEv X d zm_100 (68, [some (.ref o), some (.int x1), some (.int x2), some (.int x3), some (.int x4), some (.int x5)], [], (zS0, R, I, J)) r := by
  rcases ho with rfl | rfl
  · refine zEv_k 6 (f' := (75, [some (.ref 180), some (.int x1), some (.int (x2 ||| ((1 : Int32) <<< (x5 &&& 31)))), some (.int x3), some (.int x4), some (.int x5)], [], (zS0, R, I, J))) rfl ?_
    exact k1
  · refine zEv_k 6 (f' := (75, [some (.ref 186), some (.int x1), some (.int (x2 ||| ((1 : Int32) <<< (x5 &&& 31)))), some (.int x3), some (.int x4), some (.int x5)], [], (zS0, R, I, J))) rfl ?_
    exact k1
theorem b_100_75 {X : zX} {d : Nat} {R : zR} {I : zI} {J : zJ} {r : zA} {o : Nat} {x1 : Int32} {x2 : Int32} {x3 : Int32} {x4 : Int32} {x5 : Int32} (ho : o = 180 ∨ o = 186) (k1 : zEv X d zm_100 (28, [some (.ref o), some (.int x1), some (.int x2), some (.int x3), some (.int x4), some (.int (x5 + 1))], [], (zS0, R, I, J)) r) : zEv X d zm_100 (75, [some (.ref o), some (.int x1), some (.int x2), some (.int x3), some (.int x4), some (.int x5)], [], (zS0, R, I, J)) r := by
  rcases ho with rfl | rfl
  · refine zEv_k 2 (f' := (28, [some (.ref 180), some (.int x1), some (.int x2), some (.int x3), some (.int x4), some (.int (x5 + 1))], [], (zS0, R, I, J))) rfl ?_
    exact k1
  · refine zEv_k 2 (f' := (28, [some (.ref 186), some (.int x1), some (.int x2), some (.int x3), some (.int x4), some (.int (x5 + 1))], [], (zS0, R, I, J))) rfl ?_
    exact k1
theorem b_100_81 {X : zX} {d : Nat} {R : zR} {I : zI} {J : zJ} {r : zA} {o : Nat} {x1 : Int32} {x2 : Int32} {x3 : Int32} {x4 : Int32} {x5 : Int32} (ho : o = 180 ∨ o = 186) (k1 : zEv X d zm_100 (9, [some (.ref o), some (.int x1), some (.int x2), some (.int x3), some (.int (x4 + 1)), some (.int x5)], [], (zS0, R, I, J)) r) : zEv X d zm_100 (81, [some (.ref o), some (.int x1), some (.int x2), some (.int x3), some (.int x4), some (.int x5)], [], (zS0, R, I, J)) r := by
  rcases ho with rfl | rfl
  · refine zEv_k 2 (f' := (9, [some (.ref 180), some (.int x1), some (.int x2), some (.int x3), some (.int (x4 + 1)), some (.int x5)], [], (zS0, R, I, J))) rfl ?_
    exact k1
  · refine zEv_k 2 (f' := (9, [some (.ref 186), some (.int x1), some (.int x2), some (.int x3), some (.int (x4 + 1)), some (.int x5)], [], (zS0, R, I, J))) rfl ?_
    exact k1
theorem b_100_87 {X : zX} {d : Nat} {R : zR} {I : zI} {J : zJ} {o : Nat} {x1 : Int32} {x2 : Int32} {x3 : Int32} {x4 : Int32} {x5 : Option Value} (ho : o = 180 ∨ o = 186) : zEv X d zm_100 (87, [some (.ref o), some (.int x1), some (.int x2), some (.int x3), some (.int x4), x5], [], (zS0, R, I, J)) (some (.int x2), (zS0, R, I, J)) := by
  rcases ho with rfl | rfl
  · refine zEv_k 1 (f' := (88, [some (.ref 180), some (.int x1), some (.int x2), some (.int x3), some (.int x4), x5], [.int x2], (zS0, R, I, J))) rfl ?_
    exact zEv_r rfl
  · refine zEv_k 1 (f' := (88, [some (.ref 186), some (.int x1), some (.int x2), some (.int x3), some (.int x4), x5], [.int x2], (zS0, R, I, J))) rfl ?_
    exact zEv_r rfl
theorem b_101_0 {X : zX} {d : Nat} {R : zR} {I : zI} {J : zJ} {r : zA} {o : Nat} {x1 : Int32} (ho : o = 180 ∨ o = 186) (k1 : zEv X d zm_101 (4, [some (.ref o), some (.int x1), some (.int 0), some (.int 0)], [], (zS0, R, I, J)) r) : zEv X d zm_101 (0, [some (.ref o), some (.int x1), none, none], [], (zS0, R, I, J)) r := by
  rcases ho with rfl | rfl
  · refine zEv_k 4 (f' := (4, [some (.ref 180), some (.int x1), some (.int 0), some (.int 0)], [], (zS0, R, I, J))) rfl ?_
    exact k1
  · refine zEv_k 4 (f' := (4, [some (.ref 186), some (.int x1), some (.int 0), some (.int 0)], [], (zS0, R, I, J))) rfl ?_
    exact k1
theorem b_101_4 {X : zX} {d : Nat} {R : zR} {I : zI} {J : zJ} {r : zA} {o : Nat} {x1 : Int32} {x2 : Int32} {x3 : Int32} (ho : o = 180 ∨ o = 186) (k1 : (I o 0) ≤ x3 → zEv X d zm_101 (36, [some (.ref o), some (.int x1), some (.int x2), some (.int x3)], [], (zS0, R, I, J)) r) (k2 : ¬ ((I o 0) ≤ x3) → zEv X d zm_101 (12, [some (.ref o), some (.int x1), some (.int x2), some (.int x3)], [], (zS0, R, I, J)) r) : zEv X d zm_101 (4, [some (.ref o), some (.int x1), some (.int x2), some (.int x3)], [], (zS0, R, I, J)) r := by
  rcases ho with rfl | rfl
  · refine zEv_k 4 (f' := (if (I 180 0) ≤ x3 then 36 else 12, [some (.ref 180), some (.int x1), some (.int x2), some (.int x3)], [], (zS0, R, I, J))) rfl ?_
    exact zEv_if k1 k2
  · refine zEv_k 4 (f' := (if (I 186 0) ≤ x3 then 36 else 12, [some (.ref 186), some (.int x1), some (.int x2), some (.int x3)], [], (zS0, R, I, J))) rfl ?_
    exact zEv_if k1 k2
theorem b_101_12 {X : zX} {d : Nat} {R : zR} {I : zI} {J : zJ} {r : zA} {o : Nat} {x1 : Int32} {x2 : Int32} {x3 : Int32} (ho : o = 180 ∨ o = 186) (k1 : x1 ≤ x2 → zEv X d zm_101 (36, [some (.ref o), some (.int x1), some (.int x2), some (.int x3)], [], (zS0, R, I, J)) r) (k2 : ¬ (x1 ≤ x2) → zEv X d zm_101 (17, [some (.ref o), some (.int x1), some (.int x2), some (.int x3)], [], (zS0, R, I, J)) r) : zEv X d zm_101 (12, [some (.ref o), some (.int x1), some (.int x2), some (.int x3)], [], (zS0, R, I, J)) r := by
  rcases ho with rfl | rfl
  · refine zEv_k 3 (f' := (if x1 ≤ x2 then 36 else 17, [some (.ref 180), some (.int x1), some (.int x2), some (.int x3)], [], (zS0, R, I, J))) rfl ?_
    exact zEv_if k1 k2
  · refine zEv_k 3 (f' := (if x1 ≤ x2 then 36 else 17, [some (.ref 186), some (.int x1), some (.int x2), some (.int x3)], [], (zS0, R, I, J))) rfl ?_
    exact zEv_if k1 k2
theorem b_101_17 {X : zX} {d : Nat} {R : zR} {I : zI} {J : zJ} {r : zA} {o : Nat} {x1 : Int32} {x2 : Int32} {x3 : Int32} {w : Int32} {R' : zR} {I' : zI} {J' : zJ} (ho : o = 180 ∨ o = 186) (hc : zEv X d zm_100 (0, [some (.ref o), some (.int x3), none, none, none, none], [], (zS0, R, I, J)) (some (.int w), (zS0, R', I', J'))) (k1 : zEv X (d + 1) zm_101 (23, [some (.ref o), some (.int x1), some (.int x2), some (.int x3)], [.int w, .int x2], (zS0, R', I', J')) r) : zEv X (d + 1) zm_101 (17, [some (.ref o), some (.int x1), some (.int x2), some (.int x3)], [], (zS0, R, I, J)) r := by
  rcases ho with rfl | rfl
  · refine zEv_k 3 (f' := (20, [some (.ref 180), some (.int x1), some (.int x2), some (.int x3)], [.int x3, .ref 180, .int x2], (zS0, R, I, J))) rfl ?_
    exact zEv_c (fun _ => rfl) rfl hc rfl rfl k1
  · refine zEv_k 3 (f' := (20, [some (.ref 186), some (.int x1), some (.int x2), some (.int x3)], [.int x3, .ref 186, .int x2], (zS0, R, I, J))) rfl ?_
    exact zEv_c (fun _ => rfl) rfl hc rfl rfl k1
theorem b_101_23 {X : zX} {d : Nat} {R : zR} {I : zI} {J : zJ} {r : zA} {o : Nat} {x1 : Int32} {x2 : Int32} {x3 : Int32} {s0 : Int32} {s1 : Int32} {w : Int32} {R' : zR} {I' : zI} {J' : zJ} (ho : o = 180 ∨ o = 186) (hc : zEv X d zm_286 (0, [some (.int s1)], [], (zS0, R, I, J)) (some (.int w), (zS0, R', I', J'))) (k1 : zEv X (d + 1) zm_101 (26, [some (.ref o), some (.int x1), some (.int x2), some (.int x3)], [.int w, .int s0], (zS0, R', I', J')) r) : zEv X (d + 1) zm_101 (23, [some (.ref o), some (.int x1), some (.int x2), some (.int x3)], [.int s1, .int s0], (zS0, R, I, J)) r := by
  rcases ho with rfl | rfl
  · exact zEv_c (fun _ => rfl) rfl hc rfl rfl k1
  · exact zEv_c (fun _ => rfl) rfl hc rfl rfl k1
theorem b_101_26 {X : zX} {d : Nat} {R : zR} {I : zI} {J : zJ} {r : zA} {o : Nat} {x1 : Int32} {x2 : Int32} {x3 : Int32} {s0 : Int32} {s1 : Int32} (ho : o = 180 ∨ o = 186) (k1 : zEv X d zm_101 (4, [some (.ref o), some (.int x1), some (.int (if s0 < s1 then s1 else s0)), some (.int (x3 + 1))], [], (zS0, R, I, J)) r) : zEv X d zm_101 (26, [some (.ref o), some (.int x1), some (.int x2), some (.int x3)], [.int s1, .int s0], (zS0, R, I, J)) r := by
  rcases ho with rfl | rfl
  · refine zEv_k 4 (f' := (4, [some (.ref 180), some (.int x1), some (.int (if s0 < s1 then s1 else s0)), some (.int (x3 + 1))], [], (zS0, R, I, J))) rfl ?_
    exact k1
  · refine zEv_k 4 (f' := (4, [some (.ref 186), some (.int x1), some (.int (if s0 < s1 then s1 else s0)), some (.int (x3 + 1))], [], (zS0, R, I, J))) rfl ?_
    exact k1
theorem b_101_36 {X : zX} {d : Nat} {R : zR} {I : zI} {J : zJ} {o : Nat} {x1 : Int32} {x2 : Int32} {x3 : Int32} (ho : o = 180 ∨ o = 186) : zEv X d zm_101 (36, [some (.ref o), some (.int x1), some (.int x2), some (.int x3)], [], (zS0, R, I, J)) (some (.int x2), (zS0, R, I, J)) := by
  rcases ho with rfl | rfl
  · refine zEv_k 1 (f' := (37, [some (.ref 180), some (.int x1), some (.int x2), some (.int x3)], [.int x2], (zS0, R, I, J))) rfl ?_
    exact zEv_r rfl
  · refine zEv_k 1 (f' := (37, [some (.ref 186), some (.int x1), some (.int x2), some (.int x3)], [.int x2], (zS0, R, I, J))) rfl ?_
    exact zEv_r rfl
theorem b_102_0 {X : zX} {d : Nat} {R : zR} {I : zI} {J : zJ} {r : zA} {c : Nat} {o : Nat} (ho : (c = 7 ∧ o = 180) ∨ (c = 7 ∧ o = 186) ∨ (c = 22 ∧ o = 180) ∨ (c = 22 ∧ o = 186)) (k1 : zEv X d zm_102 (7, [some (.ref o), some (.ref c), some (.int (-1)), some (.int (-1)), some (.int 0), none], [], (zS0, R, I, J)) r) : zEv X d zm_102 (0, [some (.ref o), some (.ref c), none, none, none, none], [], (zS0, R, I, J)) r := by
  rcases ho with ⟨rfl, rfl⟩ | ⟨rfl, rfl⟩ | ⟨rfl, rfl⟩ | ⟨rfl, rfl⟩
  · refine zEv_k 6 (f' := (7, [some (.ref 180), some (.ref 7), some (.int (-1)), some (.int (-1)), some (.int 0), none], [], (zS0, R, I, J))) rfl ?_
    exact k1
  · refine zEv_k 6 (f' := (7, [some (.ref 186), some (.ref 7), some (.int (-1)), some (.int (-1)), some (.int 0), none], [], (zS0, R, I, J))) rfl ?_
    exact k1
  · refine zEv_k 6 (f' := (7, [some (.ref 180), some (.ref 22), some (.int (-1)), some (.int (-1)), some (.int 0), none], [], (zS0, R, I, J))) rfl ?_
    exact k1
  · refine zEv_k 6 (f' := (7, [some (.ref 186), some (.ref 22), some (.int (-1)), some (.int (-1)), some (.int 0), none], [], (zS0, R, I, J))) rfl ?_
    exact k1
theorem b_102_7 {X : zX} {d : Nat} {R : zR} {I : zI} {J : zJ} {r : zA} {c : Nat} {o : Nat} {x2 : Int32} {x3 : Int32} {x4 : Int32} {x5 : Option Value} (ho : (c = 7 ∧ o = 180) ∨ (c = 7 ∧ o = 186) ∨ (c = 22 ∧ o = 180) ∨ (c = 22 ∧ o = 186)) (k1 : (I o 0) ≤ x4 → zEv X d zm_102 (46, [some (.ref o), some (.ref c), some (.int x2), some (.int x3), some (.int x4), x5], [], (zS0, R, I, J)) r) (k2 : ¬ ((I o 0) ≤ x4) → zEv X d zm_102 (16, [some (.ref o), some (.ref c), some (.int x2), some (.int x3), some (.int x4), x5], [], (zS0, R, I, J)) r) : zEv X d zm_102 (7, [some (.ref o), some (.ref c), some (.int x2), some (.int x3), some (.int x4), x5], [], (zS0, R, I, J)) r := by
  rcases ho with ⟨rfl, rfl⟩ | ⟨rfl, rfl⟩ | ⟨rfl, rfl⟩ | ⟨rfl, rfl⟩
  · refine zEv_k 4 (f' := (if (I 180 0) ≤ x4 then 46 else 16, [some (.ref 180), some (.ref 7), some (.int x2), some (.int x3), some (.int x4), x5], [], (zS0, R, I, J))) rfl ?_
    exact zEv_if k1 k2
  · refine zEv_k 4 (f' := (if (I 186 0) ≤ x4 then 46 else 16, [some (.ref 186), some (.ref 7), some (.int x2), some (.int x3), some (.int x4), x5], [], (zS0, R, I, J))) rfl ?_
    exact zEv_if k1 k2
  · refine zEv_k 4 (f' := (if (I 180 0) ≤ x4 then 46 else 16, [some (.ref 180), some (.ref 22), some (.int x2), some (.int x3), some (.int x4), x5], [], (zS0, R, I, J))) rfl ?_
    exact zEv_if k1 k2
  · refine zEv_k 4 (f' := (if (I 186 0) ≤ x4 then 46 else 16, [some (.ref 186), some (.ref 22), some (.int x2), some (.int x3), some (.int x4), x5], [], (zS0, R, I, J))) rfl ?_
    exact zEv_if k1 k2
theorem b_102_16 {X : zX} {d : Nat} {R : zR} {I : zI} {J : zJ} {r : zA} {c : Nat} {o : Nat} {x2 : Int32} {x3 : Int32} {x4 : Int32} {x5 : Option Value} {w : Int32} {R' : zR} {I' : zI} {J' : zJ} (ho : (c = 7 ∧ o = 180) ∨ (c = 7 ∧ o = 186) ∨ (c = 22 ∧ o = 180) ∨ (c = 22 ∧ o = 186)) (hc : zEv X d zm_100 (0, [some (.ref o), some (.int x4), none, none, none, none], [], (zS0, R, I, J)) (some (.int w), (zS0, R', I', J'))) (k1 : zEv X (d + 1) zm_102 (23, [some (.ref o), some (.ref c), some (.int x2), some (.int x3), some (.int x4), x5], [.int w, .ref c], (zS0, R', I', J')) r) : zEv X (d + 1) zm_102 (16, [some (.ref o), some (.ref c), some (.int x2), some (.int x3), some (.int x4), x5], [], (zS0, R, I, J)) r := by
  rcases ho with ⟨rfl, rfl⟩ | ⟨rfl, rfl⟩ | ⟨rfl, rfl⟩ | ⟨rfl, rfl⟩
  · refine zEv_k 3 (f' := (20, [some (.ref 180), some (.ref 7), some (.int x2), some (.int x3), some (.int x4), x5], [.int x4, .ref 180, .ref 7], (zS0, R, I, J))) rfl ?_
    exact zEv_c (fun _ => rfl) rfl hc rfl rfl k1
  · refine zEv_k 3 (f' := (20, [some (.ref 186), some (.ref 7), some (.int x2), some (.int x3), some (.int x4), x5], [.int x4, .ref 186, .ref 7], (zS0, R, I, J))) rfl ?_
    exact zEv_c (fun _ => rfl) rfl hc rfl rfl k1
  · refine zEv_k 3 (f' := (20, [some (.ref 180), some (.ref 22), some (.int x2), some (.int x3), some (.int x4), x5], [.int x4, .ref 180, .ref 22], (zS0, R, I, J))) rfl ?_
    exact zEv_c (fun _ => rfl) rfl hc rfl rfl k1
  · refine zEv_k 3 (f' := (20, [some (.ref 186), some (.ref 22), some (.int x2), some (.int x3), some (.int x4), x5], [.int x4, .ref 186, .ref 22], (zS0, R, I, J))) rfl ?_
    exact zEv_c (fun _ => rfl) rfl hc rfl rfl k1
theorem b_102_23 {X : zX} {d : Nat} {R : zR} {I : zI} {J : zJ} {r : zA} {c : Nat} {o : Nat} {x2 : Int32} {x3 : Int32} {x4 : Int32} {x5 : Option Value} {s1 : Int32} {w : Int32} {R' : zR} {I' : zI} {J' : zJ} (ho : (c = 7 ∧ o = 180) ∨ (c = 7 ∧ o = 186) ∨ (c = 22 ∧ o = 180) ∨ (c = 22 ∧ o = 186)) (hc : zEv X d zm_273 (0, [some (.ref c), some (.int s1), none, none], [], (zS0, R, I, J)) (some (.int w), (zS0, R', I', J'))) (k1 : zEv X (d + 1) zm_102 (26, [some (.ref o), some (.ref c), some (.int x2), some (.int x3), some (.int x4), x5], [.int w], (zS0, R', I', J')) r) : zEv X (d + 1) zm_102 (23, [some (.ref o), some (.ref c), some (.int x2), some (.int x3), some (.int x4), x5], [.int s1, .ref c], (zS0, R, I, J)) r := by
  rcases ho with ⟨rfl, rfl⟩ | ⟨rfl, rfl⟩ | ⟨rfl, rfl⟩ | ⟨rfl, rfl⟩
  · exact zEv_c (fun _ => rfl) rfl hc rfl rfl k1
  · exact zEv_c (fun _ => rfl) rfl hc rfl rfl k1
  · exact zEv_c (fun _ => rfl) rfl hc rfl rfl k1
  · exact zEv_c (fun _ => rfl) rfl hc rfl rfl k1
theorem b_102_26 {X : zX} {d : Nat} {R : zR} {I : zI} {J : zJ} {r : zA} {c : Nat} {o : Nat} {x2 : Int32} {x3 : Int32} {x4 : Int32} {x5 : Option Value} {s0 : Int32} (ho : (c = 7 ∧ o = 180) ∨ (c = 7 ∧ o = 186) ∨ (c = 22 ∧ o = 180) ∨ (c = 22 ∧ o = 186)) (k1 : s0 ≤ x2 → zEv X d zm_102 (40, [some (.ref o), some (.ref c), some (.int x2), some (.int x3), some (.int x4), some (.int s0)], [], (zS0, R, I, J)) r) (k2 : ¬ (s0 ≤ x2) → zEv X d zm_102 (34, [some (.ref o), some (.ref c), some (.int x2), some (.int x3), some (.int x4), some (.int s0)], [], (zS0, R, I, J)) r) : zEv X d zm_102 (26, [some (.ref o), some (.ref c), some (.int x2), some (.int x3), some (.int x4), x5], [.int s0], (zS0, R, I, J)) r := by
  rcases ho with ⟨rfl, rfl⟩ | ⟨rfl, rfl⟩ | ⟨rfl, rfl⟩ | ⟨rfl, rfl⟩
  · refine zEv_k 4 (f' := (if s0 ≤ x2 then 40 else 34, [some (.ref 180), some (.ref 7), some (.int x2), some (.int x3), some (.int x4), some (.int s0)], [], (zS0, R, I, J))) rfl ?_
    exact zEv_if k1 k2
  · refine zEv_k 4 (f' := (if s0 ≤ x2 then 40 else 34, [some (.ref 186), some (.ref 7), some (.int x2), some (.int x3), some (.int x4), some (.int s0)], [], (zS0, R, I, J))) rfl ?_
    exact zEv_if k1 k2
  · refine zEv_k 4 (f' := (if s0 ≤ x2 then 40 else 34, [some (.ref 180), some (.ref 22), some (.int x2), some (.int x3), some (.int x4), some (.int s0)], [], (zS0, R, I, J))) rfl ?_
    exact zEv_if k1 k2
  · refine zEv_k 4 (f' := (if s0 ≤ x2 then 40 else 34, [some (.ref 186), some (.ref 22), some (.int x2), some (.int x3), some (.int x4), some (.int s0)], [], (zS0, R, I, J))) rfl ?_
    exact zEv_if k1 k2
theorem b_102_34 {X : zX} {d : Nat} {R : zR} {I : zI} {J : zJ} {r : zA} {c : Nat} {o : Nat} {x2 : Int32} {x3 : Int32} {x4 : Int32} {x5 : Int32} (ho : (c = 7 ∧ o = 180) ∨ (c = 7 ∧ o = 186) ∨ (c = 22 ∧ o = 180) ∨ (c = 22 ∧ o = 186)) (k1 : zEv X d zm_102 (40, [some (.ref o), some (.ref c), some (.int x5), some (.int x4), some (.int x4), some (.int x5)], [], (zS0, R, I, J)) r) : zEv X d zm_102 (34, [some (.ref o), some (.ref c), some (.int x2), some (.int x3), some (.int x4), some (.int x5)], [], (zS0, R, I, J)) r := by
  rcases ho with ⟨rfl, rfl⟩ | ⟨rfl, rfl⟩ | ⟨rfl, rfl⟩ | ⟨rfl, rfl⟩
  · refine zEv_k 4 (f' := (40, [some (.ref 180), some (.ref 7), some (.int x5), some (.int x4), some (.int x4), some (.int x5)], [], (zS0, R, I, J))) rfl ?_
    exact k1
  · refine zEv_k 4 (f' := (40, [some (.ref 186), some (.ref 7), some (.int x5), some (.int x4), some (.int x4), some (.int x5)], [], (zS0, R, I, J))) rfl ?_
    exact k1
  · refine zEv_k 4 (f' := (40, [some (.ref 180), some (.ref 22), some (.int x5), some (.int x4), some (.int x4), some (.int x5)], [], (zS0, R, I, J))) rfl ?_
    exact k1
  · refine zEv_k 4 (f' := (40, [some (.ref 186), some (.ref 22), some (.int x5), some (.int x4), some (.int x4), some (.int x5)], [], (zS0, R, I, J))) rfl ?_
    exact k1
theorem b_102_40 {X : zX} {d : Nat} {R : zR} {I : zI} {J : zJ} {r : zA} {c : Nat} {o : Nat} {x2 : Int32} {x3 : Int32} {x4 : Int32} {x5 : Int32} (ho : (c = 7 ∧ o = 180) ∨ (c = 7 ∧ o = 186) ∨ (c = 22 ∧ o = 180) ∨ (c = 22 ∧ o = 186)) (k1 : zEv X d zm_102 (7, [some (.ref o), some (.ref c), some (.int x2), some (.int x3), some (.int (x4 + 1)), some (.int x5)], [], (zS0, R, I, J)) r) : zEv X d zm_102 (40, [some (.ref o), some (.ref c), some (.int x2), some (.int x3), some (.int x4), some (.int x5)], [], (zS0, R, I, J)) r := by
  rcases ho with ⟨rfl, rfl⟩ | ⟨rfl, rfl⟩ | ⟨rfl, rfl⟩ | ⟨rfl, rfl⟩
  · refine zEv_k 2 (f' := (7, [some (.ref 180), some (.ref 7), some (.int x2), some (.int x3), some (.int (x4 + 1)), some (.int x5)], [], (zS0, R, I, J))) rfl ?_
    exact k1
  · refine zEv_k 2 (f' := (7, [some (.ref 186), some (.ref 7), some (.int x2), some (.int x3), some (.int (x4 + 1)), some (.int x5)], [], (zS0, R, I, J))) rfl ?_
    exact k1
  · refine zEv_k 2 (f' := (7, [some (.ref 180), some (.ref 22), some (.int x2), some (.int x3), some (.int (x4 + 1)), some (.int x5)], [], (zS0, R, I, J))) rfl ?_
    exact k1
  · refine zEv_k 2 (f' := (7, [some (.ref 186), some (.ref 22), some (.int x2), some (.int x3), some (.int (x4 + 1)), some (.int x5)], [], (zS0, R, I, J))) rfl ?_
    exact k1
theorem b_102_46 {X : zX} {d : Nat} {R : zR} {I : zI} {J : zJ} {c : Nat} {o : Nat} {x2 : Int32} {x3 : Int32} {x4 : Int32} {x5 : Option Value} (ho : (c = 7 ∧ o = 180) ∨ (c = 7 ∧ o = 186) ∨ (c = 22 ∧ o = 180) ∨ (c = 22 ∧ o = 186)) : zEv X d zm_102 (46, [some (.ref o), some (.ref c), some (.int x2), some (.int x3), some (.int x4), x5], [], (zS0, R, I, J)) (some (.int x3), (zS0, R, I, J)) := by
  rcases ho with ⟨rfl, rfl⟩ | ⟨rfl, rfl⟩ | ⟨rfl, rfl⟩ | ⟨rfl, rfl⟩
  · refine zEv_k 1 (f' := (47, [some (.ref 180), some (.ref 7), some (.int x2), some (.int x3), some (.int x4), x5], [.int x3], (zS0, R, I, J))) rfl ?_
    exact zEv_r rfl
  · refine zEv_k 1 (f' := (47, [some (.ref 186), some (.ref 7), some (.int x2), some (.int x3), some (.int x4), x5], [.int x3], (zS0, R, I, J))) rfl ?_
    exact zEv_r rfl
  · refine zEv_k 1 (f' := (47, [some (.ref 180), some (.ref 22), some (.int x2), some (.int x3), some (.int x4), x5], [.int x3], (zS0, R, I, J))) rfl ?_
    exact zEv_r rfl
  · refine zEv_k 1 (f' := (47, [some (.ref 186), some (.ref 22), some (.int x2), some (.int x3), some (.int x4), x5], [.int x3], (zS0, R, I, J))) rfl ?_
    exact zEv_r rfl
theorem b_103_0 {X : zX} {d : Nat} {R : zR} {I : zI} {J : zJ} {r : zA} {c : Nat} {o : Nat} {w : Int32} {R' : zR} {I' : zI} {J' : zJ} (ho : (c = 7 ∧ o = 180) ∨ (c = 7 ∧ o = 186) ∨ (c = 22 ∧ o = 180) ∨ (c = 22 ∧ o = 186)) (hc : zEv X d zm_102 (0, [some (.ref o), some (.ref c), none, none, none, none], [], (zS0, R, I, J)) (some (.int w), (zS0, R', I', J'))) (k1 : zEv X (d + 1) zm_103 (5, [some (.ref o), some (.ref c), none], [.int w], (zS0, R', I', J')) r) : zEv X (d + 1) zm_103 (0, [some (.ref o), some (.ref c), none], [], (zS0, R, I, J)) r := by
  rcases ho with ⟨rfl, rfl⟩ | ⟨rfl, rfl⟩ | ⟨rfl, rfl⟩ | ⟨rfl, rfl⟩
  · refine zEv_k 2 (f' := (2, [some (.ref 180), some (.ref 7), none], [.ref 7, .ref 180], (zS0, R, I, J))) rfl ?_
    exact zEv_c (fun _ => rfl) rfl hc rfl rfl k1
  · refine zEv_k 2 (f' := (2, [some (.ref 186), some (.ref 7), none], [.ref 7, .ref 186], (zS0, R, I, J))) rfl ?_
    exact zEv_c (fun _ => rfl) rfl hc rfl rfl k1
  · refine zEv_k 2 (f' := (2, [some (.ref 180), some (.ref 22), none], [.ref 22, .ref 180], (zS0, R, I, J))) rfl ?_
    exact zEv_c (fun _ => rfl) rfl hc rfl rfl k1
  · refine zEv_k 2 (f' := (2, [some (.ref 186), some (.ref 22), none], [.ref 22, .ref 186], (zS0, R, I, J))) rfl ?_
    exact zEv_c (fun _ => rfl) rfl hc rfl rfl k1
theorem b_103_5 {X : zX} {d : Nat} {R : zR} {I : zI} {J : zJ} {r : zA} {c : Nat} {o : Nat} {s0 : Int32} (ho : (c = 7 ∧ o = 180) ∨ (c = 7 ∧ o = 186) ∨ (c = 22 ∧ o = 180) ∨ (c = 22 ∧ o = 186)) (k1 : ¬ s0 = (-1) → zEv X d zm_103 (15, [some (.ref o), some (.ref c), some (.int s0)], [], (zS0, R, I, J)) r) (k2 : ¬ (¬ s0 = (-1)) → zEv X d zm_103 (11, [some (.ref o), some (.ref c), some (.int s0)], [], (zS0, R, I, J)) r) : zEv X d zm_103 (5, [some (.ref o), some (.ref c), none], [.int s0], (zS0, R, I, J)) r := by
  rcases ho with ⟨rfl, rfl⟩ | ⟨rfl, rfl⟩ | ⟨rfl, rfl⟩ | ⟨rfl, rfl⟩
  · refine zEv_k 4 (f' := (if ¬ s0 = (-1) then 15 else 11, [some (.ref 180), some (.ref 7), some (.int s0)], [], (zS0, R, I, J))) rfl ?_
    exact zEv_if k1 k2
  · refine zEv_k 4 (f' := (if ¬ s0 = (-1) then 15 else 11, [some (.ref 186), some (.ref 7), some (.int s0)], [], (zS0, R, I, J))) rfl ?_
    exact zEv_if k1 k2
  · refine zEv_k 4 (f' := (if ¬ s0 = (-1) then 15 else 11, [some (.ref 180), some (.ref 22), some (.int s0)], [], (zS0, R, I, J))) rfl ?_
    exact zEv_if k1 k2
  · refine zEv_k 4 (f' := (if ¬ s0 = (-1) then 15 else 11, [some (.ref 186), some (.ref 22), some (.int s0)], [], (zS0, R, I, J))) rfl ?_
    exact zEv_if k1 k2
theorem b_103_11 {X : zX} {d : Nat} {R : zR} {I : zI} {J : zJ} {r : zA} {c : Nat} {o : Nat} {x2 : Int32} (ho : (c = 7 ∧ o = 180) ∨ (c = 7 ∧ o = 186) ∨ (c = 22 ∧ o = 180) ∨ (c = 22 ∧ o = 186)) (k1 : zEv X d zm_103 (24, [some (.ref o), some (.ref c), some (.int x2)], [.int 0], (zS0, R, I, J)) r) : zEv X d zm_103 (11, [some (.ref o), some (.ref c), some (.int x2)], [], (zS0, R, I, J)) r := by
  rcases ho with ⟨rfl, rfl⟩ | ⟨rfl, rfl⟩ | ⟨rfl, rfl⟩ | ⟨rfl, rfl⟩
  · refine zEv_k 2 (f' := (24, [some (.ref 180), some (.ref 7), some (.int x2)], [.int 0], (zS0, R, I, J))) rfl ?_
    exact k1
  · refine zEv_k 2 (f' := (24, [some (.ref 186), some (.ref 7), some (.int x2)], [.int 0], (zS0, R, I, J))) rfl ?_
    exact k1
  · refine zEv_k 2 (f' := (24, [some (.ref 180), some (.ref 22), some (.int x2)], [.int 0], (zS0, R, I, J))) rfl ?_
    exact k1
  · refine zEv_k 2 (f' := (24, [some (.ref 186), some (.ref 22), some (.int x2)], [.int 0], (zS0, R, I, J))) rfl ?_
    exact k1
theorem b_103_15 {X : zX} {d : Nat} {R : zR} {I : zI} {J : zJ} {r : zA} {c : Nat} {o : Nat} {x2 : Int32} {w : Int32} {R' : zR} {I' : zI} {J' : zJ} (ho : (c = 7 ∧ o = 180) ∨ (c = 7 ∧ o = 186) ∨ (c = 22 ∧ o = 180) ∨ (c = 22 ∧ o = 186)) (hc : zEv X d zm_100 (0, [some (.ref o), some (.int x2), none, none, none, none], [], (zS0, R, I, J)) (some (.int w), (zS0, R', I', J'))) (k1 : zEv X (d + 1) zm_103 (21, [some (.ref o), some (.ref c), some (.int x2)], [.int w, .ref c], (zS0, R', I', J')) r) : zEv X (d + 1) zm_103 (15, [some (.ref o), some (.ref c), some (.int x2)], [], (zS0, R, I, J)) r := by
  rcases ho with ⟨rfl, rfl⟩ | ⟨rfl, rfl⟩ | ⟨rfl, rfl⟩ | ⟨rfl, rfl⟩
  · refine zEv_k 3 (f' := (18, [some (.ref 180), some (.ref 7), some (.int x2)], [.int x2, .ref 180, .ref 7], (zS0, R, I, J))) rfl ?_
    exact zEv_c (fun _ => rfl) rfl hc rfl rfl k1
  · refine zEv_k 3 (f' := (18, [some (.ref 186), some (.ref 7), some (.int x2)], [.int x2, .ref 186, .ref 7], (zS0, R, I, J))) rfl ?_
    exact zEv_c (fun _ => rfl) rfl hc rfl rfl k1
  · refine zEv_k 3 (f' := (18, [some (.ref 180), some (.ref 22), some (.int x2)], [.int x2, .ref 180, .ref 22], (zS0, R, I, J))) rfl ?_
    exact zEv_c (fun _ => rfl) rfl hc rfl rfl k1
  · refine zEv_k 3 (f' := (18, [some (.ref 186), some (.ref 22), some (.int x2)], [.int x2, .ref 186, .ref 22], (zS0, R, I, J))) rfl ?_
    exact zEv_c (fun _ => rfl) rfl hc rfl rfl k1
theorem b_103_21 {X : zX} {d : Nat} {R : zR} {I : zI} {J : zJ} {r : zA} {c : Nat} {o : Nat} {x2 : Int32} {s1 : Int32} {w : Int32} {R' : zR} {I' : zI} {J' : zJ} (ho : (c = 7 ∧ o = 180) ∨ (c = 7 ∧ o = 186) ∨ (c = 22 ∧ o = 180) ∨ (c = 22 ∧ o = 186)) (hc : zEv X d zm_273 (0, [some (.ref c), some (.int s1), none, none], [], (zS0, R, I, J)) (some (.int w), (zS0, R', I', J'))) (k1 : zEv X (d + 1) zm_103 (24, [some (.ref o), some (.ref c), some (.int x2)], [.int w], (zS0, R', I', J')) r) : zEv X (d + 1) zm_103 (21, [some (.ref o), some (.ref c), some (.int x2)], [.int s1, .ref c], (zS0, R, I, J)) r := by
  rcases ho with ⟨rfl, rfl⟩ | ⟨rfl, rfl⟩ | ⟨rfl, rfl⟩ | ⟨rfl, rfl⟩
  · exact zEv_c (fun _ => rfl) rfl hc rfl rfl k1
  · exact zEv_c (fun _ => rfl) rfl hc rfl rfl k1
  · exact zEv_c (fun _ => rfl) rfl hc rfl rfl k1
  · exact zEv_c (fun _ => rfl) rfl hc rfl rfl k1
theorem b_103_24 {X : zX} {d : Nat} {R : zR} {I : zI} {J : zJ} {c : Nat} {o : Nat} {x2 : Int32} {s0 : Int32} (ho : (c = 7 ∧ o = 180) ∨ (c = 7 ∧ o = 186) ∨ (c = 22 ∧ o = 180) ∨ (c = 22 ∧ o = 186)) : zEv X d zm_103 (24, [some (.ref o), some (.ref c), some (.int x2)], [.int s0], (zS0, R, I, J)) (some (.int s0), (zS0, R, I, J)) := by
  rcases ho with ⟨rfl, rfl⟩ | ⟨rfl, rfl⟩ | ⟨rfl, rfl⟩ | ⟨rfl, rfl⟩
  · exact zEv_r rfl
  · exact zEv_r rfl
  · exact zEv_r rfl
  · exact zEv_r rfl
theorem b_104_0 {X : zX} {d : Nat} {R : zR} {I : zI} {J : zJ} {r : zA} {o : Nat} (ho : o = 180 ∨ o = 186) (k1 : zEv X d zm_104 (6, [some (.ref o), some (.int 0), some (.int 0), some (.int 0)], [], (zS0, R, I, J)) r) : zEv X d zm_104 (0, [some (.ref o), none, none, none], [], (zS0, R, I, J)) r := by
  rcases ho with rfl | rfl
  · refine zEv_k 6 (f' := (6, [some (.ref 180), some (.int 0), some (.int 0), some (.int 0)], [], (zS0, R, I, J))) rfl ?_
    exact k1
  · refine zEv_k 6 (f' := (6, [some (.ref 186), some (.int 0), some (.int 0), some (.int 0)], [], (zS0, R, I, J))) rfl ?_
    exact k1
theorem b_104_6 {X : zX} {d : Nat} {R : zR} {I : zI} {J : zJ} {r : zA} {o : Nat} {x1 : Int32} {x2 : Int32} {x3 : Int32} (ho : o = 180 ∨ o = 186) (k1 : (I o 0) ≤ x3 → zEv X d zm_104 (39, [some (.ref o), some (.int x1), some (.int x2), some (.int x3)], [], (zS0, R, I, J)) r) (k2 : ¬ ((I o 0) ≤ x3) → zEv X d zm_104 (14, [some (.ref o), some (.int x1), some (.int x2), some (.int x3)], [], (zS0, R, I, J)) r) : zEv X d zm_104 (6, [some (.ref o), some (.int x1), some (.int x2), some (.int x3)], [], (zS0, R, I, J)) r := by
  rcases ho with rfl | rfl
  · refine zEv_k 4 (f' := (if (I 180 0) ≤ x3 then 39 else 14, [some (.ref 180), some (.int x1), some (.int x2), some (.int x3)], [], (zS0, R, I, J))) rfl ?_
    exact zEv_if k1 k2
  · refine zEv_k 4 (f' := (if (I 186 0) ≤ x3 then 39 else 14, [some (.ref 186), some (.int x1), some (.int x2), some (.int x3)], [], (zS0, R, I, J))) rfl ?_
    exact zEv_if k1 k2
theorem b_104_14 {X : zX} {d : Nat} {R : zR} {I : zI} {J : zJ} {r : zA} {o : Nat} {x1 : Int32} {x2 : Int32} {x3 : Int32} (ho : o = 180 ∨ o = 186) (k1 : ¬ (zf_cin x2 x3) = 0 → zEv X (d + 1) zm_104 (33, [some (.ref o), some (.int x1), some (.int x2), some (.int x3)], [], (zS0, R, I, J)) r) (k2 : ¬ (¬ (zf_cin x2 x3) = 0) → zEv X (d + 1) zm_104 (22, [some (.ref o), some (.int x1), some (.int x2), some (.int x3)], [], (zS0, R, I, J)) r) : zEv X (d + 1) zm_104 (14, [some (.ref o), some (.int x1), some (.int x2), some (.int x3)], [], (zS0, R, I, J)) r := by
  rcases ho with rfl | rfl
  · refine zEv_k 2 (f' := (16, [some (.ref 180), some (.int x1), some (.int x2), some (.int x3)], [.int x3, .int x2], (zS0, R, I, J))) rfl ?_
    refine zEv_c (fun _ => rfl) rfl ev_zf_cin rfl rfl ?_
    refine zEv_k 1 (f' := (if ¬ (zf_cin x2 x3) = 0 then 33 else 22, [some (.ref 180), some (.int x1), some (.int x2), some (.int x3)], [], (zS0, R, I, J))) rfl ?_
    exact zEv_if k1 k2
  · refine zEv_k 2 (f' := (16, [some (.ref 186), some (.int x1), some (.int x2), some (.int x3)], [.int x3, .int x2], (zS0, R, I, J))) rfl ?_
    refine zEv_c (fun _ => rfl) rfl ev_zf_cin rfl rfl ?_
    refine zEv_k 1 (f' := (if ¬ (zf_cin x2 x3) = 0 then 33 else 22, [some (.ref 186), some (.int x1), some (.int x2), some (.int x3)], [], (zS0, R, I, J))) rfl ?_
    exact zEv_if k1 k2
theorem b_104_22 {X : zX} {d : Nat} {R : zR} {I : zI} {J : zJ} {r : zA} {o : Nat} {x1 : Int32} {x2 : Int32} {x3 : Int32} {w : Int32} {R' : zR} {I' : zI} {J' : zJ} (ho : o = 180 ∨ o = 186) (hc : zEv X d zm_106 (0, [some (.ref o), some (.int x3), none, none, none], [], (zS0, R, I, J)) (some (.int w), (zS0, R', I', J'))) (k1 : zEv X (d + 1) zm_104 (28, [some (.ref o), some (.int x1), some (.int x2), some (.int x3)], [.int w, .int x2], (zS0, R', I', J')) r) : zEv X (d + 1) zm_104 (22, [some (.ref o), some (.int x1), some (.int x2), some (.int x3)], [], (zS0, R, I, J)) r := by
  rcases ho with rfl | rfl
  · refine zEv_k 3 (f' := (25, [some (.ref 180), some (.int x1), some (.int x2), some (.int x3)], [.int x3, .ref 180, .int x2], (zS0, R, I, J))) rfl ?_
    exact zEv_c (fun _ => rfl) rfl hc rfl rfl k1
  · refine zEv_k 3 (f' := (25, [some (.ref 186), some (.int x1), some (.int x2), some (.int x3)], [.int x3, .ref 186, .int x2], (zS0, R, I, J))) rfl ?_
    exact zEv_c (fun _ => rfl) rfl hc rfl rfl k1
theorem b_104_28 {X : zX} {d : Nat} {R : zR} {I : zI} {J : zJ} {r : zA} {o : Nat} {x1 : Int32} {x2 : Int32} {x3 : Int32} {s0 : Int32} {s1 : Int32} (ho : o = 180 ∨ o = 186) (k1 : zEv X d zm_104 (33, [some (.ref o), some (.int (x1 + 1)), some (.int (s0 ||| s1)), some (.int x3)], [], (zS0, R, I, J)) r) : zEv X d zm_104 (28, [some (.ref o), some (.int x1), some (.int x2), some (.int x3)], [.int s1, .int s0], (zS0, R, I, J)) r := by
  rcases ho with rfl | rfl
  · refine zEv_k 3 (f' := (33, [some (.ref 180), some (.int (x1 + 1)), some (.int (s0 ||| s1)), some (.int x3)], [], (zS0, R, I, J))) rfl ?_
    exact k1
  · refine zEv_k 3 (f' := (33, [some (.ref 186), some (.int (x1 + 1)), some (.int (s0 ||| s1)), some (.int x3)], [], (zS0, R, I, J))) rfl ?_
    exact k1
theorem b_104_33 {X : zX} {d : Nat} {R : zR} {I : zI} {J : zJ} {r : zA} {o : Nat} {x1 : Int32} {x2 : Int32} {x3 : Int32} (ho : o = 180 ∨ o = 186) (k1 : zEv X d zm_104 (6, [some (.ref o), some (.int x1), some (.int x2), some (.int (x3 + 1))], [], (zS0, R, I, J)) r) : zEv X d zm_104 (33, [some (.ref o), some (.int x1), some (.int x2), some (.int x3)], [], (zS0, R, I, J)) r := by
  rcases ho with rfl | rfl
  · refine zEv_k 2 (f' := (6, [some (.ref 180), some (.int x1), some (.int x2), some (.int (x3 + 1))], [], (zS0, R, I, J))) rfl ?_
    exact k1
  · refine zEv_k 2 (f' := (6, [some (.ref 186), some (.int x1), some (.int x2), some (.int (x3 + 1))], [], (zS0, R, I, J))) rfl ?_
    exact k1
theorem b_104_39 {X : zX} {d : Nat} {R : zR} {I : zI} {J : zJ} {o : Nat} {x1 : Int32} {x2 : Int32} {x3 : Int32} (ho : o = 180 ∨ o = 186) : zEv X d zm_104 (39, [some (.ref o), some (.int x1), some (.int x2), some (.int x3)], [], (zS0, R, I, J)) (some (.int x1), (zS0, R, I, J)) := by
  rcases ho with rfl | rfl
  · refine zEv_k 1 (f' := (40, [some (.ref 180), some (.int x1), some (.int x2), some (.int x3)], [.int x1], (zS0, R, I, J))) rfl ?_
    exact zEv_r rfl
  · refine zEv_k 1 (f' := (40, [some (.ref 186), some (.int x1), some (.int x2), some (.int x3)], [.int x1], (zS0, R, I, J))) rfl ?_
    exact zEv_r rfl
theorem b_105_0 {X : zX} {d : Nat} {R : zR} {I : zI} {J : zJ} {r : zA} {o : Nat} (ho : o = 180 ∨ o = 186) (k1 : zEv X d zm_105 (4, [some (.ref o), some (.int 0), some (.int 0)], [], (zS0, R, I, J)) r) : zEv X d zm_105 (0, [some (.ref o), none, none], [], (zS0, R, I, J)) r := by
  rcases ho with rfl | rfl
  · refine zEv_k 4 (f' := (4, [some (.ref 180), some (.int 0), some (.int 0)], [], (zS0, R, I, J))) rfl ?_
    exact k1
  · refine zEv_k 4 (f' := (4, [some (.ref 186), some (.int 0), some (.int 0)], [], (zS0, R, I, J))) rfl ?_
    exact k1
theorem b_105_4 {X : zX} {d : Nat} {R : zR} {I : zI} {J : zJ} {r : zA} {o : Nat} {x1 : Int32} {x2 : Int32} (ho : o = 180 ∨ o = 186) (k1 : (I o 0) ≤ x2 → zEv X d zm_105 (31, [some (.ref o), some (.int x1), some (.int x2)], [], (zS0, R, I, J)) r) (k2 : ¬ ((I o 0) ≤ x2) → zEv X d zm_105 (12, [some (.ref o), some (.int x1), some (.int x2)], [], (zS0, R, I, J)) r) : zEv X d zm_105 (4, [some (.ref o), some (.int x1), some (.int x2)], [], (zS0, R, I, J)) r := by
  rcases ho with rfl | rfl
  · refine zEv_k 4 (f' := (if (I 180 0) ≤ x2 then 31 else 12, [some (.ref 180), some (.int x1), some (.int x2)], [], (zS0, R, I, J))) rfl ?_
    exact zEv_if k1 k2
  · refine zEv_k 4 (f' := (if (I 186 0) ≤ x2 then 31 else 12, [some (.ref 186), some (.int x1), some (.int x2)], [], (zS0, R, I, J))) rfl ?_
    exact zEv_if k1 k2
theorem b_105_12 {X : zX} {d : Nat} {R : zR} {I : zI} {J : zJ} {r : zA} {o : Nat} {x1 : Int32} {x2 : Int32} {w : Int32} {R' : zR} {I' : zI} {J' : zJ} (ho : o = 180 ∨ o = 186) (hc : zEv X d zm_106 (0, [some (.ref o), some (.int x2), none, none, none], [], (zS0, R, I, J)) (some (.int w), (zS0, R', I', J'))) (k1 : zEv X (d + 1) zm_105 (18, [some (.ref o), some (.int x1), some (.int x2)], [.int w, .int x1], (zS0, R', I', J')) r) : zEv X (d + 1) zm_105 (12, [some (.ref o), some (.int x1), some (.int x2)], [], (zS0, R, I, J)) r := by
  rcases ho with rfl | rfl
  · refine zEv_k 3 (f' := (15, [some (.ref 180), some (.int x1), some (.int x2)], [.int x2, .ref 180, .int x1], (zS0, R, I, J))) rfl ?_
    exact zEv_c (fun _ => rfl) rfl hc rfl rfl k1
  · refine zEv_k 3 (f' := (15, [some (.ref 186), some (.int x1), some (.int x2)], [.int x2, .ref 186, .int x1], (zS0, R, I, J))) rfl ?_
    exact zEv_c (fun _ => rfl) rfl hc rfl rfl k1
theorem b_105_18 {X : zX} {d : Nat} {R : zR} {I : zI} {J : zJ} {r : zA} {o : Nat} {x1 : Int32} {x2 : Int32} {s0 : Int32} {s1 : Int32} {w : Int32} {R' : zR} {I' : zI} {J' : zJ} (ho : o = 180 ∨ o = 186) (hc : zEv X d zm_286 (0, [some (.int s1)], [], (zS0, R, I, J)) (some (.int w), (zS0, R', I', J'))) (k1 : zEv X (d + 1) zm_105 (21, [some (.ref o), some (.int x1), some (.int x2)], [.int w, .int s0], (zS0, R', I', J')) r) : zEv X (d + 1) zm_105 (18, [some (.ref o), some (.int x1), some (.int x2)], [.int s1, .int s0], (zS0, R, I, J)) r := by
  rcases ho with rfl | rfl
  · exact zEv_c (fun _ => rfl) rfl hc rfl rfl k1
  · exact zEv_c (fun _ => rfl) rfl hc rfl rfl k1
theorem b_105_21 {X : zX} {d : Nat} {R : zR} {I : zI} {J : zJ} {r : zA} {o : Nat} {x1 : Int32} {x2 : Int32} {s0 : Int32} {s1 : Int32} (ho : o = 180 ∨ o = 186) (k1 : zEv X d zm_105 (4, [some (.ref o), some (.int (if s0 < s1 then s1 else s0)), some (.int (x2 + 1))], [], (zS0, R, I, J)) r) : zEv X d zm_105 (21, [some (.ref o), some (.int x1), some (.int x2)], [.int s1, .int s0], (zS0, R, I, J)) r := by
  rcases ho with rfl | rfl
  · refine zEv_k 4 (f' := (4, [some (.ref 180), some (.int (if s0 < s1 then s1 else s0)), some (.int (x2 + 1))], [], (zS0, R, I, J))) rfl ?_
    exact k1
  · refine zEv_k 4 (f' := (4, [some (.ref 186), some (.int (if s0 < s1 then s1 else s0)), some (.int (x2 + 1))], [], (zS0, R, I, J))) rfl ?_
    exact k1
theorem b_105_31 {X : zX} {d : Nat} {R : zR} {I : zI} {J : zJ} {o : Nat} {x1 : Int32} {x2 : Int32} (ho : o = 180 ∨ o = 186) : zEv X d zm_105 (31, [some (.ref o), some (.int x1), some (.int x2)], [], (zS0, R, I, J)) (some (.int x1), (zS0, R, I, J)) := by
  rcases ho with rfl | rfl
  · refine zEv_k 1 (f' := (32, [some (.ref 180), some (.int x1), some (.int x2)], [.int x1], (zS0, R, I, J))) rfl ?_
    exact zEv_r rfl
  · refine zEv_k 1 (f' := (32, [some (.ref 186), some (.int x1), some (.int x2)], [.int x1], (zS0, R, I, J))) rfl ?_
    exact zEv_r rfl
theorem b_106_0 {X : zX} {d : Nat} {R : zR} {I : zI} {J : zJ} {r : zA} {o : Nat} {x1 : Int32} (ho : o = 180 ∨ o = 186) (k1 : zEv X d zm_106 (6, [some (.ref o), some (.int x1), some (.int ((1 : Int32) <<< (x1 &&& 31))), some (.int 0), none], [], (zS0, R, I, J)) r) : zEv X d zm_106 (0, [some (.ref o), some (.int x1), none, none, none], [], (zS0, R, I, J)) r := by
  rcases ho with rfl | rfl
  · refine zEv_k 6 (f' := (6, [some (.ref 180), some (.int x1), some (.int ((1 : Int32) <<< (x1 &&& 31))), some (.int 0), none], [], (zS0, R, I, J))) rfl ?_
    exact k1
  · refine zEv_k 6 (f' := (6, [some (.ref 186), some (.int x1), some (.int ((1 : Int32) <<< (x1 &&& 31))), some (.int 0), none], [], (zS0, R, I, J))) rfl ?_
    exact k1
theorem b_106_6 {X : zX} {d : Nat} {R : zR} {I : zI} {J : zJ} {r : zA} {o : Nat} {x1 : Int32} {x2 : Int32} {x3 : Int32} {x4 : Option Value} (ho : o = 180 ∨ o = 186) (k1 : (I o 0) ≤ x3 → zEv X d zm_106 (57, [some (.ref o), some (.int x1), some (.int x2), some (.int x3), x4], [], (zS0, R, I, J)) r) (k2 : ¬ ((I o 0) ≤ x3) → zEv X d zm_106 (14, [some (.ref o), some (.int x1), some (.int x2), some (.int x3), x4], [], (zS0, R, I, J)) r) : zEv X d zm_106 (6, [some (.ref o), some (.int x1), some (.int x2), some (.int x3), x4], [], (zS0, R, I, J)) r := by
  rcases ho with rfl | rfl
  · refine zEv_k 4 (f' := (if (I 180 0) ≤ x3 then 57 else 14, [some (.ref 180), some (.int x1), some (.int x2), some (.int x3), x4], [], (zS0, R, I, J))) rfl ?_
    exact zEv_if k1 k2
  · refine zEv_k 4 (f' := (if (I 186 0) ≤ x3 then 57 else 14, [some (.ref 186), some (.int x1), some (.int x2), some (.int x3), x4], [], (zS0, R, I, J))) rfl ?_
    exact zEv_if k1 k2
theorem b_106_14 {X : zX} {d : Nat} {R : zR} {I : zI} {J : zJ} {r : zA} {o : Nat} {x1 : Int32} {x2 : Int32} {x3 : Int32} {x4 : Option Value} (ho : o = 180 ∨ o = 186) (k1 : zEv X d zm_106 (17, [some (.ref o), some (.int x1), some (.int x2), some (.int x3), some (.int 0)], [], (zS0, R, I, J)) r) : zEv X d zm_106 (14, [some (.ref o), some (.int x1), some (.int x2), some (.int x3), x4], [], (zS0, R, I, J)) r := by
  rcases ho with rfl | rfl
  · refine zEv_k 2 (f' := (17, [some (.ref 180), some (.int x1), some (.int x2), some (.int x3), some (.int 0)], [], (zS0, R, I, J))) rfl ?_
    exact k1
  · refine zEv_k 2 (f' := (17, [some (.ref 186), some (.int x1), some (.int x2), some (.int x3), some (.int 0)], [], (zS0, R, I, J))) rfl ?_
    exact k1
theorem b_106_17 {X : zX} {d : Nat} {R : zR} {I : zI} {J : zJ} {r : zA} {o : Nat} {x1 : Int32} {x2 : Int32} {x3 : Int32} {x4 : Int32} (ho : o = 180 ∨ o = 186) (k1 : (I o 0) ≤ x4 → zEv X d zm_106 (51, [some (.ref o), some (.int x1), some (.int x2), some (.int x3), some (.int x4)], [], (zS0, R, I, J)) r) (k2 : ¬ ((I o 0) ≤ x4) → zEv X d zm_106 (26, [some (.ref o), some (.int x1), some (.int x2), some (.int x3), some (.int x4)], [], (zS0, R, I, J)) r) : zEv X d zm_106 (17, [some (.ref o), some (.int x1), some (.int x2), some (.int x3), some (.int x4)], [], (zS0, R, I, J)) r := by
  rcases ho with rfl | rfl
  · refine zEv_k 4 (f' := (if (I 180 0) ≤ x4 then 51 else 26, [some (.ref 180), some (.int x1), some (.int x2), some (.int x3), some (.int x4)], [], (zS0, R, I, J))) rfl ?_
    exact zEv_if k1 k2
  · refine zEv_k 4 (f' := (if (I 186 0) ≤ x4 then 51 else 26, [some (.ref 186), some (.int x1), some (.int x2), some (.int x3), some (.int x4)], [], (zS0, R, I, J))) rfl ?_
    exact zEv_if k1 k2
theorem b_106_26 {X : zX} {d : Nat} {R : zR} {I : zI} {J : zJ} {r : zA} {o : Nat} {x1 : Int32} {x2 : Int32} {x3 : Int32} {x4 : Int32} (ho : o = 180 ∨ o = 186) (k1 : (zf_cin x2 x4) = 0 → zEv X (d + 1) zm_106 (45, [some (.ref o), some (.int x1), some (.int x2), some (.int x3), some (.int x4)], [], (zS0, R, I, J)) r) (k2 : ¬ ((zf_cin x2 x4) = 0) → zEv X (d + 1) zm_106 (35, [some (.ref o), some (.int x1), some (.int x2), some (.int x3), some (.int x4)], [], (zS0, R, I, J)) r) : zEv X (d + 1) zm_106 (26, [some (.ref o), some (.int x1), some (.int x2), some (.int x3), some (.int x4)], [], (zS0, R, I, J)) r := by
  rcases ho with rfl | rfl
  · refine zEv_k 2 (f' := (29, [some (.ref 180), some (.int x1), some (.int x2), some (.int x3), some (.int x4)], [.int x4, .int x2], (zS0, R, I, J))) rfl ?_
    refine zEv_c (fun _ => rfl) rfl ev_zf_cin rfl rfl ?_
    refine zEv_k 1 (f' := (if (zf_cin x2 x4) = 0 then 45 else 35, [some (.ref 180), some (.int x1), some (.int x2), some (.int x3), some (.int x4)], [], (zS0, R, I, J))) rfl ?_
    exact zEv_if k1 k2
  · refine zEv_k 2 (f' := (29, [some (.ref 186), some (.int x1), some (.int x2), some (.int x3), some (.int x4)], [.int x4, .int x2], (zS0, R, I, J))) rfl ?_
    refine zEv_c (fun _ => rfl) rfl ev_zf_cin rfl rfl ?_
    refine zEv_k 1 (f' := (if (zf_cin x2 x4) = 0 then 45 else 35, [some (.ref 186), some (.int x1), some (.int x2), some (.int x3), some (.int x4)], [], (zS0, R, I, J))) rfl ?_
    exact zEv_if k1 k2
theorem b_106_35 {X : zX} {d : Nat} {R : zR} {I : zI} {J : zJ} {r : zA} {o : Nat} {x1 : Int32} {x2 : Int32} {x3 : Int32} {x4 : Int32} (hR : zRok R) (ho : o = 180 ∨ o = 186) (h42 : zin x4 7) (k1 : zEv X d zm_106 (45, [some (.ref o), some (.int x1), some (.int (x2 ||| (I (o + 2) (x4).toNatClampNeg))), some (.int x3), some (.int x4)], [], (zS0, R, I, J)) r) : zEv X d zm_106 (35, [some (.ref o), some (.int x1), some (.int x2), some (.int x3), some (.int x4)], [], (zS0, R, I, J)) r := by
  rcases ho with rfl | rfl
  · refine zEv_k 2 (f' := (37, [some (.ref 180), some (.int x1), some (.int x2), some (.int x3), some (.int x4)], [.ref 180, .int x2], (zS0, R, I, J))) rfl ?_
    refine zEv_gr rfl rfl rfl (by decide) (hR (180) 3 (180 + 2) rfl) ?_
    refine zEv_k 1 (f' := (42, [some (.ref 180), some (.int x1), some (.int x2), some (.int x3), some (.int x4)], [.int x4, .ref (180 + 2), .int x2], (zS0, R, I, J))) rfl ?_
    refine zEv_ial rfl rfl (by decide) h42 ?_
    refine zEv_k 2 (f' := (45, [some (.ref 180), some (.int x1), some (.int (x2 ||| (I (180 + 2) (x4).toNatClampNeg))), some (.int x3), some (.int x4)], [], (zS0, R, I, J))) rfl ?_
    exact k1
  · refine zEv_k 2 (f' := (37, [some (.ref 186), some (.int x1), some (.int x2), some (.int x3), some (.int x4)], [.ref 186, .int x2], (zS0, R, I, J))) rfl ?_
    refine zEv_gr rfl rfl rfl (by decide) (hR (186) 3 (186 + 2) rfl) ?_
    refine zEv_k 1 (f' := (42, [some (.ref 186), some (.int x1), some (.int x2), some (.int x3), some (.int x4)], [.int x4, .ref (186 + 2), .int x2], (zS0, R, I, J))) rfl ?_
    refine zEv_ial rfl rfl (by decide) h42 ?_
    refine zEv_k 2 (f' := (45, [some (.ref 186), some (.int x1), some (.int (x2 ||| (I (186 + 2) (x4).toNatClampNeg))), some (.int x3), some (.int x4)], [], (zS0, R, I, J))) rfl ?_
    exact k1
theorem b_106_45 {X : zX} {d : Nat} {R : zR} {I : zI} {J : zJ} {r : zA} {o : Nat} {x1 : Int32} {x2 : Int32} {x3 : Int32} {x4 : Int32} (ho : o = 180 ∨ o = 186) (k1 : zEv X d zm_106 (17, [some (.ref o), some (.int x1), some (.int x2), some (.int x3), some (.int (x4 + 1))], [], (zS0, R, I, J)) r) : zEv X d zm_106 (45, [some (.ref o), some (.int x1), some (.int x2), some (.int x3), some (.int x4)], [], (zS0, R, I, J)) r := by
  rcases ho with rfl | rfl
  · refine zEv_k 2 (f' := (17, [some (.ref 180), some (.int x1), some (.int x2), some (.int x3), some (.int (x4 + 1))], [], (zS0, R, I, J))) rfl ?_
    exact k1
  · refine zEv_k 2 (f' := (17, [some (.ref 186), some (.int x1), some (.int x2), some (.int x3), some (.int (x4 + 1))], [], (zS0, R, I, J))) rfl ?_
    exact k1
theorem b_106_51 {X : zX} {d : Nat} {R : zR} {I : zI} {J : zJ} {r : zA} {o : Nat} {x1 : Int32} {x2 : Int32} {x3 : Int32} {x4 : Int32} (ho : o = 180 ∨ o = 186) (k1 : zEv X d zm_106 (6, [some (.ref o), some (.int x1), some (.int x2), some (.int (x3 + 1)), some (.int x4)], [], (zS0, R, I, J)) r) : zEv X d zm_106 (51, [some (.ref o), some (.int x1), some (.int x2), some (.int x3), some (.int x4)], [], (zS0, R, I, J)) r := by
  rcases ho with rfl | rfl
  · refine zEv_k 2 (f' := (6, [some (.ref 180), some (.int x1), some (.int x2), some (.int (x3 + 1)), some (.int x4)], [], (zS0, R, I, J))) rfl ?_
    exact k1
  · refine zEv_k 2 (f' := (6, [some (.ref 186), some (.int x1), some (.int x2), some (.int (x3 + 1)), some (.int x4)], [], (zS0, R, I, J))) rfl ?_
    exact k1
theorem b_106_57 {X : zX} {d : Nat} {R : zR} {I : zI} {J : zJ} {o : Nat} {x1 : Int32} {x2 : Int32} {x3 : Int32} {x4 : Option Value} (ho : o = 180 ∨ o = 186) : zEv X d zm_106 (57, [some (.ref o), some (.int x1), some (.int x2), some (.int x3), x4], [], (zS0, R, I, J)) (some (.int x2), (zS0, R, I, J)) := by
  rcases ho with rfl | rfl
  · refine zEv_k 1 (f' := (58, [some (.ref 180), some (.int x1), some (.int x2), some (.int x3), x4], [.int x2], (zS0, R, I, J))) rfl ?_
    exact zEv_r rfl
  · refine zEv_k 1 (f' := (58, [some (.ref 186), some (.int x1), some (.int x2), some (.int x3), x4], [.int x2], (zS0, R, I, J))) rfl ?_
    exact zEv_r rfl
theorem b_107_0 {X : zX} {d : Nat} {R : zR} {I : zI} {J : zJ} {r : zA} {o : Nat} (ho : o = 180 ∨ o = 186) (k1 : zEv X d zm_107 (13, [some (.ref o), some (.int (((1 : Int32) <<< ((I o 0) &&& 31)) - 1)), some (.int (((1 : Int32) <<< ((I o 0) &&& 31)) - 1)), some (.int 0)], [], (zS0, R, I, J)) r) : zEv X d zm_107 (0, [some (.ref o), none, none, none], [], (zS0, R, I, J)) r := by
  rcases ho with rfl | rfl
  · refine zEv_k 9 (f' := (11, [some (.ref 180), some (.int (((1 : Int32) <<< ((I 180 0) &&& 31)) - 1)), some (.int (((1 : Int32) <<< ((I 180 0) &&& 31)) - 1)), none], [], (zS0, R, I, J))) rfl ?_
    refine zEv_k 2 (f' := (13, [some (.ref 180), some (.int (((1 : Int32) <<< ((I 180 0) &&& 31)) - 1)), some (.int (((1 : Int32) <<< ((I 180 0) &&& 31)) - 1)), some (.int 0)], [], (zS0, R, I, J))) rfl ?_
    exact k1
  · refine zEv_k 9 (f' := (11, [some (.ref 186), some (.int (((1 : Int32) <<< ((I 186 0) &&& 31)) - 1)), some (.int (((1 : Int32) <<< ((I 186 0) &&& 31)) - 1)), none], [], (zS0, R, I, J))) rfl ?_
    refine zEv_k 2 (f' := (13, [some (.ref 186), some (.int (((1 : Int32) <<< ((I 186 0) &&& 31)) - 1)), some (.int (((1 : Int32) <<< ((I 186 0) &&& 31)) - 1)), some (.int 0)], [], (zS0, R, I, J))) rfl ?_
    exact k1
theorem b_107_13 {X : zX} {d : Nat} {R : zR} {I : zI} {J : zJ} {r : zA} {o : Nat} {x1 : Int32} {x2 : Int32} {x3 : Int32} (ho : o = 180 ∨ o = 186) (k1 : x1 ≤ x3 → zEv X d zm_107 (45, [some (.ref o), some (.int x1), some (.int x2), some (.int x3)], [], (zS0, R, I, J)) r) (k2 : ¬ (x1 ≤ x3) → zEv X d zm_107 (18, [some (.ref o), some (.int x1), some (.int x2), some (.int x3)], [], (zS0, R, I, J)) r) : zEv X d zm_107 (13, [some (.ref o), some (.int x1), some (.int x2), some (.int x3)], [], (zS0, R, I, J)) r := by
  rcases ho with rfl | rfl
  · refine zEv_k 3 (f' := (if x1 ≤ x3 then 45 else 18, [some (.ref 180), some (.int x1), some (.int x2), some (.int x3)], [], (zS0, R, I, J))) rfl ?_
    exact zEv_if k1 k2
  · refine zEv_k 3 (f' := (if x1 ≤ x3 then 45 else 18, [some (.ref 186), some (.int x1), some (.int x2), some (.int x3)], [], (zS0, R, I, J))) rfl ?_
    exact zEv_if k1 k2
theorem b_107_18 {X : zX} {d : Nat} {R : zR} {I : zI} {J : zJ} {r : zA} {o : Nat} {x1 : Int32} {x2 : Int32} {x3 : Int32} {w : Int32} {R' : zR} {I' : zI} {J' : zJ} (ho : o = 180 ∨ o = 186) (hc : zEv X d zm_286 (0, [some (.int x3)], [], (zS0, R, I, J)) (some (.int w), (zS0, R', I', J'))) (k1 : zEv X (d + 1) zm_107 (22, [some (.ref o), some (.int x1), some (.int x2), some (.int x3)], [.int w], (zS0, R', I', J')) r) : zEv X (d + 1) zm_107 (18, [some (.ref o), some (.int x1), some (.int x2), some (.int x3)], [], (zS0, R, I, J)) r := by
  rcases ho with rfl | rfl
  · refine zEv_k 1 (f' := (19, [some (.ref 180), some (.int x1), some (.int x2), some (.int x3)], [.int x3], (zS0, R, I, J))) rfl ?_
    exact zEv_c (fun _ => rfl) rfl hc rfl rfl k1
  · refine zEv_k 1 (f' := (19, [some (.ref 186), some (.int x1), some (.int x2), some (.int x3)], [.int x3], (zS0, R, I, J))) rfl ?_
    exact zEv_c (fun _ => rfl) rfl hc rfl rfl k1
theorem b_107_22 {X : zX} {d : Nat} {R : zR} {I : zI} {J : zJ} {r : zA} {o : Nat} {x1 : Int32} {x2 : Int32} {x3 : Int32} {s0 : Int32} {w : Int32} {R' : zR} {I' : zI} {J' : zJ} (ho : o = 180 ∨ o = 186) (hc : zEv X d zm_286 (0, [some (.int x2)], [], (zS0, R, I, J)) (some (.int w), (zS0, R', I', J'))) (k1 : zEv X (d + 1) zm_107 (26, [some (.ref o), some (.int x1), some (.int x2), some (.int x3)], [.int w, .int s0], (zS0, R', I', J')) r) : zEv X (d + 1) zm_107 (22, [some (.ref o), some (.int x1), some (.int x2), some (.int x3)], [.int s0], (zS0, R, I, J)) r := by
  rcases ho with rfl | rfl
  · refine zEv_k 1 (f' := (23, [some (.ref 180), some (.int x1), some (.int x2), some (.int x3)], [.int x2, .int s0], (zS0, R, I, J))) rfl ?_
    exact zEv_c (fun _ => rfl) rfl hc rfl rfl k1
  · refine zEv_k 1 (f' := (23, [some (.ref 186), some (.int x1), some (.int x2), some (.int x3)], [.int x2, .int s0], (zS0, R, I, J))) rfl ?_
    exact zEv_c (fun _ => rfl) rfl hc rfl rfl k1
theorem b_107_26 {X : zX} {d : Nat} {R : zR} {I : zI} {J : zJ} {r : zA} {o : Nat} {x1 : Int32} {x2 : Int32} {x3 : Int32} {s0 : Int32} {s1 : Int32} (ho : o = 180 ∨ o = 186) (k1 : s1 ≤ s0 → zEv X d zm_107 (39, [some (.ref o), some (.int x1), some (.int x2), some (.int x3)], [], (zS0, R, I, J)) r) (k2 : ¬ (s1 ≤ s0) → zEv X d zm_107 (29, [some (.ref o), some (.int x1), some (.int x2), some (.int x3)], [], (zS0, R, I, J)) r) : zEv X d zm_107 (26, [some (.ref o), some (.int x1), some (.int x2), some (.int x3)], [.int s1, .int s0], (zS0, R, I, J)) r := by
  rcases ho with rfl | rfl
  · refine zEv_k 1 (f' := (if s1 ≤ s0 then 39 else 29, [some (.ref 180), some (.int x1), some (.int x2), some (.int x3)], [], (zS0, R, I, J))) rfl ?_
    exact zEv_if k1 k2
  · refine zEv_k 1 (f' := (if s1 ≤ s0 then 39 else 29, [some (.ref 186), some (.int x1), some (.int x2), some (.int x3)], [], (zS0, R, I, J))) rfl ?_
    exact zEv_if k1 k2
theorem b_107_29 {X : zX} {d : Nat} {R : zR} {I : zI} {J : zJ} {r : zA} {o : Nat} {x1 : Int32} {x2 : Int32} {x3 : Int32} {w : Int32} {R' : zR} {I' : zI} {J' : zJ} (ho : o = 180 ∨ o = 186) (hc : zEv X d zm_108 (0, [some (.ref o), some (.int x3), none, none, none], [], (zS0, R, I, J)) (some (.int w), (zS0, R', I', J'))) (k1 : zEv X (d + 1) zm_107 (34, [some (.ref o), some (.int x1), some (.int x2), some (.int x3)], [.int w], (zS0, R', I', J')) r) : zEv X (d + 1) zm_107 (29, [some (.ref o), some (.int x1), some (.int x2), some (.int x3)], [], (zS0, R, I, J)) r := by
  rcases ho with rfl | rfl
  · refine zEv_k 2 (f' := (31, [some (.ref 180), some (.int x1), some (.int x2), some (.int x3)], [.int x3, .ref 180], (zS0, R, I, J))) rfl ?_
    exact zEv_c (fun _ => rfl) rfl hc rfl rfl k1
  · refine zEv_k 2 (f' := (31, [some (.ref 186), some (.int x1), some (.int x2), some (.int x3)], [.int x3, .ref 186], (zS0, R, I, J))) rfl ?_
    exact zEv_c (fun _ => rfl) rfl hc rfl rfl k1
theorem b_107_34 {X : zX} {d : Nat} {R : zR} {I : zI} {J : zJ} {r : zA} {o : Nat} {x1 : Int32} {x2 : Int32} {x3 : Int32} {s0 : Int32} (ho : o = 180 ∨ o = 186) (k1 : s0 = 0 → zEv X d zm_107 (39, [some (.ref o), some (.int x1), some (.int x2), some (.int x3)], [], (zS0, R, I, J)) r) (k2 : ¬ (s0 = 0) → zEv X d zm_107 (37, [some (.ref o), some (.int x1), some (.int x2), some (.int x3)], [], (zS0, R, I, J)) r) : zEv X d zm_107 (34, [some (.ref o), some (.int x1), some (.int x2), some (.int x3)], [.int s0], (zS0, R, I, J)) r := by
  rcases ho with rfl | rfl
  · refine zEv_k 1 (f' := (if s0 = 0 then 39 else 37, [some (.ref 180), some (.int x1), some (.int x2), some (.int x3)], [], (zS0, R, I, J))) rfl ?_
    exact zEv_if k1 k2
  · refine zEv_k 1 (f' := (if s0 = 0 then 39 else 37, [some (.ref 186), some (.int x1), some (.int x2), some (.int x3)], [], (zS0, R, I, J))) rfl ?_
    exact zEv_if k1 k2
theorem b_107_37 {X : zX} {d : Nat} {R : zR} {I : zI} {J : zJ} {r : zA} {o : Nat} {x1 : Int32} {x2 : Int32} {x3 : Int32} (ho : o = 180 ∨ o = 186) (k1 : zEv X d zm_107 (39, [some (.ref o), some (.int x1), some (.int x3), some (.int x3)], [], (zS0, R, I, J)) r) : zEv X d zm_107 (37, [some (.ref o), some (.int x1), some (.int x2), some (.int x3)], [], (zS0, R, I, J)) r := by
  rcases ho with rfl | rfl
  · refine zEv_k 2 (f' := (39, [some (.ref 180), some (.int x1), some (.int x3), some (.int x3)], [], (zS0, R, I, J))) rfl ?_
    exact k1
  · refine zEv_k 2 (f' := (39, [some (.ref 186), some (.int x1), some (.int x3), some (.int x3)], [], (zS0, R, I, J))) rfl ?_
    exact k1
theorem b_107_39 {X : zX} {d : Nat} {R : zR} {I : zI} {J : zJ} {r : zA} {o : Nat} {x1 : Int32} {x2 : Int32} {x3 : Int32} (ho : o = 180 ∨ o = 186) (k1 : zEv X d zm_107 (13, [some (.ref o), some (.int x1), some (.int x2), some (.int (x3 + 1))], [], (zS0, R, I, J)) r) : zEv X d zm_107 (39, [some (.ref o), some (.int x1), some (.int x2), some (.int x3)], [], (zS0, R, I, J)) r := by
  rcases ho with rfl | rfl
  · refine zEv_k 2 (f' := (13, [some (.ref 180), some (.int x1), some (.int x2), some (.int (x3 + 1))], [], (zS0, R, I, J))) rfl ?_
    exact k1
  · refine zEv_k 2 (f' := (13, [some (.ref 186), some (.int x1), some (.int x2), some (.int (x3 + 1))], [], (zS0, R, I, J))) rfl ?_
    exact k1
theorem b_107_45 {X : zX} {d : Nat} {R : zR} {I : zI} {J : zJ} {o : Nat} {x1 : Int32} {x2 : Int32} {x3 : Int32} (ho : o = 180 ∨ o = 186) : zEv X d zm_107 (45, [some (.ref o), some (.int x1), some (.int x2), some (.int x3)], [], (zS0, R, I, J)) (some (.int x2), (zS0, R, I, J)) := by
  rcases ho with rfl | rfl
  · refine zEv_k 1 (f' := (46, [some (.ref 180), some (.int x1), some (.int x2), some (.int x3)], [.int x2], (zS0, R, I, J))) rfl ?_
    exact zEv_r rfl
  · refine zEv_k 1 (f' := (46, [some (.ref 186), some (.int x1), some (.int x2), some (.int x3)], [.int x2], (zS0, R, I, J))) rfl ?_
    exact zEv_r rfl
theorem b_108_0 {X : zX} {d : Nat} {R : zR} {I : zI} {J : zJ} {r : zA} {o : Nat} {x1 : Int32} (ho : o = 180 ∨ o = 186) (k1 : zEv X d zm_108 (2, [some (.ref o), some (.int x1), some (.int 0), none, none], [], (zS0, R, I, J)) r) : zEv X d zm_108 (0, [some (.ref o), some (.int x1), none, none, none], [], (zS0, R, I, J)) r := by
  rcases ho with rfl | rfl
  · refine zEv_k 2 (f' := (2, [some (.ref 180), some (.int x1), some (.int 0), none, none], [], (zS0, R, I, J))) rfl ?_
    exact k1
  · refine zEv_k 2 (f' := (2, [some (.ref 186), some (.int x1), some (.int 0), none, none], [], (zS0, R, I, J))) rfl ?_
    exact k1
theorem b_108_2 {X : zX} {d : Nat} {R : zR} {I : zI} {J : zJ} {r : zA} {o : Nat} {x1 : Int32} {x2 : Int32} {x3 : Option Value} {x4 : Option Value} (ho : o = 180 ∨ o = 186) (k1 : (I o 0) ≤ x2 → zEv X d zm_108 (94, [some (.ref o), some (.int x1), some (.int x2), x3, x4], [], (zS0, R, I, J)) r) (k2 : ¬ ((I o 0) ≤ x2) → zEv X d zm_108 (10, [some (.ref o), some (.int x1), some (.int x2), x3, x4], [], (zS0, R, I, J)) r) : zEv X d zm_108 (2, [some (.ref o), some (.int x1), some (.int x2), x3, x4], [], (zS0, R, I, J)) r := by
  rcases ho with rfl | rfl
  · refine zEv_k 4 (f' := (if (I 180 0) ≤ x2 then 94 else 10, [some (.ref 180), some (.int x1), some (.int x2), x3, x4], [], (zS0, R, I, J))) rfl ?_
    exact zEv_if k1 k2
  · refine zEv_k 4 (f' := (if (I 186 0) ≤ x2 then 94 else 10, [some (.ref 186), some (.int x1), some (.int x2), x3, x4], [], (zS0, R, I, J))) rfl ?_
    exact zEv_if k1 k2
theorem b_108_10 {X : zX} {d : Nat} {R : zR} {I : zI} {J : zJ} {r : zA} {o : Nat} {x1 : Int32} {x2 : Int32} {x3 : Option Value} {x4 : Option Value} (ho : o = 180 ∨ o = 186) (k1 : zEv X d zm_108 (12, [some (.ref o), some (.int x1), some (.int x2), some (.int 0), x4], [], (zS0, R, I, J)) r) : zEv X d zm_108 (10, [some (.ref o), some (.int x1), some (.int x2), x3, x4], [], (zS0, R, I, J)) r := by
  rcases ho with rfl | rfl
  · refine zEv_k 2 (f' := (12, [some (.ref 180), some (.int x1), some (.int x2), some (.int 0), x4], [], (zS0, R, I, J))) rfl ?_
    exact k1
  · refine zEv_k 2 (f' := (12, [some (.ref 186), some (.int x1), some (.int x2), some (.int 0), x4], [], (zS0, R, I, J))) rfl ?_
    exact k1
theorem b_108_12 {X : zX} {d : Nat} {R : zR} {I : zI} {J : zJ} {r : zA} {o : Nat} {x1 : Int32} {x2 : Int32} {x3 : Int32} {x4 : Option Value} (ho : o = 180 ∨ o = 186) (k1 : (I o 0) ≤ x3 → zEv X d zm_108 (88, [some (.ref o), some (.int x1), some (.int x2), some (.int x3), x4], [], (zS0, R, I, J)) r) (k2 : ¬ ((I o 0) ≤ x3) → zEv X d zm_108 (20, [some (.ref o), some (.int x1), some (.int x2), some (.int x3), x4], [], (zS0, R, I, J)) r) : zEv X d zm_108 (12, [some (.ref o), some (.int x1), some (.int x2), some (.int x3), x4], [], (zS0, R, I, J)) r := by
  rcases ho with rfl | rfl
  · refine zEv_k 4 (f' := (if (I 180 0) ≤ x3 then 88 else 20, [some (.ref 180), some (.int x1), some (.int x2), some (.int x3), x4], [], (zS0, R, I, J))) rfl ?_
    exact zEv_if k1 k2
  · refine zEv_k 4 (f' := (if (I 186 0) ≤ x3 then 88 else 20, [some (.ref 186), some (.int x1), some (.int x2), some (.int x3), x4], [], (zS0, R, I, J))) rfl ?_
    exact zEv_if k1 k2
theorem b_108_20 {X : zX} {d : Nat} {R : zR} {I : zI} {J : zJ} {r : zA} {o : Nat} {x1 : Int32} {x2 : Int32} {x3 : Int32} {x4 : Option Value} (ho : o = 180 ∨ o = 186) (k1 : x2 = x3 → zEv X d zm_108 (45, [some (.ref o), some (.int x1), some (.int x2), some (.int x3), x4], [], (zS0, R, I, J)) r) (k2 : ¬ (x2 = x3) → zEv X d zm_108 (25, [some (.ref o), some (.int x1), some (.int x2), some (.int x3), x4], [], (zS0, R, I, J)) r) : zEv X d zm_108 (20, [some (.ref o), some (.int x1), some (.int x2), some (.int x3), x4], [], (zS0, R, I, J)) r := by
  rcases ho with rfl | rfl
  · refine zEv_k 3 (f' := (if x2 = x3 then 45 else 25, [some (.ref 180), some (.int x1), some (.int x2), some (.int x3), x4], [], (zS0, R, I, J))) rfl ?_
    exact zEv_if k1 k2
  · refine zEv_k 3 (f' := (if x2 = x3 then 45 else 25, [some (.ref 186), some (.int x1), some (.int x2), some (.int x3), x4], [], (zS0, R, I, J))) rfl ?_
    exact zEv_if k1 k2
theorem b_108_25 {X : zX} {d : Nat} {R : zR} {I : zI} {J : zJ} {r : zA} {o : Nat} {x1 : Int32} {x2 : Int32} {x3 : Int32} {x4 : Option Value} (ho : o = 180 ∨ o = 186) (k1 : ¬ (zf_cin x1 x2) = 0 → zEv X (d + 1) zm_108 (45, [some (.ref o), some (.int x1), some (.int x2), some (.int x3), x4], [], (zS0, R, I, J)) r) (k2 : ¬ (¬ (zf_cin x1 x2) = 0) → zEv X (d + 1) zm_108 (33, [some (.ref o), some (.int x1), some (.int x2), some (.int x3), x4], [], (zS0, R, I, J)) r) : zEv X (d + 1) zm_108 (25, [some (.ref o), some (.int x1), some (.int x2), some (.int x3), x4], [], (zS0, R, I, J)) r := by
  rcases ho with rfl | rfl
  · refine zEv_k 2 (f' := (27, [some (.ref 180), some (.int x1), some (.int x2), some (.int x3), x4], [.int x2, .int x1], (zS0, R, I, J))) rfl ?_
    refine zEv_c (fun _ => rfl) rfl ev_zf_cin rfl rfl ?_
    refine zEv_k 1 (f' := (if ¬ (zf_cin x1 x2) = 0 then 45 else 33, [some (.ref 180), some (.int x1), some (.int x2), some (.int x3), x4], [], (zS0, R, I, J))) rfl ?_
    exact zEv_if k1 k2
  · refine zEv_k 2 (f' := (27, [some (.ref 186), some (.int x1), some (.int x2), some (.int x3), x4], [.int x2, .int x1], (zS0, R, I, J))) rfl ?_
    refine zEv_c (fun _ => rfl) rfl ev_zf_cin rfl rfl ?_
    refine zEv_k 1 (f' := (if ¬ (zf_cin x1 x2) = 0 then 45 else 33, [some (.ref 186), some (.int x1), some (.int x2), some (.int x3), x4], [], (zS0, R, I, J))) rfl ?_
    exact zEv_if k1 k2
theorem b_108_33 {X : zX} {d : Nat} {R : zR} {I : zI} {J : zJ} {r : zA} {o : Nat} {x1 : Int32} {x2 : Int32} {x3 : Int32} {x4 : Option Value} (ho : o = 180 ∨ o = 186) (k1 : ¬ (zf_cin x1 x3) = 0 → zEv X (d + 1) zm_108 (45, [some (.ref o), some (.int x1), some (.int x2), some (.int x3), x4], [], (zS0, R, I, J)) r) (k2 : ¬ (¬ (zf_cin x1 x3) = 0) → zEv X (d + 1) zm_108 (41, [some (.ref o), some (.int x1), some (.int x2), some (.int x3), x4], [], (zS0, R, I, J)) r) : zEv X (d + 1) zm_108 (33, [some (.ref o), some (.int x1), some (.int x2), some (.int x3), x4], [], (zS0, R, I, J)) r := by
  rcases ho with rfl | rfl
  · refine zEv_k 2 (f' := (35, [some (.ref 180), some (.int x1), some (.int x2), some (.int x3), x4], [.int x3, .int x1], (zS0, R, I, J))) rfl ?_
    refine zEv_c (fun _ => rfl) rfl ev_zf_cin rfl rfl ?_
    refine zEv_k 1 (f' := (if ¬ (zf_cin x1 x3) = 0 then 45 else 41, [some (.ref 180), some (.int x1), some (.int x2), some (.int x3), x4], [], (zS0, R, I, J))) rfl ?_
    exact zEv_if k1 k2
  · refine zEv_k 2 (f' := (35, [some (.ref 186), some (.int x1), some (.int x2), some (.int x3), x4], [.int x3, .int x1], (zS0, R, I, J))) rfl ?_
    refine zEv_c (fun _ => rfl) rfl ev_zf_cin rfl rfl ?_
    refine zEv_k 1 (f' := (if ¬ (zf_cin x1 x3) = 0 then 45 else 41, [some (.ref 186), some (.int x1), some (.int x2), some (.int x3), x4], [], (zS0, R, I, J))) rfl ?_
    exact zEv_if k1 k2
theorem b_108_41 {X : zX} {d : Nat} {R : zR} {I : zI} {J : zJ} {r : zA} {o : Nat} {x1 : Int32} {x2 : Int32} {x3 : Int32} {x4 : Option Value} (ho : o = 180 ∨ o = 186) (k1 : zEv X d zm_108 (46, [some (.ref o), some (.int x1), some (.int x2), some (.int x3), x4], [.int 1], (zS0, R, I, J)) r) : zEv X d zm_108 (41, [some (.ref o), some (.int x1), some (.int x2), some (.int x3), x4], [], (zS0, R, I, J)) r := by
  rcases ho with rfl | rfl
  · refine zEv_k 2 (f' := (46, [some (.ref 180), some (.int x1), some (.int x2), some (.int x3), x4], [.int 1], (zS0, R, I, J))) rfl ?_
    exact k1
  · refine zEv_k 2 (f' := (46, [some (.ref 186), some (.int x1), some (.int x2), some (.int x3), x4], [.int 1], (zS0, R, I, J))) rfl ?_
    exact k1
theorem b_108_45 {X : zX} {d : Nat} {R : zR} {I : zI} {J : zJ} {r : zA} {o : Nat} {x1 : Int32} {x2 : Int32} {x3 : Int32} {x4 : Option Value} (ho : o = 180 ∨ o = 186) (k1 : zEv X d zm_108 (46, [some (.ref o), some (.int x1), some (.int x2), some (.int x3), x4], [.int 0], (zS0, R, I, J)) r) : zEv X d zm_108 (45, [some (.ref o), some (.int x1), some (.int x2), some (.int x3), x4], [], (zS0, R, I, J)) r := by
  rcases ho with rfl | rfl
  · refine zEv_k 1 (f' := (46, [some (.ref 180), some (.int x1), some (.int x2), some (.int x3), x4], [.int 0], (zS0, R, I, J))) rfl ?_
    exact k1
  · refine zEv_k 1 (f' := (46, [some (.ref 186), some (.int x1), some (.int x2), some (.int x3), x4], [.int 0], (zS0, R, I, J))) rfl ?_
    exact k1
theorem b_108_46 {X : zX} {d : Nat} {R : zR} {I : zI} {J : zJ} {r : zA} {o : Nat} {x1 : Int32} {x2 : Int32} {x3 : Int32} {x4 : Option Value} {s0 : Int32} (ho : o = 180 ∨ o = 186) (k1 : s0 = 0 → zEv X d zm_108 (82, [some (.ref o), some (.int x1), some (.int x2), some (.int x3), some (.int s0)], [], (zS0, R, I, J)) r) (k2 : ¬ (s0 = 0) → zEv X d zm_108 (53, [some (.ref o), some (.int x1), some (.int x2), some (.int x3), some (.int s0)], [], (zS0, R, I, J)) r) : zEv X d zm_108 (46, [some (.ref o), some (.int x1), some (.int x2), some (.int x3), x4], [.int s0], (zS0, R, I, J)) r := by
  rcases ho with rfl | rfl
  · refine zEv_k 3 (f' := (if s0 = 0 then 82 else 53, [some (.ref 180), some (.int x1), some (.int x2), some (.int x3), some (.int s0)], [], (zS0, R, I, J))) rfl ?_
    exact zEv_if k1 k2
  · refine zEv_k 3 (f' := (if s0 = 0 then 82 else 53, [some (.ref 186), some (.int x1), some (.int x2), some (.int x3), some (.int s0)], [], (zS0, R, I, J))) rfl ?_
    exact zEv_if k1 k2
theorem b_108_53 {X : zX} {d : Nat} {R : zR} {I : zI} {J : zJ} {r : zA} {o : Nat} {x1 : Int32} {x2 : Int32} {x3 : Int32} {x4 : Int32} (hR : zRok R) (ho : o = 180 ∨ o = 186) (h58 : zin x3 7) (h64 : zin x3 7) (k1 : (zf_cin (I (o + 2) (x3).toNatClampNeg) x2) = 0 → zEv X (d + 1) zm_108 (76, [some (.ref o), some (.int x1), some (.int x2), some (.int x3), some (.int x4)], [.int (I (o + 1) (x3).toNatClampNeg)], (zS0, R, I, J)) r) (k2 : ¬ ((zf_cin (I (o + 2) (x3).toNatClampNeg) x2) = 0) → zEv X (d + 1) zm_108 (72, [some (.ref o), some (.int x1), some (.int x2), some (.int x3), some (.int x4)], [.int (I (o + 1) (x3).toNatClampNeg)], (zS0, R, I, J)) r) : zEv X (d + 1) zm_108 (53, [some (.ref o), some (.int x1), some (.int x2), some (.int x3), some (.int x4)], [], (zS0, R, I, J)) r := by
  rcases ho with rfl | rfl
  · refine zEv_k 1 (f' := (54, [some (.ref 180), some (.int x1), some (.int x2), some (.int x3), some (.int x4)], [.ref 180], (zS0, R, I, J))) rfl ?_
    refine zEv_gr rfl rfl rfl (by decide) (hR (180) 1 (180 + 1) rfl) ?_
    refine zEv_k 1 (f' := (58, [some (.ref 180), some (.int x1), some (.int x2), some (.int x3), some (.int x4)], [.int x3, .ref (180 + 1)], (zS0, R, I, J))) rfl ?_
    refine zEv_ial rfl rfl (by decide) h58 ?_
    refine zEv_k 1 (f' := (60, [some (.ref 180), some (.int x1), some (.int x2), some (.int x3), some (.int x4)], [.ref 180, .int (I (180 + 1) (x3).toNatClampNeg)], (zS0, R, I, J))) rfl ?_
    refine zEv_gr rfl rfl rfl (by decide) (hR (180) 3 (180 + 2) rfl) ?_
    refine zEv_k 1 (f' := (64, [some (.ref 180), some (.int x1), some (.int x2), some (.int x3), some (.int x4)], [.int x3, .ref (180 + 2), .int (I (180 + 1) (x3).toNatClampNeg)], (zS0, R, I, J))) rfl ?_
    refine zEv_ial rfl rfl (by decide) h64 ?_
    refine zEv_k 1 (f' := (66, [some (.ref 180), some (.int x1), some (.int x2), some (.int x3), some (.int x4)], [.int x2, .int (I (180 + 2) (x3).toNatClampNeg), .int (I (180 + 1) (x3).toNatClampNeg)], (zS0, R, I, J))) rfl ?_
    refine zEv_c (fun _ => rfl) rfl ev_zf_cin rfl rfl ?_
    refine zEv_k 1 (f' := (if (zf_cin (I (180 + 2) (x3).toNatClampNeg) x2) = 0 then 76 else 72, [some (.ref 180), some (.int x1), some (.int x2), some (.int x3), some (.int x4)], [.int (I (180 + 1) (x3).toNatClampNeg)], (zS0, R, I, J))) rfl ?_
    exact zEv_if k1 k2
  · refine zEv_k 1 (f' := (54, [some (.ref 186), some (.int x1), some (.int x2), some (.int x3), some (.int x4)], [.ref 186], (zS0, R, I, J))) rfl ?_
    refine zEv_gr rfl rfl rfl (by decide) (hR (186) 1 (186 + 1) rfl) ?_
    refine zEv_k 1 (f' := (58, [some (.ref 186), some (.int x1), some (.int x2), some (.int x3), some (.int x4)], [.int x3, .ref (186 + 1)], (zS0, R, I, J))) rfl ?_
    refine zEv_ial rfl rfl (by decide) h58 ?_
    refine zEv_k 1 (f' := (60, [some (.ref 186), some (.int x1), some (.int x2), some (.int x3), some (.int x4)], [.ref 186, .int (I (186 + 1) (x3).toNatClampNeg)], (zS0, R, I, J))) rfl ?_
    refine zEv_gr rfl rfl rfl (by decide) (hR (186) 3 (186 + 2) rfl) ?_
    refine zEv_k 1 (f' := (64, [some (.ref 186), some (.int x1), some (.int x2), some (.int x3), some (.int x4)], [.int x3, .ref (186 + 2), .int (I (186 + 1) (x3).toNatClampNeg)], (zS0, R, I, J))) rfl ?_
    refine zEv_ial rfl rfl (by decide) h64 ?_
    refine zEv_k 1 (f' := (66, [some (.ref 186), some (.int x1), some (.int x2), some (.int x3), some (.int x4)], [.int x2, .int (I (186 + 2) (x3).toNatClampNeg), .int (I (186 + 1) (x3).toNatClampNeg)], (zS0, R, I, J))) rfl ?_
    refine zEv_c (fun _ => rfl) rfl ev_zf_cin rfl rfl ?_
    refine zEv_k 1 (f' := (if (zf_cin (I (186 + 2) (x3).toNatClampNeg) x2) = 0 then 76 else 72, [some (.ref 186), some (.int x1), some (.int x2), some (.int x3), some (.int x4)], [.int (I (186 + 1) (x3).toNatClampNeg)], (zS0, R, I, J))) rfl ?_
    exact zEv_if k1 k2
theorem b_108_72 {X : zX} {d : Nat} {R : zR} {I : zI} {J : zJ} {r : zA} {o : Nat} {x1 : Int32} {x2 : Int32} {x3 : Int32} {x4 : Int32} {s0 : Int32} (ho : o = 180 ∨ o = 186) (k1 : zEv X d zm_108 (77, [some (.ref o), some (.int x1), some (.int x2), some (.int x3), some (.int x4)], [.int 1, .int s0], (zS0, R, I, J)) r) : zEv X d zm_108 (72, [some (.ref o), some (.int x1), some (.int x2), some (.int x3), some (.int x4)], [.int s0], (zS0, R, I, J)) r := by
  rcases ho with rfl | rfl
  · refine zEv_k 2 (f' := (77, [some (.ref 180), some (.int x1), some (.int x2), some (.int x3), some (.int x4)], [.int 1, .int s0], (zS0, R, I, J))) rfl ?_
    exact k1
  · refine zEv_k 2 (f' := (77, [some (.ref 186), some (.int x1), some (.int x2), some (.int x3), some (.int x4)], [.int 1, .int s0], (zS0, R, I, J))) rfl ?_
    exact k1
theorem b_108_76 {X : zX} {d : Nat} {R : zR} {I : zI} {J : zJ} {r : zA} {o : Nat} {x1 : Int32} {x2 : Int32} {x3 : Int32} {x4 : Int32} {s0 : Int32} (ho : o = 180 ∨ o = 186) (k1 : zEv X d zm_108 (77, [some (.ref o), some (.int x1), some (.int x2), some (.int x3), some (.int x4)], [.int 0, .int s0], (zS0, R, I, J)) r) : zEv X d zm_108 (76, [some (.ref o), some (.int x1), some (.int x2), some (.int x3), some (.int x4)], [.int s0], (zS0, R, I, J)) r := by
  rcases ho with rfl | rfl
  · refine zEv_k 1 (f' := (77, [some (.ref 180), some (.int x1), some (.int x2), some (.int x3), some (.int x4)], [.int 0, .int s0], (zS0, R, I, J))) rfl ?_
    exact k1
  · refine zEv_k 1 (f' := (77, [some (.ref 186), some (.int x1), some (.int x2), some (.int x3), some (.int x4)], [.int 0, .int s0], (zS0, R, I, J))) rfl ?_
    exact k1
theorem b_108_77 {X : zX} {d : Nat} {R : zR} {I : zI} {J : zJ} {r : zA} {o : Nat} {x1 : Int32} {x2 : Int32} {x3 : Int32} {x4 : Int32} {s0 : Int32} {s1 : Int32} (ho : o = 180 ∨ o = 186) (k1 : s1 < s0 → zEv X d zm_108 (82, [some (.ref o), some (.int x1), some (.int x2), some (.int x3), some (.int x4)], [], (zS0, R, I, J)) r) (k2 : ¬ (s1 < s0) → zEv X d zm_108 (80, [some (.ref o), some (.int x1), some (.int x2), some (.int x3), some (.int x4)], [], (zS0, R, I, J)) r) : zEv X d zm_108 (77, [some (.ref o), some (.int x1), some (.int x2), some (.int x3), some (.int x4)], [.int s1, .int s0], (zS0, R, I, J)) r := by
  rcases ho with rfl | rfl
  · refine zEv_k 1 (f' := (if s1 < s0 then 82 else 80, [some (.ref 180), some (.int x1), some (.int x2), some (.int x3), some (.int x4)], [], (zS0, R, I, J))) rfl ?_
    exact zEv_if k1 k2
  · refine zEv_k 1 (f' := (if s1 < s0 then 82 else 80, [some (.ref 186), some (.int x1), some (.int x2), some (.int x3), some (.int x4)], [], (zS0, R, I, J))) rfl ?_
    exact zEv_if k1 k2
theorem b_108_80 {X : zX} {d : Nat} {R : zR} {I : zI} {J : zJ} {o : Nat} {x1 : Int32} {x2 : Int32} {x3 : Int32} {x4 : Int32} (ho : o = 180 ∨ o = 186) : zEv X d zm_108 (80, [some (.ref o), some (.int x1), some (.int x2), some (.int x3), some (.int x4)], [], (zS0, R, I, J)) (some (.int 0), (zS0, R, I, J)) := by
  rcases ho with rfl | rfl
  · refine zEv_k 1 (f' := (81, [some (.ref 180), some (.int x1), some (.int x2), some (.int x3), some (.int x4)], [.int 0], (zS0, R, I, J))) rfl ?_
    exact zEv_r rfl
  · refine zEv_k 1 (f' := (81, [some (.ref 186), some (.int x1), some (.int x2), some (.int x3), some (.int x4)], [.int 0], (zS0, R, I, J))) rfl ?_
    exact zEv_r rfl
theorem b_108_82 {X : zX} {d : Nat} {R : zR} {I : zI} {J : zJ} {r : zA} {o : Nat} {x1 : Int32} {x2 : Int32} {x3 : Int32} {x4 : Int32} (ho : o = 180 ∨ o = 186) (k1 : zEv X d zm_108 (12, [some (.ref o), some (.int x1), some (.int x2), some (.int (x3 + 1)), some (.int x4)], [], (zS0, R, I, J)) r) : zEv X d zm_108 (82, [some (.ref o), some (.int x1), some (.int x2), some (.int x3), some (.int x4)], [], (zS0, R, I, J)) r := by
  rcases ho with rfl | rfl
  · refine zEv_k 2 (f' := (12, [some (.ref 180), some (.int x1), some (.int x2), some (.int (x3 + 1)), some (.int x4)], [], (zS0, R, I, J))) rfl ?_
    exact k1
  · refine zEv_k 2 (f' := (12, [some (.ref 186), some (.int x1), some (.int x2), some (.int (x3 + 1)), some (.int x4)], [], (zS0, R, I, J))) rfl ?_
    exact k1
theorem b_108_88 {X : zX} {d : Nat} {R : zR} {I : zI} {J : zJ} {r : zA} {o : Nat} {x1 : Int32} {x2 : Int32} {x3 : Int32} {x4 : Option Value} (ho : o = 180 ∨ o = 186) (k1 : zEv X d zm_108 (2, [some (.ref o), some (.int x1), some (.int (x2 + 1)), some (.int x3), x4], [], (zS0, R, I, J)) r) : zEv X d zm_108 (88, [some (.ref o), some (.int x1), some (.int x2), some (.int x3), x4], [], (zS0, R, I, J)) r := by
  rcases ho with rfl | rfl
  · refine zEv_k 2 (f' := (2, [some (.ref 180), some (.int x1), some (.int (x2 + 1)), some (.int x3), x4], [], (zS0, R, I, J))) rfl ?_
    exact k1
  · refine zEv_k 2 (f' := (2, [some (.ref 186), some (.int x1), some (.int (x2 + 1)), some (.int x3), x4], [], (zS0, R, I, J))) rfl ?_
    exact k1
theorem b_108_94 {X : zX} {d : Nat} {R : zR} {I : zI} {J : zJ} {o : Nat} {x1 : Int32} {x2 : Int32} {x3 : Option Value} {x4 : Option Value} (ho : o = 180 ∨ o = 186) : zEv X d zm_108 (94, [some (.ref o), some (.int x1), some (.int x2), x3, x4], [], (zS0, R, I, J)) (some (.int 1), (zS0, R, I, J)) := by
  rcases ho with rfl | rfl
  · refine zEv_k 1 (f' := (95, [some (.ref 180), some (.int x1), some (.int x2), x3, x4], [.int 1], (zS0, R, I, J))) rfl ?_
    exact zEv_r rfl
  · refine zEv_k 1 (f' := (95, [some (.ref 186), some (.int x1), some (.int x2), x3, x4], [.int 1], (zS0, R, I, J))) rfl ?_
    exact zEv_r rfl
theorem b_109_0 {X : zX} {d : Nat} {R : zR} {I : zI} {J : zJ} {r : zA} {o : Nat} {w : Int32} {R' : zR} {I' : zI} {J' : zJ} (ho : o = 180 ∨ o = 186) (hc : zEv X d zm_101 (0, [some (.ref o), some (.int (I o 0)), none, none], [], (zS0, R, I, J)) (some (.int w), (zS0, R', I', J'))) (k1 : zEv X (d + 1) zm_109 (8, [some (.ref o), none, none, none, none, none], [.int w], (zS0, R', I', J')) r) : zEv X (d + 1) zm_109 (0, [some (.ref o), none, none, none, none, none], [], (zS0, R, I, J)) r := by
  rcases ho with rfl | rfl
  · refine zEv_k 3 (f' := (5, [some (.ref 180), none, none, none, none, none], [.int (I 180 0), .ref 180], (zS0, R, I, J))) rfl ?_
    exact zEv_c (fun _ => rfl) rfl hc rfl rfl k1
  · refine zEv_k 3 (f' := (5, [some (.ref 186), none, none, none, none, none], [.int (I 186 0), .ref 186], (zS0, R, I, J))) rfl ?_
    exact zEv_c (fun _ => rfl) rfl hc rfl rfl k1
theorem b_109_8 {X : zX} {d : Nat} {R : zR} {I : zI} {J : zJ} {r : zA} {o : Nat} {s0 : Int32} (ho : o = 180 ∨ o = 186) (k1 : zEv X d zm_109 (13, [some (.ref o), some (.int s0), some (.int (-1)), some (.int 0), none, none], [], (zS0, R, I, J)) r) : zEv X d zm_109 (8, [some (.ref o), none, none, none, none, none], [.int s0], (zS0, R, I, J)) r := by
  rcases ho with rfl | rfl
  · refine zEv_k 5 (f' := (13, [some (.ref 180), some (.int s0), some (.int (-1)), some (.int 0), none, none], [], (zS0, R, I, J))) rfl ?_
    exact k1
  · refine zEv_k 5 (f' := (13, [some (.ref 186), some (.int s0), some (.int (-1)), some (.int 0), none, none], [], (zS0, R, I, J))) rfl ?_
    exact k1
theorem b_109_13 {X : zX} {d : Nat} {R : zR} {I : zI} {J : zJ} {r : zA} {o : Nat} {x1 : Int32} {x2 : Int32} {x3 : Int32} {x4 : Option Value} {x5 : Option Value} (ho : o = 180 ∨ o = 186) (k1 : (I o 0) ≤ x3 → zEv X d zm_109 (85, [some (.ref o), some (.int x1), some (.int x2), some (.int x3), x4, x5], [], (zS0, R, I, J)) r) (k2 : ¬ ((I o 0) ≤ x3) → zEv X d zm_109 (21, [some (.ref o), some (.int x1), some (.int x2), some (.int x3), x4, x5], [], (zS0, R, I, J)) r) : zEv X d zm_109 (13, [some (.ref o), some (.int x1), some (.int x2), some (.int x3), x4, x5], [], (zS0, R, I, J)) r := by
  rcases ho with rfl | rfl
  · refine zEv_k 4 (f' := (if (I 180 0) ≤ x3 then 85 else 21, [some (.ref 180), some (.int x1), some (.int x2), some (.int x3), x4, x5], [], (zS0, R, I, J))) rfl ?_
    exact zEv_if k1 k2
  · refine zEv_k 4 (f' := (if (I 186 0) ≤ x3 then 85 else 21, [some (.ref 186), some (.int x1), some (.int x2), some (.int x3), x4, x5], [], (zS0, R, I, J))) rfl ?_
    exact zEv_if k1 k2
theorem b_109_21 {X : zX} {d : Nat} {R : zR} {I : zI} {J : zJ} {r : zA} {o : Nat} {x1 : Int32} {x2 : Int32} {x3 : Int32} {x4 : Option Value} {x5 : Option Value} (ho : o = 180 ∨ o = 186) (k1 : zEv X d zm_109 (26, [some (.ref o), some (.int x1), some (.int x2), some (.int x3), some (.int (x3 + 1)), x5], [], (zS0, R, I, J)) r) : zEv X d zm_109 (21, [some (.ref o), some (.int x1), some (.int x2), some (.int x3), x4, x5], [], (zS0, R, I, J)) r := by
  rcases ho with rfl | rfl
  · refine zEv_k 4 (f' := (26, [some (.ref 180), some (.int x1), some (.int x2), some (.int x3), some (.int (x3 + 1)), x5], [], (zS0, R, I, J))) rfl ?_
    exact k1
  · refine zEv_k 4 (f' := (26, [some (.ref 186), some (.int x1), some (.int x2), some (.int x3), some (.int (x3 + 1)), x5], [], (zS0, R, I, J))) rfl ?_
    exact k1
theorem b_109_26 {X : zX} {d : Nat} {R : zR} {I : zI} {J : zJ} {r : zA} {o : Nat} {x1 : Int32} {x2 : Int32} {x3 : Int32} {x4 : Int32} {x5 : Option Value} (ho : o = 180 ∨ o = 186) (k1 : (I o 0) ≤ x4 → zEv X d zm_109 (79, [some (.ref o), some (.int x1), some (.int x2), some (.int x3), some (.int x4), x5], [], (zS0, R, I, J)) r) (k2 : ¬ ((I o 0) ≤ x4) → zEv X d zm_109 (35, [some (.ref o), some (.int x1), some (.int x2), some (.int x3), some (.int x4), x5], [], (zS0, R, I, J)) r) : zEv X d zm_109 (26, [some (.ref o), some (.int x1), some (.int x2), some (.int x3), some (.int x4), x5], [], (zS0, R, I, J)) r := by
  rcases ho with rfl | rfl
  · refine zEv_k 4 (f' := (if (I 180 0) ≤ x4 then 79 else 35, [some (.ref 180), some (.int x1), some (.int x2), some (.int x3), some (.int x4), x5], [], (zS0, R, I, J))) rfl ?_
    exact zEv_if k1 k2
  · refine zEv_k 4 (f' := (if (I 186 0) ≤ x4 then 79 else 35, [some (.ref 186), some (.int x1), some (.int x2), some (.int x3), some (.int x4), x5], [], (zS0, R, I, J))) rfl ?_
    exact zEv_if k1 k2
theorem b_109_35 {X : zX} {d : Nat} {R : zR} {I : zI} {J : zJ} {r : zA} {o : Nat} {x1 : Int32} {x2 : Int32} {x3 : Int32} {x4 : Int32} {x5 : Option Value} {R' : zR} {I' : zI} {J' : zJ} (ho : o = 180 ∨ o = 186) (hc : zEv X d zm_110 (0, [some (.ref o), some (.int x3), some (.int x4), none], [], (zS0, R, I, J)) (none, (zS0, R', I', J'))) (k1 : zEv X (d + 1) zm_109 (42, [some (.ref o), some (.int x1), some (.int x2), some (.int x3), some (.int x4), x5], [], (zS0, R', I', J')) r) : zEv X (d + 1) zm_109 (35, [some (.ref o), some (.int x1), some (.int x2), some (.int x3), some (.int x4), x5], [], (zS0, R, I, J)) r := by
  rcases ho with rfl | rfl
  · refine zEv_k 3 (f' := (39, [some (.ref 180), some (.int x1), some (.int x2), some (.int x3), some (.int x4), x5], [.int x4, .int x3, .ref 180], (zS0, R, I, J))) rfl ?_
    exact zEv_c (fun _ => rfl) rfl hc rfl rfl k1
  · refine zEv_k 3 (f' := (39, [some (.ref 186), some (.int x1), some (.int x2), some (.int x3), some (.int x4), x5], [.int x4, .int x3, .ref 186], (zS0, R, I, J))) rfl ?_
    exact zEv_c (fun _ => rfl) rfl hc rfl rfl k1
theorem b_109_42 {X : zX} {d : Nat} {R : zR} {I : zI} {J : zJ} {r : zA} {o : Nat} {x1 : Int32} {x2 : Int32} {x3 : Int32} {x4 : Int32} {x5 : Option Value} {w : Int32} {R' : zR} {I' : zI} {J' : zJ} (ho : o = 180 ∨ o = 186) (hc : zEv X d zm_101 (0, [some (.ref o), some (.int x1), none, none], [], (zS0, R, I, J)) (some (.int w), (zS0, R', I', J'))) (k1 : zEv X (d + 1) zm_109 (47, [some (.ref o), some (.int x1), some (.int x2), some (.int x3), some (.int x4), x5], [.int w], (zS0, R', I', J')) r) : zEv X (d + 1) zm_109 (42, [some (.ref o), some (.int x1), some (.int x2), some (.int x3), some (.int x4), x5], [], (zS0, R, I, J)) r := by
  rcases ho with rfl | rfl
  · refine zEv_k 2 (f' := (44, [some (.ref 180), some (.int x1), some (.int x2), some (.int x3), some (.int x4), x5], [.int x1, .ref 180], (zS0, R, I, J))) rfl ?_
    exact zEv_c (fun _ => rfl) rfl hc rfl rfl k1
  · refine zEv_k 2 (f' := (44, [some (.ref 186), some (.int x1), some (.int x2), some (.int x3), some (.int x4), x5], [.int x1, .ref 186], (zS0, R, I, J))) rfl ?_
    exact zEv_c (fun _ => rfl) rfl hc rfl rfl k1
theorem b_109_47 {X : zX} {d : Nat} {R : zR} {I : zI} {J : zJ} {r : zA} {o : Nat} {x1 : Int32} {x2 : Int32} {x3 : Int32} {x4 : Int32} {x5 : Option Value} {s0 : Int32} (ho : o = 180 ∨ o = 186) (k1 : x1 ≤ s0 → zEv X d zm_109 (66, [some (.ref o), some (.int x1), some (.int x2), some (.int x3), some (.int x4), some (.int s0)], [], (zS0, R, I, J)) r) (k2 : ¬ (x1 ≤ s0) → zEv X d zm_109 (55, [some (.ref o), some (.int x1), some (.int x2), some (.int x3), some (.int x4), some (.int s0)], [], (zS0, R, I, J)) r) : zEv X d zm_109 (47, [some (.ref o), some (.int x1), some (.int x2), some (.int x3), some (.int x4), x5], [.int s0], (zS0, R, I, J)) r := by
  rcases ho with rfl | rfl
  · refine zEv_k 4 (f' := (if x1 ≤ s0 then 66 else 55, [some (.ref 180), some (.int x1), some (.int x2), some (.int x3), some (.int x4), some (.int s0)], [], (zS0, R, I, J))) rfl ?_
    exact zEv_if k1 k2
  · refine zEv_k 4 (f' := (if x1 ≤ s0 then 66 else 55, [some (.ref 186), some (.int x1), some (.int x2), some (.int x3), some (.int x4), some (.int s0)], [], (zS0, R, I, J))) rfl ?_
    exact zEv_if k1 k2
theorem b_109_55 {X : zX} {d : Nat} {R : zR} {I : zI} {J : zJ} {r : zA} {o : Nat} {x1 : Int32} {x2 : Int32} {x3 : Int32} {x4 : Int32} {x5 : Int32} (ho : o = 180 ∨ o = 186) (k1 : zEv X d zm_109 (66, [some (.ref o), some (.int x5), some (.int ((10 * x3) + x4)), some (.int x3), some (.int x4), some (.int x5)], [], (zS0, R, I, J)) r) : zEv X d zm_109 (55, [some (.ref o), some (.int x1), some (.int x2), some (.int x3), some (.int x4), some (.int x5)], [], (zS0, R, I, J)) r := by
  rcases ho with rfl | rfl
  · refine zEv_k 8 (f' := (66, [some (.ref 180), some (.int x5), some (.int ((10 * x3) + x4)), some (.int x3), some (.int x4), some (.int x5)], [], (zS0, R, I, J))) rfl ?_
    exact k1
  · refine zEv_k 8 (f' := (66, [some (.ref 186), some (.int x5), some (.int ((10 * x3) + x4)), some (.int x3), some (.int x4), some (.int x5)], [], (zS0, R, I, J))) rfl ?_
    exact k1
theorem b_109_66 {X : zX} {d : Nat} {R : zR} {I : zI} {J : zJ} {r : zA} {o : Nat} {x1 : Int32} {x2 : Int32} {x3 : Int32} {x4 : Int32} {x5 : Int32} {R' : zR} {I' : zI} {J' : zJ} (ho : o = 180 ∨ o = 186) (hc : zEv X d zm_110 (0, [some (.ref o), some (.int x3), some (.int x4), none], [], (zS0, R, I, J)) (none, (zS0, R', I', J'))) (k1 : zEv X (d + 1) zm_109 (73, [some (.ref o), some (.int x1), some (.int x2), some (.int x3), some (.int x4), some (.int x5)], [], (zS0, R', I', J')) r) : zEv X (d + 1) zm_109 (66, [some (.ref o), some (.int x1), some (.int x2), some (.int x3), some (.int x4), some (.int x5)], [], (zS0, R, I, J)) r := by
  rcases ho with rfl | rfl
  · refine zEv_k 3 (f' := (70, [some (.ref 180), some (.int x1), some (.int x2), some (.int x3), some (.int x4), some (.int x5)], [.int x4, .int x3, .ref 180], (zS0, R, I, J))) rfl ?_
    exact zEv_c (fun _ => rfl) rfl hc rfl rfl k1
  · refine zEv_k 3 (f' := (70, [some (.ref 186), some (.int x1), some (.int x2), some (.int x3), some (.int x4), some (.int x5)], [.int x4, .int x3, .ref 186], (zS0, R, I, J))) rfl ?_
    exact zEv_c (fun _ => rfl) rfl hc rfl rfl k1
theorem b_109_73 {X : zX} {d : Nat} {R : zR} {I : zI} {J : zJ} {r : zA} {o : Nat} {x1 : Int32} {x2 : Int32} {x3 : Int32} {x4 : Int32} {x5 : Int32} (ho : o = 180 ∨ o = 186) (k1 : zEv X d zm_109 (26, [some (.ref o), some (.int x1), some (.int x2), some (.int x3), some (.int (x4 + 1)), some (.int x5)], [], (zS0, R, I, J)) r) : zEv X d zm_109 (73, [some (.ref o), some (.int x1), some (.int x2), some (.int x3), some (.int x4), some (.int x5)], [], (zS0, R, I, J)) r := by
  rcases ho with rfl | rfl
  · refine zEv_k 2 (f' := (26, [some (.ref 180), some (.int x1), some (.int x2), some (.int x3), some (.int (x4 + 1)), some (.int x5)], [], (zS0, R, I, J))) rfl ?_
    exact k1
  · refine zEv_k 2 (f' := (26, [some (.ref 186), some (.int x1), some (.int x2), some (.int x3), some (.int (x4 + 1)), some (.int x5)], [], (zS0, R, I, J))) rfl ?_
    exact k1
theorem b_109_79 {X : zX} {d : Nat} {R : zR} {I : zI} {J : zJ} {r : zA} {o : Nat} {x1 : Int32} {x2 : Int32} {x3 : Int32} {x4 : Int32} {x5 : Option Value} (ho : o = 180 ∨ o = 186) (k1 : zEv X d zm_109 (13, [some (.ref o), some (.int x1), some (.int x2), some (.int (x3 + 1)), some (.int x4), x5], [], (zS0, R, I, J)) r) : zEv X d zm_109 (79, [some (.ref o), some (.int x1), some (.int x2), some (.int x3), some (.int x4), x5], [], (zS0, R, I, J)) r := by
  rcases ho with rfl | rfl
  · refine zEv_k 2 (f' := (13, [some (.ref 180), some (.int x1), some (.int x2), some (.int (x3 + 1)), some (.int x4), x5], [], (zS0, R, I, J))) rfl ?_
    exact k1
  · refine zEv_k 2 (f' := (13, [some (.ref 186), some (.int x1), some (.int x2), some (.int (x3 + 1)), some (.int x4), x5], [], (zS0, R, I, J))) rfl ?_
    exact k1
theorem b_109_85 {X : zX} {d : Nat} {R : zR} {I : zI} {J : zJ} {o : Nat} {x1 : Int32} {x2 : Int32} {x3 : Int32} {x4 : Option Value} {x5 : Option Value} (ho : o = 180 ∨ o = 186) : zEv X d zm_109 (85, [some (.ref o), some (.int x1), some (.int x2), some (.int x3), x4, x5], [], (zS0, R, I, J)) (some (.int x2), (zS0, R, I, J)) := by
  rcases ho with rfl | rfl
  · refine zEv_k 1 (f' := (86, [some (.ref 180), some (.int x1), some (.int x2), some (.int x3), x4, x5], [.int x2], (zS0, R, I, J))) rfl ?_
    exact zEv_r rfl
  · refine zEv_k 1 (f' := (86, [some (.ref 186), some (.int x1), some (.int x2), some (.int x3), x4, x5], [.int x2], (zS0, R, I, J))) rfl ?_
    exact zEv_r rfl
theorem b_110_0 {X : zX} {d : Nat} {R : zR} {I : zI} {J : zJ} {r : zA} {o : Nat} {x1 : Int32} {x2 : Int32} {R' : zR} {I' : zI} {J' : zJ} (hR : zRok R) (ho : o = 180 ∨ o = 186) (h5 : zin x1 7) (h17 : zin x2 7) (h18 : zin x1 7) (h25 : zin x2 7) (hc : zEv X d zm_97 (0, [some (.ref o), none], [], (zS0, R, zu (zu I (o + 3) (x1).toNatClampNeg (I (o + 3) (x2).toNatClampNeg)) (o + 3) (x2).toNatClampNeg (I (o + 3) (x1).toNatClampNeg), J)) (none, (zS0, R', I', J'))) (k1 : zEv X (d + 1) zm_110 (30, [some (.ref o), some (.int x1), some (.int x2), some (.int (I (o + 3) (x1).toNatClampNeg))], [], (zS0, R', I', J')) r) : zEv X (d + 1) zm_110 (0, [some (.ref o), some (.int x1), some (.int x2), none], [], (zS0, R, I, J)) r := by
  rcases ho with rfl | rfl
  · refine zEv_k 1 (f' := (1, [some (.ref 180), some (.int x1), some (.int x2), none], [.ref 180], (zS0, R, I, J))) rfl ?_
    refine zEv_gr rfl rfl rfl (by decide) (hR (180) 4 (180 + 3) rfl) ?_
    refine zEv_k 1 (f' := (5, [some (.ref 180), some (.int x1), some (.int x2), none], [.int x1, .ref (180 + 3)], (zS0, R, I, J))) rfl ?_
    refine zEv_ial rfl rfl (by decide) h5 ?_
    refine zEv_k 2 (f' := (8, [some (.ref 180), some (.int x1), some (.int x2), some (.int (I (180 + 3) (x1).toNatClampNeg))], [.ref 180], (zS0, R, I, J))) rfl ?_
    refine zEv_gr rfl rfl rfl (by decide) (hR (180) 4 (180 + 3) rfl) ?_
    refine zEv_k 2 (f' := (13, [some (.ref 180), some (.int x1), some (.int x2), some (.int (I (180 + 3) (x1).toNatClampNeg))], [.ref 180, .int x1, .ref (180 + 3)], (zS0, R, I, J))) rfl ?_
    refine zEv_gr rfl rfl rfl (by decide) (hR (180) 4 (180 + 3) rfl) ?_
    refine zEv_k 1 (f' := (17, [some (.ref 180), some (.int x1), some (.int x2), some (.int (I (180 + 3) (x1).toNatClampNeg))], [.int x2, .ref (180 + 3), .int x1, .ref (180 + 3)], (zS0, R, I, J))) rfl ?_
    refine zEv_ial rfl rfl (by decide) h17 ?_
    refine zEv_ias rfl rfl (by decide) h18 ?_
    refine zEv_k 1 (f' := (20, [some (.ref 180), some (.int x1), some (.int x2), some (.int (I (180 + 3) (x1).toNatClampNeg))], [.ref 180], (zS0, R, zu I (180 + 3) (x1).toNatClampNeg (I (180 + 3) (x2).toNatClampNeg), J))) rfl ?_
    refine zEv_gr rfl rfl rfl (by decide) (hR (180) 4 (180 + 3) rfl) ?_
    refine zEv_k 2 (f' := (25, [some (.ref 180), some (.int x1), some (.int x2), some (.int (I (180 + 3) (x1).toNatClampNeg))], [.int (I (180 + 3) (x1).toNatClampNeg), .int x2, .ref (180 + 3)], (zS0, R, zu I (180 + 3) (x1).toNatClampNeg (I (180 + 3) (x2).toNatClampNeg), J))) rfl ?_
    refine zEv_ias rfl rfl (by decide) h25 ?_
    refine zEv_k 1 (f' := (27, [some (.ref 180), some (.int x1), some (.int x2), some (.int (I (180 + 3) (x1).toNatClampNeg))], [.ref 180], (zS0, R, zu (zu I (180 + 3) (x1).toNatClampNeg (I (180 + 3) (x2).toNatClampNeg)) (180 + 3) (x2).toNatClampNeg (I (180 + 3) (x1).toNatClampNeg), J))) rfl ?_
    exact zEv_c (fun _ => rfl) rfl hc rfl rfl k1
  · refine zEv_k 1 (f' := (1, [some (.ref 186), some (.int x1), some (.int x2), none], [.ref 186], (zS0, R, I, J))) rfl ?_
    refine zEv_gr rfl rfl rfl (by decide) (hR (186) 4 (186 + 3) rfl) ?_
    refine zEv_k 1 (f' := (5, [some (.ref 186), some (.int x1), some (.int x2), none], [.int x1, .ref (186 + 3)], (zS0, R, I, J))) rfl ?_
    refine zEv_ial rfl rfl (by decide) h5 ?_
    refine zEv_k 2 (f' := (8, [some (.ref 186), some (.int x1), some (.int x2), some (.int (I (186 + 3) (x1).toNatClampNeg))], [.ref 186], (zS0, R, I, J))) rfl ?_
    refine zEv_gr rfl rfl rfl (by decide) (hR (186) 4 (186 + 3) rfl) ?_
    refine zEv_k 2 (f' := (13, [some (.ref 186), some (.int x1), some (.int x2), some (.int (I (186 + 3) (x1).toNatClampNeg))], [.ref 186, .int x1, .ref (186 + 3)], (zS0, R, I, J))) rfl ?_
    refine zEv_gr rfl rfl rfl (by decide) (hR (186) 4 (186 + 3) rfl) ?_
    refine zEv_k 1 (f' := (17, [some (.ref 186), some (.int x1), some (.int x2), some (.int (I (186 + 3) (x1).toNatClampNeg))], [.int x2, .ref (186 + 3), .int x1, .ref (186 + 3)], (zS0, R, I, J))) rfl ?_
    refine zEv_ial rfl rfl (by decide) h17 ?_
    refine zEv_ias rfl rfl (by decide) h18 ?_
    refine zEv_k 1 (f' := (20, [some (.ref 186), some (.int x1), some (.int x2), some (.int (I (186 + 3) (x1).toNatClampNeg))], [.ref 186], (zS0, R, zu I (186 + 3) (x1).toNatClampNeg (I (186 + 3) (x2).toNatClampNeg), J))) rfl ?_
    refine zEv_gr rfl rfl rfl (by decide) (hR (186) 4 (186 + 3) rfl) ?_
    refine zEv_k 2 (f' := (25, [some (.ref 186), some (.int x1), some (.int x2), some (.int (I (186 + 3) (x1).toNatClampNeg))], [.int (I (186 + 3) (x1).toNatClampNeg), .int x2, .ref (186 + 3)], (zS0, R, zu I (186 + 3) (x1).toNatClampNeg (I (186 + 3) (x2).toNatClampNeg), J))) rfl ?_
    refine zEv_ias rfl rfl (by decide) h25 ?_
    refine zEv_k 1 (f' := (27, [some (.ref 186), some (.int x1), some (.int x2), some (.int (I (186 + 3) (x1).toNatClampNeg))], [.ref 186], (zS0, R, zu (zu I (186 + 3) (x1).toNatClampNeg (I (186 + 3) (x2).toNatClampNeg)) (186 + 3) (x2).toNatClampNeg (I (186 + 3) (x1).toNatClampNeg), J))) rfl ?_
    exact zEv_c (fun _ => rfl) rfl hc rfl rfl k1
theorem b_110_30 {X : zX} {d : Nat} {R : zR} {I : zI} {J : zJ} {o : Nat} {x1 : Int32} {x2 : Int32} {x3 : Int32} (ho : o = 180 ∨ o = 186) : zEv X d zm_110 (30, [some (.ref o), some (.int x1), some (.int x2), some (.int x3)], [], (zS0, R, I, J)) (none, (zS0, R, I, J)) := by
  rcases ho with rfl | rfl
  · exact zEv_r rfl
  · exact zEv_r rfl
