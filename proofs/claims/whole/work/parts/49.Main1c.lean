theorem b_133_0n {X : zX} {d : Nat} {R : zR} {I : zI} {J : zJ} {r : zA} {x1 : Int32} {x2 : Int32} {R' : zR} {I' : zI} {J' : zJ} (hR : zRok R) (hc : zEv X d zm_89 (0, [some (.ref 1), some (.int x1)], [], (zS0, R, I, J)) (some .null, (zS0, R', I', J'))) (k1 : zEv X (d + 1) zm_133 (8, [some (.ref 0), some (.int x1), some (.int x2), none], [.null], (zS0, R', I', J')) r) : zEv X (d + 1) zm_133 (0, [some (.ref 0), some (.int x1), some (.int x2), none], [], (zS0, R, I, J)) r := by
  refine zEv_k 1 (f' := (1, [some (.ref 0), some (.int x1), some (.int x2), none], [.ref 0], (zS0, R, I, J))) rfl ?_
  refine zEv_gr rfl rfl rfl (by decide) (hR (0) 0 (1) rfl) ?_
  refine zEv_k 1 (f' := (5, [some (.ref 0), some (.int x1), some (.int x2), none], [.int x1, .ref 1], (zS0, R, I, J))) rfl ?_
  exact zEv_c (fun _ => rfl) rfl hc rfl rfl k1
theorem b_133_8 {X : zX} {d : Nat} {R : zR} {I : zI} {J : zJ} {r : zA} {c : Nat} {x1 : Int32} {x2 : Int32} (ho : c = 7 ∨ c = 22) (k1 : x2 < 0 → zEv X d zm_133 (23, [some (.ref 0), some (.int x1), some (.int x2), some (.ref c)], [], (zS0, R, I, J)) r) (k2 : ¬ (x2 < 0) → zEv X d zm_133 (17, [some (.ref 0), some (.int x1), some (.int x2), some (.ref c)], [], (zS0, R, I, J)) r) : zEv X d zm_133 (8, [some (.ref 0), some (.int x1), some (.int x2), none], [.ref c], (zS0, R, I, J)) r := by
  rcases ho with rfl | rfl
  · refine zEv_k 5 (f' := (if x2 < 0 then 23 else 17, [some (.ref 0), some (.int x1), some (.int x2), some (.ref 7)], [], (zS0, R, I, J))) rfl ?_
    exact zEv_if k1 k2
  · refine zEv_k 5 (f' := (if x2 < 0 then 23 else 17, [some (.ref 0), some (.int x1), some (.int x2), some (.ref 22)], [], (zS0, R, I, J))) rfl ?_
    exact zEv_if k1 k2
theorem b_133_8n100 {X : zX} {d : Nat} {R : zR} {I : zI} {J : zJ} {r : zA} {x1 : Int32} {x2 : Int32} (k1 : zEv X d zm_133 (23, [some (.ref 0), some (.int x1), some (.int x2), some (.null)], [], (zS0, R, I, J)) r) : zEv X d zm_133 (8, [some (.ref 0), some (.int x1), some (.int x2), none], [.null], (zS0, R, I, J)) r := by
  refine zEv_k 3 (f' := (23, [some (.ref 0), some (.int x1), some (.int x2), some (.null)], [], (zS0, R, I, J))) rfl ?_
  exact k1
theorem b_133_17 {X : zX} {d : Nat} {R : zR} {I : zI} {J : zJ} {r : zA} {c : Nat} {x1 : Int32} {x2 : Int32} (ho : c = 7 ∨ c = 22) (k1 : x2 ≤ 50 → zEv X d zm_133 (25, [some (.ref 0), some (.int x1), some (.int x2), some (.ref c)], [], (zS0, R, I, J)) r) (k2 : ¬ (x2 ≤ 50) → zEv X d zm_133 (23, [some (.ref 0), some (.int x1), some (.int x2), some (.ref c)], [], (zS0, R, I, J)) r) : zEv X d zm_133 (17, [some (.ref 0), some (.int x1), some (.int x2), some (.ref c)], [], (zS0, R, I, J)) r := by
  rcases ho with rfl | rfl
  · refine zEv_k 3 (f' := (if x2 ≤ 50 then 25 else 23, [some (.ref 0), some (.int x1), some (.int x2), some (.ref 7)], [], (zS0, R, I, J))) rfl ?_
    exact zEv_if k1 k2
  · refine zEv_k 3 (f' := (if x2 ≤ 50 then 25 else 23, [some (.ref 0), some (.int x1), some (.int x2), some (.ref 22)], [], (zS0, R, I, J))) rfl ?_
    exact zEv_if k1 k2
theorem b_133_23 {X : zX} {d : Nat} {R : zR} {I : zI} {J : zJ} {c : Nat} {x1 : Int32} {x2 : Int32} (ho : c = 7 ∨ c = 22) : zEv X d zm_133 (23, [some (.ref 0), some (.int x1), some (.int x2), some (.ref c)], [], (zS0, R, I, J)) (some (.int (-1)), (zS0, R, I, J)) := by
  rcases ho with rfl | rfl
  · refine zEv_k 1 (f' := (24, [some (.ref 0), some (.int x1), some (.int x2), some (.ref 7)], [.int (-1)], (zS0, R, I, J))) rfl ?_
    exact zEv_r rfl
  · refine zEv_k 1 (f' := (24, [some (.ref 0), some (.int x1), some (.int x2), some (.ref 22)], [.int (-1)], (zS0, R, I, J))) rfl ?_
    exact zEv_r rfl
theorem b_133_23n3 {X : zX} {d : Nat} {R : zR} {I : zI} {J : zJ} {x1 : Int32} {x2 : Int32} : zEv X d zm_133 (23, [some (.ref 0), some (.int x1), some (.int x2), some (.null)], [], (zS0, R, I, J)) (some (.int (-1)), (zS0, R, I, J)) := by
  refine zEv_k 1 (f' := (24, [some (.ref 0), some (.int x1), some (.int x2), some (.null)], [.int (-1)], (zS0, R, I, J))) rfl ?_
  exact zEv_r rfl
theorem b_133_25 {X : zX} {d : Nat} {R : zR} {I : zI} {J : zJ} {r : zA} {c : Nat} {x1 : Int32} {x2 : Int32} {w : Int32} {R' : zR} {I' : zI} {J' : zJ} (ho : c = 7 ∨ c = 22) (hc : zEv X d zm_274 (0, [some (.ref c), some (.int x2), none, none], [], (zS0, R, I, J)) (some (.int w), (zS0, R', I', J'))) (k1 : zEv X (d + 1) zm_133 (30, [some (.ref 0), some (.int x1), some (.int x2), some (.ref c)], [.int w], (zS0, R', I', J')) r) : zEv X (d + 1) zm_133 (25, [some (.ref 0), some (.int x1), some (.int x2), some (.ref c)], [], (zS0, R, I, J)) r := by
  rcases ho with rfl | rfl
  · refine zEv_k 2 (f' := (27, [some (.ref 0), some (.int x1), some (.int x2), some (.ref 7)], [.int x2, .ref 7], (zS0, R, I, J))) rfl ?_
    exact zEv_c (fun _ => rfl) rfl hc rfl rfl k1
  · refine zEv_k 2 (f' := (27, [some (.ref 0), some (.int x1), some (.int x2), some (.ref 22)], [.int x2, .ref 22], (zS0, R, I, J))) rfl ?_
    exact zEv_c (fun _ => rfl) rfl hc rfl rfl k1
theorem b_133_30 {X : zX} {d : Nat} {R : zR} {I : zI} {J : zJ} {c : Nat} {x1 : Int32} {x2 : Int32} {s0 : Int32} (ho : c = 7 ∨ c = 22) : zEv X d zm_133 (30, [some (.ref 0), some (.int x1), some (.int x2), some (.ref c)], [.int s0], (zS0, R, I, J)) (some (.int s0), (zS0, R, I, J)) := by
  rcases ho with rfl | rfl
  · exact zEv_r rfl
  · exact zEv_r rfl
theorem b_134_0r {X : zX} {d : Nat} {R : zR} {I : zI} {J : zJ} {r : zA} {c : Nat} {x1 : Int32} {x2 : Int32} {R' : zR} {I' : zI} {J' : zJ} (hR : zRok R) (ho : c = 7 ∨ c = 22) (hc : zEv X d zm_89 (0, [some (.ref 1), some (.int x1)], [], (zS0, R, I, J)) (some (.ref c), (zS0, R', I', J'))) (k1 : zEv X (d + 1) zm_134 (8, [some (.ref 0), some (.int x1), some (.int x2), none], [.ref c], (zS0, R', I', J')) r) : zEv X (d + 1) zm_134 (0, [some (.ref 0), some (.int x1), some (.int x2), none], [], (zS0, R, I, J)) r := by
  rcases ho with rfl | rfl
  · refine zEv_k 1 (f' := (1, [some (.ref 0), some (.int x1), some (.int x2), none], [.ref 0], (zS0, R, I, J))) rfl ?_
    refine zEv_gr rfl rfl rfl (by decide) (hR (0) 0 (1) rfl) ?_
    refine zEv_k 1 (f' := (5, [some (.ref 0), some (.int x1), some (.int x2), none], [.int x1, .ref 1], (zS0, R, I, J))) rfl ?_
    exact zEv_c (fun _ => rfl) rfl hc rfl rfl k1
  · refine zEv_k 1 (f' := (1, [some (.ref 0), some (.int x1), some (.int x2), none], [.ref 0], (zS0, R, I, J))) rfl ?_
    refine zEv_gr rfl rfl rfl (by decide) (hR (0) 0 (1) rfl) ?_
    refine zEv_k 1 (f' := (5, [some (.ref 0), some (.int x1), some (.int x2), none], [.int x1, .ref 1], (zS0, R, I, J))) rfl ?_
    exact zEv_c (fun _ => rfl) rfl hc rfl rfl k1
theorem b_134_0n {X : zX} {d : Nat} {R : zR} {I : zI} {J : zJ} {r : zA} {x1 : Int32} {x2 : Int32} {R' : zR} {I' : zI} {J' : zJ} (hR : zRok R) (hc : zEv X d zm_89 (0, [some (.ref 1), some (.int x1)], [], (zS0, R, I, J)) (some .null, (zS0, R', I', J'))) (k1 : zEv X (d + 1) zm_134 (8, [some (.ref 0), some (.int x1), some (.int x2), none], [.null], (zS0, R', I', J')) r) : zEv X (d + 1) zm_134 (0, [some (.ref 0), some (.int x1), some (.int x2), none], [], (zS0, R, I, J)) r := by
  refine zEv_k 1 (f' := (1, [some (.ref 0), some (.int x1), some (.int x2), none], [.ref 0], (zS0, R, I, J))) rfl ?_
  refine zEv_gr rfl rfl rfl (by decide) (hR (0) 0 (1) rfl) ?_
  refine zEv_k 1 (f' := (5, [some (.ref 0), some (.int x1), some (.int x2), none], [.int x1, .ref 1], (zS0, R, I, J))) rfl ?_
  exact zEv_c (fun _ => rfl) rfl hc rfl rfl k1
theorem b_134_8 {X : zX} {d : Nat} {R : zR} {I : zI} {J : zJ} {r : zA} {c : Nat} {x1 : Int32} {x2 : Int32} (ho : c = 7 ∨ c = 22) (k1 : x2 < 1 → zEv X d zm_134 (24, [some (.ref 0), some (.int x1), some (.int x2), some (.ref c)], [], (zS0, R, I, J)) r) (k2 : ¬ (x2 < 1) → zEv X d zm_134 (18, [some (.ref 0), some (.int x1), some (.int x2), some (.ref c)], [], (zS0, R, I, J)) r) : zEv X d zm_134 (8, [some (.ref 0), some (.int x1), some (.int x2), none], [.ref c], (zS0, R, I, J)) r := by
  rcases ho with rfl | rfl
  · refine zEv_k 6 (f' := (if x2 < 1 then 24 else 18, [some (.ref 0), some (.int x1), some (.int x2), some (.ref 7)], [], (zS0, R, I, J))) rfl ?_
    exact zEv_if k1 k2
  · refine zEv_k 6 (f' := (if x2 < 1 then 24 else 18, [some (.ref 0), some (.int x1), some (.int x2), some (.ref 22)], [], (zS0, R, I, J))) rfl ?_
    exact zEv_if k1 k2
theorem b_134_8n100 {X : zX} {d : Nat} {R : zR} {I : zI} {J : zJ} {r : zA} {x1 : Int32} {x2 : Int32} (k1 : zEv X d zm_134 (24, [some (.ref 0), some (.int x1), some (.int x2), some (.null)], [], (zS0, R, I, J)) r) : zEv X d zm_134 (8, [some (.ref 0), some (.int x1), some (.int x2), none], [.null], (zS0, R, I, J)) r := by
  refine zEv_k 3 (f' := (24, [some (.ref 0), some (.int x1), some (.int x2), some (.null)], [], (zS0, R, I, J))) rfl ?_
  exact k1
theorem b_134_18 {X : zX} {d : Nat} {R : zR} {I : zI} {J : zJ} {r : zA} {c : Nat} {x1 : Int32} {x2 : Int32} (ho : c = 7 ∨ c = 22) (k1 : x2 ≤ 50 → zEv X d zm_134 (26, [some (.ref 0), some (.int x1), some (.int x2), some (.ref c)], [], (zS0, R, I, J)) r) (k2 : ¬ (x2 ≤ 50) → zEv X d zm_134 (24, [some (.ref 0), some (.int x1), some (.int x2), some (.ref c)], [], (zS0, R, I, J)) r) : zEv X d zm_134 (18, [some (.ref 0), some (.int x1), some (.int x2), some (.ref c)], [], (zS0, R, I, J)) r := by
  rcases ho with rfl | rfl
  · refine zEv_k 3 (f' := (if x2 ≤ 50 then 26 else 24, [some (.ref 0), some (.int x1), some (.int x2), some (.ref 7)], [], (zS0, R, I, J))) rfl ?_
    exact zEv_if k1 k2
  · refine zEv_k 3 (f' := (if x2 ≤ 50 then 26 else 24, [some (.ref 0), some (.int x1), some (.int x2), some (.ref 22)], [], (zS0, R, I, J))) rfl ?_
    exact zEv_if k1 k2
theorem b_134_24 {X : zX} {d : Nat} {R : zR} {I : zI} {J : zJ} {c : Nat} {x1 : Int32} {x2 : Int32} (ho : c = 7 ∨ c = 22) : zEv X d zm_134 (24, [some (.ref 0), some (.int x1), some (.int x2), some (.ref c)], [], (zS0, R, I, J)) (some (.int (-1)), (zS0, R, I, J)) := by
  rcases ho with rfl | rfl
  · refine zEv_k 1 (f' := (25, [some (.ref 0), some (.int x1), some (.int x2), some (.ref 7)], [.int (-1)], (zS0, R, I, J))) rfl ?_
    exact zEv_r rfl
  · refine zEv_k 1 (f' := (25, [some (.ref 0), some (.int x1), some (.int x2), some (.ref 22)], [.int (-1)], (zS0, R, I, J))) rfl ?_
    exact zEv_r rfl
theorem b_134_24n3 {X : zX} {d : Nat} {R : zR} {I : zI} {J : zJ} {x1 : Int32} {x2 : Int32} : zEv X d zm_134 (24, [some (.ref 0), some (.int x1), some (.int x2), some (.null)], [], (zS0, R, I, J)) (some (.int (-1)), (zS0, R, I, J)) := by
  refine zEv_k 1 (f' := (25, [some (.ref 0), some (.int x1), some (.int x2), some (.null)], [.int (-1)], (zS0, R, I, J))) rfl ?_
  exact zEv_r rfl
theorem b_134_26 {X : zX} {d : Nat} {R : zR} {I : zI} {J : zJ} {r : zA} {c : Nat} {x1 : Int32} {x2 : Int32} {R' : zR} {I' : zI} {J' : zJ} (hR : zRok R) (ho : c = 7 ∨ c = 22) (hc : zEv X d zm_70 (0, [some (.ref 166), some (.ref c), none], [], (zS0, R, I, J)) (none, (zS0, R', I', J'))) (k1 : zEv X (d + 1) zm_134 (34, [some (.ref 0), some (.int x1), some (.int x2), some (.ref c)], [], (zS0, R', I', J')) r) : zEv X (d + 1) zm_134 (26, [some (.ref 0), some (.int x1), some (.int x2), some (.ref c)], [], (zS0, R, I, J)) r := by
  rcases ho with rfl | rfl
  · refine zEv_k 1 (f' := (27, [some (.ref 0), some (.int x1), some (.int x2), some (.ref 7)], [.ref 0], (zS0, R, I, J))) rfl ?_
    refine zEv_gr rfl rfl rfl (by decide) (hR (0) 4 (166) rfl) ?_
    refine zEv_k 1 (f' := (31, [some (.ref 0), some (.int x1), some (.int x2), some (.ref 7)], [.ref 7, .ref 166], (zS0, R, I, J))) rfl ?_
    exact zEv_c (fun _ => rfl) rfl hc rfl rfl k1
  · refine zEv_k 1 (f' := (27, [some (.ref 0), some (.int x1), some (.int x2), some (.ref 22)], [.ref 0], (zS0, R, I, J))) rfl ?_
    refine zEv_gr rfl rfl rfl (by decide) (hR (0) 4 (166) rfl) ?_
    refine zEv_k 1 (f' := (31, [some (.ref 0), some (.int x1), some (.int x2), some (.ref 22)], [.ref 22, .ref 166], (zS0, R, I, J))) rfl ?_
    exact zEv_c (fun _ => rfl) rfl hc rfl rfl k1
theorem b_134_34 {X : zX} {d : Nat} {R : zR} {I : zI} {J : zJ} {r : zA} {c : Nat} {x1 : Int32} {x2 : Int32} {R' : zR} {I' : zI} {J' : zJ} (hR : zRok R) (ho : c = 7 ∨ c = 22) (hc : zEv X d zm_73 (0, [some (.ref 166), some (.int x2), none], [], (zS0, R, I, J)) (none, (zS0, R', I', J'))) (k1 : zEv X (d + 1) zm_134 (42, [some (.ref 0), some (.int x1), some (.int x2), some (.ref c)], [], (zS0, R', I', J')) r) : zEv X (d + 1) zm_134 (34, [some (.ref 0), some (.int x1), some (.int x2), some (.ref c)], [], (zS0, R, I, J)) r := by
  rcases ho with rfl | rfl
  · refine zEv_k 1 (f' := (35, [some (.ref 0), some (.int x1), some (.int x2), some (.ref 7)], [.ref 0], (zS0, R, I, J))) rfl ?_
    refine zEv_gr rfl rfl rfl (by decide) (hR (0) 4 (166) rfl) ?_
    refine zEv_k 1 (f' := (39, [some (.ref 0), some (.int x1), some (.int x2), some (.ref 7)], [.int x2, .ref 166], (zS0, R, I, J))) rfl ?_
    exact zEv_c (fun _ => rfl) rfl hc rfl rfl k1
  · refine zEv_k 1 (f' := (35, [some (.ref 0), some (.int x1), some (.int x2), some (.ref 22)], [.ref 0], (zS0, R, I, J))) rfl ?_
    refine zEv_gr rfl rfl rfl (by decide) (hR (0) 4 (166) rfl) ?_
    refine zEv_k 1 (f' := (39, [some (.ref 0), some (.int x1), some (.int x2), some (.ref 22)], [.int x2, .ref 166], (zS0, R, I, J))) rfl ?_
    exact zEv_c (fun _ => rfl) rfl hc rfl rfl k1
theorem b_134_42 {X : zX} {d : Nat} {R : zR} {I : zI} {J : zJ} {c : Nat} {x1 : Int32} {x2 : Int32} (hR : zRok R) (ho : c = 7 ∨ c = 22) (h50 : zin x2 51) : zEv X d zm_134 (42, [some (.ref 0), some (.int x1), some (.int x2), some (.ref c)], [], (zS0, R, I, J)) (some (.int (I 167 (x2).toNatClampNeg)), (zS0, R, I, J)) := by
  rcases ho with rfl | rfl
  · refine zEv_k 1 (f' := (43, [some (.ref 0), some (.int x1), some (.int x2), some (.ref 7)], [.ref 0], (zS0, R, I, J))) rfl ?_
    refine zEv_gr rfl rfl rfl (by decide) (hR (0) 4 (166) rfl) ?_
    refine zEv_gr rfl rfl rfl (by decide) (hR (166) 5 (167) rfl) ?_
    refine zEv_k 1 (f' := (50, [some (.ref 0), some (.int x1), some (.int x2), some (.ref 7)], [.int x2, .ref 167], (zS0, R, I, J))) rfl ?_
    refine zEv_ial rfl rfl (by decide) h50 ?_
    exact zEv_r rfl
  · refine zEv_k 1 (f' := (43, [some (.ref 0), some (.int x1), some (.int x2), some (.ref 22)], [.ref 0], (zS0, R, I, J))) rfl ?_
    refine zEv_gr rfl rfl rfl (by decide) (hR (0) 4 (166) rfl) ?_
    refine zEv_gr rfl rfl rfl (by decide) (hR (166) 5 (167) rfl) ?_
    refine zEv_k 1 (f' := (50, [some (.ref 0), some (.int x1), some (.int x2), some (.ref 22)], [.int x2, .ref 167], (zS0, R, I, J))) rfl ?_
    refine zEv_ial rfl rfl (by decide) h50 ?_
    exact zEv_r rfl
theorem b_135_0r {X : zX} {d : Nat} {R : zR} {I : zI} {J : zJ} {r : zA} {c : Nat} {x1 : Int32} {x2 : Int32} {x3 : Int32} {R' : zR} {I' : zI} {J' : zJ} (hR : zRok R) (ho : c = 7 ∨ c = 22) (hc : zEv X d zm_89 (0, [some (.ref 1), some (.int x1)], [], (zS0, R, I, J)) (some (.ref c), (zS0, R', I', J'))) (k1 : zEv X (d + 1) zm_135 (8, [some (.ref 0), some (.int x1), some (.int x2), some (.int x3), none, none], [.ref c], (zS0, R', I', J')) r) : zEv X (d + 1) zm_135 (0, [some (.ref 0), some (.int x1), some (.int x2), some (.int x3), none, none], [], (zS0, R, I, J)) r := by
  rcases ho with rfl | rfl
  · refine zEv_k 1 (f' := (1, [some (.ref 0), some (.int x1), some (.int x2), some (.int x3), none, none], [.ref 0], (zS0, R, I, J))) rfl ?_
    refine zEv_gr rfl rfl rfl (by decide) (hR (0) 0 (1) rfl) ?_
    refine zEv_k 1 (f' := (5, [some (.ref 0), some (.int x1), some (.int x2), some (.int x3), none, none], [.int x1, .ref 1], (zS0, R, I, J))) rfl ?_
    exact zEv_c (fun _ => rfl) rfl hc rfl rfl k1
  · refine zEv_k 1 (f' := (1, [some (.ref 0), some (.int x1), some (.int x2), some (.int x3), none, none], [.ref 0], (zS0, R, I, J))) rfl ?_
    refine zEv_gr rfl rfl rfl (by decide) (hR (0) 0 (1) rfl) ?_
    refine zEv_k 1 (f' := (5, [some (.ref 0), some (.int x1), some (.int x2), some (.int x3), none, none], [.int x1, .ref 1], (zS0, R, I, J))) rfl ?_
    exact zEv_c (fun _ => rfl) rfl hc rfl rfl k1
theorem b_135_0n {X : zX} {d : Nat} {R : zR} {I : zI} {J : zJ} {r : zA} {x1 : Int32} {x2 : Int32} {x3 : Int32} {R' : zR} {I' : zI} {J' : zJ} (hR : zRok R) (hc : zEv X d zm_89 (0, [some (.ref 1), some (.int x1)], [], (zS0, R, I, J)) (some .null, (zS0, R', I', J'))) (k1 : zEv X (d + 1) zm_135 (8, [some (.ref 0), some (.int x1), some (.int x2), some (.int x3), none, none], [.null], (zS0, R', I', J')) r) : zEv X (d + 1) zm_135 (0, [some (.ref 0), some (.int x1), some (.int x2), some (.int x3), none, none], [], (zS0, R, I, J)) r := by
  refine zEv_k 1 (f' := (1, [some (.ref 0), some (.int x1), some (.int x2), some (.int x3), none, none], [.ref 0], (zS0, R, I, J))) rfl ?_
  refine zEv_gr rfl rfl rfl (by decide) (hR (0) 0 (1) rfl) ?_
  refine zEv_k 1 (f' := (5, [some (.ref 0), some (.int x1), some (.int x2), some (.int x3), none, none], [.int x1, .ref 1], (zS0, R, I, J))) rfl ?_
  exact zEv_c (fun _ => rfl) rfl hc rfl rfl k1
theorem b_135_8 {X : zX} {d : Nat} {R : zR} {I : zI} {J : zJ} {r : zA} {c : Nat} {x1 : Int32} {x2 : Int32} {x3 : Int32} (ho : c = 7 ∨ c = 22) (k1 : x2 < 0 → zEv X d zm_135 (25, [some (.ref 0), some (.int x1), some (.int x2), some (.int x3), some (.ref c), none], [], (zS0, R, I, J)) r) (k2 : ¬ (x2 < 0) → zEv X d zm_135 (19, [some (.ref 0), some (.int x1), some (.int x2), some (.int x3), some (.ref c), none], [], (zS0, R, I, J)) r) : zEv X d zm_135 (8, [some (.ref 0), some (.int x1), some (.int x2), some (.int x3), none, none], [.ref c], (zS0, R, I, J)) r := by
  rcases ho with rfl | rfl
  · refine zEv_k 5 (f' := (if x2 < 0 then 25 else 19, [some (.ref 0), some (.int x1), some (.int x2), some (.int x3), some (.ref 7), none], [], (zS0, R, I, J))) rfl ?_
    exact zEv_if k1 k2
  · refine zEv_k 5 (f' := (if x2 < 0 then 25 else 19, [some (.ref 0), some (.int x1), some (.int x2), some (.int x3), some (.ref 22), none], [], (zS0, R, I, J))) rfl ?_
    exact zEv_if k1 k2
theorem b_135_8n100 {X : zX} {d : Nat} {R : zR} {I : zI} {J : zJ} {r : zA} {x1 : Int32} {x2 : Int32} {x3 : Int32} (k1 : zEv X d zm_135 (25, [some (.ref 0), some (.int x1), some (.int x2), some (.int x3), some (.null), none], [], (zS0, R, I, J)) r) : zEv X d zm_135 (8, [some (.ref 0), some (.int x1), some (.int x2), some (.int x3), none, none], [.null], (zS0, R, I, J)) r := by
  refine zEv_k 3 (f' := (25, [some (.ref 0), some (.int x1), some (.int x2), some (.int x3), some (.null), none], [], (zS0, R, I, J))) rfl ?_
  exact k1
theorem b_135_19 {X : zX} {d : Nat} {R : zR} {I : zI} {J : zJ} {r : zA} {c : Nat} {x1 : Int32} {x2 : Int32} {x3 : Int32} (ho : c = 7 ∨ c = 22) (k1 : x2 ≤ 7 → zEv X d zm_135 (27, [some (.ref 0), some (.int x1), some (.int x2), some (.int x3), some (.ref c), none], [], (zS0, R, I, J)) r) (k2 : ¬ (x2 ≤ 7) → zEv X d zm_135 (25, [some (.ref 0), some (.int x1), some (.int x2), some (.int x3), some (.ref c), none], [], (zS0, R, I, J)) r) : zEv X d zm_135 (19, [some (.ref 0), some (.int x1), some (.int x2), some (.int x3), some (.ref c), none], [], (zS0, R, I, J)) r := by
  rcases ho with rfl | rfl
  · refine zEv_k 3 (f' := (if x2 ≤ 7 then 27 else 25, [some (.ref 0), some (.int x1), some (.int x2), some (.int x3), some (.ref 7), none], [], (zS0, R, I, J))) rfl ?_
    exact zEv_if k1 k2
  · refine zEv_k 3 (f' := (if x2 ≤ 7 then 27 else 25, [some (.ref 0), some (.int x1), some (.int x2), some (.int x3), some (.ref 22), none], [], (zS0, R, I, J))) rfl ?_
    exact zEv_if k1 k2
theorem b_135_25 {X : zX} {d : Nat} {R : zR} {I : zI} {J : zJ} {c : Nat} {x1 : Int32} {x2 : Int32} {x3 : Int32} (ho : c = 7 ∨ c = 22) : zEv X d zm_135 (25, [some (.ref 0), some (.int x1), some (.int x2), some (.int x3), some (.ref c), none], [], (zS0, R, I, J)) (some (.int (-1)), (zS0, R, I, J)) := by
  rcases ho with rfl | rfl
  · refine zEv_k 1 (f' := (26, [some (.ref 0), some (.int x1), some (.int x2), some (.int x3), some (.ref 7), none], [.int (-1)], (zS0, R, I, J))) rfl ?_
    exact zEv_r rfl
  · refine zEv_k 1 (f' := (26, [some (.ref 0), some (.int x1), some (.int x2), some (.int x3), some (.ref 22), none], [.int (-1)], (zS0, R, I, J))) rfl ?_
    exact zEv_r rfl
theorem b_135_25n4 {X : zX} {d : Nat} {R : zR} {I : zI} {J : zJ} {x1 : Int32} {x2 : Int32} {x3 : Int32} : zEv X d zm_135 (25, [some (.ref 0), some (.int x1), some (.int x2), some (.int x3), some (.null), none], [], (zS0, R, I, J)) (some (.int (-1)), (zS0, R, I, J)) := by
  refine zEv_k 1 (f' := (26, [some (.ref 0), some (.int x1), some (.int x2), some (.int x3), some (.null), none], [.int (-1)], (zS0, R, I, J))) rfl ?_
  exact zEv_r rfl
theorem b_135_27 {X : zX} {d : Nat} {R : zR} {I : zI} {J : zJ} {r : zA} {c : Nat} {x1 : Int32} {x2 : Int32} {x3 : Int32} {w : Int32} {R' : zR} {I' : zI} {J' : zJ} (ho : c = 7 ∨ c = 22) (hc : zEv X d zm_284 (0, [some (.ref c), some (.int x2), none, none, none, none], [], (zS0, R, I, J)) (some (.int w), (zS0, R', I', J'))) (k1 : zEv X (d + 1) zm_135 (33, [some (.ref 0), some (.int x1), some (.int x2), some (.int x3), some (.ref c), none], [.int w], (zS0, R', I', J')) r) : zEv X (d + 1) zm_135 (27, [some (.ref 0), some (.int x1), some (.int x2), some (.int x3), some (.ref c), none], [], (zS0, R, I, J)) r := by
  rcases ho with rfl | rfl
  · refine zEv_k 2 (f' := (30, [some (.ref 0), some (.int x1), some (.int x2), some (.int x3), some (.ref 7), none], [.int x2, .ref 7], (zS0, R, I, J))) rfl ?_
    exact zEv_c (fun _ => rfl) rfl hc rfl rfl k1
  · refine zEv_k 2 (f' := (30, [some (.ref 0), some (.int x1), some (.int x2), some (.int x3), some (.ref 22), none], [.int x2, .ref 22], (zS0, R, I, J))) rfl ?_
    exact zEv_c (fun _ => rfl) rfl hc rfl rfl k1
