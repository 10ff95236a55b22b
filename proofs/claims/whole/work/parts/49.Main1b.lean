theorem b_124_0n {X : zX} {d : Nat} {R : zR} {I : zI} {J : zJ} {r : zA} {x1 : Int32} {x2 : Int32} {R' : zR} {I' : zI} {J' : zJ} (hR : zRok R) (hc : zEv X d zm_89 (0, [some (.ref 1), some (.int x1)], [], (zS0, R, I, J)) (some .null, (zS0, R', I', J'))) (k1 : zEv X (d + 1) zm_124 (8, [some (.ref 0), some (.int x1), some (.int x2), none], [.null], (zS0, R', I', J')) r) : zEv X (d + 1) zm_124 (0, [some (.ref 0), some (.int x1), some (.int x2), none], [], (zS0, R, I, J)) r := by
  refine zEv_k 1 (f' := (1, [some (.ref 0), some (.int x1), some (.int x2), none], [.ref 0], (zS0, R, I, J))) rfl ?_
  refine zEv_gr rfl rfl rfl (by decide) (hR (0) 0 (1) rfl) ?_
  refine zEv_k 1 (f' := (5, [some (.ref 0), some (.int x1), some (.int x2), none], [.int x1, .ref 1], (zS0, R, I, J))) rfl ?_
  exact zEv_c (fun _ => rfl) rfl hc rfl rfl k1
theorem b_124_8 {X : zX} {d : Nat} {R : zR} {I : zI} {J : zJ} {r : zA} {c : Nat} {x1 : Int32} {x2 : Int32} {R' : zR} {I' : zI} {J' : zJ} (hR : zRok R) (ho : c = 7 ∨ c = 22) (hc : zEv X d zm_45 (0, [some (.ref 192), some (.ref c), some (.int 1), none, none, none, none], [], (zS0, R, I, J)) (none, (zS0, R', I', J'))) (k1 : zEv X (d + 1) zm_124 (24, [some (.ref 0), some (.int x1), some (.int x2), some (.ref c)], [], (zS0, R', I', J')) r) : zEv X (d + 1) zm_124 (8, [some (.ref 0), some (.int x1), some (.int x2), none], [.ref c], (zS0, R, I, J)) r := by
  rcases ho with rfl | rfl
  · refine zEv_k 4 (f' := (16, [some (.ref 0), some (.int x1), some (.int x2), some (.ref 7)], [.ref 0], (zS0, R, I, J))) rfl ?_
    refine zEv_gr rfl rfl rfl (by decide) (hR (0) 7 (192) rfl) ?_
    refine zEv_k 2 (f' := (21, [some (.ref 0), some (.int x1), some (.int x2), some (.ref 7)], [.int 1, .ref 7, .ref 192], (zS0, R, I, J))) rfl ?_
    exact zEv_c (fun _ => rfl) rfl hc rfl rfl k1
  · refine zEv_k 4 (f' := (16, [some (.ref 0), some (.int x1), some (.int x2), some (.ref 22)], [.ref 0], (zS0, R, I, J))) rfl ?_
    refine zEv_gr rfl rfl rfl (by decide) (hR (0) 7 (192) rfl) ?_
    refine zEv_k 2 (f' := (21, [some (.ref 0), some (.int x1), some (.int x2), some (.ref 22)], [.int 1, .ref 22, .ref 192], (zS0, R, I, J))) rfl ?_
    exact zEv_c (fun _ => rfl) rfl hc rfl rfl k1
theorem b_124_8n100 {X : zX} {d : Nat} {R : zR} {I : zI} {J : zJ} {x1 : Int32} {x2 : Int32} : zEv X d zm_124 (8, [some (.ref 0), some (.int x1), some (.int x2), none], [.null], (zS0, R, I, J)) (some (.int (-1)), (zS0, R, I, J)) := by
  refine zEv_k 4 (f' := (14, [some (.ref 0), some (.int x1), some (.int x2), some (.null)], [.int (-1)], (zS0, R, I, J))) rfl ?_
  exact zEv_r rfl
theorem b_124_24 {X : zX} {d : Nat} {R : zR} {I : zI} {J : zJ} {r : zA} {c : Nat} {x1 : Int32} {x2 : Int32} {w : Int32} {R' : zR} {I' : zI} {J' : zJ} (hR : zRok R) (ho : c = 7 ∨ c = 22) (hc : zEv X d zm_40 (0, [some (.ref 192), some (.int x2)], [], (zS0, R, I, J)) (some (.int w), (zS0, R', I', J'))) (k1 : zEv X (d + 1) zm_124 (32, [some (.ref 0), some (.int x1), some (.int x2), some (.ref c)], [.int w], (zS0, R', I', J')) r) : zEv X (d + 1) zm_124 (24, [some (.ref 0), some (.int x1), some (.int x2), some (.ref c)], [], (zS0, R, I, J)) r := by
  rcases ho with rfl | rfl
  · refine zEv_k 1 (f' := (25, [some (.ref 0), some (.int x1), some (.int x2), some (.ref 7)], [.ref 0], (zS0, R, I, J))) rfl ?_
    refine zEv_gr rfl rfl rfl (by decide) (hR (0) 7 (192) rfl) ?_
    refine zEv_k 1 (f' := (29, [some (.ref 0), some (.int x1), some (.int x2), some (.ref 7)], [.int x2, .ref 192], (zS0, R, I, J))) rfl ?_
    exact zEv_c (fun _ => rfl) rfl hc rfl rfl k1
  · refine zEv_k 1 (f' := (25, [some (.ref 0), some (.int x1), some (.int x2), some (.ref 22)], [.ref 0], (zS0, R, I, J))) rfl ?_
    refine zEv_gr rfl rfl rfl (by decide) (hR (0) 7 (192) rfl) ?_
    refine zEv_k 1 (f' := (29, [some (.ref 0), some (.int x1), some (.int x2), some (.ref 22)], [.int x2, .ref 192], (zS0, R, I, J))) rfl ?_
    exact zEv_c (fun _ => rfl) rfl hc rfl rfl k1
theorem b_124_32 {X : zX} {d : Nat} {R : zR} {I : zI} {J : zJ} {c : Nat} {x1 : Int32} {x2 : Int32} {s0 : Int32} (ho : c = 7 ∨ c = 22) : zEv X d zm_124 (32, [some (.ref 0), some (.int x1), some (.int x2), some (.ref c)], [.int s0], (zS0, R, I, J)) (some (.int s0), (zS0, R, I, J)) := by
  rcases ho with rfl | rfl
  · exact zEv_r rfl
  · exact zEv_r rfl
theorem b_125_0r {X : zX} {d : Nat} {R : zR} {I : zI} {J : zJ} {r : zA} {c : Nat} {x1 : Int32} {x2 : Int32} {R' : zR} {I' : zI} {J' : zJ} (hR : zRok R) (ho : c = 7 ∨ c = 22) (hc : zEv X d zm_89 (0, [some (.ref 1), some (.int x1)], [], (zS0, R, I, J)) (some (.ref c), (zS0, R', I', J'))) (k1 : zEv X (d + 1) zm_125 (8, [some (.ref 0), some (.int x1), some (.int x2), none], [.ref c], (zS0, R', I', J')) r) : zEv X (d + 1) zm_125 (0, [some (.ref 0), some (.int x1), some (.int x2), none], [], (zS0, R, I, J)) r := by
  rcases ho with rfl | rfl
  · refine zEv_k 1 (f' := (1, [some (.ref 0), some (.int x1), some (.int x2), none], [.ref 0], (zS0, R, I, J))) rfl ?_
    refine zEv_gr rfl rfl rfl (by decide) (hR (0) 0 (1) rfl) ?_
    refine zEv_k 1 (f' := (5, [some (.ref 0), some (.int x1), some (.int x2), none], [.int x1, .ref 1], (zS0, R, I, J))) rfl ?_
    exact zEv_c (fun _ => rfl) rfl hc rfl rfl k1
  · refine zEv_k 1 (f' := (1, [some (.ref 0), some (.int x1), some (.int x2), none], [.ref 0], (zS0, R, I, J))) rfl ?_
    refine zEv_gr rfl rfl rfl (by decide) (hR (0) 0 (1) rfl) ?_
    refine zEv_k 1 (f' := (5, [some (.ref 0), some (.int x1), some (.int x2), none], [.int x1, .ref 1], (zS0, R, I, J))) rfl ?_
    exact zEv_c (fun _ => rfl) rfl hc rfl rfl k1
theorem b_125_0n {X : zX} {d : Nat} {R : zR} {I : zI} {J : zJ} {r : zA} {x1 : Int32} {x2 : Int32} {R' : zR} {I' : zI} {J' : zJ} (hR : zRok R) (hc : zEv X d zm_89 (0, [some (.ref 1), some (.int x1)], [], (zS0, R, I, J)) (some .null, (zS0, R', I', J'))) (k1 : zEv X (d + 1) zm_125 (8, [some (.ref 0), some (.int x1), some (.int x2), none], [.null], (zS0, R', I', J')) r) : zEv X (d + 1) zm_125 (0, [some (.ref 0), some (.int x1), some (.int x2), none], [], (zS0, R, I, J)) r := by
  refine zEv_k 1 (f' := (1, [some (.ref 0), some (.int x1), some (.int x2), none], [.ref 0], (zS0, R, I, J))) rfl ?_
  refine zEv_gr rfl rfl rfl (by decide) (hR (0) 0 (1) rfl) ?_
  refine zEv_k 1 (f' := (5, [some (.ref 0), some (.int x1), some (.int x2), none], [.int x1, .ref 1], (zS0, R, I, J))) rfl ?_
  exact zEv_c (fun _ => rfl) rfl hc rfl rfl k1
theorem b_125_8 {X : zX} {d : Nat} {R : zR} {I : zI} {J : zJ} {r : zA} {c : Nat} {x1 : Int32} {x2 : Int32} {R' : zR} {I' : zI} {J' : zJ} (hR : zRok R) (ho : c = 7 ∨ c = 22) (hc : zEv X d zm_45 (0, [some (.ref 192), some (.ref c), some (.int 0), none, none, none, none], [], (zS0, R, I, J)) (none, (zS0, R', I', J'))) (k1 : zEv X (d + 1) zm_125 (24, [some (.ref 0), some (.int x1), some (.int x2), some (.ref c)], [], (zS0, R', I', J')) r) : zEv X (d + 1) zm_125 (8, [some (.ref 0), some (.int x1), some (.int x2), none], [.ref c], (zS0, R, I, J)) r := by
  rcases ho with rfl | rfl
  · refine zEv_k 4 (f' := (16, [some (.ref 0), some (.int x1), some (.int x2), some (.ref 7)], [.ref 0], (zS0, R, I, J))) rfl ?_
    refine zEv_gr rfl rfl rfl (by decide) (hR (0) 7 (192) rfl) ?_
    refine zEv_k 2 (f' := (21, [some (.ref 0), some (.int x1), some (.int x2), some (.ref 7)], [.int 0, .ref 7, .ref 192], (zS0, R, I, J))) rfl ?_
    exact zEv_c (fun _ => rfl) rfl hc rfl rfl k1
  · refine zEv_k 4 (f' := (16, [some (.ref 0), some (.int x1), some (.int x2), some (.ref 22)], [.ref 0], (zS0, R, I, J))) rfl ?_
    refine zEv_gr rfl rfl rfl (by decide) (hR (0) 7 (192) rfl) ?_
    refine zEv_k 2 (f' := (21, [some (.ref 0), some (.int x1), some (.int x2), some (.ref 22)], [.int 0, .ref 22, .ref 192], (zS0, R, I, J))) rfl ?_
    exact zEv_c (fun _ => rfl) rfl hc rfl rfl k1
theorem b_125_8n100 {X : zX} {d : Nat} {R : zR} {I : zI} {J : zJ} {x1 : Int32} {x2 : Int32} : zEv X d zm_125 (8, [some (.ref 0), some (.int x1), some (.int x2), none], [.null], (zS0, R, I, J)) (some (.int (-1)), (zS0, R, I, J)) := by
  refine zEv_k 4 (f' := (14, [some (.ref 0), some (.int x1), some (.int x2), some (.null)], [.int (-1)], (zS0, R, I, J))) rfl ?_
  exact zEv_r rfl
theorem b_125_24 {X : zX} {d : Nat} {R : zR} {I : zI} {J : zJ} {r : zA} {c : Nat} {x1 : Int32} {x2 : Int32} {w : Int32} {R' : zR} {I' : zI} {J' : zJ} (hR : zRok R) (ho : c = 7 ∨ c = 22) (hc : zEv X d zm_40 (0, [some (.ref 192), some (.int x2)], [], (zS0, R, I, J)) (some (.int w), (zS0, R', I', J'))) (k1 : zEv X (d + 1) zm_125 (32, [some (.ref 0), some (.int x1), some (.int x2), some (.ref c)], [.int w], (zS0, R', I', J')) r) : zEv X (d + 1) zm_125 (24, [some (.ref 0), some (.int x1), some (.int x2), some (.ref c)], [], (zS0, R, I, J)) r := by
  rcases ho with rfl | rfl
  · refine zEv_k 1 (f' := (25, [some (.ref 0), some (.int x1), some (.int x2), some (.ref 7)], [.ref 0], (zS0, R, I, J))) rfl ?_
    refine zEv_gr rfl rfl rfl (by decide) (hR (0) 7 (192) rfl) ?_
    refine zEv_k 1 (f' := (29, [some (.ref 0), some (.int x1), some (.int x2), some (.ref 7)], [.int x2, .ref 192], (zS0, R, I, J))) rfl ?_
    exact zEv_c (fun _ => rfl) rfl hc rfl rfl k1
  · refine zEv_k 1 (f' := (25, [some (.ref 0), some (.int x1), some (.int x2), some (.ref 22)], [.ref 0], (zS0, R, I, J))) rfl ?_
    refine zEv_gr rfl rfl rfl (by decide) (hR (0) 7 (192) rfl) ?_
    refine zEv_k 1 (f' := (29, [some (.ref 0), some (.int x1), some (.int x2), some (.ref 22)], [.int x2, .ref 192], (zS0, R, I, J))) rfl ?_
    exact zEv_c (fun _ => rfl) rfl hc rfl rfl k1
theorem b_125_32 {X : zX} {d : Nat} {R : zR} {I : zI} {J : zJ} {c : Nat} {x1 : Int32} {x2 : Int32} {s0 : Int32} (ho : c = 7 ∨ c = 22) : zEv X d zm_125 (32, [some (.ref 0), some (.int x1), some (.int x2), some (.ref c)], [.int s0], (zS0, R, I, J)) (some (.int s0), (zS0, R, I, J)) := by
  rcases ho with rfl | rfl
  · exact zEv_r rfl
  · exact zEv_r rfl
theorem b_126_0r {X : zX} {d : Nat} {R : zR} {I : zI} {J : zJ} {r : zA} {c : Nat} {x1 : Int32} {x2 : Int32} {x3 : Int32} {R' : zR} {I' : zI} {J' : zJ} (hR : zRok R) (ho : c = 7 ∨ c = 22) (hc : zEv X d zm_89 (0, [some (.ref 1), some (.int x1)], [], (zS0, R, I, J)) (some (.ref c), (zS0, R', I', J'))) (k1 : zEv X (d + 1) zm_126 (8, [some (.ref 0), some (.int x1), some (.int x2), some (.int x3), none, none], [.ref c], (zS0, R', I', J')) r) : zEv X (d + 1) zm_126 (0, [some (.ref 0), some (.int x1), some (.int x2), some (.int x3), none, none], [], (zS0, R, I, J)) r := by
  rcases ho with rfl | rfl
  · refine zEv_k 1 (f' := (1, [some (.ref 0), some (.int x1), some (.int x2), some (.int x3), none, none], [.ref 0], (zS0, R, I, J))) rfl ?_
    refine zEv_gr rfl rfl rfl (by decide) (hR (0) 0 (1) rfl) ?_
    refine zEv_k 1 (f' := (5, [some (.ref 0), some (.int x1), some (.int x2), some (.int x3), none, none], [.int x1, .ref 1], (zS0, R, I, J))) rfl ?_
    exact zEv_c (fun _ => rfl) rfl hc rfl rfl k1
  · refine zEv_k 1 (f' := (1, [some (.ref 0), some (.int x1), some (.int x2), some (.int x3), none, none], [.ref 0], (zS0, R, I, J))) rfl ?_
    refine zEv_gr rfl rfl rfl (by decide) (hR (0) 0 (1) rfl) ?_
    refine zEv_k 1 (f' := (5, [some (.ref 0), some (.int x1), some (.int x2), some (.int x3), none, none], [.int x1, .ref 1], (zS0, R, I, J))) rfl ?_
    exact zEv_c (fun _ => rfl) rfl hc rfl rfl k1
theorem b_126_0n {X : zX} {d : Nat} {R : zR} {I : zI} {J : zJ} {r : zA} {x1 : Int32} {x2 : Int32} {x3 : Int32} {R' : zR} {I' : zI} {J' : zJ} (hR : zRok R) (hc : zEv X d zm_89 (0, [some (.ref 1), some (.int x1)], [], (zS0, R, I, J)) (some .null, (zS0, R', I', J'))) (k1 : zEv X (d + 1) zm_126 (8, [some (.ref 0), some (.int x1), some (.int x2), some (.int x3), none, none], [.null], (zS0, R', I', J')) r) : zEv X (d + 1) zm_126 (0, [some (.ref 0), some (.int x1), some (.int x2), some (.int x3), none, none], [], (zS0, R, I, J)) r := by
  refine zEv_k 1 (f' := (1, [some (.ref 0), some (.int x1), some (.int x2), some (.int x3), none, none], [.ref 0], (zS0, R, I, J))) rfl ?_
  refine zEv_gr rfl rfl rfl (by decide) (hR (0) 0 (1) rfl) ?_
  refine zEv_k 1 (f' := (5, [some (.ref 0), some (.int x1), some (.int x2), some (.int x3), none, none], [.int x1, .ref 1], (zS0, R, I, J))) rfl ?_
  exact zEv_c (fun _ => rfl) rfl hc rfl rfl k1
theorem b_126_8 {X : zX} {d : Nat} {R : zR} {I : zI} {J : zJ} {r : zA} {c : Nat} {x1 : Int32} {x2 : Int32} {x3 : Int32} (ho : c = 7 ∨ c = 22) (k1 : x2 < 0 → zEv X d zm_126 (25, [some (.ref 0), some (.int x1), some (.int x2), some (.int x3), some (.ref c), none], [], (zS0, R, I, J)) r) (k2 : ¬ (x2 < 0) → zEv X d zm_126 (19, [some (.ref 0), some (.int x1), some (.int x2), some (.int x3), some (.ref c), none], [], (zS0, R, I, J)) r) : zEv X d zm_126 (8, [some (.ref 0), some (.int x1), some (.int x2), some (.int x3), none, none], [.ref c], (zS0, R, I, J)) r := by
  rcases ho with rfl | rfl
  · refine zEv_k 5 (f' := (if x2 < 0 then 25 else 19, [some (.ref 0), some (.int x1), some (.int x2), some (.int x3), some (.ref 7), none], [], (zS0, R, I, J))) rfl ?_
    exact zEv_if k1 k2
  · refine zEv_k 5 (f' := (if x2 < 0 then 25 else 19, [some (.ref 0), some (.int x1), some (.int x2), some (.int x3), some (.ref 22), none], [], (zS0, R, I, J))) rfl ?_
    exact zEv_if k1 k2
theorem b_126_8n100 {X : zX} {d : Nat} {R : zR} {I : zI} {J : zJ} {r : zA} {x1 : Int32} {x2 : Int32} {x3 : Int32} (k1 : zEv X d zm_126 (25, [some (.ref 0), some (.int x1), some (.int x2), some (.int x3), some (.null), none], [], (zS0, R, I, J)) r) : zEv X d zm_126 (8, [some (.ref 0), some (.int x1), some (.int x2), some (.int x3), none, none], [.null], (zS0, R, I, J)) r := by
  refine zEv_k 3 (f' := (25, [some (.ref 0), some (.int x1), some (.int x2), some (.int x3), some (.null), none], [], (zS0, R, I, J))) rfl ?_
  exact k1
theorem b_126_19 {X : zX} {d : Nat} {R : zR} {I : zI} {J : zJ} {r : zA} {c : Nat} {x1 : Int32} {x2 : Int32} {x3 : Int32} (ho : c = 7 ∨ c = 22) (k1 : x2 ≤ 20 → zEv X d zm_126 (27, [some (.ref 0), some (.int x1), some (.int x2), some (.int x3), some (.ref c), none], [], (zS0, R, I, J)) r) (k2 : ¬ (x2 ≤ 20) → zEv X d zm_126 (25, [some (.ref 0), some (.int x1), some (.int x2), some (.int x3), some (.ref c), none], [], (zS0, R, I, J)) r) : zEv X d zm_126 (19, [some (.ref 0), some (.int x1), some (.int x2), some (.int x3), some (.ref c), none], [], (zS0, R, I, J)) r := by
  rcases ho with rfl | rfl
  · refine zEv_k 3 (f' := (if x2 ≤ 20 then 27 else 25, [some (.ref 0), some (.int x1), some (.int x2), some (.int x3), some (.ref 7), none], [], (zS0, R, I, J))) rfl ?_
    exact zEv_if k1 k2
  · refine zEv_k 3 (f' := (if x2 ≤ 20 then 27 else 25, [some (.ref 0), some (.int x1), some (.int x2), some (.int x3), some (.ref 22), none], [], (zS0, R, I, J))) rfl ?_
    exact zEv_if k1 k2
theorem b_126_25 {X : zX} {d : Nat} {R : zR} {I : zI} {J : zJ} {c : Nat} {x1 : Int32} {x2 : Int32} {x3 : Int32} (ho : c = 7 ∨ c = 22) : zEv X d zm_126 (25, [some (.ref 0), some (.int x1), some (.int x2), some (.int x3), some (.ref c), none], [], (zS0, R, I, J)) (some (.int (-1)), (zS0, R, I, J)) := by
  rcases ho with rfl | rfl
  · refine zEv_k 1 (f' := (26, [some (.ref 0), some (.int x1), some (.int x2), some (.int x3), some (.ref 7), none], [.int (-1)], (zS0, R, I, J))) rfl ?_
    exact zEv_r rfl
  · refine zEv_k 1 (f' := (26, [some (.ref 0), some (.int x1), some (.int x2), some (.int x3), some (.ref 22), none], [.int (-1)], (zS0, R, I, J))) rfl ?_
    exact zEv_r rfl
theorem b_126_25n4 {X : zX} {d : Nat} {R : zR} {I : zI} {J : zJ} {x1 : Int32} {x2 : Int32} {x3 : Int32} : zEv X d zm_126 (25, [some (.ref 0), some (.int x1), some (.int x2), some (.int x3), some (.null), none], [], (zS0, R, I, J)) (some (.int (-1)), (zS0, R, I, J)) := by
  refine zEv_k 1 (f' := (26, [some (.ref 0), some (.int x1), some (.int x2), some (.int x3), some (.null), none], [.int (-1)], (zS0, R, I, J))) rfl ?_
  exact zEv_r rfl
theorem b_126_27 {X : zX} {d : Nat} {R : zR} {I : zI} {J : zJ} {r : zA} {c : Nat} {x1 : Int32} {x2 : Int32} {x3 : Int32} {w : Int32} {R' : zR} {I' : zI} {J' : zJ} (ho : c = 7 ∨ c = 22) (hc : zEv X d zm_283 (0, [some (.ref c), some (.int x2), none, none, none], [], (zS0, R, I, J)) (some (.int w), (zS0, R', I', J'))) (k1 : zEv X (d + 1) zm_126 (33, [some (.ref 0), some (.int x1), some (.int x2), some (.int x3), some (.ref c), none], [.int w], (zS0, R', I', J')) r) : zEv X (d + 1) zm_126 (27, [some (.ref 0), some (.int x1), some (.int x2), some (.int x3), some (.ref c), none], [], (zS0, R, I, J)) r := by
  rcases ho with rfl | rfl
  · refine zEv_k 2 (f' := (30, [some (.ref 0), some (.int x1), some (.int x2), some (.int x3), some (.ref 7), none], [.int x2, .ref 7], (zS0, R, I, J))) rfl ?_
    exact zEv_c (fun _ => rfl) rfl hc rfl rfl k1
  · refine zEv_k 2 (f' := (30, [some (.ref 0), some (.int x1), some (.int x2), some (.int x3), some (.ref 22), none], [.int x2, .ref 22], (zS0, R, I, J))) rfl ?_
    exact zEv_c (fun _ => rfl) rfl hc rfl rfl k1
theorem b_126_33 {X : zX} {d : Nat} {R : zR} {I : zI} {J : zJ} {r : zA} {c : Nat} {x1 : Int32} {x2 : Int32} {x3 : Int32} {s0 : Int32} (ho : c = 7 ∨ c = 22) (k1 : ¬ x3 = 0 → zEv X d zm_126 (45, [some (.ref 0), some (.int x1), some (.int x2), some (.int x3), some (.ref c), some (.int s0)], [], (zS0, R, I, J)) r) (k2 : ¬ (¬ x3 = 0) → zEv X d zm_126 (39, [some (.ref 0), some (.int x1), some (.int x2), some (.int x3), some (.ref c), some (.int s0)], [], (zS0, R, I, J)) r) : zEv X d zm_126 (33, [some (.ref 0), some (.int x1), some (.int x2), some (.int x3), some (.ref c), none], [.int s0], (zS0, R, I, J)) r := by
  rcases ho with rfl | rfl
  · refine zEv_k 3 (f' := (if ¬ x3 = 0 then 45 else 39, [some (.ref 0), some (.int x1), some (.int x2), some (.int x3), some (.ref 7), some (.int s0)], [], (zS0, R, I, J))) rfl ?_
    exact zEv_if k1 k2
  · refine zEv_k 3 (f' := (if ¬ x3 = 0 then 45 else 39, [some (.ref 0), some (.int x1), some (.int x2), some (.int x3), some (.ref 22), some (.int s0)], [], (zS0, R, I, J))) rfl ?_
    exact zEv_if k1 k2
theorem b_126_39 {X : zX} {d : Nat} {R : zR} {I : zI} {J : zJ} {r : zA} {c : Nat} {x1 : Int32} {x2 : Int32} {x3 : Int32} {x5 : Int32} (ho : c = 7 ∨ c = 22) (k1 : ¬ x5 = (-1) → zEv X d zm_126 (50, [some (.ref 0), some (.int x1), some (.int x2), some (.int x3), some (.ref c), some (.int x5)], [], (zS0, R, I, J)) r) (k2 : ¬ (¬ x5 = (-1)) → zEv X d zm_126 (45, [some (.ref 0), some (.int x1), some (.int x2), some (.int x3), some (.ref c), some (.int x5)], [], (zS0, R, I, J)) r) : zEv X d zm_126 (39, [some (.ref 0), some (.int x1), some (.int x2), some (.int x3), some (.ref c), some (.int x5)], [], (zS0, R, I, J)) r := by
  rcases ho with rfl | rfl
  · refine zEv_k 3 (f' := (if ¬ x5 = (-1) then 50 else 45, [some (.ref 0), some (.int x1), some (.int x2), some (.int x3), some (.ref 7), some (.int x5)], [], (zS0, R, I, J))) rfl ?_
    exact zEv_if k1 k2
  · refine zEv_k 3 (f' := (if ¬ x5 = (-1) then 50 else 45, [some (.ref 0), some (.int x1), some (.int x2), some (.int x3), some (.ref 22), some (.int x5)], [], (zS0, R, I, J))) rfl ?_
    exact zEv_if k1 k2
theorem b_126_45 {X : zX} {d : Nat} {R : zR} {I : zI} {J : zJ} {r : zA} {c : Nat} {x1 : Int32} {x2 : Int32} {x3 : Int32} {x5 : Int32} (ho : c = 7 ∨ c = 22) (k1 : zEv X d zm_126 (55, [some (.ref 0), some (.int x1), some (.int x2), some (.int x3), some (.ref c), some (.int x5)], [.int x5], (zS0, R, I, J)) r) : zEv X d zm_126 (45, [some (.ref 0), some (.int x1), some (.int x2), some (.int x3), some (.ref c), some (.int x5)], [], (zS0, R, I, J)) r := by
  rcases ho with rfl | rfl
  · refine zEv_k 2 (f' := (55, [some (.ref 0), some (.int x1), some (.int x2), some (.int x3), some (.ref 7), some (.int x5)], [.int x5], (zS0, R, I, J))) rfl ?_
    exact k1
  · refine zEv_k 2 (f' := (55, [some (.ref 0), some (.int x1), some (.int x2), some (.int x3), some (.ref 22), some (.int x5)], [.int x5], (zS0, R, I, J))) rfl ?_
    exact k1
theorem b_126_50 {X : zX} {d : Nat} {R : zR} {I : zI} {J : zJ} {r : zA} {c : Nat} {x1 : Int32} {x2 : Int32} {x3 : Int32} {x5 : Int32} {w : Int32} {R' : zR} {I' : zI} {J' : zJ} (ho : c = 7 ∨ c = 22) (hc : zEv X d zm_286 (0, [some (.int x5)], [], (zS0, R, I, J)) (some (.int w), (zS0, R', I', J'))) (k1 : zEv X (d + 1) zm_126 (55, [some (.ref 0), some (.int x1), some (.int x2), some (.int x3), some (.ref c), some (.int x5)], [.int w], (zS0, R', I', J')) r) : zEv X (d + 1) zm_126 (50, [some (.ref 0), some (.int x1), some (.int x2), some (.int x3), some (.ref c), some (.int x5)], [], (zS0, R, I, J)) r := by
  rcases ho with rfl | rfl
  · refine zEv_k 1 (f' := (52, [some (.ref 0), some (.int x1), some (.int x2), some (.int x3), some (.ref 7), some (.int x5)], [.int x5], (zS0, R, I, J))) rfl ?_
    exact zEv_c (fun _ => rfl) rfl hc rfl rfl k1
  · refine zEv_k 1 (f' := (52, [some (.ref 0), some (.int x1), some (.int x2), some (.int x3), some (.ref 22), some (.int x5)], [.int x5], (zS0, R, I, J))) rfl ?_
    exact zEv_c (fun _ => rfl) rfl hc rfl rfl k1
theorem b_126_55 {X : zX} {d : Nat} {R : zR} {I : zI} {J : zJ} {c : Nat} {x1 : Int32} {x2 : Int32} {x3 : Int32} {x5 : Int32} {s0 : Int32} (ho : c = 7 ∨ c = 22) : zEv X d zm_126 (55, [some (.ref 0), some (.int x1), some (.int x2), some (.int x3), some (.ref c), some (.int x5)], [.int s0], (zS0, R, I, J)) (some (.int s0), (zS0, R, I, J)) := by
  rcases ho with rfl | rfl
  · exact zEv_r rfl
  · exact zEv_r rfl
theorem b_127_0r {X : zX} {d : Nat} {R : zR} {I : zI} {J : zJ} {r : zA} {c : Nat} {x1 : Int32} {x2 : Int32} {x3 : Int32} {R' : zR} {I' : zI} {J' : zJ} (hR : zRok R) (ho : c = 7 ∨ c = 22) (hc : zEv X d zm_89 (0, [some (.ref 1), some (.int x1)], [], (zS0, R, I, J)) (some (.ref c), (zS0, R', I', J'))) (k1 : zEv X (d + 1) zm_127 (8, [some (.ref 0), some (.int x1), some (.int x2), some (.int x3), none], [.ref c], (zS0, R', I', J')) r) : zEv X (d + 1) zm_127 (0, [some (.ref 0), some (.int x1), some (.int x2), some (.int x3), none], [], (zS0, R, I, J)) r := by
  rcases ho with rfl | rfl
  · refine zEv_k 1 (f' := (1, [some (.ref 0), some (.int x1), some (.int x2), some (.int x3), none], [.ref 0], (zS0, R, I, J))) rfl ?_
    refine zEv_gr rfl rfl rfl (by decide) (hR (0) 0 (1) rfl) ?_
    refine zEv_k 1 (f' := (5, [some (.ref 0), some (.int x1), some (.int x2), some (.int x3), none], [.int x1, .ref 1], (zS0, R, I, J))) rfl ?_
    exact zEv_c (fun _ => rfl) rfl hc rfl rfl k1
  · refine zEv_k 1 (f' := (1, [some (.ref 0), some (.int x1), some (.int x2), some (.int x3), none], [.ref 0], (zS0, R, I, J))) rfl ?_
    refine zEv_gr rfl rfl rfl (by decide) (hR (0) 0 (1) rfl) ?_
    refine zEv_k 1 (f' := (5, [some (.ref 0), some (.int x1), some (.int x2), some (.int x3), none], [.int x1, .ref 1], (zS0, R, I, J))) rfl ?_
    exact zEv_c (fun _ => rfl) rfl hc rfl rfl k1
theorem b_127_0n {X : zX} {d : Nat} {R : zR} {I : zI} {J : zJ} {r : zA} {x1 : Int32} {x2 : Int32} {x3 : Int32} {R' : zR} {I' : zI} {J' : zJ} (hR : zRok R) (hc : zEv X d zm_89 (0, [some (.ref 1), some (.int x1)], [], (zS0, R, I, J)) (some .null, (zS0, R', I', J'))) (k1 : zEv X (d + 1) zm_127 (8, [some (.ref 0), some (.int x1), some (.int x2), some (.int x3), none], [.null], (zS0, R', I', J')) r) : zEv X (d + 1) zm_127 (0, [some (.ref 0), some (.int x1), some (.int x2), some (.int x3), none], [], (zS0, R, I, J)) r := by
  refine zEv_k 1 (f' := (1, [some (.ref 0), some (.int x1), some (.int x2), some (.int x3), none], [.ref 0], (zS0, R, I, J))) rfl ?_
  refine zEv_gr rfl rfl rfl (by decide) (hR (0) 0 (1) rfl) ?_
  refine zEv_k 1 (f' := (5, [some (.ref 0), some (.int x1), some (.int x2), some (.int x3), none], [.int x1, .ref 1], (zS0, R, I, J))) rfl ?_
  exact zEv_c (fun _ => rfl) rfl hc rfl rfl k1
theorem b_127_8 {X : zX} {d : Nat} {R : zR} {I : zI} {J : zJ} {r : zA} {c : Nat} {x1 : Int32} {x2 : Int32} {x3 : Int32} (ho : c = 7 ∨ c = 22) (k1 : x2 < 0 → zEv X d zm_127 (24, [some (.ref 0), some (.int x1), some (.int x2), some (.int x3), some (.ref c)], [], (zS0, R, I, J)) r) (k2 : ¬ (x2 < 0) → zEv X d zm_127 (19, [some (.ref 0), some (.int x1), some (.int x2), some (.int x3), some (.ref c)], [], (zS0, R, I, J)) r) : zEv X d zm_127 (8, [some (.ref 0), some (.int x1), some (.int x2), some (.int x3), none], [.ref c], (zS0, R, I, J)) r := by
  rcases ho with rfl | rfl
  · refine zEv_k 5 (f' := (if x2 < 0 then 24 else 19, [some (.ref 0), some (.int x1), some (.int x2), some (.int x3), some (.ref 7)], [], (zS0, R, I, J))) rfl ?_
    exact zEv_if k1 k2
  · refine zEv_k 5 (f' := (if x2 < 0 then 24 else 19, [some (.ref 0), some (.int x1), some (.int x2), some (.int x3), some (.ref 22)], [], (zS0, R, I, J))) rfl ?_
    exact zEv_if k1 k2
theorem b_127_8n100 {X : zX} {d : Nat} {R : zR} {I : zI} {J : zJ} {r : zA} {x1 : Int32} {x2 : Int32} {x3 : Int32} (k1 : zEv X d zm_127 (24, [some (.ref 0), some (.int x1), some (.int x2), some (.int x3), some (.null)], [], (zS0, R, I, J)) r) : zEv X d zm_127 (8, [some (.ref 0), some (.int x1), some (.int x2), some (.int x3), none], [.null], (zS0, R, I, J)) r := by
  refine zEv_k 3 (f' := (24, [some (.ref 0), some (.int x1), some (.int x2), some (.int x3), some (.null)], [], (zS0, R, I, J))) rfl ?_
  exact k1
theorem b_127_19 {X : zX} {d : Nat} {R : zR} {I : zI} {J : zJ} {r : zA} {c : Nat} {x1 : Int32} {x2 : Int32} {x3 : Int32} (ho : c = 7 ∨ c = 22) (k1 : x2 ≤ 5 → zEv X d zm_127 (28, [some (.ref 0), some (.int x1), some (.int x2), some (.int x3), some (.ref c)], [], (zS0, R, I, J)) r) (k2 : ¬ (x2 ≤ 5) → zEv X d zm_127 (24, [some (.ref 0), some (.int x1), some (.int x2), some (.int x3), some (.ref c)], [], (zS0, R, I, J)) r) : zEv X d zm_127 (19, [some (.ref 0), some (.int x1), some (.int x2), some (.int x3), some (.ref c)], [], (zS0, R, I, J)) r := by
  rcases ho with rfl | rfl
  · refine zEv_k 3 (f' := (if x2 ≤ 5 then 28 else 24, [some (.ref 0), some (.int x1), some (.int x2), some (.int x3), some (.ref 7)], [], (zS0, R, I, J))) rfl ?_
    exact zEv_if k1 k2
  · refine zEv_k 3 (f' := (if x2 ≤ 5 then 28 else 24, [some (.ref 0), some (.int x1), some (.int x2), some (.int x3), some (.ref 22)], [], (zS0, R, I, J))) rfl ?_
    exact zEv_if k1 k2
theorem b_127_24 {X : zX} {d : Nat} {R : zR} {I : zI} {J : zJ} {c : Nat} {x1 : Int32} {x2 : Int32} {x3 : Int32} (ho : c = 7 ∨ c = 22) : zEv X d zm_127 (24, [some (.ref 0), some (.int x1), some (.int x2), some (.int x3), some (.ref c)], [], (zS0, R, I, J)) (some (.int (-999)), (zS0, R, I, J)) := by
  rcases ho with rfl | rfl
  · refine zEv_k 1 (f' := (27, [some (.ref 0), some (.int x1), some (.int x2), some (.int x3), some (.ref 7)], [.int (-999)], (zS0, R, I, J))) rfl ?_
    exact zEv_r rfl
  · refine zEv_k 1 (f' := (27, [some (.ref 0), some (.int x1), some (.int x2), some (.int x3), some (.ref 22)], [.int (-999)], (zS0, R, I, J))) rfl ?_
    exact zEv_r rfl
theorem b_127_24n4 {X : zX} {d : Nat} {R : zR} {I : zI} {J : zJ} {x1 : Int32} {x2 : Int32} {x3 : Int32} : zEv X d zm_127 (24, [some (.ref 0), some (.int x1), some (.int x2), some (.int x3), some (.null)], [], (zS0, R, I, J)) (some (.int (-999)), (zS0, R, I, J)) := by
  refine zEv_k 1 (f' := (27, [some (.ref 0), some (.int x1), some (.int x2), some (.int x3), some (.null)], [.int (-999)], (zS0, R, I, J))) rfl ?_
  exact zEv_r rfl
theorem b_127_28 {X : zX} {d : Nat} {R : zR} {I : zI} {J : zJ} {r : zA} {c : Nat} {x1 : Int32} {x2 : Int32} {x3 : Int32} {R' : zR} {I' : zI} {J' : zJ} (hR : zRok R) (ho : c = 7 ∨ c = 22) (hc : zEv X d zm_49 (0, [some (.ref 192), some (.ref c), some (.int x2), none], [], (zS0, R, I, J)) (none, (zS0, R', I', J'))) (k1 : zEv X (d + 1) zm_127 (38, [some (.ref 0), some (.int x1), some (.int x2), some (.int x3), some (.ref c)], [], (zS0, R', I', J')) r) : zEv X (d + 1) zm_127 (28, [some (.ref 0), some (.int x1), some (.int x2), some (.int x3), some (.ref c)], [], (zS0, R, I, J)) r := by
  rcases ho with rfl | rfl
  · refine zEv_k 1 (f' := (29, [some (.ref 0), some (.int x1), some (.int x2), some (.int x3), some (.ref 7)], [.ref 0], (zS0, R, I, J))) rfl ?_
    refine zEv_gr rfl rfl rfl (by decide) (hR (0) 7 (192) rfl) ?_
    refine zEv_k 2 (f' := (35, [some (.ref 0), some (.int x1), some (.int x2), some (.int x3), some (.ref 7)], [.int x2, .ref 7, .ref 192], (zS0, R, I, J))) rfl ?_
    exact zEv_c (fun _ => rfl) rfl hc rfl rfl k1
  · refine zEv_k 1 (f' := (29, [some (.ref 0), some (.int x1), some (.int x2), some (.int x3), some (.ref 22)], [.ref 0], (zS0, R, I, J))) rfl ?_
    refine zEv_gr rfl rfl rfl (by decide) (hR (0) 7 (192) rfl) ?_
    refine zEv_k 2 (f' := (35, [some (.ref 0), some (.int x1), some (.int x2), some (.int x3), some (.ref 22)], [.int x2, .ref 22, .ref 192], (zS0, R, I, J))) rfl ?_
    exact zEv_c (fun _ => rfl) rfl hc rfl rfl k1
theorem b_127_38 {X : zX} {d : Nat} {R : zR} {I : zI} {J : zJ} {r : zA} {c : Nat} {x1 : Int32} {x2 : Int32} {x3 : Int32} (ho : c = 7 ∨ c = 22) (k1 : x3 = 0 → zEv X d zm_127 (52, [some (.ref 0), some (.int x1), some (.int x2), some (.int x3), some (.ref c)], [], (zS0, R, I, J)) r) (k2 : ¬ (x3 = 0) → zEv X d zm_127 (42, [some (.ref 0), some (.int x1), some (.int x2), some (.int x3), some (.ref c)], [], (zS0, R, I, J)) r) : zEv X d zm_127 (38, [some (.ref 0), some (.int x1), some (.int x2), some (.int x3), some (.ref c)], [], (zS0, R, I, J)) r := by
  rcases ho with rfl | rfl
  · refine zEv_k 2 (f' := (if x3 = 0 then 52 else 42, [some (.ref 0), some (.int x1), some (.int x2), some (.int x3), some (.ref 7)], [], (zS0, R, I, J))) rfl ?_
    exact zEv_if k1 k2
  · refine zEv_k 2 (f' := (if x3 = 0 then 52 else 42, [some (.ref 0), some (.int x1), some (.int x2), some (.int x3), some (.ref 22)], [], (zS0, R, I, J))) rfl ?_
    exact zEv_if k1 k2
theorem b_127_42 {X : zX} {d : Nat} {R : zR} {I : zI} {J : zJ} {c : Nat} {x1 : Int32} {x2 : Int32} {x3 : Int32} (hR : zRok R) (ho : c = 7 ∨ c = 22) : zEv X d zm_127 (42, [some (.ref 0), some (.int x1), some (.int x2), some (.int x3), some (.ref c)], [], (zS0, R, I, J)) (some (.int (I 192 1)), (zS0, R, I, J)) := by
  rcases ho with rfl | rfl
  · refine zEv_k 1 (f' := (43, [some (.ref 0), some (.int x1), some (.int x2), some (.int x3), some (.ref 7)], [.ref 0], (zS0, R, I, J))) rfl ?_
    refine zEv_gr rfl rfl rfl (by decide) (hR (0) 7 (192) rfl) ?_
    refine zEv_k 2 (f' := (59, [some (.ref 0), some (.int x1), some (.int x2), some (.int x3), some (.ref 7)], [.int (I 192 1)], (zS0, R, I, J))) rfl ?_
    exact zEv_r rfl
  · refine zEv_k 1 (f' := (43, [some (.ref 0), some (.int x1), some (.int x2), some (.int x3), some (.ref 22)], [.ref 0], (zS0, R, I, J))) rfl ?_
    refine zEv_gr rfl rfl rfl (by decide) (hR (0) 7 (192) rfl) ?_
    refine zEv_k 2 (f' := (59, [some (.ref 0), some (.int x1), some (.int x2), some (.int x3), some (.ref 22)], [.int (I 192 1)], (zS0, R, I, J))) rfl ?_
    exact zEv_r rfl
theorem b_127_52 {X : zX} {d : Nat} {R : zR} {I : zI} {J : zJ} {c : Nat} {x1 : Int32} {x2 : Int32} {x3 : Int32} (hR : zRok R) (ho : c = 7 ∨ c = 22) : zEv X d zm_127 (52, [some (.ref 0), some (.int x1), some (.int x2), some (.int x3), some (.ref c)], [], (zS0, R, I, J)) (some (.int (I 192 0)), (zS0, R, I, J)) := by
  rcases ho with rfl | rfl
  · refine zEv_k 1 (f' := (53, [some (.ref 0), some (.int x1), some (.int x2), some (.int x3), some (.ref 7)], [.ref 0], (zS0, R, I, J))) rfl ?_
    refine zEv_gr rfl rfl rfl (by decide) (hR (0) 7 (192) rfl) ?_
    refine zEv_k 1 (f' := (59, [some (.ref 0), some (.int x1), some (.int x2), some (.int x3), some (.ref 7)], [.int (I 192 0)], (zS0, R, I, J))) rfl ?_
    exact zEv_r rfl
  · refine zEv_k 1 (f' := (53, [some (.ref 0), some (.int x1), some (.int x2), some (.int x3), some (.ref 22)], [.ref 0], (zS0, R, I, J))) rfl ?_
    refine zEv_gr rfl rfl rfl (by decide) (hR (0) 7 (192) rfl) ?_
    refine zEv_k 1 (f' := (59, [some (.ref 0), some (.int x1), some (.int x2), some (.int x3), some (.ref 22)], [.int (I 192 0)], (zS0, R, I, J))) rfl ?_
    exact zEv_r rfl
theorem b_128_0r {X : zX} {d : Nat} {R : zR} {I : zI} {J : zJ} {r : zA} {c : Nat} {x1 : Int32} {x2 : Int32} {x3 : Int32} {x4 : Int32} {x5 : Int32} {R' : zR} {I' : zI} {J' : zJ} (hR : zRok R) (ho : c = 7 ∨ c = 22) (hc : zEv X d zm_89 (0, [some (.ref 1), some (.int x1)], [], (zS0, R, I, J)) (some (.ref c), (zS0, R', I', J'))) (k1 : zEv X (d + 1) zm_128 (8, [some (.ref 0), some (.int x1), some (.int x2), some (.int x3), some (.int x4), some (.int x5), none, none, none, none, none, none, none, none], [.ref c], (zS0, R', I', J')) r) : zEv X (d + 1) zm_128 (0, [some (.ref 0), some (.int x1), some (.int x2), some (.int x3), some (.int x4), some (.int x5), none, none, none, none, none, none, none, none], [], (zS0, R, I, J)) r := by
  rcases ho with rfl | rfl
  · refine zEv_k 1 (f' := (1, [some (.ref 0), some (.int x1), some (.int x2), some (.int x3), some (.int x4), some (.int x5), none, none, none, none, none, none, none, none], [.ref 0], (zS0, R, I, J))) rfl ?_
    refine zEv_gr rfl rfl rfl (by decide) (hR (0) 0 (1) rfl) ?_
    refine zEv_k 1 (f' := (5, [some (.ref 0), some (.int x1), some (.int x2), some (.int x3), some (.int x4), some (.int x5), none, none, none, none, none, none, none, none], [.int x1, .ref 1], (zS0, R, I, J))) rfl ?_
    exact zEv_c (fun _ => rfl) rfl hc rfl rfl k1
  · refine zEv_k 1 (f' := (1, [some (.ref 0), some (.int x1), some (.int x2), some (.int x3), some (.int x4), some (.int x5), none, none, none, none, none, none, none, none], [.ref 0], (zS0, R, I, J))) rfl ?_
    refine zEv_gr rfl rfl rfl (by decide) (hR (0) 0 (1) rfl) ?_
    refine zEv_k 1 (f' := (5, [some (.ref 0), some (.int x1), some (.int x2), some (.int x3), some (.int x4), some (.int x5), none, none, none, none, none, none, none, none], [.int x1, .ref 1], (zS0, R, I, J))) rfl ?_
    exact zEv_c (fun _ => rfl) rfl hc rfl rfl k1
theorem b_128_0n {X : zX} {d : Nat} {R : zR} {I : zI} {J : zJ} {r : zA} {x1 : Int32} {x2 : Int32} {x3 : Int32} {x4 : Int32} {x5 : Int32} {R' : zR} {I' : zI} {J' : zJ} (hR : zRok R) (hc : zEv X d zm_89 (0, [some (.ref 1), some (.int x1)], [], (zS0, R, I, J)) (some .null, (zS0, R', I', J'))) (k1 : zEv X (d + 1) zm_128 (8, [some (.ref 0), some (.int x1), some (.int x2), some (.int x3), some (.int x4), some (.int x5), none, none, none, none, none, none, none, none], [.null], (zS0, R', I', J')) r) : zEv X (d + 1) zm_128 (0, [some (.ref 0), some (.int x1), some (.int x2), some (.int x3), some (.int x4), some (.int x5), none, none, none, none, none, none, none, none], [], (zS0, R, I, J)) r := by
  refine zEv_k 1 (f' := (1, [some (.ref 0), some (.int x1), some (.int x2), some (.int x3), some (.int x4), some (.int x5), none, none, none, none, none, none, none, none], [.ref 0], (zS0, R, I, J))) rfl ?_
  refine zEv_gr rfl rfl rfl (by decide) (hR (0) 0 (1) rfl) ?_
  refine zEv_k 1 (f' := (5, [some (.ref 0), some (.int x1), some (.int x2), some (.int x3), some (.int x4), some (.int x5), none, none, none, none, none, none, none, none], [.int x1, .ref 1], (zS0, R, I, J))) rfl ?_
  exact zEv_c (fun _ => rfl) rfl hc rfl rfl k1
theorem b_128_8 {X : zX} {d : Nat} {R : zR} {I : zI} {J : zJ} {r : zA} {c : Nat} {x1 : Int32} {x2 : Int32} {x3 : Int32} {x4 : Int32} {x5 : Int32} (ho : c = 7 ∨ c = 22) (k1 : x2 < 0 → zEv X d zm_128 (46, [some (.ref 0), some (.int x1), some (.int x2), some (.int x3), some (.int x4), some (.int x5), some (.ref c), none, none, none, none, none, none, none], [], (zS0, R, I, J)) r) (k2 : ¬ (x2 < 0) → zEv X d zm_128 (19, [some (.ref 0), some (.int x1), some (.int x2), some (.int x3), some (.int x4), some (.int x5), some (.ref c), none, none, none, none, none, none, none], [], (zS0, R, I, J)) r) : zEv X d zm_128 (8, [some (.ref 0), some (.int x1), some (.int x2), some (.int x3), some (.int x4), some (.int x5), none, none, none, none, none, none, none, none], [.ref c], (zS0, R, I, J)) r := by
  rcases ho with rfl | rfl
  · refine zEv_k 5 (f' := (if x2 < 0 then 46 else 19, [some (.ref 0), some (.int x1), some (.int x2), some (.int x3), some (.int x4), some (.int x5), some (.ref 7), none, none, none, none, none, none, none], [], (zS0, R, I, J))) rfl ?_
    exact zEv_if k1 k2
  · refine zEv_k 5 (f' := (if x2 < 0 then 46 else 19, [some (.ref 0), some (.int x1), some (.int x2), some (.int x3), some (.int x4), some (.int x5), some (.ref 22), none, none, none, none, none, none, none], [], (zS0, R, I, J))) rfl ?_
    exact zEv_if k1 k2
theorem b_128_8n100 {X : zX} {d : Nat} {R : zR} {I : zI} {J : zJ} {r : zA} {x1 : Int32} {x2 : Int32} {x3 : Int32} {x4 : Int32} {x5 : Int32} (k1 : zEv X d zm_128 (46, [some (.ref 0), some (.int x1), some (.int x2), some (.int x3), some (.int x4), some (.int x5), some (.null), none, none, none, none, none, none, none], [], (zS0, R, I, J)) r) : zEv X d zm_128 (8, [some (.ref 0), some (.int x1), some (.int x2), some (.int x3), some (.int x4), some (.int x5), none, none, none, none, none, none, none, none], [.null], (zS0, R, I, J)) r := by
  refine zEv_k 3 (f' := (46, [some (.ref 0), some (.int x1), some (.int x2), some (.int x3), some (.int x4), some (.int x5), some (.null), none, none, none, none, none, none, none], [], (zS0, R, I, J))) rfl ?_
  exact k1
theorem b_128_19 {X : zX} {d : Nat} {R : zR} {I : zI} {J : zJ} {r : zA} {c : Nat} {x1 : Int32} {x2 : Int32} {x3 : Int32} {x4 : Int32} {x5 : Int32} (ho : c = 7 ∨ c = 22) (k1 : 10 < x2 → zEv X d zm_128 (46, [some (.ref 0), some (.int x1), some (.int x2), some (.int x3), some (.int x4), some (.int x5), some (.ref c), none, none, none, none, none, none, none], [], (zS0, R, I, J)) r) (k2 : ¬ (10 < x2) → zEv X d zm_128 (25, [some (.ref 0), some (.int x1), some (.int x2), some (.int x3), some (.int x4), some (.int x5), some (.ref c), none, none, none, none, none, none, none], [], (zS0, R, I, J)) r) : zEv X d zm_128 (19, [some (.ref 0), some (.int x1), some (.int x2), some (.int x3), some (.int x4), some (.int x5), some (.ref c), none, none, none, none, none, none, none], [], (zS0, R, I, J)) r := by
  rcases ho with rfl | rfl
  · refine zEv_k 3 (f' := (if 10 < x2 then 46 else 25, [some (.ref 0), some (.int x1), some (.int x2), some (.int x3), some (.int x4), some (.int x5), some (.ref 7), none, none, none, none, none, none, none], [], (zS0, R, I, J))) rfl ?_
    exact zEv_if k1 k2
  · refine zEv_k 3 (f' := (if 10 < x2 then 46 else 25, [some (.ref 0), some (.int x1), some (.int x2), some (.int x3), some (.int x4), some (.int x5), some (.ref 22), none, none, none, none, none, none, none], [], (zS0, R, I, J))) rfl ?_
    exact zEv_if k1 k2
theorem b_128_25 {X : zX} {d : Nat} {R : zR} {I : zI} {J : zJ} {r : zA} {c : Nat} {x1 : Int32} {x2 : Int32} {x3 : Int32} {x4 : Int32} {x5 : Int32} (ho : c = 7 ∨ c = 22) (k1 : x3 < 0 → zEv X d zm_128 (46, [some (.ref 0), some (.int x1), some (.int x2), some (.int x3), some (.int x4), some (.int x5), some (.ref c), none, none, none, none, none, none, none], [], (zS0, R, I, J)) r) (k2 : ¬ (x3 < 0) → zEv X d zm_128 (29, [some (.ref 0), some (.int x1), some (.int x2), some (.int x3), some (.int x4), some (.int x5), some (.ref c), none, none, none, none, none, none, none], [], (zS0, R, I, J)) r) : zEv X d zm_128 (25, [some (.ref 0), some (.int x1), some (.int x2), some (.int x3), some (.int x4), some (.int x5), some (.ref c), none, none, none, none, none, none, none], [], (zS0, R, I, J)) r := by
  rcases ho with rfl | rfl
  · refine zEv_k 2 (f' := (if x3 < 0 then 46 else 29, [some (.ref 0), some (.int x1), some (.int x2), some (.int x3), some (.int x4), some (.int x5), some (.ref 7), none, none, none, none, none, none, none], [], (zS0, R, I, J))) rfl ?_
    exact zEv_if k1 k2
  · refine zEv_k 2 (f' := (if x3 < 0 then 46 else 29, [some (.ref 0), some (.int x1), some (.int x2), some (.int x3), some (.int x4), some (.int x5), some (.ref 22), none, none, none, none, none, none, none], [], (zS0, R, I, J))) rfl ?_
    exact zEv_if k1 k2
theorem b_128_29 {X : zX} {d : Nat} {R : zR} {I : zI} {J : zJ} {r : zA} {c : Nat} {x1 : Int32} {x2 : Int32} {x3 : Int32} {x4 : Int32} {x5 : Int32} (ho : c = 7 ∨ c = 22) (k1 : 2 < x3 → zEv X d zm_128 (46, [some (.ref 0), some (.int x1), some (.int x2), some (.int x3), some (.int x4), some (.int x5), some (.ref c), none, none, none, none, none, none, none], [], (zS0, R, I, J)) r) (k2 : ¬ (2 < x3) → zEv X d zm_128 (34, [some (.ref 0), some (.int x1), some (.int x2), some (.int x3), some (.int x4), some (.int x5), some (.ref c), none, none, none, none, none, none, none], [], (zS0, R, I, J)) r) : zEv X d zm_128 (29, [some (.ref 0), some (.int x1), some (.int x2), some (.int x3), some (.int x4), some (.int x5), some (.ref c), none, none, none, none, none, none, none], [], (zS0, R, I, J)) r := by
  rcases ho with rfl | rfl
  · refine zEv_k 3 (f' := (if 2 < x3 then 46 else 34, [some (.ref 0), some (.int x1), some (.int x2), some (.int x3), some (.int x4), some (.int x5), some (.ref 7), none, none, none, none, none, none, none], [], (zS0, R, I, J))) rfl ?_
    exact zEv_if k1 k2
  · refine zEv_k 3 (f' := (if 2 < x3 then 46 else 34, [some (.ref 0), some (.int x1), some (.int x2), some (.int x3), some (.int x4), some (.int x5), some (.ref 22), none, none, none, none, none, none, none], [], (zS0, R, I, J))) rfl ?_
    exact zEv_if k1 k2
theorem b_128_34 {X : zX} {d : Nat} {R : zR} {I : zI} {J : zJ} {r : zA} {c : Nat} {x1 : Int32} {x2 : Int32} {x3 : Int32} {x4 : Int32} {x5 : Int32} (ho : c = 7 ∨ c = 22) (k1 : x4 < 0 → zEv X d zm_128 (46, [some (.ref 0), some (.int x1), some (.int x2), some (.int x3), some (.int x4), some (.int x5), some (.ref c), none, none, none, none, none, none, none], [], (zS0, R, I, J)) r) (k2 : ¬ (x4 < 0) → zEv X d zm_128 (39, [some (.ref 0), some (.int x1), some (.int x2), some (.int x3), some (.int x4), some (.int x5), some (.ref c), none, none, none, none, none, none, none], [], (zS0, R, I, J)) r) : zEv X d zm_128 (34, [some (.ref 0), some (.int x1), some (.int x2), some (.int x3), some (.int x4), some (.int x5), some (.ref c), none, none, none, none, none, none, none], [], (zS0, R, I, J)) r := by
  rcases ho with rfl | rfl
  · refine zEv_k 2 (f' := (if x4 < 0 then 46 else 39, [some (.ref 0), some (.int x1), some (.int x2), some (.int x3), some (.int x4), some (.int x5), some (.ref 7), none, none, none, none, none, none, none], [], (zS0, R, I, J))) rfl ?_
    exact zEv_if k1 k2
  · refine zEv_k 2 (f' := (if x4 < 0 then 46 else 39, [some (.ref 0), some (.int x1), some (.int x2), some (.int x3), some (.int x4), some (.int x5), some (.ref 22), none, none, none, none, none, none, none], [], (zS0, R, I, J))) rfl ?_
    exact zEv_if k1 k2
theorem b_128_39 {X : zX} {d : Nat} {R : zR} {I : zI} {J : zJ} {r : zA} {c : Nat} {x1 : Int32} {x2 : Int32} {x3 : Int32} {x4 : Int32} {x5 : Int32} (ho : c = 7 ∨ c = 22) (k1 : x4 ≤ 7 → zEv X d zm_128 (50, [some (.ref 0), some (.int x1), some (.int x2), some (.int x3), some (.int x4), some (.int x5), some (.ref c), none, none, none, none, none, none, none], [], (zS0, R, I, J)) r) (k2 : ¬ (x4 ≤ 7) → zEv X d zm_128 (46, [some (.ref 0), some (.int x1), some (.int x2), some (.int x3), some (.int x4), some (.int x5), some (.ref c), none, none, none, none, none, none, none], [], (zS0, R, I, J)) r) : zEv X d zm_128 (39, [some (.ref 0), some (.int x1), some (.int x2), some (.int x3), some (.int x4), some (.int x5), some (.ref c), none, none, none, none, none, none, none], [], (zS0, R, I, J)) r := by
  rcases ho with rfl | rfl
  · refine zEv_k 3 (f' := (if x4 ≤ 7 then 50 else 46, [some (.ref 0), some (.int x1), some (.int x2), some (.int x3), some (.int x4), some (.int x5), some (.ref 7), none, none, none, none, none, none, none], [], (zS0, R, I, J))) rfl ?_
    exact zEv_if k1 k2
  · refine zEv_k 3 (f' := (if x4 ≤ 7 then 50 else 46, [some (.ref 0), some (.int x1), some (.int x2), some (.int x3), some (.int x4), some (.int x5), some (.ref 22), none, none, none, none, none, none, none], [], (zS0, R, I, J))) rfl ?_
    exact zEv_if k1 k2
theorem b_128_46 {X : zX} {d : Nat} {R : zR} {I : zI} {J : zJ} {c : Nat} {x1 : Int32} {x2 : Int32} {x3 : Int32} {x4 : Int32} {x5 : Int32} (ho : c = 7 ∨ c = 22) : zEv X d zm_128 (46, [some (.ref 0), some (.int x1), some (.int x2), some (.int x3), some (.int x4), some (.int x5), some (.ref c), none, none, none, none, none, none, none], [], (zS0, R, I, J)) (some (.long (-1)), (zS0, R, I, J)) := by
  rcases ho with rfl | rfl
  · refine zEv_k 1 (f' := (49, [some (.ref 0), some (.int x1), some (.int x2), some (.int x3), some (.int x4), some (.int x5), some (.ref 7), none, none, none, none, none, none, none], [.long (-1)], (zS0, R, I, J))) rfl ?_
    exact zEv_r rfl
  · refine zEv_k 1 (f' := (49, [some (.ref 0), some (.int x1), some (.int x2), some (.int x3), some (.int x4), some (.int x5), some (.ref 22), none, none, none, none, none, none, none], [.long (-1)], (zS0, R, I, J))) rfl ?_
    exact zEv_r rfl
theorem b_128_46n6 {X : zX} {d : Nat} {R : zR} {I : zI} {J : zJ} {x1 : Int32} {x2 : Int32} {x3 : Int32} {x4 : Int32} {x5 : Int32} : zEv X d zm_128 (46, [some (.ref 0), some (.int x1), some (.int x2), some (.int x3), some (.int x4), some (.int x5), some (.null), none, none, none, none, none, none, none], [], (zS0, R, I, J)) (some (.long (-1)), (zS0, R, I, J)) := by
  refine zEv_k 1 (f' := (49, [some (.ref 0), some (.int x1), some (.int x2), some (.int x3), some (.int x4), some (.int x5), some (.null), none, none, none, none, none, none, none], [.long (-1)], (zS0, R, I, J))) rfl ?_
  exact zEv_r rfl
theorem b_128_50 {X : zX} {d : Nat} {R : zR} {I : zI} {J : zJ} {r : zA} {c : Nat} {x1 : Int32} {x2 : Int32} {x3 : Int32} {x4 : Int32} {x5 : Int32} {w : Int64} {R' : zR} {I' : zI} {J' : zJ} (ho : c = 7 ∨ c = 22) (hc : zEv X d zm_145 (0, [some (.long (Int32.toInt64 x2)), none, some (.int x3), none, none, none], [], (zS0, R, I, J)) (some (.long w), (zS0, R', I', J'))) (k1 : zEv X (d + 1) zm_128 (56, [some (.ref 0), some (.int x1), some (.int x2), some (.int x3), some (.int x4), some (.int x5), some (.ref c), none, none, none, none, none, none, none], [.long w], (zS0, R', I', J')) r) : zEv X (d + 1) zm_128 (50, [some (.ref 0), some (.int x1), some (.int x2), some (.int x3), some (.int x4), some (.int x5), some (.ref c), none, none, none, none, none, none, none], [], (zS0, R, I, J)) r := by
  rcases ho with rfl | rfl
  · refine zEv_k 3 (f' := (53, [some (.ref 0), some (.int x1), some (.int x2), some (.int x3), some (.int x4), some (.int x5), some (.ref 7), none, none, none, none, none, none, none], [.int x3, .long (Int32.toInt64 x2)], (zS0, R, I, J))) rfl ?_
    exact zEv_c (fun _ => rfl) rfl hc rfl rfl k1
  · refine zEv_k 3 (f' := (53, [some (.ref 0), some (.int x1), some (.int x2), some (.int x3), some (.int x4), some (.int x5), some (.ref 22), none, none, none, none, none, none, none], [.int x3, .long (Int32.toInt64 x2)], (zS0, R, I, J))) rfl ?_
    exact zEv_c (fun _ => rfl) rfl hc rfl rfl k1
theorem b_128_56 {X : zX} {d : Nat} {R : zR} {I : zI} {J : zJ} {r : zA} {c : Nat} {x1 : Int32} {x2 : Int32} {x3 : Int32} {x4 : Int32} {x5 : Int32} {s0 : Int64} {w : Int64} {R' : zR} {I' : zI} {J' : zJ} (ho : c = 7 ∨ c = 22) (hc : zEv X d zm_145 (0, [some (.long 10), none, some (.int x3), none, none, none], [], (zS0, R, I, J)) (some (.long w), (zS0, R', I', J'))) (k1 : zEv X (d + 1) zm_128 (65, [some (.ref 0), some (.int x1), some (.int x2), some (.int x3), some (.int x4), some (.int x5), some (.ref c), some (.long s0), none, none, none, none, none, none], [.long w], (zS0, R', I', J')) r) : zEv X (d + 1) zm_128 (56, [some (.ref 0), some (.int x1), some (.int x2), some (.int x3), some (.int x4), some (.int x5), some (.ref c), none, none, none, none, none, none, none], [.long s0], (zS0, R, I, J)) r := by
  rcases ho with rfl | rfl
  · refine zEv_k 3 (f' := (62, [some (.ref 0), some (.int x1), some (.int x2), some (.int x3), some (.int x4), some (.int x5), some (.ref 7), some (.long s0), none, none, none, none, none, none], [.int x3, .long 10], (zS0, R, I, J))) rfl ?_
    exact zEv_c (fun _ => rfl) rfl hc rfl rfl k1
  · refine zEv_k 3 (f' := (62, [some (.ref 0), some (.int x1), some (.int x2), some (.int x3), some (.int x4), some (.int x5), some (.ref 22), some (.long s0), none, none, none, none, none, none], [.int x3, .long 10], (zS0, R, I, J))) rfl ?_
    exact zEv_c (fun _ => rfl) rfl hc rfl rfl k1
theorem b_128_65 {X : zX} {d : Nat} {R : zR} {I : zI} {J : zJ} {r : zA} {c : Nat} {x1 : Int32} {x2 : Int32} {x3 : Int32} {x4 : Int32} {x5 : Int32} {x7 : Int64} {s0 : Int64} (ho : c = 7 ∨ c = 22) (k1 : zEv X d zm_128 (74, [some (.ref 0), some (.int x1), some (.int x2), some (.int x3), some (.int x4), some (.int x5), some (.ref c), some (.long x7), none, some (.long s0), none, some (.long 0), none, some (.int x4)], [], (zS0, R, I, J)) r) : zEv X d zm_128 (65, [some (.ref 0), some (.int x1), some (.int x2), some (.int x3), some (.int x4), some (.int x5), some (.ref c), some (.long x7), none, none, none, none, none, none], [.long s0], (zS0, R, I, J)) r := by
  rcases ho with rfl | rfl
  · refine zEv_k 5 (f' := (74, [some (.ref 0), some (.int x1), some (.int x2), some (.int x3), some (.int x4), some (.int x5), some (.ref 7), some (.long x7), none, some (.long s0), none, some (.long 0), none, some (.int x4)], [], (zS0, R, I, J))) rfl ?_
    exact k1
  · refine zEv_k 5 (f' := (74, [some (.ref 0), some (.int x1), some (.int x2), some (.int x3), some (.int x4), some (.int x5), some (.ref 22), some (.long x7), none, some (.long s0), none, some (.long 0), none, some (.int x4)], [], (zS0, R, I, J))) rfl ?_
    exact k1
theorem b_128_74 {X : zX} {d : Nat} {R : zR} {I : zI} {J : zJ} {r : zA} {c : Nat} {x1 : Int32} {x2 : Int32} {x3 : Int32} {x4 : Int32} {x5 : Int32} {x7 : Int64} {x9 : Int64} {x11 : Int64} {x13 : Int32} (ho : c = 7 ∨ c = 22) (k1 : (I c 2) < x13 → zEv X d zm_128 (130, [some (.ref 0), some (.int x1), some (.int x2), some (.int x3), some (.int x4), some (.int x5), some (.ref c), some (.long x7), none, some (.long x9), none, some (.long x11), none, some (.int x13)], [], (zS0, R, I, J)) r) (k2 : ¬ ((I c 2) < x13) → zEv X d zm_128 (84, [some (.ref 0), some (.int x1), some (.int x2), some (.int x3), some (.int x4), some (.int x5), some (.ref c), some (.long x7), none, some (.long x9), none, some (.long x11), none, some (.int x13)], [], (zS0, R, I, J)) r) : zEv X d zm_128 (74, [some (.ref 0), some (.int x1), some (.int x2), some (.int x3), some (.int x4), some (.int x5), some (.ref c), some (.long x7), none, some (.long x9), none, some (.long x11), none, some (.int x13)], [], (zS0, R, I, J)) r := by
  rcases ho with rfl | rfl
  · refine zEv_k 4 (f' := (if (I 7 2) < x13 then 130 else 84, [some (.ref 0), some (.int x1), some (.int x2), some (.int x3), some (.int x4), some (.int x5), some (.ref 7), some (.long x7), none, some (.long x9), none, some (.long x11), none, some (.int x13)], [], (zS0, R, I, J))) rfl ?_
    exact zEv_if k1 k2
  · refine zEv_k 4 (f' := (if (I 22 2) < x13 then 130 else 84, [some (.ref 0), some (.int x1), some (.int x2), some (.int x3), some (.int x4), some (.int x5), some (.ref 22), some (.long x7), none, some (.long x9), none, some (.long x11), none, some (.int x13)], [], (zS0, R, I, J))) rfl ?_
    exact zEv_if k1 k2
theorem b_128_84 {X : zX} {d : Nat} {R : zR} {I : zI} {J : zJ} {r : zA} {c : Nat} {x1 : Int32} {x2 : Int32} {x3 : Int32} {x4 : Int32} {x5 : Int32} {x7 : Int64} {x9 : Int64} {x11 : Int64} {x13 : Int32} {w : Int64} {R' : zR} {I' : zI} {J' : zJ} (ho : c = 7 ∨ c = 22) (hc : zEv X d zm_146 (0, [some (.int (I c 2)), some (.int x13), none, none, none], [], (zS0, R, I, J)) (some (.long w), (zS0, R', I', J'))) (k1 : zEv X (d + 1) zm_128 (96, [some (.ref 0), some (.int x1), some (.int x2), some (.int x3), some (.int x4), some (.int x5), some (.ref c), some (.long x7), none, some (.long x9), none, some (.long x11), none, some (.int x13)], [.long w, .long x11], (zS0, R', I', J')) r) : zEv X (d + 1) zm_128 (84, [some (.ref 0), some (.int x1), some (.int x2), some (.int x3), some (.int x4), some (.int x5), some (.ref c), some (.long x7), none, some (.long x9), none, some (.long x11), none, some (.int x13)], [], (zS0, R, I, J)) r := by
  rcases ho with rfl | rfl
  · refine zEv_k 4 (f' := (93, [some (.ref 0), some (.int x1), some (.int x2), some (.int x3), some (.int x4), some (.int x5), some (.ref 7), some (.long x7), none, some (.long x9), none, some (.long x11), none, some (.int x13)], [.int x13, .int (I 7 2), .long x11], (zS0, R, I, J))) rfl ?_
    exact zEv_c (fun _ => rfl) rfl hc rfl rfl k1
  · refine zEv_k 4 (f' := (93, [some (.ref 0), some (.int x1), some (.int x2), some (.int x3), some (.int x4), some (.int x5), some (.ref 22), some (.long x7), none, some (.long x9), none, some (.long x11), none, some (.int x13)], [.int x13, .int (I 22 2), .long x11], (zS0, R, I, J))) rfl ?_
    exact zEv_c (fun _ => rfl) rfl hc rfl rfl k1
theorem b_128_96 {X : zX} {d : Nat} {R : zR} {I : zI} {J : zJ} {r : zA} {c : Nat} {x1 : Int32} {x2 : Int32} {x3 : Int32} {x4 : Int32} {x5 : Int32} {x7 : Int64} {x9 : Int64} {x11 : Int64} {x13 : Int32} {s0 : Int64} {s1 : Int64} {w : Int64} {R' : zR} {I' : zI} {J' : zJ} (ho : c = 7 ∨ c = 22) (hc : zEv X d zm_145 (0, [some (.long x7), none, some (.int x13), none, none, none], [], (zS0, R, I, J)) (some (.long w), (zS0, R', I', J'))) (k1 : zEv X (d + 1) zm_128 (103, [some (.ref 0), some (.int x1), some (.int x2), some (.int x3), some (.int x4), some (.int x5), some (.ref c), some (.long x7), none, some (.long x9), none, some (.long x11), none, some (.int x13)], [.long w, .long s1, .long s0], (zS0, R', I', J')) r) : zEv X (d + 1) zm_128 (96, [some (.ref 0), some (.int x1), some (.int x2), some (.int x3), some (.int x4), some (.int x5), some (.ref c), some (.long x7), none, some (.long x9), none, some (.long x11), none, some (.int x13)], [.long s1, .long s0], (zS0, R, I, J)) r := by
  rcases ho with rfl | rfl
  · refine zEv_k 2 (f' := (100, [some (.ref 0), some (.int x1), some (.int x2), some (.int x3), some (.int x4), some (.int x5), some (.ref 7), some (.long x7), none, some (.long x9), none, some (.long x11), none, some (.int x13)], [.int x13, .long x7, .long s1, .long s0], (zS0, R, I, J))) rfl ?_
    exact zEv_c (fun _ => rfl) rfl hc rfl rfl k1
  · refine zEv_k 2 (f' := (100, [some (.ref 0), some (.int x1), some (.int x2), some (.int x3), some (.int x4), some (.int x5), some (.ref 22), some (.long x7), none, some (.long x9), none, some (.long x11), none, some (.int x13)], [.int x13, .long x7, .long s1, .long s0], (zS0, R, I, J))) rfl ?_
    exact zEv_c (fun _ => rfl) rfl hc rfl rfl k1
theorem b_128_103 {X : zX} {d : Nat} {R : zR} {I : zI} {J : zJ} {r : zA} {c : Nat} {x1 : Int32} {x2 : Int32} {x3 : Int32} {x4 : Int32} {x5 : Int32} {x7 : Int64} {x9 : Int64} {x11 : Int64} {x13 : Int32} {s0 : Int64} {s1 : Int64} {s2 : Int64} {w : Int64} {R' : zR} {I' : zI} {J' : zJ} (ho : c = 7 ∨ c = 22) (hc : zEv X d zm_145 (0, [some (.long (x9 - x7)), none, some (.int ((I c 2) - x13)), none, none, none], [], (zS0, R, I, J)) (some (.long w), (zS0, R', I', J'))) (k1 : zEv X (d + 1) zm_128 (120, [some (.ref 0), some (.int x1), some (.int x2), some (.int x3), some (.int x4), some (.int x5), some (.ref c), some (.long x7), none, some (.long x9), none, some (.long x11), none, some (.int x13)], [.long w, .long (s1 * s2), .long s0], (zS0, R', I', J')) r) : zEv X (d + 1) zm_128 (103, [some (.ref 0), some (.int x1), some (.int x2), some (.int x3), some (.int x4), some (.int x5), some (.ref c), some (.long x7), none, some (.long x9), none, some (.long x11), none, some (.int x13)], [.long s2, .long s1, .long s0], (zS0, R, I, J)) r := by
  rcases ho with rfl | rfl
  · refine zEv_k 8 (f' := (117, [some (.ref 0), some (.int x1), some (.int x2), some (.int x3), some (.int x4), some (.int x5), some (.ref 7), some (.long x7), none, some (.long x9), none, some (.long x11), none, some (.int x13)], [.int ((I 7 2) - x13), .long (x9 - x7), .long (s1 * s2), .long s0], (zS0, R, I, J))) rfl ?_
    exact zEv_c (fun _ => rfl) rfl hc rfl rfl k1
  · refine zEv_k 8 (f' := (117, [some (.ref 0), some (.int x1), some (.int x2), some (.int x3), some (.int x4), some (.int x5), some (.ref 22), some (.long x7), none, some (.long x9), none, some (.long x11), none, some (.int x13)], [.int ((I 22 2) - x13), .long (x9 - x7), .long (s1 * s2), .long s0], (zS0, R, I, J))) rfl ?_
    exact zEv_c (fun _ => rfl) rfl hc rfl rfl k1
theorem b_128_120 {X : zX} {d : Nat} {R : zR} {I : zI} {J : zJ} {r : zA} {c : Nat} {x1 : Int32} {x2 : Int32} {x3 : Int32} {x4 : Int32} {x5 : Int32} {x7 : Int64} {x9 : Int64} {x11 : Int64} {x13 : Int32} {s0 : Int64} {s1 : Int64} {s2 : Int64} (ho : c = 7 ∨ c = 22) (k1 : zEv X d zm_128 (74, [some (.ref 0), some (.int x1), some (.int x2), some (.int x3), some (.int x4), some (.int x5), some (.ref c), some (.long x7), none, some (.long x9), none, some (.long (s0 + (s1 * s2))), none, some (.int (x13 + 1))], [], (zS0, R, I, J)) r) : zEv X d zm_128 (120, [some (.ref 0), some (.int x1), some (.int x2), some (.int x3), some (.int x4), some (.int x5), some (.ref c), some (.long x7), none, some (.long x9), none, some (.long x11), none, some (.int x13)], [.long s2, .long s1, .long s0], (zS0, R, I, J)) r := by
  rcases ho with rfl | rfl
  · refine zEv_k 5 (f' := (74, [some (.ref 0), some (.int x1), some (.int x2), some (.int x3), some (.int x4), some (.int x5), some (.ref 7), some (.long x7), none, some (.long x9), none, some (.long (s0 + (s1 * s2))), none, some (.int (x13 + 1))], [], (zS0, R, I, J))) rfl ?_
    exact k1
  · refine zEv_k 5 (f' := (74, [some (.ref 0), some (.int x1), some (.int x2), some (.int x3), some (.int x4), some (.int x5), some (.ref 22), some (.long x7), none, some (.long x9), none, some (.long (s0 + (s1 * s2))), none, some (.int (x13 + 1))], [], (zS0, R, I, J))) rfl ?_
    exact k1
theorem b_128_130 {X : zX} {d : Nat} {R : zR} {I : zI} {J : zJ} {r : zA} {c : Nat} {x1 : Int32} {x2 : Int32} {x3 : Int32} {x4 : Int32} {x5 : Int32} {x7 : Int64} {x9 : Int64} {x11 : Int64} {x13 : Int32} {w : Int64} {R' : zR} {I' : zI} {J' : zJ} (ho : c = 7 ∨ c = 22) (hc : zEv X d zm_145 (0, [some (.long x9), none, some (.int (I c 2)), none, none, none], [], (zS0, R, I, J)) (some (.long w), (zS0, R', I', J'))) (k1 : zEv X (d + 1) zm_128 (142, [some (.ref 0), some (.int x1), some (.int x2), some (.int x3), some (.int x4), some (.int x5), some (.ref c), some (.long x7), none, some (.long x9), none, some (.long x11), none, some (.int x13)], [.long w, .long x11], (zS0, R', I', J')) r) : zEv X (d + 1) zm_128 (130, [some (.ref 0), some (.int x1), some (.int x2), some (.int x3), some (.int x4), some (.int x5), some (.ref c), some (.long x7), none, some (.long x9), none, some (.long x11), none, some (.int x13)], [], (zS0, R, I, J)) r := by
  rcases ho with rfl | rfl
  · refine zEv_k 4 (f' := (139, [some (.ref 0), some (.int x1), some (.int x2), some (.int x3), some (.int x4), some (.int x5), some (.ref 7), some (.long x7), none, some (.long x9), none, some (.long x11), none, some (.int x13)], [.int (I 7 2), .long x9, .long x11], (zS0, R, I, J))) rfl ?_
    exact zEv_c (fun _ => rfl) rfl hc rfl rfl k1
  · refine zEv_k 4 (f' := (139, [some (.ref 0), some (.int x1), some (.int x2), some (.int x3), some (.int x4), some (.int x5), some (.ref 22), some (.long x7), none, some (.long x9), none, some (.long x11), none, some (.int x13)], [.int (I 22 2), .long x9, .long x11], (zS0, R, I, J))) rfl ?_
    exact zEv_c (fun _ => rfl) rfl hc rfl rfl k1
theorem b_128_142 {X : zX} {d : Nat} {R : zR} {I : zI} {J : zJ} {r : zA} {c : Nat} {x1 : Int32} {x2 : Int32} {x3 : Int32} {x4 : Int32} {x5 : Int32} {x7 : Int64} {x9 : Int64} {x11 : Int64} {x13 : Int32} {s0 : Int64} {s1 : Int64} {w : Int64} {R' : zR} {I' : zI} {J' : zJ} (ho : c = 7 ∨ c = 22) (hc : zEv X d zm_147 (0, [some (.long s0), none, some (.long s1), none, some (.int x5), none, none], [], (zS0, R, I, J)) (some (.long w), (zS0, R', I', J'))) (k1 : zEv X (d + 1) zm_128 (147, [some (.ref 0), some (.int x1), some (.int x2), some (.int x3), some (.int x4), some (.int x5), some (.ref c), some (.long x7), none, some (.long x9), none, some (.long x11), none, some (.int x13)], [.long w], (zS0, R', I', J')) r) : zEv X (d + 1) zm_128 (142, [some (.ref 0), some (.int x1), some (.int x2), some (.int x3), some (.int x4), some (.int x5), some (.ref c), some (.long x7), none, some (.long x9), none, some (.long x11), none, some (.int x13)], [.long s1, .long s0], (zS0, R, I, J)) r := by
  rcases ho with rfl | rfl
  · refine zEv_k 1 (f' := (144, [some (.ref 0), some (.int x1), some (.int x2), some (.int x3), some (.int x4), some (.int x5), some (.ref 7), some (.long x7), none, some (.long x9), none, some (.long x11), none, some (.int x13)], [.int x5, .long s1, .long s0], (zS0, R, I, J))) rfl ?_
    exact zEv_c (fun _ => rfl) rfl hc rfl rfl k1
  · refine zEv_k 1 (f' := (144, [some (.ref 0), some (.int x1), some (.int x2), some (.int x3), some (.int x4), some (.int x5), some (.ref 22), some (.long x7), none, some (.long x9), none, some (.long x11), none, some (.int x13)], [.int x5, .long s1, .long s0], (zS0, R, I, J))) rfl ?_
    exact zEv_c (fun _ => rfl) rfl hc rfl rfl k1
theorem b_128_147 {X : zX} {d : Nat} {R : zR} {I : zI} {J : zJ} {c : Nat} {x1 : Int32} {x2 : Int32} {x3 : Int32} {x4 : Int32} {x5 : Int32} {x7 : Int64} {x9 : Int64} {x11 : Int64} {x13 : Int32} {s0 : Int64} (ho : c = 7 ∨ c = 22) : zEv X d zm_128 (147, [some (.ref 0), some (.int x1), some (.int x2), some (.int x3), some (.int x4), some (.int x5), some (.ref c), some (.long x7), none, some (.long x9), none, some (.long x11), none, some (.int x13)], [.long s0], (zS0, R, I, J)) (some (.long s0), (zS0, R, I, J)) := by
  rcases ho with rfl | rfl
  · exact zEv_r rfl
  · exact zEv_r rfl
theorem b_129_0r {X : zX} {d : Nat} {R : zR} {I : zI} {J : zJ} {r : zA} {g : Nat} {x1 : Int32} {x2 : Int32} {x3 : Int32} {R' : zR} {I' : zI} {J' : zJ} (hR : zRok R) (ho : g = 19 ∨ g = 34) (hc : zEv X d zm_91 (0, [some (.ref 1), some (.int x1)], [], (zS0, R, I, J)) (some (.ref g), (zS0, R', I', J'))) (k1 : zEv X (d + 1) zm_129 (8, [some (.ref 0), some (.int x1), some (.int x2), some (.int x3), none], [.ref g], (zS0, R', I', J')) r) : zEv X (d + 1) zm_129 (0, [some (.ref 0), some (.int x1), some (.int x2), some (.int x3), none], [], (zS0, R, I, J)) r := by
  rcases ho with rfl | rfl
  · refine zEv_k 1 (f' := (1, [some (.ref 0), some (.int x1), some (.int x2), some (.int x3), none], [.ref 0], (zS0, R, I, J))) rfl ?_
    refine zEv_gr rfl rfl rfl (by decide) (hR (0) 0 (1) rfl) ?_
    refine zEv_k 1 (f' := (5, [some (.ref 0), some (.int x1), some (.int x2), some (.int x3), none], [.int x1, .ref 1], (zS0, R, I, J))) rfl ?_
    exact zEv_c (fun _ => rfl) rfl hc rfl rfl k1
  · refine zEv_k 1 (f' := (1, [some (.ref 0), some (.int x1), some (.int x2), some (.int x3), none], [.ref 0], (zS0, R, I, J))) rfl ?_
    refine zEv_gr rfl rfl rfl (by decide) (hR (0) 0 (1) rfl) ?_
    refine zEv_k 1 (f' := (5, [some (.ref 0), some (.int x1), some (.int x2), some (.int x3), none], [.int x1, .ref 1], (zS0, R, I, J))) rfl ?_
    exact zEv_c (fun _ => rfl) rfl hc rfl rfl k1
theorem b_129_0n {X : zX} {d : Nat} {R : zR} {I : zI} {J : zJ} {r : zA} {x1 : Int32} {x2 : Int32} {x3 : Int32} {R' : zR} {I' : zI} {J' : zJ} (hR : zRok R) (hc : zEv X d zm_91 (0, [some (.ref 1), some (.int x1)], [], (zS0, R, I, J)) (some .null, (zS0, R', I', J'))) (k1 : zEv X (d + 1) zm_129 (8, [some (.ref 0), some (.int x1), some (.int x2), some (.int x3), none], [.null], (zS0, R', I', J')) r) : zEv X (d + 1) zm_129 (0, [some (.ref 0), some (.int x1), some (.int x2), some (.int x3), none], [], (zS0, R, I, J)) r := by
  refine zEv_k 1 (f' := (1, [some (.ref 0), some (.int x1), some (.int x2), some (.int x3), none], [.ref 0], (zS0, R, I, J))) rfl ?_
  refine zEv_gr rfl rfl rfl (by decide) (hR (0) 0 (1) rfl) ?_
  refine zEv_k 1 (f' := (5, [some (.ref 0), some (.int x1), some (.int x2), some (.int x3), none], [.int x1, .ref 1], (zS0, R, I, J))) rfl ?_
  exact zEv_c (fun _ => rfl) rfl hc rfl rfl k1
theorem b_129_8 {X : zX} {d : Nat} {R : zR} {I : zI} {J : zJ} {r : zA} {g : Nat} {x1 : Int32} {x2 : Int32} {x3 : Int32} (ho : g = 19 ∨ g = 34) (k1 : ¬ x2 = (-1) → zEv X d zm_129 (33, [some (.ref 0), some (.int x1), some (.int x2), some (.int x3), some (.ref g)], [], (zS0, R, I, J)) r) (k2 : ¬ (¬ x2 = (-1)) → zEv X d zm_129 (23, [some (.ref 0), some (.int x1), some (.int x2), some (.int x3), some (.ref g)], [], (zS0, R, I, J)) r) : zEv X d zm_129 (8, [some (.ref 0), some (.int x1), some (.int x2), some (.int x3), none], [.ref g], (zS0, R, I, J)) r := by
  rcases ho with rfl | rfl
  · refine zEv_k 6 (f' := (if ¬ x2 = (-1) then 33 else 23, [some (.ref 0), some (.int x1), some (.int x2), some (.int x3), some (.ref 19)], [], (zS0, R, I, J))) rfl ?_
    exact zEv_if k1 k2
  · refine zEv_k 6 (f' := (if ¬ x2 = (-1) then 33 else 23, [some (.ref 0), some (.int x1), some (.int x2), some (.int x3), some (.ref 34)], [], (zS0, R, I, J))) rfl ?_
    exact zEv_if k1 k2
theorem b_129_8n100 {X : zX} {d : Nat} {R : zR} {I : zI} {J : zJ} {x1 : Int32} {x2 : Int32} {x3 : Int32} : zEv X d zm_129 (8, [some (.ref 0), some (.int x1), some (.int x2), some (.int x3), none], [.null], (zS0, R, I, J)) (some (.int (-2)), (zS0, R, I, J)) := by
  refine zEv_k 4 (f' := (17, [some (.ref 0), some (.int x1), some (.int x2), some (.int x3), some (.null)], [.int (-2)], (zS0, R, I, J))) rfl ?_
  exact zEv_r rfl
theorem b_129_23 {X : zX} {d : Nat} {R : zR} {I : zI} {J : zJ} {r : zA} {g : Nat} {x1 : Int32} {x2 : Int32} {x3 : Int32} (ho : g = 19 ∨ g = 34) (k1 : ¬ x3 = 0 → zEv X d zm_129 (33, [some (.ref 0), some (.int x1), some (.int x2), some (.int x3), some (.ref g)], [], (zS0, R, I, J)) r) (k2 : ¬ (¬ x3 = 0) → zEv X d zm_129 (27, [some (.ref 0), some (.int x1), some (.int x2), some (.int x3), some (.ref g)], [], (zS0, R, I, J)) r) : zEv X d zm_129 (23, [some (.ref 0), some (.int x1), some (.int x2), some (.int x3), some (.ref g)], [], (zS0, R, I, J)) r := by
  rcases ho with rfl | rfl
  · refine zEv_k 2 (f' := (if ¬ x3 = 0 then 33 else 27, [some (.ref 0), some (.int x1), some (.int x2), some (.int x3), some (.ref 19)], [], (zS0, R, I, J))) rfl ?_
    exact zEv_if k1 k2
  · refine zEv_k 2 (f' := (if ¬ x3 = 0 then 33 else 27, [some (.ref 0), some (.int x1), some (.int x2), some (.int x3), some (.ref 34)], [], (zS0, R, I, J))) rfl ?_
    exact zEv_if k1 k2
theorem b_129_27 {X : zX} {d : Nat} {R : zR} {I : zI} {J : zJ} {g : Nat} {x1 : Int32} {x2 : Int32} {x3 : Int32} (ho : g = 19 ∨ g = 34) : zEv X d zm_129 (27, [some (.ref 0), some (.int x1), some (.int x2), some (.int x3), some (.ref g)], [], (zS0, R, I, J)) (some (.int (I g 0)), (zS0, R, I, J)) := by
  rcases ho with rfl | rfl
  · refine zEv_k 2 (f' := (32, [some (.ref 0), some (.int x1), some (.int x2), some (.int x3), some (.ref 19)], [.int (I 19 0)], (zS0, R, I, J))) rfl ?_
    exact zEv_r rfl
  · refine zEv_k 2 (f' := (32, [some (.ref 0), some (.int x1), some (.int x2), some (.int x3), some (.ref 34)], [.int (I 34 0)], (zS0, R, I, J))) rfl ?_
    exact zEv_r rfl
theorem b_129_33 {X : zX} {d : Nat} {R : zR} {I : zI} {J : zJ} {r : zA} {g : Nat} {x1 : Int32} {x2 : Int32} {x3 : Int32} (ho : g = 19 ∨ g = 34) (k1 : x2 < 0 → zEv X d zm_129 (46, [some (.ref 0), some (.int x1), some (.int x2), some (.int x3), some (.ref g)], [], (zS0, R, I, J)) r) (k2 : ¬ (x2 < 0) → zEv X d zm_129 (37, [some (.ref 0), some (.int x1), some (.int x2), some (.int x3), some (.ref g)], [], (zS0, R, I, J)) r) : zEv X d zm_129 (33, [some (.ref 0), some (.int x1), some (.int x2), some (.int x3), some (.ref g)], [], (zS0, R, I, J)) r := by
  rcases ho with rfl | rfl
  · refine zEv_k 2 (f' := (if x2 < 0 then 46 else 37, [some (.ref 0), some (.int x1), some (.int x2), some (.int x3), some (.ref 19)], [], (zS0, R, I, J))) rfl ?_
    exact zEv_if k1 k2
  · refine zEv_k 2 (f' := (if x2 < 0 then 46 else 37, [some (.ref 0), some (.int x1), some (.int x2), some (.int x3), some (.ref 34)], [], (zS0, R, I, J))) rfl ?_
    exact zEv_if k1 k2
theorem b_129_37 {X : zX} {d : Nat} {R : zR} {I : zI} {J : zJ} {r : zA} {g : Nat} {x1 : Int32} {x2 : Int32} {x3 : Int32} (ho : g = 19 ∨ g = 34) (k1 : x2 < (I g 0) → zEv X d zm_129 (49, [some (.ref 0), some (.int x1), some (.int x2), some (.int x3), some (.ref g)], [], (zS0, R, I, J)) r) (k2 : ¬ (x2 < (I g 0)) → zEv X d zm_129 (46, [some (.ref 0), some (.int x1), some (.int x2), some (.int x3), some (.ref g)], [], (zS0, R, I, J)) r) : zEv X d zm_129 (37, [some (.ref 0), some (.int x1), some (.int x2), some (.int x3), some (.ref g)], [], (zS0, R, I, J)) r := by
  rcases ho with rfl | rfl
  · refine zEv_k 4 (f' := (if x2 < (I 19 0) then 49 else 46, [some (.ref 0), some (.int x1), some (.int x2), some (.int x3), some (.ref 19)], [], (zS0, R, I, J))) rfl ?_
    exact zEv_if k1 k2
  · refine zEv_k 4 (f' := (if x2 < (I 34 0) then 49 else 46, [some (.ref 0), some (.int x1), some (.int x2), some (.int x3), some (.ref 34)], [], (zS0, R, I, J))) rfl ?_
    exact zEv_if k1 k2
theorem b_129_46 {X : zX} {d : Nat} {R : zR} {I : zI} {J : zJ} {g : Nat} {x1 : Int32} {x2 : Int32} {x3 : Int32} (ho : g = 19 ∨ g = 34) : zEv X d zm_129 (46, [some (.ref 0), some (.int x1), some (.int x2), some (.int x3), some (.ref g)], [], (zS0, R, I, J)) (some (.int (-2)), (zS0, R, I, J)) := by
  rcases ho with rfl | rfl
  · refine zEv_k 1 (f' := (48, [some (.ref 0), some (.int x1), some (.int x2), some (.int x3), some (.ref 19)], [.int (-2)], (zS0, R, I, J))) rfl ?_
    exact zEv_r rfl
  · refine zEv_k 1 (f' := (48, [some (.ref 0), some (.int x1), some (.int x2), some (.int x3), some (.ref 34)], [.int (-2)], (zS0, R, I, J))) rfl ?_
    exact zEv_r rfl
theorem b_130_0r {X : zX} {d : Nat} {R : zR} {I : zI} {J : zJ} {r : zA} {c : Nat} {x1 : Int32} {x2 : Int32} {x3 : Int32} {R' : zR} {I' : zI} {J' : zJ} (hR : zRok R) (ho : c = 7 ∨ c = 22) (hc : zEv X d zm_89 (0, [some (.ref 1), some (.int x1)], [], (zS0, R, I, J)) (some (.ref c), (zS0, R', I', J'))) (k1 : zEv X (d + 1) zm_130 (8, [some (.ref 0), some (.int x1), some (.int x2), some (.int x3), none, none, none], [.ref c], (zS0, R', I', J')) r) : zEv X (d + 1) zm_130 (0, [some (.ref 0), some (.int x1), some (.int x2), some (.int x3), none, none, none], [], (zS0, R, I, J)) r := by
  rcases ho with rfl | rfl
  · refine zEv_k 1 (f' := (1, [some (.ref 0), some (.int x1), some (.int x2), some (.int x3), none, none, none], [.ref 0], (zS0, R, I, J))) rfl ?_
    refine zEv_gr rfl rfl rfl (by decide) (hR (0) 0 (1) rfl) ?_
    refine zEv_k 1 (f' := (5, [some (.ref 0), some (.int x1), some (.int x2), some (.int x3), none, none, none], [.int x1, .ref 1], (zS0, R, I, J))) rfl ?_
    exact zEv_c (fun _ => rfl) rfl hc rfl rfl k1
  · refine zEv_k 1 (f' := (1, [some (.ref 0), some (.int x1), some (.int x2), some (.int x3), none, none, none], [.ref 0], (zS0, R, I, J))) rfl ?_
    refine zEv_gr rfl rfl rfl (by decide) (hR (0) 0 (1) rfl) ?_
    refine zEv_k 1 (f' := (5, [some (.ref 0), some (.int x1), some (.int x2), some (.int x3), none, none, none], [.int x1, .ref 1], (zS0, R, I, J))) rfl ?_
    exact zEv_c (fun _ => rfl) rfl hc rfl rfl k1
theorem b_130_0n {X : zX} {d : Nat} {R : zR} {I : zI} {J : zJ} {r : zA} {x1 : Int32} {x2 : Int32} {x3 : Int32} {R' : zR} {I' : zI} {J' : zJ} (hR : zRok R) (hc : zEv X d zm_89 (0, [some (.ref 1), some (.int x1)], [], (zS0, R, I, J)) (some .null, (zS0, R', I', J'))) (k1 : zEv X (d + 1) zm_130 (8, [some (.ref 0), some (.int x1), some (.int x2), some (.int x3), none, none, none], [.null], (zS0, R', I', J')) r) : zEv X (d + 1) zm_130 (0, [some (.ref 0), some (.int x1), some (.int x2), some (.int x3), none, none, none], [], (zS0, R, I, J)) r := by
  refine zEv_k 1 (f' := (1, [some (.ref 0), some (.int x1), some (.int x2), some (.int x3), none, none, none], [.ref 0], (zS0, R, I, J))) rfl ?_
  refine zEv_gr rfl rfl rfl (by decide) (hR (0) 0 (1) rfl) ?_
  refine zEv_k 1 (f' := (5, [some (.ref 0), some (.int x1), some (.int x2), some (.int x3), none, none, none], [.int x1, .ref 1], (zS0, R, I, J))) rfl ?_
  exact zEv_c (fun _ => rfl) rfl hc rfl rfl k1
theorem b_130_8r {X : zX} {d : Nat} {R : zR} {I : zI} {J : zJ} {r : zA} {c : Nat} {g : Nat} {x1 : Int32} {x2 : Int32} {x3 : Int32} {R' : zR} {I' : zI} {J' : zJ} (hR : zRok R) (ho : (c = 7 ∧ g = 19) ∨ (c = 7 ∧ g = 34) ∨ (c = 22 ∧ g = 19) ∨ (c = 22 ∧ g = 34)) (hc : zEv X d zm_91 (0, [some (.ref 1), some (.int x2)], [], (zS0, R, I, J)) (some (.ref g), (zS0, R', I', J'))) (k1 : zEv X (d + 1) zm_130 (18, [some (.ref 0), some (.int x1), some (.int x2), some (.int x3), some (.ref c), none, none], [.ref g], (zS0, R', I', J')) r) : zEv X (d + 1) zm_130 (8, [some (.ref 0), some (.int x1), some (.int x2), some (.int x3), none, none, none], [.ref c], (zS0, R, I, J)) r := by
  rcases ho with ⟨rfl, rfl⟩ | ⟨rfl, rfl⟩ | ⟨rfl, rfl⟩ | ⟨rfl, rfl⟩
  · refine zEv_k 2 (f' := (11, [some (.ref 0), some (.int x1), some (.int x2), some (.int x3), some (.ref 7), none, none], [.ref 0], (zS0, R, I, J))) rfl ?_
    refine zEv_gr rfl rfl rfl (by decide) (hR (0) 0 (1) rfl) ?_
    refine zEv_k 1 (f' := (15, [some (.ref 0), some (.int x1), some (.int x2), some (.int x3), some (.ref 7), none, none], [.int x2, .ref 1], (zS0, R, I, J))) rfl ?_
    exact zEv_c (fun _ => rfl) rfl hc rfl rfl k1
  · refine zEv_k 2 (f' := (11, [some (.ref 0), some (.int x1), some (.int x2), some (.int x3), some (.ref 7), none, none], [.ref 0], (zS0, R, I, J))) rfl ?_
    refine zEv_gr rfl rfl rfl (by decide) (hR (0) 0 (1) rfl) ?_
    refine zEv_k 1 (f' := (15, [some (.ref 0), some (.int x1), some (.int x2), some (.int x3), some (.ref 7), none, none], [.int x2, .ref 1], (zS0, R, I, J))) rfl ?_
    exact zEv_c (fun _ => rfl) rfl hc rfl rfl k1
  · refine zEv_k 2 (f' := (11, [some (.ref 0), some (.int x1), some (.int x2), some (.int x3), some (.ref 22), none, none], [.ref 0], (zS0, R, I, J))) rfl ?_
    refine zEv_gr rfl rfl rfl (by decide) (hR (0) 0 (1) rfl) ?_
    refine zEv_k 1 (f' := (15, [some (.ref 0), some (.int x1), some (.int x2), some (.int x3), some (.ref 22), none, none], [.int x2, .ref 1], (zS0, R, I, J))) rfl ?_
    exact zEv_c (fun _ => rfl) rfl hc rfl rfl k1
  · refine zEv_k 2 (f' := (11, [some (.ref 0), some (.int x1), some (.int x2), some (.int x3), some (.ref 22), none, none], [.ref 0], (zS0, R, I, J))) rfl ?_
    refine zEv_gr rfl rfl rfl (by decide) (hR (0) 0 (1) rfl) ?_
    refine zEv_k 1 (f' := (15, [some (.ref 0), some (.int x1), some (.int x2), some (.int x3), some (.ref 22), none, none], [.int x2, .ref 1], (zS0, R, I, J))) rfl ?_
    exact zEv_c (fun _ => rfl) rfl hc rfl rfl k1
theorem b_130_8n {X : zX} {d : Nat} {R : zR} {I : zI} {J : zJ} {r : zA} {c : Nat} {x1 : Int32} {x2 : Int32} {x3 : Int32} {R' : zR} {I' : zI} {J' : zJ} (hR : zRok R) (ho : c = 7 ∨ c = 22) (hc : zEv X d zm_91 (0, [some (.ref 1), some (.int x2)], [], (zS0, R, I, J)) (some .null, (zS0, R', I', J'))) (k1 : zEv X (d + 1) zm_130 (18, [some (.ref 0), some (.int x1), some (.int x2), some (.int x3), some (.ref c), none, none], [.null], (zS0, R', I', J')) r) : zEv X (d + 1) zm_130 (8, [some (.ref 0), some (.int x1), some (.int x2), some (.int x3), none, none, none], [.ref c], (zS0, R, I, J)) r := by
  rcases ho with rfl | rfl
  · refine zEv_k 2 (f' := (11, [some (.ref 0), some (.int x1), some (.int x2), some (.int x3), some (.ref 7), none, none], [.ref 0], (zS0, R, I, J))) rfl ?_
    refine zEv_gr rfl rfl rfl (by decide) (hR (0) 0 (1) rfl) ?_
    refine zEv_k 1 (f' := (15, [some (.ref 0), some (.int x1), some (.int x2), some (.int x3), some (.ref 7), none, none], [.int x2, .ref 1], (zS0, R, I, J))) rfl ?_
    exact zEv_c (fun _ => rfl) rfl hc rfl rfl k1
  · refine zEv_k 2 (f' := (11, [some (.ref 0), some (.int x1), some (.int x2), some (.int x3), some (.ref 22), none, none], [.ref 0], (zS0, R, I, J))) rfl ?_
    refine zEv_gr rfl rfl rfl (by decide) (hR (0) 0 (1) rfl) ?_
    refine zEv_k 1 (f' := (15, [some (.ref 0), some (.int x1), some (.int x2), some (.int x3), some (.ref 22), none, none], [.int x2, .ref 1], (zS0, R, I, J))) rfl ?_
    exact zEv_c (fun _ => rfl) rfl hc rfl rfl k1
theorem b_130_8n100r {X : zX} {d : Nat} {R : zR} {I : zI} {J : zJ} {r : zA} {g : Nat} {x1 : Int32} {x2 : Int32} {x3 : Int32} {R' : zR} {I' : zI} {J' : zJ} (hR : zRok R) (ho : g = 19 ∨ g = 34) (hc : zEv X d zm_91 (0, [some (.ref 1), some (.int x2)], [], (zS0, R, I, J)) (some (.ref g), (zS0, R', I', J'))) (k1 : zEv X (d + 1) zm_130 (18, [some (.ref 0), some (.int x1), some (.int x2), some (.int x3), some (.null), none, none], [.ref g], (zS0, R', I', J')) r) : zEv X (d + 1) zm_130 (8, [some (.ref 0), some (.int x1), some (.int x2), some (.int x3), none, none, none], [.null], (zS0, R, I, J)) r := by
  rcases ho with rfl | rfl
  · refine zEv_k 2 (f' := (11, [some (.ref 0), some (.int x1), some (.int x2), some (.int x3), some (.null), none, none], [.ref 0], (zS0, R, I, J))) rfl ?_
    refine zEv_gr rfl rfl rfl (by decide) (hR (0) 0 (1) rfl) ?_
    refine zEv_k 1 (f' := (15, [some (.ref 0), some (.int x1), some (.int x2), some (.int x3), some (.null), none, none], [.int x2, .ref 1], (zS0, R, I, J))) rfl ?_
    exact zEv_c (fun _ => rfl) rfl hc rfl rfl k1
  · refine zEv_k 2 (f' := (11, [some (.ref 0), some (.int x1), some (.int x2), some (.int x3), some (.null), none, none], [.ref 0], (zS0, R, I, J))) rfl ?_
    refine zEv_gr rfl rfl rfl (by decide) (hR (0) 0 (1) rfl) ?_
    refine zEv_k 1 (f' := (15, [some (.ref 0), some (.int x1), some (.int x2), some (.int x3), some (.null), none, none], [.int x2, .ref 1], (zS0, R, I, J))) rfl ?_
    exact zEv_c (fun _ => rfl) rfl hc rfl rfl k1
theorem b_130_8n100n {X : zX} {d : Nat} {R : zR} {I : zI} {J : zJ} {r : zA} {x1 : Int32} {x2 : Int32} {x3 : Int32} {R' : zR} {I' : zI} {J' : zJ} (hR : zRok R) (hc : zEv X d zm_91 (0, [some (.ref 1), some (.int x2)], [], (zS0, R, I, J)) (some .null, (zS0, R', I', J'))) (k1 : zEv X (d + 1) zm_130 (18, [some (.ref 0), some (.int x1), some (.int x2), some (.int x3), some (.null), none, none], [.null], (zS0, R', I', J')) r) : zEv X (d + 1) zm_130 (8, [some (.ref 0), some (.int x1), some (.int x2), some (.int x3), none, none, none], [.null], (zS0, R, I, J)) r := by
  refine zEv_k 2 (f' := (11, [some (.ref 0), some (.int x1), some (.int x2), some (.int x3), some (.null), none, none], [.ref 0], (zS0, R, I, J))) rfl ?_
  refine zEv_gr rfl rfl rfl (by decide) (hR (0) 0 (1) rfl) ?_
  refine zEv_k 1 (f' := (15, [some (.ref 0), some (.int x1), some (.int x2), some (.int x3), some (.null), none, none], [.int x2, .ref 1], (zS0, R, I, J))) rfl ?_
  exact zEv_c (fun _ => rfl) rfl hc rfl rfl k1
theorem b_130_18 {X : zX} {d : Nat} {R : zR} {I : zI} {J : zJ} {r : zA} {c : Nat} {g : Nat} {x1 : Int32} {x2 : Int32} {x3 : Int32} (ho : (c = 7 ∧ g = 19) ∨ (c = 7 ∧ g = 34) ∨ (c = 22 ∧ g = 19) ∨ (c = 22 ∧ g = 34)) (k1 : 0 ≤ x3 → zEv X d zm_130 (37, [some (.ref 0), some (.int x1), some (.int x2), some (.int x3), some (.ref c), some (.ref g), none], [], (zS0, R, I, J)) r) (k2 : ¬ (0 ≤ x3) → zEv X d zm_130 (34, [some (.ref 0), some (.int x1), some (.int x2), some (.int x3), some (.ref c), some (.ref g), none], [], (zS0, R, I, J)) r) : zEv X d zm_130 (18, [some (.ref 0), some (.int x1), some (.int x2), some (.int x3), some (.ref c), none, none], [.ref g], (zS0, R, I, J)) r := by
  rcases ho with ⟨rfl, rfl⟩ | ⟨rfl, rfl⟩ | ⟨rfl, rfl⟩ | ⟨rfl, rfl⟩
  · refine zEv_k 7 (f' := (if 0 ≤ x3 then 37 else 34, [some (.ref 0), some (.int x1), some (.int x2), some (.int x3), some (.ref 7), some (.ref 19), none], [], (zS0, R, I, J))) rfl ?_
    exact zEv_if k1 k2
  · refine zEv_k 7 (f' := (if 0 ≤ x3 then 37 else 34, [some (.ref 0), some (.int x1), some (.int x2), some (.int x3), some (.ref 7), some (.ref 34), none], [], (zS0, R, I, J))) rfl ?_
    exact zEv_if k1 k2
  · refine zEv_k 7 (f' := (if 0 ≤ x3 then 37 else 34, [some (.ref 0), some (.int x1), some (.int x2), some (.int x3), some (.ref 22), some (.ref 19), none], [], (zS0, R, I, J))) rfl ?_
    exact zEv_if k1 k2
  · refine zEv_k 7 (f' := (if 0 ≤ x3 then 37 else 34, [some (.ref 0), some (.int x1), some (.int x2), some (.int x3), some (.ref 22), some (.ref 34), none], [], (zS0, R, I, J))) rfl ?_
    exact zEv_if k1 k2
theorem b_130_18n4 {X : zX} {d : Nat} {R : zR} {I : zI} {J : zJ} {r : zA} {g : Nat} {x1 : Int32} {x2 : Int32} {x3 : Int32} (ho : g = 19 ∨ g = 34) (k1 : zEv X d zm_130 (34, [some (.ref 0), some (.int x1), some (.int x2), some (.int x3), some (.null), some (.ref g), none], [], (zS0, R, I, J)) r) : zEv X d zm_130 (18, [some (.ref 0), some (.int x1), some (.int x2), some (.int x3), some (.null), none, none], [.ref g], (zS0, R, I, J)) r := by
  rcases ho with rfl | rfl
  · refine zEv_k 3 (f' := (34, [some (.ref 0), some (.int x1), some (.int x2), some (.int x3), some (.null), some (.ref 19), none], [], (zS0, R, I, J))) rfl ?_
    exact k1
  · refine zEv_k 3 (f' := (34, [some (.ref 0), some (.int x1), some (.int x2), some (.int x3), some (.null), some (.ref 34), none], [], (zS0, R, I, J))) rfl ?_
    exact k1
theorem b_130_18n4_100 {X : zX} {d : Nat} {R : zR} {I : zI} {J : zJ} {r : zA} {x1 : Int32} {x2 : Int32} {x3 : Int32} (k1 : zEv X d zm_130 (34, [some (.ref 0), some (.int x1), some (.int x2), some (.int x3), some (.null), some (.null), none], [], (zS0, R, I, J)) r) : zEv X d zm_130 (18, [some (.ref 0), some (.int x1), some (.int x2), some (.int x3), some (.null), none, none], [.null], (zS0, R, I, J)) r := by
  refine zEv_k 3 (f' := (34, [some (.ref 0), some (.int x1), some (.int x2), some (.int x3), some (.null), some (.null), none], [], (zS0, R, I, J))) rfl ?_
  exact k1
theorem b_130_18n100 {X : zX} {d : Nat} {R : zR} {I : zI} {J : zJ} {r : zA} {c : Nat} {x1 : Int32} {x2 : Int32} {x3 : Int32} (ho : c = 7 ∨ c = 22) (k1 : zEv X d zm_130 (34, [some (.ref 0), some (.int x1), some (.int x2), some (.int x3), some (.ref c), some (.null), none], [], (zS0, R, I, J)) r) : zEv X d zm_130 (18, [some (.ref 0), some (.int x1), some (.int x2), some (.int x3), some (.ref c), none, none], [.null], (zS0, R, I, J)) r := by
  rcases ho with rfl | rfl
  · refine zEv_k 5 (f' := (34, [some (.ref 0), some (.int x1), some (.int x2), some (.int x3), some (.ref 7), some (.null), none], [], (zS0, R, I, J))) rfl ?_
    exact k1
  · refine zEv_k 5 (f' := (34, [some (.ref 0), some (.int x1), some (.int x2), some (.int x3), some (.ref 22), some (.null), none], [], (zS0, R, I, J))) rfl ?_
    exact k1
theorem b_130_34 {X : zX} {d : Nat} {R : zR} {I : zI} {J : zJ} {c : Nat} {g : Nat} {x1 : Int32} {x2 : Int32} {x3 : Int32} (ho : (c = 7 ∧ g = 19) ∨ (c = 7 ∧ g = 34) ∨ (c = 22 ∧ g = 19) ∨ (c = 22 ∧ g = 34)) : zEv X d zm_130 (34, [some (.ref 0), some (.int x1), some (.int x2), some (.int x3), some (.ref c), some (.ref g), none], [], (zS0, R, I, J)) (some (.int (-2)), (zS0, R, I, J)) := by
  rcases ho with ⟨rfl, rfl⟩ | ⟨rfl, rfl⟩ | ⟨rfl, rfl⟩ | ⟨rfl, rfl⟩
  · refine zEv_k 1 (f' := (36, [some (.ref 0), some (.int x1), some (.int x2), some (.int x3), some (.ref 7), some (.ref 19), none], [.int (-2)], (zS0, R, I, J))) rfl ?_
    exact zEv_r rfl
  · refine zEv_k 1 (f' := (36, [some (.ref 0), some (.int x1), some (.int x2), some (.int x3), some (.ref 7), some (.ref 34), none], [.int (-2)], (zS0, R, I, J))) rfl ?_
    exact zEv_r rfl
  · refine zEv_k 1 (f' := (36, [some (.ref 0), some (.int x1), some (.int x2), some (.int x3), some (.ref 22), some (.ref 19), none], [.int (-2)], (zS0, R, I, J))) rfl ?_
    exact zEv_r rfl
  · refine zEv_k 1 (f' := (36, [some (.ref 0), some (.int x1), some (.int x2), some (.int x3), some (.ref 22), some (.ref 34), none], [.int (-2)], (zS0, R, I, J))) rfl ?_
    exact zEv_r rfl
theorem b_130_34n4 {X : zX} {d : Nat} {R : zR} {I : zI} {J : zJ} {g : Nat} {x1 : Int32} {x2 : Int32} {x3 : Int32} (ho : g = 19 ∨ g = 34) : zEv X d zm_130 (34, [some (.ref 0), some (.int x1), some (.int x2), some (.int x3), some (.null), some (.ref g), none], [], (zS0, R, I, J)) (some (.int (-2)), (zS0, R, I, J)) := by
  rcases ho with rfl | rfl
  · refine zEv_k 1 (f' := (36, [some (.ref 0), some (.int x1), some (.int x2), some (.int x3), some (.null), some (.ref 19), none], [.int (-2)], (zS0, R, I, J))) rfl ?_
    exact zEv_r rfl
  · refine zEv_k 1 (f' := (36, [some (.ref 0), some (.int x1), some (.int x2), some (.int x3), some (.null), some (.ref 34), none], [.int (-2)], (zS0, R, I, J))) rfl ?_
    exact zEv_r rfl
theorem b_130_34n4_5 {X : zX} {d : Nat} {R : zR} {I : zI} {J : zJ} {x1 : Int32} {x2 : Int32} {x3 : Int32} : zEv X d zm_130 (34, [some (.ref 0), some (.int x1), some (.int x2), some (.int x3), some (.null), some (.null), none], [], (zS0, R, I, J)) (some (.int (-2)), (zS0, R, I, J)) := by
  refine zEv_k 1 (f' := (36, [some (.ref 0), some (.int x1), some (.int x2), some (.int x3), some (.null), some (.null), none], [.int (-2)], (zS0, R, I, J))) rfl ?_
  exact zEv_r rfl
theorem b_130_34n5 {X : zX} {d : Nat} {R : zR} {I : zI} {J : zJ} {c : Nat} {x1 : Int32} {x2 : Int32} {x3 : Int32} (ho : c = 7 ∨ c = 22) : zEv X d zm_130 (34, [some (.ref 0), some (.int x1), some (.int x2), some (.int x3), some (.ref c), some (.null), none], [], (zS0, R, I, J)) (some (.int (-2)), (zS0, R, I, J)) := by
  rcases ho with rfl | rfl
  · refine zEv_k 1 (f' := (36, [some (.ref 0), some (.int x1), some (.int x2), some (.int x3), some (.ref 7), some (.null), none], [.int (-2)], (zS0, R, I, J))) rfl ?_
    exact zEv_r rfl
  · refine zEv_k 1 (f' := (36, [some (.ref 0), some (.int x1), some (.int x2), some (.int x3), some (.ref 22), some (.null), none], [.int (-2)], (zS0, R, I, J))) rfl ?_
    exact zEv_r rfl
theorem b_130_37 {X : zX} {d : Nat} {R : zR} {I : zI} {J : zJ} {r : zA} {c : Nat} {g : Nat} {x1 : Int32} {x2 : Int32} {x3 : Int32} {R' : zR} {I' : zI} {J' : zJ} (hR : zRok R) (ho : (c = 7 ∧ g = 19) ∨ (c = 7 ∧ g = 34) ∨ (c = 22 ∧ g = 19) ∨ (c = 22 ∧ g = 34)) (hc : zEv X d zm_16 (0, [some (.ref 196), some (.int x1), some (.ref c), some (.ref g), none], [], (zS0, R, I, J)) (none, (zS0, R', I', J'))) (k1 : zEv X (d + 1) zm_130 (49, [some (.ref 0), some (.int x1), some (.int x2), some (.int x3), some (.ref c), some (.ref g), none], [], (zS0, R', I', J')) r) : zEv X (d + 1) zm_130 (37, [some (.ref 0), some (.int x1), some (.int x2), some (.int x3), some (.ref c), some (.ref g), none], [], (zS0, R, I, J)) r := by
  rcases ho with ⟨rfl, rfl⟩ | ⟨rfl, rfl⟩ | ⟨rfl, rfl⟩ | ⟨rfl, rfl⟩
  · refine zEv_k 1 (f' := (38, [some (.ref 0), some (.int x1), some (.int x2), some (.int x3), some (.ref 7), some (.ref 19), none], [.ref 0], (zS0, R, I, J))) rfl ?_
    refine zEv_gr rfl rfl rfl (by decide) (hR (0) 8 (196) rfl) ?_
    refine zEv_k 3 (f' := (46, [some (.ref 0), some (.int x1), some (.int x2), some (.int x3), some (.ref 7), some (.ref 19), none], [.ref 19, .ref 7, .int x1, .ref 196], (zS0, R, I, J))) rfl ?_
    exact zEv_c (fun _ => rfl) rfl hc rfl rfl k1
  · refine zEv_k 1 (f' := (38, [some (.ref 0), some (.int x1), some (.int x2), some (.int x3), some (.ref 7), some (.ref 34), none], [.ref 0], (zS0, R, I, J))) rfl ?_
    refine zEv_gr rfl rfl rfl (by decide) (hR (0) 8 (196) rfl) ?_
    refine zEv_k 3 (f' := (46, [some (.ref 0), some (.int x1), some (.int x2), some (.int x3), some (.ref 7), some (.ref 34), none], [.ref 34, .ref 7, .int x1, .ref 196], (zS0, R, I, J))) rfl ?_
    exact zEv_c (fun _ => rfl) rfl hc rfl rfl k1
  · refine zEv_k 1 (f' := (38, [some (.ref 0), some (.int x1), some (.int x2), some (.int x3), some (.ref 22), some (.ref 19), none], [.ref 0], (zS0, R, I, J))) rfl ?_
    refine zEv_gr rfl rfl rfl (by decide) (hR (0) 8 (196) rfl) ?_
    refine zEv_k 3 (f' := (46, [some (.ref 0), some (.int x1), some (.int x2), some (.int x3), some (.ref 22), some (.ref 19), none], [.ref 19, .ref 22, .int x1, .ref 196], (zS0, R, I, J))) rfl ?_
    exact zEv_c (fun _ => rfl) rfl hc rfl rfl k1
  · refine zEv_k 1 (f' := (38, [some (.ref 0), some (.int x1), some (.int x2), some (.int x3), some (.ref 22), some (.ref 34), none], [.ref 0], (zS0, R, I, J))) rfl ?_
    refine zEv_gr rfl rfl rfl (by decide) (hR (0) 8 (196) rfl) ?_
    refine zEv_k 3 (f' := (46, [some (.ref 0), some (.int x1), some (.int x2), some (.int x3), some (.ref 22), some (.ref 34), none], [.ref 34, .ref 22, .int x1, .ref 196], (zS0, R, I, J))) rfl ?_
    exact zEv_c (fun _ => rfl) rfl hc rfl rfl k1
theorem b_130_49 {X : zX} {d : Nat} {R : zR} {I : zI} {J : zJ} {r : zA} {c : Nat} {g : Nat} {x1 : Int32} {x2 : Int32} {x3 : Int32} (ho : (c = 7 ∧ g = 19) ∨ (c = 7 ∧ g = 34) ∨ (c = 22 ∧ g = 19) ∨ (c = 22 ∧ g = 34)) (k0 : x3 = 0 → zEv X d zm_130 (80, [some (.ref 0), some (.int x1), some (.int x2), some (.int x3), some (.ref c), some (.ref g), none], [], (zS0, R, I, J)) r) (k1 : x3 = 1 → zEv X d zm_130 (88, [some (.ref 0), some (.int x1), some (.int x2), some (.int x3), some (.ref c), some (.ref g), none], [], (zS0, R, I, J)) r) (k2 : x3 = 2 → zEv X d zm_130 (96, [some (.ref 0), some (.int x1), some (.int x2), some (.int x3), some (.ref c), some (.ref g), none], [], (zS0, R, I, J)) r) (k3 : x3 = 3 → zEv X d zm_130 (104, [some (.ref 0), some (.int x1), some (.int x2), some (.int x3), some (.ref c), some (.ref g), none], [], (zS0, R, I, J)) r) (kd : ¬ (0 ≤ (x3 : Int32).toInt ∧ (x3 : Int32).toInt ≤ 3) → zEv X d zm_130 (112, [some (.ref 0), some (.int x1), some (.int x2), some (.int x3), some (.ref c), some (.ref g), none], [], (zS0, R, I, J)) r) : zEv X d zm_130 (49, [some (.ref 0), some (.int x1), some (.int x2), some (.int x3), some (.ref c), some (.ref g), none], [], (zS0, R, I, J)) r := by
  rcases ho with ⟨rfl, rfl⟩ | ⟨rfl, rfl⟩ | ⟨rfl, rfl⟩ | ⟨rfl, rfl⟩
  · refine zEv_k 1 (f' := (50, [some (.ref 0), some (.int x1), some (.int x2), some (.int x3), some (.ref 7), some (.ref 19), none], [.int x3], (zS0, R, I, J))) rfl ?_
    refine zEv_ts rfl (by decide) (by decide) (by decide) (fun hh => ?_) (fun j hj hh => ?_)
    · exact kd (by omega)
    · rcases (by have hj2 : j < 4 := hj; omega : j = 0 ∨ j = 1 ∨ j = 2 ∨ j = 3) with rfl | rfl | rfl | rfl
      · exact k0 (zeqI hh (by decide))
      · exact k1 (zeqI hh (by decide))
      · exact k2 (zeqI hh (by decide))
      · exact k3 (zeqI hh (by decide))
  · refine zEv_k 1 (f' := (50, [some (.ref 0), some (.int x1), some (.int x2), some (.int x3), some (.ref 7), some (.ref 34), none], [.int x3], (zS0, R, I, J))) rfl ?_
    refine zEv_ts rfl (by decide) (by decide) (by decide) (fun hh => ?_) (fun j hj hh => ?_)
    · exact kd (by omega)
    · rcases (by have hj2 : j < 4 := hj; omega : j = 0 ∨ j = 1 ∨ j = 2 ∨ j = 3) with rfl | rfl | rfl | rfl
      · exact k0 (zeqI hh (by decide))
      · exact k1 (zeqI hh (by decide))
      · exact k2 (zeqI hh (by decide))
      · exact k3 (zeqI hh (by decide))
  · refine zEv_k 1 (f' := (50, [some (.ref 0), some (.int x1), some (.int x2), some (.int x3), some (.ref 22), some (.ref 19), none], [.int x3], (zS0, R, I, J))) rfl ?_
    refine zEv_ts rfl (by decide) (by decide) (by decide) (fun hh => ?_) (fun j hj hh => ?_)
    · exact kd (by omega)
    · rcases (by have hj2 : j < 4 := hj; omega : j = 0 ∨ j = 1 ∨ j = 2 ∨ j = 3) with rfl | rfl | rfl | rfl
      · exact k0 (zeqI hh (by decide))
      · exact k1 (zeqI hh (by decide))
      · exact k2 (zeqI hh (by decide))
      · exact k3 (zeqI hh (by decide))
  · refine zEv_k 1 (f' := (50, [some (.ref 0), some (.int x1), some (.int x2), some (.int x3), some (.ref 22), some (.ref 34), none], [.int x3], (zS0, R, I, J))) rfl ?_
    refine zEv_ts rfl (by decide) (by decide) (by decide) (fun hh => ?_) (fun j hj hh => ?_)
    · exact kd (by omega)
    · rcases (by have hj2 : j < 4 := hj; omega : j = 0 ∨ j = 1 ∨ j = 2 ∨ j = 3) with rfl | rfl | rfl | rfl
      · exact k0 (zeqI hh (by decide))
      · exact k1 (zeqI hh (by decide))
      · exact k2 (zeqI hh (by decide))
      · exact k3 (zeqI hh (by decide))
theorem b_130_80 {X : zX} {d : Nat} {R : zR} {I : zI} {J : zJ} {c : Nat} {g : Nat} {x1 : Int32} {x2 : Int32} {x3 : Int32} (hR : zRok R) (ho : (c = 7 ∧ g = 19) ∨ (c = 7 ∧ g = 34) ∨ (c = 22 ∧ g = 19) ∨ (c = 22 ∧ g = 34)) : zEv X d zm_130 (80, [some (.ref 0), some (.int x1), some (.int x2), some (.int x3), some (.ref c), some (.ref g), none], [], (zS0, R, I, J)) (some (.int (I 196 0)), (zS0, R, I, J)) := by
  rcases ho with ⟨rfl, rfl⟩ | ⟨rfl, rfl⟩ | ⟨rfl, rfl⟩ | ⟨rfl, rfl⟩
  · refine zEv_k 1 (f' := (81, [some (.ref 0), some (.int x1), some (.int x2), some (.int x3), some (.ref 7), some (.ref 19), none], [.ref 0], (zS0, R, I, J))) rfl ?_
    refine zEv_gr rfl rfl rfl (by decide) (hR (0) 8 (196) rfl) ?_
    refine zEv_k 1 (f' := (87, [some (.ref 0), some (.int x1), some (.int x2), some (.int x3), some (.ref 7), some (.ref 19), none], [.int (I 196 0)], (zS0, R, I, J))) rfl ?_
    exact zEv_r rfl
  · refine zEv_k 1 (f' := (81, [some (.ref 0), some (.int x1), some (.int x2), some (.int x3), some (.ref 7), some (.ref 34), none], [.ref 0], (zS0, R, I, J))) rfl ?_
    refine zEv_gr rfl rfl rfl (by decide) (hR (0) 8 (196) rfl) ?_
    refine zEv_k 1 (f' := (87, [some (.ref 0), some (.int x1), some (.int x2), some (.int x3), some (.ref 7), some (.ref 34), none], [.int (I 196 0)], (zS0, R, I, J))) rfl ?_
    exact zEv_r rfl
  · refine zEv_k 1 (f' := (81, [some (.ref 0), some (.int x1), some (.int x2), some (.int x3), some (.ref 22), some (.ref 19), none], [.ref 0], (zS0, R, I, J))) rfl ?_
    refine zEv_gr rfl rfl rfl (by decide) (hR (0) 8 (196) rfl) ?_
    refine zEv_k 1 (f' := (87, [some (.ref 0), some (.int x1), some (.int x2), some (.int x3), some (.ref 22), some (.ref 19), none], [.int (I 196 0)], (zS0, R, I, J))) rfl ?_
    exact zEv_r rfl
  · refine zEv_k 1 (f' := (81, [some (.ref 0), some (.int x1), some (.int x2), some (.int x3), some (.ref 22), some (.ref 34), none], [.ref 0], (zS0, R, I, J))) rfl ?_
    refine zEv_gr rfl rfl rfl (by decide) (hR (0) 8 (196) rfl) ?_
    refine zEv_k 1 (f' := (87, [some (.ref 0), some (.int x1), some (.int x2), some (.int x3), some (.ref 22), some (.ref 34), none], [.int (I 196 0)], (zS0, R, I, J))) rfl ?_
    exact zEv_r rfl
theorem b_130_88 {X : zX} {d : Nat} {R : zR} {I : zI} {J : zJ} {r : zA} {c : Nat} {g : Nat} {x1 : Int32} {x2 : Int32} {x3 : Int32} {w : Int32} {R' : zR} {I' : zI} {J' : zJ} (hR : zRok R) (ho : (c = 7 ∧ g = 19) ∨ (c = 7 ∧ g = 34) ∨ (c = 22 ∧ g = 19) ∨ (c = 22 ∧ g = 34)) (hc : zEv X d zm_20 (0, [some (.ref 196), none], [], (zS0, R, I, J)) (some (.int w), (zS0, R', I', J'))) (k1 : zEv X (d + 1) zm_130 (95, [some (.ref 0), some (.int x1), some (.int x2), some (.int x3), some (.ref c), some (.ref g), none], [.int w], (zS0, R', I', J')) r) : zEv X (d + 1) zm_130 (88, [some (.ref 0), some (.int x1), some (.int x2), some (.int x3), some (.ref c), some (.ref g), none], [], (zS0, R, I, J)) r := by
  rcases ho with ⟨rfl, rfl⟩ | ⟨rfl, rfl⟩ | ⟨rfl, rfl⟩ | ⟨rfl, rfl⟩
  · refine zEv_k 1 (f' := (89, [some (.ref 0), some (.int x1), some (.int x2), some (.int x3), some (.ref 7), some (.ref 19), none], [.ref 0], (zS0, R, I, J))) rfl ?_
    refine zEv_gr rfl rfl rfl (by decide) (hR (0) 8 (196) rfl) ?_
    exact zEv_c (fun _ => rfl) rfl hc rfl rfl k1
  · refine zEv_k 1 (f' := (89, [some (.ref 0), some (.int x1), some (.int x2), some (.int x3), some (.ref 7), some (.ref 34), none], [.ref 0], (zS0, R, I, J))) rfl ?_
    refine zEv_gr rfl rfl rfl (by decide) (hR (0) 8 (196) rfl) ?_
    exact zEv_c (fun _ => rfl) rfl hc rfl rfl k1
  · refine zEv_k 1 (f' := (89, [some (.ref 0), some (.int x1), some (.int x2), some (.int x3), some (.ref 22), some (.ref 19), none], [.ref 0], (zS0, R, I, J))) rfl ?_
    refine zEv_gr rfl rfl rfl (by decide) (hR (0) 8 (196) rfl) ?_
    exact zEv_c (fun _ => rfl) rfl hc rfl rfl k1
  · refine zEv_k 1 (f' := (89, [some (.ref 0), some (.int x1), some (.int x2), some (.int x3), some (.ref 22), some (.ref 34), none], [.ref 0], (zS0, R, I, J))) rfl ?_
    refine zEv_gr rfl rfl rfl (by decide) (hR (0) 8 (196) rfl) ?_
    exact zEv_c (fun _ => rfl) rfl hc rfl rfl k1
theorem b_130_95 {X : zX} {d : Nat} {R : zR} {I : zI} {J : zJ} {c : Nat} {g : Nat} {x1 : Int32} {x2 : Int32} {x3 : Int32} {s0 : Int32} (ho : (c = 7 ∧ g = 19) ∨ (c = 7 ∧ g = 34) ∨ (c = 22 ∧ g = 19) ∨ (c = 22 ∧ g = 34)) : zEv X d zm_130 (95, [some (.ref 0), some (.int x1), some (.int x2), some (.int x3), some (.ref c), some (.ref g), none], [.int s0], (zS0, R, I, J)) (some (.int s0), (zS0, R, I, J)) := by
  rcases ho with ⟨rfl, rfl⟩ | ⟨rfl, rfl⟩ | ⟨rfl, rfl⟩ | ⟨rfl, rfl⟩
  · exact zEv_r rfl
  · exact zEv_r rfl
  · exact zEv_r rfl
  · exact zEv_r rfl
theorem b_130_96 {X : zX} {d : Nat} {R : zR} {I : zI} {J : zJ} {r : zA} {c : Nat} {g : Nat} {x1 : Int32} {x2 : Int32} {x3 : Int32} {w : Int32} {R' : zR} {I' : zI} {J' : zJ} (hR : zRok R) (ho : (c = 7 ∧ g = 19) ∨ (c = 7 ∧ g = 34) ∨ (c = 22 ∧ g = 19) ∨ (c = 22 ∧ g = 34)) (hc : zEv X d zm_21 (0, [some (.ref 196)], [], (zS0, R, I, J)) (some (.int w), (zS0, R', I', J'))) (k1 : zEv X (d + 1) zm_130 (103, [some (.ref 0), some (.int x1), some (.int x2), some (.int x3), some (.ref c), some (.ref g), none], [.int w], (zS0, R', I', J')) r) : zEv X (d + 1) zm_130 (96, [some (.ref 0), some (.int x1), some (.int x2), some (.int x3), some (.ref c), some (.ref g), none], [], (zS0, R, I, J)) r := by
  rcases ho with ⟨rfl, rfl⟩ | ⟨rfl, rfl⟩ | ⟨rfl, rfl⟩ | ⟨rfl, rfl⟩
  · refine zEv_k 1 (f' := (97, [some (.ref 0), some (.int x1), some (.int x2), some (.int x3), some (.ref 7), some (.ref 19), none], [.ref 0], (zS0, R, I, J))) rfl ?_
    refine zEv_gr rfl rfl rfl (by decide) (hR (0) 8 (196) rfl) ?_
    exact zEv_c (fun _ => rfl) rfl hc rfl rfl k1
  · refine zEv_k 1 (f' := (97, [some (.ref 0), some (.int x1), some (.int x2), some (.int x3), some (.ref 7), some (.ref 34), none], [.ref 0], (zS0, R, I, J))) rfl ?_
    refine zEv_gr rfl rfl rfl (by decide) (hR (0) 8 (196) rfl) ?_
    exact zEv_c (fun _ => rfl) rfl hc rfl rfl k1
  · refine zEv_k 1 (f' := (97, [some (.ref 0), some (.int x1), some (.int x2), some (.int x3), some (.ref 22), some (.ref 19), none], [.ref 0], (zS0, R, I, J))) rfl ?_
    refine zEv_gr rfl rfl rfl (by decide) (hR (0) 8 (196) rfl) ?_
    exact zEv_c (fun _ => rfl) rfl hc rfl rfl k1
  · refine zEv_k 1 (f' := (97, [some (.ref 0), some (.int x1), some (.int x2), some (.int x3), some (.ref 22), some (.ref 34), none], [.ref 0], (zS0, R, I, J))) rfl ?_
    refine zEv_gr rfl rfl rfl (by decide) (hR (0) 8 (196) rfl) ?_
    exact zEv_c (fun _ => rfl) rfl hc rfl rfl k1
theorem b_130_103 {X : zX} {d : Nat} {R : zR} {I : zI} {J : zJ} {c : Nat} {g : Nat} {x1 : Int32} {x2 : Int32} {x3 : Int32} {s0 : Int32} (ho : (c = 7 ∧ g = 19) ∨ (c = 7 ∧ g = 34) ∨ (c = 22 ∧ g = 19) ∨ (c = 22 ∧ g = 34)) : zEv X d zm_130 (103, [some (.ref 0), some (.int x1), some (.int x2), some (.int x3), some (.ref c), some (.ref g), none], [.int s0], (zS0, R, I, J)) (some (.int s0), (zS0, R, I, J)) := by
  rcases ho with ⟨rfl, rfl⟩ | ⟨rfl, rfl⟩ | ⟨rfl, rfl⟩ | ⟨rfl, rfl⟩
  · exact zEv_r rfl
  · exact zEv_r rfl
  · exact zEv_r rfl
  · exact zEv_r rfl
theorem b_130_104 {X : zX} {d : Nat} {R : zR} {I : zI} {J : zJ} {r : zA} {c : Nat} {g : Nat} {x1 : Int32} {x2 : Int32} {x3 : Int32} {w : Int32} {R' : zR} {I' : zI} {J' : zJ} (hR : zRok R) (ho : (c = 7 ∧ g = 19) ∨ (c = 7 ∧ g = 34) ∨ (c = 22 ∧ g = 19) ∨ (c = 22 ∧ g = 34)) (hc : zEv X d zm_25 (0, [some (.ref 196), none, none, none, none], [], (zS0, R, I, J)) (some (.int w), (zS0, R', I', J'))) (k1 : zEv X (d + 1) zm_130 (111, [some (.ref 0), some (.int x1), some (.int x2), some (.int x3), some (.ref c), some (.ref g), none], [.int w], (zS0, R', I', J')) r) : zEv X (d + 1) zm_130 (104, [some (.ref 0), some (.int x1), some (.int x2), some (.int x3), some (.ref c), some (.ref g), none], [], (zS0, R, I, J)) r := by
  rcases ho with ⟨rfl, rfl⟩ | ⟨rfl, rfl⟩ | ⟨rfl, rfl⟩ | ⟨rfl, rfl⟩
  · refine zEv_k 1 (f' := (105, [some (.ref 0), some (.int x1), some (.int x2), some (.int x3), some (.ref 7), some (.ref 19), none], [.ref 0], (zS0, R, I, J))) rfl ?_
    refine zEv_gr rfl rfl rfl (by decide) (hR (0) 8 (196) rfl) ?_
    exact zEv_c (fun _ => rfl) rfl hc rfl rfl k1
  · refine zEv_k 1 (f' := (105, [some (.ref 0), some (.int x1), some (.int x2), some (.int x3), some (.ref 7), some (.ref 34), none], [.ref 0], (zS0, R, I, J))) rfl ?_
    refine zEv_gr rfl rfl rfl (by decide) (hR (0) 8 (196) rfl) ?_
    exact zEv_c (fun _ => rfl) rfl hc rfl rfl k1
  · refine zEv_k 1 (f' := (105, [some (.ref 0), some (.int x1), some (.int x2), some (.int x3), some (.ref 22), some (.ref 19), none], [.ref 0], (zS0, R, I, J))) rfl ?_
    refine zEv_gr rfl rfl rfl (by decide) (hR (0) 8 (196) rfl) ?_
    exact zEv_c (fun _ => rfl) rfl hc rfl rfl k1
  · refine zEv_k 1 (f' := (105, [some (.ref 0), some (.int x1), some (.int x2), some (.int x3), some (.ref 22), some (.ref 34), none], [.ref 0], (zS0, R, I, J))) rfl ?_
    refine zEv_gr rfl rfl rfl (by decide) (hR (0) 8 (196) rfl) ?_
    exact zEv_c (fun _ => rfl) rfl hc rfl rfl k1
theorem b_130_111 {X : zX} {d : Nat} {R : zR} {I : zI} {J : zJ} {c : Nat} {g : Nat} {x1 : Int32} {x2 : Int32} {x3 : Int32} {s0 : Int32} (ho : (c = 7 ∧ g = 19) ∨ (c = 7 ∧ g = 34) ∨ (c = 22 ∧ g = 19) ∨ (c = 22 ∧ g = 34)) : zEv X d zm_130 (111, [some (.ref 0), some (.int x1), some (.int x2), some (.int x3), some (.ref c), some (.ref g), none], [.int s0], (zS0, R, I, J)) (some (.int s0), (zS0, R, I, J)) := by
  rcases ho with ⟨rfl, rfl⟩ | ⟨rfl, rfl⟩ | ⟨rfl, rfl⟩ | ⟨rfl, rfl⟩
  · exact zEv_r rfl
  · exact zEv_r rfl
  · exact zEv_r rfl
  · exact zEv_r rfl
theorem b_130_112 {X : zX} {d : Nat} {R : zR} {I : zI} {J : zJ} {r : zA} {c : Nat} {g : Nat} {x1 : Int32} {x2 : Int32} {x3 : Int32} (ho : (c = 7 ∧ g = 19) ∨ (c = 7 ∧ g = 34) ∨ (c = 22 ∧ g = 19) ∨ (c = 22 ∧ g = 34)) (k1 : (x3 - 10) < 0 → zEv X d zm_130 (148, [some (.ref 0), some (.int x1), some (.int x2), some (.int x3), some (.ref c), some (.ref g), some (.int (x3 - 10))], [], (zS0, R, I, J)) r) (k2 : ¬ ((x3 - 10) < 0) → zEv X d zm_130 (123, [some (.ref 0), some (.int x1), some (.int x2), some (.int x3), some (.ref c), some (.ref g), some (.int (x3 - 10))], [], (zS0, R, I, J)) r) : zEv X d zm_130 (112, [some (.ref 0), some (.int x1), some (.int x2), some (.int x3), some (.ref c), some (.ref g), none], [], (zS0, R, I, J)) r := by
  rcases ho with ⟨rfl, rfl⟩ | ⟨rfl, rfl⟩ | ⟨rfl, rfl⟩ | ⟨rfl, rfl⟩
  · refine zEv_k 6 (f' := (if (x3 - 10) < 0 then 148 else 123, [some (.ref 0), some (.int x1), some (.int x2), some (.int x3), some (.ref 7), some (.ref 19), some (.int (x3 - 10))], [], (zS0, R, I, J))) rfl ?_
    exact zEv_if k1 k2
  · refine zEv_k 6 (f' := (if (x3 - 10) < 0 then 148 else 123, [some (.ref 0), some (.int x1), some (.int x2), some (.int x3), some (.ref 7), some (.ref 34), some (.int (x3 - 10))], [], (zS0, R, I, J))) rfl ?_
    exact zEv_if k1 k2
  · refine zEv_k 6 (f' := (if (x3 - 10) < 0 then 148 else 123, [some (.ref 0), some (.int x1), some (.int x2), some (.int x3), some (.ref 22), some (.ref 19), some (.int (x3 - 10))], [], (zS0, R, I, J))) rfl ?_
    exact zEv_if k1 k2
  · refine zEv_k 6 (f' := (if (x3 - 10) < 0 then 148 else 123, [some (.ref 0), some (.int x1), some (.int x2), some (.int x3), some (.ref 22), some (.ref 34), some (.int (x3 - 10))], [], (zS0, R, I, J))) rfl ?_
    exact zEv_if k1 k2
theorem b_130_123 {X : zX} {d : Nat} {R : zR} {I : zI} {J : zJ} {r : zA} {c : Nat} {g : Nat} {x1 : Int32} {x2 : Int32} {x3 : Int32} {x6 : Int32} (hR : zRok R) (ho : (c = 7 ∧ g = 19) ∨ (c = 7 ∧ g = 34) ∨ (c = 22 ∧ g = 19) ∨ (c = 22 ∧ g = 34)) (k1 : (I 196 0) ≤ x6 → zEv X d zm_130 (148, [some (.ref 0), some (.int x1), some (.int x2), some (.int x3), some (.ref c), some (.ref g), some (.int x6)], [], (zS0, R, I, J)) r) (k2 : ¬ ((I 196 0) ≤ x6) → zEv X d zm_130 (135, [some (.ref 0), some (.int x1), some (.int x2), some (.int x3), some (.ref c), some (.ref g), some (.int x6)], [], (zS0, R, I, J)) r) : zEv X d zm_130 (123, [some (.ref 0), some (.int x1), some (.int x2), some (.int x3), some (.ref c), some (.ref g), some (.int x6)], [], (zS0, R, I, J)) r := by
  rcases ho with ⟨rfl, rfl⟩ | ⟨rfl, rfl⟩ | ⟨rfl, rfl⟩ | ⟨rfl, rfl⟩
  · refine zEv_k 2 (f' := (126, [some (.ref 0), some (.int x1), some (.int x2), some (.int x3), some (.ref 7), some (.ref 19), some (.int x6)], [.ref 0, .int x6], (zS0, R, I, J))) rfl ?_
    refine zEv_gr rfl rfl rfl (by decide) (hR (0) 8 (196) rfl) ?_
    refine zEv_k 2 (f' := (if (I 196 0) ≤ x6 then 148 else 135, [some (.ref 0), some (.int x1), some (.int x2), some (.int x3), some (.ref 7), some (.ref 19), some (.int x6)], [], (zS0, R, I, J))) rfl ?_
    exact zEv_if k1 k2
  · refine zEv_k 2 (f' := (126, [some (.ref 0), some (.int x1), some (.int x2), some (.int x3), some (.ref 7), some (.ref 34), some (.int x6)], [.ref 0, .int x6], (zS0, R, I, J))) rfl ?_
    refine zEv_gr rfl rfl rfl (by decide) (hR (0) 8 (196) rfl) ?_
    refine zEv_k 2 (f' := (if (I 196 0) ≤ x6 then 148 else 135, [some (.ref 0), some (.int x1), some (.int x2), some (.int x3), some (.ref 7), some (.ref 34), some (.int x6)], [], (zS0, R, I, J))) rfl ?_
    exact zEv_if k1 k2
  · refine zEv_k 2 (f' := (126, [some (.ref 0), some (.int x1), some (.int x2), some (.int x3), some (.ref 22), some (.ref 19), some (.int x6)], [.ref 0, .int x6], (zS0, R, I, J))) rfl ?_
    refine zEv_gr rfl rfl rfl (by decide) (hR (0) 8 (196) rfl) ?_
    refine zEv_k 2 (f' := (if (I 196 0) ≤ x6 then 148 else 135, [some (.ref 0), some (.int x1), some (.int x2), some (.int x3), some (.ref 22), some (.ref 19), some (.int x6)], [], (zS0, R, I, J))) rfl ?_
    exact zEv_if k1 k2
  · refine zEv_k 2 (f' := (126, [some (.ref 0), some (.int x1), some (.int x2), some (.int x3), some (.ref 22), some (.ref 34), some (.int x6)], [.ref 0, .int x6], (zS0, R, I, J))) rfl ?_
    refine zEv_gr rfl rfl rfl (by decide) (hR (0) 8 (196) rfl) ?_
    refine zEv_k 2 (f' := (if (I 196 0) ≤ x6 then 148 else 135, [some (.ref 0), some (.int x1), some (.int x2), some (.int x3), some (.ref 22), some (.ref 34), some (.int x6)], [], (zS0, R, I, J))) rfl ?_
    exact zEv_if k1 k2
theorem b_130_135 {X : zX} {d : Nat} {R : zR} {I : zI} {J : zJ} {c : Nat} {g : Nat} {x1 : Int32} {x2 : Int32} {x3 : Int32} {x6 : Int32} (hR : zRok R) (ho : (c = 7 ∧ g = 19) ∨ (c = 7 ∧ g = 34) ∨ (c = 22 ∧ g = 19) ∨ (c = 22 ∧ g = 34)) (h144 : zin x6 100) : zEv X d zm_130 (135, [some (.ref 0), some (.int x1), some (.int x2), some (.int x3), some (.ref c), some (.ref g), some (.int x6)], [], (zS0, R, I, J)) (some (.int (I 197 (x6).toNatClampNeg)), (zS0, R, I, J)) := by
  rcases ho with ⟨rfl, rfl⟩ | ⟨rfl, rfl⟩ | ⟨rfl, rfl⟩ | ⟨rfl, rfl⟩
  · refine zEv_k 1 (f' := (136, [some (.ref 0), some (.int x1), some (.int x2), some (.int x3), some (.ref 7), some (.ref 19), some (.int x6)], [.ref 0], (zS0, R, I, J))) rfl ?_
    refine zEv_gr rfl rfl rfl (by decide) (hR (0) 8 (196) rfl) ?_
    refine zEv_gr rfl rfl rfl (by decide) (hR (196) 1 (197) rfl) ?_
    refine zEv_k 1 (f' := (144, [some (.ref 0), some (.int x1), some (.int x2), some (.int x3), some (.ref 7), some (.ref 19), some (.int x6)], [.int x6, .ref 197], (zS0, R, I, J))) rfl ?_
    refine zEv_ial rfl rfl (by decide) h144 ?_
    refine zEv_k 1 (f' := (150, [some (.ref 0), some (.int x1), some (.int x2), some (.int x3), some (.ref 7), some (.ref 19), some (.int x6)], [.int (I 197 (x6).toNatClampNeg)], (zS0, R, I, J))) rfl ?_
    exact zEv_r rfl
  · refine zEv_k 1 (f' := (136, [some (.ref 0), some (.int x1), some (.int x2), some (.int x3), some (.ref 7), some (.ref 34), some (.int x6)], [.ref 0], (zS0, R, I, J))) rfl ?_
    refine zEv_gr rfl rfl rfl (by decide) (hR (0) 8 (196) rfl) ?_
    refine zEv_gr rfl rfl rfl (by decide) (hR (196) 1 (197) rfl) ?_
    refine zEv_k 1 (f' := (144, [some (.ref 0), some (.int x1), some (.int x2), some (.int x3), some (.ref 7), some (.ref 34), some (.int x6)], [.int x6, .ref 197], (zS0, R, I, J))) rfl ?_
    refine zEv_ial rfl rfl (by decide) h144 ?_
    refine zEv_k 1 (f' := (150, [some (.ref 0), some (.int x1), some (.int x2), some (.int x3), some (.ref 7), some (.ref 34), some (.int x6)], [.int (I 197 (x6).toNatClampNeg)], (zS0, R, I, J))) rfl ?_
    exact zEv_r rfl
  · refine zEv_k 1 (f' := (136, [some (.ref 0), some (.int x1), some (.int x2), some (.int x3), some (.ref 22), some (.ref 19), some (.int x6)], [.ref 0], (zS0, R, I, J))) rfl ?_
    refine zEv_gr rfl rfl rfl (by decide) (hR (0) 8 (196) rfl) ?_
    refine zEv_gr rfl rfl rfl (by decide) (hR (196) 1 (197) rfl) ?_
    refine zEv_k 1 (f' := (144, [some (.ref 0), some (.int x1), some (.int x2), some (.int x3), some (.ref 22), some (.ref 19), some (.int x6)], [.int x6, .ref 197], (zS0, R, I, J))) rfl ?_
    refine zEv_ial rfl rfl (by decide) h144 ?_
    refine zEv_k 1 (f' := (150, [some (.ref 0), some (.int x1), some (.int x2), some (.int x3), some (.ref 22), some (.ref 19), some (.int x6)], [.int (I 197 (x6).toNatClampNeg)], (zS0, R, I, J))) rfl ?_
    exact zEv_r rfl
  · refine zEv_k 1 (f' := (136, [some (.ref 0), some (.int x1), some (.int x2), some (.int x3), some (.ref 22), some (.ref 34), some (.int x6)], [.ref 0], (zS0, R, I, J))) rfl ?_
    refine zEv_gr rfl rfl rfl (by decide) (hR (0) 8 (196) rfl) ?_
    refine zEv_gr rfl rfl rfl (by decide) (hR (196) 1 (197) rfl) ?_
    refine zEv_k 1 (f' := (144, [some (.ref 0), some (.int x1), some (.int x2), some (.int x3), some (.ref 22), some (.ref 34), some (.int x6)], [.int x6, .ref 197], (zS0, R, I, J))) rfl ?_
    refine zEv_ial rfl rfl (by decide) h144 ?_
    refine zEv_k 1 (f' := (150, [some (.ref 0), some (.int x1), some (.int x2), some (.int x3), some (.ref 22), some (.ref 34), some (.int x6)], [.int (I 197 (x6).toNatClampNeg)], (zS0, R, I, J))) rfl ?_
    exact zEv_r rfl
theorem b_130_148 {X : zX} {d : Nat} {R : zR} {I : zI} {J : zJ} {c : Nat} {g : Nat} {x1 : Int32} {x2 : Int32} {x3 : Int32} {x6 : Int32} (ho : (c = 7 ∧ g = 19) ∨ (c = 7 ∧ g = 34) ∨ (c = 22 ∧ g = 19) ∨ (c = 22 ∧ g = 34)) : zEv X d zm_130 (148, [some (.ref 0), some (.int x1), some (.int x2), some (.int x3), some (.ref c), some (.ref g), some (.int x6)], [], (zS0, R, I, J)) (some (.int (-2)), (zS0, R, I, J)) := by
  rcases ho with ⟨rfl, rfl⟩ | ⟨rfl, rfl⟩ | ⟨rfl, rfl⟩ | ⟨rfl, rfl⟩
  · refine zEv_k 1 (f' := (150, [some (.ref 0), some (.int x1), some (.int x2), some (.int x3), some (.ref 7), some (.ref 19), some (.int x6)], [.int (-2)], (zS0, R, I, J))) rfl ?_
    exact zEv_r rfl
  · refine zEv_k 1 (f' := (150, [some (.ref 0), some (.int x1), some (.int x2), some (.int x3), some (.ref 7), some (.ref 34), some (.int x6)], [.int (-2)], (zS0, R, I, J))) rfl ?_
    exact zEv_r rfl
  · refine zEv_k 1 (f' := (150, [some (.ref 0), some (.int x1), some (.int x2), some (.int x3), some (.ref 22), some (.ref 19), some (.int x6)], [.int (-2)], (zS0, R, I, J))) rfl ?_
    exact zEv_r rfl
  · refine zEv_k 1 (f' := (150, [some (.ref 0), some (.int x1), some (.int x2), some (.int x3), some (.ref 22), some (.ref 34), some (.int x6)], [.int (-2)], (zS0, R, I, J))) rfl ?_
    exact zEv_r rfl
theorem b_131_0r {X : zX} {d : Nat} {R : zR} {I : zI} {J : zJ} {r : zA} {c : Nat} {x1 : Int32} {x2 : Int32} {x3 : Int32} {x4 : Int32} {R' : zR} {I' : zI} {J' : zJ} (hR : zRok R) (ho : c = 7 ∨ c = 22) (hc : zEv X d zm_89 (0, [some (.ref 1), some (.int x1)], [], (zS0, R, I, J)) (some (.ref c), (zS0, R', I', J'))) (k1 : zEv X (d + 1) zm_131 (8, [some (.ref 0), some (.int x1), some (.int x2), some (.int x3), some (.int x4), none], [.ref c], (zS0, R', I', J')) r) : zEv X (d + 1) zm_131 (0, [some (.ref 0), some (.int x1), some (.int x2), some (.int x3), some (.int x4), none], [], (zS0, R, I, J)) r := by
  rcases ho with rfl | rfl
  · refine zEv_k 1 (f' := (1, [some (.ref 0), some (.int x1), some (.int x2), some (.int x3), some (.int x4), none], [.ref 0], (zS0, R, I, J))) rfl ?_
    refine zEv_gr rfl rfl rfl (by decide) (hR (0) 0 (1) rfl) ?_
    refine zEv_k 1 (f' := (5, [some (.ref 0), some (.int x1), some (.int x2), some (.int x3), some (.int x4), none], [.int x1, .ref 1], (zS0, R, I, J))) rfl ?_
    exact zEv_c (fun _ => rfl) rfl hc rfl rfl k1
  · refine zEv_k 1 (f' := (1, [some (.ref 0), some (.int x1), some (.int x2), some (.int x3), some (.int x4), none], [.ref 0], (zS0, R, I, J))) rfl ?_
    refine zEv_gr rfl rfl rfl (by decide) (hR (0) 0 (1) rfl) ?_
    refine zEv_k 1 (f' := (5, [some (.ref 0), some (.int x1), some (.int x2), some (.int x3), some (.int x4), none], [.int x1, .ref 1], (zS0, R, I, J))) rfl ?_
    exact zEv_c (fun _ => rfl) rfl hc rfl rfl k1
theorem b_131_0n {X : zX} {d : Nat} {R : zR} {I : zI} {J : zJ} {r : zA} {x1 : Int32} {x2 : Int32} {x3 : Int32} {x4 : Int32} {R' : zR} {I' : zI} {J' : zJ} (hR : zRok R) (hc : zEv X d zm_89 (0, [some (.ref 1), some (.int x1)], [], (zS0, R, I, J)) (some .null, (zS0, R', I', J'))) (k1 : zEv X (d + 1) zm_131 (8, [some (.ref 0), some (.int x1), some (.int x2), some (.int x3), some (.int x4), none], [.null], (zS0, R', I', J')) r) : zEv X (d + 1) zm_131 (0, [some (.ref 0), some (.int x1), some (.int x2), some (.int x3), some (.int x4), none], [], (zS0, R, I, J)) r := by
  refine zEv_k 1 (f' := (1, [some (.ref 0), some (.int x1), some (.int x2), some (.int x3), some (.int x4), none], [.ref 0], (zS0, R, I, J))) rfl ?_
  refine zEv_gr rfl rfl rfl (by decide) (hR (0) 0 (1) rfl) ?_
  refine zEv_k 1 (f' := (5, [some (.ref 0), some (.int x1), some (.int x2), some (.int x3), some (.int x4), none], [.int x1, .ref 1], (zS0, R, I, J))) rfl ?_
  exact zEv_c (fun _ => rfl) rfl hc rfl rfl k1
theorem b_131_8 {X : zX} {d : Nat} {R : zR} {I : zI} {J : zJ} {r : zA} {c : Nat} {x1 : Int32} {x2 : Int32} {x3 : Int32} {x4 : Int32} (ho : c = 7 ∨ c = 22) (k1 : x3 < 0 → zEv X d zm_131 (25, [some (.ref 0), some (.int x1), some (.int x2), some (.int x3), some (.int x4), some (.ref c)], [], (zS0, R, I, J)) r) (k2 : ¬ (x3 < 0) → zEv X d zm_131 (19, [some (.ref 0), some (.int x1), some (.int x2), some (.int x3), some (.int x4), some (.ref c)], [], (zS0, R, I, J)) r) : zEv X d zm_131 (8, [some (.ref 0), some (.int x1), some (.int x2), some (.int x3), some (.int x4), none], [.ref c], (zS0, R, I, J)) r := by
  rcases ho with rfl | rfl
  · refine zEv_k 5 (f' := (if x3 < 0 then 25 else 19, [some (.ref 0), some (.int x1), some (.int x2), some (.int x3), some (.int x4), some (.ref 7)], [], (zS0, R, I, J))) rfl ?_
    exact zEv_if k1 k2
  · refine zEv_k 5 (f' := (if x3 < 0 then 25 else 19, [some (.ref 0), some (.int x1), some (.int x2), some (.int x3), some (.int x4), some (.ref 22)], [], (zS0, R, I, J))) rfl ?_
    exact zEv_if k1 k2
theorem b_131_8n100 {X : zX} {d : Nat} {R : zR} {I : zI} {J : zJ} {r : zA} {x1 : Int32} {x2 : Int32} {x3 : Int32} {x4 : Int32} (k1 : zEv X d zm_131 (25, [some (.ref 0), some (.int x1), some (.int x2), some (.int x3), some (.int x4), some (.null)], [], (zS0, R, I, J)) r) : zEv X d zm_131 (8, [some (.ref 0), some (.int x1), some (.int x2), some (.int x3), some (.int x4), none], [.null], (zS0, R, I, J)) r := by
  refine zEv_k 3 (f' := (25, [some (.ref 0), some (.int x1), some (.int x2), some (.int x3), some (.int x4), some (.null)], [], (zS0, R, I, J))) rfl ?_
  exact k1
theorem b_131_19 {X : zX} {d : Nat} {R : zR} {I : zI} {J : zJ} {r : zA} {c : Nat} {x1 : Int32} {x2 : Int32} {x3 : Int32} {x4 : Int32} (ho : c = 7 ∨ c = 22) (k1 : x3 ≤ 60 → zEv X d zm_131 (27, [some (.ref 0), some (.int x1), some (.int x2), some (.int x3), some (.int x4), some (.ref c)], [], (zS0, R, I, J)) r) (k2 : ¬ (x3 ≤ 60) → zEv X d zm_131 (25, [some (.ref 0), some (.int x1), some (.int x2), some (.int x3), some (.int x4), some (.ref c)], [], (zS0, R, I, J)) r) : zEv X d zm_131 (19, [some (.ref 0), some (.int x1), some (.int x2), some (.int x3), some (.int x4), some (.ref c)], [], (zS0, R, I, J)) r := by
  rcases ho with rfl | rfl
  · refine zEv_k 3 (f' := (if x3 ≤ 60 then 27 else 25, [some (.ref 0), some (.int x1), some (.int x2), some (.int x3), some (.int x4), some (.ref 7)], [], (zS0, R, I, J))) rfl ?_
    exact zEv_if k1 k2
  · refine zEv_k 3 (f' := (if x3 ≤ 60 then 27 else 25, [some (.ref 0), some (.int x1), some (.int x2), some (.int x3), some (.int x4), some (.ref 22)], [], (zS0, R, I, J))) rfl ?_
    exact zEv_if k1 k2
theorem b_131_25 {X : zX} {d : Nat} {R : zR} {I : zI} {J : zJ} {c : Nat} {x1 : Int32} {x2 : Int32} {x3 : Int32} {x4 : Int32} (ho : c = 7 ∨ c = 22) : zEv X d zm_131 (25, [some (.ref 0), some (.int x1), some (.int x2), some (.int x3), some (.int x4), some (.ref c)], [], (zS0, R, I, J)) (some (.int (-1)), (zS0, R, I, J)) := by
  rcases ho with rfl | rfl
  · refine zEv_k 1 (f' := (26, [some (.ref 0), some (.int x1), some (.int x2), some (.int x3), some (.int x4), some (.ref 7)], [.int (-1)], (zS0, R, I, J))) rfl ?_
    exact zEv_r rfl
  · refine zEv_k 1 (f' := (26, [some (.ref 0), some (.int x1), some (.int x2), some (.int x3), some (.int x4), some (.ref 22)], [.int (-1)], (zS0, R, I, J))) rfl ?_
    exact zEv_r rfl
theorem b_131_25n5 {X : zX} {d : Nat} {R : zR} {I : zI} {J : zJ} {x1 : Int32} {x2 : Int32} {x3 : Int32} {x4 : Int32} : zEv X d zm_131 (25, [some (.ref 0), some (.int x1), some (.int x2), some (.int x3), some (.int x4), some (.null)], [], (zS0, R, I, J)) (some (.int (-1)), (zS0, R, I, J)) := by
  refine zEv_k 1 (f' := (26, [some (.ref 0), some (.int x1), some (.int x2), some (.int x3), some (.int x4), some (.null)], [.int (-1)], (zS0, R, I, J))) rfl ?_
  exact zEv_r rfl
theorem b_131_27 {X : zX} {d : Nat} {R : zR} {I : zI} {J : zJ} {r : zA} {c : Nat} {x1 : Int32} {x2 : Int32} {x3 : Int32} {x4 : Int32} {R' : zR} {I' : zI} {J' : zJ} (hR : zRok R) (ho : c = 7 ∨ c = 22) (hc : zEv X d zm_70 (0, [some (.ref 166), some (.ref c), none], [], (zS0, R, I, J)) (none, (zS0, R', I', J'))) (k1 : zEv X (d + 1) zm_131 (36, [some (.ref 0), some (.int x1), some (.int x2), some (.int x3), some (.int x4), some (.ref c)], [], (zS0, R', I', J')) r) : zEv X (d + 1) zm_131 (27, [some (.ref 0), some (.int x1), some (.int x2), some (.int x3), some (.int x4), some (.ref c)], [], (zS0, R, I, J)) r := by
  rcases ho with rfl | rfl
  · refine zEv_k 1 (f' := (28, [some (.ref 0), some (.int x1), some (.int x2), some (.int x3), some (.int x4), some (.ref 7)], [.ref 0], (zS0, R, I, J))) rfl ?_
    refine zEv_gr rfl rfl rfl (by decide) (hR (0) 4 (166) rfl) ?_
    refine zEv_k 1 (f' := (33, [some (.ref 0), some (.int x1), some (.int x2), some (.int x3), some (.int x4), some (.ref 7)], [.ref 7, .ref 166], (zS0, R, I, J))) rfl ?_
    exact zEv_c (fun _ => rfl) rfl hc rfl rfl k1
  · refine zEv_k 1 (f' := (28, [some (.ref 0), some (.int x1), some (.int x2), some (.int x3), some (.int x4), some (.ref 22)], [.ref 0], (zS0, R, I, J))) rfl ?_
    refine zEv_gr rfl rfl rfl (by decide) (hR (0) 4 (166) rfl) ?_
    refine zEv_k 1 (f' := (33, [some (.ref 0), some (.int x1), some (.int x2), some (.int x3), some (.int x4), some (.ref 22)], [.ref 22, .ref 166], (zS0, R, I, J))) rfl ?_
    exact zEv_c (fun _ => rfl) rfl hc rfl rfl k1
theorem b_131_36 {X : zX} {d : Nat} {R : zR} {I : zI} {J : zJ} {r : zA} {c : Nat} {x1 : Int32} {x2 : Int32} {x3 : Int32} {x4 : Int32} {R' : zR} {I' : zI} {J' : zJ} (hR : zRok R) (ho : c = 7 ∨ c = 22) (hc : zEv X d zm_74 (0, [some (.ref 166), some (.int x2), some (.int x3), none, none, none], [], (zS0, R, I, J)) (none, (zS0, R', I', J'))) (k1 : zEv X (d + 1) zm_131 (45, [some (.ref 0), some (.int x1), some (.int x2), some (.int x3), some (.int x4), some (.ref c)], [], (zS0, R', I', J')) r) : zEv X (d + 1) zm_131 (36, [some (.ref 0), some (.int x1), some (.int x2), some (.int x3), some (.int x4), some (.ref c)], [], (zS0, R, I, J)) r := by
  rcases ho with rfl | rfl
  · refine zEv_k 1 (f' := (37, [some (.ref 0), some (.int x1), some (.int x2), some (.int x3), some (.int x4), some (.ref 7)], [.ref 0], (zS0, R, I, J))) rfl ?_
    refine zEv_gr rfl rfl rfl (by decide) (hR (0) 4 (166) rfl) ?_
    refine zEv_k 2 (f' := (42, [some (.ref 0), some (.int x1), some (.int x2), some (.int x3), some (.int x4), some (.ref 7)], [.int x3, .int x2, .ref 166], (zS0, R, I, J))) rfl ?_
    exact zEv_c (fun _ => rfl) rfl hc rfl rfl k1
  · refine zEv_k 1 (f' := (37, [some (.ref 0), some (.int x1), some (.int x2), some (.int x3), some (.int x4), some (.ref 22)], [.ref 0], (zS0, R, I, J))) rfl ?_
    refine zEv_gr rfl rfl rfl (by decide) (hR (0) 4 (166) rfl) ?_
    refine zEv_k 2 (f' := (42, [some (.ref 0), some (.int x1), some (.int x2), some (.int x3), some (.int x4), some (.ref 22)], [.int x3, .int x2, .ref 166], (zS0, R, I, J))) rfl ?_
    exact zEv_c (fun _ => rfl) rfl hc rfl rfl k1
theorem b_131_45 {X : zX} {d : Nat} {R : zR} {I : zI} {J : zJ} {r : zA} {c : Nat} {x1 : Int32} {x2 : Int32} {x3 : Int32} {x4 : Int32} {w : Int32} {R' : zR} {I' : zI} {J' : zJ} (hR : zRok R) (ho : c = 7 ∨ c = 22) (hc : zEv X d zm_75 (0, [some (.ref 166), some (.int x4), none], [], (zS0, R, I, J)) (some (.int w), (zS0, R', I', J'))) (k1 : zEv X (d + 1) zm_131 (54, [some (.ref 0), some (.int x1), some (.int x2), some (.int x3), some (.int x4), some (.ref c)], [.int w], (zS0, R', I', J')) r) : zEv X (d + 1) zm_131 (45, [some (.ref 0), some (.int x1), some (.int x2), some (.int x3), some (.int x4), some (.ref c)], [], (zS0, R, I, J)) r := by
  rcases ho with rfl | rfl
  · refine zEv_k 1 (f' := (46, [some (.ref 0), some (.int x1), some (.int x2), some (.int x3), some (.int x4), some (.ref 7)], [.ref 0], (zS0, R, I, J))) rfl ?_
    refine zEv_gr rfl rfl rfl (by decide) (hR (0) 4 (166) rfl) ?_
    refine zEv_k 1 (f' := (51, [some (.ref 0), some (.int x1), some (.int x2), some (.int x3), some (.int x4), some (.ref 7)], [.int x4, .ref 166], (zS0, R, I, J))) rfl ?_
    exact zEv_c (fun _ => rfl) rfl hc rfl rfl k1
  · refine zEv_k 1 (f' := (46, [some (.ref 0), some (.int x1), some (.int x2), some (.int x3), some (.int x4), some (.ref 22)], [.ref 0], (zS0, R, I, J))) rfl ?_
    refine zEv_gr rfl rfl rfl (by decide) (hR (0) 4 (166) rfl) ?_
    refine zEv_k 1 (f' := (51, [some (.ref 0), some (.int x1), some (.int x2), some (.int x3), some (.int x4), some (.ref 22)], [.int x4, .ref 166], (zS0, R, I, J))) rfl ?_
    exact zEv_c (fun _ => rfl) rfl hc rfl rfl k1
theorem b_131_54 {X : zX} {d : Nat} {R : zR} {I : zI} {J : zJ} {c : Nat} {x1 : Int32} {x2 : Int32} {x3 : Int32} {x4 : Int32} {s0 : Int32} (ho : c = 7 ∨ c = 22) : zEv X d zm_131 (54, [some (.ref 0), some (.int x1), some (.int x2), some (.int x3), some (.int x4), some (.ref c)], [.int s0], (zS0, R, I, J)) (some (.int s0), (zS0, R, I, J)) := by
  rcases ho with rfl | rfl
  · exact zEv_r rfl
  · exact zEv_r rfl
theorem b_132_0r {X : zX} {d : Nat} {R : zR} {I : zI} {J : zJ} {r : zA} {c : Nat} {x1 : Int32} {x2 : Int32} {R' : zR} {I' : zI} {J' : zJ} (hR : zRok R) (ho : c = 7 ∨ c = 22) (hc : zEv X d zm_89 (0, [some (.ref 1), some (.int x1)], [], (zS0, R, I, J)) (some (.ref c), (zS0, R', I', J'))) (k1 : zEv X (d + 1) zm_132 (8, [some (.ref 0), some (.int x1), some (.int x2), none], [.ref c], (zS0, R', I', J')) r) : zEv X (d + 1) zm_132 (0, [some (.ref 0), some (.int x1), some (.int x2), none], [], (zS0, R, I, J)) r := by
  rcases ho with rfl | rfl
  · refine zEv_k 1 (f' := (1, [some (.ref 0), some (.int x1), some (.int x2), none], [.ref 0], (zS0, R, I, J))) rfl ?_
    refine zEv_gr rfl rfl rfl (by decide) (hR (0) 0 (1) rfl) ?_
    refine zEv_k 1 (f' := (5, [some (.ref 0), some (.int x1), some (.int x2), none], [.int x1, .ref 1], (zS0, R, I, J))) rfl ?_
    exact zEv_c (fun _ => rfl) rfl hc rfl rfl k1
  · refine zEv_k 1 (f' := (1, [some (.ref 0), some (.int x1), some (.int x2), none], [.ref 0], (zS0, R, I, J))) rfl ?_
    refine zEv_gr rfl rfl rfl (by decide) (hR (0) 0 (1) rfl) ?_
    refine zEv_k 1 (f' := (5, [some (.ref 0), some (.int x1), some (.int x2), none], [.int x1, .ref 1], (zS0, R, I, J))) rfl ?_
    exact zEv_c (fun _ => rfl) rfl hc rfl rfl k1
theorem b_132_0n {X : zX} {d : Nat} {R : zR} {I : zI} {J : zJ} {r : zA} {x1 : Int32} {x2 : Int32} {R' : zR} {I' : zI} {J' : zJ} (hR : zRok R) (hc : zEv X d zm_89 (0, [some (.ref 1), some (.int x1)], [], (zS0, R, I, J)) (some .null, (zS0, R', I', J'))) (k1 : zEv X (d + 1) zm_132 (8, [some (.ref 0), some (.int x1), some (.int x2), none], [.null], (zS0, R', I', J')) r) : zEv X (d + 1) zm_132 (0, [some (.ref 0), some (.int x1), some (.int x2), none], [], (zS0, R, I, J)) r := by
  refine zEv_k 1 (f' := (1, [some (.ref 0), some (.int x1), some (.int x2), none], [.ref 0], (zS0, R, I, J))) rfl ?_
  refine zEv_gr rfl rfl rfl (by decide) (hR (0) 0 (1) rfl) ?_
  refine zEv_k 1 (f' := (5, [some (.ref 0), some (.int x1), some (.int x2), none], [.int x1, .ref 1], (zS0, R, I, J))) rfl ?_
  exact zEv_c (fun _ => rfl) rfl hc rfl rfl k1
theorem b_132_8 {X : zX} {d : Nat} {R : zR} {I : zI} {J : zJ} {r : zA} {c : Nat} {x1 : Int32} {x2 : Int32} {R' : zR} {I' : zI} {J' : zJ} (hR : zRok R) (ho : c = 7 ∨ c = 22) (hc : zEv X d zm_95 (0, [some (.ref 180), some (.ref c), none], [], (zS0, R, I, J)) (none, (zS0, R', I', J'))) (k1 : zEv X (d + 1) zm_132 (24, [some (.ref 0), some (.int x1), some (.int x2), some (.ref c)], [], (zS0, R', I', J')) r) : zEv X (d + 1) zm_132 (8, [some (.ref 0), some (.int x1), some (.int x2), none], [.ref c], (zS0, R, I, J)) r := by
  rcases ho with rfl | rfl
  · refine zEv_k 4 (f' := (17, [some (.ref 0), some (.int x1), some (.int x2), some (.ref 7)], [.ref 0], (zS0, R, I, J))) rfl ?_
    refine zEv_gr rfl rfl rfl (by decide) (hR (0) 5 (180) rfl) ?_
    refine zEv_k 1 (f' := (21, [some (.ref 0), some (.int x1), some (.int x2), some (.ref 7)], [.ref 7, .ref 180], (zS0, R, I, J))) rfl ?_
    exact zEv_c (fun _ => rfl) rfl hc rfl rfl k1
  · refine zEv_k 4 (f' := (17, [some (.ref 0), some (.int x1), some (.int x2), some (.ref 22)], [.ref 0], (zS0, R, I, J))) rfl ?_
    refine zEv_gr rfl rfl rfl (by decide) (hR (0) 5 (180) rfl) ?_
    refine zEv_k 1 (f' := (21, [some (.ref 0), some (.int x1), some (.int x2), some (.ref 22)], [.ref 22, .ref 180], (zS0, R, I, J))) rfl ?_
    exact zEv_c (fun _ => rfl) rfl hc rfl rfl k1
theorem b_132_8n100 {X : zX} {d : Nat} {R : zR} {I : zI} {J : zJ} {x1 : Int32} {x2 : Int32} : zEv X d zm_132 (8, [some (.ref 0), some (.int x1), some (.int x2), none], [.null], (zS0, R, I, J)) (some (.int (-2)), (zS0, R, I, J)) := by
  refine zEv_k 4 (f' := (15, [some (.ref 0), some (.int x1), some (.int x2), some (.null)], [.int (-2)], (zS0, R, I, J))) rfl ?_
  exact zEv_r rfl
theorem b_132_24 {X : zX} {d : Nat} {R : zR} {I : zI} {J : zJ} {r : zA} {c : Nat} {x1 : Int32} {x2 : Int32} (ho : c = 7 ∨ c = 22) (k0 : x2 = 0 → zEv X d zm_132 (116, [some (.ref 0), some (.int x1), some (.int x2), some (.ref c)], [], (zS0, R, I, J)) r) (k1 : x2 = 1 → zEv X d zm_132 (121, [some (.ref 0), some (.int x1), some (.int x2), some (.ref c)], [], (zS0, R, I, J)) r) (k2 : x2 = 2 → zEv X d zm_132 (127, [some (.ref 0), some (.int x1), some (.int x2), some (.ref c)], [], (zS0, R, I, J)) r) (k3 : x2 = 3 → zEv X d zm_132 (132, [some (.ref 0), some (.int x1), some (.int x2), some (.ref c)], [], (zS0, R, I, J)) r) (k4 : x2 = 4 → zEv X d zm_132 (141, [some (.ref 0), some (.int x1), some (.int x2), some (.ref c)], [], (zS0, R, I, J)) r) (k5 : x2 = 5 → zEv X d zm_132 (150, [some (.ref 0), some (.int x1), some (.int x2), some (.ref c)], [], (zS0, R, I, J)) r) (k6 : x2 = 6 → zEv X d zm_132 (155, [some (.ref 0), some (.int x1), some (.int x2), some (.ref c)], [], (zS0, R, I, J)) r) (k7 : x2 = 7 → zEv X d zm_132 (160, [some (.ref 0), some (.int x1), some (.int x2), some (.ref c)], [], (zS0, R, I, J)) r) (k8 : x2 = 8 → zEv X d zm_132 (168, [some (.ref 0), some (.int x1), some (.int x2), some (.ref c)], [], (zS0, R, I, J)) r) (k9 : x2 = 9 → zEv X d zm_132 (176, [some (.ref 0), some (.int x1), some (.int x2), some (.ref c)], [], (zS0, R, I, J)) r) (k10 : x2 = 10 → zEv X d zm_132 (187, [some (.ref 0), some (.int x1), some (.int x2), some (.ref c)], [], (zS0, R, I, J)) r) (k11 : x2 = 11 → zEv X d zm_132 (195, [some (.ref 0), some (.int x1), some (.int x2), some (.ref c)], [], (zS0, R, I, J)) r) (k12 : x2 = 12 → zEv X d zm_132 (200, [some (.ref 0), some (.int x1), some (.int x2), some (.ref c)], [], (zS0, R, I, J)) r) (k13 : x2 = 13 → zEv X d zm_132 (205, [some (.ref 0), some (.int x1), some (.int x2), some (.ref c)], [], (zS0, R, I, J)) r) (k14 : x2 = 14 → zEv X d zm_132 (210, [some (.ref 0), some (.int x1), some (.int x2), some (.ref c)], [], (zS0, R, I, J)) r) (k15 : x2 = 15 → zEv X d zm_132 (217, [some (.ref 0), some (.int x1), some (.int x2), some (.ref c)], [], (zS0, R, I, J)) r) (k16 : x2 = 16 → zEv X d zm_132 (224, [some (.ref 0), some (.int x1), some (.int x2), some (.ref c)], [], (zS0, R, I, J)) r) (k17 : x2 = 17 → zEv X d zm_132 (232, [some (.ref 0), some (.int x1), some (.int x2), some (.ref c)], [], (zS0, R, I, J)) r) (k18 : x2 = 18 → zEv X d zm_132 (237, [some (.ref 0), some (.int x1), some (.int x2), some (.ref c)], [], (zS0, R, I, J)) r) (kd : ¬ (0 ≤ (x2 : Int32).toInt ∧ (x2 : Int32).toInt ≤ 18) → zEv X d zm_132 (242, [some (.ref 0), some (.int x1), some (.int x2), some (.ref c)], [], (zS0, R, I, J)) r) : zEv X d zm_132 (24, [some (.ref 0), some (.int x1), some (.int x2), some (.ref c)], [], (zS0, R, I, J)) r := by
  rcases ho with rfl | rfl
  · refine zEv_k 1 (f' := (25, [some (.ref 0), some (.int x1), some (.int x2), some (.ref 7)], [.int x2], (zS0, R, I, J))) rfl ?_
    refine zEv_ts rfl (by decide) (by decide) (by decide) (fun hh => ?_) (fun j hj hh => ?_)
    · exact kd (by omega)
    · rcases (by have hj2 : j < 19 := hj; omega : j = 0 ∨ j = 1 ∨ j = 2 ∨ j = 3 ∨ j = 4 ∨ j = 5 ∨ j = 6 ∨ j = 7 ∨ j = 8 ∨ j = 9 ∨ j = 10 ∨ j = 11 ∨ j = 12 ∨ j = 13 ∨ j = 14 ∨ j = 15 ∨ j = 16 ∨ j = 17 ∨ j = 18) with rfl | rfl | rfl | rfl | rfl | rfl | rfl | rfl | rfl | rfl | rfl | rfl | rfl | rfl | rfl | rfl | rfl | rfl | rfl
      · exact k0 (zeqI hh (by decide))
      · exact k1 (zeqI hh (by decide))
      · exact k2 (zeqI hh (by decide))
      · exact k3 (zeqI hh (by decide))
      · exact k4 (zeqI hh (by decide))
      · exact k5 (zeqI hh (by decide))
      · exact k6 (zeqI hh (by decide))
      · exact k7 (zeqI hh (by decide))
      · exact k8 (zeqI hh (by decide))
      · exact k9 (zeqI hh (by decide))
      · exact k10 (zeqI hh (by decide))
      · exact k11 (zeqI hh (by decide))
      · exact k12 (zeqI hh (by decide))
      · exact k13 (zeqI hh (by decide))
      · exact k14 (zeqI hh (by decide))
      · exact k15 (zeqI hh (by decide))
      · exact k16 (zeqI hh (by decide))
      · exact k17 (zeqI hh (by decide))
      · exact k18 (zeqI hh (by decide))
  · refine zEv_k 1 (f' := (25, [some (.ref 0), some (.int x1), some (.int x2), some (.ref 22)], [.int x2], (zS0, R, I, J))) rfl ?_
    refine zEv_ts rfl (by decide) (by decide) (by decide) (fun hh => ?_) (fun j hj hh => ?_)
    · exact kd (by omega)
    · rcases (by have hj2 : j < 19 := hj; omega : j = 0 ∨ j = 1 ∨ j = 2 ∨ j = 3 ∨ j = 4 ∨ j = 5 ∨ j = 6 ∨ j = 7 ∨ j = 8 ∨ j = 9 ∨ j = 10 ∨ j = 11 ∨ j = 12 ∨ j = 13 ∨ j = 14 ∨ j = 15 ∨ j = 16 ∨ j = 17 ∨ j = 18) with rfl | rfl | rfl | rfl | rfl | rfl | rfl | rfl | rfl | rfl | rfl | rfl | rfl | rfl | rfl | rfl | rfl | rfl | rfl
      · exact k0 (zeqI hh (by decide))
      · exact k1 (zeqI hh (by decide))
      · exact k2 (zeqI hh (by decide))
      · exact k3 (zeqI hh (by decide))
      · exact k4 (zeqI hh (by decide))
      · exact k5 (zeqI hh (by decide))
      · exact k6 (zeqI hh (by decide))
      · exact k7 (zeqI hh (by decide))
      · exact k8 (zeqI hh (by decide))
      · exact k9 (zeqI hh (by decide))
      · exact k10 (zeqI hh (by decide))
      · exact k11 (zeqI hh (by decide))
      · exact k12 (zeqI hh (by decide))
      · exact k13 (zeqI hh (by decide))
      · exact k14 (zeqI hh (by decide))
      · exact k15 (zeqI hh (by decide))
      · exact k16 (zeqI hh (by decide))
      · exact k17 (zeqI hh (by decide))
      · exact k18 (zeqI hh (by decide))
theorem b_132_116 {X : zX} {d : Nat} {R : zR} {I : zI} {J : zJ} {r : zA} {c : Nat} {x1 : Int32} {x2 : Int32} {w : Int32} {R' : zR} {I' : zI} {J' : zJ} (ho : c = 7 ∨ c = 22) (hc : zEv X d zm_270 (0, [some (.ref c), none, none], [], (zS0, R, I, J)) (some (.int w), (zS0, R', I', J'))) (k1 : zEv X (d + 1) zm_132 (120, [some (.ref 0), some (.int x1), some (.int x2), some (.ref c)], [.int w], (zS0, R', I', J')) r) : zEv X (d + 1) zm_132 (116, [some (.ref 0), some (.int x1), some (.int x2), some (.ref c)], [], (zS0, R, I, J)) r := by
  rcases ho with rfl | rfl
  · refine zEv_k 1 (f' := (117, [some (.ref 0), some (.int x1), some (.int x2), some (.ref 7)], [.ref 7], (zS0, R, I, J))) rfl ?_
    exact zEv_c (fun _ => rfl) rfl hc rfl rfl k1
  · refine zEv_k 1 (f' := (117, [some (.ref 0), some (.int x1), some (.int x2), some (.ref 22)], [.ref 22], (zS0, R, I, J))) rfl ?_
    exact zEv_c (fun _ => rfl) rfl hc rfl rfl k1
theorem b_132_120 {X : zX} {d : Nat} {R : zR} {I : zI} {J : zJ} {c : Nat} {x1 : Int32} {x2 : Int32} {s0 : Int32} (ho : c = 7 ∨ c = 22) : zEv X d zm_132 (120, [some (.ref 0), some (.int x1), some (.int x2), some (.ref c)], [.int s0], (zS0, R, I, J)) (some (.int s0), (zS0, R, I, J)) := by
  rcases ho with rfl | rfl
  · exact zEv_r rfl
  · exact zEv_r rfl
theorem b_132_121 {X : zX} {d : Nat} {R : zR} {I : zI} {J : zJ} {r : zA} {c : Nat} {x1 : Int32} {x2 : Int32} {w : Int32} {R' : zR} {I' : zI} {J' : zJ} (ho : c = 7 ∨ c = 22) (hc : zEv X d zm_272 (0, [some (.ref c), some (.int 0), none, none], [], (zS0, R, I, J)) (some (.int w), (zS0, R', I', J'))) (k1 : zEv X (d + 1) zm_132 (126, [some (.ref 0), some (.int x1), some (.int x2), some (.ref c)], [.int w], (zS0, R', I', J')) r) : zEv X (d + 1) zm_132 (121, [some (.ref 0), some (.int x1), some (.int x2), some (.ref c)], [], (zS0, R, I, J)) r := by
  rcases ho with rfl | rfl
  · refine zEv_k 2 (f' := (123, [some (.ref 0), some (.int x1), some (.int x2), some (.ref 7)], [.int 0, .ref 7], (zS0, R, I, J))) rfl ?_
    exact zEv_c (fun _ => rfl) rfl hc rfl rfl k1
  · refine zEv_k 2 (f' := (123, [some (.ref 0), some (.int x1), some (.int x2), some (.ref 22)], [.int 0, .ref 22], (zS0, R, I, J))) rfl ?_
    exact zEv_c (fun _ => rfl) rfl hc rfl rfl k1
theorem b_132_126 {X : zX} {d : Nat} {R : zR} {I : zI} {J : zJ} {c : Nat} {x1 : Int32} {x2 : Int32} {s0 : Int32} (ho : c = 7 ∨ c = 22) : zEv X d zm_132 (126, [some (.ref 0), some (.int x1), some (.int x2), some (.ref c)], [.int s0], (zS0, R, I, J)) (some (.int s0), (zS0, R, I, J)) := by
  rcases ho with rfl | rfl
  · exact zEv_r rfl
  · exact zEv_r rfl
theorem b_132_127 {X : zX} {d : Nat} {R : zR} {I : zI} {J : zJ} {r : zA} {c : Nat} {x1 : Int32} {x2 : Int32} {w : Int32} {R' : zR} {I' : zI} {J' : zJ} (ho : c = 7 ∨ c = 22) (hc : zEv X d zm_271 (0, [some (.ref c), none, none], [], (zS0, R, I, J)) (some (.int w), (zS0, R', I', J'))) (k1 : zEv X (d + 1) zm_132 (131, [some (.ref 0), some (.int x1), some (.int x2), some (.ref c)], [.int w], (zS0, R', I', J')) r) : zEv X (d + 1) zm_132 (127, [some (.ref 0), some (.int x1), some (.int x2), some (.ref c)], [], (zS0, R, I, J)) r := by
  rcases ho with rfl | rfl
  · refine zEv_k 1 (f' := (128, [some (.ref 0), some (.int x1), some (.int x2), some (.ref 7)], [.ref 7], (zS0, R, I, J))) rfl ?_
    exact zEv_c (fun _ => rfl) rfl hc rfl rfl k1
  · refine zEv_k 1 (f' := (128, [some (.ref 0), some (.int x1), some (.int x2), some (.ref 22)], [.ref 22], (zS0, R, I, J))) rfl ?_
    exact zEv_c (fun _ => rfl) rfl hc rfl rfl k1
theorem b_132_131 {X : zX} {d : Nat} {R : zR} {I : zI} {J : zJ} {c : Nat} {x1 : Int32} {x2 : Int32} {s0 : Int32} (ho : c = 7 ∨ c = 22) : zEv X d zm_132 (131, [some (.ref 0), some (.int x1), some (.int x2), some (.ref c)], [.int s0], (zS0, R, I, J)) (some (.int s0), (zS0, R, I, J)) := by
  rcases ho with rfl | rfl
  · exact zEv_r rfl
  · exact zEv_r rfl
theorem b_132_132 {X : zX} {d : Nat} {R : zR} {I : zI} {J : zJ} {r : zA} {c : Nat} {x1 : Int32} {x2 : Int32} {w : Int32} {R' : zR} {I' : zI} {J' : zJ} (hR : zRok R) (ho : c = 7 ∨ c = 22) (hc : zEv X d zm_102 (0, [some (.ref 180), some (.ref c), none, none, none, none], [], (zS0, R, I, J)) (some (.int w), (zS0, R', I', J'))) (k1 : zEv X (d + 1) zm_132 (140, [some (.ref 0), some (.int x1), some (.int x2), some (.ref c)], [.int w], (zS0, R', I', J')) r) : zEv X (d + 1) zm_132 (132, [some (.ref 0), some (.int x1), some (.int x2), some (.ref c)], [], (zS0, R, I, J)) r := by
  rcases ho with rfl | rfl
  · refine zEv_k 1 (f' := (133, [some (.ref 0), some (.int x1), some (.int x2), some (.ref 7)], [.ref 0], (zS0, R, I, J))) rfl ?_
    refine zEv_gr rfl rfl rfl (by decide) (hR (0) 5 (180) rfl) ?_
    refine zEv_k 1 (f' := (137, [some (.ref 0), some (.int x1), some (.int x2), some (.ref 7)], [.ref 7, .ref 180], (zS0, R, I, J))) rfl ?_
    exact zEv_c (fun _ => rfl) rfl hc rfl rfl k1
  · refine zEv_k 1 (f' := (133, [some (.ref 0), some (.int x1), some (.int x2), some (.ref 22)], [.ref 0], (zS0, R, I, J))) rfl ?_
    refine zEv_gr rfl rfl rfl (by decide) (hR (0) 5 (180) rfl) ?_
    refine zEv_k 1 (f' := (137, [some (.ref 0), some (.int x1), some (.int x2), some (.ref 22)], [.ref 22, .ref 180], (zS0, R, I, J))) rfl ?_
    exact zEv_c (fun _ => rfl) rfl hc rfl rfl k1
theorem b_132_140 {X : zX} {d : Nat} {R : zR} {I : zI} {J : zJ} {c : Nat} {x1 : Int32} {x2 : Int32} {s0 : Int32} (ho : c = 7 ∨ c = 22) : zEv X d zm_132 (140, [some (.ref 0), some (.int x1), some (.int x2), some (.ref c)], [.int s0], (zS0, R, I, J)) (some (.int s0), (zS0, R, I, J)) := by
  rcases ho with rfl | rfl
  · exact zEv_r rfl
  · exact zEv_r rfl
theorem b_132_141 {X : zX} {d : Nat} {R : zR} {I : zI} {J : zJ} {r : zA} {c : Nat} {x1 : Int32} {x2 : Int32} {w : Int32} {R' : zR} {I' : zI} {J' : zJ} (hR : zRok R) (ho : c = 7 ∨ c = 22) (hc : zEv X d zm_103 (0, [some (.ref 180), some (.ref c), none], [], (zS0, R, I, J)) (some (.int w), (zS0, R', I', J'))) (k1 : zEv X (d + 1) zm_132 (149, [some (.ref 0), some (.int x1), some (.int x2), some (.ref c)], [.int w], (zS0, R', I', J')) r) : zEv X (d + 1) zm_132 (141, [some (.ref 0), some (.int x1), some (.int x2), some (.ref c)], [], (zS0, R, I, J)) r := by
  rcases ho with rfl | rfl
  · refine zEv_k 1 (f' := (142, [some (.ref 0), some (.int x1), some (.int x2), some (.ref 7)], [.ref 0], (zS0, R, I, J))) rfl ?_
    refine zEv_gr rfl rfl rfl (by decide) (hR (0) 5 (180) rfl) ?_
    refine zEv_k 1 (f' := (146, [some (.ref 0), some (.int x1), some (.int x2), some (.ref 7)], [.ref 7, .ref 180], (zS0, R, I, J))) rfl ?_
    exact zEv_c (fun _ => rfl) rfl hc rfl rfl k1
  · refine zEv_k 1 (f' := (142, [some (.ref 0), some (.int x1), some (.int x2), some (.ref 22)], [.ref 0], (zS0, R, I, J))) rfl ?_
    refine zEv_gr rfl rfl rfl (by decide) (hR (0) 5 (180) rfl) ?_
    refine zEv_k 1 (f' := (146, [some (.ref 0), some (.int x1), some (.int x2), some (.ref 22)], [.ref 22, .ref 180], (zS0, R, I, J))) rfl ?_
    exact zEv_c (fun _ => rfl) rfl hc rfl rfl k1
theorem b_132_149 {X : zX} {d : Nat} {R : zR} {I : zI} {J : zJ} {c : Nat} {x1 : Int32} {x2 : Int32} {s0 : Int32} (ho : c = 7 ∨ c = 22) : zEv X d zm_132 (149, [some (.ref 0), some (.int x1), some (.int x2), some (.ref c)], [.int s0], (zS0, R, I, J)) (some (.int s0), (zS0, R, I, J)) := by
  rcases ho with rfl | rfl
  · exact zEv_r rfl
  · exact zEv_r rfl
theorem b_132_150 {X : zX} {d : Nat} {R : zR} {I : zI} {J : zJ} {r : zA} {c : Nat} {x1 : Int32} {x2 : Int32} {w : Int32} {R' : zR} {I' : zI} {J' : zJ} (ho : c = 7 ∨ c = 22) (hc : zEv X d zm_276 (0, [some (.ref c), none, none, none, none, none], [], (zS0, R, I, J)) (some (.int w), (zS0, R', I', J'))) (k1 : zEv X (d + 1) zm_132 (154, [some (.ref 0), some (.int x1), some (.int x2), some (.ref c)], [.int w], (zS0, R', I', J')) r) : zEv X (d + 1) zm_132 (150, [some (.ref 0), some (.int x1), some (.int x2), some (.ref c)], [], (zS0, R, I, J)) r := by
  rcases ho with rfl | rfl
  · refine zEv_k 1 (f' := (151, [some (.ref 0), some (.int x1), some (.int x2), some (.ref 7)], [.ref 7], (zS0, R, I, J))) rfl ?_
    exact zEv_c (fun _ => rfl) rfl hc rfl rfl k1
  · refine zEv_k 1 (f' := (151, [some (.ref 0), some (.int x1), some (.int x2), some (.ref 22)], [.ref 22], (zS0, R, I, J))) rfl ?_
    exact zEv_c (fun _ => rfl) rfl hc rfl rfl k1
theorem b_132_154 {X : zX} {d : Nat} {R : zR} {I : zI} {J : zJ} {c : Nat} {x1 : Int32} {x2 : Int32} {s0 : Int32} (ho : c = 7 ∨ c = 22) : zEv X d zm_132 (154, [some (.ref 0), some (.int x1), some (.int x2), some (.ref c)], [.int s0], (zS0, R, I, J)) (some (.int s0), (zS0, R, I, J)) := by
  rcases ho with rfl | rfl
  · exact zEv_r rfl
  · exact zEv_r rfl
theorem b_132_155 {X : zX} {d : Nat} {R : zR} {I : zI} {J : zJ} {r : zA} {c : Nat} {x1 : Int32} {x2 : Int32} {w : Int32} {R' : zR} {I' : zI} {J' : zJ} (ho : c = 7 ∨ c = 22) (hc : zEv X d zm_277 (0, [some (.ref c), none], [], (zS0, R, I, J)) (some (.int w), (zS0, R', I', J'))) (k1 : zEv X (d + 1) zm_132 (159, [some (.ref 0), some (.int x1), some (.int x2), some (.ref c)], [.int w], (zS0, R', I', J')) r) : zEv X (d + 1) zm_132 (155, [some (.ref 0), some (.int x1), some (.int x2), some (.ref c)], [], (zS0, R, I, J)) r := by
  rcases ho with rfl | rfl
  · refine zEv_k 1 (f' := (156, [some (.ref 0), some (.int x1), some (.int x2), some (.ref 7)], [.ref 7], (zS0, R, I, J))) rfl ?_
    exact zEv_c (fun _ => rfl) rfl hc rfl rfl k1
  · refine zEv_k 1 (f' := (156, [some (.ref 0), some (.int x1), some (.int x2), some (.ref 22)], [.ref 22], (zS0, R, I, J))) rfl ?_
    exact zEv_c (fun _ => rfl) rfl hc rfl rfl k1
theorem b_132_159 {X : zX} {d : Nat} {R : zR} {I : zI} {J : zJ} {c : Nat} {x1 : Int32} {x2 : Int32} {s0 : Int32} (ho : c = 7 ∨ c = 22) : zEv X d zm_132 (159, [some (.ref 0), some (.int x1), some (.int x2), some (.ref c)], [.int s0], (zS0, R, I, J)) (some (.int s0), (zS0, R, I, J)) := by
  rcases ho with rfl | rfl
  · exact zEv_r rfl
  · exact zEv_r rfl
theorem b_132_160 {X : zX} {d : Nat} {R : zR} {I : zI} {J : zJ} {r : zA} {c : Nat} {x1 : Int32} {x2 : Int32} {w : Int32} {R' : zR} {I' : zI} {J' : zJ} (hR : zRok R) (ho : c = 7 ∨ c = 22) (hc : zEv X d zm_104 (0, [some (.ref 180), none, none, none], [], (zS0, R, I, J)) (some (.int w), (zS0, R', I', J'))) (k1 : zEv X (d + 1) zm_132 (167, [some (.ref 0), some (.int x1), some (.int x2), some (.ref c)], [.int w], (zS0, R', I', J')) r) : zEv X (d + 1) zm_132 (160, [some (.ref 0), some (.int x1), some (.int x2), some (.ref c)], [], (zS0, R, I, J)) r := by
  rcases ho with rfl | rfl
  · refine zEv_k 1 (f' := (161, [some (.ref 0), some (.int x1), some (.int x2), some (.ref 7)], [.ref 0], (zS0, R, I, J))) rfl ?_
    refine zEv_gr rfl rfl rfl (by decide) (hR (0) 5 (180) rfl) ?_
    exact zEv_c (fun _ => rfl) rfl hc rfl rfl k1
  · refine zEv_k 1 (f' := (161, [some (.ref 0), some (.int x1), some (.int x2), some (.ref 22)], [.ref 0], (zS0, R, I, J))) rfl ?_
    refine zEv_gr rfl rfl rfl (by decide) (hR (0) 5 (180) rfl) ?_
    exact zEv_c (fun _ => rfl) rfl hc rfl rfl k1
theorem b_132_167 {X : zX} {d : Nat} {R : zR} {I : zI} {J : zJ} {c : Nat} {x1 : Int32} {x2 : Int32} {s0 : Int32} (ho : c = 7 ∨ c = 22) : zEv X d zm_132 (167, [some (.ref 0), some (.int x1), some (.int x2), some (.ref c)], [.int s0], (zS0, R, I, J)) (some (.int s0), (zS0, R, I, J)) := by
  rcases ho with rfl | rfl
  · exact zEv_r rfl
  · exact zEv_r rfl
theorem b_132_168 {X : zX} {d : Nat} {R : zR} {I : zI} {J : zJ} {r : zA} {c : Nat} {x1 : Int32} {x2 : Int32} {w : Int32} {R' : zR} {I' : zI} {J' : zJ} (hR : zRok R) (ho : c = 7 ∨ c = 22) (hc : zEv X d zm_105 (0, [some (.ref 180), none, none], [], (zS0, R, I, J)) (some (.int w), (zS0, R', I', J'))) (k1 : zEv X (d + 1) zm_132 (175, [some (.ref 0), some (.int x1), some (.int x2), some (.ref c)], [.int w], (zS0, R', I', J')) r) : zEv X (d + 1) zm_132 (168, [some (.ref 0), some (.int x1), some (.int x2), some (.ref c)], [], (zS0, R, I, J)) r := by
  rcases ho with rfl | rfl
  · refine zEv_k 1 (f' := (169, [some (.ref 0), some (.int x1), some (.int x2), some (.ref 7)], [.ref 0], (zS0, R, I, J))) rfl ?_
    refine zEv_gr rfl rfl rfl (by decide) (hR (0) 5 (180) rfl) ?_
    exact zEv_c (fun _ => rfl) rfl hc rfl rfl k1
  · refine zEv_k 1 (f' := (169, [some (.ref 0), some (.int x1), some (.int x2), some (.ref 22)], [.ref 0], (zS0, R, I, J))) rfl ?_
    refine zEv_gr rfl rfl rfl (by decide) (hR (0) 5 (180) rfl) ?_
    exact zEv_c (fun _ => rfl) rfl hc rfl rfl k1
theorem b_132_175 {X : zX} {d : Nat} {R : zR} {I : zI} {J : zJ} {c : Nat} {x1 : Int32} {x2 : Int32} {s0 : Int32} (ho : c = 7 ∨ c = 22) : zEv X d zm_132 (175, [some (.ref 0), some (.int x1), some (.int x2), some (.ref c)], [.int s0], (zS0, R, I, J)) (some (.int s0), (zS0, R, I, J)) := by
  rcases ho with rfl | rfl
  · exact zEv_r rfl
  · exact zEv_r rfl
theorem b_132_176 {X : zX} {d : Nat} {R : zR} {I : zI} {J : zJ} {r : zA} {c : Nat} {x1 : Int32} {x2 : Int32} {w : Int32} {R' : zR} {I' : zI} {J' : zJ} (hR : zRok R) (ho : c = 7 ∨ c = 22) (hc : zEv X d zm_107 (0, [some (.ref 180), none, none, none], [], (zS0, R, I, J)) (some (.int w), (zS0, R', I', J'))) (k1 : zEv X (d + 1) zm_132 (183, [some (.ref 0), some (.int x1), some (.int x2), some (.ref c)], [.int w], (zS0, R', I', J')) r) : zEv X (d + 1) zm_132 (176, [some (.ref 0), some (.int x1), some (.int x2), some (.ref c)], [], (zS0, R, I, J)) r := by
  rcases ho with rfl | rfl
  · refine zEv_k 1 (f' := (177, [some (.ref 0), some (.int x1), some (.int x2), some (.ref 7)], [.ref 0], (zS0, R, I, J))) rfl ?_
    refine zEv_gr rfl rfl rfl (by decide) (hR (0) 5 (180) rfl) ?_
    exact zEv_c (fun _ => rfl) rfl hc rfl rfl k1
  · refine zEv_k 1 (f' := (177, [some (.ref 0), some (.int x1), some (.int x2), some (.ref 22)], [.ref 0], (zS0, R, I, J))) rfl ?_
    refine zEv_gr rfl rfl rfl (by decide) (hR (0) 5 (180) rfl) ?_
    exact zEv_c (fun _ => rfl) rfl hc rfl rfl k1
theorem b_132_183 {X : zX} {d : Nat} {R : zR} {I : zI} {J : zJ} {r : zA} {c : Nat} {x1 : Int32} {x2 : Int32} {s0 : Int32} {w : Int32} {R' : zR} {I' : zI} {J' : zJ} (ho : c = 7 ∨ c = 22) (hc : zEv X d zm_286 (0, [some (.int s0)], [], (zS0, R, I, J)) (some (.int w), (zS0, R', I', J'))) (k1 : zEv X (d + 1) zm_132 (186, [some (.ref 0), some (.int x1), some (.int x2), some (.ref c)], [.int w], (zS0, R', I', J')) r) : zEv X (d + 1) zm_132 (183, [some (.ref 0), some (.int x1), some (.int x2), some (.ref c)], [.int s0], (zS0, R, I, J)) r := by
  rcases ho with rfl | rfl
  · exact zEv_c (fun _ => rfl) rfl hc rfl rfl k1
  · exact zEv_c (fun _ => rfl) rfl hc rfl rfl k1
theorem b_132_186 {X : zX} {d : Nat} {R : zR} {I : zI} {J : zJ} {c : Nat} {x1 : Int32} {x2 : Int32} {s0 : Int32} (ho : c = 7 ∨ c = 22) : zEv X d zm_132 (186, [some (.ref 0), some (.int x1), some (.int x2), some (.ref c)], [.int s0], (zS0, R, I, J)) (some (.int s0), (zS0, R, I, J)) := by
  rcases ho with rfl | rfl
  · exact zEv_r rfl
  · exact zEv_r rfl
theorem b_132_187 {X : zX} {d : Nat} {R : zR} {I : zI} {J : zJ} {r : zA} {c : Nat} {x1 : Int32} {x2 : Int32} {w : Int32} {R' : zR} {I' : zI} {J' : zJ} (hR : zRok R) (ho : c = 7 ∨ c = 22) (hc : zEv X d zm_107 (0, [some (.ref 180), none, none, none], [], (zS0, R, I, J)) (some (.int w), (zS0, R', I', J'))) (k1 : zEv X (d + 1) zm_132 (194, [some (.ref 0), some (.int x1), some (.int x2), some (.ref c)], [.int w], (zS0, R', I', J')) r) : zEv X (d + 1) zm_132 (187, [some (.ref 0), some (.int x1), some (.int x2), some (.ref c)], [], (zS0, R, I, J)) r := by
  rcases ho with rfl | rfl
  · refine zEv_k 1 (f' := (188, [some (.ref 0), some (.int x1), some (.int x2), some (.ref 7)], [.ref 0], (zS0, R, I, J))) rfl ?_
    refine zEv_gr rfl rfl rfl (by decide) (hR (0) 5 (180) rfl) ?_
    exact zEv_c (fun _ => rfl) rfl hc rfl rfl k1
  · refine zEv_k 1 (f' := (188, [some (.ref 0), some (.int x1), some (.int x2), some (.ref 22)], [.ref 0], (zS0, R, I, J))) rfl ?_
    refine zEv_gr rfl rfl rfl (by decide) (hR (0) 5 (180) rfl) ?_
    exact zEv_c (fun _ => rfl) rfl hc rfl rfl k1
theorem b_132_194 {X : zX} {d : Nat} {R : zR} {I : zI} {J : zJ} {c : Nat} {x1 : Int32} {x2 : Int32} {s0 : Int32} (ho : c = 7 ∨ c = 22) : zEv X d zm_132 (194, [some (.ref 0), some (.int x1), some (.int x2), some (.ref c)], [.int s0], (zS0, R, I, J)) (some (.int s0), (zS0, R, I, J)) := by
  rcases ho with rfl | rfl
  · exact zEv_r rfl
  · exact zEv_r rfl
theorem b_132_195 {X : zX} {d : Nat} {R : zR} {I : zI} {J : zJ} {r : zA} {c : Nat} {x1 : Int32} {x2 : Int32} {w : Int32} {R' : zR} {I' : zI} {J' : zJ} (ho : c = 7 ∨ c = 22) (hc : zEv X d zm_275 (0, [some (.ref c), none, none], [], (zS0, R, I, J)) (some (.int w), (zS0, R', I', J'))) (k1 : zEv X (d + 1) zm_132 (199, [some (.ref 0), some (.int x1), some (.int x2), some (.ref c)], [.int w], (zS0, R', I', J')) r) : zEv X (d + 1) zm_132 (195, [some (.ref 0), some (.int x1), some (.int x2), some (.ref c)], [], (zS0, R, I, J)) r := by
  rcases ho with rfl | rfl
  · refine zEv_k 1 (f' := (196, [some (.ref 0), some (.int x1), some (.int x2), some (.ref 7)], [.ref 7], (zS0, R, I, J))) rfl ?_
    exact zEv_c (fun _ => rfl) rfl hc rfl rfl k1
  · refine zEv_k 1 (f' := (196, [some (.ref 0), some (.int x1), some (.int x2), some (.ref 22)], [.ref 22], (zS0, R, I, J))) rfl ?_
    exact zEv_c (fun _ => rfl) rfl hc rfl rfl k1
theorem b_132_199 {X : zX} {d : Nat} {R : zR} {I : zI} {J : zJ} {c : Nat} {x1 : Int32} {x2 : Int32} {s0 : Int32} (ho : c = 7 ∨ c = 22) : zEv X d zm_132 (199, [some (.ref 0), some (.int x1), some (.int x2), some (.ref c)], [.int s0], (zS0, R, I, J)) (some (.int s0), (zS0, R, I, J)) := by
  rcases ho with rfl | rfl
  · exact zEv_r rfl
  · exact zEv_r rfl
theorem b_132_200 {X : zX} {d : Nat} {R : zR} {I : zI} {J : zJ} {r : zA} {c : Nat} {x1 : Int32} {x2 : Int32} {w : Int32} {R' : zR} {I' : zI} {J' : zJ} (ho : c = 7 ∨ c = 22) (hc : zEv X d zm_280 (0, [some (.ref c), none, none], [], (zS0, R, I, J)) (some (.int w), (zS0, R', I', J'))) (k1 : zEv X (d + 1) zm_132 (204, [some (.ref 0), some (.int x1), some (.int x2), some (.ref c)], [.int w], (zS0, R', I', J')) r) : zEv X (d + 1) zm_132 (200, [some (.ref 0), some (.int x1), some (.int x2), some (.ref c)], [], (zS0, R, I, J)) r := by
  rcases ho with rfl | rfl
  · refine zEv_k 1 (f' := (201, [some (.ref 0), some (.int x1), some (.int x2), some (.ref 7)], [.ref 7], (zS0, R, I, J))) rfl ?_
    exact zEv_c (fun _ => rfl) rfl hc rfl rfl k1
  · refine zEv_k 1 (f' := (201, [some (.ref 0), some (.int x1), some (.int x2), some (.ref 22)], [.ref 22], (zS0, R, I, J))) rfl ?_
    exact zEv_c (fun _ => rfl) rfl hc rfl rfl k1
theorem b_132_204 {X : zX} {d : Nat} {R : zR} {I : zI} {J : zJ} {c : Nat} {x1 : Int32} {x2 : Int32} {s0 : Int32} (ho : c = 7 ∨ c = 22) : zEv X d zm_132 (204, [some (.ref 0), some (.int x1), some (.int x2), some (.ref c)], [.int s0], (zS0, R, I, J)) (some (.int s0), (zS0, R, I, J)) := by
  rcases ho with rfl | rfl
  · exact zEv_r rfl
  · exact zEv_r rfl
theorem b_132_205 {X : zX} {d : Nat} {R : zR} {I : zI} {J : zJ} {r : zA} {c : Nat} {x1 : Int32} {x2 : Int32} {w : Int32} {R' : zR} {I' : zI} {J' : zJ} (ho : c = 7 ∨ c = 22) (hc : zEv X d zm_281 (0, [some (.ref c), none, none, none, none], [], (zS0, R, I, J)) (some (.int w), (zS0, R', I', J'))) (k1 : zEv X (d + 1) zm_132 (209, [some (.ref 0), some (.int x1), some (.int x2), some (.ref c)], [.int w], (zS0, R', I', J')) r) : zEv X (d + 1) zm_132 (205, [some (.ref 0), some (.int x1), some (.int x2), some (.ref c)], [], (zS0, R, I, J)) r := by
  rcases ho with rfl | rfl
  · refine zEv_k 1 (f' := (206, [some (.ref 0), some (.int x1), some (.int x2), some (.ref 7)], [.ref 7], (zS0, R, I, J))) rfl ?_
    exact zEv_c (fun _ => rfl) rfl hc rfl rfl k1
  · refine zEv_k 1 (f' := (206, [some (.ref 0), some (.int x1), some (.int x2), some (.ref 22)], [.ref 22], (zS0, R, I, J))) rfl ?_
    exact zEv_c (fun _ => rfl) rfl hc rfl rfl k1
theorem b_132_209 {X : zX} {d : Nat} {R : zR} {I : zI} {J : zJ} {c : Nat} {x1 : Int32} {x2 : Int32} {s0 : Int32} (ho : c = 7 ∨ c = 22) : zEv X d zm_132 (209, [some (.ref 0), some (.int x1), some (.int x2), some (.ref c)], [.int s0], (zS0, R, I, J)) (some (.int s0), (zS0, R, I, J)) := by
  rcases ho with rfl | rfl
  · exact zEv_r rfl
  · exact zEv_r rfl
theorem b_132_210 {X : zX} {d : Nat} {R : zR} {I : zI} {J : zJ} {r : zA} {c : Nat} {x1 : Int32} {x2 : Int32} {w : Int32} {R' : zR} {I' : zI} {J' : zJ} (ho : c = 7 ∨ c = 22) (hc : zEv X d zm_143 (0, [some (.ref 0), some (.ref c), some (.int 0), none, none, none, none], [], (zS0, R, I, J)) (some (.int w), (zS0, R', I', J'))) (k1 : zEv X (d + 1) zm_132 (216, [some (.ref 0), some (.int x1), some (.int x2), some (.ref c)], [.int w], (zS0, R', I', J')) r) : zEv X (d + 1) zm_132 (210, [some (.ref 0), some (.int x1), some (.int x2), some (.ref c)], [], (zS0, R, I, J)) r := by
  rcases ho with rfl | rfl
  · refine zEv_k 3 (f' := (213, [some (.ref 0), some (.int x1), some (.int x2), some (.ref 7)], [.int 0, .ref 7, .ref 0], (zS0, R, I, J))) rfl ?_
    exact zEv_c (fun _ => rfl) rfl hc rfl rfl k1
  · refine zEv_k 3 (f' := (213, [some (.ref 0), some (.int x1), some (.int x2), some (.ref 22)], [.int 0, .ref 22, .ref 0], (zS0, R, I, J))) rfl ?_
    exact zEv_c (fun _ => rfl) rfl hc rfl rfl k1
theorem b_132_216 {X : zX} {d : Nat} {R : zR} {I : zI} {J : zJ} {c : Nat} {x1 : Int32} {x2 : Int32} {s0 : Int32} (ho : c = 7 ∨ c = 22) : zEv X d zm_132 (216, [some (.ref 0), some (.int x1), some (.int x2), some (.ref c)], [.int s0], (zS0, R, I, J)) (some (.int s0), (zS0, R, I, J)) := by
  rcases ho with rfl | rfl
  · exact zEv_r rfl
  · exact zEv_r rfl
theorem b_132_217 {X : zX} {d : Nat} {R : zR} {I : zI} {J : zJ} {r : zA} {c : Nat} {x1 : Int32} {x2 : Int32} {w : Int32} {R' : zR} {I' : zI} {J' : zJ} (ho : c = 7 ∨ c = 22) (hc : zEv X d zm_143 (0, [some (.ref 0), some (.ref c), some (.int 1), none, none, none, none], [], (zS0, R, I, J)) (some (.int w), (zS0, R', I', J'))) (k1 : zEv X (d + 1) zm_132 (223, [some (.ref 0), some (.int x1), some (.int x2), some (.ref c)], [.int w], (zS0, R', I', J')) r) : zEv X (d + 1) zm_132 (217, [some (.ref 0), some (.int x1), some (.int x2), some (.ref c)], [], (zS0, R, I, J)) r := by
  rcases ho with rfl | rfl
  · refine zEv_k 3 (f' := (220, [some (.ref 0), some (.int x1), some (.int x2), some (.ref 7)], [.int 1, .ref 7, .ref 0], (zS0, R, I, J))) rfl ?_
    exact zEv_c (fun _ => rfl) rfl hc rfl rfl k1
  · refine zEv_k 3 (f' := (220, [some (.ref 0), some (.int x1), some (.int x2), some (.ref 22)], [.int 1, .ref 22, .ref 0], (zS0, R, I, J))) rfl ?_
    exact zEv_c (fun _ => rfl) rfl hc rfl rfl k1
theorem b_132_223 {X : zX} {d : Nat} {R : zR} {I : zI} {J : zJ} {c : Nat} {x1 : Int32} {x2 : Int32} {s0 : Int32} (ho : c = 7 ∨ c = 22) : zEv X d zm_132 (223, [some (.ref 0), some (.int x1), some (.int x2), some (.ref c)], [.int s0], (zS0, R, I, J)) (some (.int s0), (zS0, R, I, J)) := by
  rcases ho with rfl | rfl
  · exact zEv_r rfl
  · exact zEv_r rfl
theorem b_132_224 {X : zX} {d : Nat} {R : zR} {I : zI} {J : zJ} {r : zA} {c : Nat} {x1 : Int32} {x2 : Int32} {w : Int32} {R' : zR} {I' : zI} {J' : zJ} (hR : zRok R) (ho : c = 7 ∨ c = 22) (hc : zEv X d zm_109 (0, [some (.ref 180), none, none, none, none, none], [], (zS0, R, I, J)) (some (.int w), (zS0, R', I', J'))) (k1 : zEv X (d + 1) zm_132 (231, [some (.ref 0), some (.int x1), some (.int x2), some (.ref c)], [.int w], (zS0, R', I', J')) r) : zEv X (d + 1) zm_132 (224, [some (.ref 0), some (.int x1), some (.int x2), some (.ref c)], [], (zS0, R, I, J)) r := by
  rcases ho with rfl | rfl
  · refine zEv_k 1 (f' := (225, [some (.ref 0), some (.int x1), some (.int x2), some (.ref 7)], [.ref 0], (zS0, R, I, J))) rfl ?_
    refine zEv_gr rfl rfl rfl (by decide) (hR (0) 5 (180) rfl) ?_
    exact zEv_c (fun _ => rfl) rfl hc rfl rfl k1
  · refine zEv_k 1 (f' := (225, [some (.ref 0), some (.int x1), some (.int x2), some (.ref 22)], [.ref 0], (zS0, R, I, J))) rfl ?_
    refine zEv_gr rfl rfl rfl (by decide) (hR (0) 5 (180) rfl) ?_
    exact zEv_c (fun _ => rfl) rfl hc rfl rfl k1
theorem b_132_231 {X : zX} {d : Nat} {R : zR} {I : zI} {J : zJ} {c : Nat} {x1 : Int32} {x2 : Int32} {s0 : Int32} (ho : c = 7 ∨ c = 22) : zEv X d zm_132 (231, [some (.ref 0), some (.int x1), some (.int x2), some (.ref c)], [.int s0], (zS0, R, I, J)) (some (.int s0), (zS0, R, I, J)) := by
  rcases ho with rfl | rfl
  · exact zEv_r rfl
  · exact zEv_r rfl
theorem b_132_232 {X : zX} {d : Nat} {R : zR} {I : zI} {J : zJ} {r : zA} {c : Nat} {x1 : Int32} {x2 : Int32} {w : Int32} {R' : zR} {I' : zI} {J' : zJ} (ho : c = 7 ∨ c = 22) (hc : zEv X d zm_278 (0, [some (.ref c), none, none, none, none], [], (zS0, R, I, J)) (some (.int w), (zS0, R', I', J'))) (k1 : zEv X (d + 1) zm_132 (236, [some (.ref 0), some (.int x1), some (.int x2), some (.ref c)], [.int w], (zS0, R', I', J')) r) : zEv X (d + 1) zm_132 (232, [some (.ref 0), some (.int x1), some (.int x2), some (.ref c)], [], (zS0, R, I, J)) r := by
  rcases ho with rfl | rfl
  · refine zEv_k 1 (f' := (233, [some (.ref 0), some (.int x1), some (.int x2), some (.ref 7)], [.ref 7], (zS0, R, I, J))) rfl ?_
    exact zEv_c (fun _ => rfl) rfl hc rfl rfl k1
  · refine zEv_k 1 (f' := (233, [some (.ref 0), some (.int x1), some (.int x2), some (.ref 22)], [.ref 22], (zS0, R, I, J))) rfl ?_
    exact zEv_c (fun _ => rfl) rfl hc rfl rfl k1
theorem b_132_236 {X : zX} {d : Nat} {R : zR} {I : zI} {J : zJ} {c : Nat} {x1 : Int32} {x2 : Int32} {s0 : Int32} (ho : c = 7 ∨ c = 22) : zEv X d zm_132 (236, [some (.ref 0), some (.int x1), some (.int x2), some (.ref c)], [.int s0], (zS0, R, I, J)) (some (.int s0), (zS0, R, I, J)) := by
  rcases ho with rfl | rfl
  · exact zEv_r rfl
  · exact zEv_r rfl
theorem b_132_237 {X : zX} {d : Nat} {R : zR} {I : zI} {J : zJ} {r : zA} {c : Nat} {x1 : Int32} {x2 : Int32} {w : Int32} {R' : zR} {I' : zI} {J' : zJ} (ho : c = 7 ∨ c = 22) (hc : zEv X d zm_279 (0, [some (.ref c), none, none], [], (zS0, R, I, J)) (some (.int w), (zS0, R', I', J'))) (k1 : zEv X (d + 1) zm_132 (241, [some (.ref 0), some (.int x1), some (.int x2), some (.ref c)], [.int w], (zS0, R', I', J')) r) : zEv X (d + 1) zm_132 (237, [some (.ref 0), some (.int x1), some (.int x2), some (.ref c)], [], (zS0, R, I, J)) r := by
  rcases ho with rfl | rfl
  · refine zEv_k 1 (f' := (238, [some (.ref 0), some (.int x1), some (.int x2), some (.ref 7)], [.ref 7], (zS0, R, I, J))) rfl ?_
    exact zEv_c (fun _ => rfl) rfl hc rfl rfl k1
  · refine zEv_k 1 (f' := (238, [some (.ref 0), some (.int x1), some (.int x2), some (.ref 22)], [.ref 22], (zS0, R, I, J))) rfl ?_
    exact zEv_c (fun _ => rfl) rfl hc rfl rfl k1
theorem b_132_241 {X : zX} {d : Nat} {R : zR} {I : zI} {J : zJ} {c : Nat} {x1 : Int32} {x2 : Int32} {s0 : Int32} (ho : c = 7 ∨ c = 22) : zEv X d zm_132 (241, [some (.ref 0), some (.int x1), some (.int x2), some (.ref c)], [.int s0], (zS0, R, I, J)) (some (.int s0), (zS0, R, I, J)) := by
  rcases ho with rfl | rfl
  · exact zEv_r rfl
  · exact zEv_r rfl
theorem b_132_242 {X : zX} {d : Nat} {R : zR} {I : zI} {J : zJ} {c : Nat} {x1 : Int32} {x2 : Int32} (ho : c = 7 ∨ c = 22) : zEv X d zm_132 (242, [some (.ref 0), some (.int x1), some (.int x2), some (.ref c)], [], (zS0, R, I, J)) (some (.int (-2)), (zS0, R, I, J)) := by
  rcases ho with rfl | rfl
  · refine zEv_k 1 (f' := (244, [some (.ref 0), some (.int x1), some (.int x2), some (.ref 7)], [.int (-2)], (zS0, R, I, J))) rfl ?_
    exact zEv_r rfl
  · refine zEv_k 1 (f' := (244, [some (.ref 0), some (.int x1), some (.int x2), some (.ref 22)], [.int (-2)], (zS0, R, I, J))) rfl ?_
    exact zEv_r rfl
theorem b_133_0r {X : zX} {d : Nat} {R : zR} {I : zI} {J : zJ} {r : zA} {c : Nat} {x1 : Int32} {x2 : Int32} {R' : zR} {I' : zI} {J' : zJ} (hR : zRok R) (ho : c = 7 ∨ c = 22) (hc : zEv X d zm_89 (0, [some (.ref 1), some (.int x1)], [], (zS0, R, I, J)) (some (.ref c), (zS0, R', I', J'))) (k1 : zEv X (d + 1) zm_133 (8, [some (.ref 0), some (.int x1), some (.int x2), none], [.ref c], (zS0, R', I', J')) r) : zEv X (d + 1) zm_133 (0, [some (.ref 0), some (.int x1), some (.int x2), none], [], (zS0, R, I, J)) r := by
  rcases ho with rfl | rfl
  · refine zEv_k 1 (f' := (1, [some (.ref 0), some (.int x1), some (.int x2), none], [.ref 0], (zS0, R, I, J))) rfl ?_
    refine zEv_gr rfl rfl rfl (by decide) (hR (0) 0 (1) rfl) ?_
    refine zEv_k 1 (f' := (5, [some (.ref 0), some (.int x1), some (.int x2), none], [.int x1, .ref 1], (zS0, R, I, J))) rfl ?_
    exact zEv_c (fun _ => rfl) rfl hc rfl rfl k1
  · refine zEv_k 1 (f' := (1, [some (.ref 0), some (.int x1), some (.int x2), none], [.ref 0], (zS0, R, I, J))) rfl ?_
    refine zEv_gr rfl rfl rfl (by decide) (hR (0) 0 (1) rfl) ?_
    refine zEv_k 1 (f' := (5, [some (.ref 0), some (.int x1), some (.int x2), none], [.int x1, .ref 1], (zS0, R, I, J))) rfl ?_
    exact zEv_c (fun _ => rfl) rfl hc rfl rfl k1
