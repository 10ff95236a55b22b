theorem b_135_33 {X : zX} {d : Nat} {R : zR} {I : zI} {J : zJ} {r : zA} {c : Nat} {x1 : Int32} {x2 : Int32} {x3 : Int32} {s0 : Int32} (ho : c = 7 ∨ c = 22) (k1 : ¬ x3 = 0 → zEv X d zm_135 (45, [some (.ref 0), some (.int x1), some (.int x2), some (.int x3), some (.ref c), some (.int s0)], [], (zS0, R, I, J)) r) (k2 : ¬ (¬ x3 = 0) → zEv X d zm_135 (39, [some (.ref 0), some (.int x1), some (.int x2), some (.int x3), some (.ref c), some (.int s0)], [], (zS0, R, I, J)) r) : zEv X d zm_135 (33, [some (.ref 0), some (.int x1), some (.int x2), some (.int x3), some (.ref c), none], [.int s0], (zS0, R, I, J)) r := by
  rcases ho with rfl | rfl
  · refine zEv_k 3 (f' := (if ¬ x3 = 0 then 45 else 39, [some (.ref 0), some (.int x1), some (.int x2), some (.int x3), some (.ref 7), some (.int s0)], [], (zS0, R, I, J))) rfl ?_
    exact zEv_if k1 k2
  · refine zEv_k 3 (f' := (if ¬ x3 = 0 then 45 else 39, [some (.ref 0), some (.int x1), some (.int x2), some (.int x3), some (.ref 22), some (.int s0)], [], (zS0, R, I, J))) rfl ?_
    exact zEv_if k1 k2
theorem b_135_39 {X : zX} {d : Nat} {R : zR} {I : zI} {J : zJ} {r : zA} {c : Nat} {x1 : Int32} {x2 : Int32} {x3 : Int32} {x5 : Int32} (ho : c = 7 ∨ c = 22) (k1 : ¬ x5 = (-1) → zEv X d zm_135 (50, [some (.ref 0), some (.int x1), some (.int x2), some (.int x3), some (.ref c), some (.int x5)], [], (zS0, R, I, J)) r) (k2 : ¬ (¬ x5 = (-1)) → zEv X d zm_135 (45, [some (.ref 0), some (.int x1), some (.int x2), some (.int x3), some (.ref c), some (.int x5)], [], (zS0, R, I, J)) r) : zEv X d zm_135 (39, [some (.ref 0), some (.int x1), some (.int x2), some (.int x3), some (.ref c), some (.int x5)], [], (zS0, R, I, J)) r := by
  rcases ho with rfl | rfl
  · refine zEv_k 3 (f' := (if ¬ x5 = (-1) then 50 else 45, [some (.ref 0), some (.int x1), some (.int x2), some (.int x3), some (.ref 7), some (.int x5)], [], (zS0, R, I, J))) rfl ?_
    exact zEv_if k1 k2
  · refine zEv_k 3 (f' := (if ¬ x5 = (-1) then 50 else 45, [some (.ref 0), some (.int x1), some (.int x2), some (.int x3), some (.ref 22), some (.int x5)], [], (zS0, R, I, J))) rfl ?_
    exact zEv_if k1 k2
theorem b_135_45 {X : zX} {d : Nat} {R : zR} {I : zI} {J : zJ} {r : zA} {c : Nat} {x1 : Int32} {x2 : Int32} {x3 : Int32} {x5 : Int32} (ho : c = 7 ∨ c = 22) (k1 : zEv X d zm_135 (57, [some (.ref 0), some (.int x1), some (.int x2), some (.int x3), some (.ref c), some (.int x5)], [.int x5], (zS0, R, I, J)) r) : zEv X d zm_135 (45, [some (.ref 0), some (.int x1), some (.int x2), some (.int x3), some (.ref c), some (.int x5)], [], (zS0, R, I, J)) r := by
  rcases ho with rfl | rfl
  · refine zEv_k 2 (f' := (57, [some (.ref 0), some (.int x1), some (.int x2), some (.int x3), some (.ref 7), some (.int x5)], [.int x5], (zS0, R, I, J))) rfl ?_
    exact k1
  · refine zEv_k 2 (f' := (57, [some (.ref 0), some (.int x1), some (.int x2), some (.int x3), some (.ref 22), some (.int x5)], [.int x5], (zS0, R, I, J))) rfl ?_
    exact k1
theorem b_135_50 {X : zX} {d : Nat} {R : zR} {I : zI} {J : zJ} {r : zA} {c : Nat} {x1 : Int32} {x2 : Int32} {x3 : Int32} {x5 : Int32} {w : Int32} {R' : zR} {I' : zI} {J' : zJ} (ho : c = 7 ∨ c = 22) (hc : zEv X d zm_273 (0, [some (.ref c), some (.int x5), none, none], [], (zS0, R, I, J)) (some (.int w), (zS0, R', I', J'))) (k1 : zEv X (d + 1) zm_135 (57, [some (.ref 0), some (.int x1), some (.int x2), some (.int x3), some (.ref c), some (.int x5)], [.int w], (zS0, R', I', J')) r) : zEv X (d + 1) zm_135 (50, [some (.ref 0), some (.int x1), some (.int x2), some (.int x3), some (.ref c), some (.int x5)], [], (zS0, R, I, J)) r := by
  rcases ho with rfl | rfl
  · refine zEv_k 2 (f' := (54, [some (.ref 0), some (.int x1), some (.int x2), some (.int x3), some (.ref 7), some (.int x5)], [.int x5, .ref 7], (zS0, R, I, J))) rfl ?_
    exact zEv_c (fun _ => rfl) rfl hc rfl rfl k1
  · refine zEv_k 2 (f' := (54, [some (.ref 0), some (.int x1), some (.int x2), some (.int x3), some (.ref 22), some (.int x5)], [.int x5, .ref 22], (zS0, R, I, J))) rfl ?_
    exact zEv_c (fun _ => rfl) rfl hc rfl rfl k1
theorem b_135_57 {X : zX} {d : Nat} {R : zR} {I : zI} {J : zJ} {c : Nat} {x1 : Int32} {x2 : Int32} {x3 : Int32} {x5 : Int32} {s0 : Int32} (ho : c = 7 ∨ c = 22) : zEv X d zm_135 (57, [some (.ref 0), some (.int x1), some (.int x2), some (.int x3), some (.ref c), some (.int x5)], [.int s0], (zS0, R, I, J)) (some (.int s0), (zS0, R, I, J)) := by
  rcases ho with rfl | rfl
  · exact zEv_r rfl
  · exact zEv_r rfl
theorem b_136_0r {X : zX} {d : Nat} {R : zR} {I : zI} {J : zJ} {r : zA} {c : Nat} {x1 : Int32} {x2 : Int32} {x3 : Int32} {R' : zR} {I' : zI} {J' : zJ} (hR : zRok R) (ho : c = 7 ∨ c = 22) (hc : zEv X d zm_89 (0, [some (.ref 1), some (.int x1)], [], (zS0, R, I, J)) (some (.ref c), (zS0, R', I', J'))) (k1 : zEv X (d + 1) zm_136 (8, [some (.ref 0), some (.int x1), some (.int x2), some (.int x3), none, none], [.ref c], (zS0, R', I', J')) r) : zEv X (d + 1) zm_136 (0, [some (.ref 0), some (.int x1), some (.int x2), some (.int x3), none, none], [], (zS0, R, I, J)) r := by
  rcases ho with rfl | rfl
  · refine zEv_k 1 (f' := (1, [some (.ref 0), some (.int x1), some (.int x2), some (.int x3), none, none], [.ref 0], (zS0, R, I, J))) rfl ?_
    refine zEv_gr rfl rfl rfl (by decide) (hR (0) 0 (1) rfl) ?_
    refine zEv_k 1 (f' := (5, [some (.ref 0), some (.int x1), some (.int x2), some (.int x3), none, none], [.int x1, .ref 1], (zS0, R, I, J))) rfl ?_
    exact zEv_c (fun _ => rfl) rfl hc rfl rfl k1
  · refine zEv_k 1 (f' := (1, [some (.ref 0), some (.int x1), some (.int x2), some (.int x3), none, none], [.ref 0], (zS0, R, I, J))) rfl ?_
    refine zEv_gr rfl rfl rfl (by decide) (hR (0) 0 (1) rfl) ?_
    refine zEv_k 1 (f' := (5, [some (.ref 0), some (.int x1), some (.int x2), some (.int x3), none, none], [.int x1, .ref 1], (zS0, R, I, J))) rfl ?_
    exact zEv_c (fun _ => rfl) rfl hc rfl rfl k1
theorem b_136_0n {X : zX} {d : Nat} {R : zR} {I : zI} {J : zJ} {r : zA} {x1 : Int32} {x2 : Int32} {x3 : Int32} {R' : zR} {I' : zI} {J' : zJ} (hR : zRok R) (hc : zEv X d zm_89 (0, [some (.ref 1), some (.int x1)], [], (zS0, R, I, J)) (some .null, (zS0, R', I', J'))) (k1 : zEv X (d + 1) zm_136 (8, [some (.ref 0), some (.int x1), some (.int x2), some (.int x3), none, none], [.null], (zS0, R', I', J')) r) : zEv X (d + 1) zm_136 (0, [some (.ref 0), some (.int x1), some (.int x2), some (.int x3), none, none], [], (zS0, R, I, J)) r := by
  refine zEv_k 1 (f' := (1, [some (.ref 0), some (.int x1), some (.int x2), some (.int x3), none, none], [.ref 0], (zS0, R, I, J))) rfl ?_
  refine zEv_gr rfl rfl rfl (by decide) (hR (0) 0 (1) rfl) ?_
  refine zEv_k 1 (f' := (5, [some (.ref 0), some (.int x1), some (.int x2), some (.int x3), none, none], [.int x1, .ref 1], (zS0, R, I, J))) rfl ?_
  exact zEv_c (fun _ => rfl) rfl hc rfl rfl k1
theorem b_136_8r {X : zX} {d : Nat} {R : zR} {I : zI} {J : zJ} {r : zA} {c : Nat} {e : Nat} {x1 : Int32} {x2 : Int32} {x3 : Int32} {R' : zR} {I' : zI} {J' : zJ} (hR : zRok R) (ho : (c = 7 ∧ e = 15) ∨ (c = 7 ∧ e = 30) ∨ (c = 22 ∧ e = 15) ∨ (c = 22 ∧ e = 30)) (hc : zEv X d zm_90 (0, [some (.ref 1), some (.int x2)], [], (zS0, R, I, J)) (some (.ref e), (zS0, R', I', J'))) (k1 : zEv X (d + 1) zm_136 (18, [some (.ref 0), some (.int x1), some (.int x2), some (.int x3), some (.ref c), none], [.ref e], (zS0, R', I', J')) r) : zEv X (d + 1) zm_136 (8, [some (.ref 0), some (.int x1), some (.int x2), some (.int x3), none, none], [.ref c], (zS0, R, I, J)) r := by
  rcases ho with ⟨rfl, rfl⟩ | ⟨rfl, rfl⟩ | ⟨rfl, rfl⟩ | ⟨rfl, rfl⟩
  · refine zEv_k 2 (f' := (11, [some (.ref 0), some (.int x1), some (.int x2), some (.int x3), some (.ref 7), none], [.ref 0], (zS0, R, I, J))) rfl ?_
    refine zEv_gr rfl rfl rfl (by decide) (hR (0) 0 (1) rfl) ?_
    refine zEv_k 1 (f' := (15, [some (.ref 0), some (.int x1), some (.int x2), some (.int x3), some (.ref 7), none], [.int x2, .ref 1], (zS0, R, I, J))) rfl ?_
    exact zEv_c (fun _ => rfl) rfl hc rfl rfl k1
  · refine zEv_k 2 (f' := (11, [some (.ref 0), some (.int x1), some (.int x2), some (.int x3), some (.ref 7), none], [.ref 0], (zS0, R, I, J))) rfl ?_
    refine zEv_gr rfl rfl rfl (by decide) (hR (0) 0 (1) rfl) ?_
    refine zEv_k 1 (f' := (15, [some (.ref 0), some (.int x1), some (.int x2), some (.int x3), some (.ref 7), none], [.int x2, .ref 1], (zS0, R, I, J))) rfl ?_
    exact zEv_c (fun _ => rfl) rfl hc rfl rfl k1
  · refine zEv_k 2 (f' := (11, [some (.ref 0), some (.int x1), some (.int x2), some (.int x3), some (.ref 22), none], [.ref 0], (zS0, R, I, J))) rfl ?_
    refine zEv_gr rfl rfl rfl (by decide) (hR (0) 0 (1) rfl) ?_
    refine zEv_k 1 (f' := (15, [some (.ref 0), some (.int x1), some (.int x2), some (.int x3), some (.ref 22), none], [.int x2, .ref 1], (zS0, R, I, J))) rfl ?_
    exact zEv_c (fun _ => rfl) rfl hc rfl rfl k1
  · refine zEv_k 2 (f' := (11, [some (.ref 0), some (.int x1), some (.int x2), some (.int x3), some (.ref 22), none], [.ref 0], (zS0, R, I, J))) rfl ?_
    refine zEv_gr rfl rfl rfl (by decide) (hR (0) 0 (1) rfl) ?_
    refine zEv_k 1 (f' := (15, [some (.ref 0), some (.int x1), some (.int x2), some (.int x3), some (.ref 22), none], [.int x2, .ref 1], (zS0, R, I, J))) rfl ?_
    exact zEv_c (fun _ => rfl) rfl hc rfl rfl k1
theorem b_136_8n {X : zX} {d : Nat} {R : zR} {I : zI} {J : zJ} {r : zA} {c : Nat} {x1 : Int32} {x2 : Int32} {x3 : Int32} {R' : zR} {I' : zI} {J' : zJ} (hR : zRok R) (ho : c = 7 ∨ c = 22) (hc : zEv X d zm_90 (0, [some (.ref 1), some (.int x2)], [], (zS0, R, I, J)) (some .null, (zS0, R', I', J'))) (k1 : zEv X (d + 1) zm_136 (18, [some (.ref 0), some (.int x1), some (.int x2), some (.int x3), some (.ref c), none], [.null], (zS0, R', I', J')) r) : zEv X (d + 1) zm_136 (8, [some (.ref 0), some (.int x1), some (.int x2), some (.int x3), none, none], [.ref c], (zS0, R, I, J)) r := by
  rcases ho with rfl | rfl
  · refine zEv_k 2 (f' := (11, [some (.ref 0), some (.int x1), some (.int x2), some (.int x3), some (.ref 7), none], [.ref 0], (zS0, R, I, J))) rfl ?_
    refine zEv_gr rfl rfl rfl (by decide) (hR (0) 0 (1) rfl) ?_
    refine zEv_k 1 (f' := (15, [some (.ref 0), some (.int x1), some (.int x2), some (.int x3), some (.ref 7), none], [.int x2, .ref 1], (zS0, R, I, J))) rfl ?_
    exact zEv_c (fun _ => rfl) rfl hc rfl rfl k1
  · refine zEv_k 2 (f' := (11, [some (.ref 0), some (.int x1), some (.int x2), some (.int x3), some (.ref 22), none], [.ref 0], (zS0, R, I, J))) rfl ?_
    refine zEv_gr rfl rfl rfl (by decide) (hR (0) 0 (1) rfl) ?_
    refine zEv_k 1 (f' := (15, [some (.ref 0), some (.int x1), some (.int x2), some (.int x3), some (.ref 22), none], [.int x2, .ref 1], (zS0, R, I, J))) rfl ?_
    exact zEv_c (fun _ => rfl) rfl hc rfl rfl k1
theorem b_136_8n100r {X : zX} {d : Nat} {R : zR} {I : zI} {J : zJ} {r : zA} {e : Nat} {x1 : Int32} {x2 : Int32} {x3 : Int32} {R' : zR} {I' : zI} {J' : zJ} (hR : zRok R) (ho : e = 15 ∨ e = 30) (hc : zEv X d zm_90 (0, [some (.ref 1), some (.int x2)], [], (zS0, R, I, J)) (some (.ref e), (zS0, R', I', J'))) (k1 : zEv X (d + 1) zm_136 (18, [some (.ref 0), some (.int x1), some (.int x2), some (.int x3), some (.null), none], [.ref e], (zS0, R', I', J')) r) : zEv X (d + 1) zm_136 (8, [some (.ref 0), some (.int x1), some (.int x2), some (.int x3), none, none], [.null], (zS0, R, I, J)) r := by
  rcases ho with rfl | rfl
  · refine zEv_k 2 (f' := (11, [some (.ref 0), some (.int x1), some (.int x2), some (.int x3), some (.null), none], [.ref 0], (zS0, R, I, J))) rfl ?_
    refine zEv_gr rfl rfl rfl (by decide) (hR (0) 0 (1) rfl) ?_
    refine zEv_k 1 (f' := (15, [some (.ref 0), some (.int x1), some (.int x2), some (.int x3), some (.null), none], [.int x2, .ref 1], (zS0, R, I, J))) rfl ?_
    exact zEv_c (fun _ => rfl) rfl hc rfl rfl k1
  · refine zEv_k 2 (f' := (11, [some (.ref 0), some (.int x1), some (.int x2), some (.int x3), some (.null), none], [.ref 0], (zS0, R, I, J))) rfl ?_
    refine zEv_gr rfl rfl rfl (by decide) (hR (0) 0 (1) rfl) ?_
    refine zEv_k 1 (f' := (15, [some (.ref 0), some (.int x1), some (.int x2), some (.int x3), some (.null), none], [.int x2, .ref 1], (zS0, R, I, J))) rfl ?_
    exact zEv_c (fun _ => rfl) rfl hc rfl rfl k1
theorem b_136_8n100n {X : zX} {d : Nat} {R : zR} {I : zI} {J : zJ} {r : zA} {x1 : Int32} {x2 : Int32} {x3 : Int32} {R' : zR} {I' : zI} {J' : zJ} (hR : zRok R) (hc : zEv X d zm_90 (0, [some (.ref 1), some (.int x2)], [], (zS0, R, I, J)) (some .null, (zS0, R', I', J'))) (k1 : zEv X (d + 1) zm_136 (18, [some (.ref 0), some (.int x1), some (.int x2), some (.int x3), some (.null), none], [.null], (zS0, R', I', J')) r) : zEv X (d + 1) zm_136 (8, [some (.ref 0), some (.int x1), some (.int x2), some (.int x3), none, none], [.null], (zS0, R, I, J)) r := by
  refine zEv_k 2 (f' := (11, [some (.ref 0), some (.int x1), some (.int x2), some (.int x3), some (.null), none], [.ref 0], (zS0, R, I, J))) rfl ?_
  refine zEv_gr rfl rfl rfl (by decide) (hR (0) 0 (1) rfl) ?_
  refine zEv_k 1 (f' := (15, [some (.ref 0), some (.int x1), some (.int x2), some (.int x3), some (.null), none], [.int x2, .ref 1], (zS0, R, I, J))) rfl ?_
  exact zEv_c (fun _ => rfl) rfl hc rfl rfl k1
theorem b_136_18 {X : zX} {d : Nat} {R : zR} {I : zI} {J : zJ} {r : zA} {c : Nat} {e : Nat} {x1 : Int32} {x2 : Int32} {x3 : Int32} {R' : zR} {I' : zI} {J' : zJ} (hR : zRok R) (ho : (c = 7 ∧ e = 15) ∨ (c = 7 ∧ e = 30) ∨ (c = 22 ∧ e = 15) ∨ (c = 22 ∧ e = 30)) (hc : zEv X d zm_70 (0, [some (.ref 166), some (.ref c), none], [], (zS0, R, I, J)) (none, (zS0, R', I', J'))) (k1 : zEv X (d + 1) zm_136 (42, [some (.ref 0), some (.int x1), some (.int x2), some (.int x3), some (.ref c), some (.ref e)], [], (zS0, R', I', J')) r) : zEv X (d + 1) zm_136 (18, [some (.ref 0), some (.int x1), some (.int x2), some (.int x3), some (.ref c), none], [.ref e], (zS0, R, I, J)) r := by
  rcases ho with ⟨rfl, rfl⟩ | ⟨rfl, rfl⟩ | ⟨rfl, rfl⟩ | ⟨rfl, rfl⟩
  · refine zEv_k 6 (f' := (34, [some (.ref 0), some (.int x1), some (.int x2), some (.int x3), some (.ref 7), some (.ref 15)], [.ref 0], (zS0, R, I, J))) rfl ?_
    refine zEv_gr rfl rfl rfl (by decide) (hR (0) 4 (166) rfl) ?_
    refine zEv_k 1 (f' := (39, [some (.ref 0), some (.int x1), some (.int x2), some (.int x3), some (.ref 7), some (.ref 15)], [.ref 7, .ref 166], (zS0, R, I, J))) rfl ?_
    exact zEv_c (fun _ => rfl) rfl hc rfl rfl k1
  · refine zEv_k 6 (f' := (34, [some (.ref 0), some (.int x1), some (.int x2), some (.int x3), some (.ref 7), some (.ref 30)], [.ref 0], (zS0, R, I, J))) rfl ?_
    refine zEv_gr rfl rfl rfl (by decide) (hR (0) 4 (166) rfl) ?_
    refine zEv_k 1 (f' := (39, [some (.ref 0), some (.int x1), some (.int x2), some (.int x3), some (.ref 7), some (.ref 30)], [.ref 7, .ref 166], (zS0, R, I, J))) rfl ?_
    exact zEv_c (fun _ => rfl) rfl hc rfl rfl k1
  · refine zEv_k 6 (f' := (34, [some (.ref 0), some (.int x1), some (.int x2), some (.int x3), some (.ref 22), some (.ref 15)], [.ref 0], (zS0, R, I, J))) rfl ?_
    refine zEv_gr rfl rfl rfl (by decide) (hR (0) 4 (166) rfl) ?_
    refine zEv_k 1 (f' := (39, [some (.ref 0), some (.int x1), some (.int x2), some (.int x3), some (.ref 22), some (.ref 15)], [.ref 22, .ref 166], (zS0, R, I, J))) rfl ?_
    exact zEv_c (fun _ => rfl) rfl hc rfl rfl k1
  · refine zEv_k 6 (f' := (34, [some (.ref 0), some (.int x1), some (.int x2), some (.int x3), some (.ref 22), some (.ref 30)], [.ref 0], (zS0, R, I, J))) rfl ?_
    refine zEv_gr rfl rfl rfl (by decide) (hR (0) 4 (166) rfl) ?_
    refine zEv_k 1 (f' := (39, [some (.ref 0), some (.int x1), some (.int x2), some (.int x3), some (.ref 22), some (.ref 30)], [.ref 22, .ref 166], (zS0, R, I, J))) rfl ?_
    exact zEv_c (fun _ => rfl) rfl hc rfl rfl k1
theorem b_136_18n4 {X : zX} {d : Nat} {R : zR} {I : zI} {J : zJ} {e : Nat} {x1 : Int32} {x2 : Int32} {x3 : Int32} (ho : e = 15 ∨ e = 30) : zEv X d zm_136 (18, [some (.ref 0), some (.int x1), some (.int x2), some (.int x3), some (.null), none], [.ref e], (zS0, R, I, J)) (some (.int (-2)), (zS0, R, I, J)) := by
  rcases ho with rfl | rfl
  · refine zEv_k 4 (f' := (32, [some (.ref 0), some (.int x1), some (.int x2), some (.int x3), some (.null), some (.ref 15)], [.int (-2)], (zS0, R, I, J))) rfl ?_
    exact zEv_r rfl
  · refine zEv_k 4 (f' := (32, [some (.ref 0), some (.int x1), some (.int x2), some (.int x3), some (.null), some (.ref 30)], [.int (-2)], (zS0, R, I, J))) rfl ?_
    exact zEv_r rfl
theorem b_136_18n4_100 {X : zX} {d : Nat} {R : zR} {I : zI} {J : zJ} {x1 : Int32} {x2 : Int32} {x3 : Int32} : zEv X d zm_136 (18, [some (.ref 0), some (.int x1), some (.int x2), some (.int x3), some (.null), none], [.null], (zS0, R, I, J)) (some (.int (-2)), (zS0, R, I, J)) := by
  refine zEv_k 4 (f' := (32, [some (.ref 0), some (.int x1), some (.int x2), some (.int x3), some (.null), some (.null)], [.int (-2)], (zS0, R, I, J))) rfl ?_
  exact zEv_r rfl
theorem b_136_18n100 {X : zX} {d : Nat} {R : zR} {I : zI} {J : zJ} {c : Nat} {x1 : Int32} {x2 : Int32} {x3 : Int32} (ho : c = 7 ∨ c = 22) : zEv X d zm_136 (18, [some (.ref 0), some (.int x1), some (.int x2), some (.int x3), some (.ref c), none], [.null], (zS0, R, I, J)) (some (.int (-2)), (zS0, R, I, J)) := by
  rcases ho with rfl | rfl
  · refine zEv_k 6 (f' := (32, [some (.ref 0), some (.int x1), some (.int x2), some (.int x3), some (.ref 7), some (.null)], [.int (-2)], (zS0, R, I, J))) rfl ?_
    exact zEv_r rfl
  · refine zEv_k 6 (f' := (32, [some (.ref 0), some (.int x1), some (.int x2), some (.int x3), some (.ref 22), some (.null)], [.int (-2)], (zS0, R, I, J))) rfl ?_
    exact zEv_r rfl
theorem b_136_42 {X : zX} {d : Nat} {R : zR} {I : zI} {J : zJ} {r : zA} {c : Nat} {e : Nat} {x1 : Int32} {x2 : Int32} {x3 : Int32} {w : Int32} {R' : zR} {I' : zI} {J' : zJ} (hR : zRok R) (ho : (c = 7 ∧ e = 15) ∨ (c = 7 ∧ e = 30) ∨ (c = 22 ∧ e = 15) ∨ (c = 22 ∧ e = 30)) (hc : zEv X d zm_71 (0, [some (.ref 166), some (.ref e), some (.int (I e 0)), none], [], (zS0, R, I, J)) (some (.int w), (zS0, R', I', J'))) (k1 : zEv X (d + 1) zm_136 (56, [some (.ref 0), some (.int x1), some (.int x2), some (.int x3), some (.ref c), some (.ref e)], [.int w], (zS0, R', I', J')) r) : zEv X (d + 1) zm_136 (42, [some (.ref 0), some (.int x1), some (.int x2), some (.int x3), some (.ref c), some (.ref e)], [], (zS0, R, I, J)) r := by
  rcases ho with ⟨rfl, rfl⟩ | ⟨rfl, rfl⟩ | ⟨rfl, rfl⟩ | ⟨rfl, rfl⟩
  · refine zEv_k 1 (f' := (43, [some (.ref 0), some (.int x1), some (.int x2), some (.int x3), some (.ref 7), some (.ref 15)], [.ref 0], (zS0, R, I, J))) rfl ?_
    refine zEv_gr rfl rfl rfl (by decide) (hR (0) 4 (166) rfl) ?_
    refine zEv_k 3 (f' := (53, [some (.ref 0), some (.int x1), some (.int x2), some (.int x3), some (.ref 7), some (.ref 15)], [.int (I 15 0), .ref 15, .ref 166], (zS0, R, I, J))) rfl ?_
    exact zEv_c (fun _ => rfl) rfl hc rfl rfl k1
  · refine zEv_k 1 (f' := (43, [some (.ref 0), some (.int x1), some (.int x2), some (.int x3), some (.ref 7), some (.ref 30)], [.ref 0], (zS0, R, I, J))) rfl ?_
    refine zEv_gr rfl rfl rfl (by decide) (hR (0) 4 (166) rfl) ?_
    refine zEv_k 3 (f' := (53, [some (.ref 0), some (.int x1), some (.int x2), some (.int x3), some (.ref 7), some (.ref 30)], [.int (I 30 0), .ref 30, .ref 166], (zS0, R, I, J))) rfl ?_
    exact zEv_c (fun _ => rfl) rfl hc rfl rfl k1
  · refine zEv_k 1 (f' := (43, [some (.ref 0), some (.int x1), some (.int x2), some (.int x3), some (.ref 22), some (.ref 15)], [.ref 0], (zS0, R, I, J))) rfl ?_
    refine zEv_gr rfl rfl rfl (by decide) (hR (0) 4 (166) rfl) ?_
    refine zEv_k 3 (f' := (53, [some (.ref 0), some (.int x1), some (.int x2), some (.int x3), some (.ref 22), some (.ref 15)], [.int (I 15 0), .ref 15, .ref 166], (zS0, R, I, J))) rfl ?_
    exact zEv_c (fun _ => rfl) rfl hc rfl rfl k1
  · refine zEv_k 1 (f' := (43, [some (.ref 0), some (.int x1), some (.int x2), some (.int x3), some (.ref 22), some (.ref 30)], [.ref 0], (zS0, R, I, J))) rfl ?_
    refine zEv_gr rfl rfl rfl (by decide) (hR (0) 4 (166) rfl) ?_
    refine zEv_k 3 (f' := (53, [some (.ref 0), some (.int x1), some (.int x2), some (.int x3), some (.ref 22), some (.ref 30)], [.int (I 30 0), .ref 30, .ref 166], (zS0, R, I, J))) rfl ?_
    exact zEv_c (fun _ => rfl) rfl hc rfl rfl k1
theorem b_136_56 {X : zX} {d : Nat} {R : zR} {I : zI} {J : zJ} {r : zA} {c : Nat} {e : Nat} {x1 : Int32} {x2 : Int32} {x3 : Int32} {s0 : Int32} (ho : (c = 7 ∧ e = 15) ∨ (c = 7 ∧ e = 30) ∨ (c = 22 ∧ e = 15) ∨ (c = 22 ∧ e = 30)) (k0 : x3 = 0 → zEv X d zm_136 (96, [some (.ref 0), some (.int x1), some (.int x2), some (.int x3), some (.ref c), some (.ref e)], [], (zS0, R, I, J)) r) (k1 : x3 = 1 → zEv X d zm_136 (104, [some (.ref 0), some (.int x1), some (.int x2), some (.int x3), some (.ref c), some (.ref e)], [], (zS0, R, I, J)) r) (k2 : x3 = 2 → zEv X d zm_136 (112, [some (.ref 0), some (.int x1), some (.int x2), some (.int x3), some (.ref c), some (.ref e)], [], (zS0, R, I, J)) r) (k3 : x3 = 3 → zEv X d zm_136 (120, [some (.ref 0), some (.int x1), some (.int x2), some (.int x3), some (.ref c), some (.ref e)], [], (zS0, R, I, J)) r) (k4 : x3 = 4 → zEv X d zm_136 (128, [some (.ref 0), some (.int x1), some (.int x2), some (.int x3), some (.ref c), some (.ref e)], [], (zS0, R, I, J)) r) (k5 : x3 = 5 → zEv X d zm_136 (136, [some (.ref 0), some (.int x1), some (.int x2), some (.int x3), some (.ref c), some (.ref e)], [], (zS0, R, I, J)) r) (kd : ¬ (0 ≤ (x3 : Int32).toInt ∧ (x3 : Int32).toInt ≤ 5) → zEv X d zm_136 (144, [some (.ref 0), some (.int x1), some (.int x2), some (.int x3), some (.ref c), some (.ref e)], [], (zS0, R, I, J)) r) : zEv X d zm_136 (56, [some (.ref 0), some (.int x1), some (.int x2), some (.int x3), some (.ref c), some (.ref e)], [.int s0], (zS0, R, I, J)) r := by
  rcases ho with ⟨rfl, rfl⟩ | ⟨rfl, rfl⟩ | ⟨rfl, rfl⟩ | ⟨rfl, rfl⟩
  · refine zEv_k 2 (f' := (58, [some (.ref 0), some (.int x1), some (.int x2), some (.int x3), some (.ref 7), some (.ref 15)], [.int x3], (zS0, R, I, J))) rfl ?_
    refine zEv_ts rfl (by decide) (by decide) (by decide) (fun hh => ?_) (fun j hj hh => ?_)
    · exact kd (by omega)
    · rcases (by have hj2 : j < 6 := hj; omega : j = 0 ∨ j = 1 ∨ j = 2 ∨ j = 3 ∨ j = 4 ∨ j = 5) with rfl | rfl | rfl | rfl | rfl | rfl
      · exact k0 (zeqI hh (by decide))
      · exact k1 (zeqI hh (by decide))
      · exact k2 (zeqI hh (by decide))
      · exact k3 (zeqI hh (by decide))
      · exact k4 (zeqI hh (by decide))
      · exact k5 (zeqI hh (by decide))
  · refine zEv_k 2 (f' := (58, [some (.ref 0), some (.int x1), some (.int x2), some (.int x3), some (.ref 7), some (.ref 30)], [.int x3], (zS0, R, I, J))) rfl ?_
    refine zEv_ts rfl (by decide) (by decide) (by decide) (fun hh => ?_) (fun j hj hh => ?_)
    · exact kd (by omega)
    · rcases (by have hj2 : j < 6 := hj; omega : j = 0 ∨ j = 1 ∨ j = 2 ∨ j = 3 ∨ j = 4 ∨ j = 5) with rfl | rfl | rfl | rfl | rfl | rfl
      · exact k0 (zeqI hh (by decide))
      · exact k1 (zeqI hh (by decide))
      · exact k2 (zeqI hh (by decide))
      · exact k3 (zeqI hh (by decide))
      · exact k4 (zeqI hh (by decide))
      · exact k5 (zeqI hh (by decide))
  · refine zEv_k 2 (f' := (58, [some (.ref 0), some (.int x1), some (.int x2), some (.int x3), some (.ref 22), some (.ref 15)], [.int x3], (zS0, R, I, J))) rfl ?_
    refine zEv_ts rfl (by decide) (by decide) (by decide) (fun hh => ?_) (fun j hj hh => ?_)
    · exact kd (by omega)
    · rcases (by have hj2 : j < 6 := hj; omega : j = 0 ∨ j = 1 ∨ j = 2 ∨ j = 3 ∨ j = 4 ∨ j = 5) with rfl | rfl | rfl | rfl | rfl | rfl
      · exact k0 (zeqI hh (by decide))
      · exact k1 (zeqI hh (by decide))
      · exact k2 (zeqI hh (by decide))
      · exact k3 (zeqI hh (by decide))
      · exact k4 (zeqI hh (by decide))
      · exact k5 (zeqI hh (by decide))
  · refine zEv_k 2 (f' := (58, [some (.ref 0), some (.int x1), some (.int x2), some (.int x3), some (.ref 22), some (.ref 30)], [.int x3], (zS0, R, I, J))) rfl ?_
    refine zEv_ts rfl (by decide) (by decide) (by decide) (fun hh => ?_) (fun j hj hh => ?_)
    · exact kd (by omega)
    · rcases (by have hj2 : j < 6 := hj; omega : j = 0 ∨ j = 1 ∨ j = 2 ∨ j = 3 ∨ j = 4 ∨ j = 5) with rfl | rfl | rfl | rfl | rfl | rfl
      · exact k0 (zeqI hh (by decide))
      · exact k1 (zeqI hh (by decide))
      · exact k2 (zeqI hh (by decide))
      · exact k3 (zeqI hh (by decide))
      · exact k4 (zeqI hh (by decide))
      · exact k5 (zeqI hh (by decide))
theorem b_136_96 {X : zX} {d : Nat} {R : zR} {I : zI} {J : zJ} {r : zA} {c : Nat} {e : Nat} {x1 : Int32} {x2 : Int32} {x3 : Int32} {w : Int32} {R' : zR} {I' : zI} {J' : zJ} (hR : zRok R) (ho : (c = 7 ∧ e = 15) ∨ (c = 7 ∧ e = 30) ∨ (c = 22 ∧ e = 15) ∨ (c = 22 ∧ e = 30)) (hc : zEv X d zm_76 (0, [some (.ref 166), none], [], (zS0, R, I, J)) (some (.int w), (zS0, R', I', J'))) (k1 : zEv X (d + 1) zm_136 (103, [some (.ref 0), some (.int x1), some (.int x2), some (.int x3), some (.ref c), some (.ref e)], [.int w], (zS0, R', I', J')) r) : zEv X (d + 1) zm_136 (96, [some (.ref 0), some (.int x1), some (.int x2), some (.int x3), some (.ref c), some (.ref e)], [], (zS0, R, I, J)) r := by
  rcases ho with ⟨rfl, rfl⟩ | ⟨rfl, rfl⟩ | ⟨rfl, rfl⟩ | ⟨rfl, rfl⟩
  · refine zEv_k 1 (f' := (97, [some (.ref 0), some (.int x1), some (.int x2), some (.int x3), some (.ref 7), some (.ref 15)], [.ref 0], (zS0, R, I, J))) rfl ?_
    refine zEv_gr rfl rfl rfl (by decide) (hR (0) 4 (166) rfl) ?_
    exact zEv_c (fun _ => rfl) rfl hc rfl rfl k1
  · refine zEv_k 1 (f' := (97, [some (.ref 0), some (.int x1), some (.int x2), some (.int x3), some (.ref 7), some (.ref 30)], [.ref 0], (zS0, R, I, J))) rfl ?_
    refine zEv_gr rfl rfl rfl (by decide) (hR (0) 4 (166) rfl) ?_
    exact zEv_c (fun _ => rfl) rfl hc rfl rfl k1
  · refine zEv_k 1 (f' := (97, [some (.ref 0), some (.int x1), some (.int x2), some (.int x3), some (.ref 22), some (.ref 15)], [.ref 0], (zS0, R, I, J))) rfl ?_
    refine zEv_gr rfl rfl rfl (by decide) (hR (0) 4 (166) rfl) ?_
    exact zEv_c (fun _ => rfl) rfl hc rfl rfl k1
  · refine zEv_k 1 (f' := (97, [some (.ref 0), some (.int x1), some (.int x2), some (.int x3), some (.ref 22), some (.ref 30)], [.ref 0], (zS0, R, I, J))) rfl ?_
    refine zEv_gr rfl rfl rfl (by decide) (hR (0) 4 (166) rfl) ?_
    exact zEv_c (fun _ => rfl) rfl hc rfl rfl k1
theorem b_136_103 {X : zX} {d : Nat} {R : zR} {I : zI} {J : zJ} {c : Nat} {e : Nat} {x1 : Int32} {x2 : Int32} {x3 : Int32} {s0 : Int32} (ho : (c = 7 ∧ e = 15) ∨ (c = 7 ∧ e = 30) ∨ (c = 22 ∧ e = 15) ∨ (c = 22 ∧ e = 30)) : zEv X d zm_136 (103, [some (.ref 0), some (.int x1), some (.int x2), some (.int x3), some (.ref c), some (.ref e)], [.int s0], (zS0, R, I, J)) (some (.int s0), (zS0, R, I, J)) := by
  rcases ho with ⟨rfl, rfl⟩ | ⟨rfl, rfl⟩ | ⟨rfl, rfl⟩ | ⟨rfl, rfl⟩
  · exact zEv_r rfl
  · exact zEv_r rfl
  · exact zEv_r rfl
  · exact zEv_r rfl
theorem b_136_104 {X : zX} {d : Nat} {R : zR} {I : zI} {J : zJ} {r : zA} {c : Nat} {e : Nat} {x1 : Int32} {x2 : Int32} {x3 : Int32} {w : Int32} {R' : zR} {I' : zI} {J' : zJ} (hR : zRok R) (ho : (c = 7 ∧ e = 15) ∨ (c = 7 ∧ e = 30) ∨ (c = 22 ∧ e = 15) ∨ (c = 22 ∧ e = 30)) (hc : zEv X d zm_77 (0, [some (.ref 166), none, none, none], [], (zS0, R, I, J)) (some (.int w), (zS0, R', I', J'))) (k1 : zEv X (d + 1) zm_136 (111, [some (.ref 0), some (.int x1), some (.int x2), some (.int x3), some (.ref c), some (.ref e)], [.int w], (zS0, R', I', J')) r) : zEv X (d + 1) zm_136 (104, [some (.ref 0), some (.int x1), some (.int x2), some (.int x3), some (.ref c), some (.ref e)], [], (zS0, R, I, J)) r := by
  rcases ho with ⟨rfl, rfl⟩ | ⟨rfl, rfl⟩ | ⟨rfl, rfl⟩ | ⟨rfl, rfl⟩
  · refine zEv_k 1 (f' := (105, [some (.ref 0), some (.int x1), some (.int x2), some (.int x3), some (.ref 7), some (.ref 15)], [.ref 0], (zS0, R, I, J))) rfl ?_
    refine zEv_gr rfl rfl rfl (by decide) (hR (0) 4 (166) rfl) ?_
    exact zEv_c (fun _ => rfl) rfl hc rfl rfl k1
  · refine zEv_k 1 (f' := (105, [some (.ref 0), some (.int x1), some (.int x2), some (.int x3), some (.ref 7), some (.ref 30)], [.ref 0], (zS0, R, I, J))) rfl ?_
    refine zEv_gr rfl rfl rfl (by decide) (hR (0) 4 (166) rfl) ?_
    exact zEv_c (fun _ => rfl) rfl hc rfl rfl k1
  · refine zEv_k 1 (f' := (105, [some (.ref 0), some (.int x1), some (.int x2), some (.int x3), some (.ref 22), some (.ref 15)], [.ref 0], (zS0, R, I, J))) rfl ?_
    refine zEv_gr rfl rfl rfl (by decide) (hR (0) 4 (166) rfl) ?_
    exact zEv_c (fun _ => rfl) rfl hc rfl rfl k1
  · refine zEv_k 1 (f' := (105, [some (.ref 0), some (.int x1), some (.int x2), some (.int x3), some (.ref 22), some (.ref 30)], [.ref 0], (zS0, R, I, J))) rfl ?_
    refine zEv_gr rfl rfl rfl (by decide) (hR (0) 4 (166) rfl) ?_
    exact zEv_c (fun _ => rfl) rfl hc rfl rfl k1
theorem b_136_111 {X : zX} {d : Nat} {R : zR} {I : zI} {J : zJ} {c : Nat} {e : Nat} {x1 : Int32} {x2 : Int32} {x3 : Int32} {s0 : Int32} (ho : (c = 7 ∧ e = 15) ∨ (c = 7 ∧ e = 30) ∨ (c = 22 ∧ e = 15) ∨ (c = 22 ∧ e = 30)) : zEv X d zm_136 (111, [some (.ref 0), some (.int x1), some (.int x2), some (.int x3), some (.ref c), some (.ref e)], [.int s0], (zS0, R, I, J)) (some (.int s0), (zS0, R, I, J)) := by
  rcases ho with ⟨rfl, rfl⟩ | ⟨rfl, rfl⟩ | ⟨rfl, rfl⟩ | ⟨rfl, rfl⟩
  · exact zEv_r rfl
  · exact zEv_r rfl
  · exact zEv_r rfl
  · exact zEv_r rfl
theorem b_136_112 {X : zX} {d : Nat} {R : zR} {I : zI} {J : zJ} {c : Nat} {e : Nat} {x1 : Int32} {x2 : Int32} {x3 : Int32} (hR : zRok R) (ho : (c = 7 ∧ e = 15) ∨ (c = 7 ∧ e = 30) ∨ (c = 22 ∧ e = 15) ∨ (c = 22 ∧ e = 30)) : zEv X d zm_136 (112, [some (.ref 0), some (.int x1), some (.int x2), some (.int x3), some (.ref c), some (.ref e)], [], (zS0, R, I, J)) (some (.int (I 166 6)), (zS0, R, I, J)) := by
  rcases ho with ⟨rfl, rfl⟩ | ⟨rfl, rfl⟩ | ⟨rfl, rfl⟩ | ⟨rfl, rfl⟩
  · refine zEv_k 1 (f' := (113, [some (.ref 0), some (.int x1), some (.int x2), some (.int x3), some (.ref 7), some (.ref 15)], [.ref 0], (zS0, R, I, J))) rfl ?_
    refine zEv_gr rfl rfl rfl (by decide) (hR (0) 4 (166) rfl) ?_
    refine zEv_k 1 (f' := (119, [some (.ref 0), some (.int x1), some (.int x2), some (.int x3), some (.ref 7), some (.ref 15)], [.int (I 166 6)], (zS0, R, I, J))) rfl ?_
    exact zEv_r rfl
  · refine zEv_k 1 (f' := (113, [some (.ref 0), some (.int x1), some (.int x2), some (.int x3), some (.ref 7), some (.ref 30)], [.ref 0], (zS0, R, I, J))) rfl ?_
    refine zEv_gr rfl rfl rfl (by decide) (hR (0) 4 (166) rfl) ?_
    refine zEv_k 1 (f' := (119, [some (.ref 0), some (.int x1), some (.int x2), some (.int x3), some (.ref 7), some (.ref 30)], [.int (I 166 6)], (zS0, R, I, J))) rfl ?_
    exact zEv_r rfl
  · refine zEv_k 1 (f' := (113, [some (.ref 0), some (.int x1), some (.int x2), some (.int x3), some (.ref 22), some (.ref 15)], [.ref 0], (zS0, R, I, J))) rfl ?_
    refine zEv_gr rfl rfl rfl (by decide) (hR (0) 4 (166) rfl) ?_
    refine zEv_k 1 (f' := (119, [some (.ref 0), some (.int x1), some (.int x2), some (.int x3), some (.ref 22), some (.ref 15)], [.int (I 166 6)], (zS0, R, I, J))) rfl ?_
    exact zEv_r rfl
  · refine zEv_k 1 (f' := (113, [some (.ref 0), some (.int x1), some (.int x2), some (.int x3), some (.ref 22), some (.ref 30)], [.ref 0], (zS0, R, I, J))) rfl ?_
    refine zEv_gr rfl rfl rfl (by decide) (hR (0) 4 (166) rfl) ?_
    refine zEv_k 1 (f' := (119, [some (.ref 0), some (.int x1), some (.int x2), some (.int x3), some (.ref 22), some (.ref 30)], [.int (I 166 6)], (zS0, R, I, J))) rfl ?_
    exact zEv_r rfl
theorem b_136_120 {X : zX} {d : Nat} {R : zR} {I : zI} {J : zJ} {c : Nat} {e : Nat} {x1 : Int32} {x2 : Int32} {x3 : Int32} (hR : zRok R) (ho : (c = 7 ∧ e = 15) ∨ (c = 7 ∧ e = 30) ∨ (c = 22 ∧ e = 15) ∨ (c = 22 ∧ e = 30)) : zEv X d zm_136 (120, [some (.ref 0), some (.int x1), some (.int x2), some (.int x3), some (.ref c), some (.ref e)], [], (zS0, R, I, J)) (some (.int (I 166 7)), (zS0, R, I, J)) := by
  rcases ho with ⟨rfl, rfl⟩ | ⟨rfl, rfl⟩ | ⟨rfl, rfl⟩ | ⟨rfl, rfl⟩
  · refine zEv_k 1 (f' := (121, [some (.ref 0), some (.int x1), some (.int x2), some (.int x3), some (.ref 7), some (.ref 15)], [.ref 0], (zS0, R, I, J))) rfl ?_
    refine zEv_gr rfl rfl rfl (by decide) (hR (0) 4 (166) rfl) ?_
    refine zEv_k 1 (f' := (127, [some (.ref 0), some (.int x1), some (.int x2), some (.int x3), some (.ref 7), some (.ref 15)], [.int (I 166 7)], (zS0, R, I, J))) rfl ?_
    exact zEv_r rfl
  · refine zEv_k 1 (f' := (121, [some (.ref 0), some (.int x1), some (.int x2), some (.int x3), some (.ref 7), some (.ref 30)], [.ref 0], (zS0, R, I, J))) rfl ?_
    refine zEv_gr rfl rfl rfl (by decide) (hR (0) 4 (166) rfl) ?_
    refine zEv_k 1 (f' := (127, [some (.ref 0), some (.int x1), some (.int x2), some (.int x3), some (.ref 7), some (.ref 30)], [.int (I 166 7)], (zS0, R, I, J))) rfl ?_
    exact zEv_r rfl
  · refine zEv_k 1 (f' := (121, [some (.ref 0), some (.int x1), some (.int x2), some (.int x3), some (.ref 22), some (.ref 15)], [.ref 0], (zS0, R, I, J))) rfl ?_
    refine zEv_gr rfl rfl rfl (by decide) (hR (0) 4 (166) rfl) ?_
    refine zEv_k 1 (f' := (127, [some (.ref 0), some (.int x1), some (.int x2), some (.int x3), some (.ref 22), some (.ref 15)], [.int (I 166 7)], (zS0, R, I, J))) rfl ?_
    exact zEv_r rfl
  · refine zEv_k 1 (f' := (121, [some (.ref 0), some (.int x1), some (.int x2), some (.int x3), some (.ref 22), some (.ref 30)], [.ref 0], (zS0, R, I, J))) rfl ?_
    refine zEv_gr rfl rfl rfl (by decide) (hR (0) 4 (166) rfl) ?_
    refine zEv_k 1 (f' := (127, [some (.ref 0), some (.int x1), some (.int x2), some (.int x3), some (.ref 22), some (.ref 30)], [.int (I 166 7)], (zS0, R, I, J))) rfl ?_
    exact zEv_r rfl
theorem b_136_128 {X : zX} {d : Nat} {R : zR} {I : zI} {J : zJ} {c : Nat} {e : Nat} {x1 : Int32} {x2 : Int32} {x3 : Int32} (hR : zRok R) (ho : (c = 7 ∧ e = 15) ∨ (c = 7 ∧ e = 30) ∨ (c = 22 ∧ e = 15) ∨ (c = 22 ∧ e = 30)) : zEv X d zm_136 (128, [some (.ref 0), some (.int x1), some (.int x2), some (.int x3), some (.ref c), some (.ref e)], [], (zS0, R, I, J)) (some (.int (I 166 8)), (zS0, R, I, J)) := by
  rcases ho with ⟨rfl, rfl⟩ | ⟨rfl, rfl⟩ | ⟨rfl, rfl⟩ | ⟨rfl, rfl⟩
  · refine zEv_k 1 (f' := (129, [some (.ref 0), some (.int x1), some (.int x2), some (.int x3), some (.ref 7), some (.ref 15)], [.ref 0], (zS0, R, I, J))) rfl ?_
    refine zEv_gr rfl rfl rfl (by decide) (hR (0) 4 (166) rfl) ?_
    refine zEv_k 1 (f' := (135, [some (.ref 0), some (.int x1), some (.int x2), some (.int x3), some (.ref 7), some (.ref 15)], [.int (I 166 8)], (zS0, R, I, J))) rfl ?_
    exact zEv_r rfl
  · refine zEv_k 1 (f' := (129, [some (.ref 0), some (.int x1), some (.int x2), some (.int x3), some (.ref 7), some (.ref 30)], [.ref 0], (zS0, R, I, J))) rfl ?_
    refine zEv_gr rfl rfl rfl (by decide) (hR (0) 4 (166) rfl) ?_
    refine zEv_k 1 (f' := (135, [some (.ref 0), some (.int x1), some (.int x2), some (.int x3), some (.ref 7), some (.ref 30)], [.int (I 166 8)], (zS0, R, I, J))) rfl ?_
    exact zEv_r rfl
  · refine zEv_k 1 (f' := (129, [some (.ref 0), some (.int x1), some (.int x2), some (.int x3), some (.ref 22), some (.ref 15)], [.ref 0], (zS0, R, I, J))) rfl ?_
    refine zEv_gr rfl rfl rfl (by decide) (hR (0) 4 (166) rfl) ?_
    refine zEv_k 1 (f' := (135, [some (.ref 0), some (.int x1), some (.int x2), some (.int x3), some (.ref 22), some (.ref 15)], [.int (I 166 8)], (zS0, R, I, J))) rfl ?_
    exact zEv_r rfl
  · refine zEv_k 1 (f' := (129, [some (.ref 0), some (.int x1), some (.int x2), some (.int x3), some (.ref 22), some (.ref 30)], [.ref 0], (zS0, R, I, J))) rfl ?_
    refine zEv_gr rfl rfl rfl (by decide) (hR (0) 4 (166) rfl) ?_
    refine zEv_k 1 (f' := (135, [some (.ref 0), some (.int x1), some (.int x2), some (.int x3), some (.ref 22), some (.ref 30)], [.int (I 166 8)], (zS0, R, I, J))) rfl ?_
    exact zEv_r rfl
theorem b_136_136 {X : zX} {d : Nat} {R : zR} {I : zI} {J : zJ} {c : Nat} {e : Nat} {x1 : Int32} {x2 : Int32} {x3 : Int32} (hR : zRok R) (ho : (c = 7 ∧ e = 15) ∨ (c = 7 ∧ e = 30) ∨ (c = 22 ∧ e = 15) ∨ (c = 22 ∧ e = 30)) : zEv X d zm_136 (136, [some (.ref 0), some (.int x1), some (.int x2), some (.int x3), some (.ref c), some (.ref e)], [], (zS0, R, I, J)) (some (.int (I 166 9)), (zS0, R, I, J)) := by
  rcases ho with ⟨rfl, rfl⟩ | ⟨rfl, rfl⟩ | ⟨rfl, rfl⟩ | ⟨rfl, rfl⟩
  · refine zEv_k 1 (f' := (137, [some (.ref 0), some (.int x1), some (.int x2), some (.int x3), some (.ref 7), some (.ref 15)], [.ref 0], (zS0, R, I, J))) rfl ?_
    refine zEv_gr rfl rfl rfl (by decide) (hR (0) 4 (166) rfl) ?_
    refine zEv_k 1 (f' := (143, [some (.ref 0), some (.int x1), some (.int x2), some (.int x3), some (.ref 7), some (.ref 15)], [.int (I 166 9)], (zS0, R, I, J))) rfl ?_
    exact zEv_r rfl
  · refine zEv_k 1 (f' := (137, [some (.ref 0), some (.int x1), some (.int x2), some (.int x3), some (.ref 7), some (.ref 30)], [.ref 0], (zS0, R, I, J))) rfl ?_
    refine zEv_gr rfl rfl rfl (by decide) (hR (0) 4 (166) rfl) ?_
    refine zEv_k 1 (f' := (143, [some (.ref 0), some (.int x1), some (.int x2), some (.int x3), some (.ref 7), some (.ref 30)], [.int (I 166 9)], (zS0, R, I, J))) rfl ?_
    exact zEv_r rfl
  · refine zEv_k 1 (f' := (137, [some (.ref 0), some (.int x1), some (.int x2), some (.int x3), some (.ref 22), some (.ref 15)], [.ref 0], (zS0, R, I, J))) rfl ?_
    refine zEv_gr rfl rfl rfl (by decide) (hR (0) 4 (166) rfl) ?_
    refine zEv_k 1 (f' := (143, [some (.ref 0), some (.int x1), some (.int x2), some (.int x3), some (.ref 22), some (.ref 15)], [.int (I 166 9)], (zS0, R, I, J))) rfl ?_
    exact zEv_r rfl
  · refine zEv_k 1 (f' := (137, [some (.ref 0), some (.int x1), some (.int x2), some (.int x3), some (.ref 22), some (.ref 30)], [.ref 0], (zS0, R, I, J))) rfl ?_
    refine zEv_gr rfl rfl rfl (by decide) (hR (0) 4 (166) rfl) ?_
    refine zEv_k 1 (f' := (143, [some (.ref 0), some (.int x1), some (.int x2), some (.int x3), some (.ref 22), some (.ref 30)], [.int (I 166 9)], (zS0, R, I, J))) rfl ?_
    exact zEv_r rfl
theorem b_136_144 {X : zX} {d : Nat} {R : zR} {I : zI} {J : zJ} {c : Nat} {e : Nat} {x1 : Int32} {x2 : Int32} {x3 : Int32} (ho : (c = 7 ∧ e = 15) ∨ (c = 7 ∧ e = 30) ∨ (c = 22 ∧ e = 15) ∨ (c = 22 ∧ e = 30)) : zEv X d zm_136 (144, [some (.ref 0), some (.int x1), some (.int x2), some (.int x3), some (.ref c), some (.ref e)], [], (zS0, R, I, J)) (some (.int (-2)), (zS0, R, I, J)) := by
  rcases ho with ⟨rfl, rfl⟩ | ⟨rfl, rfl⟩ | ⟨rfl, rfl⟩ | ⟨rfl, rfl⟩
  · refine zEv_k 1 (f' := (146, [some (.ref 0), some (.int x1), some (.int x2), some (.int x3), some (.ref 7), some (.ref 15)], [.int (-2)], (zS0, R, I, J))) rfl ?_
    exact zEv_r rfl
  · refine zEv_k 1 (f' := (146, [some (.ref 0), some (.int x1), some (.int x2), some (.int x3), some (.ref 7), some (.ref 30)], [.int (-2)], (zS0, R, I, J))) rfl ?_
    exact zEv_r rfl
  · refine zEv_k 1 (f' := (146, [some (.ref 0), some (.int x1), some (.int x2), some (.int x3), some (.ref 22), some (.ref 15)], [.int (-2)], (zS0, R, I, J))) rfl ?_
    exact zEv_r rfl
  · refine zEv_k 1 (f' := (146, [some (.ref 0), some (.int x1), some (.int x2), some (.int x3), some (.ref 22), some (.ref 30)], [.int (-2)], (zS0, R, I, J))) rfl ?_
    exact zEv_r rfl
theorem b_137_0r {X : zX} {d : Nat} {R : zR} {I : zI} {J : zJ} {r : zA} {c : Nat} {x1 : Int32} {x2 : Int32} {x3 : Int32} {x4 : Int32} {R' : zR} {I' : zI} {J' : zJ} (hR : zRok R) (ho : c = 7 ∨ c = 22) (hc : zEv X d zm_89 (0, [some (.ref 1), some (.int x1)], [], (zS0, R, I, J)) (some (.ref c), (zS0, R', I', J'))) (k1 : zEv X (d + 1) zm_137 (8, [some (.ref 0), some (.int x1), some (.int x2), some (.int x3), some (.int x4), none, none], [.ref c], (zS0, R', I', J')) r) : zEv X (d + 1) zm_137 (0, [some (.ref 0), some (.int x1), some (.int x2), some (.int x3), some (.int x4), none, none], [], (zS0, R, I, J)) r := by
  rcases ho with rfl | rfl
  · refine zEv_k 1 (f' := (1, [some (.ref 0), some (.int x1), some (.int x2), some (.int x3), some (.int x4), none, none], [.ref 0], (zS0, R, I, J))) rfl ?_
    refine zEv_gr rfl rfl rfl (by decide) (hR (0) 0 (1) rfl) ?_
    refine zEv_k 1 (f' := (5, [some (.ref 0), some (.int x1), some (.int x2), some (.int x3), some (.int x4), none, none], [.int x1, .ref 1], (zS0, R, I, J))) rfl ?_
    exact zEv_c (fun _ => rfl) rfl hc rfl rfl k1
  · refine zEv_k 1 (f' := (1, [some (.ref 0), some (.int x1), some (.int x2), some (.int x3), some (.int x4), none, none], [.ref 0], (zS0, R, I, J))) rfl ?_
    refine zEv_gr rfl rfl rfl (by decide) (hR (0) 0 (1) rfl) ?_
    refine zEv_k 1 (f' := (5, [some (.ref 0), some (.int x1), some (.int x2), some (.int x3), some (.int x4), none, none], [.int x1, .ref 1], (zS0, R, I, J))) rfl ?_
    exact zEv_c (fun _ => rfl) rfl hc rfl rfl k1
theorem b_137_0n {X : zX} {d : Nat} {R : zR} {I : zI} {J : zJ} {r : zA} {x1 : Int32} {x2 : Int32} {x3 : Int32} {x4 : Int32} {R' : zR} {I' : zI} {J' : zJ} (hR : zRok R) (hc : zEv X d zm_89 (0, [some (.ref 1), some (.int x1)], [], (zS0, R, I, J)) (some .null, (zS0, R', I', J'))) (k1 : zEv X (d + 1) zm_137 (8, [some (.ref 0), some (.int x1), some (.int x2), some (.int x3), some (.int x4), none, none], [.null], (zS0, R', I', J')) r) : zEv X (d + 1) zm_137 (0, [some (.ref 0), some (.int x1), some (.int x2), some (.int x3), some (.int x4), none, none], [], (zS0, R, I, J)) r := by
  refine zEv_k 1 (f' := (1, [some (.ref 0), some (.int x1), some (.int x2), some (.int x3), some (.int x4), none, none], [.ref 0], (zS0, R, I, J))) rfl ?_
  refine zEv_gr rfl rfl rfl (by decide) (hR (0) 0 (1) rfl) ?_
  refine zEv_k 1 (f' := (5, [some (.ref 0), some (.int x1), some (.int x2), some (.int x3), some (.int x4), none, none], [.int x1, .ref 1], (zS0, R, I, J))) rfl ?_
  exact zEv_c (fun _ => rfl) rfl hc rfl rfl k1
theorem b_137_8r {X : zX} {d : Nat} {R : zR} {I : zI} {J : zJ} {r : zA} {c : Nat} {g : Nat} {x1 : Int32} {x2 : Int32} {x3 : Int32} {x4 : Int32} {R' : zR} {I' : zI} {J' : zJ} (hR : zRok R) (ho : (c = 7 ∧ g = 19) ∨ (c = 7 ∧ g = 34) ∨ (c = 22 ∧ g = 19) ∨ (c = 22 ∧ g = 34)) (hc : zEv X d zm_91 (0, [some (.ref 1), some (.int x2)], [], (zS0, R, I, J)) (some (.ref g), (zS0, R', I', J'))) (k1 : zEv X (d + 1) zm_137 (18, [some (.ref 0), some (.int x1), some (.int x2), some (.int x3), some (.int x4), some (.ref c), none], [.ref g], (zS0, R', I', J')) r) : zEv X (d + 1) zm_137 (8, [some (.ref 0), some (.int x1), some (.int x2), some (.int x3), some (.int x4), none, none], [.ref c], (zS0, R, I, J)) r := by
  rcases ho with ⟨rfl, rfl⟩ | ⟨rfl, rfl⟩ | ⟨rfl, rfl⟩ | ⟨rfl, rfl⟩
  · refine zEv_k 2 (f' := (11, [some (.ref 0), some (.int x1), some (.int x2), some (.int x3), some (.int x4), some (.ref 7), none], [.ref 0], (zS0, R, I, J))) rfl ?_
    refine zEv_gr rfl rfl rfl (by decide) (hR (0) 0 (1) rfl) ?_
    refine zEv_k 1 (f' := (15, [some (.ref 0), some (.int x1), some (.int x2), some (.int x3), some (.int x4), some (.ref 7), none], [.int x2, .ref 1], (zS0, R, I, J))) rfl ?_
    exact zEv_c (fun _ => rfl) rfl hc rfl rfl k1
  · refine zEv_k 2 (f' := (11, [some (.ref 0), some (.int x1), some (.int x2), some (.int x3), some (.int x4), some (.ref 7), none], [.ref 0], (zS0, R, I, J))) rfl ?_
    refine zEv_gr rfl rfl rfl (by decide) (hR (0) 0 (1) rfl) ?_
    refine zEv_k 1 (f' := (15, [some (.ref 0), some (.int x1), some (.int x2), some (.int x3), some (.int x4), some (.ref 7), none], [.int x2, .ref 1], (zS0, R, I, J))) rfl ?_
    exact zEv_c (fun _ => rfl) rfl hc rfl rfl k1
  · refine zEv_k 2 (f' := (11, [some (.ref 0), some (.int x1), some (.int x2), some (.int x3), some (.int x4), some (.ref 22), none], [.ref 0], (zS0, R, I, J))) rfl ?_
    refine zEv_gr rfl rfl rfl (by decide) (hR (0) 0 (1) rfl) ?_
    refine zEv_k 1 (f' := (15, [some (.ref 0), some (.int x1), some (.int x2), some (.int x3), some (.int x4), some (.ref 22), none], [.int x2, .ref 1], (zS0, R, I, J))) rfl ?_
    exact zEv_c (fun _ => rfl) rfl hc rfl rfl k1
  · refine zEv_k 2 (f' := (11, [some (.ref 0), some (.int x1), some (.int x2), some (.int x3), some (.int x4), some (.ref 22), none], [.ref 0], (zS0, R, I, J))) rfl ?_
    refine zEv_gr rfl rfl rfl (by decide) (hR (0) 0 (1) rfl) ?_
    refine zEv_k 1 (f' := (15, [some (.ref 0), some (.int x1), some (.int x2), some (.int x3), some (.int x4), some (.ref 22), none], [.int x2, .ref 1], (zS0, R, I, J))) rfl ?_
    exact zEv_c (fun _ => rfl) rfl hc rfl rfl k1
theorem b_137_8n {X : zX} {d : Nat} {R : zR} {I : zI} {J : zJ} {r : zA} {c : Nat} {x1 : Int32} {x2 : Int32} {x3 : Int32} {x4 : Int32} {R' : zR} {I' : zI} {J' : zJ} (hR : zRok R) (ho : c = 7 ∨ c = 22) (hc : zEv X d zm_91 (0, [some (.ref 1), some (.int x2)], [], (zS0, R, I, J)) (some .null, (zS0, R', I', J'))) (k1 : zEv X (d + 1) zm_137 (18, [some (.ref 0), some (.int x1), some (.int x2), some (.int x3), some (.int x4), some (.ref c), none], [.null], (zS0, R', I', J')) r) : zEv X (d + 1) zm_137 (8, [some (.ref 0), some (.int x1), some (.int x2), some (.int x3), some (.int x4), none, none], [.ref c], (zS0, R, I, J)) r := by
  rcases ho with rfl | rfl
  · refine zEv_k 2 (f' := (11, [some (.ref 0), some (.int x1), some (.int x2), some (.int x3), some (.int x4), some (.ref 7), none], [.ref 0], (zS0, R, I, J))) rfl ?_
    refine zEv_gr rfl rfl rfl (by decide) (hR (0) 0 (1) rfl) ?_
    refine zEv_k 1 (f' := (15, [some (.ref 0), some (.int x1), some (.int x2), some (.int x3), some (.int x4), some (.ref 7), none], [.int x2, .ref 1], (zS0, R, I, J))) rfl ?_
    exact zEv_c (fun _ => rfl) rfl hc rfl rfl k1
  · refine zEv_k 2 (f' := (11, [some (.ref 0), some (.int x1), some (.int x2), some (.int x3), some (.int x4), some (.ref 22), none], [.ref 0], (zS0, R, I, J))) rfl ?_
    refine zEv_gr rfl rfl rfl (by decide) (hR (0) 0 (1) rfl) ?_
    refine zEv_k 1 (f' := (15, [some (.ref 0), some (.int x1), some (.int x2), some (.int x3), some (.int x4), some (.ref 22), none], [.int x2, .ref 1], (zS0, R, I, J))) rfl ?_
    exact zEv_c (fun _ => rfl) rfl hc rfl rfl k1
theorem b_137_8n100r {X : zX} {d : Nat} {R : zR} {I : zI} {J : zJ} {r : zA} {g : Nat} {x1 : Int32} {x2 : Int32} {x3 : Int32} {x4 : Int32} {R' : zR} {I' : zI} {J' : zJ} (hR : zRok R) (ho : g = 19 ∨ g = 34) (hc : zEv X d zm_91 (0, [some (.ref 1), some (.int x2)], [], (zS0, R, I, J)) (some (.ref g), (zS0, R', I', J'))) (k1 : zEv X (d + 1) zm_137 (18, [some (.ref 0), some (.int x1), some (.int x2), some (.int x3), some (.int x4), some (.null), none], [.ref g], (zS0, R', I', J')) r) : zEv X (d + 1) zm_137 (8, [some (.ref 0), some (.int x1), some (.int x2), some (.int x3), some (.int x4), none, none], [.null], (zS0, R, I, J)) r := by
  rcases ho with rfl | rfl
  · refine zEv_k 2 (f' := (11, [some (.ref 0), some (.int x1), some (.int x2), some (.int x3), some (.int x4), some (.null), none], [.ref 0], (zS0, R, I, J))) rfl ?_
    refine zEv_gr rfl rfl rfl (by decide) (hR (0) 0 (1) rfl) ?_
    refine zEv_k 1 (f' := (15, [some (.ref 0), some (.int x1), some (.int x2), some (.int x3), some (.int x4), some (.null), none], [.int x2, .ref 1], (zS0, R, I, J))) rfl ?_
    exact zEv_c (fun _ => rfl) rfl hc rfl rfl k1
  · refine zEv_k 2 (f' := (11, [some (.ref 0), some (.int x1), some (.int x2), some (.int x3), some (.int x4), some (.null), none], [.ref 0], (zS0, R, I, J))) rfl ?_
    refine zEv_gr rfl rfl rfl (by decide) (hR (0) 0 (1) rfl) ?_
    refine zEv_k 1 (f' := (15, [some (.ref 0), some (.int x1), some (.int x2), some (.int x3), some (.int x4), some (.null), none], [.int x2, .ref 1], (zS0, R, I, J))) rfl ?_
    exact zEv_c (fun _ => rfl) rfl hc rfl rfl k1
theorem b_137_8n100n {X : zX} {d : Nat} {R : zR} {I : zI} {J : zJ} {r : zA} {x1 : Int32} {x2 : Int32} {x3 : Int32} {x4 : Int32} {R' : zR} {I' : zI} {J' : zJ} (hR : zRok R) (hc : zEv X d zm_91 (0, [some (.ref 1), some (.int x2)], [], (zS0, R, I, J)) (some .null, (zS0, R', I', J'))) (k1 : zEv X (d + 1) zm_137 (18, [some (.ref 0), some (.int x1), some (.int x2), some (.int x3), some (.int x4), some (.null), none], [.null], (zS0, R', I', J')) r) : zEv X (d + 1) zm_137 (8, [some (.ref 0), some (.int x1), some (.int x2), some (.int x3), some (.int x4), none, none], [.null], (zS0, R, I, J)) r := by
  refine zEv_k 2 (f' := (11, [some (.ref 0), some (.int x1), some (.int x2), some (.int x3), some (.int x4), some (.null), none], [.ref 0], (zS0, R, I, J))) rfl ?_
  refine zEv_gr rfl rfl rfl (by decide) (hR (0) 0 (1) rfl) ?_
  refine zEv_k 1 (f' := (15, [some (.ref 0), some (.int x1), some (.int x2), some (.int x3), some (.int x4), some (.null), none], [.int x2, .ref 1], (zS0, R, I, J))) rfl ?_
  exact zEv_c (fun _ => rfl) rfl hc rfl rfl k1
theorem b_137_18 {X : zX} {d : Nat} {R : zR} {I : zI} {J : zJ} {r : zA} {c : Nat} {g : Nat} {x1 : Int32} {x2 : Int32} {x3 : Int32} {x4 : Int32} (ho : (c = 7 ∧ g = 19) ∨ (c = 7 ∧ g = 34) ∨ (c = 22 ∧ g = 19) ∨ (c = 22 ∧ g = 34)) (k1 : x3 < 0 → zEv X d zm_137 (40, [some (.ref 0), some (.int x1), some (.int x2), some (.int x3), some (.int x4), some (.ref c), some (.ref g)], [], (zS0, R, I, J)) r) (k2 : ¬ (x3 < 0) → zEv X d zm_137 (34, [some (.ref 0), some (.int x1), some (.int x2), some (.int x3), some (.int x4), some (.ref c), some (.ref g)], [], (zS0, R, I, J)) r) : zEv X d zm_137 (18, [some (.ref 0), some (.int x1), some (.int x2), some (.int x3), some (.int x4), some (.ref c), none], [.ref g], (zS0, R, I, J)) r := by
  rcases ho with ⟨rfl, rfl⟩ | ⟨rfl, rfl⟩ | ⟨rfl, rfl⟩ | ⟨rfl, rfl⟩
  · refine zEv_k 7 (f' := (if x3 < 0 then 40 else 34, [some (.ref 0), some (.int x1), some (.int x2), some (.int x3), some (.int x4), some (.ref 7), some (.ref 19)], [], (zS0, R, I, J))) rfl ?_
    exact zEv_if k1 k2
  · refine zEv_k 7 (f' := (if x3 < 0 then 40 else 34, [some (.ref 0), some (.int x1), some (.int x2), some (.int x3), some (.int x4), some (.ref 7), some (.ref 34)], [], (zS0, R, I, J))) rfl ?_
    exact zEv_if k1 k2
  · refine zEv_k 7 (f' := (if x3 < 0 then 40 else 34, [some (.ref 0), some (.int x1), some (.int x2), some (.int x3), some (.int x4), some (.ref 22), some (.ref 19)], [], (zS0, R, I, J))) rfl ?_
    exact zEv_if k1 k2
  · refine zEv_k 7 (f' := (if x3 < 0 then 40 else 34, [some (.ref 0), some (.int x1), some (.int x2), some (.int x3), some (.int x4), some (.ref 22), some (.ref 34)], [], (zS0, R, I, J))) rfl ?_
    exact zEv_if k1 k2
theorem b_137_18n5 {X : zX} {d : Nat} {R : zR} {I : zI} {J : zJ} {r : zA} {g : Nat} {x1 : Int32} {x2 : Int32} {x3 : Int32} {x4 : Int32} (ho : g = 19 ∨ g = 34) (k1 : zEv X d zm_137 (40, [some (.ref 0), some (.int x1), some (.int x2), some (.int x3), some (.int x4), some (.null), some (.ref g)], [], (zS0, R, I, J)) r) : zEv X d zm_137 (18, [some (.ref 0), some (.int x1), some (.int x2), some (.int x3), some (.int x4), some (.null), none], [.ref g], (zS0, R, I, J)) r := by
  rcases ho with rfl | rfl
  · refine zEv_k 3 (f' := (40, [some (.ref 0), some (.int x1), some (.int x2), some (.int x3), some (.int x4), some (.null), some (.ref 19)], [], (zS0, R, I, J))) rfl ?_
    exact k1
  · refine zEv_k 3 (f' := (40, [some (.ref 0), some (.int x1), some (.int x2), some (.int x3), some (.int x4), some (.null), some (.ref 34)], [], (zS0, R, I, J))) rfl ?_
    exact k1
theorem b_137_18n5_100 {X : zX} {d : Nat} {R : zR} {I : zI} {J : zJ} {r : zA} {x1 : Int32} {x2 : Int32} {x3 : Int32} {x4 : Int32} (k1 : zEv X d zm_137 (40, [some (.ref 0), some (.int x1), some (.int x2), some (.int x3), some (.int x4), some (.null), some (.null)], [], (zS0, R, I, J)) r) : zEv X d zm_137 (18, [some (.ref 0), some (.int x1), some (.int x2), some (.int x3), some (.int x4), some (.null), none], [.null], (zS0, R, I, J)) r := by
  refine zEv_k 3 (f' := (40, [some (.ref 0), some (.int x1), some (.int x2), some (.int x3), some (.int x4), some (.null), some (.null)], [], (zS0, R, I, J))) rfl ?_
  exact k1
theorem b_137_18n100 {X : zX} {d : Nat} {R : zR} {I : zI} {J : zJ} {r : zA} {c : Nat} {x1 : Int32} {x2 : Int32} {x3 : Int32} {x4 : Int32} (ho : c = 7 ∨ c = 22) (k1 : zEv X d zm_137 (40, [some (.ref 0), some (.int x1), some (.int x2), some (.int x3), some (.int x4), some (.ref c), some (.null)], [], (zS0, R, I, J)) r) : zEv X d zm_137 (18, [some (.ref 0), some (.int x1), some (.int x2), some (.int x3), some (.int x4), some (.ref c), none], [.null], (zS0, R, I, J)) r := by
  rcases ho with rfl | rfl
  · refine zEv_k 5 (f' := (40, [some (.ref 0), some (.int x1), some (.int x2), some (.int x3), some (.int x4), some (.ref 7), some (.null)], [], (zS0, R, I, J))) rfl ?_
    exact k1
  · refine zEv_k 5 (f' := (40, [some (.ref 0), some (.int x1), some (.int x2), some (.int x3), some (.int x4), some (.ref 22), some (.null)], [], (zS0, R, I, J))) rfl ?_
    exact k1
theorem b_137_34 {X : zX} {d : Nat} {R : zR} {I : zI} {J : zJ} {r : zA} {c : Nat} {g : Nat} {x1 : Int32} {x2 : Int32} {x3 : Int32} {x4 : Int32} (ho : (c = 7 ∧ g = 19) ∨ (c = 7 ∧ g = 34) ∨ (c = 22 ∧ g = 19) ∨ (c = 22 ∧ g = 34)) (k1 : x3 ≤ 9 → zEv X d zm_137 (42, [some (.ref 0), some (.int x1), some (.int x2), some (.int x3), some (.int x4), some (.ref c), some (.ref g)], [], (zS0, R, I, J)) r) (k2 : ¬ (x3 ≤ 9) → zEv X d zm_137 (40, [some (.ref 0), some (.int x1), some (.int x2), some (.int x3), some (.int x4), some (.ref c), some (.ref g)], [], (zS0, R, I, J)) r) : zEv X d zm_137 (34, [some (.ref 0), some (.int x1), some (.int x2), some (.int x3), some (.int x4), some (.ref c), some (.ref g)], [], (zS0, R, I, J)) r := by
  rcases ho with ⟨rfl, rfl⟩ | ⟨rfl, rfl⟩ | ⟨rfl, rfl⟩ | ⟨rfl, rfl⟩
  · refine zEv_k 3 (f' := (if x3 ≤ 9 then 42 else 40, [some (.ref 0), some (.int x1), some (.int x2), some (.int x3), some (.int x4), some (.ref 7), some (.ref 19)], [], (zS0, R, I, J))) rfl ?_
    exact zEv_if k1 k2
  · refine zEv_k 3 (f' := (if x3 ≤ 9 then 42 else 40, [some (.ref 0), some (.int x1), some (.int x2), some (.int x3), some (.int x4), some (.ref 7), some (.ref 34)], [], (zS0, R, I, J))) rfl ?_
    exact zEv_if k1 k2
  · refine zEv_k 3 (f' := (if x3 ≤ 9 then 42 else 40, [some (.ref 0), some (.int x1), some (.int x2), some (.int x3), some (.int x4), some (.ref 22), some (.ref 19)], [], (zS0, R, I, J))) rfl ?_
    exact zEv_if k1 k2
  · refine zEv_k 3 (f' := (if x3 ≤ 9 then 42 else 40, [some (.ref 0), some (.int x1), some (.int x2), some (.int x3), some (.int x4), some (.ref 22), some (.ref 34)], [], (zS0, R, I, J))) rfl ?_
    exact zEv_if k1 k2
theorem b_137_40 {X : zX} {d : Nat} {R : zR} {I : zI} {J : zJ} {c : Nat} {g : Nat} {x1 : Int32} {x2 : Int32} {x3 : Int32} {x4 : Int32} (ho : (c = 7 ∧ g = 19) ∨ (c = 7 ∧ g = 34) ∨ (c = 22 ∧ g = 19) ∨ (c = 22 ∧ g = 34)) : zEv X d zm_137 (40, [some (.ref 0), some (.int x1), some (.int x2), some (.int x3), some (.int x4), some (.ref c), some (.ref g)], [], (zS0, R, I, J)) (some (.int (-1)), (zS0, R, I, J)) := by
  rcases ho with ⟨rfl, rfl⟩ | ⟨rfl, rfl⟩ | ⟨rfl, rfl⟩ | ⟨rfl, rfl⟩
  · refine zEv_k 1 (f' := (41, [some (.ref 0), some (.int x1), some (.int x2), some (.int x3), some (.int x4), some (.ref 7), some (.ref 19)], [.int (-1)], (zS0, R, I, J))) rfl ?_
    exact zEv_r rfl
  · refine zEv_k 1 (f' := (41, [some (.ref 0), some (.int x1), some (.int x2), some (.int x3), some (.int x4), some (.ref 7), some (.ref 34)], [.int (-1)], (zS0, R, I, J))) rfl ?_
    exact zEv_r rfl
  · refine zEv_k 1 (f' := (41, [some (.ref 0), some (.int x1), some (.int x2), some (.int x3), some (.int x4), some (.ref 22), some (.ref 19)], [.int (-1)], (zS0, R, I, J))) rfl ?_
    exact zEv_r rfl
  · refine zEv_k 1 (f' := (41, [some (.ref 0), some (.int x1), some (.int x2), some (.int x3), some (.int x4), some (.ref 22), some (.ref 34)], [.int (-1)], (zS0, R, I, J))) rfl ?_
    exact zEv_r rfl
theorem b_137_40n5 {X : zX} {d : Nat} {R : zR} {I : zI} {J : zJ} {g : Nat} {x1 : Int32} {x2 : Int32} {x3 : Int32} {x4 : Int32} (ho : g = 19 ∨ g = 34) : zEv X d zm_137 (40, [some (.ref 0), some (.int x1), some (.int x2), some (.int x3), some (.int x4), some (.null), some (.ref g)], [], (zS0, R, I, J)) (some (.int (-1)), (zS0, R, I, J)) := by
  rcases ho with rfl | rfl
  · refine zEv_k 1 (f' := (41, [some (.ref 0), some (.int x1), some (.int x2), some (.int x3), some (.int x4), some (.null), some (.ref 19)], [.int (-1)], (zS0, R, I, J))) rfl ?_
    exact zEv_r rfl
  · refine zEv_k 1 (f' := (41, [some (.ref 0), some (.int x1), some (.int x2), some (.int x3), some (.int x4), some (.null), some (.ref 34)], [.int (-1)], (zS0, R, I, J))) rfl ?_
    exact zEv_r rfl
theorem b_137_40n5_6 {X : zX} {d : Nat} {R : zR} {I : zI} {J : zJ} {x1 : Int32} {x2 : Int32} {x3 : Int32} {x4 : Int32} : zEv X d zm_137 (40, [some (.ref 0), some (.int x1), some (.int x2), some (.int x3), some (.int x4), some (.null), some (.null)], [], (zS0, R, I, J)) (some (.int (-1)), (zS0, R, I, J)) := by
  refine zEv_k 1 (f' := (41, [some (.ref 0), some (.int x1), some (.int x2), some (.int x3), some (.int x4), some (.null), some (.null)], [.int (-1)], (zS0, R, I, J))) rfl ?_
  exact zEv_r rfl
theorem b_137_40n6 {X : zX} {d : Nat} {R : zR} {I : zI} {J : zJ} {c : Nat} {x1 : Int32} {x2 : Int32} {x3 : Int32} {x4 : Int32} (ho : c = 7 ∨ c = 22) : zEv X d zm_137 (40, [some (.ref 0), some (.int x1), some (.int x2), some (.int x3), some (.int x4), some (.ref c), some (.null)], [], (zS0, R, I, J)) (some (.int (-1)), (zS0, R, I, J)) := by
  rcases ho with rfl | rfl
  · refine zEv_k 1 (f' := (41, [some (.ref 0), some (.int x1), some (.int x2), some (.int x3), some (.int x4), some (.ref 7), some (.null)], [.int (-1)], (zS0, R, I, J))) rfl ?_
    exact zEv_r rfl
  · refine zEv_k 1 (f' := (41, [some (.ref 0), some (.int x1), some (.int x2), some (.int x3), some (.int x4), some (.ref 22), some (.null)], [.int (-1)], (zS0, R, I, J))) rfl ?_
    exact zEv_r rfl
theorem b_137_42 {X : zX} {d : Nat} {R : zR} {I : zI} {J : zJ} {r : zA} {c : Nat} {g : Nat} {x1 : Int32} {x2 : Int32} {x3 : Int32} {x4 : Int32} {R' : zR} {I' : zI} {J' : zJ} (hR : zRok R) (ho : (c = 7 ∧ g = 19) ∨ (c = 7 ∧ g = 34) ∨ (c = 22 ∧ g = 19) ∨ (c = 22 ∧ g = 34)) (hc : zEv X d zm_16 (0, [some (.ref 196), some (.int x1), some (.ref c), some (.ref g), none], [], (zS0, R, I, J)) (none, (zS0, R', I', J'))) (k1 : zEv X (d + 1) zm_137 (54, [some (.ref 0), some (.int x1), some (.int x2), some (.int x3), some (.int x4), some (.ref c), some (.ref g)], [], (zS0, R', I', J')) r) : zEv X (d + 1) zm_137 (42, [some (.ref 0), some (.int x1), some (.int x2), some (.int x3), some (.int x4), some (.ref c), some (.ref g)], [], (zS0, R, I, J)) r := by
  rcases ho with ⟨rfl, rfl⟩ | ⟨rfl, rfl⟩ | ⟨rfl, rfl⟩ | ⟨rfl, rfl⟩
  · refine zEv_k 1 (f' := (43, [some (.ref 0), some (.int x1), some (.int x2), some (.int x3), some (.int x4), some (.ref 7), some (.ref 19)], [.ref 0], (zS0, R, I, J))) rfl ?_
    refine zEv_gr rfl rfl rfl (by decide) (hR (0) 8 (196) rfl) ?_
    refine zEv_k 3 (f' := (51, [some (.ref 0), some (.int x1), some (.int x2), some (.int x3), some (.int x4), some (.ref 7), some (.ref 19)], [.ref 19, .ref 7, .int x1, .ref 196], (zS0, R, I, J))) rfl ?_
    exact zEv_c (fun _ => rfl) rfl hc rfl rfl k1
  · refine zEv_k 1 (f' := (43, [some (.ref 0), some (.int x1), some (.int x2), some (.int x3), some (.int x4), some (.ref 7), some (.ref 34)], [.ref 0], (zS0, R, I, J))) rfl ?_
    refine zEv_gr rfl rfl rfl (by decide) (hR (0) 8 (196) rfl) ?_
    refine zEv_k 3 (f' := (51, [some (.ref 0), some (.int x1), some (.int x2), some (.int x3), some (.int x4), some (.ref 7), some (.ref 34)], [.ref 34, .ref 7, .int x1, .ref 196], (zS0, R, I, J))) rfl ?_
    exact zEv_c (fun _ => rfl) rfl hc rfl rfl k1
  · refine zEv_k 1 (f' := (43, [some (.ref 0), some (.int x1), some (.int x2), some (.int x3), some (.int x4), some (.ref 22), some (.ref 19)], [.ref 0], (zS0, R, I, J))) rfl ?_
    refine zEv_gr rfl rfl rfl (by decide) (hR (0) 8 (196) rfl) ?_
    refine zEv_k 3 (f' := (51, [some (.ref 0), some (.int x1), some (.int x2), some (.int x3), some (.int x4), some (.ref 22), some (.ref 19)], [.ref 19, .ref 22, .int x1, .ref 196], (zS0, R, I, J))) rfl ?_
    exact zEv_c (fun _ => rfl) rfl hc rfl rfl k1
  · refine zEv_k 1 (f' := (43, [some (.ref 0), some (.int x1), some (.int x2), some (.int x3), some (.int x4), some (.ref 22), some (.ref 34)], [.ref 0], (zS0, R, I, J))) rfl ?_
    refine zEv_gr rfl rfl rfl (by decide) (hR (0) 8 (196) rfl) ?_
    refine zEv_k 3 (f' := (51, [some (.ref 0), some (.int x1), some (.int x2), some (.int x3), some (.int x4), some (.ref 22), some (.ref 34)], [.ref 34, .ref 22, .int x1, .ref 196], (zS0, R, I, J))) rfl ?_
    exact zEv_c (fun _ => rfl) rfl hc rfl rfl k1
theorem b_137_54 {X : zX} {d : Nat} {R : zR} {I : zI} {J : zJ} {r : zA} {c : Nat} {g : Nat} {x1 : Int32} {x2 : Int32} {x3 : Int32} {x4 : Int32} {w : Int32} {R' : zR} {I' : zI} {J' : zJ} (hR : zRok R) (ho : (c = 7 ∧ g = 19) ∨ (c = 7 ∧ g = 34) ∨ (c = 22 ∧ g = 19) ∨ (c = 22 ∧ g = 34)) (hc : zEv X d zm_24 (0, [some (.ref 196), some (.int x3), none, none], [], (zS0, R, I, J)) (some (.int w), (zS0, R', I', J'))) (k1 : zEv X (d + 1) zm_137 (62, [some (.ref 0), some (.int x1), some (.int x2), some (.int x3), some (.int x4), some (.ref c), some (.ref g)], [.int w], (zS0, R', I', J')) r) : zEv X (d + 1) zm_137 (54, [some (.ref 0), some (.int x1), some (.int x2), some (.int x3), some (.int x4), some (.ref c), some (.ref g)], [], (zS0, R, I, J)) r := by
  rcases ho with ⟨rfl, rfl⟩ | ⟨rfl, rfl⟩ | ⟨rfl, rfl⟩ | ⟨rfl, rfl⟩
  · refine zEv_k 1 (f' := (55, [some (.ref 0), some (.int x1), some (.int x2), some (.int x3), some (.int x4), some (.ref 7), some (.ref 19)], [.ref 0], (zS0, R, I, J))) rfl ?_
    refine zEv_gr rfl rfl rfl (by decide) (hR (0) 8 (196) rfl) ?_
    refine zEv_k 1 (f' := (59, [some (.ref 0), some (.int x1), some (.int x2), some (.int x3), some (.int x4), some (.ref 7), some (.ref 19)], [.int x3, .ref 196], (zS0, R, I, J))) rfl ?_
    exact zEv_c (fun _ => rfl) rfl hc rfl rfl k1
  · refine zEv_k 1 (f' := (55, [some (.ref 0), some (.int x1), some (.int x2), some (.int x3), some (.int x4), some (.ref 7), some (.ref 34)], [.ref 0], (zS0, R, I, J))) rfl ?_
    refine zEv_gr rfl rfl rfl (by decide) (hR (0) 8 (196) rfl) ?_
    refine zEv_k 1 (f' := (59, [some (.ref 0), some (.int x1), some (.int x2), some (.int x3), some (.int x4), some (.ref 7), some (.ref 34)], [.int x3, .ref 196], (zS0, R, I, J))) rfl ?_
    exact zEv_c (fun _ => rfl) rfl hc rfl rfl k1
  · refine zEv_k 1 (f' := (55, [some (.ref 0), some (.int x1), some (.int x2), some (.int x3), some (.int x4), some (.ref 22), some (.ref 19)], [.ref 0], (zS0, R, I, J))) rfl ?_
    refine zEv_gr rfl rfl rfl (by decide) (hR (0) 8 (196) rfl) ?_
    refine zEv_k 1 (f' := (59, [some (.ref 0), some (.int x1), some (.int x2), some (.int x3), some (.int x4), some (.ref 22), some (.ref 19)], [.int x3, .ref 196], (zS0, R, I, J))) rfl ?_
    exact zEv_c (fun _ => rfl) rfl hc rfl rfl k1
  · refine zEv_k 1 (f' := (55, [some (.ref 0), some (.int x1), some (.int x2), some (.int x3), some (.int x4), some (.ref 22), some (.ref 34)], [.ref 0], (zS0, R, I, J))) rfl ?_
    refine zEv_gr rfl rfl rfl (by decide) (hR (0) 8 (196) rfl) ?_
    refine zEv_k 1 (f' := (59, [some (.ref 0), some (.int x1), some (.int x2), some (.int x3), some (.int x4), some (.ref 22), some (.ref 34)], [.int x3, .ref 196], (zS0, R, I, J))) rfl ?_
    exact zEv_c (fun _ => rfl) rfl hc rfl rfl k1
theorem b_137_62 {X : zX} {d : Nat} {R : zR} {I : zI} {J : zJ} {r : zA} {c : Nat} {g : Nat} {x1 : Int32} {x2 : Int32} {x3 : Int32} {x4 : Int32} {s0 : Int32} {w : Int64} {R' : zR} {I' : zI} {J' : zJ} (hR : zRok R) (ho : (c = 7 ∧ g = 19) ∨ (c = 7 ∧ g = 34) ∨ (c = 22 ∧ g = 19) ∨ (c = 22 ∧ g = 34)) (hc : zEv X d zm_147 (0, [some (.long (Int32.toInt64 s0)), none, some (.long (Int32.toInt64 (I 196 0))), none, some (.int x4), none, none], [], (zS0, R, I, J)) (some (.long w), (zS0, R', I', J'))) (k1 : zEv X (d + 1) zm_137 (76, [some (.ref 0), some (.int x1), some (.int x2), some (.int x3), some (.int x4), some (.ref c), some (.ref g)], [.long w], (zS0, R', I', J')) r) : zEv X (d + 1) zm_137 (62, [some (.ref 0), some (.int x1), some (.int x2), some (.int x3), some (.int x4), some (.ref c), some (.ref g)], [.int s0], (zS0, R, I, J)) r := by
  rcases ho with ⟨rfl, rfl⟩ | ⟨rfl, rfl⟩ | ⟨rfl, rfl⟩ | ⟨rfl, rfl⟩
  · refine zEv_k 2 (f' := (64, [some (.ref 0), some (.int x1), some (.int x2), some (.int x3), some (.int x4), some (.ref 7), some (.ref 19)], [.ref 0, .long (Int32.toInt64 s0)], (zS0, R, I, J))) rfl ?_
    refine zEv_gr rfl rfl rfl (by decide) (hR (0) 8 (196) rfl) ?_
    refine zEv_k 3 (f' := (73, [some (.ref 0), some (.int x1), some (.int x2), some (.int x3), some (.int x4), some (.ref 7), some (.ref 19)], [.int x4, .long (Int32.toInt64 (I 196 0)), .long (Int32.toInt64 s0)], (zS0, R, I, J))) rfl ?_
    exact zEv_c (fun _ => rfl) rfl hc rfl rfl k1
  · refine zEv_k 2 (f' := (64, [some (.ref 0), some (.int x1), some (.int x2), some (.int x3), some (.int x4), some (.ref 7), some (.ref 34)], [.ref 0, .long (Int32.toInt64 s0)], (zS0, R, I, J))) rfl ?_
    refine zEv_gr rfl rfl rfl (by decide) (hR (0) 8 (196) rfl) ?_
    refine zEv_k 3 (f' := (73, [some (.ref 0), some (.int x1), some (.int x2), some (.int x3), some (.int x4), some (.ref 7), some (.ref 34)], [.int x4, .long (Int32.toInt64 (I 196 0)), .long (Int32.toInt64 s0)], (zS0, R, I, J))) rfl ?_
    exact zEv_c (fun _ => rfl) rfl hc rfl rfl k1
  · refine zEv_k 2 (f' := (64, [some (.ref 0), some (.int x1), some (.int x2), some (.int x3), some (.int x4), some (.ref 22), some (.ref 19)], [.ref 0, .long (Int32.toInt64 s0)], (zS0, R, I, J))) rfl ?_
    refine zEv_gr rfl rfl rfl (by decide) (hR (0) 8 (196) rfl) ?_
    refine zEv_k 3 (f' := (73, [some (.ref 0), some (.int x1), some (.int x2), some (.int x3), some (.int x4), some (.ref 22), some (.ref 19)], [.int x4, .long (Int32.toInt64 (I 196 0)), .long (Int32.toInt64 s0)], (zS0, R, I, J))) rfl ?_
    exact zEv_c (fun _ => rfl) rfl hc rfl rfl k1
  · refine zEv_k 2 (f' := (64, [some (.ref 0), some (.int x1), some (.int x2), some (.int x3), some (.int x4), some (.ref 22), some (.ref 34)], [.ref 0, .long (Int32.toInt64 s0)], (zS0, R, I, J))) rfl ?_
    refine zEv_gr rfl rfl rfl (by decide) (hR (0) 8 (196) rfl) ?_
    refine zEv_k 3 (f' := (73, [some (.ref 0), some (.int x1), some (.int x2), some (.int x3), some (.int x4), some (.ref 22), some (.ref 34)], [.int x4, .long (Int32.toInt64 (I 196 0)), .long (Int32.toInt64 s0)], (zS0, R, I, J))) rfl ?_
    exact zEv_c (fun _ => rfl) rfl hc rfl rfl k1
theorem b_137_76 {X : zX} {d : Nat} {R : zR} {I : zI} {J : zJ} {c : Nat} {g : Nat} {x1 : Int32} {x2 : Int32} {x3 : Int32} {x4 : Int32} {s0 : Int64} (ho : (c = 7 ∧ g = 19) ∨ (c = 7 ∧ g = 34) ∨ (c = 22 ∧ g = 19) ∨ (c = 22 ∧ g = 34)) : zEv X d zm_137 (76, [some (.ref 0), some (.int x1), some (.int x2), some (.int x3), some (.int x4), some (.ref c), some (.ref g)], [.long s0], (zS0, R, I, J)) (some (.int (Int64.toInt32 s0)), (zS0, R, I, J)) := by
  rcases ho with ⟨rfl, rfl⟩ | ⟨rfl, rfl⟩ | ⟨rfl, rfl⟩ | ⟨rfl, rfl⟩
  · refine zEv_k 1 (f' := (77, [some (.ref 0), some (.int x1), some (.int x2), some (.int x3), some (.int x4), some (.ref 7), some (.ref 19)], [.int (Int64.toInt32 s0)], (zS0, R, I, J))) rfl ?_
    exact zEv_r rfl
  · refine zEv_k 1 (f' := (77, [some (.ref 0), some (.int x1), some (.int x2), some (.int x3), some (.int x4), some (.ref 7), some (.ref 34)], [.int (Int64.toInt32 s0)], (zS0, R, I, J))) rfl ?_
    exact zEv_r rfl
  · refine zEv_k 1 (f' := (77, [some (.ref 0), some (.int x1), some (.int x2), some (.int x3), some (.int x4), some (.ref 22), some (.ref 19)], [.int (Int64.toInt32 s0)], (zS0, R, I, J))) rfl ?_
    exact zEv_r rfl
  · refine zEv_k 1 (f' := (77, [some (.ref 0), some (.int x1), some (.int x2), some (.int x3), some (.int x4), some (.ref 22), some (.ref 34)], [.int (Int64.toInt32 s0)], (zS0, R, I, J))) rfl ?_
    exact zEv_r rfl
theorem b_138_0r {X : zX} {d : Nat} {R : zR} {I : zI} {J : zJ} {r : zA} {c : Nat} {x1 : Int32} {x2 : Int32} {x3 : Int32} {R' : zR} {I' : zI} {J' : zJ} (hR : zRok R) (ho : c = 7 ∨ c = 22) (hc : zEv X d zm_89 (0, [some (.ref 1), some (.int x1)], [], (zS0, R, I, J)) (some (.ref c), (zS0, R', I', J'))) (k1 : zEv X (d + 1) zm_138 (8, [some (.ref 0), some (.int x1), some (.int x2), some (.int x3), none, none], [.ref c], (zS0, R', I', J')) r) : zEv X (d + 1) zm_138 (0, [some (.ref 0), some (.int x1), some (.int x2), some (.int x3), none, none], [], (zS0, R, I, J)) r := by
  rcases ho with rfl | rfl
  · refine zEv_k 1 (f' := (1, [some (.ref 0), some (.int x1), some (.int x2), some (.int x3), none, none], [.ref 0], (zS0, R, I, J))) rfl ?_
    refine zEv_gr rfl rfl rfl (by decide) (hR (0) 0 (1) rfl) ?_
    refine zEv_k 1 (f' := (5, [some (.ref 0), some (.int x1), some (.int x2), some (.int x3), none, none], [.int x1, .ref 1], (zS0, R, I, J))) rfl ?_
    exact zEv_c (fun _ => rfl) rfl hc rfl rfl k1
  · refine zEv_k 1 (f' := (1, [some (.ref 0), some (.int x1), some (.int x2), some (.int x3), none, none], [.ref 0], (zS0, R, I, J))) rfl ?_
    refine zEv_gr rfl rfl rfl (by decide) (hR (0) 0 (1) rfl) ?_
    refine zEv_k 1 (f' := (5, [some (.ref 0), some (.int x1), some (.int x2), some (.int x3), none, none], [.int x1, .ref 1], (zS0, R, I, J))) rfl ?_
    exact zEv_c (fun _ => rfl) rfl hc rfl rfl k1
theorem b_138_0n {X : zX} {d : Nat} {R : zR} {I : zI} {J : zJ} {r : zA} {x1 : Int32} {x2 : Int32} {x3 : Int32} {R' : zR} {I' : zI} {J' : zJ} (hR : zRok R) (hc : zEv X d zm_89 (0, [some (.ref 1), some (.int x1)], [], (zS0, R, I, J)) (some .null, (zS0, R', I', J'))) (k1 : zEv X (d + 1) zm_138 (8, [some (.ref 0), some (.int x1), some (.int x2), some (.int x3), none, none], [.null], (zS0, R', I', J')) r) : zEv X (d + 1) zm_138 (0, [some (.ref 0), some (.int x1), some (.int x2), some (.int x3), none, none], [], (zS0, R, I, J)) r := by
  refine zEv_k 1 (f' := (1, [some (.ref 0), some (.int x1), some (.int x2), some (.int x3), none, none], [.ref 0], (zS0, R, I, J))) rfl ?_
  refine zEv_gr rfl rfl rfl (by decide) (hR (0) 0 (1) rfl) ?_
  refine zEv_k 1 (f' := (5, [some (.ref 0), some (.int x1), some (.int x2), some (.int x3), none, none], [.int x1, .ref 1], (zS0, R, I, J))) rfl ?_
  exact zEv_c (fun _ => rfl) rfl hc rfl rfl k1
theorem b_138_8r {X : zX} {d : Nat} {R : zR} {I : zI} {J : zJ} {r : zA} {c : Nat} {g : Nat} {x1 : Int32} {x2 : Int32} {x3 : Int32} {R' : zR} {I' : zI} {J' : zJ} (hR : zRok R) (ho : (c = 7 ∧ g = 19) ∨ (c = 7 ∧ g = 34) ∨ (c = 22 ∧ g = 19) ∨ (c = 22 ∧ g = 34)) (hc : zEv X d zm_91 (0, [some (.ref 1), some (.int x2)], [], (zS0, R, I, J)) (some (.ref g), (zS0, R', I', J'))) (k1 : zEv X (d + 1) zm_138 (18, [some (.ref 0), some (.int x1), some (.int x2), some (.int x3), some (.ref c), none], [.ref g], (zS0, R', I', J')) r) : zEv X (d + 1) zm_138 (8, [some (.ref 0), some (.int x1), some (.int x2), some (.int x3), none, none], [.ref c], (zS0, R, I, J)) r := by
  rcases ho with ⟨rfl, rfl⟩ | ⟨rfl, rfl⟩ | ⟨rfl, rfl⟩ | ⟨rfl, rfl⟩
  · refine zEv_k 2 (f' := (11, [some (.ref 0), some (.int x1), some (.int x2), some (.int x3), some (.ref 7), none], [.ref 0], (zS0, R, I, J))) rfl ?_
    refine zEv_gr rfl rfl rfl (by decide) (hR (0) 0 (1) rfl) ?_
    refine zEv_k 1 (f' := (15, [some (.ref 0), some (.int x1), some (.int x2), some (.int x3), some (.ref 7), none], [.int x2, .ref 1], (zS0, R, I, J))) rfl ?_
    exact zEv_c (fun _ => rfl) rfl hc rfl rfl k1
  · refine zEv_k 2 (f' := (11, [some (.ref 0), some (.int x1), some (.int x2), some (.int x3), some (.ref 7), none], [.ref 0], (zS0, R, I, J))) rfl ?_
    refine zEv_gr rfl rfl rfl (by decide) (hR (0) 0 (1) rfl) ?_
    refine zEv_k 1 (f' := (15, [some (.ref 0), some (.int x1), some (.int x2), some (.int x3), some (.ref 7), none], [.int x2, .ref 1], (zS0, R, I, J))) rfl ?_
    exact zEv_c (fun _ => rfl) rfl hc rfl rfl k1
  · refine zEv_k 2 (f' := (11, [some (.ref 0), some (.int x1), some (.int x2), some (.int x3), some (.ref 22), none], [.ref 0], (zS0, R, I, J))) rfl ?_
    refine zEv_gr rfl rfl rfl (by decide) (hR (0) 0 (1) rfl) ?_
    refine zEv_k 1 (f' := (15, [some (.ref 0), some (.int x1), some (.int x2), some (.int x3), some (.ref 22), none], [.int x2, .ref 1], (zS0, R, I, J))) rfl ?_
    exact zEv_c (fun _ => rfl) rfl hc rfl rfl k1
  · refine zEv_k 2 (f' := (11, [some (.ref 0), some (.int x1), some (.int x2), some (.int x3), some (.ref 22), none], [.ref 0], (zS0, R, I, J))) rfl ?_
    refine zEv_gr rfl rfl rfl (by decide) (hR (0) 0 (1) rfl) ?_
    refine zEv_k 1 (f' := (15, [some (.ref 0), some (.int x1), some (.int x2), some (.int x3), some (.ref 22), none], [.int x2, .ref 1], (zS0, R, I, J))) rfl ?_
    exact zEv_c (fun _ => rfl) rfl hc rfl rfl k1
theorem b_138_8n {X : zX} {d : Nat} {R : zR} {I : zI} {J : zJ} {r : zA} {c : Nat} {x1 : Int32} {x2 : Int32} {x3 : Int32} {R' : zR} {I' : zI} {J' : zJ} (hR : zRok R) (ho : c = 7 ∨ c = 22) (hc : zEv X d zm_91 (0, [some (.ref 1), some (.int x2)], [], (zS0, R, I, J)) (some .null, (zS0, R', I', J'))) (k1 : zEv X (d + 1) zm_138 (18, [some (.ref 0), some (.int x1), some (.int x2), some (.int x3), some (.ref c), none], [.null], (zS0, R', I', J')) r) : zEv X (d + 1) zm_138 (8, [some (.ref 0), some (.int x1), some (.int x2), some (.int x3), none, none], [.ref c], (zS0, R, I, J)) r := by
  rcases ho with rfl | rfl
  · refine zEv_k 2 (f' := (11, [some (.ref 0), some (.int x1), some (.int x2), some (.int x3), some (.ref 7), none], [.ref 0], (zS0, R, I, J))) rfl ?_
    refine zEv_gr rfl rfl rfl (by decide) (hR (0) 0 (1) rfl) ?_
    refine zEv_k 1 (f' := (15, [some (.ref 0), some (.int x1), some (.int x2), some (.int x3), some (.ref 7), none], [.int x2, .ref 1], (zS0, R, I, J))) rfl ?_
    exact zEv_c (fun _ => rfl) rfl hc rfl rfl k1
  · refine zEv_k 2 (f' := (11, [some (.ref 0), some (.int x1), some (.int x2), some (.int x3), some (.ref 22), none], [.ref 0], (zS0, R, I, J))) rfl ?_
    refine zEv_gr rfl rfl rfl (by decide) (hR (0) 0 (1) rfl) ?_
    refine zEv_k 1 (f' := (15, [some (.ref 0), some (.int x1), some (.int x2), some (.int x3), some (.ref 22), none], [.int x2, .ref 1], (zS0, R, I, J))) rfl ?_
    exact zEv_c (fun _ => rfl) rfl hc rfl rfl k1
theorem b_138_8n100r {X : zX} {d : Nat} {R : zR} {I : zI} {J : zJ} {r : zA} {g : Nat} {x1 : Int32} {x2 : Int32} {x3 : Int32} {R' : zR} {I' : zI} {J' : zJ} (hR : zRok R) (ho : g = 19 ∨ g = 34) (hc : zEv X d zm_91 (0, [some (.ref 1), some (.int x2)], [], (zS0, R, I, J)) (some (.ref g), (zS0, R', I', J'))) (k1 : zEv X (d + 1) zm_138 (18, [some (.ref 0), some (.int x1), some (.int x2), some (.int x3), some (.null), none], [.ref g], (zS0, R', I', J')) r) : zEv X (d + 1) zm_138 (8, [some (.ref 0), some (.int x1), some (.int x2), some (.int x3), none, none], [.null], (zS0, R, I, J)) r := by
  rcases ho with rfl | rfl
  · refine zEv_k 2 (f' := (11, [some (.ref 0), some (.int x1), some (.int x2), some (.int x3), some (.null), none], [.ref 0], (zS0, R, I, J))) rfl ?_
    refine zEv_gr rfl rfl rfl (by decide) (hR (0) 0 (1) rfl) ?_
    refine zEv_k 1 (f' := (15, [some (.ref 0), some (.int x1), some (.int x2), some (.int x3), some (.null), none], [.int x2, .ref 1], (zS0, R, I, J))) rfl ?_
    exact zEv_c (fun _ => rfl) rfl hc rfl rfl k1
  · refine zEv_k 2 (f' := (11, [some (.ref 0), some (.int x1), some (.int x2), some (.int x3), some (.null), none], [.ref 0], (zS0, R, I, J))) rfl ?_
    refine zEv_gr rfl rfl rfl (by decide) (hR (0) 0 (1) rfl) ?_
    refine zEv_k 1 (f' := (15, [some (.ref 0), some (.int x1), some (.int x2), some (.int x3), some (.null), none], [.int x2, .ref 1], (zS0, R, I, J))) rfl ?_
    exact zEv_c (fun _ => rfl) rfl hc rfl rfl k1
theorem b_138_8n100n {X : zX} {d : Nat} {R : zR} {I : zI} {J : zJ} {r : zA} {x1 : Int32} {x2 : Int32} {x3 : Int32} {R' : zR} {I' : zI} {J' : zJ} (hR : zRok R) (hc : zEv X d zm_91 (0, [some (.ref 1), some (.int x2)], [], (zS0, R, I, J)) (some .null, (zS0, R', I', J'))) (k1 : zEv X (d + 1) zm_138 (18, [some (.ref 0), some (.int x1), some (.int x2), some (.int x3), some (.null), none], [.null], (zS0, R', I', J')) r) : zEv X (d + 1) zm_138 (8, [some (.ref 0), some (.int x1), some (.int x2), some (.int x3), none, none], [.null], (zS0, R, I, J)) r := by
  refine zEv_k 2 (f' := (11, [some (.ref 0), some (.int x1), some (.int x2), some (.int x3), some (.null), none], [.ref 0], (zS0, R, I, J))) rfl ?_
  refine zEv_gr rfl rfl rfl (by decide) (hR (0) 0 (1) rfl) ?_
  refine zEv_k 1 (f' := (15, [some (.ref 0), some (.int x1), some (.int x2), some (.int x3), some (.null), none], [.int x2, .ref 1], (zS0, R, I, J))) rfl ?_
  exact zEv_c (fun _ => rfl) rfl hc rfl rfl k1
theorem b_138_18 {X : zX} {d : Nat} {R : zR} {I : zI} {J : zJ} {r : zA} {c : Nat} {g : Nat} {x1 : Int32} {x2 : Int32} {x3 : Int32} {R' : zR} {I' : zI} {J' : zJ} (hR : zRok R) (ho : (c = 7 ∧ g = 19) ∨ (c = 7 ∧ g = 34) ∨ (c = 22 ∧ g = 19) ∨ (c = 22 ∧ g = 34)) (hc : zEv X d zm_16 (0, [some (.ref 196), some (.int x1), some (.ref c), some (.ref g), none], [], (zS0, R, I, J)) (none, (zS0, R', I', J'))) (k1 : zEv X (d + 1) zm_138 (44, [some (.ref 0), some (.int x1), some (.int x2), some (.int x3), some (.ref c), some (.ref g)], [], (zS0, R', I', J')) r) : zEv X (d + 1) zm_138 (18, [some (.ref 0), some (.int x1), some (.int x2), some (.int x3), some (.ref c), none], [.ref g], (zS0, R, I, J)) r := by
  rcases ho with ⟨rfl, rfl⟩ | ⟨rfl, rfl⟩ | ⟨rfl, rfl⟩ | ⟨rfl, rfl⟩
  · refine zEv_k 6 (f' := (33, [some (.ref 0), some (.int x1), some (.int x2), some (.int x3), some (.ref 7), some (.ref 19)], [.ref 0], (zS0, R, I, J))) rfl ?_
    refine zEv_gr rfl rfl rfl (by decide) (hR (0) 8 (196) rfl) ?_
    refine zEv_k 3 (f' := (41, [some (.ref 0), some (.int x1), some (.int x2), some (.int x3), some (.ref 7), some (.ref 19)], [.ref 19, .ref 7, .int x1, .ref 196], (zS0, R, I, J))) rfl ?_
    exact zEv_c (fun _ => rfl) rfl hc rfl rfl k1
  · refine zEv_k 6 (f' := (33, [some (.ref 0), some (.int x1), some (.int x2), some (.int x3), some (.ref 7), some (.ref 34)], [.ref 0], (zS0, R, I, J))) rfl ?_
    refine zEv_gr rfl rfl rfl (by decide) (hR (0) 8 (196) rfl) ?_
    refine zEv_k 3 (f' := (41, [some (.ref 0), some (.int x1), some (.int x2), some (.int x3), some (.ref 7), some (.ref 34)], [.ref 34, .ref 7, .int x1, .ref 196], (zS0, R, I, J))) rfl ?_
    exact zEv_c (fun _ => rfl) rfl hc rfl rfl k1
  · refine zEv_k 6 (f' := (33, [some (.ref 0), some (.int x1), some (.int x2), some (.int x3), some (.ref 22), some (.ref 19)], [.ref 0], (zS0, R, I, J))) rfl ?_
    refine zEv_gr rfl rfl rfl (by decide) (hR (0) 8 (196) rfl) ?_
    refine zEv_k 3 (f' := (41, [some (.ref 0), some (.int x1), some (.int x2), some (.int x3), some (.ref 22), some (.ref 19)], [.ref 19, .ref 22, .int x1, .ref 196], (zS0, R, I, J))) rfl ?_
    exact zEv_c (fun _ => rfl) rfl hc rfl rfl k1
  · refine zEv_k 6 (f' := (33, [some (.ref 0), some (.int x1), some (.int x2), some (.int x3), some (.ref 22), some (.ref 34)], [.ref 0], (zS0, R, I, J))) rfl ?_
    refine zEv_gr rfl rfl rfl (by decide) (hR (0) 8 (196) rfl) ?_
    refine zEv_k 3 (f' := (41, [some (.ref 0), some (.int x1), some (.int x2), some (.int x3), some (.ref 22), some (.ref 34)], [.ref 34, .ref 22, .int x1, .ref 196], (zS0, R, I, J))) rfl ?_
    exact zEv_c (fun _ => rfl) rfl hc rfl rfl k1
theorem b_138_18n4 {X : zX} {d : Nat} {R : zR} {I : zI} {J : zJ} {g : Nat} {x1 : Int32} {x2 : Int32} {x3 : Int32} (ho : g = 19 ∨ g = 34) : zEv X d zm_138 (18, [some (.ref 0), some (.int x1), some (.int x2), some (.int x3), some (.null), none], [.ref g], (zS0, R, I, J)) (some (.int (-1)), (zS0, R, I, J)) := by
  rcases ho with rfl | rfl
  · refine zEv_k 4 (f' := (31, [some (.ref 0), some (.int x1), some (.int x2), some (.int x3), some (.null), some (.ref 19)], [.int (-1)], (zS0, R, I, J))) rfl ?_
    exact zEv_r rfl
  · refine zEv_k 4 (f' := (31, [some (.ref 0), some (.int x1), some (.int x2), some (.int x3), some (.null), some (.ref 34)], [.int (-1)], (zS0, R, I, J))) rfl ?_
    exact zEv_r rfl
theorem b_138_18n4_100 {X : zX} {d : Nat} {R : zR} {I : zI} {J : zJ} {x1 : Int32} {x2 : Int32} {x3 : Int32} : zEv X d zm_138 (18, [some (.ref 0), some (.int x1), some (.int x2), some (.int x3), some (.null), none], [.null], (zS0, R, I, J)) (some (.int (-1)), (zS0, R, I, J)) := by
  refine zEv_k 4 (f' := (31, [some (.ref 0), some (.int x1), some (.int x2), some (.int x3), some (.null), some (.null)], [.int (-1)], (zS0, R, I, J))) rfl ?_
  exact zEv_r rfl
theorem b_138_18n100 {X : zX} {d : Nat} {R : zR} {I : zI} {J : zJ} {c : Nat} {x1 : Int32} {x2 : Int32} {x3 : Int32} (ho : c = 7 ∨ c = 22) : zEv X d zm_138 (18, [some (.ref 0), some (.int x1), some (.int x2), some (.int x3), some (.ref c), none], [.null], (zS0, R, I, J)) (some (.int (-1)), (zS0, R, I, J)) := by
  rcases ho with rfl | rfl
  · refine zEv_k 6 (f' := (31, [some (.ref 0), some (.int x1), some (.int x2), some (.int x3), some (.ref 7), some (.null)], [.int (-1)], (zS0, R, I, J))) rfl ?_
    exact zEv_r rfl
  · refine zEv_k 6 (f' := (31, [some (.ref 0), some (.int x1), some (.int x2), some (.int x3), some (.ref 22), some (.null)], [.int (-1)], (zS0, R, I, J))) rfl ?_
    exact zEv_r rfl
theorem b_138_44 {X : zX} {d : Nat} {R : zR} {I : zI} {J : zJ} {r : zA} {c : Nat} {g : Nat} {x1 : Int32} {x2 : Int32} {x3 : Int32} (ho : (c = 7 ∧ g = 19) ∨ (c = 7 ∧ g = 34) ∨ (c = 22 ∧ g = 19) ∨ (c = 22 ∧ g = 34)) (k1 : x3 = 0 → zEv X d zm_138 (58, [some (.ref 0), some (.int x1), some (.int x2), some (.int x3), some (.ref c), some (.ref g)], [], (zS0, R, I, J)) r) (k2 : ¬ (x3 = 0) → zEv X d zm_138 (48, [some (.ref 0), some (.int x1), some (.int x2), some (.int x3), some (.ref c), some (.ref g)], [], (zS0, R, I, J)) r) : zEv X d zm_138 (44, [some (.ref 0), some (.int x1), some (.int x2), some (.int x3), some (.ref c), some (.ref g)], [], (zS0, R, I, J)) r := by
  rcases ho with ⟨rfl, rfl⟩ | ⟨rfl, rfl⟩ | ⟨rfl, rfl⟩ | ⟨rfl, rfl⟩
  · refine zEv_k 2 (f' := (if x3 = 0 then 58 else 48, [some (.ref 0), some (.int x1), some (.int x2), some (.int x3), some (.ref 7), some (.ref 19)], [], (zS0, R, I, J))) rfl ?_
    exact zEv_if k1 k2
  · refine zEv_k 2 (f' := (if x3 = 0 then 58 else 48, [some (.ref 0), some (.int x1), some (.int x2), some (.int x3), some (.ref 7), some (.ref 34)], [], (zS0, R, I, J))) rfl ?_
    exact zEv_if k1 k2
  · refine zEv_k 2 (f' := (if x3 = 0 then 58 else 48, [some (.ref 0), some (.int x1), some (.int x2), some (.int x3), some (.ref 22), some (.ref 19)], [], (zS0, R, I, J))) rfl ?_
    exact zEv_if k1 k2
  · refine zEv_k 2 (f' := (if x3 = 0 then 58 else 48, [some (.ref 0), some (.int x1), some (.int x2), some (.int x3), some (.ref 22), some (.ref 34)], [], (zS0, R, I, J))) rfl ?_
    exact zEv_if k1 k2
theorem b_138_48 {X : zX} {d : Nat} {R : zR} {I : zI} {J : zJ} {r : zA} {c : Nat} {g : Nat} {x1 : Int32} {x2 : Int32} {x3 : Int32} {w : Int32} {R' : zR} {I' : zI} {J' : zJ} (hR : zRok R) (ho : (c = 7 ∧ g = 19) ∨ (c = 7 ∧ g = 34) ∨ (c = 22 ∧ g = 19) ∨ (c = 22 ∧ g = 34)) (hc : zEv X d zm_23 (0, [some (.ref 196), none, none], [], (zS0, R, I, J)) (some (.int w), (zS0, R', I', J'))) (k1 : zEv X (d + 1) zm_138 (55, [some (.ref 0), some (.int x1), some (.int x2), some (.int x3), some (.ref c), some (.ref g)], [.int w], (zS0, R', I', J')) r) : zEv X (d + 1) zm_138 (48, [some (.ref 0), some (.int x1), some (.int x2), some (.int x3), some (.ref c), some (.ref g)], [], (zS0, R, I, J)) r := by
  rcases ho with ⟨rfl, rfl⟩ | ⟨rfl, rfl⟩ | ⟨rfl, rfl⟩ | ⟨rfl, rfl⟩
  · refine zEv_k 1 (f' := (49, [some (.ref 0), some (.int x1), some (.int x2), some (.int x3), some (.ref 7), some (.ref 19)], [.ref 0], (zS0, R, I, J))) rfl ?_
    refine zEv_gr rfl rfl rfl (by decide) (hR (0) 8 (196) rfl) ?_
    exact zEv_c (fun _ => rfl) rfl hc rfl rfl k1
  · refine zEv_k 1 (f' := (49, [some (.ref 0), some (.int x1), some (.int x2), some (.int x3), some (.ref 7), some (.ref 34)], [.ref 0], (zS0, R, I, J))) rfl ?_
    refine zEv_gr rfl rfl rfl (by decide) (hR (0) 8 (196) rfl) ?_
    exact zEv_c (fun _ => rfl) rfl hc rfl rfl k1
  · refine zEv_k 1 (f' := (49, [some (.ref 0), some (.int x1), some (.int x2), some (.int x3), some (.ref 22), some (.ref 19)], [.ref 0], (zS0, R, I, J))) rfl ?_
    refine zEv_gr rfl rfl rfl (by decide) (hR (0) 8 (196) rfl) ?_
    exact zEv_c (fun _ => rfl) rfl hc rfl rfl k1
  · refine zEv_k 1 (f' := (49, [some (.ref 0), some (.int x1), some (.int x2), some (.int x3), some (.ref 22), some (.ref 34)], [.ref 0], (zS0, R, I, J))) rfl ?_
    refine zEv_gr rfl rfl rfl (by decide) (hR (0) 8 (196) rfl) ?_
    exact zEv_c (fun _ => rfl) rfl hc rfl rfl k1
theorem b_138_55 {X : zX} {d : Nat} {R : zR} {I : zI} {J : zJ} {r : zA} {c : Nat} {g : Nat} {x1 : Int32} {x2 : Int32} {x3 : Int32} {s0 : Int32} (ho : (c = 7 ∧ g = 19) ∨ (c = 7 ∧ g = 34) ∨ (c = 22 ∧ g = 19) ∨ (c = 22 ∧ g = 34)) (k1 : zEv X d zm_138 (65, [some (.ref 0), some (.int x1), some (.int x2), some (.int x3), some (.ref c), some (.ref g)], [.int s0], (zS0, R, I, J)) r) : zEv X d zm_138 (55, [some (.ref 0), some (.int x1), some (.int x2), some (.int x3), some (.ref c), some (.ref g)], [.int s0], (zS0, R, I, J)) r := by
  rcases ho with ⟨rfl, rfl⟩ | ⟨rfl, rfl⟩ | ⟨rfl, rfl⟩ | ⟨rfl, rfl⟩
  · refine zEv_k 1 (f' := (65, [some (.ref 0), some (.int x1), some (.int x2), some (.int x3), some (.ref 7), some (.ref 19)], [.int s0], (zS0, R, I, J))) rfl ?_
    exact k1
  · refine zEv_k 1 (f' := (65, [some (.ref 0), some (.int x1), some (.int x2), some (.int x3), some (.ref 7), some (.ref 34)], [.int s0], (zS0, R, I, J))) rfl ?_
    exact k1
  · refine zEv_k 1 (f' := (65, [some (.ref 0), some (.int x1), some (.int x2), some (.int x3), some (.ref 22), some (.ref 19)], [.int s0], (zS0, R, I, J))) rfl ?_
    exact k1
  · refine zEv_k 1 (f' := (65, [some (.ref 0), some (.int x1), some (.int x2), some (.int x3), some (.ref 22), some (.ref 34)], [.int s0], (zS0, R, I, J))) rfl ?_
    exact k1
theorem b_138_58 {X : zX} {d : Nat} {R : zR} {I : zI} {J : zJ} {r : zA} {c : Nat} {g : Nat} {x1 : Int32} {x2 : Int32} {x3 : Int32} {w : Int32} {R' : zR} {I' : zI} {J' : zJ} (hR : zRok R) (ho : (c = 7 ∧ g = 19) ∨ (c = 7 ∧ g = 34) ∨ (c = 22 ∧ g = 19) ∨ (c = 22 ∧ g = 34)) (hc : zEv X d zm_22 (0, [some (.ref 196), none, none], [], (zS0, R, I, J)) (some (.int w), (zS0, R', I', J'))) (k1 : zEv X (d + 1) zm_138 (65, [some (.ref 0), some (.int x1), some (.int x2), some (.int x3), some (.ref c), some (.ref g)], [.int w], (zS0, R', I', J')) r) : zEv X (d + 1) zm_138 (58, [some (.ref 0), some (.int x1), some (.int x2), some (.int x3), some (.ref c), some (.ref g)], [], (zS0, R, I, J)) r := by
  rcases ho with ⟨rfl, rfl⟩ | ⟨rfl, rfl⟩ | ⟨rfl, rfl⟩ | ⟨rfl, rfl⟩
  · refine zEv_k 1 (f' := (59, [some (.ref 0), some (.int x1), some (.int x2), some (.int x3), some (.ref 7), some (.ref 19)], [.ref 0], (zS0, R, I, J))) rfl ?_
    refine zEv_gr rfl rfl rfl (by decide) (hR (0) 8 (196) rfl) ?_
    exact zEv_c (fun _ => rfl) rfl hc rfl rfl k1
  · refine zEv_k 1 (f' := (59, [some (.ref 0), some (.int x1), some (.int x2), some (.int x3), some (.ref 7), some (.ref 34)], [.ref 0], (zS0, R, I, J))) rfl ?_
    refine zEv_gr rfl rfl rfl (by decide) (hR (0) 8 (196) rfl) ?_
    exact zEv_c (fun _ => rfl) rfl hc rfl rfl k1
  · refine zEv_k 1 (f' := (59, [some (.ref 0), some (.int x1), some (.int x2), some (.int x3), some (.ref 22), some (.ref 19)], [.ref 0], (zS0, R, I, J))) rfl ?_
    refine zEv_gr rfl rfl rfl (by decide) (hR (0) 8 (196) rfl) ?_
    exact zEv_c (fun _ => rfl) rfl hc rfl rfl k1
  · refine zEv_k 1 (f' := (59, [some (.ref 0), some (.int x1), some (.int x2), some (.int x3), some (.ref 22), some (.ref 34)], [.ref 0], (zS0, R, I, J))) rfl ?_
    refine zEv_gr rfl rfl rfl (by decide) (hR (0) 8 (196) rfl) ?_
    exact zEv_c (fun _ => rfl) rfl hc rfl rfl k1
theorem b_138_65 {X : zX} {d : Nat} {R : zR} {I : zI} {J : zJ} {c : Nat} {g : Nat} {x1 : Int32} {x2 : Int32} {x3 : Int32} {s0 : Int32} (ho : (c = 7 ∧ g = 19) ∨ (c = 7 ∧ g = 34) ∨ (c = 22 ∧ g = 19) ∨ (c = 22 ∧ g = 34)) : zEv X d zm_138 (65, [some (.ref 0), some (.int x1), some (.int x2), some (.int x3), some (.ref c), some (.ref g)], [.int s0], (zS0, R, I, J)) (some (.int s0), (zS0, R, I, J)) := by
  rcases ho with ⟨rfl, rfl⟩ | ⟨rfl, rfl⟩ | ⟨rfl, rfl⟩ | ⟨rfl, rfl⟩
  · exact zEv_r rfl
  · exact zEv_r rfl
  · exact zEv_r rfl
  · exact zEv_r rfl
theorem b_139_0 {X : zX} {d : Nat} {R : zR} {I : zI} {J : zJ} {r : zA} {x1 : Int32} (k1 : x1 < 0 → zEv X d zm_139 (21, [some (.ref 0), some (.int x1)], [], (zS0, R, I, J)) r) (k2 : ¬ (x1 < 0) → zEv X d zm_139 (4, [some (.ref 0), some (.int x1)], [], (zS0, R, I, J)) r) : zEv X d zm_139 (0, [some (.ref 0), some (.int x1)], [], (zS0, R, I, J)) r := by
  refine zEv_k 2 (f' := (if x1 < 0 then 21 else 4, [some (.ref 0), some (.int x1)], [], (zS0, R, I, J))) rfl ?_
  exact zEv_if k1 k2
theorem b_139_4 {X : zX} {d : Nat} {R : zR} {I : zI} {J : zJ} {r : zA} {x1 : Int32} (k1 : 3 ≤ x1 → zEv X d zm_139 (21, [some (.ref 0), some (.int x1)], [], (zS0, R, I, J)) r) (k2 : ¬ (3 ≤ x1) → zEv X d zm_139 (9, [some (.ref 0), some (.int x1)], [], (zS0, R, I, J)) r) : zEv X d zm_139 (4, [some (.ref 0), some (.int x1)], [], (zS0, R, I, J)) r := by
  refine zEv_k 3 (f' := (if 3 ≤ x1 then 21 else 9, [some (.ref 0), some (.int x1)], [], (zS0, R, I, J))) rfl ?_
  exact zEv_if k1 k2
theorem b_139_9 {X : zX} {d : Nat} {R : zR} {I : zI} {J : zJ} {x1 : Int32} (hR : zRok R) (h17 : zin x1 3) : zEv X d zm_139 (9, [some (.ref 0), some (.int x1)], [], (zS0, R, I, J)) (some (.int (I 3 (x1).toNatClampNeg)), (zS0, R, I, J)) := by
  refine zEv_k 1 (f' := (10, [some (.ref 0), some (.int x1)], [.ref 0], (zS0, R, I, J))) rfl ?_
  refine zEv_gr rfl rfl rfl (by decide) (hR (0) 0 (1) rfl) ?_
  refine zEv_gr rfl rfl rfl (by decide) (hR (1) 4 (3) rfl) ?_
  refine zEv_k 1 (f' := (17, [some (.ref 0), some (.int x1)], [.int x1, .ref 3], (zS0, R, I, J))) rfl ?_
  refine zEv_ial rfl rfl (by decide) h17 ?_
  refine zEv_k 1 (f' := (23, [some (.ref 0), some (.int x1)], [.int (I 3 (x1).toNatClampNeg)], (zS0, R, I, J))) rfl ?_
  exact zEv_r rfl
theorem b_139_21 {X : zX} {d : Nat} {R : zR} {I : zI} {J : zJ} {x1 : Int32} : zEv X d zm_139 (21, [some (.ref 0), some (.int x1)], [], (zS0, R, I, J)) (some (.int (-2)), (zS0, R, I, J)) := by
  refine zEv_k 1 (f' := (23, [some (.ref 0), some (.int x1)], [.int (-2)], (zS0, R, I, J))) rfl ?_
  exact zEv_r rfl
theorem b_140_0 {X : zX} {d : Nat} {R : zR} {I : zI} {J : zJ} {r : zA} {x1 : Int32} (k1 : x1 < 0 → zEv X d zm_140 (9, [some (.ref 0), some (.int x1)], [], (zS0, R, I, J)) r) (k2 : ¬ (x1 < 0) → zEv X d zm_140 (4, [some (.ref 0), some (.int x1)], [], (zS0, R, I, J)) r) : zEv X d zm_140 (0, [some (.ref 0), some (.int x1)], [], (zS0, R, I, J)) r := by
  refine zEv_k 2 (f' := (if x1 < 0 then 9 else 4, [some (.ref 0), some (.int x1)], [], (zS0, R, I, J))) rfl ?_
  exact zEv_if k1 k2
theorem b_140_4 {X : zX} {d : Nat} {R : zR} {I : zI} {J : zJ} {r : zA} {x1 : Int32} (k1 : x1 < 3 → zEv X d zm_140 (11, [some (.ref 0), some (.int x1)], [], (zS0, R, I, J)) r) (k2 : ¬ (x1 < 3) → zEv X d zm_140 (9, [some (.ref 0), some (.int x1)], [], (zS0, R, I, J)) r) : zEv X d zm_140 (4, [some (.ref 0), some (.int x1)], [], (zS0, R, I, J)) r := by
  refine zEv_k 3 (f' := (if x1 < 3 then 11 else 9, [some (.ref 0), some (.int x1)], [], (zS0, R, I, J))) rfl ?_
  exact zEv_if k1 k2
theorem b_140_9 {X : zX} {d : Nat} {R : zR} {I : zI} {J : zJ} {x1 : Int32} : zEv X d zm_140 (9, [some (.ref 0), some (.int x1)], [], (zS0, R, I, J)) (some (.int 0), (zS0, R, I, J)) := by
  refine zEv_k 1 (f' := (10, [some (.ref 0), some (.int x1)], [.int 0], (zS0, R, I, J))) rfl ?_
  exact zEv_r rfl
theorem b_140_11 {X : zX} {d : Nat} {R : zR} {I : zI} {J : zJ} {r : zA} {o2 : Nat} {x1 : Int32} {R' : zR} {I' : zI} {J' : zJ} (hR : zRok R) (ho : o2 = 38 ∨ o2 = 74 ∨ o2 = 110) (h16 : zin x1 3) (w16 : (x1 = 0 ∧ o2 = 38) ∨ (x1 = 1 ∧ o2 = 74) ∨ (x1 = 2 ∧ o2 = 110)) (hc : zEv X d zm_93 (0, [some (.ref o2), some (.ref 1), none], [], (zS0, R, I, J)) (none, (zS0, R', I', J'))) (k1 : zEv X (d + 1) zm_140 (24, [some (.ref 0), some (.int x1)], [], (zS0, R', I', J')) r) : zEv X (d + 1) zm_140 (11, [some (.ref 0), some (.int x1)], [], (zS0, R, I, J)) r := by
  rcases ho with rfl | rfl | rfl
  · refine zEv_k 1 (f' := (12, [some (.ref 0), some (.int x1)], [.ref 0], (zS0, R, I, J))) rfl ?_
    refine zEv_gr rfl rfl rfl (by decide) (hR (0) 1 (37) rfl) ?_
    refine zEv_k 1 (f' := (16, [some (.ref 0), some (.int x1)], [.int x1, .ref 37], (zS0, R, I, J))) rfl ?_
    refine zEv_aal (b := 38) rfl rfl (by decide) h16 (by rcases w16 with ⟨e1, e2⟩ | ⟨e1, e2⟩ | ⟨e1, e2⟩ <;> first | exact absurd e2 (by decide) | (rw [e1]; exact hR (37) _ (38) rfl)) ?_
    refine zEv_k 1 (f' := (18, [some (.ref 0), some (.int x1)], [.ref 0, .ref 38], (zS0, R, I, J))) rfl ?_
    refine zEv_gr rfl rfl rfl (by decide) (hR (0) 0 (1) rfl) ?_
    exact zEv_c (fun _ => rfl) rfl hc rfl rfl k1
  · refine zEv_k 1 (f' := (12, [some (.ref 0), some (.int x1)], [.ref 0], (zS0, R, I, J))) rfl ?_
    refine zEv_gr rfl rfl rfl (by decide) (hR (0) 1 (37) rfl) ?_
    refine zEv_k 1 (f' := (16, [some (.ref 0), some (.int x1)], [.int x1, .ref 37], (zS0, R, I, J))) rfl ?_
    refine zEv_aal (b := 74) rfl rfl (by decide) h16 (by rcases w16 with ⟨e1, e2⟩ | ⟨e1, e2⟩ | ⟨e1, e2⟩ <;> first | exact absurd e2 (by decide) | (rw [e1]; exact hR (37) _ (74) rfl)) ?_
    refine zEv_k 1 (f' := (18, [some (.ref 0), some (.int x1)], [.ref 0, .ref 74], (zS0, R, I, J))) rfl ?_
    refine zEv_gr rfl rfl rfl (by decide) (hR (0) 0 (1) rfl) ?_
    exact zEv_c (fun _ => rfl) rfl hc rfl rfl k1
  · refine zEv_k 1 (f' := (12, [some (.ref 0), some (.int x1)], [.ref 0], (zS0, R, I, J))) rfl ?_
    refine zEv_gr rfl rfl rfl (by decide) (hR (0) 1 (37) rfl) ?_
    refine zEv_k 1 (f' := (16, [some (.ref 0), some (.int x1)], [.int x1, .ref 37], (zS0, R, I, J))) rfl ?_
    refine zEv_aal (b := 110) rfl rfl (by decide) h16 (by rcases w16 with ⟨e1, e2⟩ | ⟨e1, e2⟩ | ⟨e1, e2⟩ <;> first | exact absurd e2 (by decide) | (rw [e1]; exact hR (37) _ (110) rfl)) ?_
    refine zEv_k 1 (f' := (18, [some (.ref 0), some (.int x1)], [.ref 0, .ref 110], (zS0, R, I, J))) rfl ?_
    refine zEv_gr rfl rfl rfl (by decide) (hR (0) 0 (1) rfl) ?_
    exact zEv_c (fun _ => rfl) rfl hc rfl rfl k1
theorem b_140_24 {X : zX} {d : Nat} {R : zR} {I : zI} {J : zJ} {x1 : Int32} (hR : zRok R) (h30 : zin x1 3) : zEv X d zm_140 (24, [some (.ref 0), some (.int x1)], [], (zS0, R, I, J)) (some (.int 1), (zS0, R, zu I 146 (x1).toNatClampNeg (vp_nar .boolean 1), J)) := by
  refine zEv_k 1 (f' := (25, [some (.ref 0), some (.int x1)], [.ref 0], (zS0, R, I, J))) rfl ?_
  refine zEv_gr rfl rfl rfl (by decide) (hR (0) 2 (146) rfl) ?_
  refine zEv_k 2 (f' := (30, [some (.ref 0), some (.int x1)], [.int 1, .int x1, .ref 146], (zS0, R, I, J))) rfl ?_
  refine zEv_zas rfl rfl (by decide) h30 ?_
  refine zEv_k 1 (f' := (32, [some (.ref 0), some (.int x1)], [.int 1], (zS0, R, zu I 146 (x1).toNatClampNeg (vp_nar .boolean 1), J))) rfl ?_
  exact zEv_r rfl
theorem b_141_0 {X : zX} {d : Nat} {R : zR} {I : zI} {J : zJ} {r : zA} {x1 : Int32} (k1 : x1 < 0 → zEv X d zm_141 (18, [some (.ref 0), some (.int x1)], [], (zS0, R, I, J)) r) (k2 : ¬ (x1 < 0) → zEv X d zm_141 (4, [some (.ref 0), some (.int x1)], [], (zS0, R, I, J)) r) : zEv X d zm_141 (0, [some (.ref 0), some (.int x1)], [], (zS0, R, I, J)) r := by
  refine zEv_k 2 (f' := (if x1 < 0 then 18 else 4, [some (.ref 0), some (.int x1)], [], (zS0, R, I, J))) rfl ?_
  exact zEv_if k1 k2
theorem b_141_4 {X : zX} {d : Nat} {R : zR} {I : zI} {J : zJ} {r : zA} {x1 : Int32} (k1 : 3 ≤ x1 → zEv X d zm_141 (18, [some (.ref 0), some (.int x1)], [], (zS0, R, I, J)) r) (k2 : ¬ (3 ≤ x1) → zEv X d zm_141 (9, [some (.ref 0), some (.int x1)], [], (zS0, R, I, J)) r) : zEv X d zm_141 (4, [some (.ref 0), some (.int x1)], [], (zS0, R, I, J)) r := by
  refine zEv_k 3 (f' := (if 3 ≤ x1 then 18 else 9, [some (.ref 0), some (.int x1)], [], (zS0, R, I, J))) rfl ?_
  exact zEv_if k1 k2
theorem b_141_9 {X : zX} {d : Nat} {R : zR} {I : zI} {J : zJ} {r : zA} {x1 : Int32} (hR : zRok R) (h14 : zin x1 3) (k1 : ¬ (I 146 (x1).toNatClampNeg) = 0 → zEv X d zm_141 (20, [some (.ref 0), some (.int x1)], [], (zS0, R, I, J)) r) (k2 : ¬ (¬ (I 146 (x1).toNatClampNeg) = 0) → zEv X d zm_141 (18, [some (.ref 0), some (.int x1)], [], (zS0, R, I, J)) r) : zEv X d zm_141 (9, [some (.ref 0), some (.int x1)], [], (zS0, R, I, J)) r := by
  refine zEv_k 1 (f' := (10, [some (.ref 0), some (.int x1)], [.ref 0], (zS0, R, I, J))) rfl ?_
  refine zEv_gr rfl rfl rfl (by decide) (hR (0) 2 (146) rfl) ?_
  refine zEv_k 1 (f' := (14, [some (.ref 0), some (.int x1)], [.int x1, .ref 146], (zS0, R, I, J))) rfl ?_
  refine zEv_zal rfl rfl (by decide) h14 ?_
  refine zEv_k 1 (f' := (if ¬ (I 146 (x1).toNatClampNeg) = 0 then 20 else 18, [some (.ref 0), some (.int x1)], [], (zS0, R, I, J))) rfl ?_
  exact zEv_if k1 k2
theorem b_141_18 {X : zX} {d : Nat} {R : zR} {I : zI} {J : zJ} {x1 : Int32} : zEv X d zm_141 (18, [some (.ref 0), some (.int x1)], [], (zS0, R, I, J)) (some (.int 0), (zS0, R, I, J)) := by
  refine zEv_k 1 (f' := (19, [some (.ref 0), some (.int x1)], [.int 0], (zS0, R, I, J))) rfl ?_
  exact zEv_r rfl
theorem b_141_20 {X : zX} {d : Nat} {R : zR} {I : zI} {J : zJ} {r : zA} {o2 : Nat} {x1 : Int32} {R' : zR} {I' : zI} {J' : zJ} (hR : zRok R) (ho : o2 = 38 ∨ o2 = 74 ∨ o2 = 110) (h29 : zin x1 3) (w29 : (x1 = 0 ∧ o2 = 38) ∨ (x1 = 1 ∧ o2 = 74) ∨ (x1 = 2 ∧ o2 = 110)) (hc : zEv X d zm_93 (0, [some (.ref 1), some (.ref o2), none], [], (zS0, R, I, J)) (none, (zS0, R', I', J'))) (k1 : zEv X (d + 1) zm_141 (33, [some (.ref 0), some (.int x1)], [], (zS0, R', I', J')) r) : zEv X (d + 1) zm_141 (20, [some (.ref 0), some (.int x1)], [], (zS0, R, I, J)) r := by
  rcases ho with rfl | rfl | rfl
  · refine zEv_k 1 (f' := (21, [some (.ref 0), some (.int x1)], [.ref 0], (zS0, R, I, J))) rfl ?_
    refine zEv_gr rfl rfl rfl (by decide) (hR (0) 0 (1) rfl) ?_
    refine zEv_k 1 (f' := (25, [some (.ref 0), some (.int x1)], [.ref 0, .ref 1], (zS0, R, I, J))) rfl ?_
    refine zEv_gr rfl rfl rfl (by decide) (hR (0) 1 (37) rfl) ?_
    refine zEv_k 1 (f' := (29, [some (.ref 0), some (.int x1)], [.int x1, .ref 37, .ref 1], (zS0, R, I, J))) rfl ?_
    refine zEv_aal (b := 38) rfl rfl (by decide) h29 (by rcases w29 with ⟨e1, e2⟩ | ⟨e1, e2⟩ | ⟨e1, e2⟩ <;> first | exact absurd e2 (by decide) | (rw [e1]; exact hR (37) _ (38) rfl)) ?_
    exact zEv_c (fun _ => rfl) rfl hc rfl rfl k1
  · refine zEv_k 1 (f' := (21, [some (.ref 0), some (.int x1)], [.ref 0], (zS0, R, I, J))) rfl ?_
    refine zEv_gr rfl rfl rfl (by decide) (hR (0) 0 (1) rfl) ?_
    refine zEv_k 1 (f' := (25, [some (.ref 0), some (.int x1)], [.ref 0, .ref 1], (zS0, R, I, J))) rfl ?_
    refine zEv_gr rfl rfl rfl (by decide) (hR (0) 1 (37) rfl) ?_
    refine zEv_k 1 (f' := (29, [some (.ref 0), some (.int x1)], [.int x1, .ref 37, .ref 1], (zS0, R, I, J))) rfl ?_
    refine zEv_aal (b := 74) rfl rfl (by decide) h29 (by rcases w29 with ⟨e1, e2⟩ | ⟨e1, e2⟩ | ⟨e1, e2⟩ <;> first | exact absurd e2 (by decide) | (rw [e1]; exact hR (37) _ (74) rfl)) ?_
    exact zEv_c (fun _ => rfl) rfl hc rfl rfl k1
  · refine zEv_k 1 (f' := (21, [some (.ref 0), some (.int x1)], [.ref 0], (zS0, R, I, J))) rfl ?_
    refine zEv_gr rfl rfl rfl (by decide) (hR (0) 0 (1) rfl) ?_
    refine zEv_k 1 (f' := (25, [some (.ref 0), some (.int x1)], [.ref 0, .ref 1], (zS0, R, I, J))) rfl ?_
    refine zEv_gr rfl rfl rfl (by decide) (hR (0) 1 (37) rfl) ?_
    refine zEv_k 1 (f' := (29, [some (.ref 0), some (.int x1)], [.int x1, .ref 37, .ref 1], (zS0, R, I, J))) rfl ?_
    refine zEv_aal (b := 110) rfl rfl (by decide) h29 (by rcases w29 with ⟨e1, e2⟩ | ⟨e1, e2⟩ | ⟨e1, e2⟩ <;> first | exact absurd e2 (by decide) | (rw [e1]; exact hR (37) _ (110) rfl)) ?_
    exact zEv_c (fun _ => rfl) rfl hc rfl rfl k1
theorem b_141_33 {X : zX} {d : Nat} {R : zR} {I : zI} {J : zJ} {r : zA} {x1 : Int32} {R' : zR} {I' : zI} {J' : zJ} (hc : zEv X d zm_142 (0, [some (.ref 0)], [], (zS0, R, I, J)) (none, (zS0, R', I', J'))) (k1 : zEv X (d + 1) zm_141 (37, [some (.ref 0), some (.int x1)], [], (zS0, R', I', J')) r) : zEv X (d + 1) zm_141 (33, [some (.ref 0), some (.int x1)], [], (zS0, R, I, J)) r := by
  refine zEv_k 1 (f' := (34, [some (.ref 0), some (.int x1)], [.ref 0], (zS0, R, I, J))) rfl ?_
  exact zEv_c (fun _ => rfl) rfl hc rfl rfl k1
theorem b_141_37 {X : zX} {d : Nat} {R : zR} {I : zI} {J : zJ} {x1 : Int32} : zEv X d zm_141 (37, [some (.ref 0), some (.int x1)], [], (zS0, R, I, J)) (some (.int 1), (zS0, R, I, J)) := by
  refine zEv_k 1 (f' := (38, [some (.ref 0), some (.int x1)], [.int 1], (zS0, R, I, J))) rfl ?_
  exact zEv_r rfl
theorem b_142_0 {X : zX} {d : Nat} {R : zR} {I : zI} {J : zJ} {r : zA} {R' : zR} {I' : zI} {J' : zJ} (hR : zRok R) (hc : zEv X d zm_28 (0, [some (.ref 184)], [], (zS0, R, I, J)) (none, (zS0, R', I', J'))) (k1 : zEv X (d + 1) zm_142 (7, [some (.ref 0)], [], (zS0, R', I', J')) r) : zEv X (d + 1) zm_142 (0, [some (.ref 0)], [], (zS0, R, I, J)) r := by
  refine zEv_k 1 (f' := (1, [some (.ref 0)], [.ref 0], (zS0, R, I, J))) rfl ?_
  refine zEv_gr rfl rfl rfl (by decide) (hR (0) 6 (184) rfl) ?_
  exact zEv_c (fun _ => rfl) rfl hc rfl rfl k1
theorem b_142_7 {X : zX} {d : Nat} {R : zR} {I : zI} {J : zJ} {r : zA} {R' : zR} {I' : zI} {J' : zJ} (hR : zRok R) (hc : zEv X d zm_15 (0, [some (.ref 196), none], [], (zS0, R, I, J)) (none, (zS0, R', I', J'))) (k1 : zEv X (d + 1) zm_142 (14, [some (.ref 0)], [], (zS0, R', I', J')) r) : zEv X (d + 1) zm_142 (7, [some (.ref 0)], [], (zS0, R, I, J)) r := by
  refine zEv_k 1 (f' := (8, [some (.ref 0)], [.ref 0], (zS0, R, I, J))) rfl ?_
  refine zEv_gr rfl rfl rfl (by decide) (hR (0) 8 (196) rfl) ?_
  exact zEv_c (fun _ => rfl) rfl hc rfl rfl k1
theorem b_142_14 {X : zX} {d : Nat} {R : zR} {I : zI} {J : zJ}  : zEv X d zm_142 (14, [some (.ref 0)], [], (zS0, R, I, J)) (none, (zS0, R, I, J)) := by
  exact zEv_r rfl
theorem b_143_0 {X : zX} {d : Nat} {R : zR} {I : zI} {J : zJ} {r : zA} {c : Nat} {x2 : Int32} {R' : zR} {I' : zI} {J' : zJ} (hR : zRok R) (ho : c = 7 ∨ c = 22) (hc : zEv X d zm_70 (0, [some (.ref 166), some (.ref c), none], [], (zS0, R, I, J)) (none, (zS0, R', I', J'))) (k1 : zEv X (d + 1) zm_143 (8, [some (.ref 0), some (.ref c), some (.int x2), none, none, none, none], [], (zS0, R', I', J')) r) : zEv X (d + 1) zm_143 (0, [some (.ref 0), some (.ref c), some (.int x2), none, none, none, none], [], (zS0, R, I, J)) r := by
  rcases ho with rfl | rfl
  · refine zEv_k 1 (f' := (1, [some (.ref 0), some (.ref 7), some (.int x2), none, none, none, none], [.ref 0], (zS0, R, I, J))) rfl ?_
    refine zEv_gr rfl rfl rfl (by decide) (hR (0) 4 (166) rfl) ?_
    refine zEv_k 1 (f' := (5, [some (.ref 0), some (.ref 7), some (.int x2), none, none, none, none], [.ref 7, .ref 166], (zS0, R, I, J))) rfl ?_
    exact zEv_c (fun _ => rfl) rfl hc rfl rfl k1
  · refine zEv_k 1 (f' := (1, [some (.ref 0), some (.ref 22), some (.int x2), none, none, none, none], [.ref 0], (zS0, R, I, J))) rfl ?_
    refine zEv_gr rfl rfl rfl (by decide) (hR (0) 4 (166) rfl) ?_
    refine zEv_k 1 (f' := (5, [some (.ref 0), some (.ref 22), some (.int x2), none, none, none, none], [.ref 22, .ref 166], (zS0, R, I, J))) rfl ?_
    exact zEv_c (fun _ => rfl) rfl hc rfl rfl k1
theorem b_143_8 {X : zX} {d : Nat} {R : zR} {I : zI} {J : zJ} {r : zA} {c : Nat} {x2 : Int32} {R' : zR} {I' : zI} {J' : zJ} (hR : zRok R) (ho : c = 7 ∨ c = 22) (hc : zEv X d zm_73 (0, [some (.ref 166), some (.int 50), none], [], (zS0, R, I, J)) (none, (zS0, R', I', J'))) (k1 : zEv X (d + 1) zm_143 (17, [some (.ref 0), some (.ref c), some (.int x2), none, none, none, none], [], (zS0, R', I', J')) r) : zEv X (d + 1) zm_143 (8, [some (.ref 0), some (.ref c), some (.int x2), none, none, none, none], [], (zS0, R, I, J)) r := by
  rcases ho with rfl | rfl
  · refine zEv_k 1 (f' := (9, [some (.ref 0), some (.ref 7), some (.int x2), none, none, none, none], [.ref 0], (zS0, R, I, J))) rfl ?_
    refine zEv_gr rfl rfl rfl (by decide) (hR (0) 4 (166) rfl) ?_
    refine zEv_k 1 (f' := (14, [some (.ref 0), some (.ref 7), some (.int x2), none, none, none, none], [.int 50, .ref 166], (zS0, R, I, J))) rfl ?_
    exact zEv_c (fun _ => rfl) rfl hc rfl rfl k1
  · refine zEv_k 1 (f' := (9, [some (.ref 0), some (.ref 22), some (.int x2), none, none, none, none], [.ref 0], (zS0, R, I, J))) rfl ?_
    refine zEv_gr rfl rfl rfl (by decide) (hR (0) 4 (166) rfl) ?_
    refine zEv_k 1 (f' := (14, [some (.ref 0), some (.ref 22), some (.int x2), none, none, none, none], [.int 50, .ref 166], (zS0, R, I, J))) rfl ?_
    exact zEv_c (fun _ => rfl) rfl hc rfl rfl k1
theorem b_143_17 {X : zX} {d : Nat} {R : zR} {I : zI} {J : zJ} {r : zA} {c : Nat} {x2 : Int32} (ho : c = 7 ∨ c = 22) (k1 : zEv X d zm_143 (28, [some (.ref 0), some (.ref c), some (.int x2), some (.int 0), some (.int (-1)), some (.int 0), some (.int 1)], [], (zS0, R, I, J)) r) : zEv X d zm_143 (17, [some (.ref 0), some (.ref c), some (.int x2), none, none, none, none], [], (zS0, R, I, J)) r := by
  rcases ho with rfl | rfl
  · refine zEv_k 8 (f' := (28, [some (.ref 0), some (.ref 7), some (.int x2), some (.int 0), some (.int (-1)), some (.int 0), some (.int 1)], [], (zS0, R, I, J))) rfl ?_
    exact k1
  · refine zEv_k 8 (f' := (28, [some (.ref 0), some (.ref 22), some (.int x2), some (.int 0), some (.int (-1)), some (.int 0), some (.int 1)], [], (zS0, R, I, J))) rfl ?_
    exact k1
theorem b_143_28 {X : zX} {d : Nat} {R : zR} {I : zI} {J : zJ} {r : zA} {c : Nat} {x2 : Int32} {x3 : Int32} {x4 : Int32} {x5 : Int32} {x6 : Int32} (ho : c = 7 ∨ c = 22) (k1 : 50 < x6 → zEv X d zm_143 (82, [some (.ref 0), some (.ref c), some (.int x2), some (.int x3), some (.int x4), some (.int x5), some (.int x6)], [], (zS0, R, I, J)) r) (k2 : ¬ (50 < x6) → zEv X d zm_143 (35, [some (.ref 0), some (.ref c), some (.int x2), some (.int x3), some (.int x4), some (.int x5), some (.int x6)], [], (zS0, R, I, J)) r) : zEv X d zm_143 (28, [some (.ref 0), some (.ref c), some (.int x2), some (.int x3), some (.int x4), some (.int x5), some (.int x6)], [], (zS0, R, I, J)) r := by
  rcases ho with rfl | rfl
  · refine zEv_k 3 (f' := (if 50 < x6 then 82 else 35, [some (.ref 0), some (.ref 7), some (.int x2), some (.int x3), some (.int x4), some (.int x5), some (.int x6)], [], (zS0, R, I, J))) rfl ?_
    exact zEv_if k1 k2
  · refine zEv_k 3 (f' := (if 50 < x6 then 82 else 35, [some (.ref 0), some (.ref 22), some (.int x2), some (.int x3), some (.int x4), some (.int x5), some (.int x6)], [], (zS0, R, I, J))) rfl ?_
    exact zEv_if k1 k2
theorem b_143_35 {X : zX} {d : Nat} {R : zR} {I : zI} {J : zJ} {r : zA} {c : Nat} {x2 : Int32} {x3 : Int32} {x4 : Int32} {x5 : Int32} {x6 : Int32} (hR : zRok R) (ho : c = 7 ∨ c = 22) (h44 : zin x6 51) (k1 : ¬ (I 167 (x6).toNatClampNeg) = 0 → zEv X d zm_143 (55, [some (.ref 0), some (.ref c), some (.int x2), some (.int x3), some (.int x4), some (.int x5), some (.int x6)], [], (zS0, R, I, J)) r) (k2 : ¬ (¬ (I 167 (x6).toNatClampNeg) = 0) → zEv X d zm_143 (48, [some (.ref 0), some (.ref c), some (.int x2), some (.int x3), some (.int x4), some (.int x5), some (.int x6)], [], (zS0, R, I, J)) r) : zEv X d zm_143 (35, [some (.ref 0), some (.ref c), some (.int x2), some (.int x3), some (.int x4), some (.int x5), some (.int x6)], [], (zS0, R, I, J)) r := by
  rcases ho with rfl | rfl
  · refine zEv_k 1 (f' := (36, [some (.ref 0), some (.ref 7), some (.int x2), some (.int x3), some (.int x4), some (.int x5), some (.int x6)], [.ref 0], (zS0, R, I, J))) rfl ?_
    refine zEv_gr rfl rfl rfl (by decide) (hR (0) 4 (166) rfl) ?_
    refine zEv_gr rfl rfl rfl (by decide) (hR (166) 5 (167) rfl) ?_
    refine zEv_k 1 (f' := (44, [some (.ref 0), some (.ref 7), some (.int x2), some (.int x3), some (.int x4), some (.int x5), some (.int x6)], [.int x6, .ref 167], (zS0, R, I, J))) rfl ?_
    refine zEv_ial rfl rfl (by decide) h44 ?_
    refine zEv_k 1 (f' := (if ¬ (I 167 (x6).toNatClampNeg) = 0 then 55 else 48, [some (.ref 0), some (.ref 7), some (.int x2), some (.int x3), some (.int x4), some (.int x5), some (.int x6)], [], (zS0, R, I, J))) rfl ?_
    exact zEv_if k1 k2
  · refine zEv_k 1 (f' := (36, [some (.ref 0), some (.ref 22), some (.int x2), some (.int x3), some (.int x4), some (.int x5), some (.int x6)], [.ref 0], (zS0, R, I, J))) rfl ?_
    refine zEv_gr rfl rfl rfl (by decide) (hR (0) 4 (166) rfl) ?_
    refine zEv_gr rfl rfl rfl (by decide) (hR (166) 5 (167) rfl) ?_
    refine zEv_k 1 (f' := (44, [some (.ref 0), some (.ref 22), some (.int x2), some (.int x3), some (.int x4), some (.int x5), some (.int x6)], [.int x6, .ref 167], (zS0, R, I, J))) rfl ?_
    refine zEv_ial rfl rfl (by decide) h44 ?_
    refine zEv_k 1 (f' := (if ¬ (I 167 (x6).toNatClampNeg) = 0 then 55 else 48, [some (.ref 0), some (.ref 22), some (.int x2), some (.int x3), some (.int x4), some (.int x5), some (.int x6)], [], (zS0, R, I, J))) rfl ?_
    exact zEv_if k1 k2
theorem b_143_48 {X : zX} {d : Nat} {R : zR} {I : zI} {J : zJ} {r : zA} {c : Nat} {x2 : Int32} {x3 : Int32} {x4 : Int32} {x5 : Int32} {x6 : Int32} (ho : c = 7 ∨ c = 22) (k1 : zEv X d zm_143 (56, [some (.ref 0), some (.ref c), some (.int x2), some (.int x3), some (.int x4), some (.int x5), some (.int x6)], [.int (x5 + 1)], (zS0, R, I, J)) r) : zEv X d zm_143 (48, [some (.ref 0), some (.ref c), some (.int x2), some (.int x3), some (.int x4), some (.int x5), some (.int x6)], [], (zS0, R, I, J)) r := by
  rcases ho with rfl | rfl
  · refine zEv_k 4 (f' := (56, [some (.ref 0), some (.ref 7), some (.int x2), some (.int x3), some (.int x4), some (.int x5), some (.int x6)], [.int (x5 + 1)], (zS0, R, I, J))) rfl ?_
    exact k1
  · refine zEv_k 4 (f' := (56, [some (.ref 0), some (.ref 22), some (.int x2), some (.int x3), some (.int x4), some (.int x5), some (.int x6)], [.int (x5 + 1)], (zS0, R, I, J))) rfl ?_
    exact k1
theorem b_143_55 {X : zX} {d : Nat} {R : zR} {I : zI} {J : zJ} {r : zA} {c : Nat} {x2 : Int32} {x3 : Int32} {x4 : Int32} {x5 : Int32} {x6 : Int32} (ho : c = 7 ∨ c = 22) (k1 : zEv X d zm_143 (56, [some (.ref 0), some (.ref c), some (.int x2), some (.int x3), some (.int x4), some (.int x5), some (.int x6)], [.int 0], (zS0, R, I, J)) r) : zEv X d zm_143 (55, [some (.ref 0), some (.ref c), some (.int x2), some (.int x3), some (.int x4), some (.int x5), some (.int x6)], [], (zS0, R, I, J)) r := by
  rcases ho with rfl | rfl
  · refine zEv_k 1 (f' := (56, [some (.ref 0), some (.ref 7), some (.int x2), some (.int x3), some (.int x4), some (.int x5), some (.int x6)], [.int 0], (zS0, R, I, J))) rfl ?_
    exact k1
  · refine zEv_k 1 (f' := (56, [some (.ref 0), some (.ref 22), some (.int x2), some (.int x3), some (.int x4), some (.int x5), some (.int x6)], [.int 0], (zS0, R, I, J))) rfl ?_
    exact k1
theorem b_143_56 {X : zX} {d : Nat} {R : zR} {I : zI} {J : zJ} {r : zA} {c : Nat} {x2 : Int32} {x3 : Int32} {x4 : Int32} {x5 : Int32} {x6 : Int32} {s0 : Int32} (ho : c = 7 ∨ c = 22) (k1 : s0 ≤ x3 → zEv X d zm_143 (76, [some (.ref 0), some (.ref c), some (.int x2), some (.int x3), some (.int x4), some (.int s0), some (.int x6)], [], (zS0, R, I, J)) r) (k2 : ¬ (s0 ≤ x3) → zEv X d zm_143 (64, [some (.ref 0), some (.ref c), some (.int x2), some (.int x3), some (.int x4), some (.int s0), some (.int x6)], [], (zS0, R, I, J)) r) : zEv X d zm_143 (56, [some (.ref 0), some (.ref c), some (.int x2), some (.int x3), some (.int x4), some (.int x5), some (.int x6)], [.int s0], (zS0, R, I, J)) r := by
  rcases ho with rfl | rfl
  · refine zEv_k 4 (f' := (if s0 ≤ x3 then 76 else 64, [some (.ref 0), some (.ref 7), some (.int x2), some (.int x3), some (.int x4), some (.int s0), some (.int x6)], [], (zS0, R, I, J))) rfl ?_
    exact zEv_if k1 k2
  · refine zEv_k 4 (f' := (if s0 ≤ x3 then 76 else 64, [some (.ref 0), some (.ref 22), some (.int x2), some (.int x3), some (.int x4), some (.int s0), some (.int x6)], [], (zS0, R, I, J))) rfl ?_
    exact zEv_if k1 k2
theorem b_143_64 {X : zX} {d : Nat} {R : zR} {I : zI} {J : zJ} {r : zA} {c : Nat} {x2 : Int32} {x3 : Int32} {x4 : Int32} {x5 : Int32} {x6 : Int32} (ho : c = 7 ∨ c = 22) (k1 : zEv X d zm_143 (76, [some (.ref 0), some (.ref c), some (.int x2), some (.int x5), some (.int ((x6 - x5) + 1)), some (.int x5), some (.int x6)], [], (zS0, R, I, J)) r) : zEv X d zm_143 (64, [some (.ref 0), some (.ref c), some (.int x2), some (.int x3), some (.int x4), some (.int x5), some (.int x6)], [], (zS0, R, I, J)) r := by
  rcases ho with rfl | rfl
  · refine zEv_k 8 (f' := (76, [some (.ref 0), some (.ref 7), some (.int x2), some (.int x5), some (.int ((x6 - x5) + 1)), some (.int x5), some (.int x6)], [], (zS0, R, I, J))) rfl ?_
    exact k1
  · refine zEv_k 8 (f' := (76, [some (.ref 0), some (.ref 22), some (.int x2), some (.int x5), some (.int ((x6 - x5) + 1)), some (.int x5), some (.int x6)], [], (zS0, R, I, J))) rfl ?_
    exact k1
theorem b_143_76 {X : zX} {d : Nat} {R : zR} {I : zI} {J : zJ} {r : zA} {c : Nat} {x2 : Int32} {x3 : Int32} {x4 : Int32} {x5 : Int32} {x6 : Int32} (ho : c = 7 ∨ c = 22) (k1 : zEv X d zm_143 (28, [some (.ref 0), some (.ref c), some (.int x2), some (.int x3), some (.int x4), some (.int x5), some (.int (x6 + 1))], [], (zS0, R, I, J)) r) : zEv X d zm_143 (76, [some (.ref 0), some (.ref c), some (.int x2), some (.int x3), some (.int x4), some (.int x5), some (.int x6)], [], (zS0, R, I, J)) r := by
  rcases ho with rfl | rfl
  · refine zEv_k 2 (f' := (28, [some (.ref 0), some (.ref 7), some (.int x2), some (.int x3), some (.int x4), some (.int x5), some (.int (x6 + 1))], [], (zS0, R, I, J))) rfl ?_
    exact k1
  · refine zEv_k 2 (f' := (28, [some (.ref 0), some (.ref 22), some (.int x2), some (.int x3), some (.int x4), some (.int x5), some (.int (x6 + 1))], [], (zS0, R, I, J))) rfl ?_
    exact k1
theorem b_143_82 {X : zX} {d : Nat} {R : zR} {I : zI} {J : zJ} {r : zA} {c : Nat} {x2 : Int32} {x3 : Int32} {x4 : Int32} {x5 : Int32} {x6 : Int32} (ho : c = 7 ∨ c = 22) (k1 : x2 = 0 → zEv X d zm_143 (91, [some (.ref 0), some (.ref c), some (.int x2), some (.int x3), some (.int x4), some (.int x5), some (.int x6)], [], (zS0, R, I, J)) r) (k2 : ¬ (x2 = 0) → zEv X d zm_143 (86, [some (.ref 0), some (.ref c), some (.int x2), some (.int x3), some (.int x4), some (.int x5), some (.int x6)], [], (zS0, R, I, J)) r) : zEv X d zm_143 (82, [some (.ref 0), some (.ref c), some (.int x2), some (.int x3), some (.int x4), some (.int x5), some (.int x6)], [], (zS0, R, I, J)) r := by
  rcases ho with rfl | rfl
  · refine zEv_k 2 (f' := (if x2 = 0 then 91 else 86, [some (.ref 0), some (.ref 7), some (.int x2), some (.int x3), some (.int x4), some (.int x5), some (.int x6)], [], (zS0, R, I, J))) rfl ?_
    exact zEv_if k1 k2
  · refine zEv_k 2 (f' := (if x2 = 0 then 91 else 86, [some (.ref 0), some (.ref 22), some (.int x2), some (.int x3), some (.int x4), some (.int x5), some (.int x6)], [], (zS0, R, I, J))) rfl ?_
    exact zEv_if k1 k2
theorem b_143_86 {X : zX} {d : Nat} {R : zR} {I : zI} {J : zJ} {c : Nat} {x2 : Int32} {x3 : Int32} {x4 : Int32} {x5 : Int32} {x6 : Int32} (ho : c = 7 ∨ c = 22) : zEv X d zm_143 (86, [some (.ref 0), some (.ref c), some (.int x2), some (.int x3), some (.int x4), some (.int x5), some (.int x6)], [], (zS0, R, I, J)) (some (.int x4), (zS0, R, I, J)) := by
  rcases ho with rfl | rfl
  · refine zEv_k 2 (f' := (92, [some (.ref 0), some (.ref 7), some (.int x2), some (.int x3), some (.int x4), some (.int x5), some (.int x6)], [.int x4], (zS0, R, I, J))) rfl ?_
    exact zEv_r rfl
  · refine zEv_k 2 (f' := (92, [some (.ref 0), some (.ref 22), some (.int x2), some (.int x3), some (.int x4), some (.int x5), some (.int x6)], [.int x4], (zS0, R, I, J))) rfl ?_
    exact zEv_r rfl
theorem b_143_91 {X : zX} {d : Nat} {R : zR} {I : zI} {J : zJ} {c : Nat} {x2 : Int32} {x3 : Int32} {x4 : Int32} {x5 : Int32} {x6 : Int32} (ho : c = 7 ∨ c = 22) : zEv X d zm_143 (91, [some (.ref 0), some (.ref c), some (.int x2), some (.int x3), some (.int x4), some (.int x5), some (.int x6)], [], (zS0, R, I, J)) (some (.int x3), (zS0, R, I, J)) := by
  rcases ho with rfl | rfl
  · refine zEv_k 1 (f' := (92, [some (.ref 0), some (.ref 7), some (.int x2), some (.int x3), some (.int x4), some (.int x5), some (.int x6)], [.int x3], (zS0, R, I, J))) rfl ?_
    exact zEv_r rfl
  · refine zEv_k 1 (f' := (92, [some (.ref 0), some (.ref 22), some (.int x2), some (.int x3), some (.int x4), some (.int x5), some (.int x6)], [.int x3], (zS0, R, I, J))) rfl ?_
    exact zEv_r rfl
theorem b_145_0 {X : zX} {d : Nat} {R : zR} {I : zI} {J : zJ} {r : zA} {x0 : Int64} {x2 : Int32} (k1 : zEv X d zm_145 (5, [some (.long x0), none, some (.int x2), some (.long 1), none, some (.int 0)], [], (zS0, R, I, J)) r) : zEv X d zm_145 (0, [some (.long x0), none, some (.int x2), none, none, none], [], (zS0, R, I, J)) r := by
  refine zEv_k 4 (f' := (5, [some (.long x0), none, some (.int x2), some (.long 1), none, some (.int 0)], [], (zS0, R, I, J))) rfl ?_
  exact k1
theorem b_145_5 {X : zX} {d : Nat} {R : zR} {I : zI} {J : zJ} {r : zA} {x0 : Int64} {x2 : Int32} {x3 : Int64} {x5 : Int32} (k1 : x2 ≤ x5 → zEv X d zm_145 (21, [some (.long x0), none, some (.int x2), some (.long x3), none, some (.int x5)], [], (zS0, R, I, J)) r) (k2 : ¬ (x2 ≤ x5) → zEv X d zm_145 (11, [some (.long x0), none, some (.int x2), some (.long x3), none, some (.int x5)], [], (zS0, R, I, J)) r) : zEv X d zm_145 (5, [some (.long x0), none, some (.int x2), some (.long x3), none, some (.int x5)], [], (zS0, R, I, J)) r := by
  refine zEv_k 3 (f' := (if x2 ≤ x5 then 21 else 11, [some (.long x0), none, some (.int x2), some (.long x3), none, some (.int x5)], [], (zS0, R, I, J))) rfl ?_
  exact zEv_if k1 k2
theorem b_145_11 {X : zX} {d : Nat} {R : zR} {I : zI} {J : zJ} {r : zA} {x0 : Int64} {x2 : Int32} {x3 : Int64} {x5 : Int32} (k1 : zEv X d zm_145 (5, [some (.long x0), none, some (.int x2), some (.long (x3 * x0)), none, some (.int (x5 + 1))], [], (zS0, R, I, J)) r) : zEv X d zm_145 (11, [some (.long x0), none, some (.int x2), some (.long x3), none, some (.int x5)], [], (zS0, R, I, J)) r := by
  refine zEv_k 6 (f' := (5, [some (.long x0), none, some (.int x2), some (.long (x3 * x0)), none, some (.int (x5 + 1))], [], (zS0, R, I, J))) rfl ?_
  exact k1
theorem b_145_21 {X : zX} {d : Nat} {R : zR} {I : zI} {J : zJ} {x0 : Int64} {x2 : Int32} {x3 : Int64} {x5 : Int32} : zEv X d zm_145 (21, [some (.long x0), none, some (.int x2), some (.long x3), none, some (.int x5)], [], (zS0, R, I, J)) (some (.long x3), (zS0, R, I, J)) := by
  refine zEv_k 1 (f' := (22, [some (.long x0), none, some (.int x2), some (.long x3), none, some (.int x5)], [.long x3], (zS0, R, I, J))) rfl ?_
  exact zEv_r rfl
theorem b_146_0 {X : zX} {d : Nat} {R : zR} {I : zI} {J : zJ} {r : zA} {x0 : Int32} {x1 : Int32} (k1 : zEv X d zm_146 (5, [some (.int x0), some (.int x1), some (.long 1), none, some (.int 1)], [], (zS0, R, I, J)) r) : zEv X d zm_146 (0, [some (.int x0), some (.int x1), none, none, none], [], (zS0, R, I, J)) r := by
  refine zEv_k 4 (f' := (5, [some (.int x0), some (.int x1), some (.long 1), none, some (.int 1)], [], (zS0, R, I, J))) rfl ?_
  exact k1
theorem b_146_5 {X : zX} {d : Nat} {R : zR} {I : zI} {J : zJ} {r : zA} {x0 : Int32} {x1 : Int32} {x2 : Int64} {x4 : Int32} (k1 : x1 < x4 → zEv X d zm_146 (31, [some (.int x0), some (.int x1), some (.long x2), none, some (.int x4)], [], (zS0, R, I, J)) r) (k2 : ¬ (x1 < x4) → zEv X d zm_146 (11, [some (.int x0), some (.int x1), some (.long x2), none, some (.int x4)], [], (zS0, R, I, J)) r) : zEv X d zm_146 (5, [some (.int x0), some (.int x1), some (.long x2), none, some (.int x4)], [], (zS0, R, I, J)) r := by
  refine zEv_k 3 (f' := (if x1 < x4 then 31 else 11, [some (.int x0), some (.int x1), some (.long x2), none, some (.int x4)], [], (zS0, R, I, J))) rfl ?_
  exact zEv_if k1 k2
theorem b_146_11 {X : zX} {d : Nat} {R : zR} {I : zI} {J : zJ} {r : zA} {x0 : Int32} {x1 : Int32} {x2 : Int64} {x4 : Int32} (h23 : ¬ (Int32.toInt64 x4) = 0) (k1 : zEv X d zm_146 (5, [some (.int x0), some (.int x1), some (.long ((x2 * (Int32.toInt64 ((x0 - x4) + 1))) / (Int32.toInt64 x4))), none, some (.int (x4 + 1))], [], (zS0, R, I, J)) r) : zEv X d zm_146 (11, [some (.int x0), some (.int x1), some (.long x2), none, some (.int x4)], [], (zS0, R, I, J)) r := by
  refine zEv_k 9 (f' := (22, [some (.int x0), some (.int x1), some (.long x2), none, some (.int x4)], [.int x4, .long (x2 * (Int32.toInt64 ((x0 - x4) + 1)))], (zS0, R, I, J))) rfl ?_
  refine zEv_k 1 (f' := (23, [some (.int x0), some (.int x1), some (.long x2), none, some (.int x4)], [.long (Int32.toInt64 x4), .long (x2 * (Int32.toInt64 ((x0 - x4) + 1)))], (zS0, R, I, J))) rfl ?_
  refine zEv_ldiv rfl h23 ?_
  refine zEv_k 3 (f' := (5, [some (.int x0), some (.int x1), some (.long ((x2 * (Int32.toInt64 ((x0 - x4) + 1))) / (Int32.toInt64 x4))), none, some (.int (x4 + 1))], [], (zS0, R, I, J))) rfl ?_
  exact k1
theorem b_146_31 {X : zX} {d : Nat} {R : zR} {I : zI} {J : zJ} {x0 : Int32} {x1 : Int32} {x2 : Int64} {x4 : Int32} : zEv X d zm_146 (31, [some (.int x0), some (.int x1), some (.long x2), none, some (.int x4)], [], (zS0, R, I, J)) (some (.long x2), (zS0, R, I, J)) := by
  refine zEv_k 1 (f' := (32, [some (.int x0), some (.int x1), some (.long x2), none, some (.int x4)], [.long x2], (zS0, R, I, J))) rfl ?_
  exact zEv_r rfl
theorem b_147_0 {X : zX} {d : Nat} {R : zR} {I : zI} {J : zJ} {r : zA} {x0 : Int64} {x2 : Int64} {x4 : Int32} {w : Int64} {R' : zR} {I' : zI} {J' : zJ} (hc : zEv X d zm_148 (0, [some (.long x0), none, some (.long x2), none, none, none, none, none, none, none, none], [], (zS0, R, I, J)) (some (.long w), (zS0, R', I', J'))) (k1 : zEv X (d + 1) zm_147 (5, [some (.long x0), none, some (.long x2), none, some (.int x4), none, none], [.long w], (zS0, R', I', J')) r) : zEv X (d + 1) zm_147 (0, [some (.long x0), none, some (.long x2), none, some (.int x4), none, none], [], (zS0, R, I, J)) r := by
  refine zEv_k 2 (f' := (2, [some (.long x0), none, some (.long x2), none, some (.int x4), none, none], [.long x2, .long x0], (zS0, R, I, J))) rfl ?_
  exact zEv_c (fun _ => rfl) rfl hc rfl rfl k1
theorem b_147_5 {X : zX} {d : Nat} {R : zR} {I : zI} {J : zJ} {r : zA} {x0 : Int64} {x2 : Int64} {x4 : Int32} {s0 : Int64} (k1 : (lg_cmp x2 0) ≤ 0 → zEv X d zm_147 (20, [some (.long x0), none, some (.long x2), none, some (.int x4), some (.long s0), none], [], (zS0, R, I, J)) r) (k2 : ¬ ((lg_cmp x2 0) ≤ 0) → zEv X d zm_147 (13, [some (.long x0), none, some (.long x2), none, some (.int x4), some (.long s0), none], [], (zS0, R, I, J)) r) : zEv X d zm_147 (5, [some (.long x0), none, some (.long x2), none, some (.int x4), none, none], [.long s0], (zS0, R, I, J)) r := by
  refine zEv_k 5 (f' := (if (lg_cmp x2 0) ≤ 0 then 20 else 13, [some (.long x0), none, some (.long x2), none, some (.int x4), some (.long s0), none], [], (zS0, R, I, J))) rfl ?_
  exact zEv_if k1 k2
theorem b_147_13 {X : zX} {d : Nat} {R : zR} {I : zI} {J : zJ} {r : zA} {x0 : Int64} {x2 : Int64} {x4 : Int32} {x5 : Int64} (k1 : 0 < (lg_cmp x5 0) → zEv X d zm_147 (24, [some (.long x0), none, some (.long x2), none, some (.int x4), some (.long x5), none], [], (zS0, R, I, J)) r) (k2 : ¬ (0 < (lg_cmp x5 0)) → zEv X d zm_147 (20, [some (.long x0), none, some (.long x2), none, some (.int x4), some (.long x5), none], [], (zS0, R, I, J)) r) : zEv X d zm_147 (13, [some (.long x0), none, some (.long x2), none, some (.int x4), some (.long x5), none], [], (zS0, R, I, J)) r := by
  refine zEv_k 4 (f' := (if 0 < (lg_cmp x5 0) then 24 else 20, [some (.long x0), none, some (.long x2), none, some (.int x4), some (.long x5), none], [], (zS0, R, I, J))) rfl ?_
  exact zEv_if k1 k2
theorem b_147_20 {X : zX} {d : Nat} {R : zR} {I : zI} {J : zJ} {x0 : Int64} {x2 : Int64} {x4 : Int32} {x5 : Int64} : zEv X d zm_147 (20, [some (.long x0), none, some (.long x2), none, some (.int x4), some (.long x5), none], [], (zS0, R, I, J)) (some (.long (-1)), (zS0, R, I, J)) := by
  refine zEv_k 1 (f' := (23, [some (.long x0), none, some (.long x2), none, some (.int x4), some (.long x5), none], [.long (-1)], (zS0, R, I, J))) rfl ?_
  exact zEv_r rfl
theorem b_147_24 {X : zX} {d : Nat} {R : zR} {I : zI} {J : zJ} {r : zA} {x0 : Int64} {x2 : Int64} {x4 : Int32} {x5 : Int64} (k1 : x4 = 0 → zEv X d zm_147 (33, [some (.long x0), none, some (.long x2), none, some (.int x4), some (.long x5), none], [], (zS0, R, I, J)) r) (k2 : ¬ (x4 = 0) → zEv X d zm_147 (29, [some (.long x0), none, some (.long x2), none, some (.int x4), some (.long x5), none], [], (zS0, R, I, J)) r) : zEv X d zm_147 (24, [some (.long x0), none, some (.long x2), none, some (.int x4), some (.long x5), none], [], (zS0, R, I, J)) r := by
  refine zEv_k 2 (f' := (if x4 = 0 then 33 else 29, [some (.long x0), none, some (.long x2), none, some (.int x4), some (.long x5), none], [], (zS0, R, I, J))) rfl ?_
  exact zEv_if k1 k2
theorem b_147_29 {X : zX} {d : Nat} {R : zR} {I : zI} {J : zJ} {x0 : Int64} {x2 : Int64} {x4 : Int32} {x5 : Int64} (h36 : ¬ x5 = 0) : zEv X d zm_147 (29, [some (.long x0), none, some (.long x2), none, some (.int x4), some (.long x5), none], [], (zS0, R, I, J)) (some (.long (x2 / x5)), (zS0, R, I, J)) := by
  refine zEv_k 3 (f' := (36, [some (.long x0), none, some (.long x2), none, some (.int x4), some (.long x5), none], [.long x5, .long x2], (zS0, R, I, J))) rfl ?_
  refine zEv_ldiv rfl h36 ?_
  exact zEv_r rfl
theorem b_147_33 {X : zX} {d : Nat} {R : zR} {I : zI} {J : zJ} {x0 : Int64} {x2 : Int64} {x4 : Int32} {x5 : Int64} (h36 : ¬ x5 = 0) : zEv X d zm_147 (33, [some (.long x0), none, some (.long x2), none, some (.int x4), some (.long x5), none], [], (zS0, R, I, J)) (some (.long (x0 / x5)), (zS0, R, I, J)) := by
  refine zEv_k 2 (f' := (36, [some (.long x0), none, some (.long x2), none, some (.int x4), some (.long x5), none], [.long x5, .long x0], (zS0, R, I, J))) rfl ?_
  refine zEv_ldiv rfl h36 ?_
  exact zEv_r rfl
theorem b_148_0 {X : zX} {d : Nat} {R : zR} {I : zI} {J : zJ} {r : zA} {x0 : Int64} {x2 : Int64} (k1 : zEv X d zm_148 (9, [some (.long x0), none, some (.long x2), none, some (.long x0), none, some (.long x2), none, some (.int 0), none, none], [], (zS0, R, I, J)) r) : zEv X d zm_148 (0, [some (.long x0), none, some (.long x2), none, none, none, none, none, none, none, none], [], (zS0, R, I, J)) r := by
  refine zEv_k 6 (f' := (9, [some (.long x0), none, some (.long x2), none, some (.long x0), none, some (.long x2), none, some (.int 0), none, none], [], (zS0, R, I, J))) rfl ?_
  exact k1
theorem b_148_9 {X : zX} {d : Nat} {R : zR} {I : zI} {J : zJ} {r : zA} {x0 : Int64} {x2 : Int64} {x4 : Int64} {x6 : Int64} {x8 : Int32} {x9 : Option Value} (k1 : 100 ≤ x8 → zEv X d zm_148 (44, [some (.long x0), none, some (.long x2), none, some (.long x4), none, some (.long x6), none, some (.int x8), x9, none], [], (zS0, R, I, J)) r) (k2 : ¬ (100 ≤ x8) → zEv X d zm_148 (16, [some (.long x0), none, some (.long x2), none, some (.long x4), none, some (.long x6), none, some (.int x8), x9, none], [], (zS0, R, I, J)) r) : zEv X d zm_148 (9, [some (.long x0), none, some (.long x2), none, some (.long x4), none, some (.long x6), none, some (.int x8), x9, none], [], (zS0, R, I, J)) r := by
  refine zEv_k 3 (f' := (if 100 ≤ x8 then 44 else 16, [some (.long x0), none, some (.long x2), none, some (.long x4), none, some (.long x6), none, some (.int x8), x9, none], [], (zS0, R, I, J))) rfl ?_
  exact zEv_if k1 k2
theorem b_148_16 {X : zX} {d : Nat} {R : zR} {I : zI} {J : zJ} {r : zA} {x0 : Int64} {x2 : Int64} {x4 : Int64} {x6 : Int64} {x8 : Int32} {x9 : Option Value} (k1 : (lg_cmp x6 0) = 0 → zEv X d zm_148 (44, [some (.long x0), none, some (.long x2), none, some (.long x4), none, some (.long x6), none, some (.int x8), x9, none], [], (zS0, R, I, J)) r) (k2 : ¬ ((lg_cmp x6 0) = 0) → zEv X d zm_148 (23, [some (.long x0), none, some (.long x2), none, some (.long x4), none, some (.long x6), none, some (.int x8), x9, none], [], (zS0, R, I, J)) r) : zEv X d zm_148 (16, [some (.long x0), none, some (.long x2), none, some (.long x4), none, some (.long x6), none, some (.int x8), x9, none], [], (zS0, R, I, J)) r := by
  refine zEv_k 4 (f' := (if (lg_cmp x6 0) = 0 then 44 else 23, [some (.long x0), none, some (.long x2), none, some (.long x4), none, some (.long x6), none, some (.int x8), x9, none], [], (zS0, R, I, J))) rfl ?_
  exact zEv_if k1 k2
theorem b_148_23 {X : zX} {d : Nat} {R : zR} {I : zI} {J : zJ} {r : zA} {x0 : Int64} {x2 : Int64} {x4 : Int64} {x6 : Int64} {x8 : Int32} {x9 : Option Value} (h27 : ¬ x6 = 0) (k1 : zEv X d zm_148 (9, [some (.long x0), none, some (.long x2), none, some (.long x6), none, some (.long (x4 - x4 / x6 * x6)), none, some (.int (x8 + 1)), some (.long (x4 - x4 / x6 * x6)), none], [], (zS0, R, I, J)) r) : zEv X d zm_148 (23, [some (.long x0), none, some (.long x2), none, some (.long x4), none, some (.long x6), none, some (.int x8), x9, none], [], (zS0, R, I, J)) r := by
  refine zEv_k 2 (f' := (27, [some (.long x0), none, some (.long x2), none, some (.long x4), none, some (.long x6), none, some (.int x8), x9, none], [.long x6, .long x4], (zS0, R, I, J))) rfl ?_
  refine zEv_lrem rfl h27 ?_
  refine zEv_k 7 (f' := (9, [some (.long x0), none, some (.long x2), none, some (.long x6), none, some (.long (x4 - x4 / x6 * x6)), none, some (.int (x8 + 1)), some (.long (x4 - x4 / x6 * x6)), none], [], (zS0, R, I, J))) rfl ?_
  exact k1
theorem b_148_44 {X : zX} {d : Nat} {R : zR} {I : zI} {J : zJ} {x0 : Int64} {x2 : Int64} {x4 : Int64} {x6 : Int64} {x8 : Int32} {x9 : Option Value} : zEv X d zm_148 (44, [some (.long x0), none, some (.long x2), none, some (.long x4), none, some (.long x6), none, some (.int x8), x9, none], [], (zS0, R, I, J)) (some (.long x4), (zS0, R, I, J)) := by
  refine zEv_k 1 (f' := (46, [some (.long x0), none, some (.long x2), none, some (.long x4), none, some (.long x6), none, some (.int x8), x9, none], [.long x4], (zS0, R, I, J))) rfl ?_
  exact zEv_r rfl
