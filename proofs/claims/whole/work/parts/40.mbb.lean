theorem b_178_9 {X : zX} {d : Nat} {R : zR} {I : zI} {J : zJ} {x1 : Int32} (hR : zRok R) : zEv X d zm_178 (9, [some (.ref 215), some (.int x1)], [], (zS0, R, I, J)) (some (.int (I 218 (0 : Int32).toNatClampNeg)), (zS0, R, I, J)) := by
  refine zEv_k 1 (f' := (10, [some (.ref 215), some (.int x1)], [.ref 215], (zS0, R, I, J))) rfl ?_
  refine zEv_gr rfl rfl rfl (by decide) (hR 215 3 218 rfl) ?_
  refine zEv_k 1 (f' := (14, [some (.ref 215), some (.int x1)], [.int 0, .ref 218], (zS0, R, I, J))) rfl ?_
  refine zEv_ial rfl rfl (by decide) (by unfold zin; decide) ?_
  refine zEv_k 1 (f' := (33, [some (.ref 215), some (.int x1)], [.int (I 218 (0 : Int32).toNatClampNeg)], (zS0, R, I, J))) rfl ?_
  exact zEv_r rfl
theorem b_178_18 {X : zX} {d : Nat} {R : zR} {I : zI} {J : zJ} {r : zA} {x1 : Int32} (k1 : ¬ x1 = 1 → zEv X d zm_178 (32, [some (.ref 215), some (.int x1)], [], (zS0, R, I, J)) r) (k2 : ¬ (¬ x1 = 1) → zEv X d zm_178 (23, [some (.ref 215), some (.int x1)], [], (zS0, R, I, J)) r) : zEv X d zm_178 (18, [some (.ref 215), some (.int x1)], [], (zS0, R, I, J)) r := by
  refine zEv_k 3 (f' := (if ¬ x1 = 1 then 32 else 23, [some (.ref 215), some (.int x1)], [], (zS0, R, I, J))) rfl ?_
  exact zEv_if k1 k2
theorem b_178_23 {X : zX} {d : Nat} {R : zR} {I : zI} {J : zJ} {x1 : Int32} (hR : zRok R) : zEv X d zm_178 (23, [some (.ref 215), some (.int x1)], [], (zS0, R, I, J)) (some (.int (I 219 (0 : Int32).toNatClampNeg)), (zS0, R, I, J)) := by
  refine zEv_k 1 (f' := (24, [some (.ref 215), some (.int x1)], [.ref 215], (zS0, R, I, J))) rfl ?_
  refine zEv_gr rfl rfl rfl (by decide) (hR 215 4 219 rfl) ?_
  refine zEv_k 1 (f' := (28, [some (.ref 215), some (.int x1)], [.int 0, .ref 219], (zS0, R, I, J))) rfl ?_
  refine zEv_ial rfl rfl (by decide) (by unfold zin; decide) ?_
  refine zEv_k 1 (f' := (33, [some (.ref 215), some (.int x1)], [.int (I 219 (0 : Int32).toNatClampNeg)], (zS0, R, I, J))) rfl ?_
  exact zEv_r rfl
theorem b_178_32 {X : zX} {d : Nat} {R : zR} {I : zI} {J : zJ} {x1 : Int32} : zEv X d zm_178 (32, [some (.ref 215), some (.int x1)], [], (zS0, R, I, J)) (some (.int (-1)), (zS0, R, I, J)) := by
  refine zEv_k 1 (f' := (33, [some (.ref 215), some (.int x1)], [.int (-1)], (zS0, R, I, J))) rfl ?_
  exact zEv_r rfl
theorem b_179_0 {X : zX} {d : Nat} {R : zR} {I : zI} {J : zJ} {x1 : Int32} (hR : zRok R) (h13 : zin ((52 * (I 215 22)) + x1) 416) : zEv X d zm_179 (0, [some (.ref 215), some (.int x1)], [], (zS0, R, I, J)) (some (.int (I 221 ((52 * (I 215 22)) + x1).toNatClampNeg)), (zS0, R, I, J)) := by
  refine zEv_k 1 (f' := (1, [some (.ref 215), some (.int x1)], [.ref 215], (zS0, R, I, J))) rfl ?_
  refine zEv_gr rfl rfl rfl (by decide) (hR 215 6 221 rfl) ?_
  refine zEv_k 6 (f' := (13, [some (.ref 215), some (.int x1)], [.int ((52 * (I 215 22)) + x1), .ref 221], (zS0, R, I, J))) rfl ?_
  refine zEv_ial rfl rfl (by decide) h13 ?_
  exact zEv_r rfl
theorem b_180_0 {X : zX} {d : Nat} {R : zR} {I : zI} {J : zJ} {r : zA} (k1 : zEv X d zm_180 (37, [some (.ref 215), some (.int 0)], [], (zS0, R, zu (zu (zu (zu (zu (zu (zu I 215 26 0) 215 27 0) 215 28 0) 215 29 0) 215 30 0) 215 31 0) 215 32 0, J)) r) : zEv X d zm_180 (0, [some (.ref 215), none], [], (zS0, R, I, J)) r := by
  refine zEv_k 9 (f' := (15, [some (.ref 215), none], [], (zS0, R, zu (zu (zu I 215 26 0) 215 27 0) 215 28 0, J))) rfl ?_
  refine zEv_k 9 (f' := (30, [some (.ref 215), none], [], (zS0, R, zu (zu (zu (zu (zu (zu I 215 26 0) 215 27 0) 215 28 0) 215 29 0) 215 30 0) 215 31 0, J))) rfl ?_
  refine zEv_k 5 (f' := (37, [some (.ref 215), some (.int 0)], [], (zS0, R, zu (zu (zu (zu (zu (zu (zu I 215 26 0) 215 27 0) 215 28 0) 215 29 0) 215 30 0) 215 31 0) 215 32 0, J))) rfl ?_
  exact k1
theorem b_180_37 {X : zX} {d : Nat} {R : zR} {I : zI} {J : zJ} {r : zA} {x1 : Int32} (k1 : 7 ≤ x1 → zEv X d zm_180 (104, [some (.ref 215), some (.int x1)], [], (zS0, R, I, J)) r) (k2 : ¬ (7 ≤ x1) → zEv X d zm_180 (43, [some (.ref 215), some (.int x1)], [], (zS0, R, I, J)) r) : zEv X d zm_180 (37, [some (.ref 215), some (.int x1)], [], (zS0, R, I, J)) r := by
  refine zEv_k 3 (f' := (if 7 ≤ x1 then 104 else 43, [some (.ref 215), some (.int x1)], [], (zS0, R, I, J))) rfl ?_
  exact zEv_if k1 k2
theorem b_180_43 {X : zX} {d : Nat} {R : zR} {I : zI} {J : zJ} {r : zA} {x1 : Int32} {w : Int32} {R' : zR} {I' : zI} {J' : zJ} (hR : zRok R) (hc : zEv X d zm_179 (0, [some (.ref 215), some (.int (3 + x1))], [], (zS0, R, I, J)) (some (.int w), (zS0, R', I', J'))) (k1 : zEv X (d + 1) zm_180 (55, [some (.ref 215), some (.int x1)], [.int w, .int x1, .ref 226], (zS0, R', I', J')) r) : zEv X (d + 1) zm_180 (43, [some (.ref 215), some (.int x1)], [], (zS0, R, I, J)) r := by
  refine zEv_k 1 (f' := (44, [some (.ref 215), some (.int x1)], [.ref 215], (zS0, R, I, J))) rfl ?_
  refine zEv_gr rfl rfl rfl (by decide) (hR 215 33 226 rfl) ?_
  refine zEv_k 5 (f' := (52, [some (.ref 215), some (.int x1)], [.int (3 + x1), .ref 215, .int x1, .ref 226], (zS0, R, I, J))) rfl ?_
  exact zEv_c (fun _ => rfl) rfl hc rfl rfl k1
theorem b_180_55 {X : zX} {d : Nat} {R : zR} {I : zI} {J : zJ} {r : zA} {x1 : Int32} {s1 : Int32} {s2 : Int32} {w : Int32} {R' : zR} {I' : zI} {J' : zJ} (hR : zRok R) (h55 : zin s1 7) (hc : zEv X d zm_179 (0, [some (.ref 215), some (.int (17 + x1))], [], (zS0, R, zu I 226 (s1).toNatClampNeg s2, J)) (some (.int w), (zS0, R', I', J'))) (k1 : zEv X (d + 1) zm_180 (69, [some (.ref 215), some (.int x1)], [.int w, .int x1, .ref 227], (zS0, R', I', J')) r) : zEv X (d + 1) zm_180 (55, [some (.ref 215), some (.int x1)], [.int s2, .int s1, .ref 226], (zS0, R, I, J)) r := by
  refine zEv_ias rfl rfl (by decide) h55 ?_
  refine zEv_k 1 (f' := (57, [some (.ref 215), some (.int x1)], [.ref 215], (zS0, R, zu I 226 (s1).toNatClampNeg s2, J))) rfl ?_
  refine zEv_gr rfl rfl rfl (by decide) (hR 215 34 227 rfl) ?_
  refine zEv_k 5 (f' := (66, [some (.ref 215), some (.int x1)], [.int (17 + x1), .ref 215, .int x1, .ref 227], (zS0, R, zu I 226 (s1).toNatClampNeg s2, J))) rfl ?_
  exact zEv_c (fun _ => rfl) rfl hc rfl rfl k1
theorem b_180_69 {X : zX} {d : Nat} {R : zR} {I : zI} {J : zJ} {r : zA} {x1 : Int32} {s1 : Int32} {s2 : Int32} {w : Int32} {R' : zR} {I' : zI} {J' : zJ} (hR : zRok R) (h69 : zin s1 7) (hc : zEv X d zm_179 (0, [some (.ref 215), some (.int (31 + x1))], [], (zS0, R, zu I 227 (s1).toNatClampNeg s2, J)) (some (.int w), (zS0, R', I', J'))) (k1 : zEv X (d + 1) zm_180 (83, [some (.ref 215), some (.int x1)], [.int w, .int x1, .ref 228], (zS0, R', I', J')) r) : zEv X (d + 1) zm_180 (69, [some (.ref 215), some (.int x1)], [.int s2, .int s1, .ref 227], (zS0, R, I, J)) r := by
  refine zEv_ias rfl rfl (by decide) h69 ?_
  refine zEv_k 1 (f' := (71, [some (.ref 215), some (.int x1)], [.ref 215], (zS0, R, zu I 227 (s1).toNatClampNeg s2, J))) rfl ?_
  refine zEv_gr rfl rfl rfl (by decide) (hR 215 35 228 rfl) ?_
  refine zEv_k 5 (f' := (80, [some (.ref 215), some (.int x1)], [.int (31 + x1), .ref 215, .int x1, .ref 228], (zS0, R, zu I 227 (s1).toNatClampNeg s2, J))) rfl ?_
  exact zEv_c (fun _ => rfl) rfl hc rfl rfl k1
theorem b_180_83 {X : zX} {d : Nat} {R : zR} {I : zI} {J : zJ} {r : zA} {x1 : Int32} {s1 : Int32} {s2 : Int32} {w : Int32} {R' : zR} {I' : zI} {J' : zJ} (hR : zRok R) (h83 : zin s1 7) (hc : zEv X d zm_179 (0, [some (.ref 215), some (.int (38 + x1))], [], (zS0, R, zu I 228 (s1).toNatClampNeg s2, J)) (some (.int w), (zS0, R', I', J'))) (k1 : zEv X (d + 1) zm_180 (97, [some (.ref 215), some (.int x1)], [.int w, .int x1, .ref 229], (zS0, R', I', J')) r) : zEv X (d + 1) zm_180 (83, [some (.ref 215), some (.int x1)], [.int s2, .int s1, .ref 228], (zS0, R, I, J)) r := by
  refine zEv_ias rfl rfl (by decide) h83 ?_
  refine zEv_k 1 (f' := (85, [some (.ref 215), some (.int x1)], [.ref 215], (zS0, R, zu I 228 (s1).toNatClampNeg s2, J))) rfl ?_
  refine zEv_gr rfl rfl rfl (by decide) (hR 215 36 229 rfl) ?_
  refine zEv_k 5 (f' := (94, [some (.ref 215), some (.int x1)], [.int (38 + x1), .ref 215, .int x1, .ref 229], (zS0, R, zu I 228 (s1).toNatClampNeg s2, J))) rfl ?_
  exact zEv_c (fun _ => rfl) rfl hc rfl rfl k1
theorem b_180_97 {X : zX} {d : Nat} {R : zR} {I : zI} {J : zJ} {r : zA} {x1 : Int32} {s1 : Int32} {s2 : Int32} (h97 : zin s1 7) (k1 : zEv X d zm_180 (37, [some (.ref 215), some (.int (x1 + 1))], [], (zS0, R, zu I 229 (s1).toNatClampNeg s2, J)) r) : zEv X d zm_180 (97, [some (.ref 215), some (.int x1)], [.int s2, .int s1, .ref 229], (zS0, R, I, J)) r := by
  refine zEv_ias rfl rfl (by decide) h97 ?_
  refine zEv_k 2 (f' := (37, [some (.ref 215), some (.int (x1 + 1))], [], (zS0, R, zu I 229 (s1).toNatClampNeg s2, J))) rfl ?_
  exact k1
theorem b_180_104 {X : zX} {d : Nat} {R : zR} {I : zI} {J : zJ} {x1 : Int32} : zEv X d zm_180 (104, [some (.ref 215), some (.int x1)], [], (zS0, R, I, J)) (none, (zS0, R, I, J)) := by
  exact zEv_r rfl
theorem b_181_0 {X : zX} {d : Nat} {R : zR} {I : zI} {J : zJ} {r : zA} {x1 : Int32} {w : Int32} {R' : zR} {I' : zI} {J' : zJ} (hc : zEv X d zm_157 (0, [some (.ref 215), some (.int 0), some (.int x1)], [], (zS0, R, I, J)) (some (.int w), (zS0, R', I', J'))) (k1 : zEv X (d + 1) zm_181 (6, [some (.ref 215), some (.int x1)], [.int w], (zS0, R', I', J')) r) : zEv X (d + 1) zm_181 (0, [some (.ref 215), some (.int x1)], [], (zS0, R, I, J)) r := by
  refine zEv_k 3 (f' := (3, [some (.ref 215), some (.int x1)], [.int x1, .int 0, .ref 215], (zS0, R, I, J))) rfl ?_
  exact zEv_c (fun _ => rfl) rfl hc rfl rfl k1
theorem b_181_6 {X : zX} {d : Nat} {R : zR} {I : zI} {J : zJ} {r : zA} {x1 : Int32} {s0 : Int32} (k1 : ¬ s0 = 0 → zEv X d zm_181 (11, [some (.ref 215), some (.int x1)], [], (zS0, R, I, J)) r) (k2 : ¬ (¬ s0 = 0) → zEv X d zm_181 (9, [some (.ref 215), some (.int x1)], [], (zS0, R, I, J)) r) : zEv X d zm_181 (6, [some (.ref 215), some (.int x1)], [.int s0], (zS0, R, I, J)) r := by
  refine zEv_k 1 (f' := (if ¬ s0 = 0 then 11 else 9, [some (.ref 215), some (.int x1)], [], (zS0, R, I, J))) rfl ?_
  exact zEv_if k1 k2
theorem b_181_9 {X : zX} {d : Nat} {R : zR} {I : zI} {J : zJ} {x1 : Int32} : zEv X d zm_181 (9, [some (.ref 215), some (.int x1)], [], (zS0, R, I, J)) (some (.int 0), (zS0, R, I, J)) := by
  refine zEv_k 1 (f' := (10, [some (.ref 215), some (.int x1)], [.int 0], (zS0, R, I, J))) rfl ?_
  exact zEv_r rfl
theorem b_181_11 {X : zX} {d : Nat} {R : zR} {I : zI} {J : zJ} {r : zA} {x1 : Int32} {w : Int32} {R' : zR} {I' : zI} {J' : zJ} (hc : zEv X d zm_179 (0, [some (.ref 215), some (.int 2)], [], (zS0, R, zu I 215 22 x1, J)) (some (.int w), (zS0, R', I', J'))) (k1 : zEv X (d + 1) zm_181 (22, [some (.ref 215), some (.int x1)], [.int w, .ref 215], (zS0, R', I', J')) r) : zEv X (d + 1) zm_181 (11, [some (.ref 215), some (.int x1)], [], (zS0, R, I, J)) r := by
  refine zEv_k 6 (f' := (19, [some (.ref 215), some (.int x1)], [.int 2, .ref 215, .ref 215], (zS0, R, zu I 215 22 x1, J))) rfl ?_
  exact zEv_c (fun _ => rfl) rfl hc rfl rfl k1
theorem b_181_22 {X : zX} {d : Nat} {R : zR} {I : zI} {J : zJ} {r : zA} {x1 : Int32} {s1 : Int32} {w : Int32} {R' : zR} {I' : zI} {J' : zJ} (hc : zEv X d zm_179 (0, [some (.ref 215), some (.int 0)], [], (zS0, R, zu I 215 23 s1, J)) (some (.int w), (zS0, R', I', J'))) (k1 : zEv X (d + 1) zm_181 (31, [some (.ref 215), some (.int x1)], [.int w, .ref 215], (zS0, R', I', J')) r) : zEv X (d + 1) zm_181 (22, [some (.ref 215), some (.int x1)], [.int s1, .ref 215], (zS0, R, I, J)) r := by
  refine zEv_k 4 (f' := (28, [some (.ref 215), some (.int x1)], [.int 0, .ref 215, .ref 215], (zS0, R, zu I 215 23 s1, J))) rfl ?_
  exact zEv_c (fun _ => rfl) rfl hc rfl rfl k1
theorem b_181_31 {X : zX} {d : Nat} {R : zR} {I : zI} {J : zJ} {r : zA} {x1 : Int32} {s1 : Int32} {w : Int32} {R' : zR} {I' : zI} {J' : zJ} (hc : zEv X d zm_179 (0, [some (.ref 215), some (.int 1)], [], (zS0, R, zu I 215 24 s1, J)) (some (.int w), (zS0, R', I', J'))) (k1 : zEv X (d + 1) zm_181 (40, [some (.ref 215), some (.int x1)], [.int w, .ref 215], (zS0, R', I', J')) r) : zEv X (d + 1) zm_181 (31, [some (.ref 215), some (.int x1)], [.int s1, .ref 215], (zS0, R, I, J)) r := by
  refine zEv_k 4 (f' := (37, [some (.ref 215), some (.int x1)], [.int 1, .ref 215, .ref 215], (zS0, R, zu I 215 24 s1, J))) rfl ?_
  exact zEv_c (fun _ => rfl) rfl hc rfl rfl k1
theorem b_181_40 {X : zX} {d : Nat} {R : zR} {I : zI} {J : zJ} {r : zA} {x1 : Int32} {s1 : Int32} {R' : zR} {I' : zI} {J' : zJ} (hc : zEv X d zm_180 (0, [some (.ref 215), none], [], (zS0, R, zu I 215 25 s1, J)) (none, (zS0, R', I', J'))) (k1 : zEv X (d + 1) zm_181 (47, [some (.ref 215), some (.int x1)], [], (zS0, R', I', J')) r) : zEv X (d + 1) zm_181 (40, [some (.ref 215), some (.int x1)], [.int s1, .ref 215], (zS0, R, I, J)) r := by
  refine zEv_k 2 (f' := (44, [some (.ref 215), some (.int x1)], [.ref 215], (zS0, R, zu I 215 25 s1, J))) rfl ?_
  exact zEv_c (fun _ => rfl) rfl hc rfl rfl k1
theorem b_181_47 {X : zX} {d : Nat} {R : zR} {I : zI} {J : zJ} {x1 : Int32} : zEv X d zm_181 (47, [some (.ref 215), some (.int x1)], [], (zS0, R, I, J)) (some (.int 1), (zS0, R, I, J)) := by
  refine zEv_k 1 (f' := (48, [some (.ref 215), some (.int x1)], [.int 1], (zS0, R, I, J))) rfl ?_
  exact zEv_r rfl
theorem b_182_0 {X : zX} {d : Nat} {R : zR} {I : zI} {J : zJ} {x1 : Int32} (h11 : zbool (zf_in x1 0 ((I 215 23) - 1)) = true) : zEv X (d + 1) zm_182 (0, [some (.ref 215), some (.int x1)], [], (zS0, R, I, J)) (some (.int (zf_in x1 0 ((I 215 23) - 1))), (zS0, R, I, J)) := by
  refine zEv_k 6 (f' := (8, [some (.ref 215), some (.int x1)], [.int ((I 215 23) - 1), .int 0, .int x1], (zS0, R, I, J))) rfl ?_
  refine zEv_c (fun _ => rfl) rfl ev_zf_in rfl rfl ?_
  exact zEv_rz rfl rfl h11
theorem b_183_0 {X : zX} {d : Nat} {R : zR} {I : zI} {J : zJ} {r : zA} {x1 : Int32} {w : Int32} {R' : zR} {I' : zI} {J' : zJ} (hc : zEv X d zm_182 (0, [some (.ref 215), some (.int x1)], [], (zS0, R, I, J)) (some (.int w), (zS0, R', I', J'))) (k1 : zEv X (d + 1) zm_183 (5, [some (.ref 215), some (.int x1)], [.int w], (zS0, R', I', J')) r) : zEv X (d + 1) zm_183 (0, [some (.ref 215), some (.int x1)], [], (zS0, R, I, J)) r := by
  refine zEv_k 2 (f' := (2, [some (.ref 215), some (.int x1)], [.int x1, .ref 215], (zS0, R, I, J))) rfl ?_
  exact zEv_c (fun _ => rfl) rfl hc rfl rfl k1
theorem b_183_5 {X : zX} {d : Nat} {R : zR} {I : zI} {J : zJ} {r : zA} {x1 : Int32} {s0 : Int32} (k1 : s0 = 0 → zEv X d zm_183 (23, [some (.ref 215), some (.int x1)], [], (zS0, R, I, J)) r) (k2 : ¬ (s0 = 0) → zEv X d zm_183 (8, [some (.ref 215), some (.int x1)], [], (zS0, R, I, J)) r) : zEv X d zm_183 (5, [some (.ref 215), some (.int x1)], [.int s0], (zS0, R, I, J)) r := by
  refine zEv_k 1 (f' := (if s0 = 0 then 23 else 8, [some (.ref 215), some (.int x1)], [], (zS0, R, I, J))) rfl ?_
  exact zEv_if k1 k2
theorem b_183_8 {X : zX} {d : Nat} {R : zR} {I : zI} {J : zJ} {r : zA} {x1 : Int32} (k1 : ¬ (zf_has (I 215 29) x1) = 0 → zEv X (d + 1) zm_183 (23, [some (.ref 215), some (.int x1)], [], (zS0, R, I, J)) r) (k2 : ¬ (¬ (zf_has (I 215 29) x1) = 0) → zEv X (d + 1) zm_183 (19, [some (.ref 215), some (.int x1)], [], (zS0, R, I, J)) r) : zEv X (d + 1) zm_183 (8, [some (.ref 215), some (.int x1)], [], (zS0, R, I, J)) r := by
  refine zEv_k 3 (f' := (13, [some (.ref 215), some (.int x1)], [.int x1, .int (I 215 29)], (zS0, R, I, J))) rfl ?_
  refine zEv_c (fun _ => rfl) rfl ev_zf_has rfl rfl ?_
  refine zEv_k 1 (f' := (if ¬ (zf_has (I 215 29) x1) = 0 then 23 else 19, [some (.ref 215), some (.int x1)], [], (zS0, R, I, J))) rfl ?_
  exact zEv_if k1 k2
theorem b_183_19 {X : zX} {d : Nat} {R : zR} {I : zI} {J : zJ} {x1 : Int32} : zEv X d zm_183 (19, [some (.ref 215), some (.int x1)], [], (zS0, R, I, J)) (some (.int 1), (zS0, R, I, J)) := by
  refine zEv_k 2 (f' := (24, [some (.ref 215), some (.int x1)], [.int 1], (zS0, R, I, J))) rfl ?_
  exact zEv_r rfl
theorem b_183_23 {X : zX} {d : Nat} {R : zR} {I : zI} {J : zJ} {x1 : Int32} : zEv X d zm_183 (23, [some (.ref 215), some (.int x1)], [], (zS0, R, I, J)) (some (.int 0), (zS0, R, I, J)) := by
  refine zEv_k 1 (f' := (24, [some (.ref 215), some (.int x1)], [.int 0], (zS0, R, I, J))) rfl ?_
  exact zEv_r rfl
theorem b_185_0 {X : zX} {d : Nat} {R : zR} {I : zI} {J : zJ} {r : zA} {x1 : Int32} (hR : zRok R) (h32 : zin x1 7) (k1 : zEv X d zm_185 (39, [some (.ref 215), some (.int x1), some (.int 0)], [], (zS0, R, zu (zu (zu I 215 29 ((I 215 29) ||| ((1 : Int32) <<< (x1 &&& 31)))) 215 28 (((zu I 215 29 ((I 215 29) ||| ((1 : Int32) <<< (x1 &&& 31)))) 215 28) + 1)) 215 32 (((zu (zu I 215 29 ((I 215 29) ||| ((1 : Int32) <<< (x1 &&& 31)))) 215 28 (((zu I 215 29 ((I 215 29) ||| ((1 : Int32) <<< (x1 &&& 31)))) 215 28) + 1)) 215 32) + ((zu (zu I 215 29 ((I 215 29) ||| ((1 : Int32) <<< (x1 &&& 31)))) 215 28 (((zu I 215 29 ((I 215 29) ||| ((1 : Int32) <<< (x1 &&& 31)))) 215 28) + 1)) 226 (x1).toNatClampNeg)), J)) r) : zEv X d zm_185 (0, [some (.ref 215), some (.int x1), none], [], (zS0, R, I, J)) r := by
  refine zEv_k 9 (f' := (13, [some (.ref 215), some (.int x1), none], [.ref 215], (zS0, R, zu I 215 29 ((I 215 29) ||| ((1 : Int32) <<< (x1 &&& 31))), J))) rfl ?_
  refine zEv_k 9 (f' := (28, [some (.ref 215), some (.int x1), none], [.ref 215, .int ((zu (zu I 215 29 ((I 215 29) ||| ((1 : Int32) <<< (x1 &&& 31)))) 215 28 (((zu I 215 29 ((I 215 29) ||| ((1 : Int32) <<< (x1 &&& 31)))) 215 28) + 1)) 215 32), .ref 215], (zS0, R, zu (zu I 215 29 ((I 215 29) ||| ((1 : Int32) <<< (x1 &&& 31)))) 215 28 (((zu I 215 29 ((I 215 29) ||| ((1 : Int32) <<< (x1 &&& 31)))) 215 28) + 1), J))) rfl ?_
  refine zEv_gr rfl rfl rfl (by decide) (hR 215 33 226 rfl) ?_
  refine zEv_k 1 (f' := (32, [some (.ref 215), some (.int x1), none], [.int x1, .ref 226, .int ((zu (zu I 215 29 ((I 215 29) ||| ((1 : Int32) <<< (x1 &&& 31)))) 215 28 (((zu I 215 29 ((I 215 29) ||| ((1 : Int32) <<< (x1 &&& 31)))) 215 28) + 1)) 215 32), .ref 215], (zS0, R, zu (zu I 215 29 ((I 215 29) ||| ((1 : Int32) <<< (x1 &&& 31)))) 215 28 (((zu I 215 29 ((I 215 29) ||| ((1 : Int32) <<< (x1 &&& 31)))) 215 28) + 1), J))) rfl ?_
  refine zEv_ial rfl rfl (by decide) h32 ?_
  refine zEv_k 4 (f' := (39, [some (.ref 215), some (.int x1), some (.int 0)], [], (zS0, R, zu (zu (zu I 215 29 ((I 215 29) ||| ((1 : Int32) <<< (x1 &&& 31)))) 215 28 (((zu I 215 29 ((I 215 29) ||| ((1 : Int32) <<< (x1 &&& 31)))) 215 28) + 1)) 215 32 (((zu (zu I 215 29 ((I 215 29) ||| ((1 : Int32) <<< (x1 &&& 31)))) 215 28 (((zu I 215 29 ((I 215 29) ||| ((1 : Int32) <<< (x1 &&& 31)))) 215 28) + 1)) 215 32) + ((zu (zu I 215 29 ((I 215 29) ||| ((1 : Int32) <<< (x1 &&& 31)))) 215 28 (((zu I 215 29 ((I 215 29) ||| ((1 : Int32) <<< (x1 &&& 31)))) 215 28) + 1)) 226 (x1).toNatClampNeg)), J))) rfl ?_
  exact k1
theorem b_185_39 {X : zX} {d : Nat} {R : zR} {I : zI} {J : zJ} {r : zA} {x1 : Int32} {x2 : Int32} (k1 : (I 215 23) ≤ x2 → zEv X d zm_185 (103, [some (.ref 215), some (.int x1), some (.int x2)], [], (zS0, R, I, J)) r) (k2 : ¬ ((I 215 23) ≤ x2) → zEv X d zm_185 (47, [some (.ref 215), some (.int x1), some (.int x2)], [], (zS0, R, I, J)) r) : zEv X d zm_185 (39, [some (.ref 215), some (.int x1), some (.int x2)], [], (zS0, R, I, J)) r := by
  refine zEv_k 4 (f' := (if (I 215 23) ≤ x2 then 103 else 47, [some (.ref 215), some (.int x1), some (.int x2)], [], (zS0, R, I, J))) rfl ?_
  exact zEv_if k1 k2
theorem b_185_47 {X : zX} {d : Nat} {R : zR} {I : zI} {J : zJ} {r : zA} {x1 : Int32} {x2 : Int32} (hR : zRok R) (h53 : zin x2 7) (k1 : ¬ (zf_has (I 215 29) x2) = 0 → zEv X (d + 1) zm_185 (94, [some (.ref 215), some (.int x1), some (.int x2)], [.int (I 227 (x2).toNatClampNeg), .int x2, .ref 227], (zS0, R, I, J)) r) (k2 : ¬ (¬ (zf_has (I 215 29) x2) = 0) → zEv X (d + 1) zm_185 (65, [some (.ref 215), some (.int x1), some (.int x2)], [.int (I 227 (x2).toNatClampNeg), .int x2, .ref 227], (zS0, R, I, J)) r) : zEv X (d + 1) zm_185 (47, [some (.ref 215), some (.int x1), some (.int x2)], [], (zS0, R, I, J)) r := by
  refine zEv_k 1 (f' := (48, [some (.ref 215), some (.int x1), some (.int x2)], [.ref 215], (zS0, R, I, J))) rfl ?_
  refine zEv_gr rfl rfl rfl (by decide) (hR 215 34 227 rfl) ?_
  refine zEv_k 2 (f' := (53, [some (.ref 215), some (.int x1), some (.int x2)], [.int x2, .ref 227, .int x2, .ref 227], (zS0, R, I, J))) rfl ?_
  refine zEv_ial rfl rfl (by decide) h53 ?_
  refine zEv_k 3 (f' := (59, [some (.ref 215), some (.int x1), some (.int x2)], [.int x2, .int (I 215 29), .int (I 227 (x2).toNatClampNeg), .int x2, .ref 227], (zS0, R, I, J))) rfl ?_
  refine zEv_c (fun _ => rfl) rfl ev_zf_has rfl rfl ?_
  refine zEv_k 1 (f' := (if ¬ (zf_has (I 215 29) x2) = 0 then 94 else 65, [some (.ref 215), some (.int x1), some (.int x2)], [.int (I 227 (x2).toNatClampNeg), .int x2, .ref 227], (zS0, R, I, J))) rfl ?_
  exact zEv_if k1 k2
theorem b_185_65 {X : zX} {d : Nat} {R : zR} {I : zI} {J : zJ} {r : zA} {x1 : Int32} {x2 : Int32} {s1 : Int32} {s2 : Int32} (hR : zRok R) (h70 : zin x2 7) (h76 : zin x1 7) (k1 : (I 215 25) < (zf_away (I 229 (x2).toNatClampNeg) (I 229 (x1).toNatClampNeg)) → zEv X (d + 1) zm_185 (94, [some (.ref 215), some (.int x1), some (.int x2)], [.int s2, .int s1, .ref 227], (zS0, R, I, J)) r) (k2 : ¬ ((I 215 25) < (zf_away (I 229 (x2).toNatClampNeg) (I 229 (x1).toNatClampNeg))) → zEv X (d + 1) zm_185 (87, [some (.ref 215), some (.int x1), some (.int x2)], [.int s2, .int s1, .ref 227], (zS0, R, I, J)) r) : zEv X (d + 1) zm_185 (65, [some (.ref 215), some (.int x1), some (.int x2)], [.int s2, .int s1, .ref 227], (zS0, R, I, J)) r := by
  refine zEv_k 1 (f' := (66, [some (.ref 215), some (.int x1), some (.int x2)], [.ref 215, .int s2, .int s1, .ref 227], (zS0, R, I, J))) rfl ?_
  refine zEv_gr rfl rfl rfl (by decide) (hR 215 36 229 rfl) ?_
  refine zEv_k 1 (f' := (70, [some (.ref 215), some (.int x1), some (.int x2)], [.int x2, .ref 229, .int s2, .int s1, .ref 227], (zS0, R, I, J))) rfl ?_
  refine zEv_ial rfl rfl (by decide) h70 ?_
  refine zEv_k 1 (f' := (72, [some (.ref 215), some (.int x1), some (.int x2)], [.ref 215, .int (I 229 (x2).toNatClampNeg), .int s2, .int s1, .ref 227], (zS0, R, I, J))) rfl ?_
  refine zEv_gr rfl rfl rfl (by decide) (hR 215 36 229 rfl) ?_
  refine zEv_k 1 (f' := (76, [some (.ref 215), some (.int x1), some (.int x2)], [.int x1, .ref 229, .int (I 229 (x2).toNatClampNeg), .int s2, .int s1, .ref 227], (zS0, R, I, J))) rfl ?_
  refine zEv_ial rfl rfl (by decide) h76 ?_
  refine zEv_c (fun _ => rfl) rfl ev_zf_away rfl rfl ?_
  refine zEv_k 3 (f' := (if (I 215 25) < (zf_away (I 229 (x2).toNatClampNeg) (I 229 (x1).toNatClampNeg)) then 94 else 87, [some (.ref 215), some (.int x1), some (.int x2)], [.int s2, .int s1, .ref 227], (zS0, R, I, J))) rfl ?_
  exact zEv_if k1 k2
theorem b_185_87 {X : zX} {d : Nat} {R : zR} {I : zI} {J : zJ} {r : zA} {x1 : Int32} {x2 : Int32} {s1 : Int32} {s2 : Int32} (k1 : zEv X d zm_185 (95, [some (.ref 215), some (.int x1), some (.int x2)], [.int (I 215 24), .int s2, .int s1, .ref 227], (zS0, R, I, J)) r) : zEv X d zm_185 (87, [some (.ref 215), some (.int x1), some (.int x2)], [.int s2, .int s1, .ref 227], (zS0, R, I, J)) r := by
  refine zEv_k 3 (f' := (95, [some (.ref 215), some (.int x1), some (.int x2)], [.int (I 215 24), .int s2, .int s1, .ref 227], (zS0, R, I, J))) rfl ?_
  exact k1
theorem b_185_94 {X : zX} {d : Nat} {R : zR} {I : zI} {J : zJ} {r : zA} {x1 : Int32} {x2 : Int32} {s1 : Int32} {s2 : Int32} (k1 : zEv X d zm_185 (95, [some (.ref 215), some (.int x1), some (.int x2)], [.int 0, .int s2, .int s1, .ref 227], (zS0, R, I, J)) r) : zEv X d zm_185 (94, [some (.ref 215), some (.int x1), some (.int x2)], [.int s2, .int s1, .ref 227], (zS0, R, I, J)) r := by
  refine zEv_k 1 (f' := (95, [some (.ref 215), some (.int x1), some (.int x2)], [.int 0, .int s2, .int s1, .ref 227], (zS0, R, I, J))) rfl ?_
  exact k1
theorem b_185_95 {X : zX} {d : Nat} {R : zR} {I : zI} {J : zJ} {r : zA} {x1 : Int32} {x2 : Int32} {s1 : Int32} {s2 : Int32} {s3 : Int32} (h96 : zin s1 7) (k1 : zEv X d zm_185 (39, [some (.ref 215), some (.int x1), some (.int (x2 + 1))], [], (zS0, R, zu I 227 (s1).toNatClampNeg (s2 + s3), J)) r) : zEv X d zm_185 (95, [some (.ref 215), some (.int x1), some (.int x2)], [.int s3, .int s2, .int s1, .ref 227], (zS0, R, I, J)) r := by
  refine zEv_k 1 (f' := (96, [some (.ref 215), some (.int x1), some (.int x2)], [.int (s2 + s3), .int s1, .ref 227], (zS0, R, I, J))) rfl ?_
  refine zEv_ias rfl rfl (by decide) h96 ?_
  refine zEv_k 2 (f' := (39, [some (.ref 215), some (.int x1), some (.int (x2 + 1))], [], (zS0, R, zu I 227 (s1).toNatClampNeg (s2 + s3), J))) rfl ?_
  exact k1
theorem b_185_103 {X : zX} {d : Nat} {R : zR} {I : zI} {J : zJ} {x1 : Int32} {x2 : Int32} : zEv X d zm_185 (103, [some (.ref 215), some (.int x1), some (.int x2)], [], (zS0, R, I, J)) (none, (zS0, R, I, J)) := by
  exact zEv_r rfl
theorem b_186_0 {X : zX} {d : Nat} {R : zR} {I : zI} {J : zJ} {r : zA} (k1 : zEv X d zm_186 (2, [some (.ref 215), some (.int 0)], [], (zS0, R, I, J)) r) : zEv X d zm_186 (0, [some (.ref 215), none], [], (zS0, R, I, J)) r := by
  refine zEv_k 2 (f' := (2, [some (.ref 215), some (.int 0)], [], (zS0, R, I, J))) rfl ?_
  exact k1
theorem b_186_2 {X : zX} {d : Nat} {R : zR} {I : zI} {J : zJ} {r : zA} {x1 : Int32} (k1 : (I 215 23) ≤ x1 → zEv X d zm_186 (44, [some (.ref 215), some (.int x1)], [], (zS0, R, I, J)) r) (k2 : ¬ ((I 215 23) ≤ x1) → zEv X d zm_186 (10, [some (.ref 215), some (.int x1)], [], (zS0, R, I, J)) r) : zEv X d zm_186 (2, [some (.ref 215), some (.int x1)], [], (zS0, R, I, J)) r := by
  refine zEv_k 4 (f' := (if (I 215 23) ≤ x1 then 44 else 10, [some (.ref 215), some (.int x1)], [], (zS0, R, I, J))) rfl ?_
  exact zEv_if k1 k2
theorem b_186_10 {X : zX} {d : Nat} {R : zR} {I : zI} {J : zJ} {r : zA} {x1 : Int32} (k1 : ¬ (zf_has (I 215 29) x1) = 0 → zEv X (d + 1) zm_186 (38, [some (.ref 215), some (.int x1)], [], (zS0, R, I, J)) r) (k2 : ¬ (¬ (zf_has (I 215 29) x1) = 0) → zEv X (d + 1) zm_186 (21, [some (.ref 215), some (.int x1)], [], (zS0, R, I, J)) r) : zEv X (d + 1) zm_186 (10, [some (.ref 215), some (.int x1)], [], (zS0, R, I, J)) r := by
  refine zEv_k 3 (f' := (15, [some (.ref 215), some (.int x1)], [.int x1, .int (I 215 29)], (zS0, R, I, J))) rfl ?_
  refine zEv_c (fun _ => rfl) rfl ev_zf_has rfl rfl ?_
  refine zEv_k 1 (f' := (if ¬ (zf_has (I 215 29) x1) = 0 then 38 else 21, [some (.ref 215), some (.int x1)], [], (zS0, R, I, J))) rfl ?_
  exact zEv_if k1 k2
theorem b_186_21 {X : zX} {d : Nat} {R : zR} {I : zI} {J : zJ} {r : zA} {x1 : Int32} (hR : zRok R) (h26 : zin x1 7) (h32 : zin x1 7) (k1 : (I 227 (x1).toNatClampNeg) ≤ (I 228 (x1).toNatClampNeg) → zEv X d zm_186 (38, [some (.ref 215), some (.int x1)], [], (zS0, R, I, J)) r) (k2 : ¬ ((I 227 (x1).toNatClampNeg) ≤ (I 228 (x1).toNatClampNeg)) → zEv X d zm_186 (36, [some (.ref 215), some (.int x1)], [], (zS0, R, I, J)) r) : zEv X d zm_186 (21, [some (.ref 215), some (.int x1)], [], (zS0, R, I, J)) r := by
  refine zEv_k 1 (f' := (22, [some (.ref 215), some (.int x1)], [.ref 215], (zS0, R, I, J))) rfl ?_
  refine zEv_gr rfl rfl rfl (by decide) (hR 215 34 227 rfl) ?_
  refine zEv_k 1 (f' := (26, [some (.ref 215), some (.int x1)], [.int x1, .ref 227], (zS0, R, I, J))) rfl ?_
  refine zEv_ial rfl rfl (by decide) h26 ?_
  refine zEv_k 1 (f' := (28, [some (.ref 215), some (.int x1)], [.ref 215, .int (I 227 (x1).toNatClampNeg)], (zS0, R, I, J))) rfl ?_
  refine zEv_gr rfl rfl rfl (by decide) (hR 215 35 228 rfl) ?_
  refine zEv_k 1 (f' := (32, [some (.ref 215), some (.int x1)], [.int x1, .ref 228, .int (I 227 (x1).toNatClampNeg)], (zS0, R, I, J))) rfl ?_
  refine zEv_ial rfl rfl (by decide) h32 ?_
  refine zEv_k 1 (f' := (if (I 227 (x1).toNatClampNeg) ≤ (I 228 (x1).toNatClampNeg) then 38 else 36, [some (.ref 215), some (.int x1)], [], (zS0, R, I, J))) rfl ?_
  exact zEv_if k1 k2
theorem b_186_36 {X : zX} {d : Nat} {R : zR} {I : zI} {J : zJ} {x1 : Int32} : zEv X d zm_186 (36, [some (.ref 215), some (.int x1)], [], (zS0, R, I, J)) (some (.int x1), (zS0, R, I, J)) := by
  refine zEv_k 1 (f' := (37, [some (.ref 215), some (.int x1)], [.int x1], (zS0, R, I, J))) rfl ?_
  exact zEv_r rfl
theorem b_186_38 {X : zX} {d : Nat} {R : zR} {I : zI} {J : zJ} {r : zA} {x1 : Int32} (k1 : zEv X d zm_186 (2, [some (.ref 215), some (.int (x1 + 1))], [], (zS0, R, I, J)) r) : zEv X d zm_186 (38, [some (.ref 215), some (.int x1)], [], (zS0, R, I, J)) r := by
  refine zEv_k 2 (f' := (2, [some (.ref 215), some (.int (x1 + 1))], [], (zS0, R, I, J))) rfl ?_
  exact k1
theorem b_186_44 {X : zX} {d : Nat} {R : zR} {I : zI} {J : zJ} {x1 : Int32} : zEv X d zm_186 (44, [some (.ref 215), some (.int x1)], [], (zS0, R, I, J)) (some (.int (-1)), (zS0, R, I, J)) := by
  refine zEv_k 1 (f' := (45, [some (.ref 215), some (.int x1)], [.int (-1)], (zS0, R, I, J))) rfl ?_
  exact zEv_r rfl
theorem b_187_0 {X : zX} {d : Nat} {R : zR} {I : zI} {J : zJ} {r : zA} {w : Int32} {R' : zR} {I' : zI} {J' : zJ} (hc : zEv X d zm_186 (0, [some (.ref 215), none], [], (zS0, R, I, J)) (some (.int w), (zS0, R', I', J'))) (k1 : zEv X (d + 1) zm_187 (4, [some (.ref 215), none], [.int w], (zS0, R', I', J')) r) : zEv X (d + 1) zm_187 (0, [some (.ref 215), none], [], (zS0, R, I, J)) r := by
  refine zEv_k 1 (f' := (1, [some (.ref 215), none], [.ref 215], (zS0, R, I, J))) rfl ?_
  exact zEv_c (fun _ => rfl) rfl hc rfl rfl k1
theorem b_187_4 {X : zX} {d : Nat} {R : zR} {I : zI} {J : zJ} {r : zA} {s0 : Int32} (k1 : zEv X d zm_187 (5, [some (.ref 215), some (.int s0)], [], (zS0, R, I, J)) r) : zEv X d zm_187 (4, [some (.ref 215), none], [.int s0], (zS0, R, I, J)) r := by
  refine zEv_k 1 (f' := (5, [some (.ref 215), some (.int s0)], [], (zS0, R, I, J))) rfl ?_
  exact k1
theorem b_187_5 {X : zX} {d : Nat} {R : zR} {I : zI} {J : zJ} {r : zA} {x1 : Int32} (k1 : x1 = (-1) → zEv X d zm_187 (23, [some (.ref 215), some (.int x1)], [], (zS0, R, I, J)) r) (k2 : ¬ (x1 = (-1)) → zEv X d zm_187 (10, [some (.ref 215), some (.int x1)], [], (zS0, R, I, J)) r) : zEv X d zm_187 (5, [some (.ref 215), some (.int x1)], [], (zS0, R, I, J)) r := by
  refine zEv_k 3 (f' := (if x1 = (-1) then 23 else 10, [some (.ref 215), some (.int x1)], [], (zS0, R, I, J))) rfl ?_
  exact zEv_if k1 k2
theorem b_187_10 {X : zX} {d : Nat} {R : zR} {I : zI} {J : zJ} {r : zA} {x1 : Int32} {R' : zR} {I' : zI} {J' : zJ} (hc : zEv X d zm_185 (0, [some (.ref 215), some (.int x1), none], [], (zS0, R, I, J)) (none, (zS0, R', I', J'))) (k1 : zEv X (d + 1) zm_187 (15, [some (.ref 215), some (.int x1)], [], (zS0, R', I', J')) r) : zEv X (d + 1) zm_187 (10, [some (.ref 215), some (.int x1)], [], (zS0, R, I, J)) r := by
  refine zEv_k 2 (f' := (12, [some (.ref 215), some (.int x1)], [.int x1, .ref 215], (zS0, R, I, J))) rfl ?_
  exact zEv_c (fun _ => rfl) rfl hc rfl rfl k1
theorem b_187_15 {X : zX} {d : Nat} {R : zR} {I : zI} {J : zJ} {r : zA} {x1 : Int32} {w : Int32} {R' : zR} {I' : zI} {J' : zJ} (hc : zEv X d zm_186 (0, [some (.ref 215), none], [], (zS0, R, I, J)) (some (.int w), (zS0, R', I', J'))) (k1 : zEv X (d + 1) zm_187 (19, [some (.ref 215), some (.int x1)], [.int w], (zS0, R', I', J')) r) : zEv X (d + 1) zm_187 (15, [some (.ref 215), some (.int x1)], [], (zS0, R, I, J)) r := by
  refine zEv_k 1 (f' := (16, [some (.ref 215), some (.int x1)], [.ref 215], (zS0, R, I, J))) rfl ?_
  exact zEv_c (fun _ => rfl) rfl hc rfl rfl k1
theorem b_187_19 {X : zX} {d : Nat} {R : zR} {I : zI} {J : zJ} {r : zA} {x1 : Int32} {s0 : Int32} (k1 : zEv X d zm_187 (5, [some (.ref 215), some (.int s0)], [], (zS0, R, I, J)) r) : zEv X d zm_187 (19, [some (.ref 215), some (.int x1)], [.int s0], (zS0, R, I, J)) r := by
  refine zEv_k 2 (f' := (5, [some (.ref 215), some (.int s0)], [], (zS0, R, I, J))) rfl ?_
  exact k1
theorem b_187_23 {X : zX} {d : Nat} {R : zR} {I : zI} {J : zJ} {x1 : Int32} : zEv X d zm_187 (23, [some (.ref 215), some (.int x1)], [], (zS0, R, I, J)) (none, (zS0, R, I, J)) := by
  exact zEv_r rfl
theorem b_188_0 {X : zX} {d : Nat} {R : zR} {I : zI} {J : zJ} {r : zA} {x1 : Int32} {x2 : Int32} {w : Int32} {R' : zR} {I' : zI} {J' : zJ} (hc : zEv X d zm_181 (0, [some (.ref 215), some (.int x1)], [], (zS0, R, zu I 215 0 0, J)) (some (.int w), (zS0, R', I', J'))) (k1 : zEv X (d + 1) zm_188 (10, [some (.ref 215), some (.int x1), some (.int x2), none], [.int w], (zS0, R', I', J')) r) : zEv X (d + 1) zm_188 (0, [some (.ref 215), some (.int x1), some (.int x2), none], [], (zS0, R, I, J)) r := by
  refine zEv_k 5 (f' := (7, [some (.ref 215), some (.int x1), some (.int x2), none], [.int x1, .ref 215], (zS0, R, zu I 215 0 0, J))) rfl ?_
  exact zEv_c (fun _ => rfl) rfl hc rfl rfl k1
theorem b_188_10 {X : zX} {d : Nat} {R : zR} {I : zI} {J : zJ} {r : zA} {x1 : Int32} {x2 : Int32} {s0 : Int32} (k1 : ¬ s0 = 0 → zEv X d zm_188 (15, [some (.ref 215), some (.int x1), some (.int x2), none], [], (zS0, R, I, J)) r) (k2 : ¬ (¬ s0 = 0) → zEv X d zm_188 (13, [some (.ref 215), some (.int x1), some (.int x2), none], [], (zS0, R, I, J)) r) : zEv X d zm_188 (10, [some (.ref 215), some (.int x1), some (.int x2), none], [.int s0], (zS0, R, I, J)) r := by
  refine zEv_k 1 (f' := (if ¬ s0 = 0 then 15 else 13, [some (.ref 215), some (.int x1), some (.int x2), none], [], (zS0, R, I, J))) rfl ?_
  exact zEv_if k1 k2
theorem b_188_13 {X : zX} {d : Nat} {R : zR} {I : zI} {J : zJ} {x1 : Int32} {x2 : Int32} : zEv X d zm_188 (13, [some (.ref 215), some (.int x1), some (.int x2), none], [], (zS0, R, I, J)) (some (.int (-1)), (zS0, R, I, J)) := by
  refine zEv_k 1 (f' := (14, [some (.ref 215), some (.int x1), some (.int x2), none], [.int (-1)], (zS0, R, I, J))) rfl ?_
  exact zEv_r rfl
theorem b_188_15 {X : zX} {d : Nat} {R : zR} {I : zI} {J : zJ} {r : zA} {x1 : Int32} {x2 : Int32} (k1 : 10 ≤ x2 → zEv X d zm_188 (45, [some (.ref 215), some (.int x1), some (.int x2), some (.int (x2 - x2 / 10 * 10))], [], (zS0, R, I, J)) r) (k2 : ¬ (10 ≤ x2) → zEv X d zm_188 (26, [some (.ref 215), some (.int x1), some (.int x2), some (.int (x2 - x2 / 10 * 10))], [], (zS0, R, I, J)) r) : zEv X d zm_188 (15, [some (.ref 215), some (.int x1), some (.int x2), none], [], (zS0, R, I, J)) r := by
  refine zEv_k 2 (f' := (18, [some (.ref 215), some (.int x1), some (.int x2), none], [.int 10, .int x2], (zS0, R, I, J))) rfl ?_
  refine zEv_rem rfl (by decide) ?_
  refine zEv_k 4 (f' := (if 10 ≤ x2 then 45 else 26, [some (.ref 215), some (.int x1), some (.int x2), some (.int (x2 - x2 / 10 * 10))], [], (zS0, R, I, J))) rfl ?_
  exact zEv_if k1 k2
theorem b_188_26 {X : zX} {d : Nat} {R : zR} {I : zI} {J : zJ} {r : zA} {x1 : Int32} {x2 : Int32} {x3 : Int32} (k1 : (zf_in x2 0 2) = 0 → zEv X (d + 1) zm_188 (43, [some (.ref 215), some (.int x1), some (.int x2), some (.int x3)], [], (zS0, R, I, J)) r) (k2 : ¬ ((zf_in x2 0 2) = 0) → zEv X (d + 1) zm_188 (35, [some (.ref 215), some (.int x1), some (.int x2), some (.int x3)], [], (zS0, R, I, J)) r) : zEv X (d + 1) zm_188 (26, [some (.ref 215), some (.int x1), some (.int x2), some (.int x3)], [], (zS0, R, I, J)) r := by
  refine zEv_k 3 (f' := (29, [some (.ref 215), some (.int x1), some (.int x2), some (.int x3)], [.int 2, .int 0, .int x2], (zS0, R, I, J))) rfl ?_
  refine zEv_c (fun _ => rfl) rfl ev_zf_in rfl rfl ?_
  refine zEv_k 1 (f' := (if (zf_in x2 0 2) = 0 then 43 else 35, [some (.ref 215), some (.int x1), some (.int x2), some (.int x3)], [], (zS0, R, I, J))) rfl ?_
  exact zEv_if k1 k2
theorem b_188_35 {X : zX} {d : Nat} {R : zR} {I : zI} {J : zJ} {r : zA} {x1 : Int32} {x2 : Int32} {x3 : Int32} {w : Int32} {R' : zR} {I' : zI} {J' : zJ} (hc : zEv X d zm_179 (0, [some (.ref 215), some (.int x2)], [], (zS0, R, I, J)) (some (.int w), (zS0, R', I', J'))) (k1 : zEv X (d + 1) zm_188 (40, [some (.ref 215), some (.int x1), some (.int x2), some (.int x3)], [.int w], (zS0, R', I', J')) r) : zEv X (d + 1) zm_188 (35, [some (.ref 215), some (.int x1), some (.int x2), some (.int x3)], [], (zS0, R, I, J)) r := by
  refine zEv_k 2 (f' := (37, [some (.ref 215), some (.int x1), some (.int x2), some (.int x3)], [.int x2, .ref 215], (zS0, R, I, J))) rfl ?_
  exact zEv_c (fun _ => rfl) rfl hc rfl rfl k1
theorem b_188_40 {X : zX} {d : Nat} {R : zR} {I : zI} {J : zJ} {x1 : Int32} {x2 : Int32} {x3 : Int32} {s0 : Int32} : zEv X d zm_188 (40, [some (.ref 215), some (.int x1), some (.int x2), some (.int x3)], [.int s0], (zS0, R, I, J)) (some (.int s0), (zS0, R, I, J)) := by
  refine zEv_k 1 (f' := (44, [some (.ref 215), some (.int x1), some (.int x2), some (.int x3)], [.int s0], (zS0, R, I, J))) rfl ?_
  exact zEv_r rfl
theorem b_188_43 {X : zX} {d : Nat} {R : zR} {I : zI} {J : zJ} {x1 : Int32} {x2 : Int32} {x3 : Int32} : zEv X d zm_188 (43, [some (.ref 215), some (.int x1), some (.int x2), some (.int x3)], [], (zS0, R, I, J)) (some (.int (-1)), (zS0, R, I, J)) := by
  refine zEv_k 1 (f' := (44, [some (.ref 215), some (.int x1), some (.int x2), some (.int x3)], [.int (-1)], (zS0, R, I, J))) rfl ?_
  exact zEv_r rfl
theorem b_188_45 {X : zX} {d : Nat} {R : zR} {I : zI} {J : zJ} {r : zA} {x1 : Int32} {x2 : Int32} {x3 : Int32} (k1 : 80 ≤ x2 → zEv X d zm_188 (79, [some (.ref 215), some (.int x1), some (.int x2), some (.int x3)], [], (zS0, R, I, J)) r) (k2 : ¬ (80 ≤ x2) → zEv X d zm_188 (51, [some (.ref 215), some (.int x1), some (.int x2), some (.int x3)], [], (zS0, R, I, J)) r) : zEv X d zm_188 (45, [some (.ref 215), some (.int x1), some (.int x2), some (.int x3)], [], (zS0, R, I, J)) r := by
  refine zEv_k 3 (f' := (if 80 ≤ x2 then 79 else 51, [some (.ref 215), some (.int x1), some (.int x2), some (.int x3)], [], (zS0, R, I, J))) rfl ?_
  exact zEv_if k1 k2
theorem b_188_51 {X : zX} {d : Nat} {R : zR} {I : zI} {J : zJ} {r : zA} {x1 : Int32} {x2 : Int32} {x3 : Int32} (k1 : (I 215 23) ≤ x3 → zEv X d zm_188 (79, [some (.ref 215), some (.int x1), some (.int x2), some (.int x3)], [], (zS0, R, I, J)) r) (k2 : ¬ ((I 215 23) ≤ x3) → zEv X d zm_188 (59, [some (.ref 215), some (.int x1), some (.int x2), some (.int x3)], [], (zS0, R, I, J)) r) : zEv X d zm_188 (51, [some (.ref 215), some (.int x1), some (.int x2), some (.int x3)], [], (zS0, R, I, J)) r := by
  refine zEv_k 4 (f' := (if (I 215 23) ≤ x3 then 79 else 59, [some (.ref 215), some (.int x1), some (.int x2), some (.int x3)], [], (zS0, R, I, J))) rfl ?_
  exact zEv_if k1 k2
theorem b_188_59 {X : zX} {d : Nat} {R : zR} {I : zI} {J : zJ} {r : zA} {x1 : Int32} {x2 : Int32} {x3 : Int32} {w : Int32} {R' : zR} {I' : zI} {J' : zJ} (hc : zEv X d zm_179 (0, [some (.ref 215), some (.int ((3 + (7 * ((x2 / 10) - 1))) + x3))], [], (zS0, R, I, J)) (some (.int w), (zS0, R', I', J'))) (k1 : zEv X (d + 1) zm_188 (76, [some (.ref 215), some (.int x1), some (.int x2), some (.int x3)], [.int w], (zS0, R', I', J')) r) : zEv X (d + 1) zm_188 (59, [some (.ref 215), some (.int x1), some (.int x2), some (.int x3)], [], (zS0, R, I, J)) r := by
  refine zEv_k 5 (f' := (66, [some (.ref 215), some (.int x1), some (.int x2), some (.int x3)], [.int 10, .int x2, .int 7, .int 3, .ref 215], (zS0, R, I, J))) rfl ?_
  refine zEv_div rfl (by decide) ?_
  refine zEv_k 6 (f' := (73, [some (.ref 215), some (.int x1), some (.int x2), some (.int x3)], [.int ((3 + (7 * ((x2 / 10) - 1))) + x3), .ref 215], (zS0, R, I, J))) rfl ?_
  exact zEv_c (fun _ => rfl) rfl hc rfl rfl k1
theorem b_188_76 {X : zX} {d : Nat} {R : zR} {I : zI} {J : zJ} {x1 : Int32} {x2 : Int32} {x3 : Int32} {s0 : Int32} : zEv X d zm_188 (76, [some (.ref 215), some (.int x1), some (.int x2), some (.int x3)], [.int s0], (zS0, R, I, J)) (some (.int s0), (zS0, R, I, J)) := by
  refine zEv_k 1 (f' := (80, [some (.ref 215), some (.int x1), some (.int x2), some (.int x3)], [.int s0], (zS0, R, I, J))) rfl ?_
  exact zEv_r rfl
theorem b_188_79 {X : zX} {d : Nat} {R : zR} {I : zI} {J : zJ} {x1 : Int32} {x2 : Int32} {x3 : Int32} : zEv X d zm_188 (79, [some (.ref 215), some (.int x1), some (.int x2), some (.int x3)], [], (zS0, R, I, J)) (some (.int (-1)), (zS0, R, I, J)) := by
  refine zEv_k 1 (f' := (80, [some (.ref 215), some (.int x1), some (.int x2), some (.int x3)], [.int (-1)], (zS0, R, I, J))) rfl ?_
  exact zEv_r rfl
theorem b_189_0 {X : zX} {d : Nat} {R : zR} {I : zI} {J : zJ} (hR : zRok R) (h11 : zin (121 * (I 215 37)) 968) : zEv X d zm_189 (0, [some (.ref 215)], [], (zS0, R, I, J)) (some (.int (I 222 (121 * (I 215 37)).toNatClampNeg)), (zS0, R, I, J)) := by
  refine zEv_k 1 (f' := (1, [some (.ref 215)], [.ref 215], (zS0, R, I, J))) rfl ?_
  refine zEv_gr rfl rfl rfl (by decide) (hR 215 7 222 rfl) ?_
  refine zEv_k 4 (f' := (11, [some (.ref 215)], [.int (121 * (I 215 37)), .ref 222], (zS0, R, I, J))) rfl ?_
  refine zEv_ial rfl rfl (by decide) h11 ?_
  exact zEv_r rfl
theorem b_190_0 {X : zX} {d : Nat} {R : zR} {I : zI} {J : zJ} {x1 : Int32} {x2 : Int32} (hR : zRok R) (h19 : zin ((((121 * (I 215 37)) + 1) + (3 * x1)) + x2) 968) : zEv X d zm_190 (0, [some (.ref 215), some (.int x1), some (.int x2)], [], (zS0, R, I, J)) (some (.int (I 222 ((((121 * (I 215 37)) + 1) + (3 * x1)) + x2).toNatClampNeg)), (zS0, R, I, J)) := by
  refine zEv_k 1 (f' := (1, [some (.ref 215), some (.int x1), some (.int x2)], [.ref 215], (zS0, R, I, J))) rfl ?_
  refine zEv_gr rfl rfl rfl (by decide) (hR 215 7 222 rfl) ?_
  refine zEv_k 9 (f' := (16, [some (.ref 215), some (.int x1), some (.int x2)], [.int (3 * x1), .int ((121 * (I 215 37)) + 1), .ref 222], (zS0, R, I, J))) rfl ?_
  refine zEv_k 3 (f' := (19, [some (.ref 215), some (.int x1), some (.int x2)], [.int ((((121 * (I 215 37)) + 1) + (3 * x1)) + x2), .ref 222], (zS0, R, I, J))) rfl ?_
  refine zEv_ial rfl rfl (by decide) h19 ?_
  exact zEv_r rfl
theorem b_191_0 {X : zX} {d : Nat} {R : zR} {I : zI} {J : zJ} {r : zA} {x1 : Int32} {w : Int32} {R' : zR} {I' : zI} {J' : zJ} (hc : zEv X d zm_157 (0, [some (.ref 215), some (.int 1), some (.int x1)], [], (zS0, R, zu I 215 37 x1, J)) (some (.int w), (zS0, R', I', J'))) (k1 : zEv X (d + 1) zm_191 (11, [some (.ref 215), some (.int x1)], [.int w], (zS0, R', I', J')) r) : zEv X (d + 1) zm_191 (0, [some (.ref 215), some (.int x1)], [], (zS0, R, I, J)) r := by
  refine zEv_k 6 (f' := (8, [some (.ref 215), some (.int x1)], [.int x1, .int 1, .ref 215], (zS0, R, zu I 215 37 x1, J))) rfl ?_
  exact zEv_c (fun _ => rfl) rfl hc rfl rfl k1
theorem b_191_11 {X : zX} {d : Nat} {R : zR} {I : zI} {J : zJ} {x1 : Int32} {s0 : Int32} (h11 : zbool s0 = true) : zEv X d zm_191 (11, [some (.ref 215), some (.int x1)], [.int s0], (zS0, R, I, J)) (some (.int s0), (zS0, R, I, J)) := by
  exact zEv_rz rfl rfl h11
theorem b_192_0 {X : zX} {d : Nat} {R : zR} {I : zI} {J : zJ} {r : zA} {x1 : Int32} {x2 : Int32} {x3 : Int32} {w : Int32} {R' : zR} {I' : zI} {J' : zJ} (hc : zEv X d zm_191 (0, [some (.ref 215), some (.int x1)], [], (zS0, R, zu I 215 0 0, J)) (some (.int w), (zS0, R', I', J'))) (k1 : zEv X (d + 1) zm_192 (10, [some (.ref 215), some (.int x1), some (.int x2), some (.int x3)], [.int w], (zS0, R', I', J')) r) : zEv X (d + 1) zm_192 (0, [some (.ref 215), some (.int x1), some (.int x2), some (.int x3)], [], (zS0, R, I, J)) r := by
  refine zEv_k 5 (f' := (7, [some (.ref 215), some (.int x1), some (.int x2), some (.int x3)], [.int x1, .ref 215], (zS0, R, zu I 215 0 0, J))) rfl ?_
  exact zEv_c (fun _ => rfl) rfl hc rfl rfl k1
theorem b_192_10 {X : zX} {d : Nat} {R : zR} {I : zI} {J : zJ} {r : zA} {x1 : Int32} {x2 : Int32} {x3 : Int32} {s0 : Int32} (k1 : ¬ s0 = 0 → zEv X d zm_192 (16, [some (.ref 215), some (.int x1), some (.int x2), some (.int x3)], [], (zS0, R, I, J)) r) (k2 : ¬ (¬ s0 = 0) → zEv X d zm_192 (13, [some (.ref 215), some (.int x1), some (.int x2), some (.int x3)], [], (zS0, R, I, J)) r) : zEv X d zm_192 (10, [some (.ref 215), some (.int x1), some (.int x2), some (.int x3)], [.int s0], (zS0, R, I, J)) r := by
  refine zEv_k 1 (f' := (if ¬ s0 = 0 then 16 else 13, [some (.ref 215), some (.int x1), some (.int x2), some (.int x3)], [], (zS0, R, I, J))) rfl ?_
  exact zEv_if k1 k2
theorem b_192_13 {X : zX} {d : Nat} {R : zR} {I : zI} {J : zJ} {x1 : Int32} {x2 : Int32} {x3 : Int32} : zEv X d zm_192 (13, [some (.ref 215), some (.int x1), some (.int x2), some (.int x3)], [], (zS0, R, I, J)) (some (.int (-2)), (zS0, R, I, J)) := by
  refine zEv_k 1 (f' := (15, [some (.ref 215), some (.int x1), some (.int x2), some (.int x3)], [.int (-2)], (zS0, R, I, J))) rfl ?_
  exact zEv_r rfl
theorem b_192_16 {X : zX} {d : Nat} {R : zR} {I : zI} {J : zJ} {r : zA} {x1 : Int32} {x2 : Int32} {x3 : Int32} (k1 : ¬ x2 = (-1) → zEv X d zm_192 (35, [some (.ref 215), some (.int x1), some (.int x2), some (.int x3)], [], (zS0, R, I, J)) r) (k2 : ¬ (¬ x2 = (-1)) → zEv X d zm_192 (21, [some (.ref 215), some (.int x1), some (.int x2), some (.int x3)], [], (zS0, R, I, J)) r) : zEv X d zm_192 (16, [some (.ref 215), some (.int x1), some (.int x2), some (.int x3)], [], (zS0, R, I, J)) r := by
  refine zEv_k 3 (f' := (if ¬ x2 = (-1) then 35 else 21, [some (.ref 215), some (.int x1), some (.int x2), some (.int x3)], [], (zS0, R, I, J))) rfl ?_
  exact zEv_if k1 k2
theorem b_192_21 {X : zX} {d : Nat} {R : zR} {I : zI} {J : zJ} {r : zA} {x1 : Int32} {x2 : Int32} {x3 : Int32} (k1 : ¬ x3 = 0 → zEv X d zm_192 (32, [some (.ref 215), some (.int x1), some (.int x2), some (.int x3)], [], (zS0, R, I, J)) r) (k2 : ¬ (¬ x3 = 0) → zEv X d zm_192 (25, [some (.ref 215), some (.int x1), some (.int x2), some (.int x3)], [], (zS0, R, I, J)) r) : zEv X d zm_192 (21, [some (.ref 215), some (.int x1), some (.int x2), some (.int x3)], [], (zS0, R, I, J)) r := by
  refine zEv_k 2 (f' := (if ¬ x3 = 0 then 32 else 25, [some (.ref 215), some (.int x1), some (.int x2), some (.int x3)], [], (zS0, R, I, J))) rfl ?_
  exact zEv_if k1 k2
theorem b_192_25 {X : zX} {d : Nat} {R : zR} {I : zI} {J : zJ} {r : zA} {x1 : Int32} {x2 : Int32} {x3 : Int32} {w : Int32} {R' : zR} {I' : zI} {J' : zJ} (hc : zEv X d zm_189 (0, [some (.ref 215)], [], (zS0, R, I, J)) (some (.int w), (zS0, R', I', J'))) (k1 : zEv X (d + 1) zm_192 (29, [some (.ref 215), some (.int x1), some (.int x2), some (.int x3)], [.int w], (zS0, R', I', J')) r) : zEv X (d + 1) zm_192 (25, [some (.ref 215), some (.int x1), some (.int x2), some (.int x3)], [], (zS0, R, I, J)) r := by
  refine zEv_k 1 (f' := (26, [some (.ref 215), some (.int x1), some (.int x2), some (.int x3)], [.ref 215], (zS0, R, I, J))) rfl ?_
  exact zEv_c (fun _ => rfl) rfl hc rfl rfl k1
theorem b_192_29 {X : zX} {d : Nat} {R : zR} {I : zI} {J : zJ} {x1 : Int32} {x2 : Int32} {x3 : Int32} {s0 : Int32} : zEv X d zm_192 (29, [some (.ref 215), some (.int x1), some (.int x2), some (.int x3)], [.int s0], (zS0, R, I, J)) (some (.int s0), (zS0, R, I, J)) := by
  refine zEv_k 1 (f' := (34, [some (.ref 215), some (.int x1), some (.int x2), some (.int x3)], [.int s0], (zS0, R, I, J))) rfl ?_
  exact zEv_r rfl
theorem b_192_32 {X : zX} {d : Nat} {R : zR} {I : zI} {J : zJ} {x1 : Int32} {x2 : Int32} {x3 : Int32} : zEv X d zm_192 (32, [some (.ref 215), some (.int x1), some (.int x2), some (.int x3)], [], (zS0, R, I, J)) (some (.int (-2)), (zS0, R, I, J)) := by
  refine zEv_k 1 (f' := (34, [some (.ref 215), some (.int x1), some (.int x2), some (.int x3)], [.int (-2)], (zS0, R, I, J))) rfl ?_
  exact zEv_r rfl
theorem b_192_35 {X : zX} {d : Nat} {R : zR} {I : zI} {J : zJ} {r : zA} {x1 : Int32} {x2 : Int32} {x3 : Int32} {w : Int32} {R' : zR} {I' : zI} {J' : zJ} (hc : zEv X d zm_189 (0, [some (.ref 215)], [], (zS0, R, I, J)) (some (.int w), (zS0, R', I', J'))) (k1 : zEv X (d + 1) zm_192 (41, [some (.ref 215), some (.int x1), some (.int x2), some (.int x3)], [.int w, .int 0, .int x2], (zS0, R', I', J')) r) : zEv X (d + 1) zm_192 (35, [some (.ref 215), some (.int x1), some (.int x2), some (.int x3)], [], (zS0, R, I, J)) r := by
  refine zEv_k 3 (f' := (38, [some (.ref 215), some (.int x1), some (.int x2), some (.int x3)], [.ref 215, .int 0, .int x2], (zS0, R, I, J))) rfl ?_
  exact zEv_c (fun _ => rfl) rfl hc rfl rfl k1
theorem b_192_41 {X : zX} {d : Nat} {R : zR} {I : zI} {J : zJ} {r : zA} {x1 : Int32} {x2 : Int32} {x3 : Int32} {s0 : Int32} {s1 : Int32} {s2 : Int32} (k1 : (zf_in s0 s1 (s2 - 1)) = 0 → zEv X (d + 1) zm_192 (67, [some (.ref 215), some (.int x1), some (.int x2), some (.int x3)], [], (zS0, R, I, J)) r) (k2 : ¬ ((zf_in s0 s1 (s2 - 1)) = 0) → zEv X (d + 1) zm_192 (49, [some (.ref 215), some (.int x1), some (.int x2), some (.int x3)], [], (zS0, R, I, J)) r) : zEv X (d + 1) zm_192 (41, [some (.ref 215), some (.int x1), some (.int x2), some (.int x3)], [.int s2, .int s1, .int s0], (zS0, R, I, J)) r := by
  refine zEv_k 2 (f' := (43, [some (.ref 215), some (.int x1), some (.int x2), some (.int x3)], [.int (s2 - 1), .int s1, .int s0], (zS0, R, I, J))) rfl ?_
  refine zEv_c (fun _ => rfl) rfl ev_zf_in rfl rfl ?_
  refine zEv_k 1 (f' := (if (zf_in s0 s1 (s2 - 1)) = 0 then 67 else 49, [some (.ref 215), some (.int x1), some (.int x2), some (.int x3)], [], (zS0, R, I, J))) rfl ?_
  exact zEv_if k1 k2
theorem b_192_49 {X : zX} {d : Nat} {R : zR} {I : zI} {J : zJ} {r : zA} {x1 : Int32} {x2 : Int32} {x3 : Int32} (k1 : (zf_in x3 0 2) = 0 → zEv X (d + 1) zm_192 (67, [some (.ref 215), some (.int x1), some (.int x2), some (.int x3)], [], (zS0, R, I, J)) r) (k2 : ¬ ((zf_in x3 0 2) = 0) → zEv X (d + 1) zm_192 (58, [some (.ref 215), some (.int x1), some (.int x2), some (.int x3)], [], (zS0, R, I, J)) r) : zEv X (d + 1) zm_192 (49, [some (.ref 215), some (.int x1), some (.int x2), some (.int x3)], [], (zS0, R, I, J)) r := by
  refine zEv_k 3 (f' := (52, [some (.ref 215), some (.int x1), some (.int x2), some (.int x3)], [.int 2, .int 0, .int x3], (zS0, R, I, J))) rfl ?_
  refine zEv_c (fun _ => rfl) rfl ev_zf_in rfl rfl ?_
  refine zEv_k 1 (f' := (if (zf_in x3 0 2) = 0 then 67 else 58, [some (.ref 215), some (.int x1), some (.int x2), some (.int x3)], [], (zS0, R, I, J))) rfl ?_
  exact zEv_if k1 k2
theorem b_192_58 {X : zX} {d : Nat} {R : zR} {I : zI} {J : zJ} {r : zA} {x1 : Int32} {x2 : Int32} {x3 : Int32} {w : Int32} {R' : zR} {I' : zI} {J' : zJ} (hc : zEv X d zm_190 (0, [some (.ref 215), some (.int x2), some (.int x3)], [], (zS0, R, I, J)) (some (.int w), (zS0, R', I', J'))) (k1 : zEv X (d + 1) zm_192 (64, [some (.ref 215), some (.int x1), some (.int x2), some (.int x3)], [.int w], (zS0, R', I', J')) r) : zEv X (d + 1) zm_192 (58, [some (.ref 215), some (.int x1), some (.int x2), some (.int x3)], [], (zS0, R, I, J)) r := by
  refine zEv_k 3 (f' := (61, [some (.ref 215), some (.int x1), some (.int x2), some (.int x3)], [.int x3, .int x2, .ref 215], (zS0, R, I, J))) rfl ?_
  exact zEv_c (fun _ => rfl) rfl hc rfl rfl k1
theorem b_192_64 {X : zX} {d : Nat} {R : zR} {I : zI} {J : zJ} {x1 : Int32} {x2 : Int32} {x3 : Int32} {s0 : Int32} : zEv X d zm_192 (64, [some (.ref 215), some (.int x1), some (.int x2), some (.int x3)], [.int s0], (zS0, R, I, J)) (some (.int s0), (zS0, R, I, J)) := by
  refine zEv_k 1 (f' := (69, [some (.ref 215), some (.int x1), some (.int x2), some (.int x3)], [.int s0], (zS0, R, I, J))) rfl ?_
  exact zEv_r rfl
theorem b_192_67 {X : zX} {d : Nat} {R : zR} {I : zI} {J : zJ} {x1 : Int32} {x2 : Int32} {x3 : Int32} : zEv X d zm_192 (67, [some (.ref 215), some (.int x1), some (.int x2), some (.int x3)], [], (zS0, R, I, J)) (some (.int (-2)), (zS0, R, I, J)) := by
  refine zEv_k 1 (f' := (69, [some (.ref 215), some (.int x1), some (.int x2), some (.int x3)], [.int (-2)], (zS0, R, I, J))) rfl ?_
  exact zEv_r rfl
theorem b_193_0 {X : zX} {d : Nat} {R : zR} {I : zI} {J : zJ} {r : zA} (k1 : ¬ (I 215 26) = 50 → zEv X d zm_193 (11, [some (.ref 215), none], [], (zS0, R, I, J)) r) (k2 : ¬ (¬ (I 215 26) = 50) → zEv X d zm_193 (9, [some (.ref 215), none], [], (zS0, R, I, J)) r) : zEv X d zm_193 (0, [some (.ref 215), none], [], (zS0, R, I, J)) r := by
  refine zEv_k 4 (f' := (if ¬ (I 215 26) = 50 then 11 else 9, [some (.ref 215), none], [], (zS0, R, I, J))) rfl ?_
  exact zEv_if k1 k2
theorem b_193_9 {X : zX} {d : Nat} {R : zR} {I : zI} {J : zJ}  : zEv X d zm_193 (9, [some (.ref 215), none], [], (zS0, R, I, J)) (some (.int 0), (zS0, R, I, J)) := by
  refine zEv_k 1 (f' := (10, [some (.ref 215), none], [.int 0], (zS0, R, I, J))) rfl ?_
  exact zEv_r rfl
theorem b_193_11 {X : zX} {d : Nat} {R : zR} {I : zI} {J : zJ} {r : zA} (k1 : zEv X d zm_193 (13, [some (.ref 215), some (.int 0)], [], (zS0, R, I, J)) r) : zEv X d zm_193 (11, [some (.ref 215), none], [], (zS0, R, I, J)) r := by
  refine zEv_k 2 (f' := (13, [some (.ref 215), some (.int 0)], [], (zS0, R, I, J))) rfl ?_
  exact k1
theorem b_193_13 {X : zX} {d : Nat} {R : zR} {I : zI} {J : zJ} {r : zA} {x1 : Int32} (k1 : (I 215 23) ≤ x1 → zEv X d zm_193 (80, [some (.ref 215), some (.int x1)], [], (zS0, R, I, J)) r) (k2 : ¬ ((I 215 23) ≤ x1) → zEv X d zm_193 (21, [some (.ref 215), some (.int x1)], [], (zS0, R, I, J)) r) : zEv X d zm_193 (13, [some (.ref 215), some (.int x1)], [], (zS0, R, I, J)) r := by
  refine zEv_k 4 (f' := (if (I 215 23) ≤ x1 then 80 else 21, [some (.ref 215), some (.int x1)], [], (zS0, R, I, J))) rfl ?_
  exact zEv_if k1 k2
theorem b_193_21 {X : zX} {d : Nat} {R : zR} {I : zI} {J : zJ} {r : zA} {x1 : Int32} (k1 : ¬ (zf_has (I 215 29) x1) = 0 → zEv X (d + 1) zm_193 (74, [some (.ref 215), some (.int x1)], [], (zS0, R, I, J)) r) (k2 : ¬ (¬ (zf_has (I 215 29) x1) = 0) → zEv X (d + 1) zm_193 (32, [some (.ref 215), some (.int x1)], [], (zS0, R, I, J)) r) : zEv X (d + 1) zm_193 (21, [some (.ref 215), some (.int x1)], [], (zS0, R, I, J)) r := by
  refine zEv_k 3 (f' := (26, [some (.ref 215), some (.int x1)], [.int x1, .int (I 215 29)], (zS0, R, I, J))) rfl ?_
  refine zEv_c (fun _ => rfl) rfl ev_zf_has rfl rfl ?_
  refine zEv_k 1 (f' := (if ¬ (zf_has (I 215 29) x1) = 0 then 74 else 32, [some (.ref 215), some (.int x1)], [], (zS0, R, I, J))) rfl ?_
  exact zEv_if k1 k2
theorem b_193_32 {X : zX} {d : Nat} {R : zR} {I : zI} {J : zJ} {r : zA} {x1 : Int32} {w : Int32} {R' : zR} {I' : zI} {J' : zJ} (hR : zRok R) (h43 : zin x1 7) (hc : zEv X d zm_179 (0, [some (.ref 215), some (.int (10 + x1))], [], (zS0, R, I, J)) (some (.int w), (zS0, R', I', J'))) (k1 : zEv X (d + 1) zm_193 (52, [some (.ref 215), some (.int x1)], [.int w, .int (I 226 (x1).toNatClampNeg), .int 0, .int x1, .ref 226], (zS0, R', I', J')) r) : zEv X (d + 1) zm_193 (32, [some (.ref 215), some (.int x1)], [], (zS0, R, I, J)) r := by
  refine zEv_k 1 (f' := (33, [some (.ref 215), some (.int x1)], [.ref 215], (zS0, R, I, J))) rfl ?_
  refine zEv_gr rfl rfl rfl (by decide) (hR 215 33 226 rfl) ?_
  refine zEv_k 3 (f' := (39, [some (.ref 215), some (.int x1)], [.ref 215, .int 0, .int x1, .ref 226], (zS0, R, I, J))) rfl ?_
  refine zEv_gr rfl rfl rfl (by decide) (hR 215 33 226 rfl) ?_
  refine zEv_k 1 (f' := (43, [some (.ref 215), some (.int x1)], [.int x1, .ref 226, .int 0, .int x1, .ref 226], (zS0, R, I, J))) rfl ?_
  refine zEv_ial rfl rfl (by decide) h43 ?_
  refine zEv_k 4 (f' := (49, [some (.ref 215), some (.int x1)], [.int (10 + x1), .ref 215, .int (I 226 (x1).toNatClampNeg), .int 0, .int x1, .ref 226], (zS0, R, I, J))) rfl ?_
  exact zEv_c (fun _ => rfl) rfl hc rfl rfl k1
theorem b_193_52 {X : zX} {d : Nat} {R : zR} {I : zI} {J : zJ} {r : zA} {x1 : Int32} {s1 : Int32} {s2 : Int32} {s3 : Int32} {s4 : Int32} {w : Int32} {R' : zR} {I' : zI} {J' : zJ} (hR : zRok R) (h56 : zin s1 7) (h63 : zin x1 7) (hc : zEv X d zm_179 (0, [some (.ref 215), some (.int (24 + x1))], [], (zS0, R, zu I 226 (s1).toNatClampNeg (zf_greater s2 (s3 - s4)), J)) (some (.int w), (zS0, R', I', J'))) (k1 : zEv X (d + 1) zm_193 (72, [some (.ref 215), some (.int x1)], [.int w, .int ((zu I 226 (s1).toNatClampNeg (zf_greater s2 (s3 - s4))) 227 (x1).toNatClampNeg), .int x1, .ref 227], (zS0, R', I', J')) r) : zEv X (d + 1) zm_193 (52, [some (.ref 215), some (.int x1)], [.int s4, .int s3, .int s2, .int s1, .ref 226], (zS0, R, I, J)) r := by
  refine zEv_k 1 (f' := (53, [some (.ref 215), some (.int x1)], [.int (s3 - s4), .int s2, .int s1, .ref 226], (zS0, R, I, J))) rfl ?_
  refine zEv_c (fun _ => rfl) rfl ev_zf_greater rfl rfl ?_
  refine zEv_ias rfl rfl (by decide) h56 ?_
  refine zEv_k 1 (f' := (58, [some (.ref 215), some (.int x1)], [.ref 215], (zS0, R, zu I 226 (s1).toNatClampNeg (zf_greater s2 (s3 - s4)), J))) rfl ?_
  refine zEv_gr rfl rfl rfl (by decide) (hR 215 34 227 rfl) ?_
  refine zEv_k 2 (f' := (63, [some (.ref 215), some (.int x1)], [.int x1, .ref 227, .int x1, .ref 227], (zS0, R, zu I 226 (s1).toNatClampNeg (zf_greater s2 (s3 - s4)), J))) rfl ?_
  refine zEv_ial rfl rfl (by decide) h63 ?_
  refine zEv_k 4 (f' := (69, [some (.ref 215), some (.int x1)], [.int (24 + x1), .ref 215, .int ((zu I 226 (s1).toNatClampNeg (zf_greater s2 (s3 - s4))) 227 (x1).toNatClampNeg), .int x1, .ref 227], (zS0, R, zu I 226 (s1).toNatClampNeg (zf_greater s2 (s3 - s4)), J))) rfl ?_
  exact zEv_c (fun _ => rfl) rfl hc rfl rfl k1
theorem b_193_72 {X : zX} {d : Nat} {R : zR} {I : zI} {J : zJ} {r : zA} {x1 : Int32} {s1 : Int32} {s2 : Int32} {s3 : Int32} (h73 : zin s1 7) (k1 : zEv X d zm_193 (74, [some (.ref 215), some (.int x1)], [], (zS0, R, zu I 227 (s1).toNatClampNeg (s2 + s3), J)) r) : zEv X d zm_193 (72, [some (.ref 215), some (.int x1)], [.int s3, .int s2, .int s1, .ref 227], (zS0, R, I, J)) r := by
  refine zEv_k 1 (f' := (73, [some (.ref 215), some (.int x1)], [.int (s2 + s3), .int s1, .ref 227], (zS0, R, I, J))) rfl ?_
  refine zEv_ias rfl rfl (by decide) h73 ?_
  exact k1
theorem b_193_74 {X : zX} {d : Nat} {R : zR} {I : zI} {J : zJ} {r : zA} {x1 : Int32} (k1 : zEv X d zm_193 (13, [some (.ref 215), some (.int (x1 + 1))], [], (zS0, R, I, J)) r) : zEv X d zm_193 (74, [some (.ref 215), some (.int x1)], [], (zS0, R, I, J)) r := by
  refine zEv_k 2 (f' := (13, [some (.ref 215), some (.int (x1 + 1))], [], (zS0, R, I, J))) rfl ?_
  exact k1
theorem b_193_80 {X : zX} {d : Nat} {R : zR} {I : zI} {J : zJ} {r : zA} {x1 : Int32} {R' : zR} {I' : zI} {J' : zJ} (hc : zEv X d zm_187 (0, [some (.ref 215), none], [], (zS0, R, zu I 215 26 ((I 215 26) + 1), J)) (none, (zS0, R', I', J'))) (k1 : zEv X (d + 1) zm_193 (94, [some (.ref 215), some (.int x1)], [], (zS0, R', I', J')) r) : zEv X (d + 1) zm_193 (80, [some (.ref 215), some (.int x1)], [], (zS0, R, I, J)) r := by
  refine zEv_k 7 (f' := (91, [some (.ref 215), some (.int x1)], [.ref 215], (zS0, R, zu I 215 26 ((I 215 26) + 1), J))) rfl ?_
  exact zEv_c (fun _ => rfl) rfl hc rfl rfl k1
theorem b_193_94 {X : zX} {d : Nat} {R : zR} {I : zI} {J : zJ} {x1 : Int32} : zEv X d zm_193 (94, [some (.ref 215), some (.int x1)], [], (zS0, R, I, J)) (some (.int 1), (zS0, R, I, J)) := by
  refine zEv_k 1 (f' := (95, [some (.ref 215), some (.int x1)], [.int 1], (zS0, R, I, J))) rfl ?_
  exact zEv_r rfl
theorem b_194_0 {X : zX} {d : Nat} {R : zR} {I : zI} {J : zJ} {r : zA} {x1 : Int32} {x2 : Int32} {x3 : Int32} (k1 : ¬ x1 = 0 → zEv X d zm_194 (9, [some (.ref 215), some (.int x1), some (.int x2), some (.int x3)], [], (zS0, R, I, J)) r) (k2 : ¬ (¬ x1 = 0) → zEv X d zm_194 (4, [some (.ref 215), some (.int x1), some (.int x2), some (.int x3)], [], (zS0, R, I, J)) r) : zEv X d zm_194 (0, [some (.ref 215), some (.int x1), some (.int x2), some (.int x3)], [], (zS0, R, I, J)) r := by
  refine zEv_k 2 (f' := (if ¬ x1 = 0 then 9 else 4, [some (.ref 215), some (.int x1), some (.int x2), some (.int x3)], [], (zS0, R, I, J))) rfl ?_
  exact zEv_if k1 k2
theorem b_194_4 {X : zX} {d : Nat} {R : zR} {I : zI} {J : zJ} {r : zA} {x1 : Int32} {x2 : Int32} {x3 : Int32} {w : Int32} {R' : zR} {I' : zI} {J' : zJ} (hc : zEv X d zm_193 (0, [some (.ref 215), none], [], (zS0, R, I, J)) (some (.int w), (zS0, R', I', J'))) (k1 : zEv X (d + 1) zm_194 (8, [some (.ref 215), some (.int x1), some (.int x2), some (.int x3)], [.int w], (zS0, R', I', J')) r) : zEv X (d + 1) zm_194 (4, [some (.ref 215), some (.int x1), some (.int x2), some (.int x3)], [], (zS0, R, I, J)) r := by
  refine zEv_k 1 (f' := (5, [some (.ref 215), some (.int x1), some (.int x2), some (.int x3)], [.ref 215], (zS0, R, I, J))) rfl ?_
  exact zEv_c (fun _ => rfl) rfl hc rfl rfl k1
theorem b_194_8 {X : zX} {d : Nat} {R : zR} {I : zI} {J : zJ} {x1 : Int32} {x2 : Int32} {x3 : Int32} {s0 : Int32} (h8 : zbool s0 = true) : zEv X d zm_194 (8, [some (.ref 215), some (.int x1), some (.int x2), some (.int x3)], [.int s0], (zS0, R, I, J)) (some (.int s0), (zS0, R, I, J)) := by
  exact zEv_rz rfl rfl h8
theorem b_194_9 {X : zX} {d : Nat} {R : zR} {I : zI} {J : zJ} {r : zA} {x1 : Int32} {x2 : Int32} {x3 : Int32} {w : Int32} {R' : zR} {I' : zI} {J' : zJ} (hc : zEv X d zm_183 (0, [some (.ref 215), some (.int x2)], [], (zS0, R, I, J)) (some (.int w), (zS0, R', I', J'))) (k1 : zEv X (d + 1) zm_194 (14, [some (.ref 215), some (.int x1), some (.int x2), some (.int x3)], [.int w], (zS0, R', I', J')) r) : zEv X (d + 1) zm_194 (9, [some (.ref 215), some (.int x1), some (.int x2), some (.int x3)], [], (zS0, R, I, J)) r := by
  refine zEv_k 2 (f' := (11, [some (.ref 215), some (.int x1), some (.int x2), some (.int x3)], [.int x2, .ref 215], (zS0, R, I, J))) rfl ?_
  exact zEv_c (fun _ => rfl) rfl hc rfl rfl k1
theorem b_194_14 {X : zX} {d : Nat} {R : zR} {I : zI} {J : zJ} {r : zA} {x1 : Int32} {x2 : Int32} {x3 : Int32} {s0 : Int32} (k1 : ¬ s0 = 0 → zEv X d zm_194 (19, [some (.ref 215), some (.int x1), some (.int x2), some (.int x3)], [], (zS0, R, I, J)) r) (k2 : ¬ (¬ s0 = 0) → zEv X d zm_194 (17, [some (.ref 215), some (.int x1), some (.int x2), some (.int x3)], [], (zS0, R, I, J)) r) : zEv X d zm_194 (14, [some (.ref 215), some (.int x1), some (.int x2), some (.int x3)], [.int s0], (zS0, R, I, J)) r := by
  refine zEv_k 1 (f' := (if ¬ s0 = 0 then 19 else 17, [some (.ref 215), some (.int x1), some (.int x2), some (.int x3)], [], (zS0, R, I, J))) rfl ?_
  exact zEv_if k1 k2
theorem b_194_17 {X : zX} {d : Nat} {R : zR} {I : zI} {J : zJ} {x1 : Int32} {x2 : Int32} {x3 : Int32} : zEv X d zm_194 (17, [some (.ref 215), some (.int x1), some (.int x2), some (.int x3)], [], (zS0, R, I, J)) (some (.int 0), (zS0, R, I, J)) := by
  refine zEv_k 1 (f' := (18, [some (.ref 215), some (.int x1), some (.int x2), some (.int x3)], [.int 0], (zS0, R, I, J))) rfl ?_
  exact zEv_r rfl
theorem b_194_19 {X : zX} {d : Nat} {R : zR} {I : zI} {J : zJ} {r : zA} {x1 : Int32} {x2 : Int32} {x3 : Int32} (k0 : x1 = 1 → zEv X d zm_194 (48, [some (.ref 215), some (.int x1), some (.int x2), some (.int x3)], [], (zS0, R, I, J)) r) (k1 : x1 = 2 → zEv X d zm_194 (92, [some (.ref 215), some (.int x1), some (.int x2), some (.int x3)], [], (zS0, R, I, J)) r) (k2 : x1 = 3 → zEv X d zm_194 (129, [some (.ref 215), some (.int x1), some (.int x2), some (.int x3)], [], (zS0, R, I, J)) r) (kd : ¬ (1 ≤ (x1 : Int32).toInt ∧ (x1 : Int32).toInt ≤ 3) → zEv X d zm_194 (156, [some (.ref 215), some (.int x1), some (.int x2), some (.int x3)], [], (zS0, R, I, J)) r) : zEv X d zm_194 (19, [some (.ref 215), some (.int x1), some (.int x2), some (.int x3)], [], (zS0, R, I, J)) r := by
  refine zEv_k 1 (f' := (20, [some (.ref 215), some (.int x1), some (.int x2), some (.int x3)], [.int x1], (zS0, R, I, J))) rfl ?_
  refine zEv_ts rfl (by decide) (by decide) (by decide) (fun hh => ?_) (fun j hj hh => ?_)
  · exact kd (by omega)
  · rcases (by have hj2 : j < 3 := hj; omega : j = 0 ∨ j = 1 ∨ j = 2) with rfl | rfl | rfl
    · exact k0 (zeqI hh (by decide))
    · exact k1 (zeqI hh (by decide))
    · exact k2 (zeqI hh (by decide))
theorem b_194_48 {X : zX} {d : Nat} {R : zR} {I : zI} {J : zJ} {r : zA} {x1 : Int32} {x2 : Int32} {x3 : Int32} (k1 : (zf_has ((zu I 215 29 ((I 215 29) ||| ((1 : Int32) <<< (x2 &&& 31)))) 215 31) x2) = 0 → zEv X (d + 1) zm_194 (80, [some (.ref 215), some (.int x1), some (.int x2), some (.int x3)], [.int ((zu I 215 29 ((I 215 29) ||| ((1 : Int32) <<< (x2 &&& 31)))) 215 27), .ref 215], (zS0, R, zu I 215 29 ((I 215 29) ||| ((1 : Int32) <<< (x2 &&& 31))), J)) r) (k2 : ¬ ((zf_has ((zu I 215 29 ((I 215 29) ||| ((1 : Int32) <<< (x2 &&& 31)))) 215 31) x2) = 0) → zEv X (d + 1) zm_194 (76, [some (.ref 215), some (.int x1), some (.int x2), some (.int x3)], [.int ((zu I 215 29 ((I 215 29) ||| ((1 : Int32) <<< (x2 &&& 31)))) 215 27), .ref 215], (zS0, R, zu I 215 29 ((I 215 29) ||| ((1 : Int32) <<< (x2 &&& 31))), J)) r) : zEv X (d + 1) zm_194 (48, [some (.ref 215), some (.int x1), some (.int x2), some (.int x3)], [], (zS0, R, I, J)) r := by
  refine zEv_k 9 (f' := (61, [some (.ref 215), some (.int x1), some (.int x2), some (.int x3)], [.ref 215], (zS0, R, zu I 215 29 ((I 215 29) ||| ((1 : Int32) <<< (x2 &&& 31))), J))) rfl ?_
  refine zEv_k 5 (f' := (70, [some (.ref 215), some (.int x1), some (.int x2), some (.int x3)], [.int x2, .int ((zu I 215 29 ((I 215 29) ||| ((1 : Int32) <<< (x2 &&& 31)))) 215 31), .int ((zu I 215 29 ((I 215 29) ||| ((1 : Int32) <<< (x2 &&& 31)))) 215 27), .ref 215], (zS0, R, zu I 215 29 ((I 215 29) ||| ((1 : Int32) <<< (x2 &&& 31))), J))) rfl ?_
  refine zEv_c (fun _ => rfl) rfl ev_zf_has rfl rfl ?_
  refine zEv_k 1 (f' := (if (zf_has ((zu I 215 29 ((I 215 29) ||| ((1 : Int32) <<< (x2 &&& 31)))) 215 31) x2) = 0 then 80 else 76, [some (.ref 215), some (.int x1), some (.int x2), some (.int x3)], [.int ((zu I 215 29 ((I 215 29) ||| ((1 : Int32) <<< (x2 &&& 31)))) 215 27), .ref 215], (zS0, R, zu I 215 29 ((I 215 29) ||| ((1 : Int32) <<< (x2 &&& 31))), J))) rfl ?_
  exact zEv_if k1 k2
theorem b_194_76 {X : zX} {d : Nat} {R : zR} {I : zI} {J : zJ} {x1 : Int32} {x2 : Int32} {x3 : Int32} {s1 : Int32} : zEv X d zm_194 (76, [some (.ref 215), some (.int x1), some (.int x2), some (.int x3)], [.int s1, .ref 215], (zS0, R, I, J)) (some (.int 1), (zS0, R, zu I 215 27 (s1 + 0), J)) := by
  refine zEv_k 5 (f' := (91, [some (.ref 215), some (.int x1), some (.int x2), some (.int x3)], [.int 1], (zS0, R, zu I 215 27 (s1 + 0), J))) rfl ?_
  exact zEv_r rfl
theorem b_194_80 {X : zX} {d : Nat} {R : zR} {I : zI} {J : zJ} {x1 : Int32} {x2 : Int32} {x3 : Int32} {s1 : Int32} (hR : zRok R) (h85 : zin x2 7) : zEv X d zm_194 (80, [some (.ref 215), some (.int x1), some (.int x2), some (.int x3)], [.int s1, .ref 215], (zS0, R, I, J)) (some (.int 1), (zS0, R, zu I 215 27 (s1 + (I 226 (x2).toNatClampNeg)), J)) := by
  refine zEv_k 1 (f' := (81, [some (.ref 215), some (.int x1), some (.int x2), some (.int x3)], [.ref 215, .int s1, .ref 215], (zS0, R, I, J))) rfl ?_
  refine zEv_gr rfl rfl rfl (by decide) (hR 215 33 226 rfl) ?_
  refine zEv_k 1 (f' := (85, [some (.ref 215), some (.int x1), some (.int x2), some (.int x3)], [.int x2, .ref 226, .int s1, .ref 215], (zS0, R, I, J))) rfl ?_
  refine zEv_ial rfl rfl (by decide) h85 ?_
  refine zEv_k 3 (f' := (91, [some (.ref 215), some (.int x1), some (.int x2), some (.int x3)], [.int 1], (zS0, R, zu I 215 27 (s1 + (I 226 (x2).toNatClampNeg)), J))) rfl ?_
  exact zEv_r rfl
theorem b_194_92 {X : zX} {d : Nat} {R : zR} {I : zI} {J : zJ} {r : zA} {x1 : Int32} {x2 : Int32} {x3 : Int32} (k1 : (zf_has (I 215 30) x2) = 0 → zEv X (d + 1) zm_194 (105, [some (.ref 215), some (.int x1), some (.int x2), some (.int x3)], [], (zS0, R, I, J)) r) (k2 : ¬ ((zf_has (I 215 30) x2) = 0) → zEv X (d + 1) zm_194 (103, [some (.ref 215), some (.int x1), some (.int x2), some (.int x3)], [], (zS0, R, I, J)) r) : zEv X (d + 1) zm_194 (92, [some (.ref 215), some (.int x1), some (.int x2), some (.int x3)], [], (zS0, R, I, J)) r := by
  refine zEv_k 3 (f' := (97, [some (.ref 215), some (.int x1), some (.int x2), some (.int x3)], [.int x2, .int (I 215 30)], (zS0, R, I, J))) rfl ?_
  refine zEv_c (fun _ => rfl) rfl ev_zf_has rfl rfl ?_
  refine zEv_k 1 (f' := (if (zf_has (I 215 30) x2) = 0 then 105 else 103, [some (.ref 215), some (.int x1), some (.int x2), some (.int x3)], [], (zS0, R, I, J))) rfl ?_
  exact zEv_if k1 k2
theorem b_194_103 {X : zX} {d : Nat} {R : zR} {I : zI} {J : zJ} {x1 : Int32} {x2 : Int32} {x3 : Int32} : zEv X d zm_194 (103, [some (.ref 215), some (.int x1), some (.int x2), some (.int x3)], [], (zS0, R, I, J)) (some (.int 0), (zS0, R, I, J)) := by
  refine zEv_k 1 (f' := (104, [some (.ref 215), some (.int x1), some (.int x2), some (.int x3)], [.int 0], (zS0, R, I, J))) rfl ?_
  exact zEv_r rfl
theorem b_194_105 {X : zX} {d : Nat} {R : zR} {I : zI} {J : zJ} {x1 : Int32} {x2 : Int32} {x3 : Int32} (hR : zRok R) (h123 : zin x2 7) (h126 : zin x2 7) : zEv X d zm_194 (105, [some (.ref 215), some (.int x1), some (.int x2), some (.int x3)], [], (zS0, R, I, J)) (some (.int 1), (zS0, R, zu (zu I 215 30 ((I 215 30) ||| ((1 : Int32) <<< (x2 &&& 31)))) 228 (x2).toNatClampNeg (((zu I 215 30 ((I 215 30) ||| ((1 : Int32) <<< (x2 &&& 31)))) 228 (x2).toNatClampNeg) + 5), J)) := by
  refine zEv_k 9 (f' := (118, [some (.ref 215), some (.int x1), some (.int x2), some (.int x3)], [.ref 215], (zS0, R, zu I 215 30 ((I 215 30) ||| ((1 : Int32) <<< (x2 &&& 31))), J))) rfl ?_
  refine zEv_gr rfl rfl rfl (by decide) (hR 215 35 228 rfl) ?_
  refine zEv_k 2 (f' := (123, [some (.ref 215), some (.int x1), some (.int x2), some (.int x3)], [.int x2, .ref 228, .int x2, .ref 228], (zS0, R, zu I 215 30 ((I 215 30) ||| ((1 : Int32) <<< (x2 &&& 31))), J))) rfl ?_
  refine zEv_ial rfl rfl (by decide) h123 ?_
  refine zEv_k 2 (f' := (126, [some (.ref 215), some (.int x1), some (.int x2), some (.int x3)], [.int (((zu I 215 30 ((I 215 30) ||| ((1 : Int32) <<< (x2 &&& 31)))) 228 (x2).toNatClampNeg) + 5), .int x2, .ref 228], (zS0, R, zu I 215 30 ((I 215 30) ||| ((1 : Int32) <<< (x2 &&& 31))), J))) rfl ?_
  refine zEv_ias rfl rfl (by decide) h126 ?_
  refine zEv_k 1 (f' := (128, [some (.ref 215), some (.int x1), some (.int x2), some (.int x3)], [.int 1], (zS0, R, zu (zu I 215 30 ((I 215 30) ||| ((1 : Int32) <<< (x2 &&& 31)))) 228 (x2).toNatClampNeg (((zu I 215 30 ((I 215 30) ||| ((1 : Int32) <<< (x2 &&& 31)))) 228 (x2).toNatClampNeg) + 5), J))) rfl ?_
  exact zEv_r rfl
theorem b_194_129 {X : zX} {d : Nat} {R : zR} {I : zI} {J : zJ} {r : zA} {x1 : Int32} {x2 : Int32} {x3 : Int32} (k1 : (zf_has (I 215 31) x2) = 0 → zEv X (d + 1) zm_194 (142, [some (.ref 215), some (.int x1), some (.int x2), some (.int x3)], [], (zS0, R, I, J)) r) (k2 : ¬ ((zf_has (I 215 31) x2) = 0) → zEv X (d + 1) zm_194 (140, [some (.ref 215), some (.int x1), some (.int x2), some (.int x3)], [], (zS0, R, I, J)) r) : zEv X (d + 1) zm_194 (129, [some (.ref 215), some (.int x1), some (.int x2), some (.int x3)], [], (zS0, R, I, J)) r := by
  refine zEv_k 3 (f' := (134, [some (.ref 215), some (.int x1), some (.int x2), some (.int x3)], [.int x2, .int (I 215 31)], (zS0, R, I, J))) rfl ?_
  refine zEv_c (fun _ => rfl) rfl ev_zf_has rfl rfl ?_
  refine zEv_k 1 (f' := (if (zf_has (I 215 31) x2) = 0 then 142 else 140, [some (.ref 215), some (.int x1), some (.int x2), some (.int x3)], [], (zS0, R, I, J))) rfl ?_
  exact zEv_if k1 k2
theorem b_194_140 {X : zX} {d : Nat} {R : zR} {I : zI} {J : zJ} {x1 : Int32} {x2 : Int32} {x3 : Int32} : zEv X d zm_194 (140, [some (.ref 215), some (.int x1), some (.int x2), some (.int x3)], [], (zS0, R, I, J)) (some (.int 0), (zS0, R, I, J)) := by
  refine zEv_k 1 (f' := (141, [some (.ref 215), some (.int x1), some (.int x2), some (.int x3)], [.int 0], (zS0, R, I, J))) rfl ?_
  exact zEv_r rfl
theorem b_194_142 {X : zX} {d : Nat} {R : zR} {I : zI} {J : zJ} {x1 : Int32} {x2 : Int32} {x3 : Int32} : zEv X d zm_194 (142, [some (.ref 215), some (.int x1), some (.int x2), some (.int x3)], [], (zS0, R, I, J)) (some (.int 1), (zS0, R, zu I 215 31 ((I 215 31) ||| ((1 : Int32) <<< (x2 &&& 31))), J)) := by
  refine zEv_k 9 (f' := (155, [some (.ref 215), some (.int x1), some (.int x2), some (.int x3)], [.int 1], (zS0, R, zu I 215 31 ((I 215 31) ||| ((1 : Int32) <<< (x2 &&& 31))), J))) rfl ?_
  exact zEv_r rfl
theorem b_194_156 {X : zX} {d : Nat} {R : zR} {I : zI} {J : zJ} {r : zA} {x1 : Int32} {x2 : Int32} {x3 : Int32} (hR : zRok R) (h161 : zin x2 7) (k1 : ¬ (I 229 (x2).toNatClampNeg) = x3 → zEv X d zm_194 (168, [some (.ref 215), some (.int x1), some (.int x2), some (.int x3)], [], (zS0, R, I, J)) r) (k2 : ¬ (¬ (I 229 (x2).toNatClampNeg) = x3) → zEv X d zm_194 (166, [some (.ref 215), some (.int x1), some (.int x2), some (.int x3)], [], (zS0, R, I, J)) r) : zEv X d zm_194 (156, [some (.ref 215), some (.int x1), some (.int x2), some (.int x3)], [], (zS0, R, I, J)) r := by
  refine zEv_k 1 (f' := (157, [some (.ref 215), some (.int x1), some (.int x2), some (.int x3)], [.ref 215], (zS0, R, I, J))) rfl ?_
  refine zEv_gr rfl rfl rfl (by decide) (hR 215 36 229 rfl) ?_
  refine zEv_k 1 (f' := (161, [some (.ref 215), some (.int x1), some (.int x2), some (.int x3)], [.int x2, .ref 229], (zS0, R, I, J))) rfl ?_
  refine zEv_ial rfl rfl (by decide) h161 ?_
  refine zEv_k 2 (f' := (if ¬ (I 229 (x2).toNatClampNeg) = x3 then 168 else 166, [some (.ref 215), some (.int x1), some (.int x2), some (.int x3)], [], (zS0, R, I, J))) rfl ?_
  exact zEv_if k1 k2
theorem b_194_166 {X : zX} {d : Nat} {R : zR} {I : zI} {J : zJ} {x1 : Int32} {x2 : Int32} {x3 : Int32} : zEv X d zm_194 (166, [some (.ref 215), some (.int x1), some (.int x2), some (.int x3)], [], (zS0, R, I, J)) (some (.int 0), (zS0, R, I, J)) := by
  refine zEv_k 1 (f' := (167, [some (.ref 215), some (.int x1), some (.int x2), some (.int x3)], [.int 0], (zS0, R, I, J))) rfl ?_
  exact zEv_r rfl
theorem b_194_168 {X : zX} {d : Nat} {R : zR} {I : zI} {J : zJ} {x1 : Int32} {x2 : Int32} {x3 : Int32} (hR : zRok R) (h174 : zin x2 7) : zEv X d zm_194 (168, [some (.ref 215), some (.int x1), some (.int x2), some (.int x3)], [], (zS0, R, I, J)) (some (.int 1), (zS0, R, zu I 229 (x2).toNatClampNeg x3, J)) := by
  refine zEv_k 1 (f' := (169, [some (.ref 215), some (.int x1), some (.int x2), some (.int x3)], [.ref 215], (zS0, R, I, J))) rfl ?_
  refine zEv_gr rfl rfl rfl (by decide) (hR 215 36 229 rfl) ?_
  refine zEv_k 2 (f' := (174, [some (.ref 215), some (.int x1), some (.int x2), some (.int x3)], [.int x3, .int x2, .ref 229], (zS0, R, I, J))) rfl ?_
  refine zEv_ias rfl rfl (by decide) h174 ?_
  refine zEv_k 1 (f' := (176, [some (.ref 215), some (.int x1), some (.int x2), some (.int x3)], [.int 1], (zS0, R, zu I 229 (x2).toNatClampNeg x3, J))) rfl ?_
  exact zEv_r rfl
theorem b_195_0 {X : zX} {d : Nat} {R : zR} {I : zI} {J : zJ} {r : zA} {x1 : Int32} {w : Int32} {R' : zR} {I' : zI} {J' : zJ} (hc : zEv X d zm_190 (0, [some (.ref 215), some (.int x1), some (.int 0)], [], (zS0, R, I, J)) (some (.int w), (zS0, R', I', J'))) (k1 : zEv X (d + 1) zm_195 (7, [some (.ref 215), some (.int x1)], [.int w, .ref 215], (zS0, R', I', J')) r) : zEv X (d + 1) zm_195 (0, [some (.ref 215), some (.int x1)], [], (zS0, R, I, J)) r := by
  refine zEv_k 4 (f' := (4, [some (.ref 215), some (.int x1)], [.int 0, .int x1, .ref 215, .ref 215], (zS0, R, I, J))) rfl ?_
  exact zEv_c (fun _ => rfl) rfl hc rfl rfl k1
theorem b_195_7 {X : zX} {d : Nat} {R : zR} {I : zI} {J : zJ} {r : zA} {x1 : Int32} {s1 : Int32} {w : Int32} {R' : zR} {I' : zI} {J' : zJ} (hc : zEv X d zm_190 (0, [some (.ref 215), some (.int x1), some (.int 1)], [], (zS0, R, I, J)) (some (.int w), (zS0, R', I', J'))) (k1 : zEv X (d + 1) zm_195 (13, [some (.ref 215), some (.int x1)], [.int w, .int s1, .ref 215], (zS0, R', I', J')) r) : zEv X (d + 1) zm_195 (7, [some (.ref 215), some (.int x1)], [.int s1, .ref 215], (zS0, R, I, J)) r := by
  refine zEv_k 3 (f' := (10, [some (.ref 215), some (.int x1)], [.int 1, .int x1, .ref 215, .int s1, .ref 215], (zS0, R, I, J))) rfl ?_
  exact zEv_c (fun _ => rfl) rfl hc rfl rfl k1
theorem b_195_13 {X : zX} {d : Nat} {R : zR} {I : zI} {J : zJ} {r : zA} {x1 : Int32} {s1 : Int32} {s2 : Int32} {w : Int32} {R' : zR} {I' : zI} {J' : zJ} (hc : zEv X d zm_190 (0, [some (.ref 215), some (.int x1), some (.int 2)], [], (zS0, R, I, J)) (some (.int w), (zS0, R', I', J'))) (k1 : zEv X (d + 1) zm_195 (19, [some (.ref 215), some (.int x1)], [.int w, .int s2, .int s1, .ref 215], (zS0, R', I', J')) r) : zEv X (d + 1) zm_195 (13, [some (.ref 215), some (.int x1)], [.int s2, .int s1, .ref 215], (zS0, R, I, J)) r := by
  refine zEv_k 3 (f' := (16, [some (.ref 215), some (.int x1)], [.int 2, .int x1, .ref 215, .int s2, .int s1, .ref 215], (zS0, R, I, J))) rfl ?_
  exact zEv_c (fun _ => rfl) rfl hc rfl rfl k1
theorem b_195_19 {X : zX} {d : Nat} {R : zR} {I : zI} {J : zJ} {r : zA} {x1 : Int32} {s1 : Int32} {s2 : Int32} {s3 : Int32} {w : Int32} {R' : zR} {I' : zI} {J' : zJ} (hc : zEv X d zm_194 (0, [some (.ref 215), some (.int s1), some (.int s2), some (.int s3)], [], (zS0, R, I, J)) (some (.int w), (zS0, R', I', J'))) (k1 : zEv X (d + 1) zm_195 (22, [some (.ref 215), some (.int x1)], [.int w], (zS0, R', I', J')) r) : zEv X (d + 1) zm_195 (19, [some (.ref 215), some (.int x1)], [.int s3, .int s2, .int s1, .ref 215], (zS0, R, I, J)) r := by
  exact zEv_c (fun _ => rfl) rfl hc rfl rfl k1
theorem b_195_22 {X : zX} {d : Nat} {R : zR} {I : zI} {J : zJ} {x1 : Int32} {s0 : Int32} (h22 : zbool s0 = true) : zEv X d zm_195 (22, [some (.ref 215), some (.int x1)], [.int s0], (zS0, R, I, J)) (some (.int s0), (zS0, R, I, J)) := by
  exact zEv_rz rfl rfl h22
theorem b_196_0 {X : zX} {d : Nat} {R : zR} {I : zI} {J : zJ} {r : zA} {x1 : Int32} (k1 : zEv X d zm_196 (2, [some (.ref 215), some (.int x1), some (.int 0)], [], (zS0, R, I, J)) r) : zEv X d zm_196 (0, [some (.ref 215), some (.int x1), none], [], (zS0, R, I, J)) r := by
  refine zEv_k 2 (f' := (2, [some (.ref 215), some (.int x1), some (.int 0)], [], (zS0, R, I, J))) rfl ?_
  exact k1
theorem b_196_2 {X : zX} {d : Nat} {R : zR} {I : zI} {J : zJ} {r : zA} {x1 : Int32} {x2 : Int32} (k1 : x1 ≤ x2 → zEv X d zm_196 (21, [some (.ref 215), some (.int x1), some (.int x2)], [], (zS0, R, I, J)) r) (k2 : ¬ (x1 ≤ x2) → zEv X d zm_196 (7, [some (.ref 215), some (.int x1), some (.int x2)], [], (zS0, R, I, J)) r) : zEv X d zm_196 (2, [some (.ref 215), some (.int x1), some (.int x2)], [], (zS0, R, I, J)) r := by
  refine zEv_k 3 (f' := (if x1 ≤ x2 then 21 else 7, [some (.ref 215), some (.int x1), some (.int x2)], [], (zS0, R, I, J))) rfl ?_
  exact zEv_if k1 k2
theorem b_196_7 {X : zX} {d : Nat} {R : zR} {I : zI} {J : zJ} {r : zA} {x1 : Int32} {x2 : Int32} {w : Int32} {R' : zR} {I' : zI} {J' : zJ} (hc : zEv X d zm_195 (0, [some (.ref 215), some (.int x2)], [], (zS0, R, I, J)) (some (.int w), (zS0, R', I', J'))) (k1 : zEv X (d + 1) zm_196 (12, [some (.ref 215), some (.int x1), some (.int x2)], [.int w], (zS0, R', I', J')) r) : zEv X (d + 1) zm_196 (7, [some (.ref 215), some (.int x1), some (.int x2)], [], (zS0, R, I, J)) r := by
  refine zEv_k 2 (f' := (9, [some (.ref 215), some (.int x1), some (.int x2)], [.int x2, .ref 215], (zS0, R, I, J))) rfl ?_
  exact zEv_c (fun _ => rfl) rfl hc rfl rfl k1
theorem b_196_12 {X : zX} {d : Nat} {R : zR} {I : zI} {J : zJ} {r : zA} {x1 : Int32} {x2 : Int32} {s0 : Int32} (k1 : s0 = 0 → zEv X d zm_196 (21, [some (.ref 215), some (.int x1), some (.int x2)], [], (zS0, R, I, J)) r) (k2 : ¬ (s0 = 0) → zEv X d zm_196 (15, [some (.ref 215), some (.int x1), some (.int x2)], [], (zS0, R, I, J)) r) : zEv X d zm_196 (12, [some (.ref 215), some (.int x1), some (.int x2)], [.int s0], (zS0, R, I, J)) r := by
  refine zEv_k 1 (f' := (if s0 = 0 then 21 else 15, [some (.ref 215), some (.int x1), some (.int x2)], [], (zS0, R, I, J))) rfl ?_
  exact zEv_if k1 k2
theorem b_196_15 {X : zX} {d : Nat} {R : zR} {I : zI} {J : zJ} {r : zA} {x1 : Int32} {x2 : Int32} (k1 : zEv X d zm_196 (2, [some (.ref 215), some (.int x1), some (.int (x2 + 1))], [], (zS0, R, I, J)) r) : zEv X d zm_196 (15, [some (.ref 215), some (.int x1), some (.int x2)], [], (zS0, R, I, J)) r := by
  refine zEv_k 2 (f' := (2, [some (.ref 215), some (.int x1), some (.int (x2 + 1))], [], (zS0, R, I, J))) rfl ?_
  exact k1
theorem b_196_21 {X : zX} {d : Nat} {R : zR} {I : zI} {J : zJ} {x1 : Int32} {x2 : Int32} : zEv X d zm_196 (21, [some (.ref 215), some (.int x1), some (.int x2)], [], (zS0, R, I, J)) (some (.int x2), (zS0, R, I, J)) := by
  refine zEv_k 1 (f' := (22, [some (.ref 215), some (.int x1), some (.int x2)], [.int x2], (zS0, R, I, J))) rfl ?_
  exact zEv_r rfl
theorem b_197_0 {X : zX} {d : Nat} {R : zR} {I : zI} {J : zJ} {r : zA} {x1 : Int32} {x2 : Int32} {w : Int32} {R' : zR} {I' : zI} {J' : zJ} (hc : zEv X d zm_191 (0, [some (.ref 215), some (.int x2)], [], (zS0, R, I, J)) (some (.int w), (zS0, R', I', J'))) (k1 : zEv X (d + 1) zm_197 (5, [some (.ref 215), some (.int x1), some (.int x2)], [.int w], (zS0, R', I', J')) r) : zEv X (d + 1) zm_197 (0, [some (.ref 215), some (.int x1), some (.int x2)], [], (zS0, R, I, J)) r := by
  refine zEv_k 2 (f' := (2, [some (.ref 215), some (.int x1), some (.int x2)], [.int x2, .ref 215], (zS0, R, I, J))) rfl ?_
  exact zEv_c (fun _ => rfl) rfl hc rfl rfl k1
theorem b_197_5 {X : zX} {d : Nat} {R : zR} {I : zI} {J : zJ} {r : zA} {x1 : Int32} {x2 : Int32} {s0 : Int32} (k1 : s0 = 0 → zEv X d zm_197 (20, [some (.ref 215), some (.int x1), some (.int x2)], [], (zS0, R, I, J)) r) (k2 : ¬ (s0 = 0) → zEv X d zm_197 (8, [some (.ref 215), some (.int x1), some (.int x2)], [], (zS0, R, I, J)) r) : zEv X d zm_197 (5, [some (.ref 215), some (.int x1), some (.int x2)], [.int s0], (zS0, R, I, J)) r := by
  refine zEv_k 1 (f' := (if s0 = 0 then 20 else 8, [some (.ref 215), some (.int x1), some (.int x2)], [], (zS0, R, I, J))) rfl ?_
  exact zEv_if k1 k2
theorem b_197_8 {X : zX} {d : Nat} {R : zR} {I : zI} {J : zJ} {r : zA} {x1 : Int32} {x2 : Int32} {w : Int32} {R' : zR} {I' : zI} {J' : zJ} (hc : zEv X d zm_181 (0, [some (.ref 215), some (.int x1)], [], (zS0, R, I, J)) (some (.int w), (zS0, R', I', J'))) (k1 : zEv X (d + 1) zm_197 (13, [some (.ref 215), some (.int x1), some (.int x2)], [.int w], (zS0, R', I', J')) r) : zEv X (d + 1) zm_197 (8, [some (.ref 215), some (.int x1), some (.int x2)], [], (zS0, R, I, J)) r := by
  refine zEv_k 2 (f' := (10, [some (.ref 215), some (.int x1), some (.int x2)], [.int x1, .ref 215], (zS0, R, I, J))) rfl ?_
  exact zEv_c (fun _ => rfl) rfl hc rfl rfl k1
theorem b_197_13 {X : zX} {d : Nat} {R : zR} {I : zI} {J : zJ} {r : zA} {x1 : Int32} {x2 : Int32} {s0 : Int32} (k1 : s0 = 0 → zEv X d zm_197 (20, [some (.ref 215), some (.int x1), some (.int x2)], [], (zS0, R, I, J)) r) (k2 : ¬ (s0 = 0) → zEv X d zm_197 (16, [some (.ref 215), some (.int x1), some (.int x2)], [], (zS0, R, I, J)) r) : zEv X d zm_197 (13, [some (.ref 215), some (.int x1), some (.int x2)], [.int s0], (zS0, R, I, J)) r := by
  refine zEv_k 1 (f' := (if s0 = 0 then 20 else 16, [some (.ref 215), some (.int x1), some (.int x2)], [], (zS0, R, I, J))) rfl ?_
  exact zEv_if k1 k2
theorem b_197_16 {X : zX} {d : Nat} {R : zR} {I : zI} {J : zJ} {x1 : Int32} {x2 : Int32} : zEv X d zm_197 (16, [some (.ref 215), some (.int x1), some (.int x2)], [], (zS0, R, I, J)) (some (.int 1), (zS0, R, I, J)) := by
  refine zEv_k 2 (f' := (21, [some (.ref 215), some (.int x1), some (.int x2)], [.int 1], (zS0, R, I, J))) rfl ?_
  exact zEv_r rfl
theorem b_197_20 {X : zX} {d : Nat} {R : zR} {I : zI} {J : zJ} {x1 : Int32} {x2 : Int32} : zEv X d zm_197 (20, [some (.ref 215), some (.int x1), some (.int x2)], [], (zS0, R, I, J)) (some (.int 0), (zS0, R, I, J)) := by
  refine zEv_k 1 (f' := (21, [some (.ref 215), some (.int x1), some (.int x2)], [.int 0], (zS0, R, I, J))) rfl ?_
  exact zEv_r rfl
theorem b_198_0 {X : zX} {d : Nat} {R : zR} {I : zI} {J : zJ} {r : zA} {x1 : Int32} {x2 : Int32} {w : Int32} {R' : zR} {I' : zI} {J' : zJ} (hc : zEv X d zm_197 (0, [some (.ref 215), some (.int x1), some (.int x2)], [], (zS0, R, zu I 215 0 0, J)) (some (.int w), (zS0, R', I', J'))) (k1 : zEv X (d + 1) zm_198 (11, [some (.ref 215), some (.int x1), some (.int x2)], [.int w], (zS0, R', I', J')) r) : zEv X (d + 1) zm_198 (0, [some (.ref 215), some (.int x1), some (.int x2)], [], (zS0, R, I, J)) r := by
  refine zEv_k 6 (f' := (8, [some (.ref 215), some (.int x1), some (.int x2)], [.int x2, .int x1, .ref 215], (zS0, R, zu I 215 0 0, J))) rfl ?_
  exact zEv_c (fun _ => rfl) rfl hc rfl rfl k1
theorem b_198_11 {X : zX} {d : Nat} {R : zR} {I : zI} {J : zJ} {r : zA} {x1 : Int32} {x2 : Int32} {s0 : Int32} (k1 : s0 = 0 → zEv X d zm_198 (25, [some (.ref 215), some (.int x1), some (.int x2)], [], (zS0, R, I, J)) r) (k2 : ¬ (s0 = 0) → zEv X d zm_198 (14, [some (.ref 215), some (.int x1), some (.int x2)], [], (zS0, R, I, J)) r) : zEv X d zm_198 (11, [some (.ref 215), some (.int x1), some (.int x2)], [.int s0], (zS0, R, I, J)) r := by
  refine zEv_k 1 (f' := (if s0 = 0 then 25 else 14, [some (.ref 215), some (.int x1), some (.int x2)], [], (zS0, R, I, J))) rfl ?_
  exact zEv_if k1 k2
theorem b_198_14 {X : zX} {d : Nat} {R : zR} {I : zI} {J : zJ} {r : zA} {x1 : Int32} {x2 : Int32} {w : Int32} {R' : zR} {I' : zI} {J' : zJ} (hc : zEv X d zm_189 (0, [some (.ref 215)], [], (zS0, R, I, J)) (some (.int w), (zS0, R', I', J'))) (k1 : zEv X (d + 1) zm_198 (19, [some (.ref 215), some (.int x1), some (.int x2)], [.int w, .ref 215], (zS0, R', I', J')) r) : zEv X (d + 1) zm_198 (14, [some (.ref 215), some (.int x1), some (.int x2)], [], (zS0, R, I, J)) r := by
  refine zEv_k 2 (f' := (16, [some (.ref 215), some (.int x1), some (.int x2)], [.ref 215, .ref 215], (zS0, R, I, J))) rfl ?_
  exact zEv_c (fun _ => rfl) rfl hc rfl rfl k1
theorem b_198_19 {X : zX} {d : Nat} {R : zR} {I : zI} {J : zJ} {r : zA} {x1 : Int32} {x2 : Int32} {s1 : Int32} {w : Int32} {R' : zR} {I' : zI} {J' : zJ} (hc : zEv X d zm_196 (0, [some (.ref 215), some (.int s1), none], [], (zS0, R, I, J)) (some (.int w), (zS0, R', I', J'))) (k1 : zEv X (d + 1) zm_198 (22, [some (.ref 215), some (.int x1), some (.int x2)], [.int w], (zS0, R', I', J')) r) : zEv X (d + 1) zm_198 (19, [some (.ref 215), some (.int x1), some (.int x2)], [.int s1, .ref 215], (zS0, R, I, J)) r := by
  exact zEv_c (fun _ => rfl) rfl hc rfl rfl k1
theorem b_198_22 {X : zX} {d : Nat} {R : zR} {I : zI} {J : zJ} {x1 : Int32} {x2 : Int32} {s0 : Int32} : zEv X d zm_198 (22, [some (.ref 215), some (.int x1), some (.int x2)], [.int s0], (zS0, R, I, J)) (some (.int s0), (zS0, R, I, J)) := by
  refine zEv_k 1 (f' := (26, [some (.ref 215), some (.int x1), some (.int x2)], [.int s0], (zS0, R, I, J))) rfl ?_
  exact zEv_r rfl
theorem b_198_25 {X : zX} {d : Nat} {R : zR} {I : zI} {J : zJ} {x1 : Int32} {x2 : Int32} : zEv X d zm_198 (25, [some (.ref 215), some (.int x1), some (.int x2)], [], (zS0, R, I, J)) (some (.int (-1)), (zS0, R, I, J)) := by
  refine zEv_k 1 (f' := (26, [some (.ref 215), some (.int x1), some (.int x2)], [.int (-1)], (zS0, R, I, J))) rfl ?_
  exact zEv_r rfl
theorem b_199_0 {X : zX} {d : Nat} {R : zR} {I : zI} {J : zJ} {r : zA} {x1 : Int32} (k1 : x1 < 10 → zEv X d zm_199 (79, [some (.ref 215), some (.int x1), some (.int (x1 - x1 / 10 * 10))], [], (zS0, R, I, J)) r) (k2 : ¬ (x1 < 10) → zEv X d zm_199 (11, [some (.ref 215), some (.int x1), some (.int (x1 - x1 / 10 * 10))], [], (zS0, R, I, J)) r) : zEv X d zm_199 (0, [some (.ref 215), some (.int x1), none], [], (zS0, R, I, J)) r := by
  refine zEv_k 2 (f' := (3, [some (.ref 215), some (.int x1), none], [.int 10, .int x1], (zS0, R, I, J))) rfl ?_
  refine zEv_rem rfl (by decide) ?_
  refine zEv_k 4 (f' := (if x1 < 10 then 79 else 11, [some (.ref 215), some (.int x1), some (.int (x1 - x1 / 10 * 10))], [], (zS0, R, I, J))) rfl ?_
  exact zEv_if k1 k2
theorem b_199_11 {X : zX} {d : Nat} {R : zR} {I : zI} {J : zJ} {r : zA} {x1 : Int32} {x2 : Int32} (k1 : (I 215 23) ≤ x2 → zEv X d zm_199 (25, [some (.ref 215), some (.int x1), some (.int x2)], [], (zS0, R, I, J)) r) (k2 : ¬ ((I 215 23) ≤ x2) → zEv X d zm_199 (19, [some (.ref 215), some (.int x1), some (.int x2)], [], (zS0, R, I, J)) r) : zEv X d zm_199 (11, [some (.ref 215), some (.int x1), some (.int x2)], [], (zS0, R, I, J)) r := by
  refine zEv_k 4 (f' := (if (I 215 23) ≤ x2 then 25 else 19, [some (.ref 215), some (.int x1), some (.int x2)], [], (zS0, R, I, J))) rfl ?_
  exact zEv_if k1 k2
theorem b_199_19 {X : zX} {d : Nat} {R : zR} {I : zI} {J : zJ} {r : zA} {x1 : Int32} {x2 : Int32} (k1 : x1 < 50 → zEv X d zm_199 (27, [some (.ref 215), some (.int x1), some (.int x2)], [], (zS0, R, I, J)) r) (k2 : ¬ (x1 < 50) → zEv X d zm_199 (25, [some (.ref 215), some (.int x1), some (.int x2)], [], (zS0, R, I, J)) r) : zEv X d zm_199 (19, [some (.ref 215), some (.int x1), some (.int x2)], [], (zS0, R, I, J)) r := by
  refine zEv_k 3 (f' := (if x1 < 50 then 27 else 25, [some (.ref 215), some (.int x1), some (.int x2)], [], (zS0, R, I, J))) rfl ?_
  exact zEv_if k1 k2
theorem b_199_25 {X : zX} {d : Nat} {R : zR} {I : zI} {J : zJ} {x1 : Int32} {x2 : Int32} : zEv X d zm_199 (25, [some (.ref 215), some (.int x1), some (.int x2)], [], (zS0, R, I, J)) (some (.int (-1)), (zS0, R, I, J)) := by
  refine zEv_k 1 (f' := (26, [some (.ref 215), some (.int x1), some (.int x2)], [.int (-1)], (zS0, R, I, J))) rfl ?_
  exact zEv_r rfl
theorem b_199_27 {X : zX} {d : Nat} {R : zR} {I : zI} {J : zJ} {r : zA} {x1 : Int32} {x2 : Int32} (k1 : 20 ≤ x1 → zEv X d zm_199 (42, [some (.ref 215), some (.int x1), some (.int x2)], [], (zS0, R, I, J)) r) (k2 : ¬ (20 ≤ x1) → zEv X d zm_199 (33, [some (.ref 215), some (.int x1), some (.int x2)], [], (zS0, R, I, J)) r) : zEv X d zm_199 (27, [some (.ref 215), some (.int x1), some (.int x2)], [], (zS0, R, I, J)) r := by
  refine zEv_k 3 (f' := (if 20 ≤ x1 then 42 else 33, [some (.ref 215), some (.int x1), some (.int x2)], [], (zS0, R, I, J))) rfl ?_
  exact zEv_if k1 k2
theorem b_199_33 {X : zX} {d : Nat} {R : zR} {I : zI} {J : zJ} {x1 : Int32} {x2 : Int32} (hR : zRok R) (h38 : zin x2 7) : zEv X d zm_199 (33, [some (.ref 215), some (.int x1), some (.int x2)], [], (zS0, R, I, J)) (some (.int (I 226 (x2).toNatClampNeg)), (zS0, R, I, J)) := by
  refine zEv_k 1 (f' := (34, [some (.ref 215), some (.int x1), some (.int x2)], [.ref 215], (zS0, R, I, J))) rfl ?_
  refine zEv_gr rfl rfl rfl (by decide) (hR 215 33 226 rfl) ?_
  refine zEv_k 1 (f' := (38, [some (.ref 215), some (.int x1), some (.int x2)], [.int x2, .ref 226], (zS0, R, I, J))) rfl ?_
  refine zEv_ial rfl rfl (by decide) h38 ?_
  refine zEv_k 1 (f' := (78, [some (.ref 215), some (.int x1), some (.int x2)], [.int (I 226 (x2).toNatClampNeg)], (zS0, R, I, J))) rfl ?_
  exact zEv_r rfl
theorem b_199_42 {X : zX} {d : Nat} {R : zR} {I : zI} {J : zJ} {r : zA} {x1 : Int32} {x2 : Int32} (k1 : 30 ≤ x1 → zEv X d zm_199 (57, [some (.ref 215), some (.int x1), some (.int x2)], [], (zS0, R, I, J)) r) (k2 : ¬ (30 ≤ x1) → zEv X d zm_199 (48, [some (.ref 215), some (.int x1), some (.int x2)], [], (zS0, R, I, J)) r) : zEv X d zm_199 (42, [some (.ref 215), some (.int x1), some (.int x2)], [], (zS0, R, I, J)) r := by
  refine zEv_k 3 (f' := (if 30 ≤ x1 then 57 else 48, [some (.ref 215), some (.int x1), some (.int x2)], [], (zS0, R, I, J))) rfl ?_
  exact zEv_if k1 k2
theorem b_199_48 {X : zX} {d : Nat} {R : zR} {I : zI} {J : zJ} {x1 : Int32} {x2 : Int32} (hR : zRok R) (h53 : zin x2 7) : zEv X d zm_199 (48, [some (.ref 215), some (.int x1), some (.int x2)], [], (zS0, R, I, J)) (some (.int (I 227 (x2).toNatClampNeg)), (zS0, R, I, J)) := by
  refine zEv_k 1 (f' := (49, [some (.ref 215), some (.int x1), some (.int x2)], [.ref 215], (zS0, R, I, J))) rfl ?_
  refine zEv_gr rfl rfl rfl (by decide) (hR 215 34 227 rfl) ?_
  refine zEv_k 1 (f' := (53, [some (.ref 215), some (.int x1), some (.int x2)], [.int x2, .ref 227], (zS0, R, I, J))) rfl ?_
  refine zEv_ial rfl rfl (by decide) h53 ?_
  refine zEv_k 1 (f' := (78, [some (.ref 215), some (.int x1), some (.int x2)], [.int (I 227 (x2).toNatClampNeg)], (zS0, R, I, J))) rfl ?_
  exact zEv_r rfl
theorem b_199_57 {X : zX} {d : Nat} {R : zR} {I : zI} {J : zJ} {r : zA} {x1 : Int32} {x2 : Int32} (k1 : 40 ≤ x1 → zEv X d zm_199 (72, [some (.ref 215), some (.int x1), some (.int x2)], [], (zS0, R, I, J)) r) (k2 : ¬ (40 ≤ x1) → zEv X d zm_199 (63, [some (.ref 215), some (.int x1), some (.int x2)], [], (zS0, R, I, J)) r) : zEv X d zm_199 (57, [some (.ref 215), some (.int x1), some (.int x2)], [], (zS0, R, I, J)) r := by
  refine zEv_k 3 (f' := (if 40 ≤ x1 then 72 else 63, [some (.ref 215), some (.int x1), some (.int x2)], [], (zS0, R, I, J))) rfl ?_
  exact zEv_if k1 k2
theorem b_199_63 {X : zX} {d : Nat} {R : zR} {I : zI} {J : zJ} {x1 : Int32} {x2 : Int32} (hR : zRok R) (h68 : zin x2 7) : zEv X d zm_199 (63, [some (.ref 215), some (.int x1), some (.int x2)], [], (zS0, R, I, J)) (some (.int (I 228 (x2).toNatClampNeg)), (zS0, R, I, J)) := by
  refine zEv_k 1 (f' := (64, [some (.ref 215), some (.int x1), some (.int x2)], [.ref 215], (zS0, R, I, J))) rfl ?_
  refine zEv_gr rfl rfl rfl (by decide) (hR 215 35 228 rfl) ?_
  refine zEv_k 1 (f' := (68, [some (.ref 215), some (.int x1), some (.int x2)], [.int x2, .ref 228], (zS0, R, I, J))) rfl ?_
  refine zEv_ial rfl rfl (by decide) h68 ?_
  refine zEv_k 1 (f' := (78, [some (.ref 215), some (.int x1), some (.int x2)], [.int (I 228 (x2).toNatClampNeg)], (zS0, R, I, J))) rfl ?_
  exact zEv_r rfl
theorem b_199_72 {X : zX} {d : Nat} {R : zR} {I : zI} {J : zJ} {x1 : Int32} {x2 : Int32} (hR : zRok R) (h77 : zin x2 7) : zEv X d zm_199 (72, [some (.ref 215), some (.int x1), some (.int x2)], [], (zS0, R, I, J)) (some (.int (I 229 (x2).toNatClampNeg)), (zS0, R, I, J)) := by
  refine zEv_k 1 (f' := (73, [some (.ref 215), some (.int x1), some (.int x2)], [.ref 215], (zS0, R, I, J))) rfl ?_
  refine zEv_gr rfl rfl rfl (by decide) (hR 215 36 229 rfl) ?_
  refine zEv_k 1 (f' := (77, [some (.ref 215), some (.int x1), some (.int x2)], [.int x2, .ref 229], (zS0, R, I, J))) rfl ?_
  refine zEv_ial rfl rfl (by decide) h77 ?_
  exact zEv_r rfl
theorem b_199_79 {X : zX} {d : Nat} {R : zR} {I : zI} {J : zJ} {r : zA} {x1 : Int32} {x2 : Int32} (k0 : x1 = 0 → zEv X d zm_199 (120, [some (.ref 215), some (.int x1), some (.int x2)], [], (zS0, R, I, J)) r) (k1 : x1 = 1 → zEv X d zm_199 (125, [some (.ref 215), some (.int x1), some (.int x2)], [], (zS0, R, I, J)) r) (k2 : x1 = 2 → zEv X d zm_199 (130, [some (.ref 215), some (.int x1), some (.int x2)], [], (zS0, R, I, J)) r) (k3 : x1 = 3 → zEv X d zm_199 (135, [some (.ref 215), some (.int x1), some (.int x2)], [], (zS0, R, I, J)) r) (k4 : x1 = 4 → zEv X d zm_199 (140, [some (.ref 215), some (.int x1), some (.int x2)], [], (zS0, R, I, J)) r) (k5 : x1 = 5 → zEv X d zm_199 (145, [some (.ref 215), some (.int x1), some (.int x2)], [], (zS0, R, I, J)) r) (kd : ¬ (0 ≤ (x1 : Int32).toInt ∧ (x1 : Int32).toInt ≤ 5) → zEv X d zm_199 (150, [some (.ref 215), some (.int x1), some (.int x2)], [], (zS0, R, I, J)) r) : zEv X d zm_199 (79, [some (.ref 215), some (.int x1), some (.int x2)], [], (zS0, R, I, J)) r := by
  refine zEv_k 1 (f' := (80, [some (.ref 215), some (.int x1), some (.int x2)], [.int x1], (zS0, R, I, J))) rfl ?_
  refine zEv_ts rfl (by decide) (by decide) (by decide) (fun hh => ?_) (fun j hj hh => ?_)
  · exact kd (by omega)
  · rcases (by have hj2 : j < 6 := hj; omega : j = 0 ∨ j = 1 ∨ j = 2 ∨ j = 3 ∨ j = 4 ∨ j = 5) with rfl | rfl | rfl | rfl | rfl | rfl
    · exact k0 (zeqI hh (by decide))
    · exact k1 (zeqI hh (by decide))
    · exact k2 (zeqI hh (by decide))
    · exact k3 (zeqI hh (by decide))
    · exact k4 (zeqI hh (by decide))
    · exact k5 (zeqI hh (by decide))
theorem b_199_120 {X : zX} {d : Nat} {R : zR} {I : zI} {J : zJ} {x1 : Int32} {x2 : Int32} : zEv X d zm_199 (120, [some (.ref 215), some (.int x1), some (.int x2)], [], (zS0, R, I, J)) (some (.int (I 215 26)), (zS0, R, I, J)) := by
  refine zEv_k 2 (f' := (124, [some (.ref 215), some (.int x1), some (.int x2)], [.int (I 215 26)], (zS0, R, I, J))) rfl ?_
  exact zEv_r rfl
theorem b_199_125 {X : zX} {d : Nat} {R : zR} {I : zI} {J : zJ} {x1 : Int32} {x2 : Int32} : zEv X d zm_199 (125, [some (.ref 215), some (.int x1), some (.int x2)], [], (zS0, R, I, J)) (some (.int (I 215 27)), (zS0, R, I, J)) := by
  refine zEv_k 2 (f' := (129, [some (.ref 215), some (.int x1), some (.int x2)], [.int (I 215 27)], (zS0, R, I, J))) rfl ?_
  exact zEv_r rfl
theorem b_199_130 {X : zX} {d : Nat} {R : zR} {I : zI} {J : zJ} {x1 : Int32} {x2 : Int32} : zEv X d zm_199 (130, [some (.ref 215), some (.int x1), some (.int x2)], [], (zS0, R, I, J)) (some (.int (I 215 28)), (zS0, R, I, J)) := by
  refine zEv_k 2 (f' := (134, [some (.ref 215), some (.int x1), some (.int x2)], [.int (I 215 28)], (zS0, R, I, J))) rfl ?_
  exact zEv_r rfl
theorem b_199_135 {X : zX} {d : Nat} {R : zR} {I : zI} {J : zJ} {x1 : Int32} {x2 : Int32} : zEv X d zm_199 (135, [some (.ref 215), some (.int x1), some (.int x2)], [], (zS0, R, I, J)) (some (.int (I 215 29)), (zS0, R, I, J)) := by
  refine zEv_k 2 (f' := (139, [some (.ref 215), some (.int x1), some (.int x2)], [.int (I 215 29)], (zS0, R, I, J))) rfl ?_
  exact zEv_r rfl
theorem b_199_140 {X : zX} {d : Nat} {R : zR} {I : zI} {J : zJ} {x1 : Int32} {x2 : Int32} : zEv X d zm_199 (140, [some (.ref 215), some (.int x1), some (.int x2)], [], (zS0, R, I, J)) (some (.int (I 215 30)), (zS0, R, I, J)) := by
  refine zEv_k 2 (f' := (144, [some (.ref 215), some (.int x1), some (.int x2)], [.int (I 215 30)], (zS0, R, I, J))) rfl ?_
  exact zEv_r rfl
theorem b_199_145 {X : zX} {d : Nat} {R : zR} {I : zI} {J : zJ} {x1 : Int32} {x2 : Int32} : zEv X d zm_199 (145, [some (.ref 215), some (.int x1), some (.int x2)], [], (zS0, R, I, J)) (some (.int (I 215 31)), (zS0, R, I, J)) := by
  refine zEv_k 2 (f' := (149, [some (.ref 215), some (.int x1), some (.int x2)], [.int (I 215 31)], (zS0, R, I, J))) rfl ?_
  exact zEv_r rfl
theorem b_199_150 {X : zX} {d : Nat} {R : zR} {I : zI} {J : zJ} {x1 : Int32} {x2 : Int32} : zEv X d zm_199 (150, [some (.ref 215), some (.int x1), some (.int x2)], [], (zS0, R, I, J)) (some (.int (-1)), (zS0, R, I, J)) := by
  refine zEv_k 1 (f' := (151, [some (.ref 215), some (.int x1), some (.int x2)], [.int (-1)], (zS0, R, I, J))) rfl ?_
  exact zEv_r rfl
theorem b_200_0 {X : zX} {d : Nat} {R : zR} {I : zI} {J : zJ} {r : zA} {x1 : Int32} {x2 : Int32} {x3 : Int32} {x4 : Int32} {w : Int32} {R' : zR} {I' : zI} {J' : zJ} (hc : zEv X d zm_197 (0, [some (.ref 215), some (.int x1), some (.int x2)], [], (zS0, R, zu I 215 0 0, J)) (some (.int w), (zS0, R', I', J'))) (k1 : zEv X (d + 1) zm_200 (11, [some (.ref 215), some (.int x1), some (.int x2), some (.int x3), some (.int x4)], [.int w], (zS0, R', I', J')) r) : zEv X (d + 1) zm_200 (0, [some (.ref 215), some (.int x1), some (.int x2), some (.int x3), some (.int x4)], [], (zS0, R, I, J)) r := by
  refine zEv_k 6 (f' := (8, [some (.ref 215), some (.int x1), some (.int x2), some (.int x3), some (.int x4)], [.int x2, .int x1, .ref 215], (zS0, R, zu I 215 0 0, J))) rfl ?_
  exact zEv_c (fun _ => rfl) rfl hc rfl rfl k1
theorem b_200_11 {X : zX} {d : Nat} {R : zR} {I : zI} {J : zJ} {r : zA} {x1 : Int32} {x2 : Int32} {x3 : Int32} {x4 : Int32} {s0 : Int32} (k1 : s0 = 0 → zEv X d zm_200 (44, [some (.ref 215), some (.int x1), some (.int x2), some (.int x3), some (.int x4)], [], (zS0, R, I, J)) r) (k2 : ¬ (s0 = 0) → zEv X d zm_200 (14, [some (.ref 215), some (.int x1), some (.int x2), some (.int x3), some (.int x4)], [], (zS0, R, I, J)) r) : zEv X d zm_200 (11, [some (.ref 215), some (.int x1), some (.int x2), some (.int x3), some (.int x4)], [.int s0], (zS0, R, I, J)) r := by
  refine zEv_k 1 (f' := (if s0 = 0 then 44 else 14, [some (.ref 215), some (.int x1), some (.int x2), some (.int x3), some (.int x4)], [], (zS0, R, I, J))) rfl ?_
  exact zEv_if k1 k2
theorem b_200_14 {X : zX} {d : Nat} {R : zR} {I : zI} {J : zJ} {r : zA} {x1 : Int32} {x2 : Int32} {x3 : Int32} {x4 : Int32} {w : Int32} {R' : zR} {I' : zI} {J' : zJ} (hc : zEv X d zm_189 (0, [some (.ref 215)], [], (zS0, R, I, J)) (some (.int w), (zS0, R', I', J'))) (k1 : zEv X (d + 1) zm_200 (20, [some (.ref 215), some (.int x1), some (.int x2), some (.int x3), some (.int x4)], [.int w, .int 0, .int x3], (zS0, R', I', J')) r) : zEv X (d + 1) zm_200 (14, [some (.ref 215), some (.int x1), some (.int x2), some (.int x3), some (.int x4)], [], (zS0, R, I, J)) r := by
  refine zEv_k 3 (f' := (17, [some (.ref 215), some (.int x1), some (.int x2), some (.int x3), some (.int x4)], [.ref 215, .int 0, .int x3], (zS0, R, I, J))) rfl ?_
  exact zEv_c (fun _ => rfl) rfl hc rfl rfl k1
theorem b_200_20 {X : zX} {d : Nat} {R : zR} {I : zI} {J : zJ} {r : zA} {x1 : Int32} {x2 : Int32} {x3 : Int32} {x4 : Int32} {s0 : Int32} {s1 : Int32} {s2 : Int32} (k1 : (zf_in s0 s1 s2) = 0 → zEv X (d + 1) zm_200 (44, [some (.ref 215), some (.int x1), some (.int x2), some (.int x3), some (.int x4)], [], (zS0, R, I, J)) r) (k2 : ¬ ((zf_in s0 s1 s2) = 0) → zEv X (d + 1) zm_200 (26, [some (.ref 215), some (.int x1), some (.int x2), some (.int x3), some (.int x4)], [], (zS0, R, I, J)) r) : zEv X (d + 1) zm_200 (20, [some (.ref 215), some (.int x1), some (.int x2), some (.int x3), some (.int x4)], [.int s2, .int s1, .int s0], (zS0, R, I, J)) r := by
  refine zEv_c (fun _ => rfl) rfl ev_zf_in rfl rfl ?_
  refine zEv_k 1 (f' := (if (zf_in s0 s1 s2) = 0 then 44 else 26, [some (.ref 215), some (.int x1), some (.int x2), some (.int x3), some (.int x4)], [], (zS0, R, I, J))) rfl ?_
  exact zEv_if k1 k2
theorem b_200_26 {X : zX} {d : Nat} {R : zR} {I : zI} {J : zJ} {r : zA} {x1 : Int32} {x2 : Int32} {x3 : Int32} {x4 : Int32} {w : Int32} {R' : zR} {I' : zI} {J' : zJ} (hc : zEv X d zm_196 (0, [some (.ref 215), some (.int x3), none], [], (zS0, R, I, J)) (some (.int w), (zS0, R', I', J'))) (k1 : zEv X (d + 1) zm_200 (31, [some (.ref 215), some (.int x1), some (.int x2), some (.int x3), some (.int x4)], [.int w], (zS0, R', I', J')) r) : zEv X (d + 1) zm_200 (26, [some (.ref 215), some (.int x1), some (.int x2), some (.int x3), some (.int x4)], [], (zS0, R, I, J)) r := by
  refine zEv_k 2 (f' := (28, [some (.ref 215), some (.int x1), some (.int x2), some (.int x3), some (.int x4)], [.int x3, .ref 215], (zS0, R, I, J))) rfl ?_
  exact zEv_c (fun _ => rfl) rfl hc rfl rfl k1
theorem b_200_31 {X : zX} {d : Nat} {R : zR} {I : zI} {J : zJ} {r : zA} {x1 : Int32} {x2 : Int32} {x3 : Int32} {x4 : Int32} {s0 : Int32} (k1 : ¬ s0 = x3 → zEv X d zm_200 (44, [some (.ref 215), some (.int x1), some (.int x2), some (.int x3), some (.int x4)], [], (zS0, R, I, J)) r) (k2 : ¬ (¬ s0 = x3) → zEv X d zm_200 (35, [some (.ref 215), some (.int x1), some (.int x2), some (.int x3), some (.int x4)], [], (zS0, R, I, J)) r) : zEv X d zm_200 (31, [some (.ref 215), some (.int x1), some (.int x2), some (.int x3), some (.int x4)], [.int s0], (zS0, R, I, J)) r := by
  refine zEv_k 2 (f' := (if ¬ s0 = x3 then 44 else 35, [some (.ref 215), some (.int x1), some (.int x2), some (.int x3), some (.int x4)], [], (zS0, R, I, J))) rfl ?_
  exact zEv_if k1 k2
theorem b_200_35 {X : zX} {d : Nat} {R : zR} {I : zI} {J : zJ} {r : zA} {x1 : Int32} {x2 : Int32} {x3 : Int32} {x4 : Int32} {w : Int32} {R' : zR} {I' : zI} {J' : zJ} (hc : zEv X d zm_199 (0, [some (.ref 215), some (.int x4), none], [], (zS0, R, I, J)) (some (.int w), (zS0, R', I', J'))) (k1 : zEv X (d + 1) zm_200 (41, [some (.ref 215), some (.int x1), some (.int x2), some (.int x3), some (.int x4)], [.int w], (zS0, R', I', J')) r) : zEv X (d + 1) zm_200 (35, [some (.ref 215), some (.int x1), some (.int x2), some (.int x3), some (.int x4)], [], (zS0, R, I, J)) r := by
  refine zEv_k 2 (f' := (38, [some (.ref 215), some (.int x1), some (.int x2), some (.int x3), some (.int x4)], [.int x4, .ref 215], (zS0, R, I, J))) rfl ?_
  exact zEv_c (fun _ => rfl) rfl hc rfl rfl k1
theorem b_200_41 {X : zX} {d : Nat} {R : zR} {I : zI} {J : zJ} {x1 : Int32} {x2 : Int32} {x3 : Int32} {x4 : Int32} {s0 : Int32} : zEv X d zm_200 (41, [some (.ref 215), some (.int x1), some (.int x2), some (.int x3), some (.int x4)], [.int s0], (zS0, R, I, J)) (some (.int s0), (zS0, R, I, J)) := by
  refine zEv_k 1 (f' := (45, [some (.ref 215), some (.int x1), some (.int x2), some (.int x3), some (.int x4)], [.int s0], (zS0, R, I, J))) rfl ?_
  exact zEv_r rfl
theorem b_200_44 {X : zX} {d : Nat} {R : zR} {I : zI} {J : zJ} {x1 : Int32} {x2 : Int32} {x3 : Int32} {x4 : Int32} : zEv X d zm_200 (44, [some (.ref 215), some (.int x1), some (.int x2), some (.int x3), some (.int x4)], [], (zS0, R, I, J)) (some (.int (-1)), (zS0, R, I, J)) := by
  refine zEv_k 1 (f' := (45, [some (.ref 215), some (.int x1), some (.int x2), some (.int x3), some (.int x4)], [.int (-1)], (zS0, R, I, J))) rfl ?_
  exact zEv_r rfl
theorem b_201_0 {X : zX} {d : Nat} {R : zR} {I : zI} {J : zJ} {r : zA} {x1 : Int32} {x2 : Int32} (k1 : zEv X d zm_201 (7, [some (.ref 215), some (.int x1), some (.int x2), some (.int 0)], [], (zS0, R, zu I 215 29 x2, J)) r) : zEv X d zm_201 (0, [some (.ref 215), some (.int x1), some (.int x2), none], [], (zS0, R, I, J)) r := by
  refine zEv_k 5 (f' := (7, [some (.ref 215), some (.int x1), some (.int x2), some (.int 0)], [], (zS0, R, zu I 215 29 x2, J))) rfl ?_
  exact k1
theorem b_201_7 {X : zX} {d : Nat} {R : zR} {I : zI} {J : zJ} {r : zA} {x1 : Int32} {x2 : Int32} {x3 : Int32} (k1 : (I 215 23) ≤ x3 → zEv X d zm_201 (35, [some (.ref 215), some (.int x1), some (.int x2), some (.int x3)], [], (zS0, R, I, J)) r) (k2 : ¬ ((I 215 23) ≤ x3) → zEv X d zm_201 (15, [some (.ref 215), some (.int x1), some (.int x2), some (.int x3)], [], (zS0, R, I, J)) r) : zEv X d zm_201 (7, [some (.ref 215), some (.int x1), some (.int x2), some (.int x3)], [], (zS0, R, I, J)) r := by
  refine zEv_k 4 (f' := (if (I 215 23) ≤ x3 then 35 else 15, [some (.ref 215), some (.int x1), some (.int x2), some (.int x3)], [], (zS0, R, I, J))) rfl ?_
  exact zEv_if k1 k2
theorem b_201_15 {X : zX} {d : Nat} {R : zR} {I : zI} {J : zJ} {r : zA} {x1 : Int32} {x2 : Int32} {x3 : Int32} {w : Int32} {R' : zR} {I' : zI} {J' : zJ} (hR : zRok R) (hc : zEv X d zm_179 (0, [some (.ref 215), some (.int (17 + x3))], [], (zS0, R, I, J)) (some (.int w), (zS0, R', I', J'))) (k1 : zEv X (d + 1) zm_201 (28, [some (.ref 215), some (.int x1), some (.int x2), some (.int x3)], [.int w, .int x3, .ref 227], (zS0, R', I', J')) r) : zEv X (d + 1) zm_201 (15, [some (.ref 215), some (.int x1), some (.int x2), some (.int x3)], [], (zS0, R, I, J)) r := by
  refine zEv_k 1 (f' := (16, [some (.ref 215), some (.int x1), some (.int x2), some (.int x3)], [.ref 215], (zS0, R, I, J))) rfl ?_
  refine zEv_gr rfl rfl rfl (by decide) (hR 215 34 227 rfl) ?_
  refine zEv_k 5 (f' := (25, [some (.ref 215), some (.int x1), some (.int x2), some (.int x3)], [.int (17 + x3), .ref 215, .int x3, .ref 227], (zS0, R, I, J))) rfl ?_
  exact zEv_c (fun _ => rfl) rfl hc rfl rfl k1
theorem b_201_28 {X : zX} {d : Nat} {R : zR} {I : zI} {J : zJ} {r : zA} {x1 : Int32} {x2 : Int32} {x3 : Int32} {s1 : Int32} {s2 : Int32} (h28 : zin s1 7) (k1 : zEv X d zm_201 (7, [some (.ref 215), some (.int x1), some (.int x2), some (.int (x3 + 1))], [], (zS0, R, zu I 227 (s1).toNatClampNeg s2, J)) r) : zEv X d zm_201 (28, [some (.ref 215), some (.int x1), some (.int x2), some (.int x3)], [.int s2, .int s1, .ref 227], (zS0, R, I, J)) r := by
  refine zEv_ias rfl rfl (by decide) h28 ?_
  refine zEv_k 2 (f' := (7, [some (.ref 215), some (.int x1), some (.int x2), some (.int (x3 + 1))], [], (zS0, R, zu I 227 (s1).toNatClampNeg s2, J))) rfl ?_
  exact k1
theorem b_201_35 {X : zX} {d : Nat} {R : zR} {I : zI} {J : zJ} {r : zA} {x1 : Int32} {x2 : Int32} {x3 : Int32} {R' : zR} {I' : zI} {J' : zJ} (hc : zEv X d zm_185 (0, [some (.ref 215), some (.int x1), none], [], (zS0, R, I, J)) (none, (zS0, R', I', J'))) (k1 : zEv X (d + 1) zm_201 (40, [some (.ref 215), some (.int x1), some (.int x2), some (.int x3)], [], (zS0, R', I', J')) r) : zEv X (d + 1) zm_201 (35, [some (.ref 215), some (.int x1), some (.int x2), some (.int x3)], [], (zS0, R, I, J)) r := by
  refine zEv_k 2 (f' := (37, [some (.ref 215), some (.int x1), some (.int x2), some (.int x3)], [.int x1, .ref 215], (zS0, R, I, J))) rfl ?_
  exact zEv_c (fun _ => rfl) rfl hc rfl rfl k1
theorem b_201_40 {X : zX} {d : Nat} {R : zR} {I : zI} {J : zJ} {r : zA} {x1 : Int32} {x2 : Int32} {x3 : Int32} {R' : zR} {I' : zI} {J' : zJ} (hc : zEv X d zm_187 (0, [some (.ref 215), none], [], (zS0, R, I, J)) (none, (zS0, R', I', J'))) (k1 : zEv X (d + 1) zm_201 (44, [some (.ref 215), some (.int x1), some (.int x2), some (.int x3)], [], (zS0, R', I', J')) r) : zEv X (d + 1) zm_201 (40, [some (.ref 215), some (.int x1), some (.int x2), some (.int x3)], [], (zS0, R, I, J)) r := by
  refine zEv_k 1 (f' := (41, [some (.ref 215), some (.int x1), some (.int x2), some (.int x3)], [.ref 215], (zS0, R, I, J))) rfl ?_
  exact zEv_c (fun _ => rfl) rfl hc rfl rfl k1
theorem b_201_44 {X : zX} {d : Nat} {R : zR} {I : zI} {J : zJ} {x1 : Int32} {x2 : Int32} {x3 : Int32} : zEv X d zm_201 (44, [some (.ref 215), some (.int x1), some (.int x2), some (.int x3)], [], (zS0, R, I, J)) (some (.int ((I 215 29) &&& (x2 ^^^ (-1)))), (zS0, R, I, J)) := by
  refine zEv_k 6 (f' := (52, [some (.ref 215), some (.int x1), some (.int x2), some (.int x3)], [.int ((I 215 29) &&& (x2 ^^^ (-1)))], (zS0, R, I, J))) rfl ?_
  exact zEv_r rfl
theorem b_202_0 {X : zX} {d : Nat} {R : zR} {I : zI} {J : zJ} {r : zA} {x1 : Int32} {x2 : Int32} {w : Int32} {R' : zR} {I' : zI} {J' : zJ} (hc : zEv X d zm_181 (0, [some (.ref 215), some (.int x1)], [], (zS0, R, zu I 215 0 0, J)) (some (.int w), (zS0, R', I', J'))) (k1 : zEv X (d + 1) zm_202 (10, [some (.ref 215), some (.int x1), some (.int x2)], [.int w], (zS0, R', I', J')) r) : zEv X (d + 1) zm_202 (0, [some (.ref 215), some (.int x1), some (.int x2)], [], (zS0, R, I, J)) r := by
  refine zEv_k 5 (f' := (7, [some (.ref 215), some (.int x1), some (.int x2)], [.int x1, .ref 215], (zS0, R, zu I 215 0 0, J))) rfl ?_
  exact zEv_c (fun _ => rfl) rfl hc rfl rfl k1
theorem b_202_10 {X : zX} {d : Nat} {R : zR} {I : zI} {J : zJ} {r : zA} {x1 : Int32} {x2 : Int32} {s0 : Int32} (k1 : s0 = 0 → zEv X d zm_202 (30, [some (.ref 215), some (.int x1), some (.int x2)], [], (zS0, R, I, J)) r) (k2 : ¬ (s0 = 0) → zEv X d zm_202 (13, [some (.ref 215), some (.int x1), some (.int x2)], [], (zS0, R, I, J)) r) : zEv X d zm_202 (10, [some (.ref 215), some (.int x1), some (.int x2)], [.int s0], (zS0, R, I, J)) r := by
  refine zEv_k 1 (f' := (if s0 = 0 then 30 else 13, [some (.ref 215), some (.int x1), some (.int x2)], [], (zS0, R, I, J))) rfl ?_
  exact zEv_if k1 k2
theorem b_202_13 {X : zX} {d : Nat} {R : zR} {I : zI} {J : zJ} {r : zA} {x1 : Int32} {x2 : Int32} {w : Int32} {R' : zR} {I' : zI} {J' : zJ} (hc : zEv X d zm_182 (0, [some (.ref 215), some (.int x2)], [], (zS0, R, I, J)) (some (.int w), (zS0, R', I', J'))) (k1 : zEv X (d + 1) zm_202 (18, [some (.ref 215), some (.int x1), some (.int x2)], [.int w], (zS0, R', I', J')) r) : zEv X (d + 1) zm_202 (13, [some (.ref 215), some (.int x1), some (.int x2)], [], (zS0, R, I, J)) r := by
  refine zEv_k 2 (f' := (15, [some (.ref 215), some (.int x1), some (.int x2)], [.int x2, .ref 215], (zS0, R, I, J))) rfl ?_
  exact zEv_c (fun _ => rfl) rfl hc rfl rfl k1
theorem b_202_18 {X : zX} {d : Nat} {R : zR} {I : zI} {J : zJ} {r : zA} {x1 : Int32} {x2 : Int32} {s0 : Int32} (k1 : s0 = 0 → zEv X d zm_202 (30, [some (.ref 215), some (.int x1), some (.int x2)], [], (zS0, R, I, J)) r) (k2 : ¬ (s0 = 0) → zEv X d zm_202 (21, [some (.ref 215), some (.int x1), some (.int x2)], [], (zS0, R, I, J)) r) : zEv X d zm_202 (18, [some (.ref 215), some (.int x1), some (.int x2)], [.int s0], (zS0, R, I, J)) r := by
  refine zEv_k 1 (f' := (if s0 = 0 then 30 else 21, [some (.ref 215), some (.int x1), some (.int x2)], [], (zS0, R, I, J))) rfl ?_
  exact zEv_if k1 k2
theorem b_202_21 {X : zX} {d : Nat} {R : zR} {I : zI} {J : zJ} {r : zA} {x1 : Int32} {x2 : Int32} {w : Int32} {R' : zR} {I' : zI} {J' : zJ} (hc : zEv X d zm_201 (0, [some (.ref 215), some (.int x2), some (.int 0), none], [], (zS0, R, I, J)) (some (.int w), (zS0, R', I', J'))) (k1 : zEv X (d + 1) zm_202 (27, [some (.ref 215), some (.int x1), some (.int x2)], [.int w], (zS0, R', I', J')) r) : zEv X (d + 1) zm_202 (21, [some (.ref 215), some (.int x1), some (.int x2)], [], (zS0, R, I, J)) r := by
  refine zEv_k 3 (f' := (24, [some (.ref 215), some (.int x1), some (.int x2)], [.int 0, .int x2, .ref 215], (zS0, R, I, J))) rfl ?_
  exact zEv_c (fun _ => rfl) rfl hc rfl rfl k1
theorem b_202_27 {X : zX} {d : Nat} {R : zR} {I : zI} {J : zJ} {x1 : Int32} {x2 : Int32} {s0 : Int32} : zEv X d zm_202 (27, [some (.ref 215), some (.int x1), some (.int x2)], [.int s0], (zS0, R, I, J)) (some (.int s0), (zS0, R, I, J)) := by
  refine zEv_k 1 (f' := (31, [some (.ref 215), some (.int x1), some (.int x2)], [.int s0], (zS0, R, I, J))) rfl ?_
  exact zEv_r rfl
theorem b_202_30 {X : zX} {d : Nat} {R : zR} {I : zI} {J : zJ} {x1 : Int32} {x2 : Int32} : zEv X d zm_202 (30, [some (.ref 215), some (.int x1), some (.int x2)], [], (zS0, R, I, J)) (some (.int (-1)), (zS0, R, I, J)) := by
  refine zEv_k 1 (f' := (31, [some (.ref 215), some (.int x1), some (.int x2)], [.int (-1)], (zS0, R, I, J))) rfl ?_
  exact zEv_r rfl
theorem b_203_0 {X : zX} {d : Nat} {R : zR} {I : zI} {J : zJ} {r : zA} (k1 : zEv X d zm_203 (4, [some (.ref 215), some (.int 0), some (.int 0)], [], (zS0, R, I, J)) r) : zEv X d zm_203 (0, [some (.ref 215), none, none], [], (zS0, R, I, J)) r := by
  refine zEv_k 4 (f' := (4, [some (.ref 215), some (.int 0), some (.int 0)], [], (zS0, R, I, J))) rfl ?_
  exact k1
theorem b_203_4 {X : zX} {d : Nat} {R : zR} {I : zI} {J : zJ} {r : zA} {x1 : Int32} {x2 : Int32} (k1 : (I 215 23) ≤ x2 → zEv X d zm_203 (32, [some (.ref 215), some (.int x1), some (.int x2)], [], (zS0, R, I, J)) r) (k2 : ¬ ((I 215 23) ≤ x2) → zEv X d zm_203 (12, [some (.ref 215), some (.int x1), some (.int x2)], [], (zS0, R, I, J)) r) : zEv X d zm_203 (4, [some (.ref 215), some (.int x1), some (.int x2)], [], (zS0, R, I, J)) r := by
  refine zEv_k 4 (f' := (if (I 215 23) ≤ x2 then 32 else 12, [some (.ref 215), some (.int x1), some (.int x2)], [], (zS0, R, I, J))) rfl ?_
  exact zEv_if k1 k2
theorem b_203_12 {X : zX} {d : Nat} {R : zR} {I : zI} {J : zJ} {r : zA} {x1 : Int32} {x2 : Int32} {w : Int32} {R' : zR} {I' : zI} {J' : zJ} (hc : zEv X d zm_201 (0, [some (.ref 215), some (.int x2), some (.int 0), none], [], (zS0, R, I, J)) (some (.int w), (zS0, R', I', J'))) (k1 : zEv X (d + 1) zm_203 (19, [some (.ref 215), some (.int x1), some (.int x2)], [.int w, .int x1], (zS0, R', I', J')) r) : zEv X (d + 1) zm_203 (12, [some (.ref 215), some (.int x1), some (.int x2)], [], (zS0, R, I, J)) r := by
  refine zEv_k 4 (f' := (16, [some (.ref 215), some (.int x1), some (.int x2)], [.int 0, .int x2, .ref 215, .int x1], (zS0, R, I, J))) rfl ?_
  exact zEv_c (fun _ => rfl) rfl hc rfl rfl k1
theorem b_203_19 {X : zX} {d : Nat} {R : zR} {I : zI} {J : zJ} {r : zA} {x1 : Int32} {x2 : Int32} {s0 : Int32} {s1 : Int32} {w : Int32} {R' : zR} {I' : zI} {J' : zJ} (hc : zEv X d zm_154 (0, [some (.int s1), none, none], [], (zS0, R, I, J)) (some (.int w), (zS0, R', I', J'))) (k1 : zEv X (d + 1) zm_203 (22, [some (.ref 215), some (.int x1), some (.int x2)], [.int w, .int s0], (zS0, R', I', J')) r) : zEv X (d + 1) zm_203 (19, [some (.ref 215), some (.int x1), some (.int x2)], [.int s1, .int s0], (zS0, R, I, J)) r := by
  exact zEv_c (fun _ => rfl) rfl hc rfl rfl k1
theorem b_203_22 {X : zX} {d : Nat} {R : zR} {I : zI} {J : zJ} {r : zA} {x1 : Int32} {x2 : Int32} {s0 : Int32} {s1 : Int32} (k1 : zEv X (d + 1) zm_203 (4, [some (.ref 215), some (.int (zf_greater s0 s1)), some (.int (x2 + 1))], [], (zS0, R, I, J)) r) : zEv X (d + 1) zm_203 (22, [some (.ref 215), some (.int x1), some (.int x2)], [.int s1, .int s0], (zS0, R, I, J)) r := by
  refine zEv_c (fun _ => rfl) rfl ev_zf_greater rfl rfl ?_
  refine zEv_k 3 (f' := (4, [some (.ref 215), some (.int (zf_greater s0 s1)), some (.int (x2 + 1))], [], (zS0, R, I, J))) rfl ?_
  exact k1
theorem b_203_32 {X : zX} {d : Nat} {R : zR} {I : zI} {J : zJ} {x1 : Int32} {x2 : Int32} : zEv X d zm_203 (32, [some (.ref 215), some (.int x1), some (.int x2)], [], (zS0, R, I, J)) (some (.int x1), (zS0, R, I, J)) := by
  refine zEv_k 1 (f' := (33, [some (.ref 215), some (.int x1), some (.int x2)], [.int x1], (zS0, R, I, J))) rfl ?_
  exact zEv_r rfl
theorem b_204_0 {X : zX} {d : Nat} {R : zR} {I : zI} {J : zJ} {x1 : Int32} {x2 : Int32} (hR : zRok R) (h5 : zin x1 7) (h17 : zin x2 7) (h18 : zin x1 7) (h25 : zin x2 7) : zEv X d zm_204 (0, [some (.ref 215), some (.int x1), some (.int x2), none], [], (zS0, R, I, J)) (none, (zS0, R, zu (zu I 229 (x1).toNatClampNeg (I 229 (x2).toNatClampNeg)) 229 (x2).toNatClampNeg (I 229 (x1).toNatClampNeg), J)) := by
  refine zEv_k 1 (f' := (1, [some (.ref 215), some (.int x1), some (.int x2), none], [.ref 215], (zS0, R, I, J))) rfl ?_
  refine zEv_gr rfl rfl rfl (by decide) (hR 215 36 229 rfl) ?_
  refine zEv_k 1 (f' := (5, [some (.ref 215), some (.int x1), some (.int x2), none], [.int x1, .ref 229], (zS0, R, I, J))) rfl ?_
  refine zEv_ial rfl rfl (by decide) h5 ?_
  refine zEv_k 2 (f' := (8, [some (.ref 215), some (.int x1), some (.int x2), some (.int (I 229 (x1).toNatClampNeg))], [.ref 215], (zS0, R, I, J))) rfl ?_
  refine zEv_gr rfl rfl rfl (by decide) (hR 215 36 229 rfl) ?_
  refine zEv_k 2 (f' := (13, [some (.ref 215), some (.int x1), some (.int x2), some (.int (I 229 (x1).toNatClampNeg))], [.ref 215, .int x1, .ref 229], (zS0, R, I, J))) rfl ?_
  refine zEv_gr rfl rfl rfl (by decide) (hR 215 36 229 rfl) ?_
  refine zEv_k 1 (f' := (17, [some (.ref 215), some (.int x1), some (.int x2), some (.int (I 229 (x1).toNatClampNeg))], [.int x2, .ref 229, .int x1, .ref 229], (zS0, R, I, J))) rfl ?_
  refine zEv_ial rfl rfl (by decide) h17 ?_
  refine zEv_ias rfl rfl (by decide) h18 ?_
  refine zEv_k 1 (f' := (20, [some (.ref 215), some (.int x1), some (.int x2), some (.int (I 229 (x1).toNatClampNeg))], [.ref 215], (zS0, R, zu I 229 (x1).toNatClampNeg (I 229 (x2).toNatClampNeg), J))) rfl ?_
  refine zEv_gr rfl rfl rfl (by decide) (hR 215 36 229 rfl) ?_
  refine zEv_k 2 (f' := (25, [some (.ref 215), some (.int x1), some (.int x2), some (.int (I 229 (x1).toNatClampNeg))], [.int (I 229 (x1).toNatClampNeg), .int x2, .ref 229], (zS0, R, zu I 229 (x1).toNatClampNeg (I 229 (x2).toNatClampNeg), J))) rfl ?_
  refine zEv_ias rfl rfl (by decide) h25 ?_
  exact zEv_r rfl
theorem b_205_0 {X : zX} {d : Nat} {R : zR} {I : zI} {J : zJ} {r : zA} (k1 : zEv X d zm_205 (2, [some (.ref 215), some (.int 0), none], [], (zS0, R, I, J)) r) : zEv X d zm_205 (0, [some (.ref 215), none, none], [], (zS0, R, I, J)) r := by
  refine zEv_k 2 (f' := (2, [some (.ref 215), some (.int 0), none], [], (zS0, R, I, J))) rfl ?_
  exact k1
theorem b_205_2 {X : zX} {d : Nat} {R : zR} {I : zI} {J : zJ} {r : zA} {x1 : Int32} {x2 : Option Value} (k1 : (I 215 23) ≤ x1 → zEv X d zm_205 (55, [some (.ref 215), some (.int x1), x2], [], (zS0, R, I, J)) r) (k2 : ¬ ((I 215 23) ≤ x1) → zEv X d zm_205 (10, [some (.ref 215), some (.int x1), x2], [], (zS0, R, I, J)) r) : zEv X d zm_205 (2, [some (.ref 215), some (.int x1), x2], [], (zS0, R, I, J)) r := by
  refine zEv_k 4 (f' := (if (I 215 23) ≤ x1 then 55 else 10, [some (.ref 215), some (.int x1), x2], [], (zS0, R, I, J))) rfl ?_
  exact zEv_if k1 k2
theorem b_205_10 {X : zX} {d : Nat} {R : zR} {I : zI} {J : zJ} {r : zA} {x1 : Int32} {x2 : Option Value} (k1 : zEv X d zm_205 (14, [some (.ref 215), some (.int x1), some (.int (x1 + 1))], [], (zS0, R, I, J)) r) : zEv X d zm_205 (10, [some (.ref 215), some (.int x1), x2], [], (zS0, R, I, J)) r := by
  refine zEv_k 4 (f' := (14, [some (.ref 215), some (.int x1), some (.int (x1 + 1))], [], (zS0, R, I, J))) rfl ?_
  exact k1
theorem b_205_14 {X : zX} {d : Nat} {R : zR} {I : zI} {J : zJ} {r : zA} {x1 : Int32} {x2 : Int32} (k1 : (I 215 23) ≤ x2 → zEv X d zm_205 (49, [some (.ref 215), some (.int x1), some (.int x2)], [], (zS0, R, I, J)) r) (k2 : ¬ ((I 215 23) ≤ x2) → zEv X d zm_205 (22, [some (.ref 215), some (.int x1), some (.int x2)], [], (zS0, R, I, J)) r) : zEv X d zm_205 (14, [some (.ref 215), some (.int x1), some (.int x2)], [], (zS0, R, I, J)) r := by
  refine zEv_k 4 (f' := (if (I 215 23) ≤ x2 then 49 else 22, [some (.ref 215), some (.int x1), some (.int x2)], [], (zS0, R, I, J))) rfl ?_
  exact zEv_if k1 k2
theorem b_205_22 {X : zX} {d : Nat} {R : zR} {I : zI} {J : zJ} {r : zA} {x1 : Int32} {x2 : Int32} (hR : zRok R) (h27 : zin x2 7) (h33 : zin x1 7) (k1 : (I 229 (x1).toNatClampNeg) ≤ (I 229 (x2).toNatClampNeg) → zEv X d zm_205 (43, [some (.ref 215), some (.int x1), some (.int x2)], [], (zS0, R, I, J)) r) (k2 : ¬ ((I 229 (x1).toNatClampNeg) ≤ (I 229 (x2).toNatClampNeg)) → zEv X d zm_205 (37, [some (.ref 215), some (.int x1), some (.int x2)], [], (zS0, R, I, J)) r) : zEv X d zm_205 (22, [some (.ref 215), some (.int x1), some (.int x2)], [], (zS0, R, I, J)) r := by
  refine zEv_k 1 (f' := (23, [some (.ref 215), some (.int x1), some (.int x2)], [.ref 215], (zS0, R, I, J))) rfl ?_
  refine zEv_gr rfl rfl rfl (by decide) (hR 215 36 229 rfl) ?_
  refine zEv_k 1 (f' := (27, [some (.ref 215), some (.int x1), some (.int x2)], [.int x2, .ref 229], (zS0, R, I, J))) rfl ?_
  refine zEv_ial rfl rfl (by decide) h27 ?_
  refine zEv_k 1 (f' := (29, [some (.ref 215), some (.int x1), some (.int x2)], [.ref 215, .int (I 229 (x2).toNatClampNeg)], (zS0, R, I, J))) rfl ?_
  refine zEv_gr rfl rfl rfl (by decide) (hR 215 36 229 rfl) ?_
  refine zEv_k 1 (f' := (33, [some (.ref 215), some (.int x1), some (.int x2)], [.int x1, .ref 229, .int (I 229 (x2).toNatClampNeg)], (zS0, R, I, J))) rfl ?_
  refine zEv_ial rfl rfl (by decide) h33 ?_
  refine zEv_k 1 (f' := (if (I 229 (x1).toNatClampNeg) ≤ (I 229 (x2).toNatClampNeg) then 43 else 37, [some (.ref 215), some (.int x1), some (.int x2)], [], (zS0, R, I, J))) rfl ?_
  exact zEv_if k1 k2
theorem b_205_37 {X : zX} {d : Nat} {R : zR} {I : zI} {J : zJ} {r : zA} {x1 : Int32} {x2 : Int32} {R' : zR} {I' : zI} {J' : zJ} (hc : zEv X d zm_204 (0, [some (.ref 215), some (.int x1), some (.int x2), none], [], (zS0, R, I, J)) (none, (zS0, R', I', J'))) (k1 : zEv X (d + 1) zm_205 (43, [some (.ref 215), some (.int x1), some (.int x2)], [], (zS0, R', I', J')) r) : zEv X (d + 1) zm_205 (37, [some (.ref 215), some (.int x1), some (.int x2)], [], (zS0, R, I, J)) r := by
  refine zEv_k 3 (f' := (40, [some (.ref 215), some (.int x1), some (.int x2)], [.int x2, .int x1, .ref 215], (zS0, R, I, J))) rfl ?_
  exact zEv_c (fun _ => rfl) rfl hc rfl rfl k1
theorem b_205_43 {X : zX} {d : Nat} {R : zR} {I : zI} {J : zJ} {r : zA} {x1 : Int32} {x2 : Int32} (k1 : zEv X d zm_205 (14, [some (.ref 215), some (.int x1), some (.int (x2 + 1))], [], (zS0, R, I, J)) r) : zEv X d zm_205 (43, [some (.ref 215), some (.int x1), some (.int x2)], [], (zS0, R, I, J)) r := by
  refine zEv_k 2 (f' := (14, [some (.ref 215), some (.int x1), some (.int (x2 + 1))], [], (zS0, R, I, J))) rfl ?_
  exact k1
theorem b_205_49 {X : zX} {d : Nat} {R : zR} {I : zI} {J : zJ} {r : zA} {x1 : Int32} {x2 : Int32} (k1 : zEv X d zm_205 (2, [some (.ref 215), some (.int (x1 + 1)), some (.int x2)], [], (zS0, R, I, J)) r) : zEv X d zm_205 (49, [some (.ref 215), some (.int x1), some (.int x2)], [], (zS0, R, I, J)) r := by
  refine zEv_k 2 (f' := (2, [some (.ref 215), some (.int (x1 + 1)), some (.int x2)], [], (zS0, R, I, J))) rfl ?_
  exact k1
theorem b_205_55 {X : zX} {d : Nat} {R : zR} {I : zI} {J : zJ} {x1 : Int32} {x2 : Option Value} : zEv X d zm_205 (55, [some (.ref 215), some (.int x1), x2], [], (zS0, R, I, J)) (none, (zS0, R, I, J)) := by
  exact zEv_r rfl
theorem b_206_0 {X : zX} {d : Nat} {R : zR} {I : zI} {J : zJ} {r : zA} (k1 : zEv X d zm_206 (7, [some (.ref 215), some (.int ((I 215 23) - 2)), none], [], (zS0, R, I, J)) r) : zEv X d zm_206 (0, [some (.ref 215), none, none], [], (zS0, R, I, J)) r := by
  refine zEv_k 5 (f' := (7, [some (.ref 215), some (.int ((I 215 23) - 2)), none], [], (zS0, R, I, J))) rfl ?_
  exact k1
theorem b_206_7 {X : zX} {d : Nat} {R : zR} {I : zI} {J : zJ} {r : zA} {x1 : Int32} (k1 : x1 < 0 → zEv X d zm_206 (34, [some (.ref 215), some (.int x1), none], [], (zS0, R, I, J)) r) (k2 : ¬ (x1 < 0) → zEv X d zm_206 (11, [some (.ref 215), some (.int x1), none], [], (zS0, R, I, J)) r) : zEv X d zm_206 (7, [some (.ref 215), some (.int x1), none], [], (zS0, R, I, J)) r := by
  refine zEv_k 2 (f' := (if x1 < 0 then 34 else 11, [some (.ref 215), some (.int x1), none], [], (zS0, R, I, J))) rfl ?_
  exact zEv_if k1 k2
theorem b_206_11 {X : zX} {d : Nat} {R : zR} {I : zI} {J : zJ} {r : zA} {x1 : Int32} (hR : zRok R) (h16 : zin x1 7) (h24 : zin (x1 + 1) 7) (k1 : (I 229 (x1).toNatClampNeg) < (I 229 (x1 + 1).toNatClampNeg) → zEv X d zm_206 (34, [some (.ref 215), some (.int x1), none], [], (zS0, R, I, J)) r) (k2 : ¬ ((I 229 (x1).toNatClampNeg) < (I 229 (x1 + 1).toNatClampNeg)) → zEv X d zm_206 (28, [some (.ref 215), some (.int x1), none], [], (zS0, R, I, J)) r) : zEv X d zm_206 (11, [some (.ref 215), some (.int x1), none], [], (zS0, R, I, J)) r := by
  refine zEv_k 1 (f' := (12, [some (.ref 215), some (.int x1), none], [.ref 215], (zS0, R, I, J))) rfl ?_
  refine zEv_gr rfl rfl rfl (by decide) (hR 215 36 229 rfl) ?_
  refine zEv_k 1 (f' := (16, [some (.ref 215), some (.int x1), none], [.int x1, .ref 229], (zS0, R, I, J))) rfl ?_
  refine zEv_ial rfl rfl (by decide) h16 ?_
  refine zEv_k 1 (f' := (18, [some (.ref 215), some (.int x1), none], [.ref 215, .int (I 229 (x1).toNatClampNeg)], (zS0, R, I, J))) rfl ?_
  refine zEv_gr rfl rfl rfl (by decide) (hR 215 36 229 rfl) ?_
  refine zEv_k 3 (f' := (24, [some (.ref 215), some (.int x1), none], [.int (x1 + 1), .ref 229, .int (I 229 (x1).toNatClampNeg)], (zS0, R, I, J))) rfl ?_
  refine zEv_ial rfl rfl (by decide) h24 ?_
  refine zEv_k 1 (f' := (if (I 229 (x1).toNatClampNeg) < (I 229 (x1 + 1).toNatClampNeg) then 34 else 28, [some (.ref 215), some (.int x1), none], [], (zS0, R, I, J))) rfl ?_
  exact zEv_if k1 k2
theorem b_206_28 {X : zX} {d : Nat} {R : zR} {I : zI} {J : zJ} {r : zA} {x1 : Int32} (k1 : zEv X d zm_206 (7, [some (.ref 215), some (.int (x1 + (-1))), none], [], (zS0, R, I, J)) r) : zEv X d zm_206 (28, [some (.ref 215), some (.int x1), none], [], (zS0, R, I, J)) r := by
  refine zEv_k 2 (f' := (7, [some (.ref 215), some (.int (x1 + (-1))), none], [], (zS0, R, I, J))) rfl ?_
  exact k1
theorem b_206_34 {X : zX} {d : Nat} {R : zR} {I : zI} {J : zJ} {r : zA} {x1 : Int32} (k1 : 0 ≤ x1 → zEv X d zm_206 (40, [some (.ref 215), some (.int x1), none], [], (zS0, R, I, J)) r) (k2 : ¬ (0 ≤ x1) → zEv X d zm_206 (38, [some (.ref 215), some (.int x1), none], [], (zS0, R, I, J)) r) : zEv X d zm_206 (34, [some (.ref 215), some (.int x1), none], [], (zS0, R, I, J)) r := by
  refine zEv_k 2 (f' := (if 0 ≤ x1 then 40 else 38, [some (.ref 215), some (.int x1), none], [], (zS0, R, I, J))) rfl ?_
  exact zEv_if k1 k2
theorem b_206_38 {X : zX} {d : Nat} {R : zR} {I : zI} {J : zJ} {x1 : Int32} : zEv X d zm_206 (38, [some (.ref 215), some (.int x1), none], [], (zS0, R, I, J)) (some (.int 0), (zS0, R, I, J)) := by
  refine zEv_k 1 (f' := (39, [some (.ref 215), some (.int x1), none], [.int 0], (zS0, R, I, J))) rfl ?_
  exact zEv_r rfl
theorem b_206_40 {X : zX} {d : Nat} {R : zR} {I : zI} {J : zJ} {r : zA} {x1 : Int32} (k1 : zEv X d zm_206 (47, [some (.ref 215), some (.int x1), some (.int ((I 215 23) - 1))], [], (zS0, R, I, J)) r) : zEv X d zm_206 (40, [some (.ref 215), some (.int x1), none], [], (zS0, R, I, J)) r := by
  refine zEv_k 5 (f' := (47, [some (.ref 215), some (.int x1), some (.int ((I 215 23) - 1))], [], (zS0, R, I, J))) rfl ?_
  exact k1
theorem b_206_47 {X : zX} {d : Nat} {R : zR} {I : zI} {J : zJ} {r : zA} {x1 : Int32} {x2 : Int32} (hR : zRok R) (h52 : zin x2 7) (h58 : zin x1 7) (k1 : (I 229 (x1).toNatClampNeg) < (I 229 (x2).toNatClampNeg) → zEv X d zm_206 (68, [some (.ref 215), some (.int x1), some (.int x2)], [], (zS0, R, I, J)) r) (k2 : ¬ ((I 229 (x1).toNatClampNeg) < (I 229 (x2).toNatClampNeg)) → zEv X d zm_206 (62, [some (.ref 215), some (.int x1), some (.int x2)], [], (zS0, R, I, J)) r) : zEv X d zm_206 (47, [some (.ref 215), some (.int x1), some (.int x2)], [], (zS0, R, I, J)) r := by
  refine zEv_k 1 (f' := (48, [some (.ref 215), some (.int x1), some (.int x2)], [.ref 215], (zS0, R, I, J))) rfl ?_
  refine zEv_gr rfl rfl rfl (by decide) (hR 215 36 229 rfl) ?_
  refine zEv_k 1 (f' := (52, [some (.ref 215), some (.int x1), some (.int x2)], [.int x2, .ref 229], (zS0, R, I, J))) rfl ?_
  refine zEv_ial rfl rfl (by decide) h52 ?_
  refine zEv_k 1 (f' := (54, [some (.ref 215), some (.int x1), some (.int x2)], [.ref 215, .int (I 229 (x2).toNatClampNeg)], (zS0, R, I, J))) rfl ?_
  refine zEv_gr rfl rfl rfl (by decide) (hR 215 36 229 rfl) ?_
  refine zEv_k 1 (f' := (58, [some (.ref 215), some (.int x1), some (.int x2)], [.int x1, .ref 229, .int (I 229 (x2).toNatClampNeg)], (zS0, R, I, J))) rfl ?_
  refine zEv_ial rfl rfl (by decide) h58 ?_
  refine zEv_k 1 (f' := (if (I 229 (x1).toNatClampNeg) < (I 229 (x2).toNatClampNeg) then 68 else 62, [some (.ref 215), some (.int x1), some (.int x2)], [], (zS0, R, I, J))) rfl ?_
  exact zEv_if k1 k2
theorem b_206_62 {X : zX} {d : Nat} {R : zR} {I : zI} {J : zJ} {r : zA} {x1 : Int32} {x2 : Int32} (k1 : zEv X d zm_206 (47, [some (.ref 215), some (.int x1), some (.int (x2 + (-1)))], [], (zS0, R, I, J)) r) : zEv X d zm_206 (62, [some (.ref 215), some (.int x1), some (.int x2)], [], (zS0, R, I, J)) r := by
  refine zEv_k 2 (f' := (47, [some (.ref 215), some (.int x1), some (.int (x2 + (-1)))], [], (zS0, R, I, J))) rfl ?_
  exact k1
theorem b_206_68 {X : zX} {d : Nat} {R : zR} {I : zI} {J : zJ} {r : zA} {x1 : Int32} {x2 : Int32} {R' : zR} {I' : zI} {J' : zJ} (hc : zEv X d zm_204 (0, [some (.ref 215), some (.int x1), some (.int x2), none], [], (zS0, R, I, J)) (none, (zS0, R', I', J'))) (k1 : zEv X (d + 1) zm_206 (74, [some (.ref 215), some (.int x1), some (.int x2)], [], (zS0, R', I', J')) r) : zEv X (d + 1) zm_206 (68, [some (.ref 215), some (.int x1), some (.int x2)], [], (zS0, R, I, J)) r := by
  refine zEv_k 3 (f' := (71, [some (.ref 215), some (.int x1), some (.int x2)], [.int x2, .int x1, .ref 215], (zS0, R, I, J))) rfl ?_
  exact zEv_c (fun _ => rfl) rfl hc rfl rfl k1
theorem b_206_74 {X : zX} {d : Nat} {R : zR} {I : zI} {J : zJ} {r : zA} {x1 : Int32} {x2 : Int32} (k1 : zEv X d zm_206 (84, [some (.ref 215), some (.int (x1 + 1)), some (.int ((I 215 23) - 1))], [], (zS0, R, I, J)) r) : zEv X d zm_206 (74, [some (.ref 215), some (.int x1), some (.int x2)], [], (zS0, R, I, J)) r := by
  refine zEv_k 6 (f' := (84, [some (.ref 215), some (.int (x1 + 1)), some (.int ((I 215 23) - 1))], [], (zS0, R, I, J))) rfl ?_
  exact k1
theorem b_206_84 {X : zX} {d : Nat} {R : zR} {I : zI} {J : zJ} {r : zA} {x1 : Int32} {x2 : Int32} (k1 : x2 ≤ x1 → zEv X d zm_206 (104, [some (.ref 215), some (.int x1), some (.int x2)], [], (zS0, R, I, J)) r) (k2 : ¬ (x2 ≤ x1) → zEv X d zm_206 (89, [some (.ref 215), some (.int x1), some (.int x2)], [], (zS0, R, I, J)) r) : zEv X d zm_206 (84, [some (.ref 215), some (.int x1), some (.int x2)], [], (zS0, R, I, J)) r := by
  refine zEv_k 3 (f' := (if x2 ≤ x1 then 104 else 89, [some (.ref 215), some (.int x1), some (.int x2)], [], (zS0, R, I, J))) rfl ?_
  exact zEv_if k1 k2
theorem b_206_89 {X : zX} {d : Nat} {R : zR} {I : zI} {J : zJ} {r : zA} {x1 : Int32} {x2 : Int32} {R' : zR} {I' : zI} {J' : zJ} (hc : zEv X d zm_204 (0, [some (.ref 215), some (.int x1), some (.int x2), none], [], (zS0, R, I, J)) (none, (zS0, R', I', J'))) (k1 : zEv X (d + 1) zm_206 (95, [some (.ref 215), some (.int x1), some (.int x2)], [], (zS0, R', I', J')) r) : zEv X (d + 1) zm_206 (89, [some (.ref 215), some (.int x1), some (.int x2)], [], (zS0, R, I, J)) r := by
  refine zEv_k 3 (f' := (92, [some (.ref 215), some (.int x1), some (.int x2)], [.int x2, .int x1, .ref 215], (zS0, R, I, J))) rfl ?_
  exact zEv_c (fun _ => rfl) rfl hc rfl rfl k1
theorem b_206_95 {X : zX} {d : Nat} {R : zR} {I : zI} {J : zJ} {r : zA} {x1 : Int32} {x2 : Int32} (k1 : zEv X d zm_206 (84, [some (.ref 215), some (.int (x1 + 1)), some (.int (x2 + (-1)))], [], (zS0, R, I, J)) r) : zEv X d zm_206 (95, [some (.ref 215), some (.int x1), some (.int x2)], [], (zS0, R, I, J)) r := by
  refine zEv_k 3 (f' := (84, [some (.ref 215), some (.int (x1 + 1)), some (.int (x2 + (-1)))], [], (zS0, R, I, J))) rfl ?_
  exact k1
theorem b_206_104 {X : zX} {d : Nat} {R : zR} {I : zI} {J : zJ} {x1 : Int32} {x2 : Int32} : zEv X d zm_206 (104, [some (.ref 215), some (.int x1), some (.int x2)], [], (zS0, R, I, J)) (some (.int 1), (zS0, R, I, J)) := by
  refine zEv_k 1 (f' := (105, [some (.ref 215), some (.int x1), some (.int x2)], [.int 1], (zS0, R, I, J))) rfl ?_
  exact zEv_r rfl
theorem b_207_0 {X : zX} {d : Nat} {R : zR} {I : zI} {J : zJ} {r : zA} {x1 : Int32} {x2 : Int32} {w : Int32} {R' : zR} {I' : zI} {J' : zJ} (hc : zEv X d zm_181 (0, [some (.ref 215), some (.int x1)], [], (zS0, R, zu I 215 0 0, J)) (some (.int w), (zS0, R', I', J'))) (k1 : zEv X (d + 1) zm_207 (10, [some (.ref 215), some (.int x1), some (.int x2), none, none, none, none], [.int w], (zS0, R', I', J')) r) : zEv X (d + 1) zm_207 (0, [some (.ref 215), some (.int x1), some (.int x2), none, none, none, none], [], (zS0, R, I, J)) r := by
  refine zEv_k 5 (f' := (7, [some (.ref 215), some (.int x1), some (.int x2), none, none, none, none], [.int x1, .ref 215], (zS0, R, zu I 215 0 0, J))) rfl ?_
  exact zEv_c (fun _ => rfl) rfl hc rfl rfl k1
theorem b_207_10 {X : zX} {d : Nat} {R : zR} {I : zI} {J : zJ} {r : zA} {x1 : Int32} {x2 : Int32} {s0 : Int32} (k1 : s0 = 0 → zEv X d zm_207 (27, [some (.ref 215), some (.int x1), some (.int x2), none, none, none, none], [], (zS0, R, I, J)) r) (k2 : ¬ (s0 = 0) → zEv X d zm_207 (13, [some (.ref 215), some (.int x1), some (.int x2), none, none, none, none], [], (zS0, R, I, J)) r) : zEv X d zm_207 (10, [some (.ref 215), some (.int x1), some (.int x2), none, none, none, none], [.int s0], (zS0, R, I, J)) r := by
  refine zEv_k 1 (f' := (if s0 = 0 then 27 else 13, [some (.ref 215), some (.int x1), some (.int x2), none, none, none, none], [], (zS0, R, I, J))) rfl ?_
  exact zEv_if k1 k2
theorem b_207_13 {X : zX} {d : Nat} {R : zR} {I : zI} {J : zJ} {r : zA} {x1 : Int32} {x2 : Int32} (k1 : ¬ (zf_in x2 (-1) ((I 215 23) - 1)) = 0 → zEv X (d + 1) zm_207 (29, [some (.ref 215), some (.int x1), some (.int x2), none, none, none, none], [], (zS0, R, I, J)) r) (k2 : ¬ (¬ (zf_in x2 (-1) ((I 215 23) - 1)) = 0) → zEv X (d + 1) zm_207 (27, [some (.ref 215), some (.int x1), some (.int x2), none, none, none, none], [], (zS0, R, I, J)) r) : zEv X (d + 1) zm_207 (13, [some (.ref 215), some (.int x1), some (.int x2), none, none, none, none], [], (zS0, R, I, J)) r := by
  refine zEv_k 6 (f' := (21, [some (.ref 215), some (.int x1), some (.int x2), none, none, none, none], [.int ((I 215 23) - 1), .int (-1), .int x2], (zS0, R, I, J))) rfl ?_
  refine zEv_c (fun _ => rfl) rfl ev_zf_in rfl rfl ?_
  refine zEv_k 1 (f' := (if ¬ (zf_in x2 (-1) ((I 215 23) - 1)) = 0 then 29 else 27, [some (.ref 215), some (.int x1), some (.int x2), none, none, none, none], [], (zS0, R, I, J))) rfl ?_
  exact zEv_if k1 k2
theorem b_207_27 {X : zX} {d : Nat} {R : zR} {I : zI} {J : zJ} {x1 : Int32} {x2 : Int32} : zEv X d zm_207 (27, [some (.ref 215), some (.int x1), some (.int x2), none, none, none, none], [], (zS0, R, I, J)) (some (.int (-1)), (zS0, R, I, J)) := by
  refine zEv_k 1 (f' := (28, [some (.ref 215), some (.int x1), some (.int x2), none, none, none, none], [.int (-1)], (zS0, R, I, J))) rfl ?_
  exact zEv_r rfl
theorem b_207_29 {X : zX} {d : Nat} {R : zR} {I : zI} {J : zJ} {r : zA} {x1 : Int32} {x2 : Int32} {R' : zR} {I' : zI} {J' : zJ} (hc : zEv X d zm_205 (0, [some (.ref 215), none, none], [], (zS0, R, I, J)) (none, (zS0, R', I', J'))) (k1 : zEv X (d + 1) zm_207 (37, [some (.ref 215), some (.int x1), some (.int x2), some (.int 1000000), none, none, none], [], (zS0, R', I', J')) r) : zEv X (d + 1) zm_207 (29, [some (.ref 215), some (.int x1), some (.int x2), none, none, none, none], [], (zS0, R, I, J)) r := by
  refine zEv_k 3 (f' := (34, [some (.ref 215), some (.int x1), some (.int x2), some (.int 1000000), none, none, none], [.ref 215], (zS0, R, I, J))) rfl ?_
  exact zEv_c (fun _ => rfl) rfl hc rfl rfl k1
theorem b_207_37 {X : zX} {d : Nat} {R : zR} {I : zI} {J : zJ} {r : zA} {x1 : Int32} {x2 : Int32} {x3 : Int32} (k1 : zEv X d zm_207 (40, [some (.ref 215), some (.int x1), some (.int x2), some (.int x3), some (.int 1), none, none], [], (zS0, R, I, J)) r) : zEv X d zm_207 (37, [some (.ref 215), some (.int x1), some (.int x2), some (.int x3), none, none, none], [], (zS0, R, I, J)) r := by
  refine zEv_k 2 (f' := (40, [some (.ref 215), some (.int x1), some (.int x2), some (.int x3), some (.int 1), none, none], [], (zS0, R, I, J))) rfl ?_
  exact k1
theorem b_207_40 {X : zX} {d : Nat} {R : zR} {I : zI} {J : zJ} {r : zA} {x1 : Int32} {x2 : Int32} {x3 : Int32} {x4 : Int32} {x5 : Option Value} {x6 : Option Value} (k1 : x4 = 0 → zEv X d zm_207 (105, [some (.ref 215), some (.int x1), some (.int x2), some (.int x3), some (.int x4), x5, x6], [], (zS0, R, I, J)) r) (k2 : ¬ (x4 = 0) → zEv X d zm_207 (45, [some (.ref 215), some (.int x1), some (.int x2), some (.int x3), some (.int x4), x5, x6], [], (zS0, R, I, J)) r) : zEv X d zm_207 (40, [some (.ref 215), some (.int x1), some (.int x2), some (.int x3), some (.int x4), x5, x6], [], (zS0, R, I, J)) r := by
  refine zEv_k 2 (f' := (if x4 = 0 then 105 else 45, [some (.ref 215), some (.int x1), some (.int x2), some (.int x3), some (.int x4), x5, x6], [], (zS0, R, I, J))) rfl ?_
  exact zEv_if k1 k2
theorem b_207_45 {X : zX} {d : Nat} {R : zR} {I : zI} {J : zJ} {r : zA} {x1 : Int32} {x2 : Int32} {x3 : Int32} {x4 : Int32} {x5 : Option Value} {x6 : Option Value} {w : Int32} {R' : zR} {I' : zI} {J' : zJ} (hc : zEv X d zm_203 (0, [some (.ref 215), none, none], [], (zS0, R, I, J)) (some (.int w), (zS0, R', I', J'))) (k1 : zEv X (d + 1) zm_207 (49, [some (.ref 215), some (.int x1), some (.int x2), some (.int x3), some (.int x4), x5, x6], [.int w], (zS0, R', I', J')) r) : zEv X (d + 1) zm_207 (45, [some (.ref 215), some (.int x1), some (.int x2), some (.int x3), some (.int x4), x5, x6], [], (zS0, R, I, J)) r := by
  refine zEv_k 1 (f' := (46, [some (.ref 215), some (.int x1), some (.int x2), some (.int x3), some (.int x4), x5, x6], [.ref 215], (zS0, R, I, J))) rfl ?_
  exact zEv_c (fun _ => rfl) rfl hc rfl rfl k1
theorem b_207_49 {X : zX} {d : Nat} {R : zR} {I : zI} {J : zJ} {r : zA} {x1 : Int32} {x2 : Int32} {x3 : Int32} {x4 : Int32} {x5 : Option Value} {x6 : Option Value} {s0 : Int32} (k1 : zEv X d zm_207 (54, [some (.ref 215), some (.int x1), some (.int x2), some (.int x3), some (.int x4), some (.int s0), some (.int 0)], [], (zS0, R, I, J)) r) : zEv X d zm_207 (49, [some (.ref 215), some (.int x1), some (.int x2), some (.int x3), some (.int x4), x5, x6], [.int s0], (zS0, R, I, J)) r := by
  refine zEv_k 3 (f' := (54, [some (.ref 215), some (.int x1), some (.int x2), some (.int x3), some (.int x4), some (.int s0), some (.int 0)], [], (zS0, R, I, J))) rfl ?_
  exact k1
theorem b_207_54 {X : zX} {d : Nat} {R : zR} {I : zI} {J : zJ} {r : zA} {x1 : Int32} {x2 : Int32} {x3 : Int32} {x4 : Int32} {x5 : Int32} {x6 : Int32} (k1 : (I 215 23) ≤ x6 → zEv X d zm_207 (89, [some (.ref 215), some (.int x1), some (.int x2), some (.int x3), some (.int x4), some (.int x5), some (.int x6)], [], (zS0, R, I, J)) r) (k2 : ¬ ((I 215 23) ≤ x6) → zEv X d zm_207 (63, [some (.ref 215), some (.int x1), some (.int x2), some (.int x3), some (.int x4), some (.int x5), some (.int x6)], [], (zS0, R, I, J)) r) : zEv X d zm_207 (54, [some (.ref 215), some (.int x1), some (.int x2), some (.int x3), some (.int x4), some (.int x5), some (.int x6)], [], (zS0, R, I, J)) r := by
  refine zEv_k 4 (f' := (if (I 215 23) ≤ x6 then 89 else 63, [some (.ref 215), some (.int x1), some (.int x2), some (.int x3), some (.int x4), some (.int x5), some (.int x6)], [], (zS0, R, I, J))) rfl ?_
  exact zEv_if k1 k2
theorem b_207_63 {X : zX} {d : Nat} {R : zR} {I : zI} {J : zJ} {r : zA} {x1 : Int32} {x2 : Int32} {x3 : Int32} {x4 : Int32} {x5 : Int32} {x6 : Int32} (k1 : x3 ≤ x5 → zEv X d zm_207 (89, [some (.ref 215), some (.int x1), some (.int x2), some (.int x3), some (.int x4), some (.int x5), some (.int x6)], [], (zS0, R, I, J)) r) (k2 : ¬ (x3 ≤ x5) → zEv X d zm_207 (69, [some (.ref 215), some (.int x1), some (.int x2), some (.int x3), some (.int x4), some (.int x5), some (.int x6)], [], (zS0, R, I, J)) r) : zEv X d zm_207 (63, [some (.ref 215), some (.int x1), some (.int x2), some (.int x3), some (.int x4), some (.int x5), some (.int x6)], [], (zS0, R, I, J)) r := by
  refine zEv_k 3 (f' := (if x3 ≤ x5 then 89 else 69, [some (.ref 215), some (.int x1), some (.int x2), some (.int x3), some (.int x4), some (.int x5), some (.int x6)], [], (zS0, R, I, J))) rfl ?_
  exact zEv_if k1 k2
theorem b_207_69 {X : zX} {d : Nat} {R : zR} {I : zI} {J : zJ} {r : zA} {x1 : Int32} {x2 : Int32} {x3 : Int32} {x4 : Int32} {x5 : Int32} {x6 : Int32} (hR : zRok R) (h81 : zin x6 7) (h82 : zin x6 7) (k1 : zEv X d zm_207 (54, [some (.ref 215), some (.int x1), some (.int x2), some (.int x3), some (.int x4), some (.int x5), some (.int (x6 + 1))], [], (zS0, R, zu I 230 (x6).toNatClampNeg (I 229 (x6).toNatClampNeg), J)) r) : zEv X d zm_207 (69, [some (.ref 215), some (.int x1), some (.int x2), some (.int x3), some (.int x4), some (.int x5), some (.int x6)], [], (zS0, R, I, J)) r := by
  refine zEv_k 1 (f' := (70, [some (.ref 215), some (.int x1), some (.int x2), some (.int x3), some (.int x4), some (.int x5), some (.int x6)], [.ref 215], (zS0, R, I, J))) rfl ?_
  refine zEv_gr rfl rfl rfl (by decide) (hR 215 38 230 rfl) ?_
  refine zEv_k 2 (f' := (76, [some (.ref 215), some (.int x1), some (.int x2), some (.int x3), some (.int x4), some (.int x5), some (.int x6)], [.ref 215, .int x6, .ref 230], (zS0, R, I, J))) rfl ?_
  refine zEv_gr rfl rfl rfl (by decide) (hR 215 36 229 rfl) ?_
  refine zEv_k 1 (f' := (81, [some (.ref 215), some (.int x1), some (.int x2), some (.int x3), some (.int x4), some (.int x5), some (.int x6)], [.int x6, .ref 229, .int x6, .ref 230], (zS0, R, I, J))) rfl ?_
  refine zEv_ial rfl rfl (by decide) h81 ?_
  refine zEv_ias rfl rfl (by decide) h82 ?_
  refine zEv_k 2 (f' := (54, [some (.ref 215), some (.int x1), some (.int x2), some (.int x3), some (.int x4), some (.int x5), some (.int (x6 + 1))], [], (zS0, R, zu I 230 (x6).toNatClampNeg (I 229 (x6).toNatClampNeg), J))) rfl ?_
  exact k1
theorem b_207_89 {X : zX} {d : Nat} {R : zR} {I : zI} {J : zJ} {r : zA} {x1 : Int32} {x2 : Int32} {x3 : Int32} {x4 : Int32} {x5 : Int32} {x6 : Int32} {w : Int32} {R' : zR} {I' : zI} {J' : zJ} (hc : zEv X d zm_206 (0, [some (.ref 215), none, none], [], (zS0, R, I, J)) (some (.int w), (zS0, R', I', J'))) (k1 : zEv X (d + 1) zm_207 (100, [some (.ref 215), some (.int x1), some (.int x2), some (.int (zf_lesser x3 x5)), some (.int x4), some (.int x5), some (.int x6)], [.int w], (zS0, R', I', J')) r) : zEv X (d + 1) zm_207 (89, [some (.ref 215), some (.int x1), some (.int x2), some (.int x3), some (.int x4), some (.int x5), some (.int x6)], [], (zS0, R, I, J)) r := by
  refine zEv_k 2 (f' := (92, [some (.ref 215), some (.int x1), some (.int x2), some (.int x3), some (.int x4), some (.int x5), some (.int x6)], [.int x5, .int x3], (zS0, R, I, J))) rfl ?_
  refine zEv_c (fun _ => rfl) rfl ev_zf_lesser rfl rfl ?_
  refine zEv_k 2 (f' := (97, [some (.ref 215), some (.int x1), some (.int x2), some (.int (zf_lesser x3 x5)), some (.int x4), some (.int x5), some (.int x6)], [.ref 215], (zS0, R, I, J))) rfl ?_
  exact zEv_c (fun _ => rfl) rfl hc rfl rfl k1
theorem b_207_100 {X : zX} {d : Nat} {R : zR} {I : zI} {J : zJ} {r : zA} {x1 : Int32} {x2 : Int32} {x3 : Int32} {x4 : Int32} {x5 : Int32} {x6 : Int32} {s0 : Int32} (k1 : zEv X d zm_207 (40, [some (.ref 215), some (.int x1), some (.int x2), some (.int x3), some (.int s0), some (.int x5), some (.int x6)], [], (zS0, R, I, J)) r) : zEv X d zm_207 (100, [some (.ref 215), some (.int x1), some (.int x2), some (.int x3), some (.int x4), some (.int x5), some (.int x6)], [.int s0], (zS0, R, I, J)) r := by
  refine zEv_k 2 (f' := (40, [some (.ref 215), some (.int x1), some (.int x2), some (.int x3), some (.int s0), some (.int x5), some (.int x6)], [], (zS0, R, I, J))) rfl ?_
  exact k1
theorem b_207_105 {X : zX} {d : Nat} {R : zR} {I : zI} {J : zJ} {r : zA} {x1 : Int32} {x2 : Int32} {x3 : Int32} {x4 : Int32} {x5 : Option Value} {x6 : Option Value} (k1 : ¬ x2 = (-1) → zEv X d zm_207 (114, [some (.ref 215), some (.int x1), some (.int x2), some (.int x3), some (.int x4), x5, x6], [], (zS0, R, I, J)) r) (k2 : ¬ (¬ x2 = (-1)) → zEv X d zm_207 (110, [some (.ref 215), some (.int x1), some (.int x2), some (.int x3), some (.int x4), x5, x6], [], (zS0, R, I, J)) r) : zEv X d zm_207 (105, [some (.ref 215), some (.int x1), some (.int x2), some (.int x3), some (.int x4), x5, x6], [], (zS0, R, I, J)) r := by
  refine zEv_k 3 (f' := (if ¬ x2 = (-1) then 114 else 110, [some (.ref 215), some (.int x1), some (.int x2), some (.int x3), some (.int x4), x5, x6], [], (zS0, R, I, J))) rfl ?_
  exact zEv_if k1 k2
theorem b_207_110 {X : zX} {d : Nat} {R : zR} {I : zI} {J : zJ} {x1 : Int32} {x2 : Int32} {x3 : Int32} {x4 : Int32} {x5 : Option Value} {x6 : Option Value} : zEv X d zm_207 (110, [some (.ref 215), some (.int x1), some (.int x2), some (.int x3), some (.int x4), x5, x6], [], (zS0, R, I, J)) (some (.int x3), (zS0, R, I, J)) := by
  refine zEv_k 2 (f' := (120, [some (.ref 215), some (.int x1), some (.int x2), some (.int x3), some (.int x4), x5, x6], [.int x3], (zS0, R, I, J))) rfl ?_
  exact zEv_r rfl
theorem b_207_114 {X : zX} {d : Nat} {R : zR} {I : zI} {J : zJ} {x1 : Int32} {x2 : Int32} {x3 : Int32} {x4 : Int32} {x5 : Option Value} {x6 : Option Value} (hR : zRok R) (h119 : zin x2 7) : zEv X d zm_207 (114, [some (.ref 215), some (.int x1), some (.int x2), some (.int x3), some (.int x4), x5, x6], [], (zS0, R, I, J)) (some (.int (I 230 (x2).toNatClampNeg)), (zS0, R, I, J)) := by
  refine zEv_k 1 (f' := (115, [some (.ref 215), some (.int x1), some (.int x2), some (.int x3), some (.int x4), x5, x6], [.ref 215], (zS0, R, I, J))) rfl ?_
  refine zEv_gr rfl rfl rfl (by decide) (hR 215 38 230 rfl) ?_
  refine zEv_k 1 (f' := (119, [some (.ref 215), some (.int x1), some (.int x2), some (.int x3), some (.int x4), x5, x6], [.int x2, .ref 230], (zS0, R, I, J))) rfl ?_
  refine zEv_ial rfl rfl (by decide) h119 ?_
  exact zEv_r rfl
theorem b_208_0 {X : zX} {d : Nat} {R : zR} {I : zI} {J : zJ} {r : zA} {x1 : Int32} (k1 : zEv X d zm_208 (2, [some (.ref 215), some (.int x1), some (.int 1)], [], (zS0, R, I, J)) r) : zEv X d zm_208 (0, [some (.ref 215), some (.int x1), none], [], (zS0, R, I, J)) r := by
  refine zEv_k 2 (f' := (2, [some (.ref 215), some (.int x1), some (.int 1)], [], (zS0, R, I, J))) rfl ?_
  exact k1
theorem b_208_2 {X : zX} {d : Nat} {R : zR} {I : zI} {J : zJ} {r : zA} {x1 : Int32} {x2 : Int32} (k1 : 50 < x2 → zEv X d zm_208 (46, [some (.ref 215), some (.int x1), some (.int x2)], [], (zS0, R, I, J)) r) (k2 : ¬ (50 < x2) → zEv X d zm_208 (8, [some (.ref 215), some (.int x1), some (.int x2)], [], (zS0, R, I, J)) r) : zEv X d zm_208 (2, [some (.ref 215), some (.int x1), some (.int x2)], [], (zS0, R, I, J)) r := by
  refine zEv_k 3 (f' := (if 50 < x2 then 46 else 8, [some (.ref 215), some (.int x1), some (.int x2)], [], (zS0, R, I, J))) rfl ?_
  exact zEv_if k1 k2
theorem b_208_8 {X : zX} {d : Nat} {R : zR} {I : zI} {J : zJ} {r : zA} {x1 : Int32} {x2 : Int32} {w : Int32} {R' : zR} {I' : zI} {J' : zJ} (hc : zEv X d zm_179 (0, [some (.ref 215), some (.int (17 + x1))], [], (zS0, R, I, J)) (some (.int w), (zS0, R', I', J'))) (k1 : zEv X (d + 1) zm_208 (16, [some (.ref 215), some (.int x1), some (.int x2)], [.int w], (zS0, R', I', J')) r) : zEv X (d + 1) zm_208 (8, [some (.ref 215), some (.int x1), some (.int x2)], [], (zS0, R, I, J)) r := by
  refine zEv_k 4 (f' := (13, [some (.ref 215), some (.int x1), some (.int x2)], [.int (17 + x1), .ref 215], (zS0, R, I, J))) rfl ?_
  exact zEv_c (fun _ => rfl) rfl hc rfl rfl k1
theorem b_208_16 {X : zX} {d : Nat} {R : zR} {I : zI} {J : zJ} {r : zA} {x1 : Int32} {x2 : Int32} {s0 : Int32} {w : Int32} {R' : zR} {I' : zI} {J' : zJ} (hc : zEv X d zm_179 (0, [some (.ref 215), some (.int (24 + x1))], [], (zS0, R, I, J)) (some (.int w), (zS0, R', I', J'))) (k1 : zEv X (d + 1) zm_208 (24, [some (.ref 215), some (.int x1), some (.int x2)], [.int w, .int s0], (zS0, R', I', J')) r) : zEv X (d + 1) zm_208 (16, [some (.ref 215), some (.int x1), some (.int x2)], [.int s0], (zS0, R, I, J)) r := by
  refine zEv_k 4 (f' := (21, [some (.ref 215), some (.int x1), some (.int x2)], [.int (24 + x1), .ref 215, .int s0], (zS0, R, I, J))) rfl ?_
  exact zEv_c (fun _ => rfl) rfl hc rfl rfl k1
theorem b_208_24 {X : zX} {d : Nat} {R : zR} {I : zI} {J : zJ} {r : zA} {x1 : Int32} {x2 : Int32} {s0 : Int32} {s1 : Int32} {w : Int32} {R' : zR} {I' : zI} {J' : zJ} (hc : zEv X d zm_179 (0, [some (.ref 215), some (.int (31 + x1))], [], (zS0, R, I, J)) (some (.int w), (zS0, R', I', J'))) (k1 : zEv X (d + 1) zm_208 (35, [some (.ref 215), some (.int x1), some (.int x2)], [.int w, .int (s0 + (s1 * x2))], (zS0, R', I', J')) r) : zEv X (d + 1) zm_208 (24, [some (.ref 215), some (.int x1), some (.int x2)], [.int s1, .int s0], (zS0, R, I, J)) r := by
  refine zEv_k 7 (f' := (32, [some (.ref 215), some (.int x1), some (.int x2)], [.int (31 + x1), .ref 215, .int (s0 + (s1 * x2))], (zS0, R, I, J))) rfl ?_
  exact zEv_c (fun _ => rfl) rfl hc rfl rfl k1
theorem b_208_35 {X : zX} {d : Nat} {R : zR} {I : zI} {J : zJ} {r : zA} {x1 : Int32} {x2 : Int32} {s0 : Int32} {s1 : Int32} (k1 : s0 ≤ s1 → zEv X d zm_208 (40, [some (.ref 215), some (.int x1), some (.int x2)], [], (zS0, R, I, J)) r) (k2 : ¬ (s0 ≤ s1) → zEv X d zm_208 (38, [some (.ref 215), some (.int x1), some (.int x2)], [], (zS0, R, I, J)) r) : zEv X d zm_208 (35, [some (.ref 215), some (.int x1), some (.int x2)], [.int s1, .int s0], (zS0, R, I, J)) r := by
  refine zEv_k 1 (f' := (if s0 ≤ s1 then 40 else 38, [some (.ref 215), some (.int x1), some (.int x2)], [], (zS0, R, I, J))) rfl ?_
  exact zEv_if k1 k2
theorem b_208_38 {X : zX} {d : Nat} {R : zR} {I : zI} {J : zJ} {x1 : Int32} {x2 : Int32} : zEv X d zm_208 (38, [some (.ref 215), some (.int x1), some (.int x2)], [], (zS0, R, I, J)) (some (.int x2), (zS0, R, I, J)) := by
  refine zEv_k 1 (f' := (39, [some (.ref 215), some (.int x1), some (.int x2)], [.int x2], (zS0, R, I, J))) rfl ?_
  exact zEv_r rfl
theorem b_208_40 {X : zX} {d : Nat} {R : zR} {I : zI} {J : zJ} {r : zA} {x1 : Int32} {x2 : Int32} (k1 : zEv X d zm_208 (2, [some (.ref 215), some (.int x1), some (.int (x2 + 1))], [], (zS0, R, I, J)) r) : zEv X d zm_208 (40, [some (.ref 215), some (.int x1), some (.int x2)], [], (zS0, R, I, J)) r := by
  refine zEv_k 2 (f' := (2, [some (.ref 215), some (.int x1), some (.int (x2 + 1))], [], (zS0, R, I, J))) rfl ?_
  exact k1
theorem b_208_46 {X : zX} {d : Nat} {R : zR} {I : zI} {J : zJ} {x1 : Int32} {x2 : Int32} : zEv X d zm_208 (46, [some (.ref 215), some (.int x1), some (.int x2)], [], (zS0, R, I, J)) (some (.int (-1)), (zS0, R, I, J)) := by
  refine zEv_k 1 (f' := (47, [some (.ref 215), some (.int x1), some (.int x2)], [.int (-1)], (zS0, R, I, J))) rfl ?_
  exact zEv_r rfl
theorem b_209_0 {X : zX} {d : Nat} {R : zR} {I : zI} {J : zJ} {r : zA} {x1 : Int32} {x2 : Int32} {w : Int32} {R' : zR} {I' : zI} {J' : zJ} (hc : zEv X d zm_181 (0, [some (.ref 215), some (.int x1)], [], (zS0, R, zu I 215 0 0, J)) (some (.int w), (zS0, R', I', J'))) (k1 : zEv X (d + 1) zm_209 (10, [some (.ref 215), some (.int x1), some (.int x2)], [.int w], (zS0, R', I', J')) r) : zEv X (d + 1) zm_209 (0, [some (.ref 215), some (.int x1), some (.int x2)], [], (zS0, R, I, J)) r := by
  refine zEv_k 5 (f' := (7, [some (.ref 215), some (.int x1), some (.int x2)], [.int x1, .ref 215], (zS0, R, zu I 215 0 0, J))) rfl ?_
  exact zEv_c (fun _ => rfl) rfl hc rfl rfl k1
theorem b_209_10 {X : zX} {d : Nat} {R : zR} {I : zI} {J : zJ} {r : zA} {x1 : Int32} {x2 : Int32} {s0 : Int32} (k1 : s0 = 0 → zEv X d zm_209 (29, [some (.ref 215), some (.int x1), some (.int x2)], [], (zS0, R, I, J)) r) (k2 : ¬ (s0 = 0) → zEv X d zm_209 (13, [some (.ref 215), some (.int x1), some (.int x2)], [], (zS0, R, I, J)) r) : zEv X d zm_209 (10, [some (.ref 215), some (.int x1), some (.int x2)], [.int s0], (zS0, R, I, J)) r := by
  refine zEv_k 1 (f' := (if s0 = 0 then 29 else 13, [some (.ref 215), some (.int x1), some (.int x2)], [], (zS0, R, I, J))) rfl ?_
  exact zEv_if k1 k2
theorem b_209_13 {X : zX} {d : Nat} {R : zR} {I : zI} {J : zJ} {r : zA} {x1 : Int32} {x2 : Int32} {w : Int32} {R' : zR} {I' : zI} {J' : zJ} (hc : zEv X d zm_182 (0, [some (.ref 215), some (.int x2)], [], (zS0, R, I, J)) (some (.int w), (zS0, R', I', J'))) (k1 : zEv X (d + 1) zm_209 (18, [some (.ref 215), some (.int x1), some (.int x2)], [.int w], (zS0, R', I', J')) r) : zEv X (d + 1) zm_209 (13, [some (.ref 215), some (.int x1), some (.int x2)], [], (zS0, R, I, J)) r := by
  refine zEv_k 2 (f' := (15, [some (.ref 215), some (.int x1), some (.int x2)], [.int x2, .ref 215], (zS0, R, I, J))) rfl ?_
  exact zEv_c (fun _ => rfl) rfl hc rfl rfl k1
theorem b_209_18 {X : zX} {d : Nat} {R : zR} {I : zI} {J : zJ} {r : zA} {x1 : Int32} {x2 : Int32} {s0 : Int32} (k1 : s0 = 0 → zEv X d zm_209 (29, [some (.ref 215), some (.int x1), some (.int x2)], [], (zS0, R, I, J)) r) (k2 : ¬ (s0 = 0) → zEv X d zm_209 (21, [some (.ref 215), some (.int x1), some (.int x2)], [], (zS0, R, I, J)) r) : zEv X d zm_209 (18, [some (.ref 215), some (.int x1), some (.int x2)], [.int s0], (zS0, R, I, J)) r := by
  refine zEv_k 1 (f' := (if s0 = 0 then 29 else 21, [some (.ref 215), some (.int x1), some (.int x2)], [], (zS0, R, I, J))) rfl ?_
  exact zEv_if k1 k2
theorem b_209_21 {X : zX} {d : Nat} {R : zR} {I : zI} {J : zJ} {r : zA} {x1 : Int32} {x2 : Int32} {w : Int32} {R' : zR} {I' : zI} {J' : zJ} (hc : zEv X d zm_208 (0, [some (.ref 215), some (.int x2), none], [], (zS0, R, I, J)) (some (.int w), (zS0, R', I', J'))) (k1 : zEv X (d + 1) zm_209 (26, [some (.ref 215), some (.int x1), some (.int x2)], [.int w], (zS0, R', I', J')) r) : zEv X (d + 1) zm_209 (21, [some (.ref 215), some (.int x1), some (.int x2)], [], (zS0, R, I, J)) r := by
  refine zEv_k 2 (f' := (23, [some (.ref 215), some (.int x1), some (.int x2)], [.int x2, .ref 215], (zS0, R, I, J))) rfl ?_
  exact zEv_c (fun _ => rfl) rfl hc rfl rfl k1
theorem b_209_26 {X : zX} {d : Nat} {R : zR} {I : zI} {J : zJ} {x1 : Int32} {x2 : Int32} {s0 : Int32} : zEv X d zm_209 (26, [some (.ref 215), some (.int x1), some (.int x2)], [.int s0], (zS0, R, I, J)) (some (.int s0), (zS0, R, I, J)) := by
  refine zEv_k 1 (f' := (30, [some (.ref 215), some (.int x1), some (.int x2)], [.int s0], (zS0, R, I, J))) rfl ?_
  exact zEv_r rfl
theorem b_209_29 {X : zX} {d : Nat} {R : zR} {I : zI} {J : zJ} {x1 : Int32} {x2 : Int32} : zEv X d zm_209 (29, [some (.ref 215), some (.int x1), some (.int x2)], [], (zS0, R, I, J)) (some (.int (-1)), (zS0, R, I, J)) := by
  refine zEv_k 1 (f' := (30, [some (.ref 215), some (.int x1), some (.int x2)], [.int (-1)], (zS0, R, I, J))) rfl ?_
  exact zEv_r rfl
theorem b_210_0 {X : zX} {d : Nat} {R : zR} {I : zI} {J : zJ} {r : zA} {x1 : Int32} {x2 : Int32} {w : Int32} {R' : zR} {I' : zI} {J' : zJ} (hc : zEv X d zm_179 (0, [some (.ref 215), some (.int (3 + x1))], [], (zS0, R, I, J)) (some (.int w), (zS0, R', I', J'))) (k1 : zEv X (d + 1) zm_210 (8, [some (.ref 215), some (.int x1), some (.int x2)], [.int w, .int 0], (zS0, R', I', J')) r) : zEv X (d + 1) zm_210 (0, [some (.ref 215), some (.int x1), some (.int x2)], [], (zS0, R, I, J)) r := by
  refine zEv_k 5 (f' := (5, [some (.ref 215), some (.int x1), some (.int x2)], [.int (3 + x1), .ref 215, .int 0], (zS0, R, I, J))) rfl ?_
  exact zEv_c (fun _ => rfl) rfl hc rfl rfl k1
theorem b_210_8 {X : zX} {d : Nat} {R : zR} {I : zI} {J : zJ} {r : zA} {x1 : Int32} {x2 : Int32} {s0 : Int32} {s1 : Int32} {w : Int32} {R' : zR} {I' : zI} {J' : zJ} (hc : zEv X d zm_179 (0, [some (.ref 215), some (.int (10 + x1))], [], (zS0, R, I, J)) (some (.int w), (zS0, R', I', J'))) (k1 : zEv X (d + 1) zm_210 (16, [some (.ref 215), some (.int x1), some (.int x2)], [.int w, .int s1, .int s0], (zS0, R', I', J')) r) : zEv X (d + 1) zm_210 (8, [some (.ref 215), some (.int x1), some (.int x2)], [.int s1, .int s0], (zS0, R, I, J)) r := by
  refine zEv_k 4 (f' := (13, [some (.ref 215), some (.int x1), some (.int x2)], [.int (10 + x1), .ref 215, .int s1, .int s0], (zS0, R, I, J))) rfl ?_
  exact zEv_c (fun _ => rfl) rfl hc rfl rfl k1
theorem b_210_16 {X : zX} {d : Nat} {R : zR} {I : zI} {J : zJ} {x1 : Int32} {x2 : Int32} {s0 : Int32} {s1 : Int32} {s2 : Int32} : zEv X (d + 1) zm_210 (16, [some (.ref 215), some (.int x1), some (.int x2)], [.int s2, .int s1, .int s0], (zS0, R, I, J)) (some (.int (zf_greater s0 (s1 - (s2 * x2)))), (zS0, R, I, J)) := by
  refine zEv_k 3 (f' := (19, [some (.ref 215), some (.int x1), some (.int x2)], [.int (s1 - (s2 * x2)), .int s0], (zS0, R, I, J))) rfl ?_
  refine zEv_c (fun _ => rfl) rfl ev_zf_greater rfl rfl ?_
  exact zEv_r rfl
theorem b_211_0 {X : zX} {d : Nat} {R : zR} {I : zI} {J : zJ} {r : zA} {x1 : Int32} {x2 : Int32} {x3 : Int32} (k1 : ¬ x3 = 7 → zEv X d zm_211 (21, [some (.ref 215), some (.int x1), some (.int x2), some (.int x3), none], [], (zS0, R, I, J)) r) (k2 : ¬ (¬ x3 = 7) → zEv X d zm_211 (6, [some (.ref 215), some (.int x1), some (.int x2), some (.int x3), none], [], (zS0, R, I, J)) r) : zEv X d zm_211 (0, [some (.ref 215), some (.int x1), some (.int x2), some (.int x3), none], [], (zS0, R, I, J)) r := by
  refine zEv_k 3 (f' := (if ¬ x3 = 7 then 21 else 6, [some (.ref 215), some (.int x1), some (.int x2), some (.int x3), none], [], (zS0, R, I, J))) rfl ?_
  exact zEv_if k1 k2
theorem b_211_6 {X : zX} {d : Nat} {R : zR} {I : zI} {J : zJ} {x1 : Int32} {x2 : Int32} {x3 : Int32} (hR : zRok R) (h19 : zin ((128 * (x1 + 1)) + x2) 1408) : zEv X d zm_211 (6, [some (.ref 215), some (.int x1), some (.int x2), some (.int x3), none], [], (zS0, R, I, J)) (some (.int (I 231 ((128 * (x1 + 1)) + x2).toNatClampNeg)), (zS0, R, I, J)) := by
  refine zEv_k 1 (f' := (7, [some (.ref 215), some (.int x1), some (.int x2), some (.int x3), none], [.ref 215], (zS0, R, I, J))) rfl ?_
  refine zEv_gr rfl rfl rfl (by decide) (hR 215 39 231 rfl) ?_
  refine zEv_k 7 (f' := (19, [some (.ref 215), some (.int x1), some (.int x2), some (.int x3), none], [.int ((128 * (x1 + 1)) + x2), .ref 231], (zS0, R, I, J))) rfl ?_
  refine zEv_ial rfl rfl (by decide) h19 ?_
  exact zEv_r rfl
theorem b_211_21 {X : zX} {d : Nat} {R : zR} {I : zI} {J : zJ} {r : zA} {x1 : Int32} {x2 : Int32} {x3 : Int32} (k1 : (I 215 23) ≤ x3 → zEv X d zm_211 (59, [some (.ref 215), some (.int x1), some (.int x2), some (.int x3), none], [], (zS0, R, I, J)) r) (k2 : ¬ ((I 215 23) ≤ x3) → zEv X d zm_211 (29, [some (.ref 215), some (.int x1), some (.int x2), some (.int x3), none], [], (zS0, R, I, J)) r) : zEv X d zm_211 (21, [some (.ref 215), some (.int x1), some (.int x2), some (.int x3), none], [], (zS0, R, I, J)) r := by
  refine zEv_k 4 (f' := (if (I 215 23) ≤ x3 then 59 else 29, [some (.ref 215), some (.int x1), some (.int x2), some (.int x3), none], [], (zS0, R, I, J))) rfl ?_
  exact zEv_if k1 k2
theorem b_211_29 {X : zX} {d : Nat} {R : zR} {I : zI} {J : zJ} {r : zA} {x1 : Int32} {x2 : Int32} {x3 : Int32} (k1 : ¬ (zf_has x2 x3) = 0 → zEv X (d + 1) zm_211 (59, [some (.ref 215), some (.int x1), some (.int x2), some (.int x3), none], [], (zS0, R, I, J)) r) (k2 : ¬ (¬ (zf_has x2 x3) = 0) → zEv X (d + 1) zm_211 (37, [some (.ref 215), some (.int x1), some (.int x2), some (.int x3), none], [], (zS0, R, I, J)) r) : zEv X (d + 1) zm_211 (29, [some (.ref 215), some (.int x1), some (.int x2), some (.int x3), none], [], (zS0, R, I, J)) r := by
  refine zEv_k 2 (f' := (31, [some (.ref 215), some (.int x1), some (.int x2), some (.int x3), none], [.int x3, .int x2], (zS0, R, I, J))) rfl ?_
  refine zEv_c (fun _ => rfl) rfl ev_zf_has rfl rfl ?_
  refine zEv_k 1 (f' := (if ¬ (zf_has x2 x3) = 0 then 59 else 37, [some (.ref 215), some (.int x1), some (.int x2), some (.int x3), none], [], (zS0, R, I, J))) rfl ?_
  exact zEv_if k1 k2
theorem b_211_37 {X : zX} {d : Nat} {R : zR} {I : zI} {J : zJ} {r : zA} {x1 : Int32} {x2 : Int32} {x3 : Int32} {w : Int32} {R' : zR} {I' : zI} {J' : zJ} (hc : zEv X d zm_208 (0, [some (.ref 215), some (.int x3), none], [], (zS0, R, I, J)) (some (.int w), (zS0, R', I', J'))) (k1 : zEv X (d + 1) zm_211 (42, [some (.ref 215), some (.int x1), some (.int x2), some (.int x3), none], [.int w], (zS0, R', I', J')) r) : zEv X (d + 1) zm_211 (37, [some (.ref 215), some (.int x1), some (.int x2), some (.int x3), none], [], (zS0, R, I, J)) r := by
  refine zEv_k 2 (f' := (39, [some (.ref 215), some (.int x1), some (.int x2), some (.int x3), none], [.int x3, .ref 215], (zS0, R, I, J))) rfl ?_
  exact zEv_c (fun _ => rfl) rfl hc rfl rfl k1
theorem b_211_42 {X : zX} {d : Nat} {R : zR} {I : zI} {J : zJ} {r : zA} {x1 : Int32} {x2 : Int32} {x3 : Int32} {s0 : Int32} (k1 : s0 = (-1) → zEv X d zm_211 (55, [some (.ref 215), some (.int x1), some (.int x2), some (.int x3), none], [], (zS0, R, I, J)) r) (k2 : ¬ (s0 = (-1)) → zEv X d zm_211 (46, [some (.ref 215), some (.int x1), some (.int x2), some (.int x3), none], [], (zS0, R, I, J)) r) : zEv X d zm_211 (42, [some (.ref 215), some (.int x1), some (.int x2), some (.int x3), none], [.int s0], (zS0, R, I, J)) r := by
  refine zEv_k 2 (f' := (if s0 = (-1) then 55 else 46, [some (.ref 215), some (.int x1), some (.int x2), some (.int x3), none], [], (zS0, R, I, J))) rfl ?_
  exact zEv_if k1 k2
theorem b_211_46 {X : zX} {d : Nat} {R : zR} {I : zI} {J : zJ} {r : zA} {x1 : Int32} {x2 : Int32} {x3 : Int32} {w : Int32} {R' : zR} {I' : zI} {J' : zJ} (hc : zEv X d zm_208 (0, [some (.ref 215), some (.int x3), none], [], (zS0, R, I, J)) (some (.int w), (zS0, R', I', J'))) (k1 : zEv X (d + 1) zm_211 (51, [some (.ref 215), some (.int x1), some (.int x2), some (.int x3), none], [.int w], (zS0, R', I', J')) r) : zEv X (d + 1) zm_211 (46, [some (.ref 215), some (.int x1), some (.int x2), some (.int x3), none], [], (zS0, R, I, J)) r := by
  refine zEv_k 2 (f' := (48, [some (.ref 215), some (.int x1), some (.int x2), some (.int x3), none], [.int x3, .ref 215], (zS0, R, I, J))) rfl ?_
  exact zEv_c (fun _ => rfl) rfl hc rfl rfl k1
theorem b_211_51 {X : zX} {d : Nat} {R : zR} {I : zI} {J : zJ} {r : zA} {x1 : Int32} {x2 : Int32} {x3 : Int32} {s0 : Int32} (k1 : s0 ≤ x1 → zEv X d zm_211 (59, [some (.ref 215), some (.int x1), some (.int x2), some (.int x3), none], [], (zS0, R, I, J)) r) (k2 : ¬ (s0 ≤ x1) → zEv X d zm_211 (55, [some (.ref 215), some (.int x1), some (.int x2), some (.int x3), none], [], (zS0, R, I, J)) r) : zEv X d zm_211 (51, [some (.ref 215), some (.int x1), some (.int x2), some (.int x3), none], [.int s0], (zS0, R, I, J)) r := by
  refine zEv_k 2 (f' := (if s0 ≤ x1 then 59 else 55, [some (.ref 215), some (.int x1), some (.int x2), some (.int x3), none], [], (zS0, R, I, J))) rfl ?_
  exact zEv_if k1 k2
theorem b_211_55 {X : zX} {d : Nat} {R : zR} {I : zI} {J : zJ} {r : zA} {x1 : Int32} {x2 : Int32} {x3 : Int32} (k1 : zEv X d zm_211 (60, [some (.ref 215), some (.int x1), some (.int x2), some (.int x3), none], [.int 1], (zS0, R, I, J)) r) : zEv X d zm_211 (55, [some (.ref 215), some (.int x1), some (.int x2), some (.int x3), none], [], (zS0, R, I, J)) r := by
  refine zEv_k 2 (f' := (60, [some (.ref 215), some (.int x1), some (.int x2), some (.int x3), none], [.int 1], (zS0, R, I, J))) rfl ?_
  exact k1
theorem b_211_59 {X : zX} {d : Nat} {R : zR} {I : zI} {J : zJ} {r : zA} {x1 : Int32} {x2 : Int32} {x3 : Int32} (k1 : zEv X d zm_211 (60, [some (.ref 215), some (.int x1), some (.int x2), some (.int x3), none], [.int 0], (zS0, R, I, J)) r) : zEv X d zm_211 (59, [some (.ref 215), some (.int x1), some (.int x2), some (.int x3), none], [], (zS0, R, I, J)) r := by
  refine zEv_k 1 (f' := (60, [some (.ref 215), some (.int x1), some (.int x2), some (.int x3), none], [.int 0], (zS0, R, I, J))) rfl ?_
  exact k1
theorem b_211_60 {X : zX} {d : Nat} {R : zR} {I : zI} {J : zJ} {r : zA} {x1 : Int32} {x2 : Int32} {x3 : Int32} {s0 : Int32} (k1 : s0 = 0 → zEv X d zm_211 (95, [some (.ref 215), some (.int x1), some (.int x2), some (.int x3), some (.int s0)], [], (zS0, R, I, J)) r) (k2 : ¬ (s0 = 0) → zEv X d zm_211 (67, [some (.ref 215), some (.int x1), some (.int x2), some (.int x3), some (.int s0)], [], (zS0, R, I, J)) r) : zEv X d zm_211 (60, [some (.ref 215), some (.int x1), some (.int x2), some (.int x3), none], [.int s0], (zS0, R, I, J)) r := by
  refine zEv_k 3 (f' := (if s0 = 0 then 95 else 67, [some (.ref 215), some (.int x1), some (.int x2), some (.int x3), some (.int s0)], [], (zS0, R, I, J))) rfl ?_
  exact zEv_if k1 k2
theorem b_211_67 {X : zX} {d : Nat} {R : zR} {I : zI} {J : zJ} {r : zA} {x1 : Int32} {x2 : Int32} {x3 : Int32} {x4 : Int32} {w : Int32} {R' : zR} {I' : zI} {J' : zJ} (hc : zEv X d zm_210 (0, [some (.ref 215), some (.int x3), some (.int x1)], [], (zS0, R, I, J)) (some (.int w), (zS0, R', I', J'))) (k1 : zEv X (d + 1) zm_211 (73, [some (.ref 215), some (.int x1), some (.int x2), some (.int x3), some (.int x4)], [.int w], (zS0, R', I', J')) r) : zEv X (d + 1) zm_211 (67, [some (.ref 215), some (.int x1), some (.int x2), some (.int x3), some (.int x4)], [], (zS0, R, I, J)) r := by
  refine zEv_k 3 (f' := (70, [some (.ref 215), some (.int x1), some (.int x2), some (.int x3), some (.int x4)], [.int x1, .int x3, .ref 215], (zS0, R, I, J))) rfl ?_
  exact zEv_c (fun _ => rfl) rfl hc rfl rfl k1
theorem b_211_73 {X : zX} {d : Nat} {R : zR} {I : zI} {J : zJ} {x1 : Int32} {x2 : Int32} {x3 : Int32} {x4 : Int32} {s0 : Int32} (hR : zRok R) (h90 : zin ((128 * (x1 + 1)) + (x2 ||| ((1 : Int32) <<< (x3 &&& 31)))) 1408) : zEv X d zm_211 (73, [some (.ref 215), some (.int x1), some (.int x2), some (.int x3), some (.int x4)], [.int s0], (zS0, R, I, J)) (some (.int (s0 + (I 231 ((128 * (x1 + 1)) + (x2 ||| ((1 : Int32) <<< (x3 &&& 31)))).toNatClampNeg))), (zS0, R, I, J)) := by
  refine zEv_k 1 (f' := (74, [some (.ref 215), some (.int x1), some (.int x2), some (.int x3), some (.int x4)], [.ref 215, .int s0], (zS0, R, I, J))) rfl ?_
  refine zEv_gr rfl rfl rfl (by decide) (hR 215 39 231 rfl) ?_
  refine zEv_k 9 (f' := (88, [some (.ref 215), some (.int x1), some (.int x2), some (.int x3), some (.int x4)], [.int ((1 : Int32) <<< (x3 &&& 31)), .int x2, .int (128 * (x1 + 1)), .ref 231, .int s0], (zS0, R, I, J))) rfl ?_
  refine zEv_k 2 (f' := (90, [some (.ref 215), some (.int x1), some (.int x2), some (.int x3), some (.int x4)], [.int ((128 * (x1 + 1)) + (x2 ||| ((1 : Int32) <<< (x3 &&& 31)))), .ref 231, .int s0], (zS0, R, I, J))) rfl ?_
  refine zEv_ial rfl rfl (by decide) h90 ?_
  refine zEv_k 2 (f' := (98, [some (.ref 215), some (.int x1), some (.int x2), some (.int x3), some (.int x4)], [.int (s0 + (I 231 ((128 * (x1 + 1)) + (x2 ||| ((1 : Int32) <<< (x3 &&& 31)))).toNatClampNeg))], (zS0, R, I, J))) rfl ?_
  exact zEv_r rfl
theorem b_211_95 {X : zX} {d : Nat} {R : zR} {I : zI} {J : zJ} {x1 : Int32} {x2 : Int32} {x3 : Int32} {x4 : Int32} : zEv X d zm_211 (95, [some (.ref 215), some (.int x1), some (.int x2), some (.int x3), some (.int x4)], [], (zS0, R, I, J)) (some (.int (-1000000)), (zS0, R, I, J)) := by
  refine zEv_k 1 (f' := (98, [some (.ref 215), some (.int x1), some (.int x2), some (.int x3), some (.int x4)], [.int (-1000000)], (zS0, R, I, J))) rfl ?_
  exact zEv_r rfl
theorem b_212_0 {X : zX} {d : Nat} {R : zR} {I : zI} {J : zJ} {r : zA} {x1 : Int32} {x2 : Int32} {x3 : Int32} (k1 : (zf_in x2 0 10) = 0 → zEv X (d + 1) zm_212 (34, [some (.ref 215), some (.int x1), some (.int x2), some (.int x3), none, none, none, none], [], (zS0, R, zu I 215 0 0, J)) r) (k2 : ¬ ((zf_in x2 0 10) = 0) → zEv X (d + 1) zm_212 (15, [some (.ref 215), some (.int x1), some (.int x2), some (.int x3), none, none, none, none], [], (zS0, R, zu I 215 0 0, J)) r) : zEv X (d + 1) zm_212 (0, [some (.ref 215), some (.int x1), some (.int x2), some (.int x3), none, none, none, none], [], (zS0, R, I, J)) r := by
  refine zEv_k 6 (f' := (9, [some (.ref 215), some (.int x1), some (.int x2), some (.int x3), none, none, none, none], [.int 10, .int 0, .int x2], (zS0, R, zu I 215 0 0, J))) rfl ?_
  refine zEv_c (fun _ => rfl) rfl ev_zf_in rfl rfl ?_
  refine zEv_k 1 (f' := (if (zf_in x2 0 10) = 0 then 34 else 15, [some (.ref 215), some (.int x1), some (.int x2), some (.int x3), none, none, none, none], [], (zS0, R, zu I 215 0 0, J))) rfl ?_
  exact zEv_if k1 k2
theorem b_212_15 {X : zX} {d : Nat} {R : zR} {I : zI} {J : zJ} {r : zA} {x1 : Int32} {x2 : Int32} {x3 : Int32} {w : Int32} {R' : zR} {I' : zI} {J' : zJ} (hc : zEv X d zm_181 (0, [some (.ref 215), some (.int x1)], [], (zS0, R, I, J)) (some (.int w), (zS0, R', I', J'))) (k1 : zEv X (d + 1) zm_212 (20, [some (.ref 215), some (.int x1), some (.int x2), some (.int x3), none, none, none, none], [.int w], (zS0, R', I', J')) r) : zEv X (d + 1) zm_212 (15, [some (.ref 215), some (.int x1), some (.int x2), some (.int x3), none, none, none, none], [], (zS0, R, I, J)) r := by
  refine zEv_k 2 (f' := (17, [some (.ref 215), some (.int x1), some (.int x2), some (.int x3), none, none, none, none], [.int x1, .ref 215], (zS0, R, I, J))) rfl ?_
  exact zEv_c (fun _ => rfl) rfl hc rfl rfl k1
theorem b_212_20 {X : zX} {d : Nat} {R : zR} {I : zI} {J : zJ} {r : zA} {x1 : Int32} {x2 : Int32} {x3 : Int32} {s0 : Int32} (k1 : s0 = 0 → zEv X d zm_212 (34, [some (.ref 215), some (.int x1), some (.int x2), some (.int x3), none, none, none, none], [], (zS0, R, I, J)) r) (k2 : ¬ (s0 = 0) → zEv X d zm_212 (23, [some (.ref 215), some (.int x1), some (.int x2), some (.int x3), none, none, none, none], [], (zS0, R, I, J)) r) : zEv X d zm_212 (20, [some (.ref 215), some (.int x1), some (.int x2), some (.int x3), none, none, none, none], [.int s0], (zS0, R, I, J)) r := by
  refine zEv_k 1 (f' := (if s0 = 0 then 34 else 23, [some (.ref 215), some (.int x1), some (.int x2), some (.int x3), none, none, none, none], [], (zS0, R, I, J))) rfl ?_
  exact zEv_if k1 k2
theorem b_212_23 {X : zX} {d : Nat} {R : zR} {I : zI} {J : zJ} {r : zA} {x1 : Int32} {x2 : Int32} {x3 : Int32} (k1 : ¬ (zf_in x3 (-1) (x2 - 1)) = 0 → zEv X (d + 1) zm_212 (36, [some (.ref 215), some (.int x1), some (.int x2), some (.int x3), none, none, none, none], [], (zS0, R, I, J)) r) (k2 : ¬ (¬ (zf_in x3 (-1) (x2 - 1)) = 0) → zEv X (d + 1) zm_212 (34, [some (.ref 215), some (.int x1), some (.int x2), some (.int x3), none, none, none, none], [], (zS0, R, I, J)) r) : zEv X (d + 1) zm_212 (23, [some (.ref 215), some (.int x1), some (.int x2), some (.int x3), none, none, none, none], [], (zS0, R, I, J)) r := by
  refine zEv_k 5 (f' := (28, [some (.ref 215), some (.int x1), some (.int x2), some (.int x3), none, none, none, none], [.int (x2 - 1), .int (-1), .int x3], (zS0, R, I, J))) rfl ?_
  refine zEv_c (fun _ => rfl) rfl ev_zf_in rfl rfl ?_
  refine zEv_k 1 (f' := (if ¬ (zf_in x3 (-1) (x2 - 1)) = 0 then 36 else 34, [some (.ref 215), some (.int x1), some (.int x2), some (.int x3), none, none, none, none], [], (zS0, R, I, J))) rfl ?_
  exact zEv_if k1 k2
