theorem b_54_0 {Ls : Nat} {xs : Nat → Int32} {d : Nat} {R : zR} {I : zI} {J : zJ} {r : zA} {x1 : Int32} {x3 : Int32} {R' : zR} {I' : zI} {J' : zJ} (hc : zEv (zXs Ls xs) d zm_55 (0, [some (.ref 147), some (.ref 2), some (.int x3)], [], (zS0, R, I, J)) (none, (zS0, R', I', J'))) (k1 : zEv (zXs Ls xs) (d + 1) zm_54 (6, [some (.ref 147), some (.int x1), some (.ref 2), some (.int x3), none], [], (zS0, R', I', J')) r) : zEv (zXs Ls xs) (d + 1) zm_54 (0, [some (.ref 147), some (.int x1), some (.ref 2), some (.int x3), none], [], (zS0, R, I, J)) r := by
  refine zEv_k 3 (f' := (3, [some (.ref 147), some (.int x1), some (.ref 2), some (.int x3), none], [.int x3, .ref 2, .ref 147], (zS0, R, I, J))) rfl ?_
  exact zEv_c (fun _ => rfl) rfl hc rfl rfl k1
theorem b_54_6 {Ls : Nat} {xs : Nat → Int32} {d : Nat} {R : zR} {I : zI} {J : zJ} {r : zA} {x1 : Int32} {x3 : Int32} {R' : zR} {I' : zI} {J' : zJ} (hc : zEv (zXs Ls xs) d zm_62 (0, [some (.ref 147)], [], (zS0, R, I, J)) (none, (zS0, R', I', J'))) (k1 : zEv (zXs Ls xs) (d + 1) zm_54 (10, [some (.ref 147), some (.int x1), some (.ref 2), some (.int x3), none], [], (zS0, R', I', J')) r) : zEv (zXs Ls xs) (d + 1) zm_54 (6, [some (.ref 147), some (.int x1), some (.ref 2), some (.int x3), none], [], (zS0, R, I, J)) r := by
  refine zEv_k 1 (f' := (7, [some (.ref 147), some (.int x1), some (.ref 2), some (.int x3), none], [.ref 147], (zS0, R, I, J))) rfl ?_
  exact zEv_c (fun _ => rfl) rfl hc rfl rfl k1
theorem b_54_10 {Ls : Nat} {xs : Nat → Int32} {d : Nat} {R : zR} {I : zI} {J : zJ} {r : zA} {x1 : Int32} {x3 : Int32} (k1 : zEv (zXs Ls xs) d zm_54 (13, [some (.ref 147), some (.int x1), some (.ref 2), some (.int x3), some (.int 0)], [], (zS0, R, I, J)) r) : zEv (zXs Ls xs) d zm_54 (10, [some (.ref 147), some (.int x1), some (.ref 2), some (.int x3), none], [], (zS0, R, I, J)) r := by
  refine zEv_k 2 (f' := (13, [some (.ref 147), some (.int x1), some (.ref 2), some (.int x3), some (.int 0)], [], (zS0, R, I, J))) rfl ?_
  exact k1
theorem b_54_13 {Ls : Nat} {xs : Nat → Int32} {d : Nat} {R : zR} {I : zI} {J : zJ} {r : zA} {x1 : Int32} {x3 : Int32} {x4 : Int32} (k1 : 600 < x4 → zEv (zXs Ls xs) d zm_54 (47, [some (.ref 147), some (.int x1), some (.ref 2), some (.int x3), some (.int x4)], [], (zS0, R, I, J)) r) (k2 : ¬ (600 < x4) → zEv (zXs Ls xs) d zm_54 (21, [some (.ref 147), some (.int x1), some (.ref 2), some (.int x3), some (.int x4)], [], (zS0, R, I, J)) r) : zEv (zXs Ls xs) d zm_54 (13, [some (.ref 147), some (.int x1), some (.ref 2), some (.int x3), some (.int x4)], [], (zS0, R, I, J)) r := by
  refine zEv_k 3 (f' := (if 600 < x4 then 47 else 21, [some (.ref 147), some (.int x1), some (.ref 2), some (.int x3), some (.int x4)], [], (zS0, R, I, J))) rfl ?_
  exact zEv_if k1 k2
theorem b_54_21 {Ls : Nat} {xs : Nat → Int32} {d : Nat} {R : zR} {I : zI} {J : zJ} {r : zA} {x1 : Int32} {x3 : Int32} {x4 : Int32} (k1 : (I 147 10) = 0 → zEv (zXs Ls xs) d zm_54 (47, [some (.ref 147), some (.int x1), some (.ref 2), some (.int x3), some (.int x4)], [], (zS0, R, I, J)) r) (k2 : ¬ ((I 147 10) = 0) → zEv (zXs Ls xs) d zm_54 (28, [some (.ref 147), some (.int x1), some (.ref 2), some (.int x3), some (.int x4)], [], (zS0, R, I, J)) r) : zEv (zXs Ls xs) d zm_54 (21, [some (.ref 147), some (.int x1), some (.ref 2), some (.int x3), some (.int x4)], [], (zS0, R, I, J)) r := by
  refine zEv_k 3 (f' := (if (I 147 10) = 0 then 47 else 28, [some (.ref 147), some (.int x1), some (.ref 2), some (.int x3), some (.int x4)], [], (zS0, R, I, J))) rfl ?_
  exact zEv_if k1 k2
theorem b_54_28 {Ls : Nat} {xs : Nat → Int32} {d : Nat} {R : zR} {I : zI} {J : zJ} {r : zA} {x1 : Int32} {x3 : Int32} {x4 : Int32} (k1 : (I 147 3) = 1 → zEv (zXs Ls xs) d zm_54 (47, [some (.ref 147), some (.int x1), some (.ref 2), some (.int x3), some (.int x4)], [], (zS0, R, I, J)) r) (k2 : ¬ ((I 147 3) = 1) → zEv (zXs Ls xs) d zm_54 (36, [some (.ref 147), some (.int x1), some (.ref 2), some (.int x3), some (.int x4)], [], (zS0, R, I, J)) r) : zEv (zXs Ls xs) d zm_54 (28, [some (.ref 147), some (.int x1), some (.ref 2), some (.int x3), some (.int x4)], [], (zS0, R, I, J)) r := by
  refine zEv_k 4 (f' := (if (I 147 3) = 1 then 47 else 36, [some (.ref 147), some (.int x1), some (.ref 2), some (.int x3), some (.int x4)], [], (zS0, R, I, J))) rfl ?_
  exact zEv_if k1 k2
theorem b_54_36 {Ls : Nat} {xs : Nat → Int32} {d : Nat} {R : zR} {I : zI} {J : zJ} {r : zA} {x1 : Int32} {x3 : Int32} {x4 : Int32} {R' : zR} {I' : zI} {J' : zJ} (hc : zEv (zXs Ls xs) d zm_56 (0, [some (.ref 147), some (.int x1), none, none, none], [], (zS0, R, I, J)) (none, (zS0, R', I', J'))) (k1 : zEv (zXs Ls xs) (d + 1) zm_54 (41, [some (.ref 147), some (.int x1), some (.ref 2), some (.int x3), some (.int x4)], [], (zS0, R', I', J')) r) : zEv (zXs Ls xs) (d + 1) zm_54 (36, [some (.ref 147), some (.int x1), some (.ref 2), some (.int x3), some (.int x4)], [], (zS0, R, I, J)) r := by
  refine zEv_k 2 (f' := (38, [some (.ref 147), some (.int x1), some (.ref 2), some (.int x3), some (.int x4)], [.int x1, .ref 147], (zS0, R, I, J))) rfl ?_
  exact zEv_c (fun _ => rfl) rfl hc rfl rfl k1
theorem b_54_41 {Ls : Nat} {xs : Nat → Int32} {d : Nat} {R : zR} {I : zI} {J : zJ} {r : zA} {x1 : Int32} {x3 : Int32} {x4 : Int32} (k1 : zEv (zXs Ls xs) d zm_54 (13, [some (.ref 147), some (.int x1), some (.ref 2), some (.int x3), some (.int (x4 + 1))], [], (zS0, R, I, J)) r) : zEv (zXs Ls xs) d zm_54 (41, [some (.ref 147), some (.int x1), some (.ref 2), some (.int x3), some (.int x4)], [], (zS0, R, I, J)) r := by
  refine zEv_k 2 (f' := (13, [some (.ref 147), some (.int x1), some (.ref 2), some (.int x3), some (.int (x4 + 1))], [], (zS0, R, I, J))) rfl ?_
  exact k1
theorem b_54_47 {Ls : Nat} {xs : Nat → Int32} {d : Nat} {R : zR} {I : zI} {J : zJ} {r : zA} {x1 : Int32} {x3 : Int32} {x4 : Int32} (k1 : ¬ x1 = 0 → zEv (zXs Ls xs) d zm_54 (77, [some (.ref 147), some (.int x1), some (.ref 2), some (.int x3), some (.int x4)], [], (zS0, R, I, J)) r) (k2 : ¬ (¬ x1 = 0) → zEv (zXs Ls xs) d zm_54 (51, [some (.ref 147), some (.int x1), some (.ref 2), some (.int x3), some (.int x4)], [], (zS0, R, I, J)) r) : zEv (zXs Ls xs) d zm_54 (47, [some (.ref 147), some (.int x1), some (.ref 2), some (.int x3), some (.int x4)], [], (zS0, R, I, J)) r := by
  refine zEv_k 2 (f' := (if ¬ x1 = 0 then 77 else 51, [some (.ref 147), some (.int x1), some (.ref 2), some (.int x3), some (.int x4)], [], (zS0, R, I, J))) rfl ?_
  exact zEv_if k1 k2
theorem b_54_51 {Ls : Nat} {xs : Nat → Int32} {d : Nat} {R : zR} {I : zI} {J : zJ} {r : zA} {x1 : Int32} {x3 : Int32} {x4 : Int32} {w : Int32} {R' : zR} {I' : zI} {J' : zJ} (hR : zRok R) (hc : zEv (zXs Ls xs) d zm_7 (0, [some (.ref 148)], [], (zS0, R, I, J)) (some (.int w), (zS0, R', I', J'))) (k1 : zEv (zXs Ls xs) (d + 1) zm_54 (62, [some (.ref 147), some (.int x1), some (.ref 2), some (.int x3), some (.int x4)], [.int w, .int (I 147 13)], (zS0, R', I', J')) r) : zEv (zXs Ls xs) (d + 1) zm_54 (51, [some (.ref 147), some (.int x1), some (.ref 2), some (.int x3), some (.int x4)], [], (zS0, R, I, J)) r := by
  refine zEv_k 3 (f' := (56, [some (.ref 147), some (.int x1), some (.ref 2), some (.int x3), some (.int x4)], [.ref 147, .int (I 147 13)], (zS0, R, I, J))) rfl ?_
  refine zEv_gr rfl rfl rfl (by decide) (hR (147) 0 (148) rfl) ?_
  exact zEv_c (fun _ => rfl) rfl hc rfl rfl k1
theorem b_54_62 {Ls : Nat} {xs : Nat → Int32} {d : Nat} {R : zR} {I : zI} {J : zJ} {r : zA} {x1 : Int32} {x3 : Int32} {x4 : Int32} {s0 : Int32} {s1 : Int32} (k1 : (s0 &&& (s1 ^^^ (-1))) = 0 → zEv (zXs Ls xs) d zm_54 (77, [some (.ref 147), some (.int x1), some (.ref 2), some (.int x3), some (.int x4)], [], (zS0, R, I, J)) r) (k2 : ¬ ((s0 &&& (s1 ^^^ (-1))) = 0) → zEv (zXs Ls xs) d zm_54 (68, [some (.ref 147), some (.int x1), some (.ref 2), some (.int x3), some (.int x4)], [], (zS0, R, I, J)) r) : zEv (zXs Ls xs) d zm_54 (62, [some (.ref 147), some (.int x1), some (.ref 2), some (.int x3), some (.int x4)], [.int s1, .int s0], (zS0, R, I, J)) r := by
  refine zEv_k 4 (f' := (if (s0 &&& (s1 ^^^ (-1))) = 0 then 77 else 68, [some (.ref 147), some (.int x1), some (.ref 2), some (.int x3), some (.int x4)], [], (zS0, R, I, J))) rfl ?_
  exact zEv_if k1 k2
theorem b_54_68 {Ls : Nat} {xs : Nat → Int32} {d : Nat} {R : zR} {I : zI} {J : zJ} {r : zA} {x1 : Int32} {x3 : Int32} {x4 : Int32} {R' : zR} {I' : zI} {J' : zJ} (hc : zEv (zXs Ls xs) d zm_58 (0, [some (.ref 147), some (.int 4), some (.int (I 147 8))], [], (zS0, R, I, J)) (none, (zS0, R', I', J'))) (k1 : zEv (zXs Ls xs) (d + 1) zm_54 (77, [some (.ref 147), some (.int x1), some (.ref 2), some (.int x3), some (.int x4)], [], (zS0, R', I', J')) r) : zEv (zXs Ls xs) (d + 1) zm_54 (68, [some (.ref 147), some (.int x1), some (.ref 2), some (.int x3), some (.int x4)], [], (zS0, R, I, J)) r := by
  refine zEv_k 4 (f' := (74, [some (.ref 147), some (.int x1), some (.ref 2), some (.int x3), some (.int x4)], [.int (I 147 8), .int 4, .ref 147], (zS0, R, I, J))) rfl ?_
  exact zEv_c (fun _ => rfl) rfl hc rfl rfl k1
theorem b_54_77 {Ls : Nat} {xs : Nat → Int32} {d : Nat} {R : zR} {I : zI} {J : zJ} {x1 : Int32} {x3 : Int32} {x4 : Int32} : zEv (zXs Ls xs) d zm_54 (77, [some (.ref 147), some (.int x1), some (.ref 2), some (.int x3), some (.int x4)], [], (zS0, R, I, J)) (none, (zS0, R, I, J)) := by
  exact zEv_r rfl
theorem b_55_0 {Ls : Nat} {xs : Nat → Int32} {d : Nat} {R : zR} {I : zI} {J : zJ} {r : zA} {x2 : Int32} {R' : zR} {I' : zI} {J' : zJ} (hR : zRok R) (h31 : zcpok 0 0 ((zu I 147 8 (if (0 : Int32) < (if (if 600 < (600 : Int32) then 600 else (600 : Int32)) < x2 then (if 600 < (600 : Int32) then 600 else (600 : Int32)) else x2) then (if (if 600 < (600 : Int32) then 600 else (600 : Int32)) < x2 then (if 600 < (600 : Int32) then 600 else (600 : Int32)) else x2) else (0 : Int32))) 147 8) 600 600) (hc : zEv (zXs Ls xs) d zm_1 (0, [some (.ref 148), none], [], (zS0, R, zu (zu (zu (zu (zrow (zu I 147 8 (if (0 : Int32) < (if (if 600 < (600 : Int32) then 600 else (600 : Int32)) < x2 then (if 600 < (600 : Int32) then 600 else (600 : Int32)) else x2) then (if (if 600 < (600 : Int32) then 600 else (600 : Int32)) < x2 then (if 600 < (600 : Int32) then 600 else (600 : Int32)) else x2) else (0 : Int32))) 163 (va_cpy (I 2) (I 163) (0 : Int32).toNatClampNeg (0 : Int32).toNatClampNeg ((zu I 147 8 (if (0 : Int32) < (if (if 600 < (600 : Int32) then 600 else (600 : Int32)) < x2 then (if 600 < (600 : Int32) then 600 else (600 : Int32)) else x2) then (if (if 600 < (600 : Int32) then 600 else (600 : Int32)) < x2 then (if 600 < (600 : Int32) then 600 else (600 : Int32)) else x2) else (0 : Int32))) 147 8).toNatClampNeg)) 147 9 0) 147 3 0) 147 4 (-1)) 147 13 0, J)) (none, (zS0, R', I', J'))) (k1 : zEv (zXs Ls xs) (d + 1) zm_55 (61, [some (.ref 147), some (.ref 2), some (.int x2)], [], (zS0, R', I', J')) r) : zEv (zXs Ls xs) (d + 1) zm_55 (0, [some (.ref 147), some (.ref 2), some (.int x2)], [], (zS0, R, I, J)) r := by
  refine zEv_k 9 (f' := (17, [some (.ref 147), some (.ref 2), some (.int x2)], [.int (if (0 : Int32) < (if (if 600 < (600 : Int32) then 600 else (600 : Int32)) < x2 then (if 600 < (600 : Int32) then 600 else (600 : Int32)) else x2) then (if (if 600 < (600 : Int32) then 600 else (600 : Int32)) < x2 then (if 600 < (600 : Int32) then 600 else (600 : Int32)) else x2) else (0 : Int32)), .ref 147], (zS0, R, I, J))) rfl ?_
  refine zEv_k 4 (f' := (23, [some (.ref 147), some (.ref 2), some (.int x2)], [.ref 147, .int 0, .ref 2], (zS0, R, zu I 147 8 (if (0 : Int32) < (if (if 600 < (600 : Int32) then 600 else (600 : Int32)) < x2 then (if 600 < (600 : Int32) then 600 else (600 : Int32)) else x2) then (if (if 600 < (600 : Int32) then 600 else (600 : Int32)) < x2 then (if 600 < (600 : Int32) then 600 else (600 : Int32)) else x2) else (0 : Int32)), J))) rfl ?_
  refine zEv_gr rfl rfl rfl (by decide) (hR (147) 5 (163) rfl) ?_
  refine zEv_k 3 (f' := (31, [some (.ref 147), some (.ref 2), some (.int x2)], [.int ((zu I 147 8 (if (0 : Int32) < (if (if 600 < (600 : Int32) then 600 else (600 : Int32)) < x2 then (if 600 < (600 : Int32) then 600 else (600 : Int32)) else x2) then (if (if 600 < (600 : Int32) then 600 else (600 : Int32)) < x2 then (if 600 < (600 : Int32) then 600 else (600 : Int32)) else x2) else (0 : Int32))) 147 8), .int 0, .ref 163, .int 0, .ref 2], (zS0, R, zu I 147 8 (if (0 : Int32) < (if (if 600 < (600 : Int32) then 600 else (600 : Int32)) < x2 then (if 600 < (600 : Int32) then 600 else (600 : Int32)) else x2) then (if (if 600 < (600 : Int32) then 600 else (600 : Int32)) < x2 then (if 600 < (600 : Int32) then 600 else (600 : Int32)) else x2) else (0 : Int32)), J))) rfl ?_
  refine zEv_cp rfl rfl rfl (by decide) (by decide) (by decide) h31 (by decide) ?_
  refine zEv_k 9 (f' := (49, [some (.ref 147), some (.ref 2), some (.int x2)], [], (zS0, R, zu (zu (zu (zrow (zu I 147 8 (if (0 : Int32) < (if (if 600 < (600 : Int32) then 600 else (600 : Int32)) < x2 then (if 600 < (600 : Int32) then 600 else (600 : Int32)) else x2) then (if (if 600 < (600 : Int32) then 600 else (600 : Int32)) < x2 then (if 600 < (600 : Int32) then 600 else (600 : Int32)) else x2) else (0 : Int32))) 163 (va_cpy (I 2) (I 163) (0 : Int32).toNatClampNeg (0 : Int32).toNatClampNeg ((zu I 147 8 (if (0 : Int32) < (if (if 600 < (600 : Int32) then 600 else (600 : Int32)) < x2 then (if 600 < (600 : Int32) then 600 else (600 : Int32)) else x2) then (if (if 600 < (600 : Int32) then 600 else (600 : Int32)) < x2 then (if 600 < (600 : Int32) then 600 else (600 : Int32)) else x2) else (0 : Int32))) 147 8).toNatClampNeg)) 147 9 0) 147 3 0) 147 4 (-1), J))) rfl ?_
  refine zEv_k 4 (f' := (55, [some (.ref 147), some (.ref 2), some (.int x2)], [.ref 147], (zS0, R, zu (zu (zu (zu (zrow (zu I 147 8 (if (0 : Int32) < (if (if 600 < (600 : Int32) then 600 else (600 : Int32)) < x2 then (if 600 < (600 : Int32) then 600 else (600 : Int32)) else x2) then (if (if 600 < (600 : Int32) then 600 else (600 : Int32)) < x2 then (if 600 < (600 : Int32) then 600 else (600 : Int32)) else x2) else (0 : Int32))) 163 (va_cpy (I 2) (I 163) (0 : Int32).toNatClampNeg (0 : Int32).toNatClampNeg ((zu I 147 8 (if (0 : Int32) < (if (if 600 < (600 : Int32) then 600 else (600 : Int32)) < x2 then (if 600 < (600 : Int32) then 600 else (600 : Int32)) else x2) then (if (if 600 < (600 : Int32) then 600 else (600 : Int32)) < x2 then (if 600 < (600 : Int32) then 600 else (600 : Int32)) else x2) else (0 : Int32))) 147 8).toNatClampNeg)) 147 9 0) 147 3 0) 147 4 (-1)) 147 13 0, J))) rfl ?_
  refine zEv_gr rfl rfl rfl (by decide) (hR (147) 0 (148) rfl) ?_
  exact zEv_c (fun _ => rfl) rfl hc rfl rfl k1
theorem b_55_61 {Ls : Nat} {xs : Nat → Int32} {d : Nat} {R : zR} {I : zI} {J : zJ} {x2 : Int32} (hR : zRok R) : zEv (zXs Ls xs) d zm_55 (61, [some (.ref 147), some (.ref 2), some (.int x2)], [], (zS0, R, I, J)) (none, (zS0, R, zu (zu I 156 0 0) 160 0 0, J)) := by
  refine zEv_k 1 (f' := (62, [some (.ref 147), some (.ref 2), some (.int x2)], [.ref 147], (zS0, R, I, J))) rfl ?_
  refine zEv_gr rfl rfl rfl (by decide) (hR (147) 1 (156) rfl) ?_
  refine zEv_k 3 (f' := (70, [some (.ref 147), some (.ref 2), some (.int x2)], [.ref 147], (zS0, R, zu I 156 0 0, J))) rfl ?_
  refine zEv_gr rfl rfl rfl (by decide) (hR (147) 2 (160) rfl) ?_
  refine zEv_k 2 (f' := (77, [some (.ref 147), some (.ref 2), some (.int x2)], [], (zS0, R, zu (zu I 156 0 0) 160 0 0, J))) rfl ?_
  exact zEv_r rfl
theorem b_56_0 {Ls : Nat} {xs : Nat → Int32} {d : Nat} {R : zR} {I : zI} {J : zJ} {r : zA} {x1 : Int32} {w : Int32} {R' : zR} {I' : zI} {J' : zJ} (hc : zEv (zXs Ls xs) d zm_66 (0, [some (.ref 147), some (.int x1), none], [], (zS0, R, I, J)) (some (.int w), (zS0, R', I', J'))) (k1 : zEv (zXs Ls xs) (d + 1) zm_56 (5, [some (.ref 147), some (.int x1), none, none, none], [.int w], (zS0, R', I', J')) r) : zEv (zXs Ls xs) (d + 1) zm_56 (0, [some (.ref 147), some (.int x1), none, none, none], [], (zS0, R, I, J)) r := by
  refine zEv_k 2 (f' := (2, [some (.ref 147), some (.int x1), none, none, none], [.int x1, .ref 147], (zS0, R, I, J))) rfl ?_
  exact zEv_c (fun _ => rfl) rfl hc rfl rfl k1
theorem b_56_5 {Ls : Nat} {xs : Nat → Int32} {d : Nat} {R : zR} {I : zI} {J : zJ} {r : zA} {x1 : Int32} {s0 : Int32} (k1 : ¬ s0 = (-1) → zEv (zXs Ls xs) d zm_56 (21, [some (.ref 147), some (.int x1), some (.int s0), some (.int (I 147 11)), none], [], (zS0, R, I, J)) r) (k2 : ¬ (¬ s0 = (-1)) → zEv (zXs Ls xs) d zm_56 (16, [some (.ref 147), some (.int x1), some (.int s0), some (.int (I 147 11)), none], [], (zS0, R, I, J)) r) : zEv (zXs Ls xs) d zm_56 (5, [some (.ref 147), some (.int x1), none, none, none], [.int s0], (zS0, R, I, J)) r := by
  refine zEv_k 7 (f' := (if ¬ s0 = (-1) then 21 else 16, [some (.ref 147), some (.int x1), some (.int s0), some (.int (I 147 11)), none], [], (zS0, R, I, J))) rfl ?_
  exact zEv_if k1 k2
theorem b_56_16 {Ls : Nat} {xs : Nat → Int32} {d : Nat} {R : zR} {I : zI} {J : zJ} {r : zA} {x1 : Int32} {x2 : Int32} {x3 : Int32} {R' : zR} {I' : zI} {J' : zJ} (hc : zEv (zXs Ls xs) d zm_57 (0, [some (.ref 147)], [], (zS0, R, I, J)) (none, (zS0, R', I', J'))) (k1 : zEv (zXs Ls xs) (d + 1) zm_56 (20, [some (.ref 147), some (.int x1), some (.int x2), some (.int x3), none], [], (zS0, R', I', J')) r) : zEv (zXs Ls xs) (d + 1) zm_56 (16, [some (.ref 147), some (.int x1), some (.int x2), some (.int x3), none], [], (zS0, R, I, J)) r := by
  refine zEv_k 1 (f' := (17, [some (.ref 147), some (.int x1), some (.int x2), some (.int x3), none], [.ref 147], (zS0, R, I, J))) rfl ?_
  exact zEv_c (fun _ => rfl) rfl hc rfl rfl k1
theorem b_56_20 {Ls : Nat} {xs : Nat → Int32} {d : Nat} {R : zR} {I : zI} {J : zJ} {x1 : Int32} {x2 : Int32} {x3 : Int32} : zEv (zXs Ls xs) d zm_56 (20, [some (.ref 147), some (.int x1), some (.int x2), some (.int x3), none], [], (zS0, R, I, J)) (none, (zS0, R, I, J)) := by
  exact zEv_r rfl
theorem b_56_21 {Ls : Nat} {xs : Nat → Int32} {d : Nat} {R : zR} {I : zI} {J : zJ} {r : zA} {x1 : Int32} {x2 : Int32} {x3 : Int32} {R' : zR} {I' : zI} {J' : zJ} (hc : zEv (zXs Ls xs) d zm_62 (0, [some (.ref 147)], [], (zS0, R, I, J)) (none, (zS0, R', I', J'))) (k1 : zEv (zXs Ls xs) (d + 1) zm_56 (25, [some (.ref 147), some (.int x1), some (.int x2), some (.int x3), none], [], (zS0, R', I', J')) r) : zEv (zXs Ls xs) (d + 1) zm_56 (21, [some (.ref 147), some (.int x1), some (.int x2), some (.int x3), none], [], (zS0, R, I, J)) r := by
  refine zEv_k 1 (f' := (22, [some (.ref 147), some (.int x1), some (.int x2), some (.int x3), none], [.ref 147], (zS0, R, I, J))) rfl ?_
  exact zEv_c (fun _ => rfl) rfl hc rfl rfl k1
theorem b_56_25 {Ls : Nat} {xs : Nat → Int32} {d : Nat} {R : zR} {I : zI} {J : zJ} {r : zA} {x1 : Int32} {x2 : Int32} {x3 : Int32} (k1 : zEv (zXs Ls xs) d zm_56 (28, [some (.ref 147), some (.int x1), some (.int x2), some (.int x3), some (.int 0)], [], (zS0, R, I, J)) r) : zEv (zXs Ls xs) d zm_56 (25, [some (.ref 147), some (.int x1), some (.int x2), some (.int x3), none], [], (zS0, R, I, J)) r := by
  refine zEv_k 2 (f' := (28, [some (.ref 147), some (.int x1), some (.int x2), some (.int x3), some (.int 0)], [], (zS0, R, I, J))) rfl ?_
  exact k1
theorem b_56_28 {Ls : Nat} {xs : Nat → Int32} {d : Nat} {R : zR} {I : zI} {J : zJ} {r : zA} {x1 : Int32} {x2 : Int32} {x3 : Int32} {x4 : Int32} (h34 : zin x2 10) (k1 : (List.getD zA_NUMBERS (x2).toNatClampNeg 0) ≤ x4 → zEv (zXs Ls xs) d zm_56 (83, [some (.ref 147), some (.int x1), some (.int x2), some (.int x3), some (.int x4)], [], (zS0, R, I, J)) r) (k2 : ¬ ((List.getD zA_NUMBERS (x2).toNatClampNeg 0) ≤ x4) → zEv (zXs Ls xs) d zm_56 (38, [some (.ref 147), some (.int x1), some (.int x2), some (.int x3), some (.int x4)], [], (zS0, R, I, J)) r) : zEv (zXs Ls xs) d zm_56 (28, [some (.ref 147), some (.int x1), some (.int x2), some (.int x3), some (.int x4)], [], (zS0, R, I, J)) r := by
  refine zEv_k 3 (f' := (34, [some (.ref 147), some (.int x1), some (.int x2), some (.int x3), some (.int x4)], [.int x2, .ref (zro + 2), .int x4], (zS0, R, I, J))) rfl ?_
  refine zEv_iax rfl rfl h34 ?_
  refine zEv_k 1 (f' := (if (List.getD zA_NUMBERS (x2).toNatClampNeg 0) ≤ x4 then 83 else 38, [some (.ref 147), some (.int x1), some (.int x2), some (.int x3), some (.int x4)], [], (zS0, R, I, J))) rfl ?_
  exact zEv_if k1 k2
theorem b_56_38 {Ls : Nat} {xs : Nat → Int32} {d : Nat} {R : zR} {I : zI} {J : zJ} {r : zA} {x1 : Int32} {x2 : Int32} {x3 : Int32} {x4 : Int32} (k1 : (I 147 10) = 2 → zEv (zXs Ls xs) d zm_56 (51, [some (.ref 147), some (.int x1), some (.int x2), some (.int x3), some (.int x4)], [], (zS0, R, I, J)) r) (k2 : ¬ ((I 147 10) = 2) → zEv (zXs Ls xs) d zm_56 (46, [some (.ref 147), some (.int x1), some (.int x2), some (.int x3), some (.int x4)], [], (zS0, R, I, J)) r) : zEv (zXs Ls xs) d zm_56 (38, [some (.ref 147), some (.int x1), some (.int x2), some (.int x3), some (.int x4)], [], (zS0, R, I, J)) r := by
  refine zEv_k 4 (f' := (if (I 147 10) = 2 then 51 else 46, [some (.ref 147), some (.int x1), some (.int x2), some (.int x3), some (.int x4)], [], (zS0, R, I, J))) rfl ?_
  exact zEv_if k1 k2
theorem b_56_46 {Ls : Nat} {xs : Nat → Int32} {d : Nat} {R : zR} {I : zI} {J : zJ} {r : zA} {x1 : Int32} {x2 : Int32} {x3 : Int32} {x4 : Int32} {R' : zR} {I' : zI} {J' : zJ} (hc : zEv (zXs Ls xs) d zm_57 (0, [some (.ref 147)], [], (zS0, R, I, J)) (none, (zS0, R', I', J'))) (k1 : zEv (zXs Ls xs) (d + 1) zm_56 (50, [some (.ref 147), some (.int x1), some (.int x2), some (.int x3), some (.int x4)], [], (zS0, R', I', J')) r) : zEv (zXs Ls xs) (d + 1) zm_56 (46, [some (.ref 147), some (.int x1), some (.int x2), some (.int x3), some (.int x4)], [], (zS0, R, I, J)) r := by
  refine zEv_k 1 (f' := (47, [some (.ref 147), some (.int x1), some (.int x2), some (.int x3), some (.int x4)], [.ref 147], (zS0, R, I, J))) rfl ?_
  exact zEv_c (fun _ => rfl) rfl hc rfl rfl k1
theorem b_56_50 {Ls : Nat} {xs : Nat → Int32} {d : Nat} {R : zR} {I : zI} {J : zJ} {x1 : Int32} {x2 : Int32} {x3 : Int32} {x4 : Int32} : zEv (zXs Ls xs) d zm_56 (50, [some (.ref 147), some (.int x1), some (.int x2), some (.int x3), some (.int x4)], [], (zS0, R, I, J)) (none, (zS0, R, I, J)) := by
  exact zEv_r rfl
theorem b_56_51 {Ls : Nat} {xs : Nat → Int32} {d : Nat} {R : zR} {I : zI} {J : zJ} {r : zA} {x1 : Int32} {x2 : Int32} {x3 : Int32} {x4 : Int32} {R' : zR} {I' : zI} {J' : zJ} (hR : zRok R) (h61 : zin x4 6) (h72 : zin x4 6) (hc : zEv (zXs Ls xs) d zm_62 (0, [some (.ref 147)], [], (zS0, R, zu (zu I 164 (x4).toNatClampNeg (I 147 12)) 165 (x4).toNatClampNeg (I 147 11), J)) (none, (zS0, R', I', J'))) (k1 : zEv (zXs Ls xs) (d + 1) zm_56 (77, [some (.ref 147), some (.int x1), some (.int x2), some (.int x3), some (.int x4)], [], (zS0, R', I', J')) r) : zEv (zXs Ls xs) (d + 1) zm_56 (51, [some (.ref 147), some (.int x1), some (.int x2), some (.int x3), some (.int x4)], [], (zS0, R, I, J)) r := by
  refine zEv_k 1 (f' := (52, [some (.ref 147), some (.int x1), some (.int x2), some (.int x3), some (.int x4)], [.ref 147], (zS0, R, I, J))) rfl ?_
  refine zEv_gr rfl rfl rfl (by decide) (hR (147) 6 (164) rfl) ?_
  refine zEv_k 3 (f' := (61, [some (.ref 147), some (.int x1), some (.int x2), some (.int x3), some (.int x4)], [.int (I 147 12), .int x4, .ref 164], (zS0, R, I, J))) rfl ?_
  refine zEv_ias rfl rfl (by decide) h61 ?_
  refine zEv_k 1 (f' := (63, [some (.ref 147), some (.int x1), some (.int x2), some (.int x3), some (.int x4)], [.ref 147], (zS0, R, zu I 164 (x4).toNatClampNeg (I 147 12), J))) rfl ?_
  refine zEv_gr rfl rfl rfl (by decide) (hR (147) 7 (165) rfl) ?_
  refine zEv_k 3 (f' := (72, [some (.ref 147), some (.int x1), some (.int x2), some (.int x3), some (.int x4)], [.int (I 147 11), .int x4, .ref 165], (zS0, R, zu I 164 (x4).toNatClampNeg (I 147 12), J))) rfl ?_
  refine zEv_ias rfl rfl (by decide) h72 ?_
  refine zEv_k 1 (f' := (74, [some (.ref 147), some (.int x1), some (.int x2), some (.int x3), some (.int x4)], [.ref 147], (zS0, R, zu (zu I 164 (x4).toNatClampNeg (I 147 12)) 165 (x4).toNatClampNeg (I 147 11), J))) rfl ?_
  exact zEv_c (fun _ => rfl) rfl hc rfl rfl k1
theorem b_56_77 {Ls : Nat} {xs : Nat → Int32} {d : Nat} {R : zR} {I : zI} {J : zJ} {r : zA} {x1 : Int32} {x2 : Int32} {x3 : Int32} {x4 : Int32} (k1 : zEv (zXs Ls xs) d zm_56 (28, [some (.ref 147), some (.int x1), some (.int x2), some (.int x3), some (.int (x4 + 1))], [], (zS0, R, I, J)) r) : zEv (zXs Ls xs) d zm_56 (77, [some (.ref 147), some (.int x1), some (.int x2), some (.int x3), some (.int x4)], [], (zS0, R, I, J)) r := by
  refine zEv_k 2 (f' := (28, [some (.ref 147), some (.int x1), some (.int x2), some (.int x3), some (.int (x4 + 1))], [], (zS0, R, I, J))) rfl ?_
  exact k1
theorem b_56_83 {Ls : Nat} {xs : Nat → Int32} {d : Nat} {R : zR} {I : zI} {J : zJ} {r : zA} {x1 : Int32} {x2 : Int32} {x3 : Int32} {x4 : Int32} (k1 : (I 147 10) = 3 → zEv (zXs Ls xs) d zm_56 (96, [some (.ref 147), some (.int x1), some (.int x2), some (.int x3), some (.int x4)], [], (zS0, R, I, J)) r) (k2 : ¬ ((I 147 10) = 3) → zEv (zXs Ls xs) d zm_56 (91, [some (.ref 147), some (.int x1), some (.int x2), some (.int x3), some (.int x4)], [], (zS0, R, I, J)) r) : zEv (zXs Ls xs) d zm_56 (83, [some (.ref 147), some (.int x1), some (.int x2), some (.int x3), some (.int x4)], [], (zS0, R, I, J)) r := by
  refine zEv_k 4 (f' := (if (I 147 10) = 3 then 96 else 91, [some (.ref 147), some (.int x1), some (.int x2), some (.int x3), some (.int x4)], [], (zS0, R, I, J))) rfl ?_
  exact zEv_if k1 k2
theorem b_56_91 {Ls : Nat} {xs : Nat → Int32} {d : Nat} {R : zR} {I : zI} {J : zJ} {r : zA} {x1 : Int32} {x2 : Int32} {x3 : Int32} {x4 : Int32} {R' : zR} {I' : zI} {J' : zJ} (hc : zEv (zXs Ls xs) d zm_57 (0, [some (.ref 147)], [], (zS0, R, I, J)) (none, (zS0, R', I', J'))) (k1 : zEv (zXs Ls xs) (d + 1) zm_56 (95, [some (.ref 147), some (.int x1), some (.int x2), some (.int x3), some (.int x4)], [], (zS0, R', I', J')) r) : zEv (zXs Ls xs) (d + 1) zm_56 (91, [some (.ref 147), some (.int x1), some (.int x2), some (.int x3), some (.int x4)], [], (zS0, R, I, J)) r := by
  refine zEv_k 1 (f' := (92, [some (.ref 147), some (.int x1), some (.int x2), some (.int x3), some (.int x4)], [.ref 147], (zS0, R, I, J))) rfl ?_
  exact zEv_c (fun _ => rfl) rfl hc rfl rfl k1
theorem b_56_95 {Ls : Nat} {xs : Nat → Int32} {d : Nat} {R : zR} {I : zI} {J : zJ} {x1 : Int32} {x2 : Int32} {x3 : Int32} {x4 : Int32} : zEv (zXs Ls xs) d zm_56 (95, [some (.ref 147), some (.int x1), some (.int x2), some (.int x3), some (.int x4)], [], (zS0, R, I, J)) (none, (zS0, R, I, J)) := by
  exact zEv_r rfl
theorem b_56_96 {Ls : Nat} {xs : Nat → Int32} {d : Nat} {R : zR} {I : zI} {J : zJ} {r : zA} {x1 : Int32} {x2 : Int32} {x3 : Int32} {x4 : Int32} {R' : zR} {I' : zI} {J' : zJ} (hc : zEv (zXs Ls xs) d zm_62 (0, [some (.ref 147)], [], (zS0, R, I, J)) (none, (zS0, R', I', J'))) (k1 : zEv (zXs Ls xs) (d + 1) zm_56 (100, [some (.ref 147), some (.int x1), some (.int x2), some (.int x3), some (.int x4)], [], (zS0, R', I', J')) r) : zEv (zXs Ls xs) (d + 1) zm_56 (96, [some (.ref 147), some (.int x1), some (.int x2), some (.int x3), some (.int x4)], [], (zS0, R, I, J)) r := by
  refine zEv_k 1 (f' := (97, [some (.ref 147), some (.int x1), some (.int x2), some (.int x3), some (.int x4)], [.ref 147], (zS0, R, I, J))) rfl ?_
  exact zEv_c (fun _ => rfl) rfl hc rfl rfl k1
theorem b_56_100 {Ls : Nat} {xs : Nat → Int32} {d : Nat} {R : zR} {I : zI} {J : zJ} {r : zA} {x1 : Int32} {x2 : Int32} {x3 : Int32} {x4 : Int32} {R' : zR} {I' : zI} {J' : zJ} (hc : zEv (zXs Ls xs) d zm_59 (0, [some (.ref 147), some (.int x2), some (.int x3), none, none], [], (zS0, R, I, J)) (none, (zS0, R', I', J'))) (k1 : zEv (zXs Ls xs) (d + 1) zm_56 (106, [some (.ref 147), some (.int x1), some (.int x2), some (.int x3), some (.int x4)], [], (zS0, R', I', J')) r) : zEv (zXs Ls xs) (d + 1) zm_56 (100, [some (.ref 147), some (.int x1), some (.int x2), some (.int x3), some (.int x4)], [], (zS0, R, I, J)) r := by
  refine zEv_k 3 (f' := (103, [some (.ref 147), some (.int x1), some (.int x2), some (.int x3), some (.int x4)], [.int x3, .int x2, .ref 147], (zS0, R, I, J))) rfl ?_
  exact zEv_c (fun _ => rfl) rfl hc rfl rfl k1
theorem b_56_106 {Ls : Nat} {xs : Nat → Int32} {d : Nat} {R : zR} {I : zI} {J : zJ} {r : zA} {x1 : Int32} {x2 : Int32} {x3 : Int32} {x4 : Int32} (k1 : ¬ (I 147 3) = 0 → zEv (zXs Ls xs) d zm_56 (118, [some (.ref 147), some (.int x1), some (.int x2), some (.int x3), some (.int x4)], [], (zS0, R, I, J)) r) (k2 : ¬ (¬ (I 147 3) = 0) → zEv (zXs Ls xs) d zm_56 (113, [some (.ref 147), some (.int x1), some (.int x2), some (.int x3), some (.int x4)], [], (zS0, R, I, J)) r) : zEv (zXs Ls xs) d zm_56 (106, [some (.ref 147), some (.int x1), some (.int x2), some (.int x3), some (.int x4)], [], (zS0, R, I, J)) r := by
  refine zEv_k 3 (f' := (if ¬ (I 147 3) = 0 then 118 else 113, [some (.ref 147), some (.int x1), some (.int x2), some (.int x3), some (.int x4)], [], (zS0, R, I, J))) rfl ?_
  exact zEv_if k1 k2
theorem b_56_113 {Ls : Nat} {xs : Nat → Int32} {d : Nat} {R : zR} {I : zI} {J : zJ} {r : zA} {x1 : Int32} {x2 : Int32} {x3 : Int32} {x4 : Int32} {R' : zR} {I' : zI} {J' : zJ} (hc : zEv (zXs Ls xs) d zm_61 (0, [some (.ref 147), some (.int x2)], [], (zS0, R, I, J)) (none, (zS0, R', I', J'))) (k1 : zEv (zXs Ls xs) (d + 1) zm_56 (118, [some (.ref 147), some (.int x1), some (.int x2), some (.int x3), some (.int x4)], [], (zS0, R', I', J')) r) : zEv (zXs Ls xs) (d + 1) zm_56 (113, [some (.ref 147), some (.int x1), some (.int x2), some (.int x3), some (.int x4)], [], (zS0, R, I, J)) r := by
  refine zEv_k 2 (f' := (115, [some (.ref 147), some (.int x1), some (.int x2), some (.int x3), some (.int x4)], [.int x2, .ref 147], (zS0, R, I, J))) rfl ?_
  exact zEv_c (fun _ => rfl) rfl hc rfl rfl k1
theorem b_56_118 {Ls : Nat} {xs : Nat → Int32} {d : Nat} {R : zR} {I : zI} {J : zJ} {x1 : Int32} {x2 : Int32} {x3 : Int32} {x4 : Int32} : zEv (zXs Ls xs) d zm_56 (118, [some (.ref 147), some (.int x1), some (.int x2), some (.int x3), some (.int x4)], [], (zS0, R, I, J)) (none, (zS0, R, I, J)) := by
  exact zEv_r rfl
theorem b_57_0 {Ls : Nat} {xs : Nat → Int32} {d : Nat} {R : zR} {I : zI} {J : zJ}  : zEv (zXs Ls xs) d zm_57 (0, [some (.ref 147)], [], (zS0, R, I, J)) (none, (zS0, R, zu (zu I 147 3 1) 147 4 ((zu I 147 3 1) 147 11), J)) := by
  refine zEv_k 7 (f' := (13, [some (.ref 147)], [], (zS0, R, zu (zu I 147 3 1) 147 4 ((zu I 147 3 1) 147 11), J))) rfl ?_
  exact zEv_r rfl
theorem b_58_0 {Ls : Nat} {xs : Nat → Int32} {d : Nat} {R : zR} {I : zI} {J : zJ} {r : zA} {x1 : Int32} {x2 : Int32} (k1 : ¬ (I 147 3) = 0 → zEv (zXs Ls xs) d zm_58 (17, [some (.ref 147), some (.int x1), some (.int x2)], [], (zS0, R, I, J)) r) (k2 : ¬ (¬ (I 147 3) = 0) → zEv (zXs Ls xs) d zm_58 (7, [some (.ref 147), some (.int x1), some (.int x2)], [], (zS0, R, I, J)) r) : zEv (zXs Ls xs) d zm_58 (0, [some (.ref 147), some (.int x1), some (.int x2)], [], (zS0, R, I, J)) r := by
  refine zEv_k 3 (f' := (if ¬ (I 147 3) = 0 then 17 else 7, [some (.ref 147), some (.int x1), some (.int x2)], [], (zS0, R, I, J))) rfl ?_
  exact zEv_if k1 k2
theorem b_58_7 {Ls : Nat} {xs : Nat → Int32} {d : Nat} {R : zR} {I : zI} {J : zJ} {r : zA} {x1 : Int32} {x2 : Int32} (k1 : zEv (zXs Ls xs) d zm_58 (17, [some (.ref 147), some (.int x1), some (.int x2)], [], (zS0, R, zu (zu I 147 3 x1) 147 4 x2, J)) r) : zEv (zXs Ls xs) d zm_58 (7, [some (.ref 147), some (.int x1), some (.int x2)], [], (zS0, R, I, J)) r := by
  refine zEv_k 6 (f' := (17, [some (.ref 147), some (.int x1), some (.int x2)], [], (zS0, R, zu (zu I 147 3 x1) 147 4 x2, J))) rfl ?_
  exact k1
theorem b_58_17 {Ls : Nat} {xs : Nat → Int32} {d : Nat} {R : zR} {I : zI} {J : zJ} {x1 : Int32} {x2 : Int32} : zEv (zXs Ls xs) d zm_58 (17, [some (.ref 147), some (.int x1), some (.int x2)], [], (zS0, R, I, J)) (none, (zS0, R, I, J)) := by
  exact zEv_r rfl
theorem b_59_0 {Ls : Nat} {xs : Nat → Int32} {d : Nat} {R : zR} {I : zI} {J : zJ} {r : zA} {x1 : Int32} {x2 : Int32} {w : Int32} {R' : zR} {I' : zI} {J' : zJ} (hc : zEv (zXs Ls xs) d zm_60 (0, [some (.ref 147), some (.int x1)], [], (zS0, R, I, J)) (some (.int w), (zS0, R', I', J'))) (k1 : zEv (zXs Ls xs) (d + 1) zm_59 (5, [some (.ref 147), some (.int x1), some (.int x2), none, none], [.int w], (zS0, R', I', J')) r) : zEv (zXs Ls xs) (d + 1) zm_59 (0, [some (.ref 147), some (.int x1), some (.int x2), none, none], [], (zS0, R, I, J)) r := by
  refine zEv_k 2 (f' := (2, [some (.ref 147), some (.int x1), some (.int x2), none, none], [.int x1, .ref 147], (zS0, R, I, J))) rfl ?_
  exact zEv_c (fun _ => rfl) rfl hc rfl rfl k1
theorem b_59_5 {Ls : Nat} {xs : Nat → Int32} {d : Nat} {R : zR} {I : zI} {J : zJ} {r : zA} {x1 : Int32} {x2 : Int32} {s0 : Int32} (k1 : s0 = 0 → zEv (zXs Ls xs) d zm_59 (14, [some (.ref 147), some (.int x1), some (.int x2), none, none], [], (zS0, R, I, J)) r) (k2 : ¬ (s0 = 0) → zEv (zXs Ls xs) d zm_59 (8, [some (.ref 147), some (.int x1), some (.int x2), none, none], [], (zS0, R, I, J)) r) : zEv (zXs Ls xs) d zm_59 (5, [some (.ref 147), some (.int x1), some (.int x2), none, none], [.int s0], (zS0, R, I, J)) r := by
  refine zEv_k 1 (f' := (if s0 = 0 then 14 else 8, [some (.ref 147), some (.int x1), some (.int x2), none, none], [], (zS0, R, I, J))) rfl ?_
  exact zEv_if k1 k2
theorem b_59_8 {Ls : Nat} {xs : Nat → Int32} {d : Nat} {R : zR} {I : zI} {J : zJ} {r : zA} {x1 : Int32} {x2 : Int32} {R' : zR} {I' : zI} {J' : zJ} (hc : zEv (zXs Ls xs) d zm_58 (0, [some (.ref 147), some (.int 3), some (.int x2)], [], (zS0, R, I, J)) (none, (zS0, R', I', J'))) (k1 : zEv (zXs Ls xs) (d + 1) zm_59 (14, [some (.ref 147), some (.int x1), some (.int x2), none, none], [], (zS0, R', I', J')) r) : zEv (zXs Ls xs) (d + 1) zm_59 (8, [some (.ref 147), some (.int x1), some (.int x2), none, none], [], (zS0, R, I, J)) r := by
  refine zEv_k 3 (f' := (11, [some (.ref 147), some (.int x1), some (.int x2), none, none], [.int x2, .int 3, .ref 147], (zS0, R, I, J))) rfl ?_
  exact zEv_c (fun _ => rfl) rfl hc rfl rfl k1
theorem b_59_14 {Ls : Nat} {xs : Nat → Int32} {d : Nat} {R : zR} {I : zI} {J : zJ} {r : zA} {x1 : Int32} {x2 : Int32} (k1 : zEv (zXs Ls xs) d zm_59 (16, [some (.ref 147), some (.int x1), some (.int x2), some (.int 0), none], [], (zS0, R, I, J)) r) : zEv (zXs Ls xs) d zm_59 (14, [some (.ref 147), some (.int x1), some (.int x2), none, none], [], (zS0, R, I, J)) r := by
  refine zEv_k 2 (f' := (16, [some (.ref 147), some (.int x1), some (.int x2), some (.int 0), none], [], (zS0, R, I, J))) rfl ?_
  exact k1
theorem b_59_16 {Ls : Nat} {xs : Nat → Int32} {d : Nat} {R : zR} {I : zI} {J : zJ} {r : zA} {x1 : Int32} {x2 : Int32} {x3 : Int32} {x4 : Option Value} (h21 : zin x1 10) (k1 : (List.getD zA_NUMBERS (x1).toNatClampNeg 0) ≤ x3 → zEv (zXs Ls xs) d zm_59 (80, [some (.ref 147), some (.int x1), some (.int x2), some (.int x3), x4], [], (zS0, R, I, J)) r) (k2 : ¬ ((List.getD zA_NUMBERS (x1).toNatClampNeg 0) ≤ x3) → zEv (zXs Ls xs) d zm_59 (25, [some (.ref 147), some (.int x1), some (.int x2), some (.int x3), x4], [], (zS0, R, I, J)) r) : zEv (zXs Ls xs) d zm_59 (16, [some (.ref 147), some (.int x1), some (.int x2), some (.int x3), x4], [], (zS0, R, I, J)) r := by
  refine zEv_k 3 (f' := (21, [some (.ref 147), some (.int x1), some (.int x2), some (.int x3), x4], [.int x1, .ref (zro + 2), .int x3], (zS0, R, I, J))) rfl ?_
  refine zEv_iax rfl rfl h21 ?_
  refine zEv_k 1 (f' := (if (List.getD zA_NUMBERS (x1).toNatClampNeg 0) ≤ x3 then 80 else 25, [some (.ref 147), some (.int x1), some (.int x2), some (.int x3), x4], [], (zS0, R, I, J))) rfl ?_
  exact zEv_if k1 k2
theorem b_59_25 {Ls : Nat} {xs : Nat → Int32} {d : Nat} {R : zR} {I : zI} {J : zJ} {r : zA} {x1 : Int32} {x2 : Int32} {x3 : Int32} {x4 : Option Value} (hR : zRok R) (h38 : zin x3 6) (h44 : zin ((x1 * 6) + x3) 60) (k1 : (I 164 (x3).toNatClampNeg) < (List.getD zA_LOW ((x1 * 6) + x3).toNatClampNeg 0) → zEv (zXs Ls xs) d zm_59 (63, [some (.ref 147), some (.int x1), some (.int x2), some (.int x3), some (.int ((x1 * 6) + x3))], [], (zS0, R, I, J)) r) (k2 : ¬ ((I 164 (x3).toNatClampNeg) < (List.getD zA_LOW ((x1 * 6) + x3).toNatClampNeg 0)) → zEv (zXs Ls xs) d zm_59 (48, [some (.ref 147), some (.int x1), some (.int x2), some (.int x3), some (.int ((x1 * 6) + x3))], [], (zS0, R, I, J)) r) : zEv (zXs Ls xs) d zm_59 (25, [some (.ref 147), some (.int x1), some (.int x2), some (.int x3), x4], [], (zS0, R, I, J)) r := by
  refine zEv_k 7 (f' := (34, [some (.ref 147), some (.int x1), some (.int x2), some (.int x3), some (.int ((x1 * 6) + x3))], [.ref 147], (zS0, R, I, J))) rfl ?_
  refine zEv_gr rfl rfl rfl (by decide) (hR (147) 6 (164) rfl) ?_
  refine zEv_k 1 (f' := (38, [some (.ref 147), some (.int x1), some (.int x2), some (.int x3), some (.int ((x1 * 6) + x3))], [.int x3, .ref 164], (zS0, R, I, J))) rfl ?_
  refine zEv_ial rfl rfl (by decide) h38 ?_
  refine zEv_k 2 (f' := (44, [some (.ref 147), some (.int x1), some (.int x2), some (.int x3), some (.int ((x1 * 6) + x3))], [.int ((x1 * 6) + x3), .ref (zro + 3), .int (I 164 (x3).toNatClampNeg)], (zS0, R, I, J))) rfl ?_
  refine zEv_iax rfl rfl h44 ?_
  refine zEv_k 1 (f' := (if (I 164 (x3).toNatClampNeg) < (List.getD zA_LOW ((x1 * 6) + x3).toNatClampNeg 0) then 63 else 48, [some (.ref 147), some (.int x1), some (.int x2), some (.int x3), some (.int ((x1 * 6) + x3))], [], (zS0, R, I, J))) rfl ?_
  exact zEv_if k1 k2
theorem b_59_48 {Ls : Nat} {xs : Nat → Int32} {d : Nat} {R : zR} {I : zI} {J : zJ} {r : zA} {x1 : Int32} {x2 : Int32} {x3 : Int32} {x4 : Int32} (hR : zRok R) (h53 : zin x3 6) (h59 : zin x4 60) (k1 : (I 164 (x3).toNatClampNeg) ≤ (List.getD zA_HIGH (x4).toNatClampNeg 0) → zEv (zXs Ls xs) d zm_59 (74, [some (.ref 147), some (.int x1), some (.int x2), some (.int x3), some (.int x4)], [], (zS0, R, I, J)) r) (k2 : ¬ ((I 164 (x3).toNatClampNeg) ≤ (List.getD zA_HIGH (x4).toNatClampNeg 0)) → zEv (zXs Ls xs) d zm_59 (63, [some (.ref 147), some (.int x1), some (.int x2), some (.int x3), some (.int x4)], [], (zS0, R, I, J)) r) : zEv (zXs Ls xs) d zm_59 (48, [some (.ref 147), some (.int x1), some (.int x2), some (.int x3), some (.int x4)], [], (zS0, R, I, J)) r := by
  refine zEv_k 1 (f' := (49, [some (.ref 147), some (.int x1), some (.int x2), some (.int x3), some (.int x4)], [.ref 147], (zS0, R, I, J))) rfl ?_
  refine zEv_gr rfl rfl rfl (by decide) (hR (147) 6 (164) rfl) ?_
  refine zEv_k 1 (f' := (53, [some (.ref 147), some (.int x1), some (.int x2), some (.int x3), some (.int x4)], [.int x3, .ref 164], (zS0, R, I, J))) rfl ?_
  refine zEv_ial rfl rfl (by decide) h53 ?_
  refine zEv_k 2 (f' := (59, [some (.ref 147), some (.int x1), some (.int x2), some (.int x3), some (.int x4)], [.int x4, .ref (zro + 4), .int (I 164 (x3).toNatClampNeg)], (zS0, R, I, J))) rfl ?_
  refine zEv_iax rfl rfl h59 ?_
  refine zEv_k 1 (f' := (if (I 164 (x3).toNatClampNeg) ≤ (List.getD zA_HIGH (x4).toNatClampNeg 0) then 74 else 63, [some (.ref 147), some (.int x1), some (.int x2), some (.int x3), some (.int x4)], [], (zS0, R, I, J))) rfl ?_
  exact zEv_if k1 k2
theorem b_59_63 {Ls : Nat} {xs : Nat → Int32} {d : Nat} {R : zR} {I : zI} {J : zJ} {r : zA} {x1 : Int32} {x2 : Int32} {x3 : Int32} {x4 : Int32} {R' : zR} {I' : zI} {J' : zJ} (hR : zRok R) (h70 : zin x3 6) (hc : zEv (zXs Ls xs) d zm_58 (0, [some (.ref 147), some (.int 2), some (.int (I 165 (x3).toNatClampNeg))], [], (zS0, R, I, J)) (none, (zS0, R', I', J'))) (k1 : zEv (zXs Ls xs) (d + 1) zm_59 (74, [some (.ref 147), some (.int x1), some (.int x2), some (.int x3), some (.int x4)], [], (zS0, R', I', J')) r) : zEv (zXs Ls xs) (d + 1) zm_59 (63, [some (.ref 147), some (.int x1), some (.int x2), some (.int x3), some (.int x4)], [], (zS0, R, I, J)) r := by
  refine zEv_k 3 (f' := (66, [some (.ref 147), some (.int x1), some (.int x2), some (.int x3), some (.int x4)], [.ref 147, .int 2, .ref 147], (zS0, R, I, J))) rfl ?_
  refine zEv_gr rfl rfl rfl (by decide) (hR (147) 7 (165) rfl) ?_
  refine zEv_k 1 (f' := (70, [some (.ref 147), some (.int x1), some (.int x2), some (.int x3), some (.int x4)], [.int x3, .ref 165, .int 2, .ref 147], (zS0, R, I, J))) rfl ?_
  refine zEv_ial rfl rfl (by decide) h70 ?_
  exact zEv_c (fun _ => rfl) rfl hc rfl rfl k1
theorem b_59_74 {Ls : Nat} {xs : Nat → Int32} {d : Nat} {R : zR} {I : zI} {J : zJ} {r : zA} {x1 : Int32} {x2 : Int32} {x3 : Int32} {x4 : Int32} (k1 : zEv (zXs Ls xs) d zm_59 (16, [some (.ref 147), some (.int x1), some (.int x2), some (.int (x3 + 1)), some (.int x4)], [], (zS0, R, I, J)) r) : zEv (zXs Ls xs) d zm_59 (74, [some (.ref 147), some (.int x1), some (.int x2), some (.int x3), some (.int x4)], [], (zS0, R, I, J)) r := by
  refine zEv_k 2 (f' := (16, [some (.ref 147), some (.int x1), some (.int x2), some (.int (x3 + 1)), some (.int x4)], [], (zS0, R, I, J))) rfl ?_
  exact k1
theorem b_59_80 {Ls : Nat} {xs : Nat → Int32} {d : Nat} {R : zR} {I : zI} {J : zJ} {r : zA} {x1 : Int32} {x2 : Int32} {x3 : Int32} {x4 : Option Value} (k1 : ¬ x1 = 3 → zEv (zXs Ls xs) d zm_59 (111, [some (.ref 147), some (.int x1), some (.int x2), some (.int x3), x4], [], (zS0, R, I, J)) r) (k2 : ¬ (¬ x1 = 3) → zEv (zXs Ls xs) d zm_59 (85, [some (.ref 147), some (.int x1), some (.int x2), some (.int x3), x4], [], (zS0, R, I, J)) r) : zEv (zXs Ls xs) d zm_59 (80, [some (.ref 147), some (.int x1), some (.int x2), some (.int x3), x4], [], (zS0, R, I, J)) r := by
  refine zEv_k 3 (f' := (if ¬ x1 = 3 then 111 else 85, [some (.ref 147), some (.int x1), some (.int x2), some (.int x3), x4], [], (zS0, R, I, J))) rfl ?_
  exact zEv_if k1 k2
theorem b_59_85 {Ls : Nat} {xs : Nat → Int32} {d : Nat} {R : zR} {I : zI} {J : zJ} {r : zA} {x1 : Int32} {x2 : Int32} {x3 : Int32} {x4 : Option Value} (hR : zRok R) (k1 : ¬ (I 164 (0 : Int32).toNatClampNeg) = (I 164 (1 : Int32).toNatClampNeg) → zEv (zXs Ls xs) d zm_59 (111, [some (.ref 147), some (.int x1), some (.int x2), some (.int x3), x4], [], (zS0, R, I, J)) r) (k2 : ¬ (¬ (I 164 (0 : Int32).toNatClampNeg) = (I 164 (1 : Int32).toNatClampNeg)) → zEv (zXs Ls xs) d zm_59 (100, [some (.ref 147), some (.int x1), some (.int x2), some (.int x3), x4], [], (zS0, R, I, J)) r) : zEv (zXs Ls xs) d zm_59 (85, [some (.ref 147), some (.int x1), some (.int x2), some (.int x3), x4], [], (zS0, R, I, J)) r := by
  refine zEv_k 1 (f' := (86, [some (.ref 147), some (.int x1), some (.int x2), some (.int x3), x4], [.ref 147], (zS0, R, I, J))) rfl ?_
  refine zEv_gr rfl rfl rfl (by decide) (hR (147) 6 (164) rfl) ?_
  refine zEv_k 1 (f' := (90, [some (.ref 147), some (.int x1), some (.int x2), some (.int x3), x4], [.int 0, .ref 164], (zS0, R, I, J))) rfl ?_
  refine zEv_ial rfl rfl (by decide) (by unfold zin; decide) ?_
  refine zEv_k 1 (f' := (92, [some (.ref 147), some (.int x1), some (.int x2), some (.int x3), x4], [.ref 147, .int (I 164 (0 : Int32).toNatClampNeg)], (zS0, R, I, J))) rfl ?_
  refine zEv_gr rfl rfl rfl (by decide) (hR (147) 6 (164) rfl) ?_
  refine zEv_k 1 (f' := (96, [some (.ref 147), some (.int x1), some (.int x2), some (.int x3), x4], [.int 1, .ref 164, .int (I 164 (0 : Int32).toNatClampNeg)], (zS0, R, I, J))) rfl ?_
  refine zEv_ial rfl rfl (by decide) (by unfold zin; decide) ?_
  refine zEv_k 1 (f' := (if ¬ (I 164 (0 : Int32).toNatClampNeg) = (I 164 (1 : Int32).toNatClampNeg) then 111 else 100, [some (.ref 147), some (.int x1), some (.int x2), some (.int x3), x4], [], (zS0, R, I, J))) rfl ?_
  exact zEv_if k1 k2
theorem b_59_100 {Ls : Nat} {xs : Nat → Int32} {d : Nat} {R : zR} {I : zI} {J : zJ} {r : zA} {x1 : Int32} {x2 : Int32} {x3 : Int32} {x4 : Option Value} {R' : zR} {I' : zI} {J' : zJ} (hR : zRok R) (hc : zEv (zXs Ls xs) d zm_58 (0, [some (.ref 147), some (.int 2), some (.int (I 165 (1 : Int32).toNatClampNeg))], [], (zS0, R, I, J)) (none, (zS0, R', I', J'))) (k1 : zEv (zXs Ls xs) (d + 1) zm_59 (111, [some (.ref 147), some (.int x1), some (.int x2), some (.int x3), x4], [], (zS0, R', I', J')) r) : zEv (zXs Ls xs) (d + 1) zm_59 (100, [some (.ref 147), some (.int x1), some (.int x2), some (.int x3), x4], [], (zS0, R, I, J)) r := by
  refine zEv_k 3 (f' := (103, [some (.ref 147), some (.int x1), some (.int x2), some (.int x3), x4], [.ref 147, .int 2, .ref 147], (zS0, R, I, J))) rfl ?_
  refine zEv_gr rfl rfl rfl (by decide) (hR (147) 7 (165) rfl) ?_
  refine zEv_k 1 (f' := (107, [some (.ref 147), some (.int x1), some (.int x2), some (.int x3), x4], [.int 1, .ref 165, .int 2, .ref 147], (zS0, R, I, J))) rfl ?_
  refine zEv_ial rfl rfl (by decide) (by unfold zin; decide) ?_
  exact zEv_c (fun _ => rfl) rfl hc rfl rfl k1
theorem b_59_111 {Ls : Nat} {xs : Nat → Int32} {d : Nat} {R : zR} {I : zI} {J : zJ} {x1 : Int32} {x2 : Int32} {x3 : Int32} {x4 : Option Value} : zEv (zXs Ls xs) d zm_59 (111, [some (.ref 147), some (.int x1), some (.int x2), some (.int x3), x4], [], (zS0, R, I, J)) (none, (zS0, R, I, J)) := by
  exact zEv_r rfl
theorem b_60_0 {Ls : Nat} {xs : Nat → Int32} {d : Nat} {R : zR} {I : zI} {J : zJ} {r : zA} {x1 : Int32} (k1 : ¬ x1 = 2 → zEv (zXs Ls xs) d zm_60 (13, [some (.ref 147), some (.int x1)], [], (zS0, R, I, J)) r) (k2 : ¬ (¬ x1 = 2) → zEv (zXs Ls xs) d zm_60 (5, [some (.ref 147), some (.int x1)], [], (zS0, R, I, J)) r) : zEv (zXs Ls xs) d zm_60 (0, [some (.ref 147), some (.int x1)], [], (zS0, R, I, J)) r := by
  refine zEv_k 3 (f' := (if ¬ x1 = 2 then 13 else 5, [some (.ref 147), some (.int x1)], [], (zS0, R, I, J))) rfl ?_
  exact zEv_if k1 k2
theorem b_60_5 {Ls : Nat} {xs : Nat → Int32} {d : Nat} {R : zR} {I : zI} {J : zJ} {r : zA} {x1 : Int32} {w : Int32} {R' : zR} {I' : zI} {J' : zJ} (hR : zRok R) (hc : zEv (zXs Ls xs) d zm_3 (0, [some (.ref 148)], [], (zS0, R, I, J)) (some (.int w), (zS0, R', I', J'))) (k1 : zEv (zXs Ls xs) (d + 1) zm_60 (12, [some (.ref 147), some (.int x1)], [.int w], (zS0, R', I', J')) r) : zEv (zXs Ls xs) (d + 1) zm_60 (5, [some (.ref 147), some (.int x1)], [], (zS0, R, I, J)) r := by
  refine zEv_k 1 (f' := (6, [some (.ref 147), some (.int x1)], [.ref 147], (zS0, R, I, J))) rfl ?_
  refine zEv_gr rfl rfl rfl (by decide) (hR (147) 0 (148) rfl) ?_
  exact zEv_c (fun _ => rfl) rfl hc rfl rfl k1
theorem b_60_12 {Ls : Nat} {xs : Nat → Int32} {d : Nat} {R : zR} {I : zI} {J : zJ} {x1 : Int32} {s0 : Int32} (h12 : zbool s0 = true) : zEv (zXs Ls xs) d zm_60 (12, [some (.ref 147), some (.int x1)], [.int s0], (zS0, R, I, J)) (some (.int s0), (zS0, R, I, J)) := by
  exact zEv_rz rfl rfl h12
theorem b_60_13 {Ls : Nat} {xs : Nat → Int32} {d : Nat} {R : zR} {I : zI} {J : zJ} {r : zA} {x1 : Int32} (k1 : ¬ x1 = 9 → zEv (zXs Ls xs) d zm_60 (27, [some (.ref 147), some (.int x1)], [], (zS0, R, I, J)) r) (k2 : ¬ (¬ x1 = 9) → zEv (zXs Ls xs) d zm_60 (19, [some (.ref 147), some (.int x1)], [], (zS0, R, I, J)) r) : zEv (zXs Ls xs) d zm_60 (13, [some (.ref 147), some (.int x1)], [], (zS0, R, I, J)) r := by
  refine zEv_k 3 (f' := (if ¬ x1 = 9 then 27 else 19, [some (.ref 147), some (.int x1)], [], (zS0, R, I, J))) rfl ?_
  exact zEv_if k1 k2
theorem b_60_19 {Ls : Nat} {xs : Nat → Int32} {d : Nat} {R : zR} {I : zI} {J : zJ} {r : zA} {x1 : Int32} {w : Int32} {R' : zR} {I' : zI} {J' : zJ} (hR : zRok R) (hc : zEv (zXs Ls xs) d zm_37 (0, [some (.ref 160)], [], (zS0, R, I, J)) (some (.int w), (zS0, R', I', J'))) (k1 : zEv (zXs Ls xs) (d + 1) zm_60 (26, [some (.ref 147), some (.int x1)], [.int w], (zS0, R', I', J')) r) : zEv (zXs Ls xs) (d + 1) zm_60 (19, [some (.ref 147), some (.int x1)], [], (zS0, R, I, J)) r := by
  refine zEv_k 1 (f' := (20, [some (.ref 147), some (.int x1)], [.ref 147], (zS0, R, I, J))) rfl ?_
  refine zEv_gr rfl rfl rfl (by decide) (hR (147) 2 (160) rfl) ?_
  exact zEv_c (fun _ => rfl) rfl hc rfl rfl k1
theorem b_60_26 {Ls : Nat} {xs : Nat → Int32} {d : Nat} {R : zR} {I : zI} {J : zJ} {x1 : Int32} {s0 : Int32} (h26 : zbool s0 = true) : zEv (zXs Ls xs) d zm_60 (26, [some (.ref 147), some (.int x1)], [.int s0], (zS0, R, I, J)) (some (.int s0), (zS0, R, I, J)) := by
  exact zEv_rz rfl rfl h26
theorem b_60_27 {Ls : Nat} {xs : Nat → Int32} {d : Nat} {R : zR} {I : zI} {J : zJ} {r : zA} {x1 : Int32} (k1 : x1 < 4 → zEv (zXs Ls xs) d zm_60 (46, [some (.ref 147), some (.int x1)], [], (zS0, R, I, J)) r) (k2 : ¬ (x1 < 4) → zEv (zXs Ls xs) d zm_60 (32, [some (.ref 147), some (.int x1)], [], (zS0, R, I, J)) r) : zEv (zXs Ls xs) d zm_60 (27, [some (.ref 147), some (.int x1)], [], (zS0, R, I, J)) r := by
  refine zEv_k 3 (f' := (if x1 < 4 then 46 else 32, [some (.ref 147), some (.int x1)], [], (zS0, R, I, J))) rfl ?_
  exact zEv_if k1 k2
theorem b_60_32 {Ls : Nat} {xs : Nat → Int32} {d : Nat} {R : zR} {I : zI} {J : zJ} {r : zA} {x1 : Int32} {w : Int32} {R' : zR} {I' : zI} {J' : zJ} (hR : zRok R) (hc : zEv (zXs Ls xs) d zm_12 (0, [some (.ref 156)], [], (zS0, R, I, J)) (some (.int w), (zS0, R', I', J'))) (k1 : zEv (zXs Ls xs) (d + 1) zm_60 (39, [some (.ref 147), some (.int x1)], [.int w], (zS0, R', I', J')) r) : zEv (zXs Ls xs) (d + 1) zm_60 (32, [some (.ref 147), some (.int x1)], [], (zS0, R, I, J)) r := by
  refine zEv_k 1 (f' := (33, [some (.ref 147), some (.int x1)], [.ref 147], (zS0, R, I, J))) rfl ?_
  refine zEv_gr rfl rfl rfl (by decide) (hR (147) 1 (156) rfl) ?_
  exact zEv_c (fun _ => rfl) rfl hc rfl rfl k1
theorem b_60_39 {Ls : Nat} {xs : Nat → Int32} {d : Nat} {R : zR} {I : zI} {J : zJ} {r : zA} {x1 : Int32} {s0 : Int32} (k1 : s0 = 0 → zEv (zXs Ls xs) d zm_60 (46, [some (.ref 147), some (.int x1)], [], (zS0, R, I, J)) r) (k2 : ¬ (s0 = 0) → zEv (zXs Ls xs) d zm_60 (42, [some (.ref 147), some (.int x1)], [], (zS0, R, I, J)) r) : zEv (zXs Ls xs) d zm_60 (39, [some (.ref 147), some (.int x1)], [.int s0], (zS0, R, I, J)) r := by
  refine zEv_k 1 (f' := (if s0 = 0 then 46 else 42, [some (.ref 147), some (.int x1)], [], (zS0, R, I, J))) rfl ?_
  exact zEv_if k1 k2
theorem b_60_42 {Ls : Nat} {xs : Nat → Int32} {d : Nat} {R : zR} {I : zI} {J : zJ} {x1 : Int32} : zEv (zXs Ls xs) d zm_60 (42, [some (.ref 147), some (.int x1)], [], (zS0, R, I, J)) (some (.int 1), (zS0, R, I, J)) := by
  refine zEv_k 2 (f' := (47, [some (.ref 147), some (.int x1)], [.int 1], (zS0, R, I, J))) rfl ?_
  exact zEv_r rfl
theorem b_60_46 {Ls : Nat} {xs : Nat → Int32} {d : Nat} {R : zR} {I : zI} {J : zJ} {x1 : Int32} : zEv (zXs Ls xs) d zm_60 (46, [some (.ref 147), some (.int x1)], [], (zS0, R, I, J)) (some (.int 0), (zS0, R, I, J)) := by
  refine zEv_k 1 (f' := (47, [some (.ref 147), some (.int x1)], [.int 0], (zS0, R, I, J))) rfl ?_
  exact zEv_r rfl
theorem b_61_0 {Ls : Nat} {xs : Nat → Int32} {d : Nat} {R : zR} {I : zI} {J : zJ} {r : zA} {x1 : Int32} (k0 : x1 = 0 → zEv (zXs Ls xs) d zm_61 (56, [some (.ref 147), some (.int x1)], [], (zS0, R, I, J)) r) (k1 : x1 = 1 → zEv (zXs Ls xs) d zm_61 (72, [some (.ref 147), some (.int x1)], [], (zS0, R, I, J)) r) (k2 : x1 = 2 → zEv (zXs Ls xs) d zm_61 (88, [some (.ref 147), some (.int x1)], [], (zS0, R, I, J)) r) (k3 : x1 = 3 → zEv (zXs Ls xs) d zm_61 (102, [some (.ref 147), some (.int x1)], [], (zS0, R, I, J)) r) (k4 : x1 = 4 → zEv (zXs Ls xs) d zm_61 (172, [some (.ref 147), some (.int x1)], [], (zS0, R, I, J)) r) (k5 : x1 = 5 → zEv (zXs Ls xs) d zm_61 (172, [some (.ref 147), some (.int x1)], [], (zS0, R, I, J)) r) (k6 : x1 = 6 → zEv (zXs Ls xs) d zm_61 (172, [some (.ref 147), some (.int x1)], [], (zS0, R, I, J)) r) (k7 : x1 = 7 → zEv (zXs Ls xs) d zm_61 (172, [some (.ref 147), some (.int x1)], [], (zS0, R, I, J)) r) (k8 : x1 = 8 → zEv (zXs Ls xs) d zm_61 (172, [some (.ref 147), some (.int x1)], [], (zS0, R, I, J)) r) (k9 : x1 = 9 → zEv (zXs Ls xs) d zm_61 (150, [some (.ref 147), some (.int x1)], [], (zS0, R, I, J)) r) (kd : ¬ (0 ≤ (x1 : Int32).toInt ∧ (x1 : Int32).toInt ≤ 9) → zEv (zXs Ls xs) d zm_61 (172, [some (.ref 147), some (.int x1)], [], (zS0, R, I, J)) r) : zEv (zXs Ls xs) d zm_61 (0, [some (.ref 147), some (.int x1)], [], (zS0, R, I, J)) r := by
  refine zEv_k 1 (f' := (1, [some (.ref 147), some (.int x1)], [.int x1], (zS0, R, I, J))) rfl ?_
  refine zEv_ts rfl (by decide) (by decide) (by decide) (fun hh => ?_) (fun j hj hh => ?_)
  · exact kd (by omega)
  · rcases (by have hj2 : j < 10 := hj; omega : j = 0 ∨ j = 1 ∨ j = 2 ∨ j = 3 ∨ j = 4 ∨ j = 5 ∨ j = 6 ∨ j = 7 ∨ j = 8 ∨ j = 9) with rfl | rfl | rfl | rfl | rfl | rfl | rfl | rfl | rfl | rfl
    · exact k0 (zeqI hh (by decide))
    · exact k1 (zeqI hh (by decide))
    · exact k2 (zeqI hh (by decide))
    · exact k3 (zeqI hh (by decide))
    · exact k4 (zeqI hh (by decide))
    · exact k5 (zeqI hh (by decide))
    · exact k6 (zeqI hh (by decide))
    · exact k7 (zeqI hh (by decide))
    · exact k8 (zeqI hh (by decide))
    · exact k9 (zeqI hh (by decide))
theorem b_61_56 {Ls : Nat} {xs : Nat → Int32} {d : Nat} {R : zR} {I : zI} {J : zJ} {r : zA} {x1 : Int32} (hR : zRok R) (k1 : zEv (zXs Ls xs) d zm_61 (219, [some (.ref 147), some (.int x1)], [], (zS0, R, zu I 148 0 (I 164 (0 : Int32).toNatClampNeg), J)) r) : zEv (zXs Ls xs) d zm_61 (56, [some (.ref 147), some (.int x1)], [], (zS0, R, I, J)) r := by
  refine zEv_k 1 (f' := (57, [some (.ref 147), some (.int x1)], [.ref 147], (zS0, R, I, J))) rfl ?_
  refine zEv_gr rfl rfl rfl (by decide) (hR (147) 0 (148) rfl) ?_
  refine zEv_k 1 (f' := (61, [some (.ref 147), some (.int x1)], [.ref 147, .ref 148], (zS0, R, I, J))) rfl ?_
  refine zEv_gr rfl rfl rfl (by decide) (hR (147) 6 (164) rfl) ?_
  refine zEv_k 1 (f' := (65, [some (.ref 147), some (.int x1)], [.int 0, .ref 164, .ref 148], (zS0, R, I, J))) rfl ?_
  refine zEv_ial rfl rfl (by decide) (by unfold zin; decide) ?_
  refine zEv_k 2 (f' := (219, [some (.ref 147), some (.int x1)], [], (zS0, R, zu I 148 0 (I 164 (0 : Int32).toNatClampNeg), J))) rfl ?_
  exact k1
theorem b_61_72 {Ls : Nat} {xs : Nat → Int32} {d : Nat} {R : zR} {I : zI} {J : zJ} {r : zA} {x1 : Int32} (hR : zRok R) (k1 : zEv (zXs Ls xs) d zm_61 (219, [some (.ref 147), some (.int x1)], [], (zS0, R, zu I 148 1 (I 164 (0 : Int32).toNatClampNeg), J)) r) : zEv (zXs Ls xs) d zm_61 (72, [some (.ref 147), some (.int x1)], [], (zS0, R, I, J)) r := by
  refine zEv_k 1 (f' := (73, [some (.ref 147), some (.int x1)], [.ref 147], (zS0, R, I, J))) rfl ?_
  refine zEv_gr rfl rfl rfl (by decide) (hR (147) 0 (148) rfl) ?_
  refine zEv_k 1 (f' := (77, [some (.ref 147), some (.int x1)], [.ref 147, .ref 148], (zS0, R, I, J))) rfl ?_
  refine zEv_gr rfl rfl rfl (by decide) (hR (147) 6 (164) rfl) ?_
  refine zEv_k 1 (f' := (81, [some (.ref 147), some (.int x1)], [.int 0, .ref 164, .ref 148], (zS0, R, I, J))) rfl ?_
  refine zEv_ial rfl rfl (by decide) (by unfold zin; decide) ?_
  refine zEv_k 2 (f' := (219, [some (.ref 147), some (.int x1)], [], (zS0, R, zu I 148 1 (I 164 (0 : Int32).toNatClampNeg), J))) rfl ?_
  exact k1
theorem b_61_88 {Ls : Nat} {xs : Nat → Int32} {d : Nat} {R : zR} {I : zI} {J : zJ} {r : zA} {x1 : Int32} {R' : zR} {I' : zI} {J' : zJ} (hR : zRok R) (hc : zEv (zXs Ls xs) d zm_4 (0, [some (.ref 148), some (.ref 164)], [], (zS0, R, I, J)) (none, (zS0, R', I', J'))) (k1 : zEv (zXs Ls xs) (d + 1) zm_61 (99, [some (.ref 147), some (.int x1)], [], (zS0, R', I', J')) r) : zEv (zXs Ls xs) (d + 1) zm_61 (88, [some (.ref 147), some (.int x1)], [], (zS0, R, I, J)) r := by
  refine zEv_k 1 (f' := (89, [some (.ref 147), some (.int x1)], [.ref 147], (zS0, R, I, J))) rfl ?_
  refine zEv_gr rfl rfl rfl (by decide) (hR (147) 0 (148) rfl) ?_
  refine zEv_k 1 (f' := (93, [some (.ref 147), some (.int x1)], [.ref 147, .ref 148], (zS0, R, I, J))) rfl ?_
  refine zEv_gr rfl rfl rfl (by decide) (hR (147) 6 (164) rfl) ?_
  exact zEv_c (fun _ => rfl) rfl hc rfl rfl k1
theorem b_61_99 {Ls : Nat} {xs : Nat → Int32} {d : Nat} {R : zR} {I : zI} {J : zJ} {r : zA} {x1 : Int32} (k1 : zEv (zXs Ls xs) d zm_61 (219, [some (.ref 147), some (.int x1)], [], (zS0, R, I, J)) r) : zEv (zXs Ls xs) d zm_61 (99, [some (.ref 147), some (.int x1)], [], (zS0, R, I, J)) r := by
  refine zEv_k 1 (f' := (219, [some (.ref 147), some (.int x1)], [], (zS0, R, I, J))) rfl ?_
  exact k1
theorem b_61_102 {Ls : Nat} {xs : Nat → Int32} {d : Nat} {R : zR} {I : zI} {J : zJ} {r : zA} {x1 : Int32} {R' : zR} {I' : zI} {J' : zJ} (hR : zRok R) (hc : zEv (zXs Ls xs) d zm_5 (0, [some (.ref 148), some (.int (I 164 (0 : Int32).toNatClampNeg)), some (.int (I 164 (1 : Int32).toNatClampNeg))], [], (zS0, R, I, J)) (none, (zS0, R', I', J'))) (k1 : zEv (zXs Ls xs) (d + 1) zm_61 (121, [some (.ref 147), some (.int x1)], [], (zS0, R', I', J')) r) : zEv (zXs Ls xs) (d + 1) zm_61 (102, [some (.ref 147), some (.int x1)], [], (zS0, R, I, J)) r := by
  refine zEv_k 1 (f' := (103, [some (.ref 147), some (.int x1)], [.ref 147], (zS0, R, I, J))) rfl ?_
  refine zEv_gr rfl rfl rfl (by decide) (hR (147) 0 (148) rfl) ?_
  refine zEv_k 1 (f' := (107, [some (.ref 147), some (.int x1)], [.ref 147, .ref 148], (zS0, R, I, J))) rfl ?_
  refine zEv_gr rfl rfl rfl (by decide) (hR (147) 6 (164) rfl) ?_
  refine zEv_k 1 (f' := (111, [some (.ref 147), some (.int x1)], [.int 0, .ref 164, .ref 148], (zS0, R, I, J))) rfl ?_
  refine zEv_ial rfl rfl (by decide) (by unfold zin; decide) ?_
  refine zEv_k 1 (f' := (113, [some (.ref 147), some (.int x1)], [.ref 147, .int (I 164 (0 : Int32).toNatClampNeg), .ref 148], (zS0, R, I, J))) rfl ?_
  refine zEv_gr rfl rfl rfl (by decide) (hR (147) 6 (164) rfl) ?_
  refine zEv_k 1 (f' := (117, [some (.ref 147), some (.int x1)], [.int 1, .ref 164, .int (I 164 (0 : Int32).toNatClampNeg), .ref 148], (zS0, R, I, J))) rfl ?_
  refine zEv_ial rfl rfl (by decide) (by unfold zin; decide) ?_
  exact zEv_c (fun _ => rfl) rfl hc rfl rfl k1
theorem b_61_121 {Ls : Nat} {xs : Nat → Int32} {d : Nat} {R : zR} {I : zI} {J : zJ} {r : zA} {x1 : Int32} (hR : zRok R) (k1 : zEv (zXs Ls xs) d zm_61 (219, [some (.ref 147), some (.int x1)], [], (zS0, R, zu I 147 13 ((I 147 13) ||| (((1 : Int32) <<< ((I 164 (0 : Int32).toNatClampNeg) &&& 31)) ||| ((1 : Int32) <<< ((I 164 (1 : Int32).toNatClampNeg) &&& 31)))), J)) r) : zEv (zXs Ls xs) d zm_61 (121, [some (.ref 147), some (.int x1)], [], (zS0, R, I, J)) r := by
  refine zEv_k 5 (f' := (128, [some (.ref 147), some (.int x1)], [.ref 147, .int 1, .int (I 147 13), .ref 147], (zS0, R, I, J))) rfl ?_
  refine zEv_gr rfl rfl rfl (by decide) (hR (147) 6 (164) rfl) ?_
  refine zEv_k 1 (f' := (132, [some (.ref 147), some (.int x1)], [.int 0, .ref 164, .int 1, .int (I 147 13), .ref 147], (zS0, R, I, J))) rfl ?_
  refine zEv_ial rfl rfl (by decide) (by unfold zin; decide) ?_
  refine zEv_k 3 (f' := (136, [some (.ref 147), some (.int x1)], [.ref 147, .int 1, .int ((1 : Int32) <<< ((I 164 (0 : Int32).toNatClampNeg) &&& 31)), .int (I 147 13), .ref 147], (zS0, R, I, J))) rfl ?_
  refine zEv_gr rfl rfl rfl (by decide) (hR (147) 6 (164) rfl) ?_
  refine zEv_k 1 (f' := (140, [some (.ref 147), some (.int x1)], [.int 1, .ref 164, .int 1, .int ((1 : Int32) <<< ((I 164 (0 : Int32).toNatClampNeg) &&& 31)), .int (I 147 13), .ref 147], (zS0, R, I, J))) rfl ?_
  refine zEv_ial rfl rfl (by decide) (by unfold zin; decide) ?_
  refine zEv_k 5 (f' := (219, [some (.ref 147), some (.int x1)], [], (zS0, R, zu I 147 13 ((I 147 13) ||| (((1 : Int32) <<< ((I 164 (0 : Int32).toNatClampNeg) &&& 31)) ||| ((1 : Int32) <<< ((I 164 (1 : Int32).toNatClampNeg) &&& 31)))), J))) rfl ?_
  exact k1
theorem b_61_150 {Ls : Nat} {xs : Nat → Int32} {d : Nat} {R : zR} {I : zI} {J : zJ} {r : zA} {x1 : Int32} {R' : zR} {I' : zI} {J' : zJ} (hR : zRok R) (hc : zEv (zXs Ls xs) d zm_38 (0, [some (.ref 160), some (.int (I 164 (0 : Int32).toNatClampNeg)), some (.int (I 164 (1 : Int32).toNatClampNeg))], [], (zS0, R, I, J)) (none, (zS0, R', I', J'))) (k1 : zEv (zXs Ls xs) (d + 1) zm_61 (169, [some (.ref 147), some (.int x1)], [], (zS0, R', I', J')) r) : zEv (zXs Ls xs) (d + 1) zm_61 (150, [some (.ref 147), some (.int x1)], [], (zS0, R, I, J)) r := by
  refine zEv_k 1 (f' := (151, [some (.ref 147), some (.int x1)], [.ref 147], (zS0, R, I, J))) rfl ?_
  refine zEv_gr rfl rfl rfl (by decide) (hR (147) 2 (160) rfl) ?_
  refine zEv_k 1 (f' := (155, [some (.ref 147), some (.int x1)], [.ref 147, .ref 160], (zS0, R, I, J))) rfl ?_
  refine zEv_gr rfl rfl rfl (by decide) (hR (147) 6 (164) rfl) ?_
  refine zEv_k 1 (f' := (159, [some (.ref 147), some (.int x1)], [.int 0, .ref 164, .ref 160], (zS0, R, I, J))) rfl ?_
  refine zEv_ial rfl rfl (by decide) (by unfold zin; decide) ?_
  refine zEv_k 1 (f' := (161, [some (.ref 147), some (.int x1)], [.ref 147, .int (I 164 (0 : Int32).toNatClampNeg), .ref 160], (zS0, R, I, J))) rfl ?_
  refine zEv_gr rfl rfl rfl (by decide) (hR (147) 6 (164) rfl) ?_
  refine zEv_k 1 (f' := (165, [some (.ref 147), some (.int x1)], [.int 1, .ref 164, .int (I 164 (0 : Int32).toNatClampNeg), .ref 160], (zS0, R, I, J))) rfl ?_
  refine zEv_ial rfl rfl (by decide) (by unfold zin; decide) ?_
  exact zEv_c (fun _ => rfl) rfl hc rfl rfl k1
theorem b_61_169 {Ls : Nat} {xs : Nat → Int32} {d : Nat} {R : zR} {I : zI} {J : zJ} {r : zA} {x1 : Int32} (k1 : zEv (zXs Ls xs) d zm_61 (219, [some (.ref 147), some (.int x1)], [], (zS0, R, I, J)) r) : zEv (zXs Ls xs) d zm_61 (169, [some (.ref 147), some (.int x1)], [], (zS0, R, I, J)) r := by
  refine zEv_k 1 (f' := (219, [some (.ref 147), some (.int x1)], [], (zS0, R, I, J))) rfl ?_
  exact k1
theorem b_61_172 {Ls : Nat} {xs : Nat → Int32} {d : Nat} {R : zR} {I : zI} {J : zJ} {r : zA} {x1 : Int32} (hR : zRok R) (h183 : zin x1 10) (k1 : (List.getD zA_NUMBERS (x1).toNatClampNeg 0) ≤ 0 → zEv (zXs Ls xs) d zm_61 (196, [some (.ref 147), some (.int x1)], [.int (x1 - 4), .ref 156], (zS0, R, I, J)) r) (k2 : ¬ ((List.getD zA_NUMBERS (x1).toNatClampNeg 0) ≤ 0) → zEv (zXs Ls xs) d zm_61 (187, [some (.ref 147), some (.int x1)], [.int (x1 - 4), .ref 156], (zS0, R, I, J)) r) : zEv (zXs Ls xs) d zm_61 (172, [some (.ref 147), some (.int x1)], [], (zS0, R, I, J)) r := by
  refine zEv_k 1 (f' := (173, [some (.ref 147), some (.int x1)], [.ref 147], (zS0, R, I, J))) rfl ?_
  refine zEv_gr rfl rfl rfl (by decide) (hR (147) 1 (156) rfl) ?_
  refine zEv_k 5 (f' := (183, [some (.ref 147), some (.int x1)], [.int x1, .ref (zro + 2), .int (x1 - 4), .ref 156], (zS0, R, I, J))) rfl ?_
  refine zEv_iax rfl rfl h183 ?_
  refine zEv_k 1 (f' := (if (List.getD zA_NUMBERS (x1).toNatClampNeg 0) ≤ 0 then 196 else 187, [some (.ref 147), some (.int x1)], [.int (x1 - 4), .ref 156], (zS0, R, I, J))) rfl ?_
  exact zEv_if k1 k2
theorem b_61_187 {Ls : Nat} {xs : Nat → Int32} {d : Nat} {R : zR} {I : zI} {J : zJ} {r : zA} {x1 : Int32} {s1 : Int32} (hR : zRok R) (k1 : zEv (zXs Ls xs) d zm_61 (197, [some (.ref 147), some (.int x1)], [.int (I 164 (0 : Int32).toNatClampNeg), .int s1, .ref 156], (zS0, R, I, J)) r) : zEv (zXs Ls xs) d zm_61 (187, [some (.ref 147), some (.int x1)], [.int s1, .ref 156], (zS0, R, I, J)) r := by
  refine zEv_k 1 (f' := (188, [some (.ref 147), some (.int x1)], [.ref 147, .int s1, .ref 156], (zS0, R, I, J))) rfl ?_
  refine zEv_gr rfl rfl rfl (by decide) (hR (147) 6 (164) rfl) ?_
  refine zEv_k 1 (f' := (192, [some (.ref 147), some (.int x1)], [.int 0, .ref 164, .int s1, .ref 156], (zS0, R, I, J))) rfl ?_
  refine zEv_ial rfl rfl (by decide) (by unfold zin; decide) ?_
  refine zEv_k 1 (f' := (197, [some (.ref 147), some (.int x1)], [.int (I 164 (0 : Int32).toNatClampNeg), .int s1, .ref 156], (zS0, R, I, J))) rfl ?_
  exact k1
theorem b_61_196 {Ls : Nat} {xs : Nat → Int32} {d : Nat} {R : zR} {I : zI} {J : zJ} {r : zA} {x1 : Int32} {s1 : Int32} (k1 : zEv (zXs Ls xs) d zm_61 (197, [some (.ref 147), some (.int x1)], [.int (-1), .int s1, .ref 156], (zS0, R, I, J)) r) : zEv (zXs Ls xs) d zm_61 (196, [some (.ref 147), some (.int x1)], [.int s1, .ref 156], (zS0, R, I, J)) r := by
  refine zEv_k 1 (f' := (197, [some (.ref 147), some (.int x1)], [.int (-1), .int s1, .ref 156], (zS0, R, I, J))) rfl ?_
  exact k1
theorem b_61_197 {Ls : Nat} {xs : Nat → Int32} {d : Nat} {R : zR} {I : zI} {J : zJ} {r : zA} {x1 : Int32} {s1 : Int32} {s2 : Int32} (h201 : zin x1 10) (k1 : (List.getD zA_NUMBERS (x1).toNatClampNeg 0) ≤ 1 → zEv (zXs Ls xs) d zm_61 (215, [some (.ref 147), some (.int x1)], [.int s2, .int s1, .ref 156], (zS0, R, I, J)) r) (k2 : ¬ ((List.getD zA_NUMBERS (x1).toNatClampNeg 0) ≤ 1) → zEv (zXs Ls xs) d zm_61 (206, [some (.ref 147), some (.int x1)], [.int s2, .int s1, .ref 156], (zS0, R, I, J)) r) : zEv (zXs Ls xs) d zm_61 (197, [some (.ref 147), some (.int x1)], [.int s2, .int s1, .ref 156], (zS0, R, I, J)) r := by
  refine zEv_k 2 (f' := (201, [some (.ref 147), some (.int x1)], [.int x1, .ref (zro + 2), .int s2, .int s1, .ref 156], (zS0, R, I, J))) rfl ?_
  refine zEv_iax rfl rfl h201 ?_
  refine zEv_k 2 (f' := (if (List.getD zA_NUMBERS (x1).toNatClampNeg 0) ≤ 1 then 215 else 206, [some (.ref 147), some (.int x1)], [.int s2, .int s1, .ref 156], (zS0, R, I, J))) rfl ?_
  exact zEv_if k1 k2
theorem b_61_206 {Ls : Nat} {xs : Nat → Int32} {d : Nat} {R : zR} {I : zI} {J : zJ} {r : zA} {x1 : Int32} {s1 : Int32} {s2 : Int32} (hR : zRok R) (k1 : zEv (zXs Ls xs) d zm_61 (216, [some (.ref 147), some (.int x1)], [.int (I 164 (1 : Int32).toNatClampNeg), .int s2, .int s1, .ref 156], (zS0, R, I, J)) r) : zEv (zXs Ls xs) d zm_61 (206, [some (.ref 147), some (.int x1)], [.int s2, .int s1, .ref 156], (zS0, R, I, J)) r := by
  refine zEv_k 1 (f' := (207, [some (.ref 147), some (.int x1)], [.ref 147, .int s2, .int s1, .ref 156], (zS0, R, I, J))) rfl ?_
  refine zEv_gr rfl rfl rfl (by decide) (hR (147) 6 (164) rfl) ?_
  refine zEv_k 1 (f' := (211, [some (.ref 147), some (.int x1)], [.int 1, .ref 164, .int s2, .int s1, .ref 156], (zS0, R, I, J))) rfl ?_
  refine zEv_ial rfl rfl (by decide) (by unfold zin; decide) ?_
  refine zEv_k 1 (f' := (216, [some (.ref 147), some (.int x1)], [.int (I 164 (1 : Int32).toNatClampNeg), .int s2, .int s1, .ref 156], (zS0, R, I, J))) rfl ?_
  exact k1
theorem b_61_215 {Ls : Nat} {xs : Nat → Int32} {d : Nat} {R : zR} {I : zI} {J : zJ} {r : zA} {x1 : Int32} {s1 : Int32} {s2 : Int32} (k1 : zEv (zXs Ls xs) d zm_61 (216, [some (.ref 147), some (.int x1)], [.int (-1), .int s2, .int s1, .ref 156], (zS0, R, I, J)) r) : zEv (zXs Ls xs) d zm_61 (215, [some (.ref 147), some (.int x1)], [.int s2, .int s1, .ref 156], (zS0, R, I, J)) r := by
  refine zEv_k 1 (f' := (216, [some (.ref 147), some (.int x1)], [.int (-1), .int s2, .int s1, .ref 156], (zS0, R, I, J))) rfl ?_
  exact k1
theorem b_61_216 {Ls : Nat} {xs : Nat → Int32} {d : Nat} {R : zR} {I : zI} {J : zJ} {r : zA} {x1 : Int32} {s1 : Int32} {s2 : Int32} {s3 : Int32} {R' : zR} {I' : zI} {J' : zJ} (hc : zEv (zXs Ls xs) d zm_13 (0, [some (.ref 156), some (.int s1), some (.int s2), some (.int s3)], [], (zS0, R, I, J)) (none, (zS0, R', I', J'))) (k1 : zEv (zXs Ls xs) (d + 1) zm_61 (219, [some (.ref 147), some (.int x1)], [], (zS0, R', I', J')) r) : zEv (zXs Ls xs) (d + 1) zm_61 (216, [some (.ref 147), some (.int x1)], [.int s3, .int s2, .int s1, .ref 156], (zS0, R, I, J)) r := by
  exact zEv_c (fun _ => rfl) rfl hc rfl rfl k1
theorem b_61_219 {Ls : Nat} {xs : Nat → Int32} {d : Nat} {R : zR} {I : zI} {J : zJ} {x1 : Int32} : zEv (zXs Ls xs) d zm_61 (219, [some (.ref 147), some (.int x1)], [], (zS0, R, I, J)) (none, (zS0, R, I, J)) := by
  exact zEv_r rfl
theorem b_62_0 {Ls : Nat} {xs : Nat → Int32} {d : Nat} {R : zR} {I : zI} {J : zJ} {r : zA} (k1 : (I 147 8) ≤ (I 147 9) → zEv (zXs Ls xs) d zm_62 (52, [some (.ref 147)], [], (zS0, R, I, J)) r) (k2 : ¬ ((I 147 8) ≤ (I 147 9)) → zEv (zXs Ls xs) d zm_62 (11, [some (.ref 147)], [], (zS0, R, I, J)) r) : zEv (zXs Ls xs) d zm_62 (0, [some (.ref 147)], [], (zS0, R, I, J)) r := by
  refine zEv_k 5 (f' := (if (I 147 8) ≤ (I 147 9) then 52 else 11, [some (.ref 147)], [], (zS0, R, I, J))) rfl ?_
  exact zEv_if k1 k2
theorem b_62_11 {Ls : Nat} {xs : Nat → Int32} {d : Nat} {R : zR} {I : zI} {J : zJ} {r : zA} (hR : zRok R) (h19 : zin (I 147 9) 600) (k1 : (I 163 (I 147 9).toNatClampNeg) = 32 → zEv (zXs Ls xs) d zm_62 (39, [some (.ref 147)], [], (zS0, R, I, J)) r) (k2 : ¬ ((I 163 (I 147 9).toNatClampNeg) = 32) → zEv (zXs Ls xs) d zm_62 (25, [some (.ref 147)], [], (zS0, R, I, J)) r) : zEv (zXs Ls xs) d zm_62 (11, [some (.ref 147)], [], (zS0, R, I, J)) r := by
  refine zEv_k 1 (f' := (12, [some (.ref 147)], [.ref 147], (zS0, R, I, J))) rfl ?_
  refine zEv_gr rfl rfl rfl (by decide) (hR (147) 5 (163) rfl) ?_
  refine zEv_k 2 (f' := (19, [some (.ref 147)], [.int (I 147 9), .ref 163], (zS0, R, I, J))) rfl ?_
  refine zEv_bal rfl rfl (by decide) h19 ?_
  refine zEv_k 2 (f' := (if (I 163 (I 147 9).toNatClampNeg) = 32 then 39 else 25, [some (.ref 147)], [], (zS0, R, I, J))) rfl ?_
  exact zEv_if k1 k2
theorem b_62_25 {Ls : Nat} {xs : Nat → Int32} {d : Nat} {R : zR} {I : zI} {J : zJ} {r : zA} (hR : zRok R) (h33 : zin (I 147 9) 600) (k1 : ¬ (I 163 (I 147 9).toNatClampNeg) = 10 → zEv (zXs Ls xs) d zm_62 (52, [some (.ref 147)], [], (zS0, R, I, J)) r) (k2 : ¬ (¬ (I 163 (I 147 9).toNatClampNeg) = 10) → zEv (zXs Ls xs) d zm_62 (39, [some (.ref 147)], [], (zS0, R, I, J)) r) : zEv (zXs Ls xs) d zm_62 (25, [some (.ref 147)], [], (zS0, R, I, J)) r := by
  refine zEv_k 1 (f' := (26, [some (.ref 147)], [.ref 147], (zS0, R, I, J))) rfl ?_
  refine zEv_gr rfl rfl rfl (by decide) (hR (147) 5 (163) rfl) ?_
  refine zEv_k 2 (f' := (33, [some (.ref 147)], [.int (I 147 9), .ref 163], (zS0, R, I, J))) rfl ?_
  refine zEv_bal rfl rfl (by decide) h33 ?_
  refine zEv_k 2 (f' := (if ¬ (I 163 (I 147 9).toNatClampNeg) = 10 then 52 else 39, [some (.ref 147)], [], (zS0, R, I, J))) rfl ?_
  exact zEv_if k1 k2
theorem b_62_39 {Ls : Nat} {xs : Nat → Int32} {d : Nat} {R : zR} {I : zI} {J : zJ} {r : zA} (k1 : zEv (zXs Ls xs) d zm_62 (0, [some (.ref 147)], [], (zS0, R, zu I 147 9 ((I 147 9) + 1), J)) r) : zEv (zXs Ls xs) d zm_62 (39, [some (.ref 147)], [], (zS0, R, I, J)) r := by
  refine zEv_k 7 (f' := (0, [some (.ref 147)], [], (zS0, R, zu I 147 9 ((I 147 9) + 1), J))) rfl ?_
  exact k1
theorem b_62_52 {Ls : Nat} {xs : Nat → Int32} {d : Nat} {R : zR} {I : zI} {J : zJ} {r : zA} (k1 : ((zu I 147 11 (I 147 9)) 147 9) < ((zu I 147 11 (I 147 9)) 147 8) → zEv (zXs Ls xs) d zm_62 (79, [some (.ref 147)], [], (zS0, R, zu I 147 11 (I 147 9), J)) r) (k2 : ¬ (((zu I 147 11 (I 147 9)) 147 9) < ((zu I 147 11 (I 147 9)) 147 8)) → zEv (zXs Ls xs) d zm_62 (71, [some (.ref 147)], [], (zS0, R, zu I 147 11 (I 147 9), J)) r) : zEv (zXs Ls xs) d zm_62 (52, [some (.ref 147)], [], (zS0, R, I, J)) r := by
  refine zEv_k 9 (f' := (if ((zu I 147 11 (I 147 9)) 147 9) < ((zu I 147 11 (I 147 9)) 147 8) then 79 else 71, [some (.ref 147)], [], (zS0, R, zu I 147 11 (I 147 9), J))) rfl ?_
  exact zEv_if k1 k2
theorem b_62_71 {Ls : Nat} {xs : Nat → Int32} {d : Nat} {R : zR} {I : zI} {J : zJ} {r : zA} (k1 : zEv (zXs Ls xs) d zm_62 (193, [some (.ref 147)], [], (zS0, R, zu I 147 10 0, J)) r) : zEv (zXs Ls xs) d zm_62 (71, [some (.ref 147)], [], (zS0, R, I, J)) r := by
  refine zEv_k 4 (f' := (193, [some (.ref 147)], [], (zS0, R, zu I 147 10 0, J))) rfl ?_
  exact k1
theorem b_62_79 {Ls : Nat} {xs : Nat → Int32} {d : Nat} {R : zR} {I : zI} {J : zJ} {r : zA} {w : Int32} {R' : zR} {I' : zI} {J' : zJ} (hR : zRok R) (h87 : zin (I 147 9) 600) (hc : zEv (zXs Ls xs) d zm_64 (0, [some (.int (I 163 (I 147 9).toNatClampNeg))], [], (zS0, R, I, J)) (some (.int w), (zS0, R', I', J'))) (k1 : zEv (zXs Ls xs) (d + 1) zm_62 (91, [some (.ref 147)], [.int w], (zS0, R', I', J')) r) : zEv (zXs Ls xs) (d + 1) zm_62 (79, [some (.ref 147)], [], (zS0, R, I, J)) r := by
  refine zEv_k 1 (f' := (80, [some (.ref 147)], [.ref 147], (zS0, R, I, J))) rfl ?_
  refine zEv_gr rfl rfl rfl (by decide) (hR (147) 5 (163) rfl) ?_
  refine zEv_k 2 (f' := (87, [some (.ref 147)], [.int (I 147 9), .ref 163], (zS0, R, I, J))) rfl ?_
  refine zEv_bal rfl rfl (by decide) h87 ?_
  exact zEv_c (fun _ => rfl) rfl hc rfl rfl k1
theorem b_62_91 {Ls : Nat} {xs : Nat → Int32} {d : Nat} {R : zR} {I : zI} {J : zJ} {r : zA} {s0 : Int32} (k1 : s0 = 0 → zEv (zXs Ls xs) d zm_62 (138, [some (.ref 147)], [], (zS0, R, I, J)) r) (k2 : ¬ (s0 = 0) → zEv (zXs Ls xs) d zm_62 (94, [some (.ref 147)], [], (zS0, R, I, J)) r) : zEv (zXs Ls xs) d zm_62 (91, [some (.ref 147)], [.int s0], (zS0, R, I, J)) r := by
  refine zEv_k 1 (f' := (if s0 = 0 then 138 else 94, [some (.ref 147)], [], (zS0, R, I, J))) rfl ?_
  exact zEv_if k1 k2
theorem b_62_94 {Ls : Nat} {xs : Nat → Int32} {d : Nat} {R : zR} {I : zI} {J : zJ} {r : zA} (k1 : zEv (zXs Ls xs) d zm_62 (99, [some (.ref 147)], [], (zS0, R, zu I 147 10 1, J)) r) : zEv (zXs Ls xs) d zm_62 (94, [some (.ref 147)], [], (zS0, R, I, J)) r := by
  refine zEv_k 3 (f' := (99, [some (.ref 147)], [], (zS0, R, zu I 147 10 1, J))) rfl ?_
  exact k1
theorem b_62_99 {Ls : Nat} {xs : Nat → Int32} {d : Nat} {R : zR} {I : zI} {J : zJ} {r : zA} (k1 : (I 147 8) ≤ (I 147 9) → zEv (zXs Ls xs) d zm_62 (193, [some (.ref 147)], [], (zS0, R, I, J)) r) (k2 : ¬ ((I 147 8) ≤ (I 147 9)) → zEv (zXs Ls xs) d zm_62 (110, [some (.ref 147)], [], (zS0, R, I, J)) r) : zEv (zXs Ls xs) d zm_62 (99, [some (.ref 147)], [], (zS0, R, I, J)) r := by
  refine zEv_k 5 (f' := (if (I 147 8) ≤ (I 147 9) then 193 else 110, [some (.ref 147)], [], (zS0, R, I, J))) rfl ?_
  exact zEv_if k1 k2
theorem b_62_110 {Ls : Nat} {xs : Nat → Int32} {d : Nat} {R : zR} {I : zI} {J : zJ} {r : zA} {w : Int32} {R' : zR} {I' : zI} {J' : zJ} (hR : zRok R) (h118 : zin (I 147 9) 600) (hc : zEv (zXs Ls xs) d zm_64 (0, [some (.int (I 163 (I 147 9).toNatClampNeg))], [], (zS0, R, I, J)) (some (.int w), (zS0, R', I', J'))) (k1 : zEv (zXs Ls xs) (d + 1) zm_62 (122, [some (.ref 147)], [.int w], (zS0, R', I', J')) r) : zEv (zXs Ls xs) (d + 1) zm_62 (110, [some (.ref 147)], [], (zS0, R, I, J)) r := by
  refine zEv_k 1 (f' := (111, [some (.ref 147)], [.ref 147], (zS0, R, I, J))) rfl ?_
  refine zEv_gr rfl rfl rfl (by decide) (hR (147) 5 (163) rfl) ?_
  refine zEv_k 2 (f' := (118, [some (.ref 147)], [.int (I 147 9), .ref 163], (zS0, R, I, J))) rfl ?_
  refine zEv_bal rfl rfl (by decide) h118 ?_
  exact zEv_c (fun _ => rfl) rfl hc rfl rfl k1
theorem b_62_122 {Ls : Nat} {xs : Nat → Int32} {d : Nat} {R : zR} {I : zI} {J : zJ} {r : zA} {s0 : Int32} (k1 : s0 = 0 → zEv (zXs Ls xs) d zm_62 (193, [some (.ref 147)], [], (zS0, R, I, J)) r) (k2 : ¬ (s0 = 0) → zEv (zXs Ls xs) d zm_62 (125, [some (.ref 147)], [], (zS0, R, I, J)) r) : zEv (zXs Ls xs) d zm_62 (122, [some (.ref 147)], [.int s0], (zS0, R, I, J)) r := by
  refine zEv_k 1 (f' := (if s0 = 0 then 193 else 125, [some (.ref 147)], [], (zS0, R, I, J))) rfl ?_
  exact zEv_if k1 k2
theorem b_62_125 {Ls : Nat} {xs : Nat → Int32} {d : Nat} {R : zR} {I : zI} {J : zJ} {r : zA} (k1 : zEv (zXs Ls xs) d zm_62 (99, [some (.ref 147)], [], (zS0, R, zu I 147 9 ((I 147 9) + 1), J)) r) : zEv (zXs Ls xs) d zm_62 (125, [some (.ref 147)], [], (zS0, R, I, J)) r := by
  refine zEv_k 7 (f' := (99, [some (.ref 147)], [], (zS0, R, zu I 147 9 ((I 147 9) + 1), J))) rfl ?_
  exact k1
theorem b_62_138 {Ls : Nat} {xs : Nat → Int32} {d : Nat} {R : zR} {I : zI} {J : zJ} {r : zA} {w : Int32} {R' : zR} {I' : zI} {J' : zJ} (hR : zRok R) (h146 : zin (I 147 9) 600) (hc : zEv (zXs Ls xs) d zm_65 (0, [some (.int (I 163 (I 147 9).toNatClampNeg))], [], (zS0, R, I, J)) (some (.int w), (zS0, R', I', J'))) (k1 : zEv (zXs Ls xs) (d + 1) zm_62 (150, [some (.ref 147)], [.int w], (zS0, R', I', J')) r) : zEv (zXs Ls xs) (d + 1) zm_62 (138, [some (.ref 147)], [], (zS0, R, I, J)) r := by
  refine zEv_k 1 (f' := (139, [some (.ref 147)], [.ref 147], (zS0, R, I, J))) rfl ?_
  refine zEv_gr rfl rfl rfl (by decide) (hR (147) 5 (163) rfl) ?_
  refine zEv_k 2 (f' := (146, [some (.ref 147)], [.int (I 147 9), .ref 163], (zS0, R, I, J))) rfl ?_
  refine zEv_bal rfl rfl (by decide) h146 ?_
  exact zEv_c (fun _ => rfl) rfl hc rfl rfl k1
theorem b_62_150 {Ls : Nat} {xs : Nat → Int32} {d : Nat} {R : zR} {I : zI} {J : zJ} {r : zA} {s0 : Int32} (k1 : s0 = 0 → zEv (zXs Ls xs) d zm_62 (160, [some (.ref 147)], [], (zS0, R, I, J)) r) (k2 : ¬ (s0 = 0) → zEv (zXs Ls xs) d zm_62 (153, [some (.ref 147)], [], (zS0, R, I, J)) r) : zEv (zXs Ls xs) d zm_62 (150, [some (.ref 147)], [.int s0], (zS0, R, I, J)) r := by
  refine zEv_k 1 (f' := (if s0 = 0 then 160 else 153, [some (.ref 147)], [], (zS0, R, I, J))) rfl ?_
  exact zEv_if k1 k2
theorem b_62_153 {Ls : Nat} {xs : Nat → Int32} {d : Nat} {R : zR} {I : zI} {J : zJ} {r : zA} {R' : zR} {I' : zI} {J' : zJ} (hc : zEv (zXs Ls xs) d zm_63 (0, [some (.ref 147)], [], (zS0, R, I, J)) (none, (zS0, R', I', J'))) (k1 : zEv (zXs Ls xs) (d + 1) zm_62 (157, [some (.ref 147)], [], (zS0, R', I', J')) r) : zEv (zXs Ls xs) (d + 1) zm_62 (153, [some (.ref 147)], [], (zS0, R, I, J)) r := by
  refine zEv_k 1 (f' := (154, [some (.ref 147)], [.ref 147], (zS0, R, I, J))) rfl ?_
  exact zEv_c (fun _ => rfl) rfl hc rfl rfl k1
theorem b_62_157 {Ls : Nat} {xs : Nat → Int32} {d : Nat} {R : zR} {I : zI} {J : zJ} {r : zA} (k1 : zEv (zXs Ls xs) d zm_62 (193, [some (.ref 147)], [], (zS0, R, I, J)) r) : zEv (zXs Ls xs) d zm_62 (157, [some (.ref 147)], [], (zS0, R, I, J)) r := by
  refine zEv_k 1 (f' := (193, [some (.ref 147)], [], (zS0, R, I, J))) rfl ?_
  exact k1
theorem b_62_160 {Ls : Nat} {xs : Nat → Int32} {d : Nat} {R : zR} {I : zI} {J : zJ} {r : zA} (hR : zRok R) (h169 : zin (I 147 9) 600) (k1 : ¬ (I 163 (I 147 9).toNatClampNeg) = 59 → zEv (zXs Ls xs) d zm_62 (179, [some (.ref 147)], [.ref 147], (zS0, R, I, J)) r) (k2 : ¬ (¬ (I 163 (I 147 9).toNatClampNeg) = 59) → zEv (zXs Ls xs) d zm_62 (175, [some (.ref 147)], [.ref 147], (zS0, R, I, J)) r) : zEv (zXs Ls xs) d zm_62 (160, [some (.ref 147)], [], (zS0, R, I, J)) r := by
  refine zEv_k 2 (f' := (162, [some (.ref 147)], [.ref 147, .ref 147], (zS0, R, I, J))) rfl ?_
  refine zEv_gr rfl rfl rfl (by decide) (hR (147) 5 (163) rfl) ?_
  refine zEv_k 2 (f' := (169, [some (.ref 147)], [.int (I 147 9), .ref 163, .ref 147], (zS0, R, I, J))) rfl ?_
  refine zEv_bal rfl rfl (by decide) h169 ?_
  refine zEv_k 2 (f' := (if ¬ (I 163 (I 147 9).toNatClampNeg) = 59 then 179 else 175, [some (.ref 147)], [.ref 147], (zS0, R, I, J))) rfl ?_
  exact zEv_if k1 k2
theorem b_62_175 {Ls : Nat} {xs : Nat → Int32} {d : Nat} {R : zR} {I : zI} {J : zJ} {r : zA} (k1 : zEv (zXs Ls xs) d zm_62 (180, [some (.ref 147)], [.int 3, .ref 147], (zS0, R, I, J)) r) : zEv (zXs Ls xs) d zm_62 (175, [some (.ref 147)], [.ref 147], (zS0, R, I, J)) r := by
  refine zEv_k 2 (f' := (180, [some (.ref 147)], [.int 3, .ref 147], (zS0, R, I, J))) rfl ?_
  exact k1
theorem b_62_179 {Ls : Nat} {xs : Nat → Int32} {d : Nat} {R : zR} {I : zI} {J : zJ} {r : zA} (k1 : zEv (zXs Ls xs) d zm_62 (180, [some (.ref 147)], [.int 4, .ref 147], (zS0, R, I, J)) r) : zEv (zXs Ls xs) d zm_62 (179, [some (.ref 147)], [.ref 147], (zS0, R, I, J)) r := by
  refine zEv_k 1 (f' := (180, [some (.ref 147)], [.int 4, .ref 147], (zS0, R, I, J))) rfl ?_
  exact k1
theorem b_62_180 {Ls : Nat} {xs : Nat → Int32} {d : Nat} {R : zR} {I : zI} {J : zJ} {r : zA} {s1 : Int32} (k1 : zEv (zXs Ls xs) d zm_62 (193, [some (.ref 147)], [], (zS0, R, zu (zu I 147 10 s1) 147 9 (((zu I 147 10 s1) 147 9) + 1), J)) r) : zEv (zXs Ls xs) d zm_62 (180, [some (.ref 147)], [.int s1, .ref 147], (zS0, R, I, J)) r := by
  refine zEv_k 7 (f' := (193, [some (.ref 147)], [], (zS0, R, zu (zu I 147 10 s1) 147 9 (((zu I 147 10 s1) 147 9) + 1), J))) rfl ?_
  exact k1
theorem b_62_193 {Ls : Nat} {xs : Nat → Int32} {d : Nat} {R : zR} {I : zI} {J : zJ}  : zEv (zXs Ls xs) d zm_62 (193, [some (.ref 147)], [], (zS0, R, I, J)) (none, (zS0, R, I, J)) := by
  exact zEv_r rfl
theorem b_63_0 {Ls : Nat} {xs : Nat → Int32} {d : Nat} {R : zR} {I : zI} {J : zJ} {r : zA} (k1 : zEv (zXs Ls xs) d zm_63 (5, [some (.ref 147)], [], (zS0, R, zu I 147 12 0, J)) r) : zEv (zXs Ls xs) d zm_63 (0, [some (.ref 147)], [], (zS0, R, I, J)) r := by
  refine zEv_k 3 (f' := (5, [some (.ref 147)], [], (zS0, R, zu I 147 12 0, J))) rfl ?_
  exact k1
theorem b_63_5 {Ls : Nat} {xs : Nat → Int32} {d : Nat} {R : zR} {I : zI} {J : zJ} {r : zA} (k1 : (I 147 8) ≤ (I 147 9) → zEv (zXs Ls xs) d zm_63 (68, [some (.ref 147)], [], (zS0, R, I, J)) r) (k2 : ¬ ((I 147 8) ≤ (I 147 9)) → zEv (zXs Ls xs) d zm_63 (16, [some (.ref 147)], [], (zS0, R, I, J)) r) : zEv (zXs Ls xs) d zm_63 (5, [some (.ref 147)], [], (zS0, R, I, J)) r := by
  refine zEv_k 5 (f' := (if (I 147 8) ≤ (I 147 9) then 68 else 16, [some (.ref 147)], [], (zS0, R, I, J))) rfl ?_
  exact zEv_if k1 k2
theorem b_63_16 {Ls : Nat} {xs : Nat → Int32} {d : Nat} {R : zR} {I : zI} {J : zJ} {r : zA} {w : Int32} {R' : zR} {I' : zI} {J' : zJ} (hR : zRok R) (h24 : zin (I 147 9) 600) (hc : zEv (zXs Ls xs) d zm_65 (0, [some (.int (I 163 (I 147 9).toNatClampNeg))], [], (zS0, R, I, J)) (some (.int w), (zS0, R', I', J'))) (k1 : zEv (zXs Ls xs) (d + 1) zm_63 (28, [some (.ref 147)], [.int w], (zS0, R', I', J')) r) : zEv (zXs Ls xs) (d + 1) zm_63 (16, [some (.ref 147)], [], (zS0, R, I, J)) r := by
  refine zEv_k 1 (f' := (17, [some (.ref 147)], [.ref 147], (zS0, R, I, J))) rfl ?_
  refine zEv_gr rfl rfl rfl (by decide) (hR (147) 5 (163) rfl) ?_
  refine zEv_k 2 (f' := (24, [some (.ref 147)], [.int (I 147 9), .ref 163], (zS0, R, I, J))) rfl ?_
  refine zEv_bal rfl rfl (by decide) h24 ?_
  exact zEv_c (fun _ => rfl) rfl hc rfl rfl k1
theorem b_63_28 {Ls : Nat} {xs : Nat → Int32} {d : Nat} {R : zR} {I : zI} {J : zJ} {r : zA} {s0 : Int32} (k1 : s0 = 0 → zEv (zXs Ls xs) d zm_63 (68, [some (.ref 147)], [], (zS0, R, I, J)) r) (k2 : ¬ (s0 = 0) → zEv (zXs Ls xs) d zm_63 (31, [some (.ref 147)], [], (zS0, R, I, J)) r) : zEv (zXs Ls xs) d zm_63 (28, [some (.ref 147)], [.int s0], (zS0, R, I, J)) r := by
  refine zEv_k 1 (f' := (if s0 = 0 then 68 else 31, [some (.ref 147)], [], (zS0, R, I, J))) rfl ?_
  exact zEv_if k1 k2
theorem b_63_31 {Ls : Nat} {xs : Nat → Int32} {d : Nat} {R : zR} {I : zI} {J : zJ} {r : zA} (hR : zRok R) (h47 : zin (I 147 9) 600) (k1 : zEv (zXs Ls xs) d zm_63 (5, [some (.ref 147)], [], (zS0, R, zu (zu I 147 12 ((((I 147 12) * 10) + (I 163 (I 147 9).toNatClampNeg)) - 48)) 147 9 (((zu I 147 12 ((((I 147 12) * 10) + (I 163 (I 147 9).toNatClampNeg)) - 48)) 147 9) + 1), J)) r) : zEv (zXs Ls xs) d zm_63 (31, [some (.ref 147)], [], (zS0, R, I, J)) r := by
  refine zEv_k 6 (f' := (40, [some (.ref 147)], [.ref 147, .int ((I 147 12) * 10), .ref 147], (zS0, R, I, J))) rfl ?_
  refine zEv_gr rfl rfl rfl (by decide) (hR (147) 5 (163) rfl) ?_
  refine zEv_k 2 (f' := (47, [some (.ref 147)], [.int (I 147 9), .ref 163, .int ((I 147 12) * 10), .ref 147], (zS0, R, I, J))) rfl ?_
  refine zEv_bal rfl rfl (by decide) h47 ?_
  refine zEv_k 9 (f' := (62, [some (.ref 147)], [.int (((zu I 147 12 ((((I 147 12) * 10) + (I 163 (I 147 9).toNatClampNeg)) - 48)) 147 9) + 1), .ref 147], (zS0, R, zu I 147 12 ((((I 147 12) * 10) + (I 163 (I 147 9).toNatClampNeg)) - 48), J))) rfl ?_
  refine zEv_k 2 (f' := (5, [some (.ref 147)], [], (zS0, R, zu (zu I 147 12 ((((I 147 12) * 10) + (I 163 (I 147 9).toNatClampNeg)) - 48)) 147 9 (((zu I 147 12 ((((I 147 12) * 10) + (I 163 (I 147 9).toNatClampNeg)) - 48)) 147 9) + 1), J))) rfl ?_
  exact k1
theorem b_63_68 {Ls : Nat} {xs : Nat → Int32} {d : Nat} {R : zR} {I : zI} {J : zJ} {r : zA} (k1 : 2 < ((I 147 9) - (I 147 11)) → zEv (zXs Ls xs) d zm_63 (86, [some (.ref 147)], [.ref 147], (zS0, R, I, J)) r) (k2 : ¬ (2 < ((I 147 9) - (I 147 11))) → zEv (zXs Ls xs) d zm_63 (82, [some (.ref 147)], [.ref 147], (zS0, R, I, J)) r) : zEv (zXs Ls xs) d zm_63 (68, [some (.ref 147)], [], (zS0, R, I, J)) r := by
  refine zEv_k 8 (f' := (if 2 < ((I 147 9) - (I 147 11)) then 86 else 82, [some (.ref 147)], [.ref 147], (zS0, R, I, J))) rfl ?_
  exact zEv_if k1 k2
theorem b_63_82 {Ls : Nat} {xs : Nat → Int32} {d : Nat} {R : zR} {I : zI} {J : zJ}  : zEv (zXs Ls xs) d zm_63 (82, [some (.ref 147)], [.ref 147], (zS0, R, I, J)) (none, (zS0, R, zu I 147 10 2, J)) := by
  refine zEv_k 3 (f' := (90, [some (.ref 147)], [], (zS0, R, zu I 147 10 2, J))) rfl ?_
  exact zEv_r rfl
theorem b_63_86 {Ls : Nat} {xs : Nat → Int32} {d : Nat} {R : zR} {I : zI} {J : zJ}  : zEv (zXs Ls xs) d zm_63 (86, [some (.ref 147)], [.ref 147], (zS0, R, I, J)) (none, (zS0, R, zu I 147 10 4, J)) := by
  refine zEv_k 2 (f' := (90, [some (.ref 147)], [], (zS0, R, zu I 147 10 4, J))) rfl ?_
  exact zEv_r rfl
theorem b_64_0 {Ls : Nat} {xs : Nat → Int32} {d : Nat} {R : zR} {I : zI} {J : zJ} {r : zA} {x0 : Int32} (k1 : x0 < 97 → zEv (zXs Ls xs) d zm_64 (16, [some (.int x0)], [], (zS0, R, I, J)) r) (k2 : ¬ (x0 < 97) → zEv (zXs Ls xs) d zm_64 (6, [some (.int x0)], [], (zS0, R, I, J)) r) : zEv (zXs Ls xs) d zm_64 (0, [some (.int x0)], [], (zS0, R, I, J)) r := by
  refine zEv_k 3 (f' := (if x0 < 97 then 16 else 6, [some (.int x0)], [], (zS0, R, I, J))) rfl ?_
  exact zEv_if k1 k2
theorem b_64_6 {Ls : Nat} {xs : Nat → Int32} {d : Nat} {R : zR} {I : zI} {J : zJ} {r : zA} {x0 : Int32} (k1 : 122 < x0 → zEv (zXs Ls xs) d zm_64 (16, [some (.int x0)], [], (zS0, R, I, J)) r) (k2 : ¬ (122 < x0) → zEv (zXs Ls xs) d zm_64 (12, [some (.int x0)], [], (zS0, R, I, J)) r) : zEv (zXs Ls xs) d zm_64 (6, [some (.int x0)], [], (zS0, R, I, J)) r := by
  refine zEv_k 3 (f' := (if 122 < x0 then 16 else 12, [some (.int x0)], [], (zS0, R, I, J))) rfl ?_
  exact zEv_if k1 k2
theorem b_64_12 {Ls : Nat} {xs : Nat → Int32} {d : Nat} {R : zR} {I : zI} {J : zJ} {x0 : Int32} : zEv (zXs Ls xs) d zm_64 (12, [some (.int x0)], [], (zS0, R, I, J)) (some (.int 1), (zS0, R, I, J)) := by
  refine zEv_k 2 (f' := (17, [some (.int x0)], [.int 1], (zS0, R, I, J))) rfl ?_
  exact zEv_r rfl
theorem b_64_16 {Ls : Nat} {xs : Nat → Int32} {d : Nat} {R : zR} {I : zI} {J : zJ} {x0 : Int32} : zEv (zXs Ls xs) d zm_64 (16, [some (.int x0)], [], (zS0, R, I, J)) (some (.int 0), (zS0, R, I, J)) := by
  refine zEv_k 1 (f' := (17, [some (.int x0)], [.int 0], (zS0, R, I, J))) rfl ?_
  exact zEv_r rfl
theorem b_65_0 {Ls : Nat} {xs : Nat → Int32} {d : Nat} {R : zR} {I : zI} {J : zJ} {r : zA} {x0 : Int32} (k1 : x0 < 48 → zEv (zXs Ls xs) d zm_65 (16, [some (.int x0)], [], (zS0, R, I, J)) r) (k2 : ¬ (x0 < 48) → zEv (zXs Ls xs) d zm_65 (6, [some (.int x0)], [], (zS0, R, I, J)) r) : zEv (zXs Ls xs) d zm_65 (0, [some (.int x0)], [], (zS0, R, I, J)) r := by
  refine zEv_k 3 (f' := (if x0 < 48 then 16 else 6, [some (.int x0)], [], (zS0, R, I, J))) rfl ?_
  exact zEv_if k1 k2
theorem b_65_6 {Ls : Nat} {xs : Nat → Int32} {d : Nat} {R : zR} {I : zI} {J : zJ} {r : zA} {x0 : Int32} (k1 : 57 < x0 → zEv (zXs Ls xs) d zm_65 (16, [some (.int x0)], [], (zS0, R, I, J)) r) (k2 : ¬ (57 < x0) → zEv (zXs Ls xs) d zm_65 (12, [some (.int x0)], [], (zS0, R, I, J)) r) : zEv (zXs Ls xs) d zm_65 (6, [some (.int x0)], [], (zS0, R, I, J)) r := by
  refine zEv_k 3 (f' := (if 57 < x0 then 16 else 12, [some (.int x0)], [], (zS0, R, I, J))) rfl ?_
  exact zEv_if k1 k2
theorem b_65_12 {Ls : Nat} {xs : Nat → Int32} {d : Nat} {R : zR} {I : zI} {J : zJ} {x0 : Int32} : zEv (zXs Ls xs) d zm_65 (12, [some (.int x0)], [], (zS0, R, I, J)) (some (.int 1), (zS0, R, I, J)) := by
  refine zEv_k 2 (f' := (17, [some (.int x0)], [.int 1], (zS0, R, I, J))) rfl ?_
  exact zEv_r rfl
theorem b_65_16 {Ls : Nat} {xs : Nat → Int32} {d : Nat} {R : zR} {I : zI} {J : zJ} {x0 : Int32} : zEv (zXs Ls xs) d zm_65 (16, [some (.int x0)], [], (zS0, R, I, J)) (some (.int 0), (zS0, R, I, J)) := by
  refine zEv_k 1 (f' := (17, [some (.int x0)], [.int 0], (zS0, R, I, J))) rfl ?_
  exact zEv_r rfl
theorem b_66_0 {Ls : Nat} {xs : Nat → Int32} {d : Nat} {R : zR} {I : zI} {J : zJ} {r : zA} {x1 : Int32} (k1 : zEv (zXs Ls xs) d zm_66 (2, [some (.ref 147), some (.int x1), some (.int 0)], [], (zS0, R, I, J)) r) : zEv (zXs Ls xs) d zm_66 (0, [some (.ref 147), some (.int x1), none], [], (zS0, R, I, J)) r := by
  refine zEv_k 2 (f' := (2, [some (.ref 147), some (.int x1), some (.int 0)], [], (zS0, R, I, J))) rfl ?_
  exact k1
theorem b_66_2 {Ls : Nat} {xs : Nat → Int32} {d : Nat} {R : zR} {I : zI} {J : zJ} {r : zA} {x1 : Int32} {x2 : Int32} (k1 : ¬ (I 147 10) = 1 → zEv (zXs Ls xs) d zm_66 (44, [some (.ref 147), some (.int x1), some (.int x2)], [], (zS0, R, I, J)) r) (k2 : ¬ (¬ (I 147 10) = 1) → zEv (zXs Ls xs) d zm_66 (10, [some (.ref 147), some (.int x1), some (.int x2)], [], (zS0, R, I, J)) r) : zEv (zXs Ls xs) d zm_66 (2, [some (.ref 147), some (.int x1), some (.int x2)], [], (zS0, R, I, J)) r := by
  refine zEv_k 4 (f' := (if ¬ (I 147 10) = 1 then 44 else 10, [some (.ref 147), some (.int x1), some (.int x2)], [], (zS0, R, I, J))) rfl ?_
  exact zEv_if k1 k2
theorem b_66_10 {Ls : Nat} {xs : Nat → Int32} {d : Nat} {R : zR} {I : zI} {J : zJ} {r : zA} {x1 : Int32} {x2 : Int32} (k1 : 10 ≤ x2 → zEv (zXs Ls xs) d zm_66 (44, [some (.ref 147), some (.int x1), some (.int x2)], [], (zS0, R, I, J)) r) (k2 : ¬ (10 ≤ x2) → zEv (zXs Ls xs) d zm_66 (16, [some (.ref 147), some (.int x1), some (.int x2)], [], (zS0, R, I, J)) r) : zEv (zXs Ls xs) d zm_66 (10, [some (.ref 147), some (.int x1), some (.int x2)], [], (zS0, R, I, J)) r := by
  refine zEv_k 3 (f' := (if 10 ≤ x2 then 44 else 16, [some (.ref 147), some (.int x1), some (.int x2)], [], (zS0, R, I, J))) rfl ?_
  exact zEv_if k1 k2
theorem b_66_16 {Ls : Nat} {xs : Nat → Int32} {d : Nat} {R : zR} {I : zI} {J : zJ} {r : zA} {x1 : Int32} {x2 : Int32} (h20 : zin x2 10) (k1 : ¬ (List.getD zA_SORT_OF (x2).toNatClampNeg 0) = x1 → zEv (zXs Ls xs) d zm_66 (38, [some (.ref 147), some (.int x1), some (.int x2)], [], (zS0, R, I, J)) r) (k2 : ¬ (¬ (List.getD zA_SORT_OF (x2).toNatClampNeg 0) = x1) → zEv (zXs Ls xs) d zm_66 (25, [some (.ref 147), some (.int x1), some (.int x2)], [], (zS0, R, I, J)) r) : zEv (zXs Ls xs) d zm_66 (16, [some (.ref 147), some (.int x1), some (.int x2)], [], (zS0, R, I, J)) r := by
  refine zEv_k 2 (f' := (20, [some (.ref 147), some (.int x1), some (.int x2)], [.int x2, .ref (zro + 1)], (zS0, R, I, J))) rfl ?_
  refine zEv_iax rfl rfl h20 ?_
  refine zEv_k 2 (f' := (if ¬ (List.getD zA_SORT_OF (x2).toNatClampNeg 0) = x1 then 38 else 25, [some (.ref 147), some (.int x1), some (.int x2)], [], (zS0, R, I, J))) rfl ?_
  exact zEv_if k1 k2
theorem b_66_38 {Ls : Nat} {xs : Nat → Int32} {d : Nat} {R : zR} {I : zI} {J : zJ} {r : zA} {x1 : Int32} {x2 : Int32} (k1 : zEv (zXs Ls xs) d zm_66 (2, [some (.ref 147), some (.int x1), some (.int (x2 + 1))], [], (zS0, R, I, J)) r) : zEv (zXs Ls xs) d zm_66 (38, [some (.ref 147), some (.int x1), some (.int x2)], [], (zS0, R, I, J)) r := by
  refine zEv_k 2 (f' := (2, [some (.ref 147), some (.int x1), some (.int (x2 + 1))], [], (zS0, R, I, J))) rfl ?_
  exact k1
theorem b_66_44 {Ls : Nat} {xs : Nat → Int32} {d : Nat} {R : zR} {I : zI} {J : zJ} {x1 : Int32} {x2 : Int32} : zEv (zXs Ls xs) d zm_66 (44, [some (.ref 147), some (.int x1), some (.int x2)], [], (zS0, R, I, J)) (some (.int (-1)), (zS0, R, I, J)) := by
  refine zEv_k 1 (f' := (45, [some (.ref 147), some (.int x1), some (.int x2)], [.int (-1)], (zS0, R, I, J))) rfl ?_
  exact zEv_r rfl
theorem b_68_0 {Ls : Nat} {xs : Nat → Int32} {d : Nat} {R : zR} {I : zI} {J : zJ} {r : zA} {x0 : Int32} (k0 : x0 = 0 → zEv (zXs Ls xs) d zm_68 (56, [some (.int x0)], [], (zS0, R, I, J)) r) (k1 : x0 = 1 → zEv (zXs Ls xs) d zm_68 (59, [some (.int x0)], [], (zS0, R, I, J)) r) (k2 : x0 = 2 → zEv (zXs Ls xs) d zm_68 (62, [some (.int x0)], [], (zS0, R, I, J)) r) (k3 : x0 = 3 → zEv (zXs Ls xs) d zm_68 (65, [some (.int x0)], [], (zS0, R, I, J)) r) (k4 : x0 = 4 → zEv (zXs Ls xs) d zm_68 (68, [some (.int x0)], [], (zS0, R, I, J)) r) (k5 : x0 = 5 → zEv (zXs Ls xs) d zm_68 (71, [some (.int x0)], [], (zS0, R, I, J)) r) (k6 : x0 = 6 → zEv (zXs Ls xs) d zm_68 (74, [some (.int x0)], [], (zS0, R, I, J)) r) (k7 : x0 = 7 → zEv (zXs Ls xs) d zm_68 (77, [some (.int x0)], [], (zS0, R, I, J)) r) (k8 : x0 = 8 → zEv (zXs Ls xs) d zm_68 (80, [some (.int x0)], [], (zS0, R, I, J)) r) (k9 : x0 = 9 → zEv (zXs Ls xs) d zm_68 (83, [some (.int x0)], [], (zS0, R, I, J)) r) (kd : ¬ (0 ≤ (x0 : Int32).toInt ∧ (x0 : Int32).toInt ≤ 9) → zEv (zXs Ls xs) d zm_68 (86, [some (.int x0)], [], (zS0, R, I, J)) r) : zEv (zXs Ls xs) d zm_68 (0, [some (.int x0)], [], (zS0, R, I, J)) r := by
  refine zEv_k 1 (f' := (1, [some (.int x0)], [.int x0], (zS0, R, I, J))) rfl ?_
  refine zEv_ts rfl (by decide) (by decide) (by decide) (fun hh => ?_) (fun j hj hh => ?_)
  · exact kd (by omega)
  · rcases (by have hj2 : j < 10 := hj; omega : j = 0 ∨ j = 1 ∨ j = 2 ∨ j = 3 ∨ j = 4 ∨ j = 5 ∨ j = 6 ∨ j = 7 ∨ j = 8 ∨ j = 9) with rfl | rfl | rfl | rfl | rfl | rfl | rfl | rfl | rfl | rfl
    · exact k0 (zeqI hh (by decide))
    · exact k1 (zeqI hh (by decide))
    · exact k2 (zeqI hh (by decide))
    · exact k3 (zeqI hh (by decide))
    · exact k4 (zeqI hh (by decide))
    · exact k5 (zeqI hh (by decide))
    · exact k6 (zeqI hh (by decide))
    · exact k7 (zeqI hh (by decide))
    · exact k8 (zeqI hh (by decide))
    · exact k9 (zeqI hh (by decide))
