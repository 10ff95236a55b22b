set_option maxRecDepth 50000 in
theorem b_285_18 {Ls : Nat} {xs : Nat → Int32} {d : Nat} {R : zR} {I : zI} {J : zJ} {r : zA} {x3 : Int32} (k1 : ((Int32.ofNat Ls) - 6) < x3 → zEv (zXs Ls xs) d zm_285 (1421, [some (.ref (zro + 0)), some (.ref 0), some (.ref 215), some (.int x3)], [], (zS0, R, I, J)) r) (k2 : ¬ (((Int32.ofNat Ls) - 6) < x3) → zEv (zXs Ls xs) d zm_285 (27, [some (.ref (zro + 0)), some (.ref 0), some (.ref 215), some (.int x3)], [], (zS0, R, I, J)) r) : zEv (zXs Ls xs) d zm_285 (18, [some (.ref (zro + 0)), some (.ref 0), some (.ref 215), some (.int x3)], [], (zS0, R, I, J)) r := by
  refine zEv_k 6 (f' := (if ((Int32.ofNat Ls) - 6) < x3 then 1421 else 27, [some (.ref (zro + 0)), some (.ref 0), some (.ref 215), some (.int x3)], [], (zS0, R, I, J))) rfl ?_
  exact zEv_if k1 k2
set_option maxRecDepth 50000 in
theorem b_285_27 {Ls : Nat} {xs : Nat → Int32} {d : Nat} {R : zR} {I : zI} {J : zJ} {r : zA} {x3 : Int32} (h29 : zin x3 Ls) (k0 : ((xs (x3).toNatClampNeg) &&& 31) = 0 → zEv (zXs Ls xs) d zm_285 (168, [some (.ref (zro + 0)), some (.ref 0), some (.ref 215), some (.int x3)], [], (zS0, R, I, J)) r) (k1 : ((xs (x3).toNatClampNeg) &&& 31) = 1 → zEv (zXs Ls xs) d zm_285 (231, [some (.ref (zro + 0)), some (.ref 0), some (.ref 215), some (.int x3)], [], (zS0, R, I, J)) r) (k2 : ((xs (x3).toNatClampNeg) &&& 31) = 2 → zEv (zXs Ls xs) d zm_285 (254, [some (.ref (zro + 0)), some (.ref 0), some (.ref 215), some (.int x3)], [], (zS0, R, I, J)) r) (k3 : ((xs (x3).toNatClampNeg) &&& 31) = 3 → zEv (zXs Ls xs) d zm_285 (287, [some (.ref (zro + 0)), some (.ref 0), some (.ref 215), some (.int x3)], [], (zS0, R, I, J)) r) (k4 : ((xs (x3).toNatClampNeg) &&& 31) = 4 → zEv (zXs Ls xs) d zm_285 (310, [some (.ref (zro + 0)), some (.ref 0), some (.ref 215), some (.int x3)], [], (zS0, R, I, J)) r) (k5 : ((xs (x3).toNatClampNeg) &&& 31) = 5 → zEv (zXs Ls xs) d zm_285 (343, [some (.ref (zro + 0)), some (.ref 0), some (.ref 215), some (.int x3)], [], (zS0, R, I, J)) r) (k6 : ((xs (x3).toNatClampNeg) &&& 31) = 6 → zEv (zXs Ls xs) d zm_285 (386, [some (.ref (zro + 0)), some (.ref 0), some (.ref 215), some (.int x3)], [], (zS0, R, I, J)) r) (k7 : ((xs (x3).toNatClampNeg) &&& 31) = 7 → zEv (zXs Ls xs) d zm_285 (419, [some (.ref (zro + 0)), some (.ref 0), some (.ref 215), some (.int x3)], [], (zS0, R, I, J)) r) (k8 : ((xs (x3).toNatClampNeg) &&& 31) = 8 → zEv (zXs Ls xs) d zm_285 (472, [some (.ref (zro + 0)), some (.ref 0), some (.ref 215), some (.int x3)], [], (zS0, R, I, J)) r) (k9 : ((xs (x3).toNatClampNeg) &&& 31) = 9 → zEv (zXs Ls xs) d zm_285 (505, [some (.ref (zro + 0)), some (.ref 0), some (.ref 215), some (.int x3)], [], (zS0, R, I, J)) r) (k10 : ((xs (x3).toNatClampNeg) &&& 31) = 10 → zEv (zXs Ls xs) d zm_285 (538, [some (.ref (zro + 0)), some (.ref 0), some (.ref 215), some (.int x3)], [], (zS0, R, I, J)) r) (k11 : ((xs (x3).toNatClampNeg) &&& 31) = 11 → zEv (zXs Ls xs) d zm_285 (571, [some (.ref (zro + 0)), some (.ref 0), some (.ref 215), some (.int x3)], [], (zS0, R, I, J)) r) (k12 : ((xs (x3).toNatClampNeg) &&& 31) = 12 → zEv (zXs Ls xs) d zm_285 (614, [some (.ref (zro + 0)), some (.ref 0), some (.ref 215), some (.int x3)], [], (zS0, R, I, J)) r) (k13 : ((xs (x3).toNatClampNeg) &&& 31) = 13 → zEv (zXs Ls xs) d zm_285 (647, [some (.ref (zro + 0)), some (.ref 0), some (.ref 215), some (.int x3)], [], (zS0, R, I, J)) r) (k14 : ((xs (x3).toNatClampNeg) &&& 31) = 14 → zEv (zXs Ls xs) d zm_285 (680, [some (.ref (zro + 0)), some (.ref 0), some (.ref 215), some (.int x3)], [], (zS0, R, I, J)) r) (k15 : ((xs (x3).toNatClampNeg) &&& 31) = 15 → zEv (zXs Ls xs) d zm_285 (739, [some (.ref (zro + 0)), some (.ref 0), some (.ref 215), some (.int x3)], [], (zS0, R, I, J)) r) (k16 : ((xs (x3).toNatClampNeg) &&& 31) = 16 → zEv (zXs Ls xs) d zm_285 (798, [some (.ref (zro + 0)), some (.ref 0), some (.ref 215), some (.int x3)], [], (zS0, R, I, J)) r) (k17 : ((xs (x3).toNatClampNeg) &&& 31) = 17 → zEv (zXs Ls xs) d zm_285 (878, [some (.ref (zro + 0)), some (.ref 0), some (.ref 215), some (.int x3)], [], (zS0, R, I, J)) r) (k18 : ((xs (x3).toNatClampNeg) &&& 31) = 18 → zEv (zXs Ls xs) d zm_285 (921, [some (.ref (zro + 0)), some (.ref 0), some (.ref 215), some (.int x3)], [], (zS0, R, I, J)) r) (k19 : ((xs (x3).toNatClampNeg) &&& 31) = 19 → zEv (zXs Ls xs) d zm_285 (964, [some (.ref (zro + 0)), some (.ref 0), some (.ref 215), some (.int x3)], [], (zS0, R, I, J)) r) (k20 : ((xs (x3).toNatClampNeg) &&& 31) = 20 → zEv (zXs Ls xs) d zm_285 (1017, [some (.ref (zro + 0)), some (.ref 0), some (.ref 215), some (.int x3)], [], (zS0, R, I, J)) r) (k21 : ((xs (x3).toNatClampNeg) &&& 31) = 21 → zEv (zXs Ls xs) d zm_285 (1050, [some (.ref (zro + 0)), some (.ref 0), some (.ref 215), some (.int x3)], [], (zS0, R, I, J)) r) (k22 : ((xs (x3).toNatClampNeg) &&& 31) = 22 → zEv (zXs Ls xs) d zm_285 (1083, [some (.ref (zro + 0)), some (.ref 0), some (.ref 215), some (.int x3)], [], (zS0, R, I, J)) r) (k23 : ((xs (x3).toNatClampNeg) &&& 31) = 23 → zEv (zXs Ls xs) d zm_285 (1116, [some (.ref (zro + 0)), some (.ref 0), some (.ref 215), some (.int x3)], [], (zS0, R, I, J)) r) (k24 : ((xs (x3).toNatClampNeg) &&& 31) = 24 → zEv (zXs Ls xs) d zm_285 (1175, [some (.ref (zro + 0)), some (.ref 0), some (.ref 215), some (.int x3)], [], (zS0, R, I, J)) r) (k25 : ((xs (x3).toNatClampNeg) &&& 31) = 25 → zEv (zXs Ls xs) d zm_285 (1218, [some (.ref (zro + 0)), some (.ref 0), some (.ref 215), some (.int x3)], [], (zS0, R, I, J)) r) (k26 : ((xs (x3).toNatClampNeg) &&& 31) = 26 → zEv (zXs Ls xs) d zm_285 (1287, [some (.ref (zro + 0)), some (.ref 0), some (.ref 215), some (.int x3)], [], (zS0, R, I, J)) r) (k27 : ((xs (x3).toNatClampNeg) &&& 31) = 27 → zEv (zXs Ls xs) d zm_285 (1346, [some (.ref (zro + 0)), some (.ref 0), some (.ref 215), some (.int x3)], [], (zS0, R, I, J)) r) (k28 : ((xs (x3).toNatClampNeg) &&& 31) = 28 → zEv (zXs Ls xs) d zm_285 (1369, [some (.ref (zro + 0)), some (.ref 0), some (.ref 215), some (.int x3)], [], (zS0, R, I, J)) r) (k29 : ((xs (x3).toNatClampNeg) &&& 31) = 29 → zEv (zXs Ls xs) d zm_285 (1392, [some (.ref (zro + 0)), some (.ref 0), some (.ref 215), some (.int x3)], [], (zS0, R, I, J)) r) (kd : ¬ (0 ≤ ((xs (x3).toNatClampNeg) &&& 31 : Int32).toInt ∧ ((xs (x3).toNatClampNeg) &&& 31 : Int32).toInt ≤ 29) → zEv (zXs Ls xs) d zm_285 (1415, [some (.ref (zro + 0)), some (.ref 0), some (.ref 215), some (.int x3)], [], (zS0, R, I, J)) r) : zEv (zXs Ls xs) d zm_285 (27, [some (.ref (zro + 0)), some (.ref 0), some (.ref 215), some (.int x3)], [], (zS0, R, I, J)) r := by
  refine zEv_k 2 (f' := (29, [some (.ref (zro + 0)), some (.ref 0), some (.ref 215), some (.int x3)], [.int x3, .ref (zro + 0)], (zS0, R, I, J))) rfl ?_
  refine zEv_iax (a := 0) rfl rfl h29 ?_
  refine zEv_k 2 (f' := (33, [some (.ref (zro + 0)), some (.ref 0), some (.ref 215), some (.int x3)], [.int ((xs (x3).toNatClampNeg) &&& 31)], (zS0, R, I, J))) rfl ?_
  refine zEv_ts rfl (by decide) (by decide) (by decide) (fun hh => ?_) (fun j hj hh => ?_)
  · exact kd (by omega)
  · rcases (by have hj2 : j < 30 := hj; omega : j = 0 ∨ j = 1 ∨ j = 2 ∨ j = 3 ∨ j = 4 ∨ j = 5 ∨ j = 6 ∨ j = 7 ∨ j = 8 ∨ j = 9 ∨ j = 10 ∨ j = 11 ∨ j = 12 ∨ j = 13 ∨ j = 14 ∨ j = 15 ∨ j = 16 ∨ j = 17 ∨ j = 18 ∨ j = 19 ∨ j = 20 ∨ j = 21 ∨ j = 22 ∨ j = 23 ∨ j = 24 ∨ j = 25 ∨ j = 26 ∨ j = 27 ∨ j = 28 ∨ j = 29) with rfl | rfl | rfl | rfl | rfl | rfl | rfl | rfl | rfl | rfl | rfl | rfl | rfl | rfl | rfl | rfl | rfl | rfl | rfl | rfl | rfl | rfl | rfl | rfl | rfl | rfl | rfl | rfl | rfl | rfl
    · exact k0 (zeqI hh (by decide))
    · exact k1 (zeqI hh (by decide))
    · exact k2 (zeqI hh (by decide))
    · exact k3 (zeqI hh (by decide))
    · exact k4 (zeqI hh (by decide))
    · exact k5 (zeqI hh (by decide))
    · exact k6 (zeqI hh (by decide))
    · exact k7 (zeqI hh (by decide))
    · exact k8 (zeqI hh (by decide))
    · exact k9 (zeqI hh (by decide))
    · exact k10 (zeqI hh (by decide))
    · exact k11 (zeqI hh (by decide))
    · exact k12 (zeqI hh (by decide))
    · exact k13 (zeqI hh (by decide))
    · exact k14 (zeqI hh (by decide))
    · exact k15 (zeqI hh (by decide))
    · exact k16 (zeqI hh (by decide))
    · exact k17 (zeqI hh (by decide))
    · exact k18 (zeqI hh (by decide))
    · exact k19 (zeqI hh (by decide))
    · exact k20 (zeqI hh (by decide))
    · exact k21 (zeqI hh (by decide))
    · exact k22 (zeqI hh (by decide))
    · exact k23 (zeqI hh (by decide))
    · exact k24 (zeqI hh (by decide))
    · exact k25 (zeqI hh (by decide))
    · exact k26 (zeqI hh (by decide))
    · exact k27 (zeqI hh (by decide))
    · exact k28 (zeqI hh (by decide))
    · exact k29 (zeqI hh (by decide))
set_option maxRecDepth 50000 in
theorem b_285_168 {Ls : Nat} {xs : Nat → Int32} {d : Nat} {R : zR} {I : zI} {J : zJ} {r : zA} {x3 : Int32} {w : Int32} {R' : zR} {I' : zI} {J' : zJ} (h173 : zin (x3 + 1) Ls) (h178 : zin (x3 + 2) Ls) (h183 : zin (x3 + 3) Ls) (h188 : zin (x3 + 4) Ls) (h193 : zin (x3 + 5) Ls) (hc : zEv (zXs Ls xs) d zm_112 (0, [some (.ref 0), some (.int (xs (x3 + 1).toNatClampNeg)), some (.int (xs (x3 + 2).toNatClampNeg)), some (.int (xs (x3 + 3).toNatClampNeg)), some (.int (xs (x3 + 4).toNatClampNeg)), some (.int (xs (x3 + 5).toNatClampNeg))], [], (zS0, R, I, J)) (some (.int w), (zS0, R', I', J'))) (k1 : zEv (zXs Ls xs) (d + 1) zm_285 (197, [some (.ref (zro + 0)), some (.ref 0), some (.ref 215), some (.int x3)], [.int w], (zS0, R', I', J')) r) : zEv (zXs Ls xs) (d + 1) zm_285 (168, [some (.ref (zro + 0)), some (.ref 0), some (.ref 215), some (.int x3)], [], (zS0, R, I, J)) r := by
  refine zEv_k 5 (f' := (173, [some (.ref (zro + 0)), some (.ref 0), some (.ref 215), some (.int x3)], [.int (x3 + 1), .ref (zro + 0), .ref 0], (zS0, R, I, J))) rfl ?_
  refine zEv_iax (a := 0) rfl rfl h173 ?_
  refine zEv_k 4 (f' := (178, [some (.ref (zro + 0)), some (.ref 0), some (.ref 215), some (.int x3)], [.int (x3 + 2), .ref (zro + 0), .int (xs (x3 + 1).toNatClampNeg), .ref 0], (zS0, R, I, J))) rfl ?_
  refine zEv_iax (a := 0) rfl rfl h178 ?_
  refine zEv_k 4 (f' := (183, [some (.ref (zro + 0)), some (.ref 0), some (.ref 215), some (.int x3)], [.int (x3 + 3), .ref (zro + 0), .int (xs (x3 + 2).toNatClampNeg), .int (xs (x3 + 1).toNatClampNeg), .ref 0], (zS0, R, I, J))) rfl ?_
  refine zEv_iax (a := 0) rfl rfl h183 ?_
  refine zEv_k 4 (f' := (188, [some (.ref (zro + 0)), some (.ref 0), some (.ref 215), some (.int x3)], [.int (x3 + 4), .ref (zro + 0), .int (xs (x3 + 3).toNatClampNeg), .int (xs (x3 + 2).toNatClampNeg), .int (xs (x3 + 1).toNatClampNeg), .ref 0], (zS0, R, I, J))) rfl ?_
  refine zEv_iax (a := 0) rfl rfl h188 ?_
  refine zEv_k 4 (f' := (193, [some (.ref (zro + 0)), some (.ref 0), some (.ref 215), some (.int x3)], [.int (x3 + 5), .ref (zro + 0), .int (xs (x3 + 4).toNatClampNeg), .int (xs (x3 + 3).toNatClampNeg), .int (xs (x3 + 2).toNatClampNeg), .int (xs (x3 + 1).toNatClampNeg), .ref 0], (zS0, R, I, J))) rfl ?_
  refine zEv_iax (a := 0) rfl rfl h193 ?_
  exact zEv_c (fun _ => rfl) rfl hc rfl rfl k1
set_option maxRecDepth 50000 in
theorem b_285_197 {Ls : Nat} {xs : Nat → Int32} {d : Nat} {R : zR} {I : zI} {J : zJ} {r : zA} {x3 : Int32} {s0 : Int32} {w : Int32} {R' : zR} {I' : zI} {J' : zJ} (h202 : zin (x3 + 1) Ls) (h207 : zin (x3 + 2) Ls) (h212 : zin (x3 + 3) Ls) (h217 : zin (x3 + 4) Ls) (h222 : zin (x3 + 5) Ls) (hc : zEv (zXs Ls xs) d zm_158 (0, [some (.ref 215), some (.int (xs (x3 + 1).toNatClampNeg)), some (.int (xs (x3 + 2).toNatClampNeg)), some (.int (xs (x3 + 3).toNatClampNeg)), some (.int (xs (x3 + 4).toNatClampNeg)), some (.int (xs (x3 + 5).toNatClampNeg))], [], (zS0, R, I, J)) (some (.int w), (zS0, R', I', J'))) (k1 : zEv (zXs Ls xs) (d + 1) zm_285 (226, [some (.ref (zro + 0)), some (.ref 0), some (.ref 215), some (.int x3)], [.int w, .int s0], (zS0, R', I', J')) r) : zEv (zXs Ls xs) (d + 1) zm_285 (197, [some (.ref (zro + 0)), some (.ref 0), some (.ref 215), some (.int x3)], [.int s0], (zS0, R, I, J)) r := by
  refine zEv_k 5 (f' := (202, [some (.ref (zro + 0)), some (.ref 0), some (.ref 215), some (.int x3)], [.int (x3 + 1), .ref (zro + 0), .ref 215, .int s0], (zS0, R, I, J))) rfl ?_
  refine zEv_iax (a := 0) rfl rfl h202 ?_
  refine zEv_k 4 (f' := (207, [some (.ref (zro + 0)), some (.ref 0), some (.ref 215), some (.int x3)], [.int (x3 + 2), .ref (zro + 0), .int (xs (x3 + 1).toNatClampNeg), .ref 215, .int s0], (zS0, R, I, J))) rfl ?_
  refine zEv_iax (a := 0) rfl rfl h207 ?_
  refine zEv_k 4 (f' := (212, [some (.ref (zro + 0)), some (.ref 0), some (.ref 215), some (.int x3)], [.int (x3 + 3), .ref (zro + 0), .int (xs (x3 + 2).toNatClampNeg), .int (xs (x3 + 1).toNatClampNeg), .ref 215, .int s0], (zS0, R, I, J))) rfl ?_
  refine zEv_iax (a := 0) rfl rfl h212 ?_
  refine zEv_k 4 (f' := (217, [some (.ref (zro + 0)), some (.ref 0), some (.ref 215), some (.int x3)], [.int (x3 + 4), .ref (zro + 0), .int (xs (x3 + 3).toNatClampNeg), .int (xs (x3 + 2).toNatClampNeg), .int (xs (x3 + 1).toNatClampNeg), .ref 215, .int s0], (zS0, R, I, J))) rfl ?_
  refine zEv_iax (a := 0) rfl rfl h217 ?_
  refine zEv_k 4 (f' := (222, [some (.ref (zro + 0)), some (.ref 0), some (.ref 215), some (.int x3)], [.int (x3 + 5), .ref (zro + 0), .int (xs (x3 + 4).toNatClampNeg), .int (xs (x3 + 3).toNatClampNeg), .int (xs (x3 + 2).toNatClampNeg), .int (xs (x3 + 1).toNatClampNeg), .ref 215, .int s0], (zS0, R, I, J))) rfl ?_
  refine zEv_iax (a := 0) rfl rfl h222 ?_
  exact zEv_c (fun _ => rfl) rfl hc rfl rfl k1
set_option maxRecDepth 50000 in
theorem b_285_226 {Ls : Nat} {xs : Nat → Int32} {d : Nat} {R : zR} {I : zI} {J : zJ} {r : zA} {x3 : Int32} {s0 : Int32} {s1 : Int32} (k1 : s0 = s1 → zEv (zXs Ls xs) d zm_285 (1415, [some (.ref (zro + 0)), some (.ref 0), some (.ref 215), some (.int x3)], [], (zS0, R, I, J)) r) (k2 : ¬ (s0 = s1) → zEv (zXs Ls xs) d zm_285 (229, [some (.ref (zro + 0)), some (.ref 0), some (.ref 215), some (.int x3)], [], (zS0, R, I, J)) r) : zEv (zXs Ls xs) d zm_285 (226, [some (.ref (zro + 0)), some (.ref 0), some (.ref 215), some (.int x3)], [.int s1, .int s0], (zS0, R, I, J)) r := by
  refine zEv_k 1 (f' := (if s0 = s1 then 1415 else 229, [some (.ref (zro + 0)), some (.ref 0), some (.ref 215), some (.int x3)], [], (zS0, R, I, J))) rfl ?_
  exact zEv_if k1 k2
set_option maxRecDepth 50000 in
theorem b_285_229 {Ls : Nat} {xs : Nat → Int32} {d : Nat} {R : zR} {I : zI} {J : zJ} {x3 : Int32} : zEv (zXs Ls xs) d zm_285 (229, [some (.ref (zro + 0)), some (.ref 0), some (.ref 215), some (.int x3)], [], (zS0, R, I, J)) (some (.int 0), (zS0, R, I, J)) := by
  refine zEv_k 1 (f' := (230, [some (.ref (zro + 0)), some (.ref 0), some (.ref 215), some (.int x3)], [.int 0], (zS0, R, I, J))) rfl ?_
  exact zEv_r rfl
set_option maxRecDepth 50000 in
theorem b_285_231 {Ls : Nat} {xs : Nat → Int32} {d : Nat} {R : zR} {I : zI} {J : zJ} {r : zA} {x3 : Int32} {w : Int32} {R' : zR} {I' : zI} {J' : zJ} (h236 : zin (x3 + 1) Ls) (hc : zEv (zXs Ls xs) d zm_113 (0, [some (.ref 0), some (.int (xs (x3 + 1).toNatClampNeg))], [], (zS0, R, I, J)) (some (.int w), (zS0, R', I', J'))) (k1 : zEv (zXs Ls xs) (d + 1) zm_285 (240, [some (.ref (zro + 0)), some (.ref 0), some (.ref 215), some (.int x3)], [.int w], (zS0, R', I', J')) r) : zEv (zXs Ls xs) (d + 1) zm_285 (231, [some (.ref (zro + 0)), some (.ref 0), some (.ref 215), some (.int x3)], [], (zS0, R, I, J)) r := by
  refine zEv_k 5 (f' := (236, [some (.ref (zro + 0)), some (.ref 0), some (.ref 215), some (.int x3)], [.int (x3 + 1), .ref (zro + 0), .ref 0], (zS0, R, I, J))) rfl ?_
  refine zEv_iax (a := 0) rfl rfl h236 ?_
  exact zEv_c (fun _ => rfl) rfl hc rfl rfl k1
set_option maxRecDepth 50000 in
theorem b_285_240 {Ls : Nat} {xs : Nat → Int32} {d : Nat} {R : zR} {I : zI} {J : zJ} {r : zA} {x3 : Int32} {s0 : Int32} {w : Int32} {R' : zR} {I' : zI} {J' : zJ} (h245 : zin (x3 + 1) Ls) (hc : zEv (zXs Ls xs) d zm_160 (0, [some (.ref 215), some (.int (xs (x3 + 1).toNatClampNeg))], [], (zS0, R, I, J)) (some (.int w), (zS0, R', I', J'))) (k1 : zEv (zXs Ls xs) (d + 1) zm_285 (249, [some (.ref (zro + 0)), some (.ref 0), some (.ref 215), some (.int x3)], [.int w, .int s0], (zS0, R', I', J')) r) : zEv (zXs Ls xs) (d + 1) zm_285 (240, [some (.ref (zro + 0)), some (.ref 0), some (.ref 215), some (.int x3)], [.int s0], (zS0, R, I, J)) r := by
  refine zEv_k 5 (f' := (245, [some (.ref (zro + 0)), some (.ref 0), some (.ref 215), some (.int x3)], [.int (x3 + 1), .ref (zro + 0), .ref 215, .int s0], (zS0, R, I, J))) rfl ?_
  refine zEv_iax (a := 0) rfl rfl h245 ?_
  exact zEv_c (fun _ => rfl) rfl hc rfl rfl k1
set_option maxRecDepth 50000 in
theorem b_285_249 {Ls : Nat} {xs : Nat → Int32} {d : Nat} {R : zR} {I : zI} {J : zJ} {r : zA} {x3 : Int32} {s0 : Int32} {s1 : Int32} (k1 : s0 = s1 → zEv (zXs Ls xs) d zm_285 (1415, [some (.ref (zro + 0)), some (.ref 0), some (.ref 215), some (.int x3)], [], (zS0, R, I, J)) r) (k2 : ¬ (s0 = s1) → zEv (zXs Ls xs) d zm_285 (252, [some (.ref (zro + 0)), some (.ref 0), some (.ref 215), some (.int x3)], [], (zS0, R, I, J)) r) : zEv (zXs Ls xs) d zm_285 (249, [some (.ref (zro + 0)), some (.ref 0), some (.ref 215), some (.int x3)], [.int s1, .int s0], (zS0, R, I, J)) r := by
  refine zEv_k 1 (f' := (if s0 = s1 then 1415 else 252, [some (.ref (zro + 0)), some (.ref 0), some (.ref 215), some (.int x3)], [], (zS0, R, I, J))) rfl ?_
  exact zEv_if k1 k2
set_option maxRecDepth 50000 in
theorem b_285_252 {Ls : Nat} {xs : Nat → Int32} {d : Nat} {R : zR} {I : zI} {J : zJ} {x3 : Int32} : zEv (zXs Ls xs) d zm_285 (252, [some (.ref (zro + 0)), some (.ref 0), some (.ref 215), some (.int x3)], [], (zS0, R, I, J)) (some (.int 0), (zS0, R, I, J)) := by
  refine zEv_k 1 (f' := (253, [some (.ref (zro + 0)), some (.ref 0), some (.ref 215), some (.int x3)], [.int 0], (zS0, R, I, J))) rfl ?_
  exact zEv_r rfl
set_option maxRecDepth 50000 in
theorem b_285_254 {Ls : Nat} {xs : Nat → Int32} {d : Nat} {R : zR} {I : zI} {J : zJ} {r : zA} {x3 : Int32} {w : Int32} {R' : zR} {I' : zI} {J' : zJ} (h259 : zin (x3 + 1) Ls) (h264 : zin (x3 + 2) Ls) (hc : zEv (zXs Ls xs) d zm_114 (0, [some (.ref 0), some (.int (xs (x3 + 1).toNatClampNeg)), some (.int (xs (x3 + 2).toNatClampNeg)), none, none, none], [], (zS0, R, I, J)) (some (.int w), (zS0, R', I', J'))) (k1 : zEv (zXs Ls xs) (d + 1) zm_285 (268, [some (.ref (zro + 0)), some (.ref 0), some (.ref 215), some (.int x3)], [.int w], (zS0, R', I', J')) r) : zEv (zXs Ls xs) (d + 1) zm_285 (254, [some (.ref (zro + 0)), some (.ref 0), some (.ref 215), some (.int x3)], [], (zS0, R, I, J)) r := by
  refine zEv_k 5 (f' := (259, [some (.ref (zro + 0)), some (.ref 0), some (.ref 215), some (.int x3)], [.int (x3 + 1), .ref (zro + 0), .ref 0], (zS0, R, I, J))) rfl ?_
  refine zEv_iax (a := 0) rfl rfl h259 ?_
  refine zEv_k 4 (f' := (264, [some (.ref (zro + 0)), some (.ref 0), some (.ref 215), some (.int x3)], [.int (x3 + 2), .ref (zro + 0), .int (xs (x3 + 1).toNatClampNeg), .ref 0], (zS0, R, I, J))) rfl ?_
  refine zEv_iax (a := 0) rfl rfl h264 ?_
  exact zEv_c (fun _ => rfl) rfl hc rfl rfl k1
set_option maxRecDepth 50000 in
theorem b_285_268 {Ls : Nat} {xs : Nat → Int32} {d : Nat} {R : zR} {I : zI} {J : zJ} {r : zA} {x3 : Int32} {s0 : Int32} {w : Int32} {R' : zR} {I' : zI} {J' : zJ} (h273 : zin (x3 + 1) Ls) (h278 : zin (x3 + 2) Ls) (hc : zEv (zXs Ls xs) d zm_177 (0, [some (.ref 215), some (.int (xs (x3 + 1).toNatClampNeg)), some (.int (xs (x3 + 2).toNatClampNeg)), none], [], (zS0, R, I, J)) (some (.int w), (zS0, R', I', J'))) (k1 : zEv (zXs Ls xs) (d + 1) zm_285 (282, [some (.ref (zro + 0)), some (.ref 0), some (.ref 215), some (.int x3)], [.int w, .int s0], (zS0, R', I', J')) r) : zEv (zXs Ls xs) (d + 1) zm_285 (268, [some (.ref (zro + 0)), some (.ref 0), some (.ref 215), some (.int x3)], [.int s0], (zS0, R, I, J)) r := by
  refine zEv_k 5 (f' := (273, [some (.ref (zro + 0)), some (.ref 0), some (.ref 215), some (.int x3)], [.int (x3 + 1), .ref (zro + 0), .ref 215, .int s0], (zS0, R, I, J))) rfl ?_
  refine zEv_iax (a := 0) rfl rfl h273 ?_
  refine zEv_k 4 (f' := (278, [some (.ref (zro + 0)), some (.ref 0), some (.ref 215), some (.int x3)], [.int (x3 + 2), .ref (zro + 0), .int (xs (x3 + 1).toNatClampNeg), .ref 215, .int s0], (zS0, R, I, J))) rfl ?_
  refine zEv_iax (a := 0) rfl rfl h278 ?_
  exact zEv_c (fun _ => rfl) rfl hc rfl rfl k1
set_option maxRecDepth 50000 in
theorem b_285_282 {Ls : Nat} {xs : Nat → Int32} {d : Nat} {R : zR} {I : zI} {J : zJ} {r : zA} {x3 : Int32} {s0 : Int32} {s1 : Int32} (k1 : s0 = s1 → zEv (zXs Ls xs) d zm_285 (1415, [some (.ref (zro + 0)), some (.ref 0), some (.ref 215), some (.int x3)], [], (zS0, R, I, J)) r) (k2 : ¬ (s0 = s1) → zEv (zXs Ls xs) d zm_285 (285, [some (.ref (zro + 0)), some (.ref 0), some (.ref 215), some (.int x3)], [], (zS0, R, I, J)) r) : zEv (zXs Ls xs) d zm_285 (282, [some (.ref (zro + 0)), some (.ref 0), some (.ref 215), some (.int x3)], [.int s1, .int s0], (zS0, R, I, J)) r := by
  refine zEv_k 1 (f' := (if s0 = s1 then 1415 else 285, [some (.ref (zro + 0)), some (.ref 0), some (.ref 215), some (.int x3)], [], (zS0, R, I, J))) rfl ?_
  exact zEv_if k1 k2
set_option maxRecDepth 50000 in
theorem b_285_285 {Ls : Nat} {xs : Nat → Int32} {d : Nat} {R : zR} {I : zI} {J : zJ} {x3 : Int32} : zEv (zXs Ls xs) d zm_285 (285, [some (.ref (zro + 0)), some (.ref 0), some (.ref 215), some (.int x3)], [], (zS0, R, I, J)) (some (.int 0), (zS0, R, I, J)) := by
  refine zEv_k 1 (f' := (286, [some (.ref (zro + 0)), some (.ref 0), some (.ref 215), some (.int x3)], [.int 0], (zS0, R, I, J))) rfl ?_
  exact zEv_r rfl
set_option maxRecDepth 50000 in
theorem b_285_287 {Ls : Nat} {xs : Nat → Int32} {d : Nat} {R : zR} {I : zI} {J : zJ} {r : zA} {x3 : Int32} {w : Int32} {R' : zR} {I' : zI} {J' : zJ} (h292 : zin (x3 + 1) Ls) (hc : zEv (zXs Ls xs) d zm_115 (0, [some (.ref 0), some (.int (xs (x3 + 1).toNatClampNeg))], [], (zS0, R, I, J)) (some (.int w), (zS0, R', I', J'))) (k1 : zEv (zXs Ls xs) (d + 1) zm_285 (296, [some (.ref (zro + 0)), some (.ref 0), some (.ref 215), some (.int x3)], [.int w], (zS0, R', I', J')) r) : zEv (zXs Ls xs) (d + 1) zm_285 (287, [some (.ref (zro + 0)), some (.ref 0), some (.ref 215), some (.int x3)], [], (zS0, R, I, J)) r := by
  refine zEv_k 5 (f' := (292, [some (.ref (zro + 0)), some (.ref 0), some (.ref 215), some (.int x3)], [.int (x3 + 1), .ref (zro + 0), .ref 0], (zS0, R, I, J))) rfl ?_
  refine zEv_iax (a := 0) rfl rfl h292 ?_
  exact zEv_c (fun _ => rfl) rfl hc rfl rfl k1
set_option maxRecDepth 50000 in
theorem b_285_296 {Ls : Nat} {xs : Nat → Int32} {d : Nat} {R : zR} {I : zI} {J : zJ} {r : zA} {x3 : Int32} {s0 : Int32} {w : Int32} {R' : zR} {I' : zI} {J' : zJ} (h301 : zin (x3 + 1) Ls) (hc : zEv (zXs Ls xs) d zm_178 (0, [some (.ref 215), some (.int (xs (x3 + 1).toNatClampNeg))], [], (zS0, R, I, J)) (some (.int w), (zS0, R', I', J'))) (k1 : zEv (zXs Ls xs) (d + 1) zm_285 (305, [some (.ref (zro + 0)), some (.ref 0), some (.ref 215), some (.int x3)], [.int w, .int s0], (zS0, R', I', J')) r) : zEv (zXs Ls xs) (d + 1) zm_285 (296, [some (.ref (zro + 0)), some (.ref 0), some (.ref 215), some (.int x3)], [.int s0], (zS0, R, I, J)) r := by
  refine zEv_k 5 (f' := (301, [some (.ref (zro + 0)), some (.ref 0), some (.ref 215), some (.int x3)], [.int (x3 + 1), .ref (zro + 0), .ref 215, .int s0], (zS0, R, I, J))) rfl ?_
  refine zEv_iax (a := 0) rfl rfl h301 ?_
  exact zEv_c (fun _ => rfl) rfl hc rfl rfl k1
set_option maxRecDepth 50000 in
theorem b_285_305 {Ls : Nat} {xs : Nat → Int32} {d : Nat} {R : zR} {I : zI} {J : zJ} {r : zA} {x3 : Int32} {s0 : Int32} {s1 : Int32} (k1 : s0 = s1 → zEv (zXs Ls xs) d zm_285 (1415, [some (.ref (zro + 0)), some (.ref 0), some (.ref 215), some (.int x3)], [], (zS0, R, I, J)) r) (k2 : ¬ (s0 = s1) → zEv (zXs Ls xs) d zm_285 (308, [some (.ref (zro + 0)), some (.ref 0), some (.ref 215), some (.int x3)], [], (zS0, R, I, J)) r) : zEv (zXs Ls xs) d zm_285 (305, [some (.ref (zro + 0)), some (.ref 0), some (.ref 215), some (.int x3)], [.int s1, .int s0], (zS0, R, I, J)) r := by
  refine zEv_k 1 (f' := (if s0 = s1 then 1415 else 308, [some (.ref (zro + 0)), some (.ref 0), some (.ref 215), some (.int x3)], [], (zS0, R, I, J))) rfl ?_
  exact zEv_if k1 k2
set_option maxRecDepth 50000 in
theorem b_285_308 {Ls : Nat} {xs : Nat → Int32} {d : Nat} {R : zR} {I : zI} {J : zJ} {x3 : Int32} : zEv (zXs Ls xs) d zm_285 (308, [some (.ref (zro + 0)), some (.ref 0), some (.ref 215), some (.int x3)], [], (zS0, R, I, J)) (some (.int 0), (zS0, R, I, J)) := by
  refine zEv_k 1 (f' := (309, [some (.ref (zro + 0)), some (.ref 0), some (.ref 215), some (.int x3)], [.int 0], (zS0, R, I, J))) rfl ?_
  exact zEv_r rfl
set_option maxRecDepth 50000 in
theorem b_285_310 {Ls : Nat} {xs : Nat → Int32} {d : Nat} {R : zR} {I : zI} {J : zJ} {r : zA} {x3 : Int32} {w : Int32} {R' : zR} {I' : zI} {J' : zJ} (h315 : zin (x3 + 1) Ls) (h320 : zin (x3 + 2) Ls) (hc : zEv (zXs Ls xs) d zm_116 (0, [some (.ref 0), some (.int (xs (x3 + 1).toNatClampNeg)), some (.int (xs (x3 + 2).toNatClampNeg)), none, none], [], (zS0, R, I, J)) (some (.int w), (zS0, R', I', J'))) (k1 : zEv (zXs Ls xs) (d + 1) zm_285 (324, [some (.ref (zro + 0)), some (.ref 0), some (.ref 215), some (.int x3)], [.int w], (zS0, R', I', J')) r) : zEv (zXs Ls xs) (d + 1) zm_285 (310, [some (.ref (zro + 0)), some (.ref 0), some (.ref 215), some (.int x3)], [], (zS0, R, I, J)) r := by
  refine zEv_k 5 (f' := (315, [some (.ref (zro + 0)), some (.ref 0), some (.ref 215), some (.int x3)], [.int (x3 + 1), .ref (zro + 0), .ref 0], (zS0, R, I, J))) rfl ?_
  refine zEv_iax (a := 0) rfl rfl h315 ?_
  refine zEv_k 4 (f' := (320, [some (.ref (zro + 0)), some (.ref 0), some (.ref 215), some (.int x3)], [.int (x3 + 2), .ref (zro + 0), .int (xs (x3 + 1).toNatClampNeg), .ref 0], (zS0, R, I, J))) rfl ?_
  refine zEv_iax (a := 0) rfl rfl h320 ?_
  exact zEv_c (fun _ => rfl) rfl hc rfl rfl k1
set_option maxRecDepth 50000 in
theorem b_285_324 {Ls : Nat} {xs : Nat → Int32} {d : Nat} {R : zR} {I : zI} {J : zJ} {r : zA} {x3 : Int32} {s0 : Int32} {w : Int32} {R' : zR} {I' : zI} {J' : zJ} (h329 : zin (x3 + 1) Ls) (h334 : zin (x3 + 2) Ls) (hc : zEv (zXs Ls xs) d zm_188 (0, [some (.ref 215), some (.int (xs (x3 + 1).toNatClampNeg)), some (.int (xs (x3 + 2).toNatClampNeg)), none], [], (zS0, R, I, J)) (some (.int w), (zS0, R', I', J'))) (k1 : zEv (zXs Ls xs) (d + 1) zm_285 (338, [some (.ref (zro + 0)), some (.ref 0), some (.ref 215), some (.int x3)], [.int w, .int s0], (zS0, R', I', J')) r) : zEv (zXs Ls xs) (d + 1) zm_285 (324, [some (.ref (zro + 0)), some (.ref 0), some (.ref 215), some (.int x3)], [.int s0], (zS0, R, I, J)) r := by
  refine zEv_k 5 (f' := (329, [some (.ref (zro + 0)), some (.ref 0), some (.ref 215), some (.int x3)], [.int (x3 + 1), .ref (zro + 0), .ref 215, .int s0], (zS0, R, I, J))) rfl ?_
  refine zEv_iax (a := 0) rfl rfl h329 ?_
  refine zEv_k 4 (f' := (334, [some (.ref (zro + 0)), some (.ref 0), some (.ref 215), some (.int x3)], [.int (x3 + 2), .ref (zro + 0), .int (xs (x3 + 1).toNatClampNeg), .ref 215, .int s0], (zS0, R, I, J))) rfl ?_
  refine zEv_iax (a := 0) rfl rfl h334 ?_
  exact zEv_c (fun _ => rfl) rfl hc rfl rfl k1
set_option maxRecDepth 50000 in
theorem b_285_338 {Ls : Nat} {xs : Nat → Int32} {d : Nat} {R : zR} {I : zI} {J : zJ} {r : zA} {x3 : Int32} {s0 : Int32} {s1 : Int32} (k1 : s0 = s1 → zEv (zXs Ls xs) d zm_285 (1415, [some (.ref (zro + 0)), some (.ref 0), some (.ref 215), some (.int x3)], [], (zS0, R, I, J)) r) (k2 : ¬ (s0 = s1) → zEv (zXs Ls xs) d zm_285 (341, [some (.ref (zro + 0)), some (.ref 0), some (.ref 215), some (.int x3)], [], (zS0, R, I, J)) r) : zEv (zXs Ls xs) d zm_285 (338, [some (.ref (zro + 0)), some (.ref 0), some (.ref 215), some (.int x3)], [.int s1, .int s0], (zS0, R, I, J)) r := by
  refine zEv_k 1 (f' := (if s0 = s1 then 1415 else 341, [some (.ref (zro + 0)), some (.ref 0), some (.ref 215), some (.int x3)], [], (zS0, R, I, J))) rfl ?_
  exact zEv_if k1 k2
set_option maxRecDepth 50000 in
theorem b_285_341 {Ls : Nat} {xs : Nat → Int32} {d : Nat} {R : zR} {I : zI} {J : zJ} {x3 : Int32} : zEv (zXs Ls xs) d zm_285 (341, [some (.ref (zro + 0)), some (.ref 0), some (.ref 215), some (.int x3)], [], (zS0, R, I, J)) (some (.int 0), (zS0, R, I, J)) := by
  refine zEv_k 1 (f' := (342, [some (.ref (zro + 0)), some (.ref 0), some (.ref 215), some (.int x3)], [.int 0], (zS0, R, I, J))) rfl ?_
  exact zEv_r rfl
set_option maxRecDepth 50000 in
theorem b_285_343 {Ls : Nat} {xs : Nat → Int32} {d : Nat} {R : zR} {I : zI} {J : zJ} {r : zA} {x3 : Int32} {w : Int32} {R' : zR} {I' : zI} {J' : zJ} (h348 : zin (x3 + 1) Ls) (h353 : zin (x3 + 2) Ls) (h358 : zin (x3 + 3) Ls) (hc : zEv (zXs Ls xs) d zm_117 (0, [some (.ref 0), some (.int (xs (x3 + 1).toNatClampNeg)), some (.int (xs (x3 + 2).toNatClampNeg)), some (.int (xs (x3 + 3).toNatClampNeg)), none], [], (zS0, R, I, J)) (some (.int w), (zS0, R', I', J'))) (k1 : zEv (zXs Ls xs) (d + 1) zm_285 (362, [some (.ref (zro + 0)), some (.ref 0), some (.ref 215), some (.int x3)], [.int w], (zS0, R', I', J')) r) : zEv (zXs Ls xs) (d + 1) zm_285 (343, [some (.ref (zro + 0)), some (.ref 0), some (.ref 215), some (.int x3)], [], (zS0, R, I, J)) r := by
  refine zEv_k 5 (f' := (348, [some (.ref (zro + 0)), some (.ref 0), some (.ref 215), some (.int x3)], [.int (x3 + 1), .ref (zro + 0), .ref 0], (zS0, R, I, J))) rfl ?_
  refine zEv_iax (a := 0) rfl rfl h348 ?_
  refine zEv_k 4 (f' := (353, [some (.ref (zro + 0)), some (.ref 0), some (.ref 215), some (.int x3)], [.int (x3 + 2), .ref (zro + 0), .int (xs (x3 + 1).toNatClampNeg), .ref 0], (zS0, R, I, J))) rfl ?_
  refine zEv_iax (a := 0) rfl rfl h353 ?_
  refine zEv_k 4 (f' := (358, [some (.ref (zro + 0)), some (.ref 0), some (.ref 215), some (.int x3)], [.int (x3 + 3), .ref (zro + 0), .int (xs (x3 + 2).toNatClampNeg), .int (xs (x3 + 1).toNatClampNeg), .ref 0], (zS0, R, I, J))) rfl ?_
  refine zEv_iax (a := 0) rfl rfl h358 ?_
  exact zEv_c (fun _ => rfl) rfl hc rfl rfl k1
set_option maxRecDepth 50000 in
theorem b_285_362 {Ls : Nat} {xs : Nat → Int32} {d : Nat} {R : zR} {I : zI} {J : zJ} {r : zA} {x3 : Int32} {s0 : Int32} {w : Int32} {R' : zR} {I' : zI} {J' : zJ} (h367 : zin (x3 + 1) Ls) (h372 : zin (x3 + 2) Ls) (h377 : zin (x3 + 3) Ls) (hc : zEv (zXs Ls xs) d zm_192 (0, [some (.ref 215), some (.int (xs (x3 + 1).toNatClampNeg)), some (.int (xs (x3 + 2).toNatClampNeg)), some (.int (xs (x3 + 3).toNatClampNeg))], [], (zS0, R, I, J)) (some (.int w), (zS0, R', I', J'))) (k1 : zEv (zXs Ls xs) (d + 1) zm_285 (381, [some (.ref (zro + 0)), some (.ref 0), some (.ref 215), some (.int x3)], [.int w, .int s0], (zS0, R', I', J')) r) : zEv (zXs Ls xs) (d + 1) zm_285 (362, [some (.ref (zro + 0)), some (.ref 0), some (.ref 215), some (.int x3)], [.int s0], (zS0, R, I, J)) r := by
  refine zEv_k 5 (f' := (367, [some (.ref (zro + 0)), some (.ref 0), some (.ref 215), some (.int x3)], [.int (x3 + 1), .ref (zro + 0), .ref 215, .int s0], (zS0, R, I, J))) rfl ?_
  refine zEv_iax (a := 0) rfl rfl h367 ?_
  refine zEv_k 4 (f' := (372, [some (.ref (zro + 0)), some (.ref 0), some (.ref 215), some (.int x3)], [.int (x3 + 2), .ref (zro + 0), .int (xs (x3 + 1).toNatClampNeg), .ref 215, .int s0], (zS0, R, I, J))) rfl ?_
  refine zEv_iax (a := 0) rfl rfl h372 ?_
  refine zEv_k 4 (f' := (377, [some (.ref (zro + 0)), some (.ref 0), some (.ref 215), some (.int x3)], [.int (x3 + 3), .ref (zro + 0), .int (xs (x3 + 2).toNatClampNeg), .int (xs (x3 + 1).toNatClampNeg), .ref 215, .int s0], (zS0, R, I, J))) rfl ?_
  refine zEv_iax (a := 0) rfl rfl h377 ?_
  exact zEv_c (fun _ => rfl) rfl hc rfl rfl k1
set_option maxRecDepth 50000 in
theorem b_285_381 {Ls : Nat} {xs : Nat → Int32} {d : Nat} {R : zR} {I : zI} {J : zJ} {r : zA} {x3 : Int32} {s0 : Int32} {s1 : Int32} (k1 : s0 = s1 → zEv (zXs Ls xs) d zm_285 (1415, [some (.ref (zro + 0)), some (.ref 0), some (.ref 215), some (.int x3)], [], (zS0, R, I, J)) r) (k2 : ¬ (s0 = s1) → zEv (zXs Ls xs) d zm_285 (384, [some (.ref (zro + 0)), some (.ref 0), some (.ref 215), some (.int x3)], [], (zS0, R, I, J)) r) : zEv (zXs Ls xs) d zm_285 (381, [some (.ref (zro + 0)), some (.ref 0), some (.ref 215), some (.int x3)], [.int s1, .int s0], (zS0, R, I, J)) r := by
  refine zEv_k 1 (f' := (if s0 = s1 then 1415 else 384, [some (.ref (zro + 0)), some (.ref 0), some (.ref 215), some (.int x3)], [], (zS0, R, I, J))) rfl ?_
  exact zEv_if k1 k2
set_option maxRecDepth 50000 in
theorem b_285_384 {Ls : Nat} {xs : Nat → Int32} {d : Nat} {R : zR} {I : zI} {J : zJ} {x3 : Int32} : zEv (zXs Ls xs) d zm_285 (384, [some (.ref (zro + 0)), some (.ref 0), some (.ref 215), some (.int x3)], [], (zS0, R, I, J)) (some (.int 0), (zS0, R, I, J)) := by
  refine zEv_k 1 (f' := (385, [some (.ref (zro + 0)), some (.ref 0), some (.ref 215), some (.int x3)], [.int 0], (zS0, R, I, J))) rfl ?_
  exact zEv_r rfl
set_option maxRecDepth 50000 in
theorem b_285_386 {Ls : Nat} {xs : Nat → Int32} {d : Nat} {R : zR} {I : zI} {J : zJ} {r : zA} {x3 : Int32} {w : Int32} {R' : zR} {I' : zI} {J' : zJ} (h391 : zin (x3 + 1) Ls) (h396 : zin (x3 + 2) Ls) (hc : zEv (zXs Ls xs) d zm_118 (0, [some (.ref 0), some (.int (xs (x3 + 1).toNatClampNeg)), some (.int (xs (x3 + 2).toNatClampNeg)), none, none], [], (zS0, R, I, J)) (some (.int w), (zS0, R', I', J'))) (k1 : zEv (zXs Ls xs) (d + 1) zm_285 (400, [some (.ref (zro + 0)), some (.ref 0), some (.ref 215), some (.int x3)], [.int w], (zS0, R', I', J')) r) : zEv (zXs Ls xs) (d + 1) zm_285 (386, [some (.ref (zro + 0)), some (.ref 0), some (.ref 215), some (.int x3)], [], (zS0, R, I, J)) r := by
  refine zEv_k 5 (f' := (391, [some (.ref (zro + 0)), some (.ref 0), some (.ref 215), some (.int x3)], [.int (x3 + 1), .ref (zro + 0), .ref 0], (zS0, R, I, J))) rfl ?_
  refine zEv_iax (a := 0) rfl rfl h391 ?_
  refine zEv_k 4 (f' := (396, [some (.ref (zro + 0)), some (.ref 0), some (.ref 215), some (.int x3)], [.int (x3 + 2), .ref (zro + 0), .int (xs (x3 + 1).toNatClampNeg), .ref 0], (zS0, R, I, J))) rfl ?_
  refine zEv_iax (a := 0) rfl rfl h396 ?_
  exact zEv_c (fun _ => rfl) rfl hc rfl rfl k1
set_option maxRecDepth 50000 in
theorem b_285_400 {Ls : Nat} {xs : Nat → Int32} {d : Nat} {R : zR} {I : zI} {J : zJ} {r : zA} {x3 : Int32} {s0 : Int32} {w : Int32} {R' : zR} {I' : zI} {J' : zJ} (h405 : zin (x3 + 1) Ls) (h410 : zin (x3 + 2) Ls) (hc : zEv (zXs Ls xs) d zm_198 (0, [some (.ref 215), some (.int (xs (x3 + 1).toNatClampNeg)), some (.int (xs (x3 + 2).toNatClampNeg))], [], (zS0, R, I, J)) (some (.int w), (zS0, R', I', J'))) (k1 : zEv (zXs Ls xs) (d + 1) zm_285 (414, [some (.ref (zro + 0)), some (.ref 0), some (.ref 215), some (.int x3)], [.int w, .int s0], (zS0, R', I', J')) r) : zEv (zXs Ls xs) (d + 1) zm_285 (400, [some (.ref (zro + 0)), some (.ref 0), some (.ref 215), some (.int x3)], [.int s0], (zS0, R, I, J)) r := by
  refine zEv_k 5 (f' := (405, [some (.ref (zro + 0)), some (.ref 0), some (.ref 215), some (.int x3)], [.int (x3 + 1), .ref (zro + 0), .ref 215, .int s0], (zS0, R, I, J))) rfl ?_
  refine zEv_iax (a := 0) rfl rfl h405 ?_
  refine zEv_k 4 (f' := (410, [some (.ref (zro + 0)), some (.ref 0), some (.ref 215), some (.int x3)], [.int (x3 + 2), .ref (zro + 0), .int (xs (x3 + 1).toNatClampNeg), .ref 215, .int s0], (zS0, R, I, J))) rfl ?_
  refine zEv_iax (a := 0) rfl rfl h410 ?_
  exact zEv_c (fun _ => rfl) rfl hc rfl rfl k1
set_option maxRecDepth 50000 in
theorem b_285_414 {Ls : Nat} {xs : Nat → Int32} {d : Nat} {R : zR} {I : zI} {J : zJ} {r : zA} {x3 : Int32} {s0 : Int32} {s1 : Int32} (k1 : s0 = s1 → zEv (zXs Ls xs) d zm_285 (1415, [some (.ref (zro + 0)), some (.ref 0), some (.ref 215), some (.int x3)], [], (zS0, R, I, J)) r) (k2 : ¬ (s0 = s1) → zEv (zXs Ls xs) d zm_285 (417, [some (.ref (zro + 0)), some (.ref 0), some (.ref 215), some (.int x3)], [], (zS0, R, I, J)) r) : zEv (zXs Ls xs) d zm_285 (414, [some (.ref (zro + 0)), some (.ref 0), some (.ref 215), some (.int x3)], [.int s1, .int s0], (zS0, R, I, J)) r := by
  refine zEv_k 1 (f' := (if s0 = s1 then 1415 else 417, [some (.ref (zro + 0)), some (.ref 0), some (.ref 215), some (.int x3)], [], (zS0, R, I, J))) rfl ?_
  exact zEv_if k1 k2
set_option maxRecDepth 50000 in
theorem b_285_417 {Ls : Nat} {xs : Nat → Int32} {d : Nat} {R : zR} {I : zI} {J : zJ} {x3 : Int32} : zEv (zXs Ls xs) d zm_285 (417, [some (.ref (zro + 0)), some (.ref 0), some (.ref 215), some (.int x3)], [], (zS0, R, I, J)) (some (.int 0), (zS0, R, I, J)) := by
  refine zEv_k 1 (f' := (418, [some (.ref (zro + 0)), some (.ref 0), some (.ref 215), some (.int x3)], [.int 0], (zS0, R, I, J))) rfl ?_
  exact zEv_r rfl
set_option maxRecDepth 50000 in
theorem b_285_419 {Ls : Nat} {xs : Nat → Int32} {d : Nat} {R : zR} {I : zI} {J : zJ} {r : zA} {x3 : Int32} {w : Int32} {R' : zR} {I' : zI} {J' : zJ} (h424 : zin (x3 + 1) Ls) (h429 : zin (x3 + 2) Ls) (h434 : zin (x3 + 3) Ls) (h439 : zin (x3 + 4) Ls) (hc : zEv (zXs Ls xs) d zm_119 (0, [some (.ref 0), some (.int (xs (x3 + 1).toNatClampNeg)), some (.int (xs (x3 + 2).toNatClampNeg)), some (.int (xs (x3 + 3).toNatClampNeg)), some (.int (xs (x3 + 4).toNatClampNeg)), none, none], [], (zS0, R, I, J)) (some (.int w), (zS0, R', I', J'))) (k1 : zEv (zXs Ls xs) (d + 1) zm_285 (443, [some (.ref (zro + 0)), some (.ref 0), some (.ref 215), some (.int x3)], [.int w], (zS0, R', I', J')) r) : zEv (zXs Ls xs) (d + 1) zm_285 (419, [some (.ref (zro + 0)), some (.ref 0), some (.ref 215), some (.int x3)], [], (zS0, R, I, J)) r := by
  refine zEv_k 5 (f' := (424, [some (.ref (zro + 0)), some (.ref 0), some (.ref 215), some (.int x3)], [.int (x3 + 1), .ref (zro + 0), .ref 0], (zS0, R, I, J))) rfl ?_
  refine zEv_iax (a := 0) rfl rfl h424 ?_
  refine zEv_k 4 (f' := (429, [some (.ref (zro + 0)), some (.ref 0), some (.ref 215), some (.int x3)], [.int (x3 + 2), .ref (zro + 0), .int (xs (x3 + 1).toNatClampNeg), .ref 0], (zS0, R, I, J))) rfl ?_
  refine zEv_iax (a := 0) rfl rfl h429 ?_
  refine zEv_k 4 (f' := (434, [some (.ref (zro + 0)), some (.ref 0), some (.ref 215), some (.int x3)], [.int (x3 + 3), .ref (zro + 0), .int (xs (x3 + 2).toNatClampNeg), .int (xs (x3 + 1).toNatClampNeg), .ref 0], (zS0, R, I, J))) rfl ?_
  refine zEv_iax (a := 0) rfl rfl h434 ?_
  refine zEv_k 4 (f' := (439, [some (.ref (zro + 0)), some (.ref 0), some (.ref 215), some (.int x3)], [.int (x3 + 4), .ref (zro + 0), .int (xs (x3 + 3).toNatClampNeg), .int (xs (x3 + 2).toNatClampNeg), .int (xs (x3 + 1).toNatClampNeg), .ref 0], (zS0, R, I, J))) rfl ?_
  refine zEv_iax (a := 0) rfl rfl h439 ?_
  exact zEv_c (fun _ => rfl) rfl hc rfl rfl k1
set_option maxRecDepth 50000 in
theorem b_285_443 {Ls : Nat} {xs : Nat → Int32} {d : Nat} {R : zR} {I : zI} {J : zJ} {r : zA} {x3 : Int32} {s0 : Int32} {w : Int32} {R' : zR} {I' : zI} {J' : zJ} (h448 : zin (x3 + 1) Ls) (h453 : zin (x3 + 2) Ls) (h458 : zin (x3 + 3) Ls) (h463 : zin (x3 + 4) Ls) (hc : zEv (zXs Ls xs) d zm_200 (0, [some (.ref 215), some (.int (xs (x3 + 1).toNatClampNeg)), some (.int (xs (x3 + 2).toNatClampNeg)), some (.int (xs (x3 + 3).toNatClampNeg)), some (.int (xs (x3 + 4).toNatClampNeg))], [], (zS0, R, I, J)) (some (.int w), (zS0, R', I', J'))) (k1 : zEv (zXs Ls xs) (d + 1) zm_285 (467, [some (.ref (zro + 0)), some (.ref 0), some (.ref 215), some (.int x3)], [.int w, .int s0], (zS0, R', I', J')) r) : zEv (zXs Ls xs) (d + 1) zm_285 (443, [some (.ref (zro + 0)), some (.ref 0), some (.ref 215), some (.int x3)], [.int s0], (zS0, R, I, J)) r := by
  refine zEv_k 5 (f' := (448, [some (.ref (zro + 0)), some (.ref 0), some (.ref 215), some (.int x3)], [.int (x3 + 1), .ref (zro + 0), .ref 215, .int s0], (zS0, R, I, J))) rfl ?_
  refine zEv_iax (a := 0) rfl rfl h448 ?_
  refine zEv_k 4 (f' := (453, [some (.ref (zro + 0)), some (.ref 0), some (.ref 215), some (.int x3)], [.int (x3 + 2), .ref (zro + 0), .int (xs (x3 + 1).toNatClampNeg), .ref 215, .int s0], (zS0, R, I, J))) rfl ?_
  refine zEv_iax (a := 0) rfl rfl h453 ?_
  refine zEv_k 4 (f' := (458, [some (.ref (zro + 0)), some (.ref 0), some (.ref 215), some (.int x3)], [.int (x3 + 3), .ref (zro + 0), .int (xs (x3 + 2).toNatClampNeg), .int (xs (x3 + 1).toNatClampNeg), .ref 215, .int s0], (zS0, R, I, J))) rfl ?_
  refine zEv_iax (a := 0) rfl rfl h458 ?_
  refine zEv_k 4 (f' := (463, [some (.ref (zro + 0)), some (.ref 0), some (.ref 215), some (.int x3)], [.int (x3 + 4), .ref (zro + 0), .int (xs (x3 + 3).toNatClampNeg), .int (xs (x3 + 2).toNatClampNeg), .int (xs (x3 + 1).toNatClampNeg), .ref 215, .int s0], (zS0, R, I, J))) rfl ?_
  refine zEv_iax (a := 0) rfl rfl h463 ?_
  exact zEv_c (fun _ => rfl) rfl hc rfl rfl k1
set_option maxRecDepth 50000 in
theorem b_285_467 {Ls : Nat} {xs : Nat → Int32} {d : Nat} {R : zR} {I : zI} {J : zJ} {r : zA} {x3 : Int32} {s0 : Int32} {s1 : Int32} (k1 : s0 = s1 → zEv (zXs Ls xs) d zm_285 (1415, [some (.ref (zro + 0)), some (.ref 0), some (.ref 215), some (.int x3)], [], (zS0, R, I, J)) r) (k2 : ¬ (s0 = s1) → zEv (zXs Ls xs) d zm_285 (470, [some (.ref (zro + 0)), some (.ref 0), some (.ref 215), some (.int x3)], [], (zS0, R, I, J)) r) : zEv (zXs Ls xs) d zm_285 (467, [some (.ref (zro + 0)), some (.ref 0), some (.ref 215), some (.int x3)], [.int s1, .int s0], (zS0, R, I, J)) r := by
  refine zEv_k 1 (f' := (if s0 = s1 then 1415 else 470, [some (.ref (zro + 0)), some (.ref 0), some (.ref 215), some (.int x3)], [], (zS0, R, I, J))) rfl ?_
  exact zEv_if k1 k2
set_option maxRecDepth 50000 in
theorem b_285_470 {Ls : Nat} {xs : Nat → Int32} {d : Nat} {R : zR} {I : zI} {J : zJ} {x3 : Int32} : zEv (zXs Ls xs) d zm_285 (470, [some (.ref (zro + 0)), some (.ref 0), some (.ref 215), some (.int x3)], [], (zS0, R, I, J)) (some (.int 0), (zS0, R, I, J)) := by
  refine zEv_k 1 (f' := (471, [some (.ref (zro + 0)), some (.ref 0), some (.ref 215), some (.int x3)], [.int 0], (zS0, R, I, J))) rfl ?_
  exact zEv_r rfl
set_option maxRecDepth 50000 in
theorem b_285_472 {Ls : Nat} {xs : Nat → Int32} {d : Nat} {R : zR} {I : zI} {J : zJ} {r : zA} {x3 : Int32} {w : Int32} {R' : zR} {I' : zI} {J' : zJ} (h477 : zin (x3 + 1) Ls) (h482 : zin (x3 + 2) Ls) (hc : zEv (zXs Ls xs) d zm_120 (0, [some (.ref 0), some (.int (xs (x3 + 1).toNatClampNeg)), some (.int (xs (x3 + 2).toNatClampNeg)), none], [], (zS0, R, I, J)) (some (.int w), (zS0, R', I', J'))) (k1 : zEv (zXs Ls xs) (d + 1) zm_285 (486, [some (.ref (zro + 0)), some (.ref 0), some (.ref 215), some (.int x3)], [.int w], (zS0, R', I', J')) r) : zEv (zXs Ls xs) (d + 1) zm_285 (472, [some (.ref (zro + 0)), some (.ref 0), some (.ref 215), some (.int x3)], [], (zS0, R, I, J)) r := by
  refine zEv_k 5 (f' := (477, [some (.ref (zro + 0)), some (.ref 0), some (.ref 215), some (.int x3)], [.int (x3 + 1), .ref (zro + 0), .ref 0], (zS0, R, I, J))) rfl ?_
  refine zEv_iax (a := 0) rfl rfl h477 ?_
  refine zEv_k 4 (f' := (482, [some (.ref (zro + 0)), some (.ref 0), some (.ref 215), some (.int x3)], [.int (x3 + 2), .ref (zro + 0), .int (xs (x3 + 1).toNatClampNeg), .ref 0], (zS0, R, I, J))) rfl ?_
  refine zEv_iax (a := 0) rfl rfl h482 ?_
  exact zEv_c (fun _ => rfl) rfl hc rfl rfl k1
set_option maxRecDepth 50000 in
theorem b_285_486 {Ls : Nat} {xs : Nat → Int32} {d : Nat} {R : zR} {I : zI} {J : zJ} {r : zA} {x3 : Int32} {s0 : Int32} {w : Int32} {R' : zR} {I' : zI} {J' : zJ} (h491 : zin (x3 + 1) Ls) (h496 : zin (x3 + 2) Ls) (hc : zEv (zXs Ls xs) d zm_202 (0, [some (.ref 215), some (.int (xs (x3 + 1).toNatClampNeg)), some (.int (xs (x3 + 2).toNatClampNeg))], [], (zS0, R, I, J)) (some (.int w), (zS0, R', I', J'))) (k1 : zEv (zXs Ls xs) (d + 1) zm_285 (500, [some (.ref (zro + 0)), some (.ref 0), some (.ref 215), some (.int x3)], [.int w, .int s0], (zS0, R', I', J')) r) : zEv (zXs Ls xs) (d + 1) zm_285 (486, [some (.ref (zro + 0)), some (.ref 0), some (.ref 215), some (.int x3)], [.int s0], (zS0, R, I, J)) r := by
  refine zEv_k 5 (f' := (491, [some (.ref (zro + 0)), some (.ref 0), some (.ref 215), some (.int x3)], [.int (x3 + 1), .ref (zro + 0), .ref 215, .int s0], (zS0, R, I, J))) rfl ?_
  refine zEv_iax (a := 0) rfl rfl h491 ?_
  refine zEv_k 4 (f' := (496, [some (.ref (zro + 0)), some (.ref 0), some (.ref 215), some (.int x3)], [.int (x3 + 2), .ref (zro + 0), .int (xs (x3 + 1).toNatClampNeg), .ref 215, .int s0], (zS0, R, I, J))) rfl ?_
  refine zEv_iax (a := 0) rfl rfl h496 ?_
  exact zEv_c (fun _ => rfl) rfl hc rfl rfl k1
set_option maxRecDepth 50000 in
theorem b_285_500 {Ls : Nat} {xs : Nat → Int32} {d : Nat} {R : zR} {I : zI} {J : zJ} {r : zA} {x3 : Int32} {s0 : Int32} {s1 : Int32} (k1 : s0 = s1 → zEv (zXs Ls xs) d zm_285 (1415, [some (.ref (zro + 0)), some (.ref 0), some (.ref 215), some (.int x3)], [], (zS0, R, I, J)) r) (k2 : ¬ (s0 = s1) → zEv (zXs Ls xs) d zm_285 (503, [some (.ref (zro + 0)), some (.ref 0), some (.ref 215), some (.int x3)], [], (zS0, R, I, J)) r) : zEv (zXs Ls xs) d zm_285 (500, [some (.ref (zro + 0)), some (.ref 0), some (.ref 215), some (.int x3)], [.int s1, .int s0], (zS0, R, I, J)) r := by
  refine zEv_k 1 (f' := (if s0 = s1 then 1415 else 503, [some (.ref (zro + 0)), some (.ref 0), some (.ref 215), some (.int x3)], [], (zS0, R, I, J))) rfl ?_
  exact zEv_if k1 k2
set_option maxRecDepth 50000 in
theorem b_285_503 {Ls : Nat} {xs : Nat → Int32} {d : Nat} {R : zR} {I : zI} {J : zJ} {x3 : Int32} : zEv (zXs Ls xs) d zm_285 (503, [some (.ref (zro + 0)), some (.ref 0), some (.ref 215), some (.int x3)], [], (zS0, R, I, J)) (some (.int 0), (zS0, R, I, J)) := by
  refine zEv_k 1 (f' := (504, [some (.ref (zro + 0)), some (.ref 0), some (.ref 215), some (.int x3)], [.int 0], (zS0, R, I, J))) rfl ?_
  exact zEv_r rfl
set_option maxRecDepth 50000 in
theorem b_285_505 {Ls : Nat} {xs : Nat → Int32} {d : Nat} {R : zR} {I : zI} {J : zJ} {r : zA} {x3 : Int32} {w : Int32} {R' : zR} {I' : zI} {J' : zJ} (h510 : zin (x3 + 1) Ls) (h515 : zin (x3 + 2) Ls) (hc : zEv (zXs Ls xs) d zm_121 (0, [some (.ref 0), some (.int (xs (x3 + 1).toNatClampNeg)), some (.int (xs (x3 + 2).toNatClampNeg)), none], [], (zS0, R, I, J)) (some (.int w), (zS0, R', I', J'))) (k1 : zEv (zXs Ls xs) (d + 1) zm_285 (519, [some (.ref (zro + 0)), some (.ref 0), some (.ref 215), some (.int x3)], [.int w], (zS0, R', I', J')) r) : zEv (zXs Ls xs) (d + 1) zm_285 (505, [some (.ref (zro + 0)), some (.ref 0), some (.ref 215), some (.int x3)], [], (zS0, R, I, J)) r := by
  refine zEv_k 5 (f' := (510, [some (.ref (zro + 0)), some (.ref 0), some (.ref 215), some (.int x3)], [.int (x3 + 1), .ref (zro + 0), .ref 0], (zS0, R, I, J))) rfl ?_
  refine zEv_iax (a := 0) rfl rfl h510 ?_
  refine zEv_k 4 (f' := (515, [some (.ref (zro + 0)), some (.ref 0), some (.ref 215), some (.int x3)], [.int (x3 + 2), .ref (zro + 0), .int (xs (x3 + 1).toNatClampNeg), .ref 0], (zS0, R, I, J))) rfl ?_
  refine zEv_iax (a := 0) rfl rfl h515 ?_
  exact zEv_c (fun _ => rfl) rfl hc rfl rfl k1
set_option maxRecDepth 50000 in
theorem b_285_519 {Ls : Nat} {xs : Nat → Int32} {d : Nat} {R : zR} {I : zI} {J : zJ} {r : zA} {x3 : Int32} {s0 : Int32} {w : Int32} {R' : zR} {I' : zI} {J' : zJ} (h524 : zin (x3 + 1) Ls) (h529 : zin (x3 + 2) Ls) (hc : zEv (zXs Ls xs) d zm_207 (0, [some (.ref 215), some (.int (xs (x3 + 1).toNatClampNeg)), some (.int (xs (x3 + 2).toNatClampNeg)), none, none, none, none], [], (zS0, R, I, J)) (some (.int w), (zS0, R', I', J'))) (k1 : zEv (zXs Ls xs) (d + 1) zm_285 (533, [some (.ref (zro + 0)), some (.ref 0), some (.ref 215), some (.int x3)], [.int w, .int s0], (zS0, R', I', J')) r) : zEv (zXs Ls xs) (d + 1) zm_285 (519, [some (.ref (zro + 0)), some (.ref 0), some (.ref 215), some (.int x3)], [.int s0], (zS0, R, I, J)) r := by
  refine zEv_k 5 (f' := (524, [some (.ref (zro + 0)), some (.ref 0), some (.ref 215), some (.int x3)], [.int (x3 + 1), .ref (zro + 0), .ref 215, .int s0], (zS0, R, I, J))) rfl ?_
  refine zEv_iax (a := 0) rfl rfl h524 ?_
  refine zEv_k 4 (f' := (529, [some (.ref (zro + 0)), some (.ref 0), some (.ref 215), some (.int x3)], [.int (x3 + 2), .ref (zro + 0), .int (xs (x3 + 1).toNatClampNeg), .ref 215, .int s0], (zS0, R, I, J))) rfl ?_
  refine zEv_iax (a := 0) rfl rfl h529 ?_
  exact zEv_c (fun _ => rfl) rfl hc rfl rfl k1
set_option maxRecDepth 50000 in
theorem b_285_533 {Ls : Nat} {xs : Nat → Int32} {d : Nat} {R : zR} {I : zI} {J : zJ} {r : zA} {x3 : Int32} {s0 : Int32} {s1 : Int32} (k1 : s0 = s1 → zEv (zXs Ls xs) d zm_285 (1415, [some (.ref (zro + 0)), some (.ref 0), some (.ref 215), some (.int x3)], [], (zS0, R, I, J)) r) (k2 : ¬ (s0 = s1) → zEv (zXs Ls xs) d zm_285 (536, [some (.ref (zro + 0)), some (.ref 0), some (.ref 215), some (.int x3)], [], (zS0, R, I, J)) r) : zEv (zXs Ls xs) d zm_285 (533, [some (.ref (zro + 0)), some (.ref 0), some (.ref 215), some (.int x3)], [.int s1, .int s0], (zS0, R, I, J)) r := by
  refine zEv_k 1 (f' := (if s0 = s1 then 1415 else 536, [some (.ref (zro + 0)), some (.ref 0), some (.ref 215), some (.int x3)], [], (zS0, R, I, J))) rfl ?_
  exact zEv_if k1 k2
set_option maxRecDepth 50000 in
theorem b_285_536 {Ls : Nat} {xs : Nat → Int32} {d : Nat} {R : zR} {I : zI} {J : zJ} {x3 : Int32} : zEv (zXs Ls xs) d zm_285 (536, [some (.ref (zro + 0)), some (.ref 0), some (.ref 215), some (.int x3)], [], (zS0, R, I, J)) (some (.int 0), (zS0, R, I, J)) := by
  refine zEv_k 1 (f' := (537, [some (.ref (zro + 0)), some (.ref 0), some (.ref 215), some (.int x3)], [.int 0], (zS0, R, I, J))) rfl ?_
  exact zEv_r rfl
set_option maxRecDepth 50000 in
theorem b_285_538 {Ls : Nat} {xs : Nat → Int32} {d : Nat} {R : zR} {I : zI} {J : zJ} {r : zA} {x3 : Int32} {w : Int32} {R' : zR} {I' : zI} {J' : zJ} (h543 : zin (x3 + 1) Ls) (h548 : zin (x3 + 2) Ls) (hc : zEv (zXs Ls xs) d zm_122 (0, [some (.ref 0), some (.int (xs (x3 + 1).toNatClampNeg)), some (.int (xs (x3 + 2).toNatClampNeg)), none], [], (zS0, R, I, J)) (some (.int w), (zS0, R', I', J'))) (k1 : zEv (zXs Ls xs) (d + 1) zm_285 (552, [some (.ref (zro + 0)), some (.ref 0), some (.ref 215), some (.int x3)], [.int w], (zS0, R', I', J')) r) : zEv (zXs Ls xs) (d + 1) zm_285 (538, [some (.ref (zro + 0)), some (.ref 0), some (.ref 215), some (.int x3)], [], (zS0, R, I, J)) r := by
  refine zEv_k 5 (f' := (543, [some (.ref (zro + 0)), some (.ref 0), some (.ref 215), some (.int x3)], [.int (x3 + 1), .ref (zro + 0), .ref 0], (zS0, R, I, J))) rfl ?_
  refine zEv_iax (a := 0) rfl rfl h543 ?_
  refine zEv_k 4 (f' := (548, [some (.ref (zro + 0)), some (.ref 0), some (.ref 215), some (.int x3)], [.int (x3 + 2), .ref (zro + 0), .int (xs (x3 + 1).toNatClampNeg), .ref 0], (zS0, R, I, J))) rfl ?_
  refine zEv_iax (a := 0) rfl rfl h548 ?_
  exact zEv_c (fun _ => rfl) rfl hc rfl rfl k1
set_option maxRecDepth 50000 in
theorem b_285_552 {Ls : Nat} {xs : Nat → Int32} {d : Nat} {R : zR} {I : zI} {J : zJ} {r : zA} {x3 : Int32} {s0 : Int32} {w : Int32} {R' : zR} {I' : zI} {J' : zJ} (h557 : zin (x3 + 1) Ls) (h562 : zin (x3 + 2) Ls) (hc : zEv (zXs Ls xs) d zm_209 (0, [some (.ref 215), some (.int (xs (x3 + 1).toNatClampNeg)), some (.int (xs (x3 + 2).toNatClampNeg))], [], (zS0, R, I, J)) (some (.int w), (zS0, R', I', J'))) (k1 : zEv (zXs Ls xs) (d + 1) zm_285 (566, [some (.ref (zro + 0)), some (.ref 0), some (.ref 215), some (.int x3)], [.int w, .int s0], (zS0, R', I', J')) r) : zEv (zXs Ls xs) (d + 1) zm_285 (552, [some (.ref (zro + 0)), some (.ref 0), some (.ref 215), some (.int x3)], [.int s0], (zS0, R, I, J)) r := by
  refine zEv_k 5 (f' := (557, [some (.ref (zro + 0)), some (.ref 0), some (.ref 215), some (.int x3)], [.int (x3 + 1), .ref (zro + 0), .ref 215, .int s0], (zS0, R, I, J))) rfl ?_
  refine zEv_iax (a := 0) rfl rfl h557 ?_
  refine zEv_k 4 (f' := (562, [some (.ref (zro + 0)), some (.ref 0), some (.ref 215), some (.int x3)], [.int (x3 + 2), .ref (zro + 0), .int (xs (x3 + 1).toNatClampNeg), .ref 215, .int s0], (zS0, R, I, J))) rfl ?_
  refine zEv_iax (a := 0) rfl rfl h562 ?_
  exact zEv_c (fun _ => rfl) rfl hc rfl rfl k1
set_option maxRecDepth 50000 in
theorem b_285_566 {Ls : Nat} {xs : Nat → Int32} {d : Nat} {R : zR} {I : zI} {J : zJ} {r : zA} {x3 : Int32} {s0 : Int32} {s1 : Int32} (k1 : s0 = s1 → zEv (zXs Ls xs) d zm_285 (1415, [some (.ref (zro + 0)), some (.ref 0), some (.ref 215), some (.int x3)], [], (zS0, R, I, J)) r) (k2 : ¬ (s0 = s1) → zEv (zXs Ls xs) d zm_285 (569, [some (.ref (zro + 0)), some (.ref 0), some (.ref 215), some (.int x3)], [], (zS0, R, I, J)) r) : zEv (zXs Ls xs) d zm_285 (566, [some (.ref (zro + 0)), some (.ref 0), some (.ref 215), some (.int x3)], [.int s1, .int s0], (zS0, R, I, J)) r := by
  refine zEv_k 1 (f' := (if s0 = s1 then 1415 else 569, [some (.ref (zro + 0)), some (.ref 0), some (.ref 215), some (.int x3)], [], (zS0, R, I, J))) rfl ?_
  exact zEv_if k1 k2
set_option maxRecDepth 50000 in
theorem b_285_569 {Ls : Nat} {xs : Nat → Int32} {d : Nat} {R : zR} {I : zI} {J : zJ} {x3 : Int32} : zEv (zXs Ls xs) d zm_285 (569, [some (.ref (zro + 0)), some (.ref 0), some (.ref 215), some (.int x3)], [], (zS0, R, I, J)) (some (.int 0), (zS0, R, I, J)) := by
  refine zEv_k 1 (f' := (570, [some (.ref (zro + 0)), some (.ref 0), some (.ref 215), some (.int x3)], [.int 0], (zS0, R, I, J))) rfl ?_
  exact zEv_r rfl
set_option maxRecDepth 50000 in
theorem b_285_571 {Ls : Nat} {xs : Nat → Int32} {d : Nat} {R : zR} {I : zI} {J : zJ} {r : zA} {x3 : Int32} {w : Int32} {R' : zR} {I' : zI} {J' : zJ} (h576 : zin (x3 + 1) Ls) (h581 : zin (x3 + 2) Ls) (h586 : zin (x3 + 3) Ls) (hc : zEv (zXs Ls xs) d zm_123 (0, [some (.ref 0), some (.int (xs (x3 + 1).toNatClampNeg)), some (.int (xs (x3 + 2).toNatClampNeg)), some (.int (xs (x3 + 3).toNatClampNeg)), none], [], (zS0, R, I, J)) (some (.int w), (zS0, R', I', J'))) (k1 : zEv (zXs Ls xs) (d + 1) zm_285 (590, [some (.ref (zro + 0)), some (.ref 0), some (.ref 215), some (.int x3)], [.int w], (zS0, R', I', J')) r) : zEv (zXs Ls xs) (d + 1) zm_285 (571, [some (.ref (zro + 0)), some (.ref 0), some (.ref 215), some (.int x3)], [], (zS0, R, I, J)) r := by
  refine zEv_k 5 (f' := (576, [some (.ref (zro + 0)), some (.ref 0), some (.ref 215), some (.int x3)], [.int (x3 + 1), .ref (zro + 0), .ref 0], (zS0, R, I, J))) rfl ?_
  refine zEv_iax (a := 0) rfl rfl h576 ?_
  refine zEv_k 4 (f' := (581, [some (.ref (zro + 0)), some (.ref 0), some (.ref 215), some (.int x3)], [.int (x3 + 2), .ref (zro + 0), .int (xs (x3 + 1).toNatClampNeg), .ref 0], (zS0, R, I, J))) rfl ?_
  refine zEv_iax (a := 0) rfl rfl h581 ?_
  refine zEv_k 4 (f' := (586, [some (.ref (zro + 0)), some (.ref 0), some (.ref 215), some (.int x3)], [.int (x3 + 3), .ref (zro + 0), .int (xs (x3 + 2).toNatClampNeg), .int (xs (x3 + 1).toNatClampNeg), .ref 0], (zS0, R, I, J))) rfl ?_
  refine zEv_iax (a := 0) rfl rfl h586 ?_
  exact zEv_c (fun _ => rfl) rfl hc rfl rfl k1
set_option maxRecDepth 50000 in
theorem b_285_590 {Ls : Nat} {xs : Nat → Int32} {d : Nat} {R : zR} {I : zI} {J : zJ} {r : zA} {x3 : Int32} {s0 : Int32} {w : Int32} {R' : zR} {I' : zI} {J' : zJ} (h595 : zin (x3 + 1) Ls) (h600 : zin (x3 + 2) Ls) (h605 : zin (x3 + 3) Ls) (hc : zEv (zXs Ls xs) d zm_212 (0, [some (.ref 215), some (.int (xs (x3 + 1).toNatClampNeg)), some (.int (xs (x3 + 2).toNatClampNeg)), some (.int (xs (x3 + 3).toNatClampNeg)), none, none, none, none], [], (zS0, R, I, J)) (some (.int w), (zS0, R', I', J'))) (k1 : zEv (zXs Ls xs) (d + 1) zm_285 (609, [some (.ref (zro + 0)), some (.ref 0), some (.ref 215), some (.int x3)], [.int w, .int s0], (zS0, R', I', J')) r) : zEv (zXs Ls xs) (d + 1) zm_285 (590, [some (.ref (zro + 0)), some (.ref 0), some (.ref 215), some (.int x3)], [.int s0], (zS0, R, I, J)) r := by
  refine zEv_k 5 (f' := (595, [some (.ref (zro + 0)), some (.ref 0), some (.ref 215), some (.int x3)], [.int (x3 + 1), .ref (zro + 0), .ref 215, .int s0], (zS0, R, I, J))) rfl ?_
  refine zEv_iax (a := 0) rfl rfl h595 ?_
  refine zEv_k 4 (f' := (600, [some (.ref (zro + 0)), some (.ref 0), some (.ref 215), some (.int x3)], [.int (x3 + 2), .ref (zro + 0), .int (xs (x3 + 1).toNatClampNeg), .ref 215, .int s0], (zS0, R, I, J))) rfl ?_
  refine zEv_iax (a := 0) rfl rfl h600 ?_
  refine zEv_k 4 (f' := (605, [some (.ref (zro + 0)), some (.ref 0), some (.ref 215), some (.int x3)], [.int (x3 + 3), .ref (zro + 0), .int (xs (x3 + 2).toNatClampNeg), .int (xs (x3 + 1).toNatClampNeg), .ref 215, .int s0], (zS0, R, I, J))) rfl ?_
  refine zEv_iax (a := 0) rfl rfl h605 ?_
  exact zEv_c (fun _ => rfl) rfl hc rfl rfl k1
set_option maxRecDepth 50000 in
theorem b_285_609 {Ls : Nat} {xs : Nat → Int32} {d : Nat} {R : zR} {I : zI} {J : zJ} {r : zA} {x3 : Int32} {s0 : Int32} {s1 : Int32} (k1 : s0 = s1 → zEv (zXs Ls xs) d zm_285 (1415, [some (.ref (zro + 0)), some (.ref 0), some (.ref 215), some (.int x3)], [], (zS0, R, I, J)) r) (k2 : ¬ (s0 = s1) → zEv (zXs Ls xs) d zm_285 (612, [some (.ref (zro + 0)), some (.ref 0), some (.ref 215), some (.int x3)], [], (zS0, R, I, J)) r) : zEv (zXs Ls xs) d zm_285 (609, [some (.ref (zro + 0)), some (.ref 0), some (.ref 215), some (.int x3)], [.int s1, .int s0], (zS0, R, I, J)) r := by
  refine zEv_k 1 (f' := (if s0 = s1 then 1415 else 612, [some (.ref (zro + 0)), some (.ref 0), some (.ref 215), some (.int x3)], [], (zS0, R, I, J))) rfl ?_
  exact zEv_if k1 k2
set_option maxRecDepth 50000 in
theorem b_285_612 {Ls : Nat} {xs : Nat → Int32} {d : Nat} {R : zR} {I : zI} {J : zJ} {x3 : Int32} : zEv (zXs Ls xs) d zm_285 (612, [some (.ref (zro + 0)), some (.ref 0), some (.ref 215), some (.int x3)], [], (zS0, R, I, J)) (some (.int 0), (zS0, R, I, J)) := by
  refine zEv_k 1 (f' := (613, [some (.ref (zro + 0)), some (.ref 0), some (.ref 215), some (.int x3)], [.int 0], (zS0, R, I, J))) rfl ?_
  exact zEv_r rfl
set_option maxRecDepth 50000 in
theorem b_285_614 {Ls : Nat} {xs : Nat → Int32} {d : Nat} {R : zR} {I : zI} {J : zJ} {r : zA} {x3 : Int32} {w : Int32} {R' : zR} {I' : zI} {J' : zJ} (h619 : zin (x3 + 1) Ls) (h624 : zin (x3 + 2) Ls) (hc : zEv (zXs Ls xs) d zm_124 (0, [some (.ref 0), some (.int (xs (x3 + 1).toNatClampNeg)), some (.int (xs (x3 + 2).toNatClampNeg)), none], [], (zS0, R, I, J)) (some (.int w), (zS0, R', I', J'))) (k1 : zEv (zXs Ls xs) (d + 1) zm_285 (628, [some (.ref (zro + 0)), some (.ref 0), some (.ref 215), some (.int x3)], [.int w], (zS0, R', I', J')) r) : zEv (zXs Ls xs) (d + 1) zm_285 (614, [some (.ref (zro + 0)), some (.ref 0), some (.ref 215), some (.int x3)], [], (zS0, R, I, J)) r := by
  refine zEv_k 5 (f' := (619, [some (.ref (zro + 0)), some (.ref 0), some (.ref 215), some (.int x3)], [.int (x3 + 1), .ref (zro + 0), .ref 0], (zS0, R, I, J))) rfl ?_
  refine zEv_iax (a := 0) rfl rfl h619 ?_
  refine zEv_k 4 (f' := (624, [some (.ref (zro + 0)), some (.ref 0), some (.ref 215), some (.int x3)], [.int (x3 + 2), .ref (zro + 0), .int (xs (x3 + 1).toNatClampNeg), .ref 0], (zS0, R, I, J))) rfl ?_
  refine zEv_iax (a := 0) rfl rfl h624 ?_
  exact zEv_c (fun _ => rfl) rfl hc rfl rfl k1
set_option maxRecDepth 50000 in
theorem b_285_628 {Ls : Nat} {xs : Nat → Int32} {d : Nat} {R : zR} {I : zI} {J : zJ} {r : zA} {x3 : Int32} {s0 : Int32} {w : Int32} {R' : zR} {I' : zI} {J' : zJ} (h633 : zin (x3 + 1) Ls) (h638 : zin (x3 + 2) Ls) (hc : zEv (zXs Ls xs) d zm_215 (0, [some (.ref 215), some (.int (xs (x3 + 1).toNatClampNeg)), some (.int (xs (x3 + 2).toNatClampNeg)), none, none, none, none, none], [], (zS0, R, I, J)) (some (.int w), (zS0, R', I', J'))) (k1 : zEv (zXs Ls xs) (d + 1) zm_285 (642, [some (.ref (zro + 0)), some (.ref 0), some (.ref 215), some (.int x3)], [.int w, .int s0], (zS0, R', I', J')) r) : zEv (zXs Ls xs) (d + 1) zm_285 (628, [some (.ref (zro + 0)), some (.ref 0), some (.ref 215), some (.int x3)], [.int s0], (zS0, R, I, J)) r := by
  refine zEv_k 5 (f' := (633, [some (.ref (zro + 0)), some (.ref 0), some (.ref 215), some (.int x3)], [.int (x3 + 1), .ref (zro + 0), .ref 215, .int s0], (zS0, R, I, J))) rfl ?_
  refine zEv_iax (a := 0) rfl rfl h633 ?_
  refine zEv_k 4 (f' := (638, [some (.ref (zro + 0)), some (.ref 0), some (.ref 215), some (.int x3)], [.int (x3 + 2), .ref (zro + 0), .int (xs (x3 + 1).toNatClampNeg), .ref 215, .int s0], (zS0, R, I, J))) rfl ?_
  refine zEv_iax (a := 0) rfl rfl h638 ?_
  exact zEv_c (fun _ => rfl) rfl hc rfl rfl k1
set_option maxRecDepth 50000 in
theorem b_285_642 {Ls : Nat} {xs : Nat → Int32} {d : Nat} {R : zR} {I : zI} {J : zJ} {r : zA} {x3 : Int32} {s0 : Int32} {s1 : Int32} (k1 : s0 = s1 → zEv (zXs Ls xs) d zm_285 (1415, [some (.ref (zro + 0)), some (.ref 0), some (.ref 215), some (.int x3)], [], (zS0, R, I, J)) r) (k2 : ¬ (s0 = s1) → zEv (zXs Ls xs) d zm_285 (645, [some (.ref (zro + 0)), some (.ref 0), some (.ref 215), some (.int x3)], [], (zS0, R, I, J)) r) : zEv (zXs Ls xs) d zm_285 (642, [some (.ref (zro + 0)), some (.ref 0), some (.ref 215), some (.int x3)], [.int s1, .int s0], (zS0, R, I, J)) r := by
  refine zEv_k 1 (f' := (if s0 = s1 then 1415 else 645, [some (.ref (zro + 0)), some (.ref 0), some (.ref 215), some (.int x3)], [], (zS0, R, I, J))) rfl ?_
  exact zEv_if k1 k2
set_option maxRecDepth 50000 in
theorem b_285_645 {Ls : Nat} {xs : Nat → Int32} {d : Nat} {R : zR} {I : zI} {J : zJ} {x3 : Int32} : zEv (zXs Ls xs) d zm_285 (645, [some (.ref (zro + 0)), some (.ref 0), some (.ref 215), some (.int x3)], [], (zS0, R, I, J)) (some (.int 0), (zS0, R, I, J)) := by
  refine zEv_k 1 (f' := (646, [some (.ref (zro + 0)), some (.ref 0), some (.ref 215), some (.int x3)], [.int 0], (zS0, R, I, J))) rfl ?_
  exact zEv_r rfl
set_option maxRecDepth 50000 in
theorem b_285_647 {Ls : Nat} {xs : Nat → Int32} {d : Nat} {R : zR} {I : zI} {J : zJ} {r : zA} {x3 : Int32} {w : Int32} {R' : zR} {I' : zI} {J' : zJ} (h652 : zin (x3 + 1) Ls) (h657 : zin (x3 + 2) Ls) (hc : zEv (zXs Ls xs) d zm_125 (0, [some (.ref 0), some (.int (xs (x3 + 1).toNatClampNeg)), some (.int (xs (x3 + 2).toNatClampNeg)), none], [], (zS0, R, I, J)) (some (.int w), (zS0, R', I', J'))) (k1 : zEv (zXs Ls xs) (d + 1) zm_285 (661, [some (.ref (zro + 0)), some (.ref 0), some (.ref 215), some (.int x3)], [.int w], (zS0, R', I', J')) r) : zEv (zXs Ls xs) (d + 1) zm_285 (647, [some (.ref (zro + 0)), some (.ref 0), some (.ref 215), some (.int x3)], [], (zS0, R, I, J)) r := by
  refine zEv_k 5 (f' := (652, [some (.ref (zro + 0)), some (.ref 0), some (.ref 215), some (.int x3)], [.int (x3 + 1), .ref (zro + 0), .ref 0], (zS0, R, I, J))) rfl ?_
  refine zEv_iax (a := 0) rfl rfl h652 ?_
  refine zEv_k 4 (f' := (657, [some (.ref (zro + 0)), some (.ref 0), some (.ref 215), some (.int x3)], [.int (x3 + 2), .ref (zro + 0), .int (xs (x3 + 1).toNatClampNeg), .ref 0], (zS0, R, I, J))) rfl ?_
  refine zEv_iax (a := 0) rfl rfl h657 ?_
  exact zEv_c (fun _ => rfl) rfl hc rfl rfl k1
set_option maxRecDepth 50000 in
theorem b_285_661 {Ls : Nat} {xs : Nat → Int32} {d : Nat} {R : zR} {I : zI} {J : zJ} {r : zA} {x3 : Int32} {s0 : Int32} {w : Int32} {R' : zR} {I' : zI} {J' : zJ} (h666 : zin (x3 + 1) Ls) (h671 : zin (x3 + 2) Ls) (hc : zEv (zXs Ls xs) d zm_218 (0, [some (.ref 215), some (.int (xs (x3 + 1).toNatClampNeg)), some (.int (xs (x3 + 2).toNatClampNeg)), none, none, none, none, none], [], (zS0, R, I, J)) (some (.int w), (zS0, R', I', J'))) (k1 : zEv (zXs Ls xs) (d + 1) zm_285 (675, [some (.ref (zro + 0)), some (.ref 0), some (.ref 215), some (.int x3)], [.int w, .int s0], (zS0, R', I', J')) r) : zEv (zXs Ls xs) (d + 1) zm_285 (661, [some (.ref (zro + 0)), some (.ref 0), some (.ref 215), some (.int x3)], [.int s0], (zS0, R, I, J)) r := by
  refine zEv_k 5 (f' := (666, [some (.ref (zro + 0)), some (.ref 0), some (.ref 215), some (.int x3)], [.int (x3 + 1), .ref (zro + 0), .ref 215, .int s0], (zS0, R, I, J))) rfl ?_
  refine zEv_iax (a := 0) rfl rfl h666 ?_
  refine zEv_k 4 (f' := (671, [some (.ref (zro + 0)), some (.ref 0), some (.ref 215), some (.int x3)], [.int (x3 + 2), .ref (zro + 0), .int (xs (x3 + 1).toNatClampNeg), .ref 215, .int s0], (zS0, R, I, J))) rfl ?_
  refine zEv_iax (a := 0) rfl rfl h671 ?_
  exact zEv_c (fun _ => rfl) rfl hc rfl rfl k1
set_option maxRecDepth 50000 in
theorem b_285_675 {Ls : Nat} {xs : Nat → Int32} {d : Nat} {R : zR} {I : zI} {J : zJ} {r : zA} {x3 : Int32} {s0 : Int32} {s1 : Int32} (k1 : s0 = s1 → zEv (zXs Ls xs) d zm_285 (1415, [some (.ref (zro + 0)), some (.ref 0), some (.ref 215), some (.int x3)], [], (zS0, R, I, J)) r) (k2 : ¬ (s0 = s1) → zEv (zXs Ls xs) d zm_285 (678, [some (.ref (zro + 0)), some (.ref 0), some (.ref 215), some (.int x3)], [], (zS0, R, I, J)) r) : zEv (zXs Ls xs) d zm_285 (675, [some (.ref (zro + 0)), some (.ref 0), some (.ref 215), some (.int x3)], [.int s1, .int s0], (zS0, R, I, J)) r := by
  refine zEv_k 1 (f' := (if s0 = s1 then 1415 else 678, [some (.ref (zro + 0)), some (.ref 0), some (.ref 215), some (.int x3)], [], (zS0, R, I, J))) rfl ?_
  exact zEv_if k1 k2
set_option maxRecDepth 50000 in
theorem b_285_678 {Ls : Nat} {xs : Nat → Int32} {d : Nat} {R : zR} {I : zI} {J : zJ} {x3 : Int32} : zEv (zXs Ls xs) d zm_285 (678, [some (.ref (zro + 0)), some (.ref 0), some (.ref 215), some (.int x3)], [], (zS0, R, I, J)) (some (.int 0), (zS0, R, I, J)) := by
  refine zEv_k 1 (f' := (679, [some (.ref (zro + 0)), some (.ref 0), some (.ref 215), some (.int x3)], [.int 0], (zS0, R, I, J))) rfl ?_
  exact zEv_r rfl
set_option maxRecDepth 50000 in
theorem b_285_680 {Ls : Nat} {xs : Nat → Int32} {d : Nat} {R : zR} {I : zI} {J : zJ} {r : zA} {x3 : Int32} (h685 : zin (x3 + 1) Ls) (h690 : zin (x3 + 2) Ls) (h695 : zin (x3 + 3) Ls) (k1 : (xs (x3 + 3).toNatClampNeg) = 0 → zEv (zXs Ls xs) d zm_285 (703, [some (.ref (zro + 0)), some (.ref 0), some (.ref 215), some (.int x3)], [.int (xs (x3 + 2).toNatClampNeg), .int (xs (x3 + 1).toNatClampNeg), .ref 0], (zS0, R, I, J)) r) (k2 : ¬ ((xs (x3 + 3).toNatClampNeg) = 0) → zEv (zXs Ls xs) d zm_285 (699, [some (.ref (zro + 0)), some (.ref 0), some (.ref 215), some (.int x3)], [.int (xs (x3 + 2).toNatClampNeg), .int (xs (x3 + 1).toNatClampNeg), .ref 0], (zS0, R, I, J)) r) : zEv (zXs Ls xs) d zm_285 (680, [some (.ref (zro + 0)), some (.ref 0), some (.ref 215), some (.int x3)], [], (zS0, R, I, J)) r := by
  refine zEv_k 5 (f' := (685, [some (.ref (zro + 0)), some (.ref 0), some (.ref 215), some (.int x3)], [.int (x3 + 1), .ref (zro + 0), .ref 0], (zS0, R, I, J))) rfl ?_
  refine zEv_iax (a := 0) rfl rfl h685 ?_
  refine zEv_k 4 (f' := (690, [some (.ref (zro + 0)), some (.ref 0), some (.ref 215), some (.int x3)], [.int (x3 + 2), .ref (zro + 0), .int (xs (x3 + 1).toNatClampNeg), .ref 0], (zS0, R, I, J))) rfl ?_
  refine zEv_iax (a := 0) rfl rfl h690 ?_
  refine zEv_k 4 (f' := (695, [some (.ref (zro + 0)), some (.ref 0), some (.ref 215), some (.int x3)], [.int (x3 + 3), .ref (zro + 0), .int (xs (x3 + 2).toNatClampNeg), .int (xs (x3 + 1).toNatClampNeg), .ref 0], (zS0, R, I, J))) rfl ?_
  refine zEv_iax (a := 0) rfl rfl h695 ?_
  refine zEv_k 1 (f' := (if (xs (x3 + 3).toNatClampNeg) = 0 then 703 else 699, [some (.ref (zro + 0)), some (.ref 0), some (.ref 215), some (.int x3)], [.int (xs (x3 + 2).toNatClampNeg), .int (xs (x3 + 1).toNatClampNeg), .ref 0], (zS0, R, I, J))) rfl ?_
  exact zEv_if k1 k2
set_option maxRecDepth 50000 in
theorem b_285_699 {Ls : Nat} {xs : Nat → Int32} {d : Nat} {R : zR} {I : zI} {J : zJ} {r : zA} {x3 : Int32} {s1 : Int32} {s2 : Int32} (k1 : zEv (zXs Ls xs) d zm_285 (704, [some (.ref (zro + 0)), some (.ref 0), some (.ref 215), some (.int x3)], [.int 1, .int s2, .int s1, .ref 0], (zS0, R, I, J)) r) : zEv (zXs Ls xs) d zm_285 (699, [some (.ref (zro + 0)), some (.ref 0), some (.ref 215), some (.int x3)], [.int s2, .int s1, .ref 0], (zS0, R, I, J)) r := by
  refine zEv_k 2 (f' := (704, [some (.ref (zro + 0)), some (.ref 0), some (.ref 215), some (.int x3)], [.int 1, .int s2, .int s1, .ref 0], (zS0, R, I, J))) rfl ?_
  exact k1
set_option maxRecDepth 50000 in
theorem b_285_703 {Ls : Nat} {xs : Nat → Int32} {d : Nat} {R : zR} {I : zI} {J : zJ} {r : zA} {x3 : Int32} {s1 : Int32} {s2 : Int32} (k1 : zEv (zXs Ls xs) d zm_285 (704, [some (.ref (zro + 0)), some (.ref 0), some (.ref 215), some (.int x3)], [.int 0, .int s2, .int s1, .ref 0], (zS0, R, I, J)) r) : zEv (zXs Ls xs) d zm_285 (703, [some (.ref (zro + 0)), some (.ref 0), some (.ref 215), some (.int x3)], [.int s2, .int s1, .ref 0], (zS0, R, I, J)) r := by
  refine zEv_k 1 (f' := (704, [some (.ref (zro + 0)), some (.ref 0), some (.ref 215), some (.int x3)], [.int 0, .int s2, .int s1, .ref 0], (zS0, R, I, J))) rfl ?_
  exact k1
set_option maxRecDepth 50000 in
theorem b_285_704 {Ls : Nat} {xs : Nat → Int32} {d : Nat} {R : zR} {I : zI} {J : zJ} {r : zA} {x3 : Int32} {s1 : Int32} {s2 : Int32} {s3 : Int32} {w : Int32} {R' : zR} {I' : zI} {J' : zJ} (hc : zEv (zXs Ls xs) d zm_126 (0, [some (.ref 0), some (.int s1), some (.int s2), some (.int s3), none, none], [], (zS0, R, I, J)) (some (.int w), (zS0, R', I', J'))) (k1 : zEv (zXs Ls xs) (d + 1) zm_285 (707, [some (.ref (zro + 0)), some (.ref 0), some (.ref 215), some (.int x3)], [.int w], (zS0, R', I', J')) r) : zEv (zXs Ls xs) (d + 1) zm_285 (704, [some (.ref (zro + 0)), some (.ref 0), some (.ref 215), some (.int x3)], [.int s3, .int s2, .int s1, .ref 0], (zS0, R, I, J)) r := by
  exact zEv_c (fun _ => rfl) rfl hc rfl rfl k1
set_option maxRecDepth 50000 in
theorem b_285_707 {Ls : Nat} {xs : Nat → Int32} {d : Nat} {R : zR} {I : zI} {J : zJ} {r : zA} {x3 : Int32} {s0 : Int32} (h712 : zin (x3 + 1) Ls) (h717 : zin (x3 + 2) Ls) (h722 : zin (x3 + 3) Ls) (k1 : (xs (x3 + 3).toNatClampNeg) = 0 → zEv (zXs Ls xs) d zm_285 (730, [some (.ref (zro + 0)), some (.ref 0), some (.ref 215), some (.int x3)], [.int (xs (x3 + 2).toNatClampNeg), .int (xs (x3 + 1).toNatClampNeg), .ref 215, .int s0], (zS0, R, I, J)) r) (k2 : ¬ ((xs (x3 + 3).toNatClampNeg) = 0) → zEv (zXs Ls xs) d zm_285 (726, [some (.ref (zro + 0)), some (.ref 0), some (.ref 215), some (.int x3)], [.int (xs (x3 + 2).toNatClampNeg), .int (xs (x3 + 1).toNatClampNeg), .ref 215, .int s0], (zS0, R, I, J)) r) : zEv (zXs Ls xs) d zm_285 (707, [some (.ref (zro + 0)), some (.ref 0), some (.ref 215), some (.int x3)], [.int s0], (zS0, R, I, J)) r := by
  refine zEv_k 5 (f' := (712, [some (.ref (zro + 0)), some (.ref 0), some (.ref 215), some (.int x3)], [.int (x3 + 1), .ref (zro + 0), .ref 215, .int s0], (zS0, R, I, J))) rfl ?_
  refine zEv_iax (a := 0) rfl rfl h712 ?_
  refine zEv_k 4 (f' := (717, [some (.ref (zro + 0)), some (.ref 0), some (.ref 215), some (.int x3)], [.int (x3 + 2), .ref (zro + 0), .int (xs (x3 + 1).toNatClampNeg), .ref 215, .int s0], (zS0, R, I, J))) rfl ?_
  refine zEv_iax (a := 0) rfl rfl h717 ?_
  refine zEv_k 4 (f' := (722, [some (.ref (zro + 0)), some (.ref 0), some (.ref 215), some (.int x3)], [.int (x3 + 3), .ref (zro + 0), .int (xs (x3 + 2).toNatClampNeg), .int (xs (x3 + 1).toNatClampNeg), .ref 215, .int s0], (zS0, R, I, J))) rfl ?_
  refine zEv_iax (a := 0) rfl rfl h722 ?_
  refine zEv_k 1 (f' := (if (xs (x3 + 3).toNatClampNeg) = 0 then 730 else 726, [some (.ref (zro + 0)), some (.ref 0), some (.ref 215), some (.int x3)], [.int (xs (x3 + 2).toNatClampNeg), .int (xs (x3 + 1).toNatClampNeg), .ref 215, .int s0], (zS0, R, I, J))) rfl ?_
  exact zEv_if k1 k2
set_option maxRecDepth 50000 in
theorem b_285_726 {Ls : Nat} {xs : Nat → Int32} {d : Nat} {R : zR} {I : zI} {J : zJ} {r : zA} {x3 : Int32} {s0 : Int32} {s2 : Int32} {s3 : Int32} (k1 : zEv (zXs Ls xs) d zm_285 (731, [some (.ref (zro + 0)), some (.ref 0), some (.ref 215), some (.int x3)], [.int 1, .int s3, .int s2, .ref 215, .int s0], (zS0, R, I, J)) r) : zEv (zXs Ls xs) d zm_285 (726, [some (.ref (zro + 0)), some (.ref 0), some (.ref 215), some (.int x3)], [.int s3, .int s2, .ref 215, .int s0], (zS0, R, I, J)) r := by
  refine zEv_k 2 (f' := (731, [some (.ref (zro + 0)), some (.ref 0), some (.ref 215), some (.int x3)], [.int 1, .int s3, .int s2, .ref 215, .int s0], (zS0, R, I, J))) rfl ?_
  exact k1
set_option maxRecDepth 50000 in
theorem b_285_730 {Ls : Nat} {xs : Nat → Int32} {d : Nat} {R : zR} {I : zI} {J : zJ} {r : zA} {x3 : Int32} {s0 : Int32} {s2 : Int32} {s3 : Int32} (k1 : zEv (zXs Ls xs) d zm_285 (731, [some (.ref (zro + 0)), some (.ref 0), some (.ref 215), some (.int x3)], [.int 0, .int s3, .int s2, .ref 215, .int s0], (zS0, R, I, J)) r) : zEv (zXs Ls xs) d zm_285 (730, [some (.ref (zro + 0)), some (.ref 0), some (.ref 215), some (.int x3)], [.int s3, .int s2, .ref 215, .int s0], (zS0, R, I, J)) r := by
  refine zEv_k 1 (f' := (731, [some (.ref (zro + 0)), some (.ref 0), some (.ref 215), some (.int x3)], [.int 0, .int s3, .int s2, .ref 215, .int s0], (zS0, R, I, J))) rfl ?_
  exact k1
set_option maxRecDepth 50000 in
theorem b_285_731 {Ls : Nat} {xs : Nat → Int32} {d : Nat} {R : zR} {I : zI} {J : zJ} {r : zA} {x3 : Int32} {s0 : Int32} {s2 : Int32} {s3 : Int32} {s4 : Int32} {w : Int32} {R' : zR} {I' : zI} {J' : zJ} (hc : zEv (zXs Ls xs) d zm_219 (0, [some (.ref 215), some (.int s2), some (.int s3), some (.int s4), none, none, none, none], [], (zS0, R, I, J)) (some (.int w), (zS0, R', I', J'))) (k1 : zEv (zXs Ls xs) (d + 1) zm_285 (734, [some (.ref (zro + 0)), some (.ref 0), some (.ref 215), some (.int x3)], [.int w, .int s0], (zS0, R', I', J')) r) : zEv (zXs Ls xs) (d + 1) zm_285 (731, [some (.ref (zro + 0)), some (.ref 0), some (.ref 215), some (.int x3)], [.int s4, .int s3, .int s2, .ref 215, .int s0], (zS0, R, I, J)) r := by
  exact zEv_c (fun _ => rfl) rfl hc rfl rfl k1
set_option maxRecDepth 50000 in
theorem b_285_734 {Ls : Nat} {xs : Nat → Int32} {d : Nat} {R : zR} {I : zI} {J : zJ} {r : zA} {x3 : Int32} {s0 : Int32} {s1 : Int32} (k1 : s0 = s1 → zEv (zXs Ls xs) d zm_285 (1415, [some (.ref (zro + 0)), some (.ref 0), some (.ref 215), some (.int x3)], [], (zS0, R, I, J)) r) (k2 : ¬ (s0 = s1) → zEv (zXs Ls xs) d zm_285 (737, [some (.ref (zro + 0)), some (.ref 0), some (.ref 215), some (.int x3)], [], (zS0, R, I, J)) r) : zEv (zXs Ls xs) d zm_285 (734, [some (.ref (zro + 0)), some (.ref 0), some (.ref 215), some (.int x3)], [.int s1, .int s0], (zS0, R, I, J)) r := by
  refine zEv_k 1 (f' := (if s0 = s1 then 1415 else 737, [some (.ref (zro + 0)), some (.ref 0), some (.ref 215), some (.int x3)], [], (zS0, R, I, J))) rfl ?_
  exact zEv_if k1 k2
set_option maxRecDepth 50000 in
theorem b_285_737 {Ls : Nat} {xs : Nat → Int32} {d : Nat} {R : zR} {I : zI} {J : zJ} {x3 : Int32} : zEv (zXs Ls xs) d zm_285 (737, [some (.ref (zro + 0)), some (.ref 0), some (.ref 215), some (.int x3)], [], (zS0, R, I, J)) (some (.int 0), (zS0, R, I, J)) := by
  refine zEv_k 1 (f' := (738, [some (.ref (zro + 0)), some (.ref 0), some (.ref 215), some (.int x3)], [.int 0], (zS0, R, I, J))) rfl ?_
  exact zEv_r rfl
set_option maxRecDepth 50000 in
theorem b_285_739 {Ls : Nat} {xs : Nat → Int32} {d : Nat} {R : zR} {I : zI} {J : zJ} {r : zA} {x3 : Int32} (h744 : zin (x3 + 1) Ls) (h749 : zin (x3 + 2) Ls) (h754 : zin (x3 + 3) Ls) (k1 : (xs (x3 + 3).toNatClampNeg) = 0 → zEv (zXs Ls xs) d zm_285 (762, [some (.ref (zro + 0)), some (.ref 0), some (.ref 215), some (.int x3)], [.int (xs (x3 + 2).toNatClampNeg), .int (xs (x3 + 1).toNatClampNeg), .ref 0], (zS0, R, I, J)) r) (k2 : ¬ ((xs (x3 + 3).toNatClampNeg) = 0) → zEv (zXs Ls xs) d zm_285 (758, [some (.ref (zro + 0)), some (.ref 0), some (.ref 215), some (.int x3)], [.int (xs (x3 + 2).toNatClampNeg), .int (xs (x3 + 1).toNatClampNeg), .ref 0], (zS0, R, I, J)) r) : zEv (zXs Ls xs) d zm_285 (739, [some (.ref (zro + 0)), some (.ref 0), some (.ref 215), some (.int x3)], [], (zS0, R, I, J)) r := by
  refine zEv_k 5 (f' := (744, [some (.ref (zro + 0)), some (.ref 0), some (.ref 215), some (.int x3)], [.int (x3 + 1), .ref (zro + 0), .ref 0], (zS0, R, I, J))) rfl ?_
  refine zEv_iax (a := 0) rfl rfl h744 ?_
  refine zEv_k 4 (f' := (749, [some (.ref (zro + 0)), some (.ref 0), some (.ref 215), some (.int x3)], [.int (x3 + 2), .ref (zro + 0), .int (xs (x3 + 1).toNatClampNeg), .ref 0], (zS0, R, I, J))) rfl ?_
  refine zEv_iax (a := 0) rfl rfl h749 ?_
  refine zEv_k 4 (f' := (754, [some (.ref (zro + 0)), some (.ref 0), some (.ref 215), some (.int x3)], [.int (x3 + 3), .ref (zro + 0), .int (xs (x3 + 2).toNatClampNeg), .int (xs (x3 + 1).toNatClampNeg), .ref 0], (zS0, R, I, J))) rfl ?_
  refine zEv_iax (a := 0) rfl rfl h754 ?_
  refine zEv_k 1 (f' := (if (xs (x3 + 3).toNatClampNeg) = 0 then 762 else 758, [some (.ref (zro + 0)), some (.ref 0), some (.ref 215), some (.int x3)], [.int (xs (x3 + 2).toNatClampNeg), .int (xs (x3 + 1).toNatClampNeg), .ref 0], (zS0, R, I, J))) rfl ?_
  exact zEv_if k1 k2
set_option maxRecDepth 50000 in
theorem b_285_758 {Ls : Nat} {xs : Nat → Int32} {d : Nat} {R : zR} {I : zI} {J : zJ} {r : zA} {x3 : Int32} {s1 : Int32} {s2 : Int32} (k1 : zEv (zXs Ls xs) d zm_285 (763, [some (.ref (zro + 0)), some (.ref 0), some (.ref 215), some (.int x3)], [.int 1, .int s2, .int s1, .ref 0], (zS0, R, I, J)) r) : zEv (zXs Ls xs) d zm_285 (758, [some (.ref (zro + 0)), some (.ref 0), some (.ref 215), some (.int x3)], [.int s2, .int s1, .ref 0], (zS0, R, I, J)) r := by
  refine zEv_k 2 (f' := (763, [some (.ref (zro + 0)), some (.ref 0), some (.ref 215), some (.int x3)], [.int 1, .int s2, .int s1, .ref 0], (zS0, R, I, J))) rfl ?_
  exact k1
set_option maxRecDepth 50000 in
theorem b_285_762 {Ls : Nat} {xs : Nat → Int32} {d : Nat} {R : zR} {I : zI} {J : zJ} {r : zA} {x3 : Int32} {s1 : Int32} {s2 : Int32} (k1 : zEv (zXs Ls xs) d zm_285 (763, [some (.ref (zro + 0)), some (.ref 0), some (.ref 215), some (.int x3)], [.int 0, .int s2, .int s1, .ref 0], (zS0, R, I, J)) r) : zEv (zXs Ls xs) d zm_285 (762, [some (.ref (zro + 0)), some (.ref 0), some (.ref 215), some (.int x3)], [.int s2, .int s1, .ref 0], (zS0, R, I, J)) r := by
  refine zEv_k 1 (f' := (763, [some (.ref (zro + 0)), some (.ref 0), some (.ref 215), some (.int x3)], [.int 0, .int s2, .int s1, .ref 0], (zS0, R, I, J))) rfl ?_
  exact k1
set_option maxRecDepth 50000 in
theorem b_285_763 {Ls : Nat} {xs : Nat → Int32} {d : Nat} {R : zR} {I : zI} {J : zJ} {r : zA} {x3 : Int32} {s1 : Int32} {s2 : Int32} {s3 : Int32} {w : Int32} {R' : zR} {I' : zI} {J' : zJ} (hc : zEv (zXs Ls xs) d zm_127 (0, [some (.ref 0), some (.int s1), some (.int s2), some (.int s3), none], [], (zS0, R, I, J)) (some (.int w), (zS0, R', I', J'))) (k1 : zEv (zXs Ls xs) (d + 1) zm_285 (766, [some (.ref (zro + 0)), some (.ref 0), some (.ref 215), some (.int x3)], [.int w], (zS0, R', I', J')) r) : zEv (zXs Ls xs) (d + 1) zm_285 (763, [some (.ref (zro + 0)), some (.ref 0), some (.ref 215), some (.int x3)], [.int s3, .int s2, .int s1, .ref 0], (zS0, R, I, J)) r := by
  exact zEv_c (fun _ => rfl) rfl hc rfl rfl k1
set_option maxRecDepth 50000 in
theorem b_285_766 {Ls : Nat} {xs : Nat → Int32} {d : Nat} {R : zR} {I : zI} {J : zJ} {r : zA} {x3 : Int32} {s0 : Int32} (h771 : zin (x3 + 1) Ls) (h776 : zin (x3 + 2) Ls) (h781 : zin (x3 + 3) Ls) (k1 : (xs (x3 + 3).toNatClampNeg) = 0 → zEv (zXs Ls xs) d zm_285 (789, [some (.ref (zro + 0)), some (.ref 0), some (.ref 215), some (.int x3)], [.int (xs (x3 + 2).toNatClampNeg), .int (xs (x3 + 1).toNatClampNeg), .ref 215, .int s0], (zS0, R, I, J)) r) (k2 : ¬ ((xs (x3 + 3).toNatClampNeg) = 0) → zEv (zXs Ls xs) d zm_285 (785, [some (.ref (zro + 0)), some (.ref 0), some (.ref 215), some (.int x3)], [.int (xs (x3 + 2).toNatClampNeg), .int (xs (x3 + 1).toNatClampNeg), .ref 215, .int s0], (zS0, R, I, J)) r) : zEv (zXs Ls xs) d zm_285 (766, [some (.ref (zro + 0)), some (.ref 0), some (.ref 215), some (.int x3)], [.int s0], (zS0, R, I, J)) r := by
  refine zEv_k 5 (f' := (771, [some (.ref (zro + 0)), some (.ref 0), some (.ref 215), some (.int x3)], [.int (x3 + 1), .ref (zro + 0), .ref 215, .int s0], (zS0, R, I, J))) rfl ?_
  refine zEv_iax (a := 0) rfl rfl h771 ?_
  refine zEv_k 4 (f' := (776, [some (.ref (zro + 0)), some (.ref 0), some (.ref 215), some (.int x3)], [.int (x3 + 2), .ref (zro + 0), .int (xs (x3 + 1).toNatClampNeg), .ref 215, .int s0], (zS0, R, I, J))) rfl ?_
  refine zEv_iax (a := 0) rfl rfl h776 ?_
  refine zEv_k 4 (f' := (781, [some (.ref (zro + 0)), some (.ref 0), some (.ref 215), some (.int x3)], [.int (x3 + 3), .ref (zro + 0), .int (xs (x3 + 2).toNatClampNeg), .int (xs (x3 + 1).toNatClampNeg), .ref 215, .int s0], (zS0, R, I, J))) rfl ?_
  refine zEv_iax (a := 0) rfl rfl h781 ?_
  refine zEv_k 1 (f' := (if (xs (x3 + 3).toNatClampNeg) = 0 then 789 else 785, [some (.ref (zro + 0)), some (.ref 0), some (.ref 215), some (.int x3)], [.int (xs (x3 + 2).toNatClampNeg), .int (xs (x3 + 1).toNatClampNeg), .ref 215, .int s0], (zS0, R, I, J))) rfl ?_
  exact zEv_if k1 k2
set_option maxRecDepth 50000 in
theorem b_285_785 {Ls : Nat} {xs : Nat → Int32} {d : Nat} {R : zR} {I : zI} {J : zJ} {r : zA} {x3 : Int32} {s0 : Int32} {s2 : Int32} {s3 : Int32} (k1 : zEv (zXs Ls xs) d zm_285 (790, [some (.ref (zro + 0)), some (.ref 0), some (.ref 215), some (.int x3)], [.int 1, .int s3, .int s2, .ref 215, .int s0], (zS0, R, I, J)) r) : zEv (zXs Ls xs) d zm_285 (785, [some (.ref (zro + 0)), some (.ref 0), some (.ref 215), some (.int x3)], [.int s3, .int s2, .ref 215, .int s0], (zS0, R, I, J)) r := by
  refine zEv_k 2 (f' := (790, [some (.ref (zro + 0)), some (.ref 0), some (.ref 215), some (.int x3)], [.int 1, .int s3, .int s2, .ref 215, .int s0], (zS0, R, I, J))) rfl ?_
  exact k1
set_option maxRecDepth 50000 in
theorem b_285_789 {Ls : Nat} {xs : Nat → Int32} {d : Nat} {R : zR} {I : zI} {J : zJ} {r : zA} {x3 : Int32} {s0 : Int32} {s2 : Int32} {s3 : Int32} (k1 : zEv (zXs Ls xs) d zm_285 (790, [some (.ref (zro + 0)), some (.ref 0), some (.ref 215), some (.int x3)], [.int 0, .int s3, .int s2, .ref 215, .int s0], (zS0, R, I, J)) r) : zEv (zXs Ls xs) d zm_285 (789, [some (.ref (zro + 0)), some (.ref 0), some (.ref 215), some (.int x3)], [.int s3, .int s2, .ref 215, .int s0], (zS0, R, I, J)) r := by
  refine zEv_k 1 (f' := (790, [some (.ref (zro + 0)), some (.ref 0), some (.ref 215), some (.int x3)], [.int 0, .int s3, .int s2, .ref 215, .int s0], (zS0, R, I, J))) rfl ?_
  exact k1
set_option maxRecDepth 50000 in
theorem b_285_790 {Ls : Nat} {xs : Nat → Int32} {d : Nat} {R : zR} {I : zI} {J : zJ} {r : zA} {x3 : Int32} {s0 : Int32} {s2 : Int32} {s3 : Int32} {s4 : Int32} {w : Int32} {R' : zR} {I' : zI} {J' : zJ} (hc : zEv (zXs Ls xs) d zm_222 (0, [some (.ref 215), some (.int s2), some (.int s3), some (.int s4), none, none], [], (zS0, R, I, J)) (some (.int w), (zS0, R', I', J'))) (k1 : zEv (zXs Ls xs) (d + 1) zm_285 (793, [some (.ref (zro + 0)), some (.ref 0), some (.ref 215), some (.int x3)], [.int w, .int s0], (zS0, R', I', J')) r) : zEv (zXs Ls xs) (d + 1) zm_285 (790, [some (.ref (zro + 0)), some (.ref 0), some (.ref 215), some (.int x3)], [.int s4, .int s3, .int s2, .ref 215, .int s0], (zS0, R, I, J)) r := by
  exact zEv_c (fun _ => rfl) rfl hc rfl rfl k1
set_option maxRecDepth 50000 in
theorem b_285_793 {Ls : Nat} {xs : Nat → Int32} {d : Nat} {R : zR} {I : zI} {J : zJ} {r : zA} {x3 : Int32} {s0 : Int32} {s1 : Int32} (k1 : s0 = s1 → zEv (zXs Ls xs) d zm_285 (1415, [some (.ref (zro + 0)), some (.ref 0), some (.ref 215), some (.int x3)], [], (zS0, R, I, J)) r) (k2 : ¬ (s0 = s1) → zEv (zXs Ls xs) d zm_285 (796, [some (.ref (zro + 0)), some (.ref 0), some (.ref 215), some (.int x3)], [], (zS0, R, I, J)) r) : zEv (zXs Ls xs) d zm_285 (793, [some (.ref (zro + 0)), some (.ref 0), some (.ref 215), some (.int x3)], [.int s1, .int s0], (zS0, R, I, J)) r := by
  refine zEv_k 1 (f' := (if s0 = s1 then 1415 else 796, [some (.ref (zro + 0)), some (.ref 0), some (.ref 215), some (.int x3)], [], (zS0, R, I, J))) rfl ?_
  exact zEv_if k1 k2
set_option maxRecDepth 50000 in
theorem b_285_796 {Ls : Nat} {xs : Nat → Int32} {d : Nat} {R : zR} {I : zI} {J : zJ} {x3 : Int32} : zEv (zXs Ls xs) d zm_285 (796, [some (.ref (zro + 0)), some (.ref 0), some (.ref 215), some (.int x3)], [], (zS0, R, I, J)) (some (.int 0), (zS0, R, I, J)) := by
  refine zEv_k 1 (f' := (797, [some (.ref (zro + 0)), some (.ref 0), some (.ref 215), some (.int x3)], [.int 0], (zS0, R, I, J))) rfl ?_
  exact zEv_r rfl
set_option maxRecDepth 50000 in
theorem b_285_798 {Ls : Nat} {xs : Nat → Int32} {d : Nat} {R : zR} {I : zI} {J : zJ} {r : zA} {x3 : Int32} (h803 : zin (x3 + 1) Ls) (h808 : zin (x3 + 2) Ls) (h813 : zin (x3 + 3) Ls) (h818 : zin (x3 + 4) Ls) (h823 : zin (x3 + 5) Ls) (k1 : (xs (x3 + 5).toNatClampNeg) = 0 → zEv (zXs Ls xs) d zm_285 (831, [some (.ref (zro + 0)), some (.ref 0), some (.ref 215), some (.int x3)], [.int (xs (x3 + 4).toNatClampNeg), .int (xs (x3 + 3).toNatClampNeg), .int (xs (x3 + 2).toNatClampNeg), .int (xs (x3 + 1).toNatClampNeg), .ref 0], (zS0, R, I, J)) r) (k2 : ¬ ((xs (x3 + 5).toNatClampNeg) = 0) → zEv (zXs Ls xs) d zm_285 (827, [some (.ref (zro + 0)), some (.ref 0), some (.ref 215), some (.int x3)], [.int (xs (x3 + 4).toNatClampNeg), .int (xs (x3 + 3).toNatClampNeg), .int (xs (x3 + 2).toNatClampNeg), .int (xs (x3 + 1).toNatClampNeg), .ref 0], (zS0, R, I, J)) r) : zEv (zXs Ls xs) d zm_285 (798, [some (.ref (zro + 0)), some (.ref 0), some (.ref 215), some (.int x3)], [], (zS0, R, I, J)) r := by
  refine zEv_k 5 (f' := (803, [some (.ref (zro + 0)), some (.ref 0), some (.ref 215), some (.int x3)], [.int (x3 + 1), .ref (zro + 0), .ref 0], (zS0, R, I, J))) rfl ?_
  refine zEv_iax (a := 0) rfl rfl h803 ?_
  refine zEv_k 4 (f' := (808, [some (.ref (zro + 0)), some (.ref 0), some (.ref 215), some (.int x3)], [.int (x3 + 2), .ref (zro + 0), .int (xs (x3 + 1).toNatClampNeg), .ref 0], (zS0, R, I, J))) rfl ?_
  refine zEv_iax (a := 0) rfl rfl h808 ?_
  refine zEv_k 4 (f' := (813, [some (.ref (zro + 0)), some (.ref 0), some (.ref 215), some (.int x3)], [.int (x3 + 3), .ref (zro + 0), .int (xs (x3 + 2).toNatClampNeg), .int (xs (x3 + 1).toNatClampNeg), .ref 0], (zS0, R, I, J))) rfl ?_
  refine zEv_iax (a := 0) rfl rfl h813 ?_
  refine zEv_k 4 (f' := (818, [some (.ref (zro + 0)), some (.ref 0), some (.ref 215), some (.int x3)], [.int (x3 + 4), .ref (zro + 0), .int (xs (x3 + 3).toNatClampNeg), .int (xs (x3 + 2).toNatClampNeg), .int (xs (x3 + 1).toNatClampNeg), .ref 0], (zS0, R, I, J))) rfl ?_
  refine zEv_iax (a := 0) rfl rfl h818 ?_
  refine zEv_k 4 (f' := (823, [some (.ref (zro + 0)), some (.ref 0), some (.ref 215), some (.int x3)], [.int (x3 + 5), .ref (zro + 0), .int (xs (x3 + 4).toNatClampNeg), .int (xs (x3 + 3).toNatClampNeg), .int (xs (x3 + 2).toNatClampNeg), .int (xs (x3 + 1).toNatClampNeg), .ref 0], (zS0, R, I, J))) rfl ?_
  refine zEv_iax (a := 0) rfl rfl h823 ?_
  refine zEv_k 1 (f' := (if (xs (x3 + 5).toNatClampNeg) = 0 then 831 else 827, [some (.ref (zro + 0)), some (.ref 0), some (.ref 215), some (.int x3)], [.int (xs (x3 + 4).toNatClampNeg), .int (xs (x3 + 3).toNatClampNeg), .int (xs (x3 + 2).toNatClampNeg), .int (xs (x3 + 1).toNatClampNeg), .ref 0], (zS0, R, I, J))) rfl ?_
  exact zEv_if k1 k2
set_option maxRecDepth 50000 in
theorem b_285_827 {Ls : Nat} {xs : Nat → Int32} {d : Nat} {R : zR} {I : zI} {J : zJ} {r : zA} {x3 : Int32} {s1 : Int32} {s2 : Int32} {s3 : Int32} {s4 : Int32} (k1 : zEv (zXs Ls xs) d zm_285 (832, [some (.ref (zro + 0)), some (.ref 0), some (.ref 215), some (.int x3)], [.int 1, .int s4, .int s3, .int s2, .int s1, .ref 0], (zS0, R, I, J)) r) : zEv (zXs Ls xs) d zm_285 (827, [some (.ref (zro + 0)), some (.ref 0), some (.ref 215), some (.int x3)], [.int s4, .int s3, .int s2, .int s1, .ref 0], (zS0, R, I, J)) r := by
  refine zEv_k 2 (f' := (832, [some (.ref (zro + 0)), some (.ref 0), some (.ref 215), some (.int x3)], [.int 1, .int s4, .int s3, .int s2, .int s1, .ref 0], (zS0, R, I, J))) rfl ?_
  exact k1
set_option maxRecDepth 50000 in
theorem b_285_831 {Ls : Nat} {xs : Nat → Int32} {d : Nat} {R : zR} {I : zI} {J : zJ} {r : zA} {x3 : Int32} {s1 : Int32} {s2 : Int32} {s3 : Int32} {s4 : Int32} (k1 : zEv (zXs Ls xs) d zm_285 (832, [some (.ref (zro + 0)), some (.ref 0), some (.ref 215), some (.int x3)], [.int 0, .int s4, .int s3, .int s2, .int s1, .ref 0], (zS0, R, I, J)) r) : zEv (zXs Ls xs) d zm_285 (831, [some (.ref (zro + 0)), some (.ref 0), some (.ref 215), some (.int x3)], [.int s4, .int s3, .int s2, .int s1, .ref 0], (zS0, R, I, J)) r := by
  refine zEv_k 1 (f' := (832, [some (.ref (zro + 0)), some (.ref 0), some (.ref 215), some (.int x3)], [.int 0, .int s4, .int s3, .int s2, .int s1, .ref 0], (zS0, R, I, J))) rfl ?_
  exact k1
set_option maxRecDepth 50000 in
theorem b_285_832 {Ls : Nat} {xs : Nat → Int32} {d : Nat} {R : zR} {I : zI} {J : zJ} {r : zA} {x3 : Int32} {s1 : Int32} {s2 : Int32} {s3 : Int32} {s4 : Int32} {s5 : Int32} {w : Int64} {R' : zR} {I' : zI} {J' : zJ} (hc : zEv (zXs Ls xs) d zm_128 (0, [some (.ref 0), some (.int s1), some (.int s2), some (.int s3), some (.int s4), some (.int s5), none, none, none, none, none, none, none, none], [], (zS0, R, I, J)) (some (.long w), (zS0, R', I', J'))) (k1 : zEv (zXs Ls xs) (d + 1) zm_285 (835, [some (.ref (zro + 0)), some (.ref 0), some (.ref 215), some (.int x3)], [.long w], (zS0, R', I', J')) r) : zEv (zXs Ls xs) (d + 1) zm_285 (832, [some (.ref (zro + 0)), some (.ref 0), some (.ref 215), some (.int x3)], [.int s5, .int s4, .int s3, .int s2, .int s1, .ref 0], (zS0, R, I, J)) r := by
  exact zEv_c (fun _ => rfl) rfl hc rfl rfl k1
set_option maxRecDepth 50000 in
theorem b_285_835 {Ls : Nat} {xs : Nat → Int32} {d : Nat} {R : zR} {I : zI} {J : zJ} {r : zA} {x3 : Int32} {s0 : Int64} (h840 : zin (x3 + 1) Ls) (h845 : zin (x3 + 2) Ls) (h850 : zin (x3 + 3) Ls) (h855 : zin (x3 + 4) Ls) (h860 : zin (x3 + 5) Ls) (k1 : (xs (x3 + 5).toNatClampNeg) = 0 → zEv (zXs Ls xs) d zm_285 (868, [some (.ref (zro + 0)), some (.ref 0), some (.ref 215), some (.int x3)], [.int (xs (x3 + 4).toNatClampNeg), .int (xs (x3 + 3).toNatClampNeg), .int (xs (x3 + 2).toNatClampNeg), .int (xs (x3 + 1).toNatClampNeg), .ref 215, .long s0], (zS0, R, I, J)) r) (k2 : ¬ ((xs (x3 + 5).toNatClampNeg) = 0) → zEv (zXs Ls xs) d zm_285 (864, [some (.ref (zro + 0)), some (.ref 0), some (.ref 215), some (.int x3)], [.int (xs (x3 + 4).toNatClampNeg), .int (xs (x3 + 3).toNatClampNeg), .int (xs (x3 + 2).toNatClampNeg), .int (xs (x3 + 1).toNatClampNeg), .ref 215, .long s0], (zS0, R, I, J)) r) : zEv (zXs Ls xs) d zm_285 (835, [some (.ref (zro + 0)), some (.ref 0), some (.ref 215), some (.int x3)], [.long s0], (zS0, R, I, J)) r := by
  refine zEv_k 5 (f' := (840, [some (.ref (zro + 0)), some (.ref 0), some (.ref 215), some (.int x3)], [.int (x3 + 1), .ref (zro + 0), .ref 215, .long s0], (zS0, R, I, J))) rfl ?_
  refine zEv_iax (a := 0) rfl rfl h840 ?_
  refine zEv_k 4 (f' := (845, [some (.ref (zro + 0)), some (.ref 0), some (.ref 215), some (.int x3)], [.int (x3 + 2), .ref (zro + 0), .int (xs (x3 + 1).toNatClampNeg), .ref 215, .long s0], (zS0, R, I, J))) rfl ?_
  refine zEv_iax (a := 0) rfl rfl h845 ?_
  refine zEv_k 4 (f' := (850, [some (.ref (zro + 0)), some (.ref 0), some (.ref 215), some (.int x3)], [.int (x3 + 3), .ref (zro + 0), .int (xs (x3 + 2).toNatClampNeg), .int (xs (x3 + 1).toNatClampNeg), .ref 215, .long s0], (zS0, R, I, J))) rfl ?_
  refine zEv_iax (a := 0) rfl rfl h850 ?_
  refine zEv_k 4 (f' := (855, [some (.ref (zro + 0)), some (.ref 0), some (.ref 215), some (.int x3)], [.int (x3 + 4), .ref (zro + 0), .int (xs (x3 + 3).toNatClampNeg), .int (xs (x3 + 2).toNatClampNeg), .int (xs (x3 + 1).toNatClampNeg), .ref 215, .long s0], (zS0, R, I, J))) rfl ?_
  refine zEv_iax (a := 0) rfl rfl h855 ?_
  refine zEv_k 4 (f' := (860, [some (.ref (zro + 0)), some (.ref 0), some (.ref 215), some (.int x3)], [.int (x3 + 5), .ref (zro + 0), .int (xs (x3 + 4).toNatClampNeg), .int (xs (x3 + 3).toNatClampNeg), .int (xs (x3 + 2).toNatClampNeg), .int (xs (x3 + 1).toNatClampNeg), .ref 215, .long s0], (zS0, R, I, J))) rfl ?_
  refine zEv_iax (a := 0) rfl rfl h860 ?_
  refine zEv_k 1 (f' := (if (xs (x3 + 5).toNatClampNeg) = 0 then 868 else 864, [some (.ref (zro + 0)), some (.ref 0), some (.ref 215), some (.int x3)], [.int (xs (x3 + 4).toNatClampNeg), .int (xs (x3 + 3).toNatClampNeg), .int (xs (x3 + 2).toNatClampNeg), .int (xs (x3 + 1).toNatClampNeg), .ref 215, .long s0], (zS0, R, I, J))) rfl ?_
  exact zEv_if k1 k2
set_option maxRecDepth 50000 in
theorem b_285_864 {Ls : Nat} {xs : Nat → Int32} {d : Nat} {R : zR} {I : zI} {J : zJ} {r : zA} {x3 : Int32} {s0 : Int64} {s2 : Int32} {s3 : Int32} {s4 : Int32} {s5 : Int32} (k1 : zEv (zXs Ls xs) d zm_285 (869, [some (.ref (zro + 0)), some (.ref 0), some (.ref 215), some (.int x3)], [.int 1, .int s5, .int s4, .int s3, .int s2, .ref 215, .long s0], (zS0, R, I, J)) r) : zEv (zXs Ls xs) d zm_285 (864, [some (.ref (zro + 0)), some (.ref 0), some (.ref 215), some (.int x3)], [.int s5, .int s4, .int s3, .int s2, .ref 215, .long s0], (zS0, R, I, J)) r := by
  refine zEv_k 2 (f' := (869, [some (.ref (zro + 0)), some (.ref 0), some (.ref 215), some (.int x3)], [.int 1, .int s5, .int s4, .int s3, .int s2, .ref 215, .long s0], (zS0, R, I, J))) rfl ?_
  exact k1
set_option maxRecDepth 50000 in
theorem b_285_868 {Ls : Nat} {xs : Nat → Int32} {d : Nat} {R : zR} {I : zI} {J : zJ} {r : zA} {x3 : Int32} {s0 : Int64} {s2 : Int32} {s3 : Int32} {s4 : Int32} {s5 : Int32} (k1 : zEv (zXs Ls xs) d zm_285 (869, [some (.ref (zro + 0)), some (.ref 0), some (.ref 215), some (.int x3)], [.int 0, .int s5, .int s4, .int s3, .int s2, .ref 215, .long s0], (zS0, R, I, J)) r) : zEv (zXs Ls xs) d zm_285 (868, [some (.ref (zro + 0)), some (.ref 0), some (.ref 215), some (.int x3)], [.int s5, .int s4, .int s3, .int s2, .ref 215, .long s0], (zS0, R, I, J)) r := by
  refine zEv_k 1 (f' := (869, [some (.ref (zro + 0)), some (.ref 0), some (.ref 215), some (.int x3)], [.int 0, .int s5, .int s4, .int s3, .int s2, .ref 215, .long s0], (zS0, R, I, J))) rfl ?_
  exact k1
set_option maxRecDepth 50000 in
theorem b_285_869 {Ls : Nat} {xs : Nat → Int32} {d : Nat} {R : zR} {I : zI} {J : zJ} {r : zA} {x3 : Int32} {s0 : Int64} {s2 : Int32} {s3 : Int32} {s4 : Int32} {s5 : Int32} {s6 : Int32} {w : Int64} {R' : zR} {I' : zI} {J' : zJ} (hc : zEv (zXs Ls xs) d zm_226 (0, [some (.ref 215), some (.int s2), some (.int s3), some (.int s4), some (.int s5), some (.int s6), none, none, none, none, none, none, none, none, none], [], (zS0, R, I, J)) (some (.long w), (zS0, R', I', J'))) (k1 : zEv (zXs Ls xs) (d + 1) zm_285 (872, [some (.ref (zro + 0)), some (.ref 0), some (.ref 215), some (.int x3)], [.long w, .long s0], (zS0, R', I', J')) r) : zEv (zXs Ls xs) (d + 1) zm_285 (869, [some (.ref (zro + 0)), some (.ref 0), some (.ref 215), some (.int x3)], [.int s6, .int s5, .int s4, .int s3, .int s2, .ref 215, .long s0], (zS0, R, I, J)) r := by
  exact zEv_c (fun _ => rfl) rfl hc rfl rfl k1
set_option maxRecDepth 50000 in
theorem b_285_872 {Ls : Nat} {xs : Nat → Int32} {d : Nat} {R : zR} {I : zI} {J : zJ} {r : zA} {x3 : Int32} {s0 : Int64} {s1 : Int64} (k1 : (lg_cmp s0 s1) = 0 → zEv (zXs Ls xs) d zm_285 (1415, [some (.ref (zro + 0)), some (.ref 0), some (.ref 215), some (.int x3)], [], (zS0, R, I, J)) r) (k2 : ¬ ((lg_cmp s0 s1) = 0) → zEv (zXs Ls xs) d zm_285 (876, [some (.ref (zro + 0)), some (.ref 0), some (.ref 215), some (.int x3)], [], (zS0, R, I, J)) r) : zEv (zXs Ls xs) d zm_285 (872, [some (.ref (zro + 0)), some (.ref 0), some (.ref 215), some (.int x3)], [.long s1, .long s0], (zS0, R, I, J)) r := by
  refine zEv_k 2 (f' := (if (lg_cmp s0 s1) = 0 then 1415 else 876, [some (.ref (zro + 0)), some (.ref 0), some (.ref 215), some (.int x3)], [], (zS0, R, I, J))) rfl ?_
  exact zEv_if k1 k2
set_option maxRecDepth 50000 in
theorem b_285_876 {Ls : Nat} {xs : Nat → Int32} {d : Nat} {R : zR} {I : zI} {J : zJ} {x3 : Int32} : zEv (zXs Ls xs) d zm_285 (876, [some (.ref (zro + 0)), some (.ref 0), some (.ref 215), some (.int x3)], [], (zS0, R, I, J)) (some (.int 0), (zS0, R, I, J)) := by
  refine zEv_k 1 (f' := (877, [some (.ref (zro + 0)), some (.ref 0), some (.ref 215), some (.int x3)], [.int 0], (zS0, R, I, J))) rfl ?_
  exact zEv_r rfl
set_option maxRecDepth 50000 in
theorem b_285_878 {Ls : Nat} {xs : Nat → Int32} {d : Nat} {R : zR} {I : zI} {J : zJ} {r : zA} {x3 : Int32} {w : Int32} {R' : zR} {I' : zI} {J' : zJ} (h883 : zin (x3 + 1) Ls) (h888 : zin (x3 + 2) Ls) (h893 : zin (x3 + 3) Ls) (hc : zEv (zXs Ls xs) d zm_129 (0, [some (.ref 0), some (.int (xs (x3 + 1).toNatClampNeg)), some (.int (xs (x3 + 2).toNatClampNeg)), some (.int (xs (x3 + 3).toNatClampNeg)), none], [], (zS0, R, I, J)) (some (.int w), (zS0, R', I', J'))) (k1 : zEv (zXs Ls xs) (d + 1) zm_285 (897, [some (.ref (zro + 0)), some (.ref 0), some (.ref 215), some (.int x3)], [.int w], (zS0, R', I', J')) r) : zEv (zXs Ls xs) (d + 1) zm_285 (878, [some (.ref (zro + 0)), some (.ref 0), some (.ref 215), some (.int x3)], [], (zS0, R, I, J)) r := by
  refine zEv_k 5 (f' := (883, [some (.ref (zro + 0)), some (.ref 0), some (.ref 215), some (.int x3)], [.int (x3 + 1), .ref (zro + 0), .ref 0], (zS0, R, I, J))) rfl ?_
  refine zEv_iax (a := 0) rfl rfl h883 ?_
  refine zEv_k 4 (f' := (888, [some (.ref (zro + 0)), some (.ref 0), some (.ref 215), some (.int x3)], [.int (x3 + 2), .ref (zro + 0), .int (xs (x3 + 1).toNatClampNeg), .ref 0], (zS0, R, I, J))) rfl ?_
  refine zEv_iax (a := 0) rfl rfl h888 ?_
  refine zEv_k 4 (f' := (893, [some (.ref (zro + 0)), some (.ref 0), some (.ref 215), some (.int x3)], [.int (x3 + 3), .ref (zro + 0), .int (xs (x3 + 2).toNatClampNeg), .int (xs (x3 + 1).toNatClampNeg), .ref 0], (zS0, R, I, J))) rfl ?_
  refine zEv_iax (a := 0) rfl rfl h893 ?_
  exact zEv_c (fun _ => rfl) rfl hc rfl rfl k1
set_option maxRecDepth 50000 in
theorem b_285_897 {Ls : Nat} {xs : Nat → Int32} {d : Nat} {R : zR} {I : zI} {J : zJ} {r : zA} {x3 : Int32} {s0 : Int32} {w : Int32} {R' : zR} {I' : zI} {J' : zJ} (h902 : zin (x3 + 1) Ls) (h907 : zin (x3 + 2) Ls) (h912 : zin (x3 + 3) Ls) (hc : zEv (zXs Ls xs) d zm_230 (0, [some (.ref 215), some (.int (xs (x3 + 1).toNatClampNeg)), some (.int (xs (x3 + 2).toNatClampNeg)), some (.int (xs (x3 + 3).toNatClampNeg))], [], (zS0, R, I, J)) (some (.int w), (zS0, R', I', J'))) (k1 : zEv (zXs Ls xs) (d + 1) zm_285 (916, [some (.ref (zro + 0)), some (.ref 0), some (.ref 215), some (.int x3)], [.int w, .int s0], (zS0, R', I', J')) r) : zEv (zXs Ls xs) (d + 1) zm_285 (897, [some (.ref (zro + 0)), some (.ref 0), some (.ref 215), some (.int x3)], [.int s0], (zS0, R, I, J)) r := by
  refine zEv_k 5 (f' := (902, [some (.ref (zro + 0)), some (.ref 0), some (.ref 215), some (.int x3)], [.int (x3 + 1), .ref (zro + 0), .ref 215, .int s0], (zS0, R, I, J))) rfl ?_
  refine zEv_iax (a := 0) rfl rfl h902 ?_
  refine zEv_k 4 (f' := (907, [some (.ref (zro + 0)), some (.ref 0), some (.ref 215), some (.int x3)], [.int (x3 + 2), .ref (zro + 0), .int (xs (x3 + 1).toNatClampNeg), .ref 215, .int s0], (zS0, R, I, J))) rfl ?_
  refine zEv_iax (a := 0) rfl rfl h907 ?_
  refine zEv_k 4 (f' := (912, [some (.ref (zro + 0)), some (.ref 0), some (.ref 215), some (.int x3)], [.int (x3 + 3), .ref (zro + 0), .int (xs (x3 + 2).toNatClampNeg), .int (xs (x3 + 1).toNatClampNeg), .ref 215, .int s0], (zS0, R, I, J))) rfl ?_
  refine zEv_iax (a := 0) rfl rfl h912 ?_
  exact zEv_c (fun _ => rfl) rfl hc rfl rfl k1
set_option maxRecDepth 50000 in
theorem b_285_916 {Ls : Nat} {xs : Nat → Int32} {d : Nat} {R : zR} {I : zI} {J : zJ} {r : zA} {x3 : Int32} {s0 : Int32} {s1 : Int32} (k1 : s0 = s1 → zEv (zXs Ls xs) d zm_285 (1415, [some (.ref (zro + 0)), some (.ref 0), some (.ref 215), some (.int x3)], [], (zS0, R, I, J)) r) (k2 : ¬ (s0 = s1) → zEv (zXs Ls xs) d zm_285 (919, [some (.ref (zro + 0)), some (.ref 0), some (.ref 215), some (.int x3)], [], (zS0, R, I, J)) r) : zEv (zXs Ls xs) d zm_285 (916, [some (.ref (zro + 0)), some (.ref 0), some (.ref 215), some (.int x3)], [.int s1, .int s0], (zS0, R, I, J)) r := by
  refine zEv_k 1 (f' := (if s0 = s1 then 1415 else 919, [some (.ref (zro + 0)), some (.ref 0), some (.ref 215), some (.int x3)], [], (zS0, R, I, J))) rfl ?_
  exact zEv_if k1 k2
set_option maxRecDepth 50000 in
theorem b_285_919 {Ls : Nat} {xs : Nat → Int32} {d : Nat} {R : zR} {I : zI} {J : zJ} {x3 : Int32} : zEv (zXs Ls xs) d zm_285 (919, [some (.ref (zro + 0)), some (.ref 0), some (.ref 215), some (.int x3)], [], (zS0, R, I, J)) (some (.int 0), (zS0, R, I, J)) := by
  refine zEv_k 1 (f' := (920, [some (.ref (zro + 0)), some (.ref 0), some (.ref 215), some (.int x3)], [.int 0], (zS0, R, I, J))) rfl ?_
  exact zEv_r rfl
set_option maxRecDepth 50000 in
theorem b_285_921 {Ls : Nat} {xs : Nat → Int32} {d : Nat} {R : zR} {I : zI} {J : zJ} {r : zA} {x3 : Int32} {w : Int32} {R' : zR} {I' : zI} {J' : zJ} (h926 : zin (x3 + 1) Ls) (h931 : zin (x3 + 2) Ls) (h936 : zin (x3 + 3) Ls) (hc : zEv (zXs Ls xs) d zm_130 (0, [some (.ref 0), some (.int (xs (x3 + 1).toNatClampNeg)), some (.int (xs (x3 + 2).toNatClampNeg)), some (.int (xs (x3 + 3).toNatClampNeg)), none, none, none], [], (zS0, R, I, J)) (some (.int w), (zS0, R', I', J'))) (k1 : zEv (zXs Ls xs) (d + 1) zm_285 (940, [some (.ref (zro + 0)), some (.ref 0), some (.ref 215), some (.int x3)], [.int w], (zS0, R', I', J')) r) : zEv (zXs Ls xs) (d + 1) zm_285 (921, [some (.ref (zro + 0)), some (.ref 0), some (.ref 215), some (.int x3)], [], (zS0, R, I, J)) r := by
  refine zEv_k 5 (f' := (926, [some (.ref (zro + 0)), some (.ref 0), some (.ref 215), some (.int x3)], [.int (x3 + 1), .ref (zro + 0), .ref 0], (zS0, R, I, J))) rfl ?_
  refine zEv_iax (a := 0) rfl rfl h926 ?_
  refine zEv_k 4 (f' := (931, [some (.ref (zro + 0)), some (.ref 0), some (.ref 215), some (.int x3)], [.int (x3 + 2), .ref (zro + 0), .int (xs (x3 + 1).toNatClampNeg), .ref 0], (zS0, R, I, J))) rfl ?_
  refine zEv_iax (a := 0) rfl rfl h931 ?_
  refine zEv_k 4 (f' := (936, [some (.ref (zro + 0)), some (.ref 0), some (.ref 215), some (.int x3)], [.int (x3 + 3), .ref (zro + 0), .int (xs (x3 + 2).toNatClampNeg), .int (xs (x3 + 1).toNatClampNeg), .ref 0], (zS0, R, I, J))) rfl ?_
  refine zEv_iax (a := 0) rfl rfl h936 ?_
  exact zEv_c (fun _ => rfl) rfl hc rfl rfl k1
set_option maxRecDepth 50000 in
theorem b_285_940 {Ls : Nat} {xs : Nat → Int32} {d : Nat} {R : zR} {I : zI} {J : zJ} {r : zA} {x3 : Int32} {s0 : Int32} {w : Int32} {R' : zR} {I' : zI} {J' : zJ} (h945 : zin (x3 + 1) Ls) (h950 : zin (x3 + 2) Ls) (h955 : zin (x3 + 3) Ls) (hc : zEv (zXs Ls xs) d zm_236 (0, [some (.ref 215), some (.int (xs (x3 + 1).toNatClampNeg)), some (.int (xs (x3 + 2).toNatClampNeg)), some (.int (xs (x3 + 3).toNatClampNeg))], [], (zS0, R, I, J)) (some (.int w), (zS0, R', I', J'))) (k1 : zEv (zXs Ls xs) (d + 1) zm_285 (959, [some (.ref (zro + 0)), some (.ref 0), some (.ref 215), some (.int x3)], [.int w, .int s0], (zS0, R', I', J')) r) : zEv (zXs Ls xs) (d + 1) zm_285 (940, [some (.ref (zro + 0)), some (.ref 0), some (.ref 215), some (.int x3)], [.int s0], (zS0, R, I, J)) r := by
  refine zEv_k 5 (f' := (945, [some (.ref (zro + 0)), some (.ref 0), some (.ref 215), some (.int x3)], [.int (x3 + 1), .ref (zro + 0), .ref 215, .int s0], (zS0, R, I, J))) rfl ?_
  refine zEv_iax (a := 0) rfl rfl h945 ?_
  refine zEv_k 4 (f' := (950, [some (.ref (zro + 0)), some (.ref 0), some (.ref 215), some (.int x3)], [.int (x3 + 2), .ref (zro + 0), .int (xs (x3 + 1).toNatClampNeg), .ref 215, .int s0], (zS0, R, I, J))) rfl ?_
  refine zEv_iax (a := 0) rfl rfl h950 ?_
  refine zEv_k 4 (f' := (955, [some (.ref (zro + 0)), some (.ref 0), some (.ref 215), some (.int x3)], [.int (x3 + 3), .ref (zro + 0), .int (xs (x3 + 2).toNatClampNeg), .int (xs (x3 + 1).toNatClampNeg), .ref 215, .int s0], (zS0, R, I, J))) rfl ?_
  refine zEv_iax (a := 0) rfl rfl h955 ?_
  exact zEv_c (fun _ => rfl) rfl hc rfl rfl k1
set_option maxRecDepth 50000 in
theorem b_285_959 {Ls : Nat} {xs : Nat → Int32} {d : Nat} {R : zR} {I : zI} {J : zJ} {r : zA} {x3 : Int32} {s0 : Int32} {s1 : Int32} (k1 : s0 = s1 → zEv (zXs Ls xs) d zm_285 (1415, [some (.ref (zro + 0)), some (.ref 0), some (.ref 215), some (.int x3)], [], (zS0, R, I, J)) r) (k2 : ¬ (s0 = s1) → zEv (zXs Ls xs) d zm_285 (962, [some (.ref (zro + 0)), some (.ref 0), some (.ref 215), some (.int x3)], [], (zS0, R, I, J)) r) : zEv (zXs Ls xs) d zm_285 (959, [some (.ref (zro + 0)), some (.ref 0), some (.ref 215), some (.int x3)], [.int s1, .int s0], (zS0, R, I, J)) r := by
  refine zEv_k 1 (f' := (if s0 = s1 then 1415 else 962, [some (.ref (zro + 0)), some (.ref 0), some (.ref 215), some (.int x3)], [], (zS0, R, I, J))) rfl ?_
  exact zEv_if k1 k2
set_option maxRecDepth 50000 in
theorem b_285_962 {Ls : Nat} {xs : Nat → Int32} {d : Nat} {R : zR} {I : zI} {J : zJ} {x3 : Int32} : zEv (zXs Ls xs) d zm_285 (962, [some (.ref (zro + 0)), some (.ref 0), some (.ref 215), some (.int x3)], [], (zS0, R, I, J)) (some (.int 0), (zS0, R, I, J)) := by
  refine zEv_k 1 (f' := (963, [some (.ref (zro + 0)), some (.ref 0), some (.ref 215), some (.int x3)], [.int 0], (zS0, R, I, J))) rfl ?_
  exact zEv_r rfl
set_option maxRecDepth 50000 in
theorem b_285_964 {Ls : Nat} {xs : Nat → Int32} {d : Nat} {R : zR} {I : zI} {J : zJ} {r : zA} {x3 : Int32} {w : Int32} {R' : zR} {I' : zI} {J' : zJ} (h969 : zin (x3 + 1) Ls) (h974 : zin (x3 + 2) Ls) (h979 : zin (x3 + 3) Ls) (h984 : zin (x3 + 4) Ls) (hc : zEv (zXs Ls xs) d zm_131 (0, [some (.ref 0), some (.int (xs (x3 + 1).toNatClampNeg)), some (.int (xs (x3 + 2).toNatClampNeg)), some (.int (xs (x3 + 3).toNatClampNeg)), some (.int (xs (x3 + 4).toNatClampNeg)), none], [], (zS0, R, I, J)) (some (.int w), (zS0, R', I', J'))) (k1 : zEv (zXs Ls xs) (d + 1) zm_285 (988, [some (.ref (zro + 0)), some (.ref 0), some (.ref 215), some (.int x3)], [.int w], (zS0, R', I', J')) r) : zEv (zXs Ls xs) (d + 1) zm_285 (964, [some (.ref (zro + 0)), some (.ref 0), some (.ref 215), some (.int x3)], [], (zS0, R, I, J)) r := by
  refine zEv_k 5 (f' := (969, [some (.ref (zro + 0)), some (.ref 0), some (.ref 215), some (.int x3)], [.int (x3 + 1), .ref (zro + 0), .ref 0], (zS0, R, I, J))) rfl ?_
  refine zEv_iax (a := 0) rfl rfl h969 ?_
  refine zEv_k 4 (f' := (974, [some (.ref (zro + 0)), some (.ref 0), some (.ref 215), some (.int x3)], [.int (x3 + 2), .ref (zro + 0), .int (xs (x3 + 1).toNatClampNeg), .ref 0], (zS0, R, I, J))) rfl ?_
  refine zEv_iax (a := 0) rfl rfl h974 ?_
  refine zEv_k 4 (f' := (979, [some (.ref (zro + 0)), some (.ref 0), some (.ref 215), some (.int x3)], [.int (x3 + 3), .ref (zro + 0), .int (xs (x3 + 2).toNatClampNeg), .int (xs (x3 + 1).toNatClampNeg), .ref 0], (zS0, R, I, J))) rfl ?_
  refine zEv_iax (a := 0) rfl rfl h979 ?_
  refine zEv_k 4 (f' := (984, [some (.ref (zro + 0)), some (.ref 0), some (.ref 215), some (.int x3)], [.int (x3 + 4), .ref (zro + 0), .int (xs (x3 + 3).toNatClampNeg), .int (xs (x3 + 2).toNatClampNeg), .int (xs (x3 + 1).toNatClampNeg), .ref 0], (zS0, R, I, J))) rfl ?_
  refine zEv_iax (a := 0) rfl rfl h984 ?_
  exact zEv_c (fun _ => rfl) rfl hc rfl rfl k1
set_option maxRecDepth 50000 in
theorem b_285_988 {Ls : Nat} {xs : Nat → Int32} {d : Nat} {R : zR} {I : zI} {J : zJ} {r : zA} {x3 : Int32} {s0 : Int32} {w : Int32} {R' : zR} {I' : zI} {J' : zJ} (h993 : zin (x3 + 1) Ls) (h998 : zin (x3 + 2) Ls) (h1003 : zin (x3 + 3) Ls) (h1008 : zin (x3 + 4) Ls) (hc : zEv (zXs Ls xs) d zm_239 (0, [some (.ref 215), some (.int (xs (x3 + 1).toNatClampNeg)), some (.int (xs (x3 + 2).toNatClampNeg)), some (.int (xs (x3 + 3).toNatClampNeg)), some (.int (xs (x3 + 4).toNatClampNeg)), none], [], (zS0, R, I, J)) (some (.int w), (zS0, R', I', J'))) (k1 : zEv (zXs Ls xs) (d + 1) zm_285 (1012, [some (.ref (zro + 0)), some (.ref 0), some (.ref 215), some (.int x3)], [.int w, .int s0], (zS0, R', I', J')) r) : zEv (zXs Ls xs) (d + 1) zm_285 (988, [some (.ref (zro + 0)), some (.ref 0), some (.ref 215), some (.int x3)], [.int s0], (zS0, R, I, J)) r := by
  refine zEv_k 5 (f' := (993, [some (.ref (zro + 0)), some (.ref 0), some (.ref 215), some (.int x3)], [.int (x3 + 1), .ref (zro + 0), .ref 215, .int s0], (zS0, R, I, J))) rfl ?_
  refine zEv_iax (a := 0) rfl rfl h993 ?_
  refine zEv_k 4 (f' := (998, [some (.ref (zro + 0)), some (.ref 0), some (.ref 215), some (.int x3)], [.int (x3 + 2), .ref (zro + 0), .int (xs (x3 + 1).toNatClampNeg), .ref 215, .int s0], (zS0, R, I, J))) rfl ?_
  refine zEv_iax (a := 0) rfl rfl h998 ?_
  refine zEv_k 4 (f' := (1003, [some (.ref (zro + 0)), some (.ref 0), some (.ref 215), some (.int x3)], [.int (x3 + 3), .ref (zro + 0), .int (xs (x3 + 2).toNatClampNeg), .int (xs (x3 + 1).toNatClampNeg), .ref 215, .int s0], (zS0, R, I, J))) rfl ?_
  refine zEv_iax (a := 0) rfl rfl h1003 ?_
  refine zEv_k 4 (f' := (1008, [some (.ref (zro + 0)), some (.ref 0), some (.ref 215), some (.int x3)], [.int (x3 + 4), .ref (zro + 0), .int (xs (x3 + 3).toNatClampNeg), .int (xs (x3 + 2).toNatClampNeg), .int (xs (x3 + 1).toNatClampNeg), .ref 215, .int s0], (zS0, R, I, J))) rfl ?_
  refine zEv_iax (a := 0) rfl rfl h1008 ?_
  exact zEv_c (fun _ => rfl) rfl hc rfl rfl k1
set_option maxRecDepth 50000 in
theorem b_285_1012 {Ls : Nat} {xs : Nat → Int32} {d : Nat} {R : zR} {I : zI} {J : zJ} {r : zA} {x3 : Int32} {s0 : Int32} {s1 : Int32} (k1 : s0 = s1 → zEv (zXs Ls xs) d zm_285 (1415, [some (.ref (zro + 0)), some (.ref 0), some (.ref 215), some (.int x3)], [], (zS0, R, I, J)) r) (k2 : ¬ (s0 = s1) → zEv (zXs Ls xs) d zm_285 (1015, [some (.ref (zro + 0)), some (.ref 0), some (.ref 215), some (.int x3)], [], (zS0, R, I, J)) r) : zEv (zXs Ls xs) d zm_285 (1012, [some (.ref (zro + 0)), some (.ref 0), some (.ref 215), some (.int x3)], [.int s1, .int s0], (zS0, R, I, J)) r := by
  refine zEv_k 1 (f' := (if s0 = s1 then 1415 else 1015, [some (.ref (zro + 0)), some (.ref 0), some (.ref 215), some (.int x3)], [], (zS0, R, I, J))) rfl ?_
  exact zEv_if k1 k2
set_option maxRecDepth 50000 in
theorem b_285_1015 {Ls : Nat} {xs : Nat → Int32} {d : Nat} {R : zR} {I : zI} {J : zJ} {x3 : Int32} : zEv (zXs Ls xs) d zm_285 (1015, [some (.ref (zro + 0)), some (.ref 0), some (.ref 215), some (.int x3)], [], (zS0, R, I, J)) (some (.int 0), (zS0, R, I, J)) := by
  refine zEv_k 1 (f' := (1016, [some (.ref (zro + 0)), some (.ref 0), some (.ref 215), some (.int x3)], [.int 0], (zS0, R, I, J))) rfl ?_
  exact zEv_r rfl
set_option maxRecDepth 50000 in
theorem b_285_1017 {Ls : Nat} {xs : Nat → Int32} {d : Nat} {R : zR} {I : zI} {J : zJ} {r : zA} {x3 : Int32} {w : Int32} {R' : zR} {I' : zI} {J' : zJ} (h1022 : zin (x3 + 1) Ls) (h1027 : zin (x3 + 2) Ls) (hc : zEv (zXs Ls xs) d zm_132 (0, [some (.ref 0), some (.int (xs (x3 + 1).toNatClampNeg)), some (.int (xs (x3 + 2).toNatClampNeg)), none], [], (zS0, R, I, J)) (some (.int w), (zS0, R', I', J'))) (k1 : zEv (zXs Ls xs) (d + 1) zm_285 (1031, [some (.ref (zro + 0)), some (.ref 0), some (.ref 215), some (.int x3)], [.int w], (zS0, R', I', J')) r) : zEv (zXs Ls xs) (d + 1) zm_285 (1017, [some (.ref (zro + 0)), some (.ref 0), some (.ref 215), some (.int x3)], [], (zS0, R, I, J)) r := by
  refine zEv_k 5 (f' := (1022, [some (.ref (zro + 0)), some (.ref 0), some (.ref 215), some (.int x3)], [.int (x3 + 1), .ref (zro + 0), .ref 0], (zS0, R, I, J))) rfl ?_
  refine zEv_iax (a := 0) rfl rfl h1022 ?_
  refine zEv_k 4 (f' := (1027, [some (.ref (zro + 0)), some (.ref 0), some (.ref 215), some (.int x3)], [.int (x3 + 2), .ref (zro + 0), .int (xs (x3 + 1).toNatClampNeg), .ref 0], (zS0, R, I, J))) rfl ?_
  refine zEv_iax (a := 0) rfl rfl h1027 ?_
  exact zEv_c (fun _ => rfl) rfl hc rfl rfl k1
set_option maxRecDepth 50000 in
theorem b_285_1031 {Ls : Nat} {xs : Nat → Int32} {d : Nat} {R : zR} {I : zI} {J : zJ} {r : zA} {x3 : Int32} {s0 : Int32} {w : Int32} {R' : zR} {I' : zI} {J' : zJ} (h1036 : zin (x3 + 1) Ls) (h1041 : zin (x3 + 2) Ls) (hc : zEv (zXs Ls xs) d zm_258 (0, [some (.ref 215), some (.int (xs (x3 + 1).toNatClampNeg)), some (.int (xs (x3 + 2).toNatClampNeg))], [], (zS0, R, I, J)) (some (.int w), (zS0, R', I', J'))) (k1 : zEv (zXs Ls xs) (d + 1) zm_285 (1045, [some (.ref (zro + 0)), some (.ref 0), some (.ref 215), some (.int x3)], [.int w, .int s0], (zS0, R', I', J')) r) : zEv (zXs Ls xs) (d + 1) zm_285 (1031, [some (.ref (zro + 0)), some (.ref 0), some (.ref 215), some (.int x3)], [.int s0], (zS0, R, I, J)) r := by
  refine zEv_k 5 (f' := (1036, [some (.ref (zro + 0)), some (.ref 0), some (.ref 215), some (.int x3)], [.int (x3 + 1), .ref (zro + 0), .ref 215, .int s0], (zS0, R, I, J))) rfl ?_
  refine zEv_iax (a := 0) rfl rfl h1036 ?_
  refine zEv_k 4 (f' := (1041, [some (.ref (zro + 0)), some (.ref 0), some (.ref 215), some (.int x3)], [.int (x3 + 2), .ref (zro + 0), .int (xs (x3 + 1).toNatClampNeg), .ref 215, .int s0], (zS0, R, I, J))) rfl ?_
  refine zEv_iax (a := 0) rfl rfl h1041 ?_
  exact zEv_c (fun _ => rfl) rfl hc rfl rfl k1
set_option maxRecDepth 50000 in
theorem b_285_1045 {Ls : Nat} {xs : Nat → Int32} {d : Nat} {R : zR} {I : zI} {J : zJ} {r : zA} {x3 : Int32} {s0 : Int32} {s1 : Int32} (k1 : s0 = s1 → zEv (zXs Ls xs) d zm_285 (1415, [some (.ref (zro + 0)), some (.ref 0), some (.ref 215), some (.int x3)], [], (zS0, R, I, J)) r) (k2 : ¬ (s0 = s1) → zEv (zXs Ls xs) d zm_285 (1048, [some (.ref (zro + 0)), some (.ref 0), some (.ref 215), some (.int x3)], [], (zS0, R, I, J)) r) : zEv (zXs Ls xs) d zm_285 (1045, [some (.ref (zro + 0)), some (.ref 0), some (.ref 215), some (.int x3)], [.int s1, .int s0], (zS0, R, I, J)) r := by
  refine zEv_k 1 (f' := (if s0 = s1 then 1415 else 1048, [some (.ref (zro + 0)), some (.ref 0), some (.ref 215), some (.int x3)], [], (zS0, R, I, J))) rfl ?_
  exact zEv_if k1 k2
set_option maxRecDepth 50000 in
theorem b_285_1048 {Ls : Nat} {xs : Nat → Int32} {d : Nat} {R : zR} {I : zI} {J : zJ} {x3 : Int32} : zEv (zXs Ls xs) d zm_285 (1048, [some (.ref (zro + 0)), some (.ref 0), some (.ref 215), some (.int x3)], [], (zS0, R, I, J)) (some (.int 0), (zS0, R, I, J)) := by
  refine zEv_k 1 (f' := (1049, [some (.ref (zro + 0)), some (.ref 0), some (.ref 215), some (.int x3)], [.int 0], (zS0, R, I, J))) rfl ?_
  exact zEv_r rfl
set_option maxRecDepth 50000 in
theorem b_285_1050 {Ls : Nat} {xs : Nat → Int32} {d : Nat} {R : zR} {I : zI} {J : zJ} {r : zA} {x3 : Int32} {w : Int32} {R' : zR} {I' : zI} {J' : zJ} (h1055 : zin (x3 + 1) Ls) (h1060 : zin (x3 + 2) Ls) (hc : zEv (zXs Ls xs) d zm_133 (0, [some (.ref 0), some (.int (xs (x3 + 1).toNatClampNeg)), some (.int (xs (x3 + 2).toNatClampNeg)), none], [], (zS0, R, I, J)) (some (.int w), (zS0, R', I', J'))) (k1 : zEv (zXs Ls xs) (d + 1) zm_285 (1064, [some (.ref (zro + 0)), some (.ref 0), some (.ref 215), some (.int x3)], [.int w], (zS0, R', I', J')) r) : zEv (zXs Ls xs) (d + 1) zm_285 (1050, [some (.ref (zro + 0)), some (.ref 0), some (.ref 215), some (.int x3)], [], (zS0, R, I, J)) r := by
  refine zEv_k 5 (f' := (1055, [some (.ref (zro + 0)), some (.ref 0), some (.ref 215), some (.int x3)], [.int (x3 + 1), .ref (zro + 0), .ref 0], (zS0, R, I, J))) rfl ?_
  refine zEv_iax (a := 0) rfl rfl h1055 ?_
  refine zEv_k 4 (f' := (1060, [some (.ref (zro + 0)), some (.ref 0), some (.ref 215), some (.int x3)], [.int (x3 + 2), .ref (zro + 0), .int (xs (x3 + 1).toNatClampNeg), .ref 0], (zS0, R, I, J))) rfl ?_
  refine zEv_iax (a := 0) rfl rfl h1060 ?_
  exact zEv_c (fun _ => rfl) rfl hc rfl rfl k1
set_option maxRecDepth 50000 in
theorem b_285_1064 {Ls : Nat} {xs : Nat → Int32} {d : Nat} {R : zR} {I : zI} {J : zJ} {r : zA} {x3 : Int32} {s0 : Int32} {w : Int32} {R' : zR} {I' : zI} {J' : zJ} (h1069 : zin (x3 + 1) Ls) (h1074 : zin (x3 + 2) Ls) (hc : zEv (zXs Ls xs) d zm_259 (0, [some (.ref 215), some (.int (xs (x3 + 1).toNatClampNeg)), some (.int (xs (x3 + 2).toNatClampNeg)), none, none], [], (zS0, R, I, J)) (some (.int w), (zS0, R', I', J'))) (k1 : zEv (zXs Ls xs) (d + 1) zm_285 (1078, [some (.ref (zro + 0)), some (.ref 0), some (.ref 215), some (.int x3)], [.int w, .int s0], (zS0, R', I', J')) r) : zEv (zXs Ls xs) (d + 1) zm_285 (1064, [some (.ref (zro + 0)), some (.ref 0), some (.ref 215), some (.int x3)], [.int s0], (zS0, R, I, J)) r := by
  refine zEv_k 5 (f' := (1069, [some (.ref (zro + 0)), some (.ref 0), some (.ref 215), some (.int x3)], [.int (x3 + 1), .ref (zro + 0), .ref 215, .int s0], (zS0, R, I, J))) rfl ?_
  refine zEv_iax (a := 0) rfl rfl h1069 ?_
  refine zEv_k 4 (f' := (1074, [some (.ref (zro + 0)), some (.ref 0), some (.ref 215), some (.int x3)], [.int (x3 + 2), .ref (zro + 0), .int (xs (x3 + 1).toNatClampNeg), .ref 215, .int s0], (zS0, R, I, J))) rfl ?_
  refine zEv_iax (a := 0) rfl rfl h1074 ?_
  exact zEv_c (fun _ => rfl) rfl hc rfl rfl k1
set_option maxRecDepth 50000 in
theorem b_285_1078 {Ls : Nat} {xs : Nat → Int32} {d : Nat} {R : zR} {I : zI} {J : zJ} {r : zA} {x3 : Int32} {s0 : Int32} {s1 : Int32} (k1 : s0 = s1 → zEv (zXs Ls xs) d zm_285 (1415, [some (.ref (zro + 0)), some (.ref 0), some (.ref 215), some (.int x3)], [], (zS0, R, I, J)) r) (k2 : ¬ (s0 = s1) → zEv (zXs Ls xs) d zm_285 (1081, [some (.ref (zro + 0)), some (.ref 0), some (.ref 215), some (.int x3)], [], (zS0, R, I, J)) r) : zEv (zXs Ls xs) d zm_285 (1078, [some (.ref (zro + 0)), some (.ref 0), some (.ref 215), some (.int x3)], [.int s1, .int s0], (zS0, R, I, J)) r := by
  refine zEv_k 1 (f' := (if s0 = s1 then 1415 else 1081, [some (.ref (zro + 0)), some (.ref 0), some (.ref 215), some (.int x3)], [], (zS0, R, I, J))) rfl ?_
  exact zEv_if k1 k2
set_option maxRecDepth 50000 in
theorem b_285_1081 {Ls : Nat} {xs : Nat → Int32} {d : Nat} {R : zR} {I : zI} {J : zJ} {x3 : Int32} : zEv (zXs Ls xs) d zm_285 (1081, [some (.ref (zro + 0)), some (.ref 0), some (.ref 215), some (.int x3)], [], (zS0, R, I, J)) (some (.int 0), (zS0, R, I, J)) := by
  refine zEv_k 1 (f' := (1082, [some (.ref (zro + 0)), some (.ref 0), some (.ref 215), some (.int x3)], [.int 0], (zS0, R, I, J))) rfl ?_
  exact zEv_r rfl
set_option maxRecDepth 50000 in
theorem b_285_1083 {Ls : Nat} {xs : Nat → Int32} {d : Nat} {R : zR} {I : zI} {J : zJ} {r : zA} {x3 : Int32} {w : Int32} {R' : zR} {I' : zI} {J' : zJ} (h1088 : zin (x3 + 1) Ls) (h1093 : zin (x3 + 2) Ls) (hc : zEv (zXs Ls xs) d zm_134 (0, [some (.ref 0), some (.int (xs (x3 + 1).toNatClampNeg)), some (.int (xs (x3 + 2).toNatClampNeg)), none], [], (zS0, R, I, J)) (some (.int w), (zS0, R', I', J'))) (k1 : zEv (zXs Ls xs) (d + 1) zm_285 (1097, [some (.ref (zro + 0)), some (.ref 0), some (.ref 215), some (.int x3)], [.int w], (zS0, R', I', J')) r) : zEv (zXs Ls xs) (d + 1) zm_285 (1083, [some (.ref (zro + 0)), some (.ref 0), some (.ref 215), some (.int x3)], [], (zS0, R, I, J)) r := by
  refine zEv_k 5 (f' := (1088, [some (.ref (zro + 0)), some (.ref 0), some (.ref 215), some (.int x3)], [.int (x3 + 1), .ref (zro + 0), .ref 0], (zS0, R, I, J))) rfl ?_
  refine zEv_iax (a := 0) rfl rfl h1088 ?_
  refine zEv_k 4 (f' := (1093, [some (.ref (zro + 0)), some (.ref 0), some (.ref 215), some (.int x3)], [.int (x3 + 2), .ref (zro + 0), .int (xs (x3 + 1).toNatClampNeg), .ref 0], (zS0, R, I, J))) rfl ?_
  refine zEv_iax (a := 0) rfl rfl h1093 ?_
  exact zEv_c (fun _ => rfl) rfl hc rfl rfl k1
set_option maxRecDepth 50000 in
theorem b_285_1097 {Ls : Nat} {xs : Nat → Int32} {d : Nat} {R : zR} {I : zI} {J : zJ} {r : zA} {x3 : Int32} {s0 : Int32} {w : Int32} {R' : zR} {I' : zI} {J' : zJ} (h1102 : zin (x3 + 1) Ls) (h1107 : zin (x3 + 2) Ls) (hc : zEv (zXs Ls xs) d zm_260 (0, [some (.ref 215), some (.int (xs (x3 + 1).toNatClampNeg)), some (.int (xs (x3 + 2).toNatClampNeg)), none, none], [], (zS0, R, I, J)) (some (.int w), (zS0, R', I', J'))) (k1 : zEv (zXs Ls xs) (d + 1) zm_285 (1111, [some (.ref (zro + 0)), some (.ref 0), some (.ref 215), some (.int x3)], [.int w, .int s0], (zS0, R', I', J')) r) : zEv (zXs Ls xs) (d + 1) zm_285 (1097, [some (.ref (zro + 0)), some (.ref 0), some (.ref 215), some (.int x3)], [.int s0], (zS0, R, I, J)) r := by
  refine zEv_k 5 (f' := (1102, [some (.ref (zro + 0)), some (.ref 0), some (.ref 215), some (.int x3)], [.int (x3 + 1), .ref (zro + 0), .ref 215, .int s0], (zS0, R, I, J))) rfl ?_
  refine zEv_iax (a := 0) rfl rfl h1102 ?_
  refine zEv_k 4 (f' := (1107, [some (.ref (zro + 0)), some (.ref 0), some (.ref 215), some (.int x3)], [.int (x3 + 2), .ref (zro + 0), .int (xs (x3 + 1).toNatClampNeg), .ref 215, .int s0], (zS0, R, I, J))) rfl ?_
  refine zEv_iax (a := 0) rfl rfl h1107 ?_
  exact zEv_c (fun _ => rfl) rfl hc rfl rfl k1
set_option maxRecDepth 50000 in
theorem b_285_1111 {Ls : Nat} {xs : Nat → Int32} {d : Nat} {R : zR} {I : zI} {J : zJ} {r : zA} {x3 : Int32} {s0 : Int32} {s1 : Int32} (k1 : s0 = s1 → zEv (zXs Ls xs) d zm_285 (1415, [some (.ref (zro + 0)), some (.ref 0), some (.ref 215), some (.int x3)], [], (zS0, R, I, J)) r) (k2 : ¬ (s0 = s1) → zEv (zXs Ls xs) d zm_285 (1114, [some (.ref (zro + 0)), some (.ref 0), some (.ref 215), some (.int x3)], [], (zS0, R, I, J)) r) : zEv (zXs Ls xs) d zm_285 (1111, [some (.ref (zro + 0)), some (.ref 0), some (.ref 215), some (.int x3)], [.int s1, .int s0], (zS0, R, I, J)) r := by
  refine zEv_k 1 (f' := (if s0 = s1 then 1415 else 1114, [some (.ref (zro + 0)), some (.ref 0), some (.ref 215), some (.int x3)], [], (zS0, R, I, J))) rfl ?_
  exact zEv_if k1 k2
set_option maxRecDepth 50000 in
theorem b_285_1114 {Ls : Nat} {xs : Nat → Int32} {d : Nat} {R : zR} {I : zI} {J : zJ} {x3 : Int32} : zEv (zXs Ls xs) d zm_285 (1114, [some (.ref (zro + 0)), some (.ref 0), some (.ref 215), some (.int x3)], [], (zS0, R, I, J)) (some (.int 0), (zS0, R, I, J)) := by
  refine zEv_k 1 (f' := (1115, [some (.ref (zro + 0)), some (.ref 0), some (.ref 215), some (.int x3)], [.int 0], (zS0, R, I, J))) rfl ?_
  exact zEv_r rfl
set_option maxRecDepth 50000 in
theorem b_285_1116 {Ls : Nat} {xs : Nat → Int32} {d : Nat} {R : zR} {I : zI} {J : zJ} {r : zA} {x3 : Int32} (h1121 : zin (x3 + 1) Ls) (h1126 : zin (x3 + 2) Ls) (h1131 : zin (x3 + 3) Ls) (k1 : (xs (x3 + 3).toNatClampNeg) = 0 → zEv (zXs Ls xs) d zm_285 (1139, [some (.ref (zro + 0)), some (.ref 0), some (.ref 215), some (.int x3)], [.int (xs (x3 + 2).toNatClampNeg), .int (xs (x3 + 1).toNatClampNeg), .ref 0], (zS0, R, I, J)) r) (k2 : ¬ ((xs (x3 + 3).toNatClampNeg) = 0) → zEv (zXs Ls xs) d zm_285 (1135, [some (.ref (zro + 0)), some (.ref 0), some (.ref 215), some (.int x3)], [.int (xs (x3 + 2).toNatClampNeg), .int (xs (x3 + 1).toNatClampNeg), .ref 0], (zS0, R, I, J)) r) : zEv (zXs Ls xs) d zm_285 (1116, [some (.ref (zro + 0)), some (.ref 0), some (.ref 215), some (.int x3)], [], (zS0, R, I, J)) r := by
  refine zEv_k 5 (f' := (1121, [some (.ref (zro + 0)), some (.ref 0), some (.ref 215), some (.int x3)], [.int (x3 + 1), .ref (zro + 0), .ref 0], (zS0, R, I, J))) rfl ?_
  refine zEv_iax (a := 0) rfl rfl h1121 ?_
  refine zEv_k 4 (f' := (1126, [some (.ref (zro + 0)), some (.ref 0), some (.ref 215), some (.int x3)], [.int (x3 + 2), .ref (zro + 0), .int (xs (x3 + 1).toNatClampNeg), .ref 0], (zS0, R, I, J))) rfl ?_
  refine zEv_iax (a := 0) rfl rfl h1126 ?_
  refine zEv_k 4 (f' := (1131, [some (.ref (zro + 0)), some (.ref 0), some (.ref 215), some (.int x3)], [.int (x3 + 3), .ref (zro + 0), .int (xs (x3 + 2).toNatClampNeg), .int (xs (x3 + 1).toNatClampNeg), .ref 0], (zS0, R, I, J))) rfl ?_
  refine zEv_iax (a := 0) rfl rfl h1131 ?_
  refine zEv_k 1 (f' := (if (xs (x3 + 3).toNatClampNeg) = 0 then 1139 else 1135, [some (.ref (zro + 0)), some (.ref 0), some (.ref 215), some (.int x3)], [.int (xs (x3 + 2).toNatClampNeg), .int (xs (x3 + 1).toNatClampNeg), .ref 0], (zS0, R, I, J))) rfl ?_
  exact zEv_if k1 k2
set_option maxRecDepth 50000 in
theorem b_285_1135 {Ls : Nat} {xs : Nat → Int32} {d : Nat} {R : zR} {I : zI} {J : zJ} {r : zA} {x3 : Int32} {s1 : Int32} {s2 : Int32} (k1 : zEv (zXs Ls xs) d zm_285 (1140, [some (.ref (zro + 0)), some (.ref 0), some (.ref 215), some (.int x3)], [.int 1, .int s2, .int s1, .ref 0], (zS0, R, I, J)) r) : zEv (zXs Ls xs) d zm_285 (1135, [some (.ref (zro + 0)), some (.ref 0), some (.ref 215), some (.int x3)], [.int s2, .int s1, .ref 0], (zS0, R, I, J)) r := by
  refine zEv_k 2 (f' := (1140, [some (.ref (zro + 0)), some (.ref 0), some (.ref 215), some (.int x3)], [.int 1, .int s2, .int s1, .ref 0], (zS0, R, I, J))) rfl ?_
  exact k1
set_option maxRecDepth 50000 in
theorem b_285_1139 {Ls : Nat} {xs : Nat → Int32} {d : Nat} {R : zR} {I : zI} {J : zJ} {r : zA} {x3 : Int32} {s1 : Int32} {s2 : Int32} (k1 : zEv (zXs Ls xs) d zm_285 (1140, [some (.ref (zro + 0)), some (.ref 0), some (.ref 215), some (.int x3)], [.int 0, .int s2, .int s1, .ref 0], (zS0, R, I, J)) r) : zEv (zXs Ls xs) d zm_285 (1139, [some (.ref (zro + 0)), some (.ref 0), some (.ref 215), some (.int x3)], [.int s2, .int s1, .ref 0], (zS0, R, I, J)) r := by
  refine zEv_k 1 (f' := (1140, [some (.ref (zro + 0)), some (.ref 0), some (.ref 215), some (.int x3)], [.int 0, .int s2, .int s1, .ref 0], (zS0, R, I, J))) rfl ?_
  exact k1
set_option maxRecDepth 50000 in
theorem b_285_1140 {Ls : Nat} {xs : Nat → Int32} {d : Nat} {R : zR} {I : zI} {J : zJ} {r : zA} {x3 : Int32} {s1 : Int32} {s2 : Int32} {s3 : Int32} {w : Int32} {R' : zR} {I' : zI} {J' : zJ} (hc : zEv (zXs Ls xs) d zm_135 (0, [some (.ref 0), some (.int s1), some (.int s2), some (.int s3), none, none], [], (zS0, R, I, J)) (some (.int w), (zS0, R', I', J'))) (k1 : zEv (zXs Ls xs) (d + 1) zm_285 (1143, [some (.ref (zro + 0)), some (.ref 0), some (.ref 215), some (.int x3)], [.int w], (zS0, R', I', J')) r) : zEv (zXs Ls xs) (d + 1) zm_285 (1140, [some (.ref (zro + 0)), some (.ref 0), some (.ref 215), some (.int x3)], [.int s3, .int s2, .int s1, .ref 0], (zS0, R, I, J)) r := by
  exact zEv_c (fun _ => rfl) rfl hc rfl rfl k1
set_option maxRecDepth 50000 in
theorem b_285_1143 {Ls : Nat} {xs : Nat → Int32} {d : Nat} {R : zR} {I : zI} {J : zJ} {r : zA} {x3 : Int32} {s0 : Int32} (h1148 : zin (x3 + 1) Ls) (h1153 : zin (x3 + 2) Ls) (h1158 : zin (x3 + 3) Ls) (k1 : (xs (x3 + 3).toNatClampNeg) = 0 → zEv (zXs Ls xs) d zm_285 (1166, [some (.ref (zro + 0)), some (.ref 0), some (.ref 215), some (.int x3)], [.int (xs (x3 + 2).toNatClampNeg), .int (xs (x3 + 1).toNatClampNeg), .ref 215, .int s0], (zS0, R, I, J)) r) (k2 : ¬ ((xs (x3 + 3).toNatClampNeg) = 0) → zEv (zXs Ls xs) d zm_285 (1162, [some (.ref (zro + 0)), some (.ref 0), some (.ref 215), some (.int x3)], [.int (xs (x3 + 2).toNatClampNeg), .int (xs (x3 + 1).toNatClampNeg), .ref 215, .int s0], (zS0, R, I, J)) r) : zEv (zXs Ls xs) d zm_285 (1143, [some (.ref (zro + 0)), some (.ref 0), some (.ref 215), some (.int x3)], [.int s0], (zS0, R, I, J)) r := by
  refine zEv_k 5 (f' := (1148, [some (.ref (zro + 0)), some (.ref 0), some (.ref 215), some (.int x3)], [.int (x3 + 1), .ref (zro + 0), .ref 215, .int s0], (zS0, R, I, J))) rfl ?_
  refine zEv_iax (a := 0) rfl rfl h1148 ?_
  refine zEv_k 4 (f' := (1153, [some (.ref (zro + 0)), some (.ref 0), some (.ref 215), some (.int x3)], [.int (x3 + 2), .ref (zro + 0), .int (xs (x3 + 1).toNatClampNeg), .ref 215, .int s0], (zS0, R, I, J))) rfl ?_
  refine zEv_iax (a := 0) rfl rfl h1153 ?_
  refine zEv_k 4 (f' := (1158, [some (.ref (zro + 0)), some (.ref 0), some (.ref 215), some (.int x3)], [.int (x3 + 3), .ref (zro + 0), .int (xs (x3 + 2).toNatClampNeg), .int (xs (x3 + 1).toNatClampNeg), .ref 215, .int s0], (zS0, R, I, J))) rfl ?_
  refine zEv_iax (a := 0) rfl rfl h1158 ?_
  refine zEv_k 1 (f' := (if (xs (x3 + 3).toNatClampNeg) = 0 then 1166 else 1162, [some (.ref (zro + 0)), some (.ref 0), some (.ref 215), some (.int x3)], [.int (xs (x3 + 2).toNatClampNeg), .int (xs (x3 + 1).toNatClampNeg), .ref 215, .int s0], (zS0, R, I, J))) rfl ?_
  exact zEv_if k1 k2
set_option maxRecDepth 50000 in
theorem b_285_1162 {Ls : Nat} {xs : Nat → Int32} {d : Nat} {R : zR} {I : zI} {J : zJ} {r : zA} {x3 : Int32} {s0 : Int32} {s2 : Int32} {s3 : Int32} (k1 : zEv (zXs Ls xs) d zm_285 (1167, [some (.ref (zro + 0)), some (.ref 0), some (.ref 215), some (.int x3)], [.int 1, .int s3, .int s2, .ref 215, .int s0], (zS0, R, I, J)) r) : zEv (zXs Ls xs) d zm_285 (1162, [some (.ref (zro + 0)), some (.ref 0), some (.ref 215), some (.int x3)], [.int s3, .int s2, .ref 215, .int s0], (zS0, R, I, J)) r := by
  refine zEv_k 2 (f' := (1167, [some (.ref (zro + 0)), some (.ref 0), some (.ref 215), some (.int x3)], [.int 1, .int s3, .int s2, .ref 215, .int s0], (zS0, R, I, J))) rfl ?_
  exact k1
set_option maxRecDepth 50000 in
theorem b_285_1166 {Ls : Nat} {xs : Nat → Int32} {d : Nat} {R : zR} {I : zI} {J : zJ} {r : zA} {x3 : Int32} {s0 : Int32} {s2 : Int32} {s3 : Int32} (k1 : zEv (zXs Ls xs) d zm_285 (1167, [some (.ref (zro + 0)), some (.ref 0), some (.ref 215), some (.int x3)], [.int 0, .int s3, .int s2, .ref 215, .int s0], (zS0, R, I, J)) r) : zEv (zXs Ls xs) d zm_285 (1166, [some (.ref (zro + 0)), some (.ref 0), some (.ref 215), some (.int x3)], [.int s3, .int s2, .ref 215, .int s0], (zS0, R, I, J)) r := by
  refine zEv_k 1 (f' := (1167, [some (.ref (zro + 0)), some (.ref 0), some (.ref 215), some (.int x3)], [.int 0, .int s3, .int s2, .ref 215, .int s0], (zS0, R, I, J))) rfl ?_
  exact k1
set_option maxRecDepth 50000 in
theorem b_285_1167 {Ls : Nat} {xs : Nat → Int32} {d : Nat} {R : zR} {I : zI} {J : zJ} {r : zA} {x3 : Int32} {s0 : Int32} {s2 : Int32} {s3 : Int32} {s4 : Int32} {w : Int32} {R' : zR} {I' : zI} {J' : zJ} (hc : zEv (zXs Ls xs) d zm_262 (0, [some (.ref 215), some (.int s2), some (.int s3), some (.int s4), none, none, none], [], (zS0, R, I, J)) (some (.int w), (zS0, R', I', J'))) (k1 : zEv (zXs Ls xs) (d + 1) zm_285 (1170, [some (.ref (zro + 0)), some (.ref 0), some (.ref 215), some (.int x3)], [.int w, .int s0], (zS0, R', I', J')) r) : zEv (zXs Ls xs) (d + 1) zm_285 (1167, [some (.ref (zro + 0)), some (.ref 0), some (.ref 215), some (.int x3)], [.int s4, .int s3, .int s2, .ref 215, .int s0], (zS0, R, I, J)) r := by
  exact zEv_c (fun _ => rfl) rfl hc rfl rfl k1
set_option maxRecDepth 50000 in
theorem b_285_1170 {Ls : Nat} {xs : Nat → Int32} {d : Nat} {R : zR} {I : zI} {J : zJ} {r : zA} {x3 : Int32} {s0 : Int32} {s1 : Int32} (k1 : s0 = s1 → zEv (zXs Ls xs) d zm_285 (1415, [some (.ref (zro + 0)), some (.ref 0), some (.ref 215), some (.int x3)], [], (zS0, R, I, J)) r) (k2 : ¬ (s0 = s1) → zEv (zXs Ls xs) d zm_285 (1173, [some (.ref (zro + 0)), some (.ref 0), some (.ref 215), some (.int x3)], [], (zS0, R, I, J)) r) : zEv (zXs Ls xs) d zm_285 (1170, [some (.ref (zro + 0)), some (.ref 0), some (.ref 215), some (.int x3)], [.int s1, .int s0], (zS0, R, I, J)) r := by
  refine zEv_k 1 (f' := (if s0 = s1 then 1415 else 1173, [some (.ref (zro + 0)), some (.ref 0), some (.ref 215), some (.int x3)], [], (zS0, R, I, J))) rfl ?_
  exact zEv_if k1 k2
set_option maxRecDepth 50000 in
theorem b_285_1173 {Ls : Nat} {xs : Nat → Int32} {d : Nat} {R : zR} {I : zI} {J : zJ} {x3 : Int32} : zEv (zXs Ls xs) d zm_285 (1173, [some (.ref (zro + 0)), some (.ref 0), some (.ref 215), some (.int x3)], [], (zS0, R, I, J)) (some (.int 0), (zS0, R, I, J)) := by
  refine zEv_k 1 (f' := (1174, [some (.ref (zro + 0)), some (.ref 0), some (.ref 215), some (.int x3)], [.int 0], (zS0, R, I, J))) rfl ?_
  exact zEv_r rfl
set_option maxRecDepth 50000 in
theorem b_285_1175 {Ls : Nat} {xs : Nat → Int32} {d : Nat} {R : zR} {I : zI} {J : zJ} {r : zA} {x3 : Int32} {w : Int32} {R' : zR} {I' : zI} {J' : zJ} (h1180 : zin (x3 + 1) Ls) (h1185 : zin (x3 + 2) Ls) (h1190 : zin (x3 + 3) Ls) (hc : zEv (zXs Ls xs) d zm_136 (0, [some (.ref 0), some (.int (xs (x3 + 1).toNatClampNeg)), some (.int (xs (x3 + 2).toNatClampNeg)), some (.int (xs (x3 + 3).toNatClampNeg)), none, none], [], (zS0, R, I, J)) (some (.int w), (zS0, R', I', J'))) (k1 : zEv (zXs Ls xs) (d + 1) zm_285 (1194, [some (.ref (zro + 0)), some (.ref 0), some (.ref 215), some (.int x3)], [.int w], (zS0, R', I', J')) r) : zEv (zXs Ls xs) (d + 1) zm_285 (1175, [some (.ref (zro + 0)), some (.ref 0), some (.ref 215), some (.int x3)], [], (zS0, R, I, J)) r := by
  refine zEv_k 5 (f' := (1180, [some (.ref (zro + 0)), some (.ref 0), some (.ref 215), some (.int x3)], [.int (x3 + 1), .ref (zro + 0), .ref 0], (zS0, R, I, J))) rfl ?_
  refine zEv_iax (a := 0) rfl rfl h1180 ?_
  refine zEv_k 4 (f' := (1185, [some (.ref (zro + 0)), some (.ref 0), some (.ref 215), some (.int x3)], [.int (x3 + 2), .ref (zro + 0), .int (xs (x3 + 1).toNatClampNeg), .ref 0], (zS0, R, I, J))) rfl ?_
  refine zEv_iax (a := 0) rfl rfl h1185 ?_
  refine zEv_k 4 (f' := (1190, [some (.ref (zro + 0)), some (.ref 0), some (.ref 215), some (.int x3)], [.int (x3 + 3), .ref (zro + 0), .int (xs (x3 + 2).toNatClampNeg), .int (xs (x3 + 1).toNatClampNeg), .ref 0], (zS0, R, I, J))) rfl ?_
  refine zEv_iax (a := 0) rfl rfl h1190 ?_
  exact zEv_c (fun _ => rfl) rfl hc rfl rfl k1
set_option maxRecDepth 50000 in
theorem b_285_1194 {Ls : Nat} {xs : Nat → Int32} {d : Nat} {R : zR} {I : zI} {J : zJ} {r : zA} {x3 : Int32} {s0 : Int32} {w : Int32} {R' : zR} {I' : zI} {J' : zJ} (h1199 : zin (x3 + 1) Ls) (h1204 : zin (x3 + 2) Ls) (h1209 : zin (x3 + 3) Ls) (hc : zEv (zXs Ls xs) d zm_263 (0, [some (.ref 215), some (.int (xs (x3 + 1).toNatClampNeg)), some (.int (xs (x3 + 2).toNatClampNeg)), some (.int (xs (x3 + 3).toNatClampNeg)), none, none, none, none, none, none, none, none, none, none, none, none, none], [], (zS0, R, I, J)) (some (.int w), (zS0, R', I', J'))) (k1 : zEv (zXs Ls xs) (d + 1) zm_285 (1213, [some (.ref (zro + 0)), some (.ref 0), some (.ref 215), some (.int x3)], [.int w, .int s0], (zS0, R', I', J')) r) : zEv (zXs Ls xs) (d + 1) zm_285 (1194, [some (.ref (zro + 0)), some (.ref 0), some (.ref 215), some (.int x3)], [.int s0], (zS0, R, I, J)) r := by
  refine zEv_k 5 (f' := (1199, [some (.ref (zro + 0)), some (.ref 0), some (.ref 215), some (.int x3)], [.int (x3 + 1), .ref (zro + 0), .ref 215, .int s0], (zS0, R, I, J))) rfl ?_
  refine zEv_iax (a := 0) rfl rfl h1199 ?_
  refine zEv_k 4 (f' := (1204, [some (.ref (zro + 0)), some (.ref 0), some (.ref 215), some (.int x3)], [.int (x3 + 2), .ref (zro + 0), .int (xs (x3 + 1).toNatClampNeg), .ref 215, .int s0], (zS0, R, I, J))) rfl ?_
  refine zEv_iax (a := 0) rfl rfl h1204 ?_
  refine zEv_k 4 (f' := (1209, [some (.ref (zro + 0)), some (.ref 0), some (.ref 215), some (.int x3)], [.int (x3 + 3), .ref (zro + 0), .int (xs (x3 + 2).toNatClampNeg), .int (xs (x3 + 1).toNatClampNeg), .ref 215, .int s0], (zS0, R, I, J))) rfl ?_
  refine zEv_iax (a := 0) rfl rfl h1209 ?_
  exact zEv_c (fun _ => rfl) rfl hc rfl rfl k1
set_option maxRecDepth 50000 in
theorem b_285_1213 {Ls : Nat} {xs : Nat → Int32} {d : Nat} {R : zR} {I : zI} {J : zJ} {r : zA} {x3 : Int32} {s0 : Int32} {s1 : Int32} (k1 : s0 = s1 → zEv (zXs Ls xs) d zm_285 (1415, [some (.ref (zro + 0)), some (.ref 0), some (.ref 215), some (.int x3)], [], (zS0, R, I, J)) r) (k2 : ¬ (s0 = s1) → zEv (zXs Ls xs) d zm_285 (1216, [some (.ref (zro + 0)), some (.ref 0), some (.ref 215), some (.int x3)], [], (zS0, R, I, J)) r) : zEv (zXs Ls xs) d zm_285 (1213, [some (.ref (zro + 0)), some (.ref 0), some (.ref 215), some (.int x3)], [.int s1, .int s0], (zS0, R, I, J)) r := by
  refine zEv_k 1 (f' := (if s0 = s1 then 1415 else 1216, [some (.ref (zro + 0)), some (.ref 0), some (.ref 215), some (.int x3)], [], (zS0, R, I, J))) rfl ?_
  exact zEv_if k1 k2
set_option maxRecDepth 50000 in
theorem b_285_1216 {Ls : Nat} {xs : Nat → Int32} {d : Nat} {R : zR} {I : zI} {J : zJ} {x3 : Int32} : zEv (zXs Ls xs) d zm_285 (1216, [some (.ref (zro + 0)), some (.ref 0), some (.ref 215), some (.int x3)], [], (zS0, R, I, J)) (some (.int 0), (zS0, R, I, J)) := by
  refine zEv_k 1 (f' := (1217, [some (.ref (zro + 0)), some (.ref 0), some (.ref 215), some (.int x3)], [.int 0], (zS0, R, I, J))) rfl ?_
  exact zEv_r rfl
set_option maxRecDepth 50000 in
theorem b_285_1218 {Ls : Nat} {xs : Nat → Int32} {d : Nat} {R : zR} {I : zI} {J : zJ} {r : zA} {x3 : Int32} (h1223 : zin (x3 + 1) Ls) (h1228 : zin (x3 + 2) Ls) (h1233 : zin (x3 + 3) Ls) (h1238 : zin (x3 + 4) Ls) (k1 : (xs (x3 + 4).toNatClampNeg) = 0 → zEv (zXs Ls xs) d zm_285 (1246, [some (.ref (zro + 0)), some (.ref 0), some (.ref 215), some (.int x3)], [.int (xs (x3 + 3).toNatClampNeg), .int (xs (x3 + 2).toNatClampNeg), .int (xs (x3 + 1).toNatClampNeg), .ref 0], (zS0, R, I, J)) r) (k2 : ¬ ((xs (x3 + 4).toNatClampNeg) = 0) → zEv (zXs Ls xs) d zm_285 (1242, [some (.ref (zro + 0)), some (.ref 0), some (.ref 215), some (.int x3)], [.int (xs (x3 + 3).toNatClampNeg), .int (xs (x3 + 2).toNatClampNeg), .int (xs (x3 + 1).toNatClampNeg), .ref 0], (zS0, R, I, J)) r) : zEv (zXs Ls xs) d zm_285 (1218, [some (.ref (zro + 0)), some (.ref 0), some (.ref 215), some (.int x3)], [], (zS0, R, I, J)) r := by
  refine zEv_k 5 (f' := (1223, [some (.ref (zro + 0)), some (.ref 0), some (.ref 215), some (.int x3)], [.int (x3 + 1), .ref (zro + 0), .ref 0], (zS0, R, I, J))) rfl ?_
  refine zEv_iax (a := 0) rfl rfl h1223 ?_
  refine zEv_k 4 (f' := (1228, [some (.ref (zro + 0)), some (.ref 0), some (.ref 215), some (.int x3)], [.int (x3 + 2), .ref (zro + 0), .int (xs (x3 + 1).toNatClampNeg), .ref 0], (zS0, R, I, J))) rfl ?_
  refine zEv_iax (a := 0) rfl rfl h1228 ?_
  refine zEv_k 4 (f' := (1233, [some (.ref (zro + 0)), some (.ref 0), some (.ref 215), some (.int x3)], [.int (x3 + 3), .ref (zro + 0), .int (xs (x3 + 2).toNatClampNeg), .int (xs (x3 + 1).toNatClampNeg), .ref 0], (zS0, R, I, J))) rfl ?_
  refine zEv_iax (a := 0) rfl rfl h1233 ?_
  refine zEv_k 4 (f' := (1238, [some (.ref (zro + 0)), some (.ref 0), some (.ref 215), some (.int x3)], [.int (x3 + 4), .ref (zro + 0), .int (xs (x3 + 3).toNatClampNeg), .int (xs (x3 + 2).toNatClampNeg), .int (xs (x3 + 1).toNatClampNeg), .ref 0], (zS0, R, I, J))) rfl ?_
  refine zEv_iax (a := 0) rfl rfl h1238 ?_
  refine zEv_k 1 (f' := (if (xs (x3 + 4).toNatClampNeg) = 0 then 1246 else 1242, [some (.ref (zro + 0)), some (.ref 0), some (.ref 215), some (.int x3)], [.int (xs (x3 + 3).toNatClampNeg), .int (xs (x3 + 2).toNatClampNeg), .int (xs (x3 + 1).toNatClampNeg), .ref 0], (zS0, R, I, J))) rfl ?_
  exact zEv_if k1 k2
set_option maxRecDepth 50000 in
theorem b_285_1242 {Ls : Nat} {xs : Nat → Int32} {d : Nat} {R : zR} {I : zI} {J : zJ} {r : zA} {x3 : Int32} {s1 : Int32} {s2 : Int32} {s3 : Int32} (k1 : zEv (zXs Ls xs) d zm_285 (1247, [some (.ref (zro + 0)), some (.ref 0), some (.ref 215), some (.int x3)], [.int 1, .int s3, .int s2, .int s1, .ref 0], (zS0, R, I, J)) r) : zEv (zXs Ls xs) d zm_285 (1242, [some (.ref (zro + 0)), some (.ref 0), some (.ref 215), some (.int x3)], [.int s3, .int s2, .int s1, .ref 0], (zS0, R, I, J)) r := by
  refine zEv_k 2 (f' := (1247, [some (.ref (zro + 0)), some (.ref 0), some (.ref 215), some (.int x3)], [.int 1, .int s3, .int s2, .int s1, .ref 0], (zS0, R, I, J))) rfl ?_
  exact k1
set_option maxRecDepth 50000 in
theorem b_285_1246 {Ls : Nat} {xs : Nat → Int32} {d : Nat} {R : zR} {I : zI} {J : zJ} {r : zA} {x3 : Int32} {s1 : Int32} {s2 : Int32} {s3 : Int32} (k1 : zEv (zXs Ls xs) d zm_285 (1247, [some (.ref (zro + 0)), some (.ref 0), some (.ref 215), some (.int x3)], [.int 0, .int s3, .int s2, .int s1, .ref 0], (zS0, R, I, J)) r) : zEv (zXs Ls xs) d zm_285 (1246, [some (.ref (zro + 0)), some (.ref 0), some (.ref 215), some (.int x3)], [.int s3, .int s2, .int s1, .ref 0], (zS0, R, I, J)) r := by
  refine zEv_k 1 (f' := (1247, [some (.ref (zro + 0)), some (.ref 0), some (.ref 215), some (.int x3)], [.int 0, .int s3, .int s2, .int s1, .ref 0], (zS0, R, I, J))) rfl ?_
  exact k1
set_option maxRecDepth 50000 in
theorem b_285_1247 {Ls : Nat} {xs : Nat → Int32} {d : Nat} {R : zR} {I : zI} {J : zJ} {r : zA} {x3 : Int32} {s1 : Int32} {s2 : Int32} {s3 : Int32} {s4 : Int32} {w : Int32} {R' : zR} {I' : zI} {J' : zJ} (hc : zEv (zXs Ls xs) d zm_137 (0, [some (.ref 0), some (.int s1), some (.int s2), some (.int s3), some (.int s4), none, none], [], (zS0, R, I, J)) (some (.int w), (zS0, R', I', J'))) (k1 : zEv (zXs Ls xs) (d + 1) zm_285 (1250, [some (.ref (zro + 0)), some (.ref 0), some (.ref 215), some (.int x3)], [.int w], (zS0, R', I', J')) r) : zEv (zXs Ls xs) (d + 1) zm_285 (1247, [some (.ref (zro + 0)), some (.ref 0), some (.ref 215), some (.int x3)], [.int s4, .int s3, .int s2, .int s1, .ref 0], (zS0, R, I, J)) r := by
  exact zEv_c (fun _ => rfl) rfl hc rfl rfl k1
set_option maxRecDepth 50000 in
theorem b_285_1250 {Ls : Nat} {xs : Nat → Int32} {d : Nat} {R : zR} {I : zI} {J : zJ} {r : zA} {x3 : Int32} {s0 : Int32} (h1255 : zin (x3 + 1) Ls) (h1260 : zin (x3 + 2) Ls) (h1265 : zin (x3 + 3) Ls) (h1270 : zin (x3 + 4) Ls) (k1 : (xs (x3 + 4).toNatClampNeg) = 0 → zEv (zXs Ls xs) d zm_285 (1278, [some (.ref (zro + 0)), some (.ref 0), some (.ref 215), some (.int x3)], [.int (xs (x3 + 3).toNatClampNeg), .int (xs (x3 + 2).toNatClampNeg), .int (xs (x3 + 1).toNatClampNeg), .ref 215, .int s0], (zS0, R, I, J)) r) (k2 : ¬ ((xs (x3 + 4).toNatClampNeg) = 0) → zEv (zXs Ls xs) d zm_285 (1274, [some (.ref (zro + 0)), some (.ref 0), some (.ref 215), some (.int x3)], [.int (xs (x3 + 3).toNatClampNeg), .int (xs (x3 + 2).toNatClampNeg), .int (xs (x3 + 1).toNatClampNeg), .ref 215, .int s0], (zS0, R, I, J)) r) : zEv (zXs Ls xs) d zm_285 (1250, [some (.ref (zro + 0)), some (.ref 0), some (.ref 215), some (.int x3)], [.int s0], (zS0, R, I, J)) r := by
  refine zEv_k 5 (f' := (1255, [some (.ref (zro + 0)), some (.ref 0), some (.ref 215), some (.int x3)], [.int (x3 + 1), .ref (zro + 0), .ref 215, .int s0], (zS0, R, I, J))) rfl ?_
  refine zEv_iax (a := 0) rfl rfl h1255 ?_
  refine zEv_k 4 (f' := (1260, [some (.ref (zro + 0)), some (.ref 0), some (.ref 215), some (.int x3)], [.int (x3 + 2), .ref (zro + 0), .int (xs (x3 + 1).toNatClampNeg), .ref 215, .int s0], (zS0, R, I, J))) rfl ?_
  refine zEv_iax (a := 0) rfl rfl h1260 ?_
  refine zEv_k 4 (f' := (1265, [some (.ref (zro + 0)), some (.ref 0), some (.ref 215), some (.int x3)], [.int (x3 + 3), .ref (zro + 0), .int (xs (x3 + 2).toNatClampNeg), .int (xs (x3 + 1).toNatClampNeg), .ref 215, .int s0], (zS0, R, I, J))) rfl ?_
  refine zEv_iax (a := 0) rfl rfl h1265 ?_
  refine zEv_k 4 (f' := (1270, [some (.ref (zro + 0)), some (.ref 0), some (.ref 215), some (.int x3)], [.int (x3 + 4), .ref (zro + 0), .int (xs (x3 + 3).toNatClampNeg), .int (xs (x3 + 2).toNatClampNeg), .int (xs (x3 + 1).toNatClampNeg), .ref 215, .int s0], (zS0, R, I, J))) rfl ?_
  refine zEv_iax (a := 0) rfl rfl h1270 ?_
  refine zEv_k 1 (f' := (if (xs (x3 + 4).toNatClampNeg) = 0 then 1278 else 1274, [some (.ref (zro + 0)), some (.ref 0), some (.ref 215), some (.int x3)], [.int (xs (x3 + 3).toNatClampNeg), .int (xs (x3 + 2).toNatClampNeg), .int (xs (x3 + 1).toNatClampNeg), .ref 215, .int s0], (zS0, R, I, J))) rfl ?_
  exact zEv_if k1 k2
set_option maxRecDepth 50000 in
theorem b_285_1274 {Ls : Nat} {xs : Nat → Int32} {d : Nat} {R : zR} {I : zI} {J : zJ} {r : zA} {x3 : Int32} {s0 : Int32} {s2 : Int32} {s3 : Int32} {s4 : Int32} (k1 : zEv (zXs Ls xs) d zm_285 (1279, [some (.ref (zro + 0)), some (.ref 0), some (.ref 215), some (.int x3)], [.int 1, .int s4, .int s3, .int s2, .ref 215, .int s0], (zS0, R, I, J)) r) : zEv (zXs Ls xs) d zm_285 (1274, [some (.ref (zro + 0)), some (.ref 0), some (.ref 215), some (.int x3)], [.int s4, .int s3, .int s2, .ref 215, .int s0], (zS0, R, I, J)) r := by
  refine zEv_k 2 (f' := (1279, [some (.ref (zro + 0)), some (.ref 0), some (.ref 215), some (.int x3)], [.int 1, .int s4, .int s3, .int s2, .ref 215, .int s0], (zS0, R, I, J))) rfl ?_
  exact k1
set_option maxRecDepth 50000 in
theorem b_285_1278 {Ls : Nat} {xs : Nat → Int32} {d : Nat} {R : zR} {I : zI} {J : zJ} {r : zA} {x3 : Int32} {s0 : Int32} {s2 : Int32} {s3 : Int32} {s4 : Int32} (k1 : zEv (zXs Ls xs) d zm_285 (1279, [some (.ref (zro + 0)), some (.ref 0), some (.ref 215), some (.int x3)], [.int 0, .int s4, .int s3, .int s2, .ref 215, .int s0], (zS0, R, I, J)) r) : zEv (zXs Ls xs) d zm_285 (1278, [some (.ref (zro + 0)), some (.ref 0), some (.ref 215), some (.int x3)], [.int s4, .int s3, .int s2, .ref 215, .int s0], (zS0, R, I, J)) r := by
  refine zEv_k 1 (f' := (1279, [some (.ref (zro + 0)), some (.ref 0), some (.ref 215), some (.int x3)], [.int 0, .int s4, .int s3, .int s2, .ref 215, .int s0], (zS0, R, I, J))) rfl ?_
  exact k1
set_option maxRecDepth 50000 in
theorem b_285_1279 {Ls : Nat} {xs : Nat → Int32} {d : Nat} {R : zR} {I : zI} {J : zJ} {r : zA} {x3 : Int32} {s0 : Int32} {s2 : Int32} {s3 : Int32} {s4 : Int32} {s5 : Int32} {w : Int32} {R' : zR} {I' : zI} {J' : zJ} (hc : zEv (zXs Ls xs) d zm_265 (0, [some (.ref 215), some (.int s2), some (.int s3), some (.int s4), some (.int s5), none, none], [], (zS0, R, I, J)) (some (.int w), (zS0, R', I', J'))) (k1 : zEv (zXs Ls xs) (d + 1) zm_285 (1282, [some (.ref (zro + 0)), some (.ref 0), some (.ref 215), some (.int x3)], [.int w, .int s0], (zS0, R', I', J')) r) : zEv (zXs Ls xs) (d + 1) zm_285 (1279, [some (.ref (zro + 0)), some (.ref 0), some (.ref 215), some (.int x3)], [.int s5, .int s4, .int s3, .int s2, .ref 215, .int s0], (zS0, R, I, J)) r := by
  exact zEv_c (fun _ => rfl) rfl hc rfl rfl k1
set_option maxRecDepth 50000 in
theorem b_285_1282 {Ls : Nat} {xs : Nat → Int32} {d : Nat} {R : zR} {I : zI} {J : zJ} {r : zA} {x3 : Int32} {s0 : Int32} {s1 : Int32} (k1 : s0 = s1 → zEv (zXs Ls xs) d zm_285 (1415, [some (.ref (zro + 0)), some (.ref 0), some (.ref 215), some (.int x3)], [], (zS0, R, I, J)) r) (k2 : ¬ (s0 = s1) → zEv (zXs Ls xs) d zm_285 (1285, [some (.ref (zro + 0)), some (.ref 0), some (.ref 215), some (.int x3)], [], (zS0, R, I, J)) r) : zEv (zXs Ls xs) d zm_285 (1282, [some (.ref (zro + 0)), some (.ref 0), some (.ref 215), some (.int x3)], [.int s1, .int s0], (zS0, R, I, J)) r := by
  refine zEv_k 1 (f' := (if s0 = s1 then 1415 else 1285, [some (.ref (zro + 0)), some (.ref 0), some (.ref 215), some (.int x3)], [], (zS0, R, I, J))) rfl ?_
  exact zEv_if k1 k2
set_option maxRecDepth 50000 in
theorem b_285_1285 {Ls : Nat} {xs : Nat → Int32} {d : Nat} {R : zR} {I : zI} {J : zJ} {x3 : Int32} : zEv (zXs Ls xs) d zm_285 (1285, [some (.ref (zro + 0)), some (.ref 0), some (.ref 215), some (.int x3)], [], (zS0, R, I, J)) (some (.int 0), (zS0, R, I, J)) := by
  refine zEv_k 1 (f' := (1286, [some (.ref (zro + 0)), some (.ref 0), some (.ref 215), some (.int x3)], [.int 0], (zS0, R, I, J))) rfl ?_
  exact zEv_r rfl
set_option maxRecDepth 50000 in
theorem b_285_1287 {Ls : Nat} {xs : Nat → Int32} {d : Nat} {R : zR} {I : zI} {J : zJ} {r : zA} {x3 : Int32} (h1292 : zin (x3 + 1) Ls) (h1297 : zin (x3 + 2) Ls) (h1302 : zin (x3 + 3) Ls) (k1 : (xs (x3 + 3).toNatClampNeg) = 0 → zEv (zXs Ls xs) d zm_285 (1310, [some (.ref (zro + 0)), some (.ref 0), some (.ref 215), some (.int x3)], [.int (xs (x3 + 2).toNatClampNeg), .int (xs (x3 + 1).toNatClampNeg), .ref 0], (zS0, R, I, J)) r) (k2 : ¬ ((xs (x3 + 3).toNatClampNeg) = 0) → zEv (zXs Ls xs) d zm_285 (1306, [some (.ref (zro + 0)), some (.ref 0), some (.ref 215), some (.int x3)], [.int (xs (x3 + 2).toNatClampNeg), .int (xs (x3 + 1).toNatClampNeg), .ref 0], (zS0, R, I, J)) r) : zEv (zXs Ls xs) d zm_285 (1287, [some (.ref (zro + 0)), some (.ref 0), some (.ref 215), some (.int x3)], [], (zS0, R, I, J)) r := by
  refine zEv_k 5 (f' := (1292, [some (.ref (zro + 0)), some (.ref 0), some (.ref 215), some (.int x3)], [.int (x3 + 1), .ref (zro + 0), .ref 0], (zS0, R, I, J))) rfl ?_
  refine zEv_iax (a := 0) rfl rfl h1292 ?_
  refine zEv_k 4 (f' := (1297, [some (.ref (zro + 0)), some (.ref 0), some (.ref 215), some (.int x3)], [.int (x3 + 2), .ref (zro + 0), .int (xs (x3 + 1).toNatClampNeg), .ref 0], (zS0, R, I, J))) rfl ?_
  refine zEv_iax (a := 0) rfl rfl h1297 ?_
  refine zEv_k 4 (f' := (1302, [some (.ref (zro + 0)), some (.ref 0), some (.ref 215), some (.int x3)], [.int (x3 + 3), .ref (zro + 0), .int (xs (x3 + 2).toNatClampNeg), .int (xs (x3 + 1).toNatClampNeg), .ref 0], (zS0, R, I, J))) rfl ?_
  refine zEv_iax (a := 0) rfl rfl h1302 ?_
  refine zEv_k 1 (f' := (if (xs (x3 + 3).toNatClampNeg) = 0 then 1310 else 1306, [some (.ref (zro + 0)), some (.ref 0), some (.ref 215), some (.int x3)], [.int (xs (x3 + 2).toNatClampNeg), .int (xs (x3 + 1).toNatClampNeg), .ref 0], (zS0, R, I, J))) rfl ?_
  exact zEv_if k1 k2
set_option maxRecDepth 50000 in
theorem b_285_1306 {Ls : Nat} {xs : Nat → Int32} {d : Nat} {R : zR} {I : zI} {J : zJ} {r : zA} {x3 : Int32} {s1 : Int32} {s2 : Int32} (k1 : zEv (zXs Ls xs) d zm_285 (1311, [some (.ref (zro + 0)), some (.ref 0), some (.ref 215), some (.int x3)], [.int 1, .int s2, .int s1, .ref 0], (zS0, R, I, J)) r) : zEv (zXs Ls xs) d zm_285 (1306, [some (.ref (zro + 0)), some (.ref 0), some (.ref 215), some (.int x3)], [.int s2, .int s1, .ref 0], (zS0, R, I, J)) r := by
  refine zEv_k 2 (f' := (1311, [some (.ref (zro + 0)), some (.ref 0), some (.ref 215), some (.int x3)], [.int 1, .int s2, .int s1, .ref 0], (zS0, R, I, J))) rfl ?_
  exact k1
set_option maxRecDepth 50000 in
theorem b_285_1310 {Ls : Nat} {xs : Nat → Int32} {d : Nat} {R : zR} {I : zI} {J : zJ} {r : zA} {x3 : Int32} {s1 : Int32} {s2 : Int32} (k1 : zEv (zXs Ls xs) d zm_285 (1311, [some (.ref (zro + 0)), some (.ref 0), some (.ref 215), some (.int x3)], [.int 0, .int s2, .int s1, .ref 0], (zS0, R, I, J)) r) : zEv (zXs Ls xs) d zm_285 (1310, [some (.ref (zro + 0)), some (.ref 0), some (.ref 215), some (.int x3)], [.int s2, .int s1, .ref 0], (zS0, R, I, J)) r := by
  refine zEv_k 1 (f' := (1311, [some (.ref (zro + 0)), some (.ref 0), some (.ref 215), some (.int x3)], [.int 0, .int s2, .int s1, .ref 0], (zS0, R, I, J))) rfl ?_
  exact k1
set_option maxRecDepth 50000 in
theorem b_285_1311 {Ls : Nat} {xs : Nat → Int32} {d : Nat} {R : zR} {I : zI} {J : zJ} {r : zA} {x3 : Int32} {s1 : Int32} {s2 : Int32} {s3 : Int32} {w : Int32} {R' : zR} {I' : zI} {J' : zJ} (hc : zEv (zXs Ls xs) d zm_138 (0, [some (.ref 0), some (.int s1), some (.int s2), some (.int s3), none, none], [], (zS0, R, I, J)) (some (.int w), (zS0, R', I', J'))) (k1 : zEv (zXs Ls xs) (d + 1) zm_285 (1314, [some (.ref (zro + 0)), some (.ref 0), some (.ref 215), some (.int x3)], [.int w], (zS0, R', I', J')) r) : zEv (zXs Ls xs) (d + 1) zm_285 (1311, [some (.ref (zro + 0)), some (.ref 0), some (.ref 215), some (.int x3)], [.int s3, .int s2, .int s1, .ref 0], (zS0, R, I, J)) r := by
  exact zEv_c (fun _ => rfl) rfl hc rfl rfl k1
set_option maxRecDepth 50000 in
theorem b_285_1314 {Ls : Nat} {xs : Nat → Int32} {d : Nat} {R : zR} {I : zI} {J : zJ} {r : zA} {x3 : Int32} {s0 : Int32} (h1319 : zin (x3 + 1) Ls) (h1324 : zin (x3 + 2) Ls) (h1329 : zin (x3 + 3) Ls) (k1 : (xs (x3 + 3).toNatClampNeg) = 0 → zEv (zXs Ls xs) d zm_285 (1337, [some (.ref (zro + 0)), some (.ref 0), some (.ref 215), some (.int x3)], [.int (xs (x3 + 2).toNatClampNeg), .int (xs (x3 + 1).toNatClampNeg), .ref 215, .int s0], (zS0, R, I, J)) r) (k2 : ¬ ((xs (x3 + 3).toNatClampNeg) = 0) → zEv (zXs Ls xs) d zm_285 (1333, [some (.ref (zro + 0)), some (.ref 0), some (.ref 215), some (.int x3)], [.int (xs (x3 + 2).toNatClampNeg), .int (xs (x3 + 1).toNatClampNeg), .ref 215, .int s0], (zS0, R, I, J)) r) : zEv (zXs Ls xs) d zm_285 (1314, [some (.ref (zro + 0)), some (.ref 0), some (.ref 215), some (.int x3)], [.int s0], (zS0, R, I, J)) r := by
  refine zEv_k 5 (f' := (1319, [some (.ref (zro + 0)), some (.ref 0), some (.ref 215), some (.int x3)], [.int (x3 + 1), .ref (zro + 0), .ref 215, .int s0], (zS0, R, I, J))) rfl ?_
  refine zEv_iax (a := 0) rfl rfl h1319 ?_
  refine zEv_k 4 (f' := (1324, [some (.ref (zro + 0)), some (.ref 0), some (.ref 215), some (.int x3)], [.int (x3 + 2), .ref (zro + 0), .int (xs (x3 + 1).toNatClampNeg), .ref 215, .int s0], (zS0, R, I, J))) rfl ?_
  refine zEv_iax (a := 0) rfl rfl h1324 ?_
  refine zEv_k 4 (f' := (1329, [some (.ref (zro + 0)), some (.ref 0), some (.ref 215), some (.int x3)], [.int (x3 + 3), .ref (zro + 0), .int (xs (x3 + 2).toNatClampNeg), .int (xs (x3 + 1).toNatClampNeg), .ref 215, .int s0], (zS0, R, I, J))) rfl ?_
  refine zEv_iax (a := 0) rfl rfl h1329 ?_
  refine zEv_k 1 (f' := (if (xs (x3 + 3).toNatClampNeg) = 0 then 1337 else 1333, [some (.ref (zro + 0)), some (.ref 0), some (.ref 215), some (.int x3)], [.int (xs (x3 + 2).toNatClampNeg), .int (xs (x3 + 1).toNatClampNeg), .ref 215, .int s0], (zS0, R, I, J))) rfl ?_
  exact zEv_if k1 k2
set_option maxRecDepth 50000 in
theorem b_285_1333 {Ls : Nat} {xs : Nat → Int32} {d : Nat} {R : zR} {I : zI} {J : zJ} {r : zA} {x3 : Int32} {s0 : Int32} {s2 : Int32} {s3 : Int32} (k1 : zEv (zXs Ls xs) d zm_285 (1338, [some (.ref (zro + 0)), some (.ref 0), some (.ref 215), some (.int x3)], [.int 1, .int s3, .int s2, .ref 215, .int s0], (zS0, R, I, J)) r) : zEv (zXs Ls xs) d zm_285 (1333, [some (.ref (zro + 0)), some (.ref 0), some (.ref 215), some (.int x3)], [.int s3, .int s2, .ref 215, .int s0], (zS0, R, I, J)) r := by
  refine zEv_k 2 (f' := (1338, [some (.ref (zro + 0)), some (.ref 0), some (.ref 215), some (.int x3)], [.int 1, .int s3, .int s2, .ref 215, .int s0], (zS0, R, I, J))) rfl ?_
  exact k1
set_option maxRecDepth 50000 in
theorem b_285_1337 {Ls : Nat} {xs : Nat → Int32} {d : Nat} {R : zR} {I : zI} {J : zJ} {r : zA} {x3 : Int32} {s0 : Int32} {s2 : Int32} {s3 : Int32} (k1 : zEv (zXs Ls xs) d zm_285 (1338, [some (.ref (zro + 0)), some (.ref 0), some (.ref 215), some (.int x3)], [.int 0, .int s3, .int s2, .ref 215, .int s0], (zS0, R, I, J)) r) : zEv (zXs Ls xs) d zm_285 (1337, [some (.ref (zro + 0)), some (.ref 0), some (.ref 215), some (.int x3)], [.int s3, .int s2, .ref 215, .int s0], (zS0, R, I, J)) r := by
  refine zEv_k 1 (f' := (1338, [some (.ref (zro + 0)), some (.ref 0), some (.ref 215), some (.int x3)], [.int 0, .int s3, .int s2, .ref 215, .int s0], (zS0, R, I, J))) rfl ?_
  exact k1
set_option maxRecDepth 50000 in
theorem b_285_1338 {Ls : Nat} {xs : Nat → Int32} {d : Nat} {R : zR} {I : zI} {J : zJ} {r : zA} {x3 : Int32} {s0 : Int32} {s2 : Int32} {s3 : Int32} {s4 : Int32} {w : Int32} {R' : zR} {I' : zI} {J' : zJ} (hc : zEv (zXs Ls xs) d zm_266 (0, [some (.ref 215), some (.int s2), some (.int s3), some (.int s4), none, none], [], (zS0, R, I, J)) (some (.int w), (zS0, R', I', J'))) (k1 : zEv (zXs Ls xs) (d + 1) zm_285 (1341, [some (.ref (zro + 0)), some (.ref 0), some (.ref 215), some (.int x3)], [.int w, .int s0], (zS0, R', I', J')) r) : zEv (zXs Ls xs) (d + 1) zm_285 (1338, [some (.ref (zro + 0)), some (.ref 0), some (.ref 215), some (.int x3)], [.int s4, .int s3, .int s2, .ref 215, .int s0], (zS0, R, I, J)) r := by
  exact zEv_c (fun _ => rfl) rfl hc rfl rfl k1
set_option maxRecDepth 50000 in
theorem b_285_1341 {Ls : Nat} {xs : Nat → Int32} {d : Nat} {R : zR} {I : zI} {J : zJ} {r : zA} {x3 : Int32} {s0 : Int32} {s1 : Int32} (k1 : s0 = s1 → zEv (zXs Ls xs) d zm_285 (1415, [some (.ref (zro + 0)), some (.ref 0), some (.ref 215), some (.int x3)], [], (zS0, R, I, J)) r) (k2 : ¬ (s0 = s1) → zEv (zXs Ls xs) d zm_285 (1344, [some (.ref (zro + 0)), some (.ref 0), some (.ref 215), some (.int x3)], [], (zS0, R, I, J)) r) : zEv (zXs Ls xs) d zm_285 (1341, [some (.ref (zro + 0)), some (.ref 0), some (.ref 215), some (.int x3)], [.int s1, .int s0], (zS0, R, I, J)) r := by
  refine zEv_k 1 (f' := (if s0 = s1 then 1415 else 1344, [some (.ref (zro + 0)), some (.ref 0), some (.ref 215), some (.int x3)], [], (zS0, R, I, J))) rfl ?_
  exact zEv_if k1 k2
set_option maxRecDepth 50000 in
theorem b_285_1344 {Ls : Nat} {xs : Nat → Int32} {d : Nat} {R : zR} {I : zI} {J : zJ} {x3 : Int32} : zEv (zXs Ls xs) d zm_285 (1344, [some (.ref (zro + 0)), some (.ref 0), some (.ref 215), some (.int x3)], [], (zS0, R, I, J)) (some (.int 0), (zS0, R, I, J)) := by
  refine zEv_k 1 (f' := (1345, [some (.ref (zro + 0)), some (.ref 0), some (.ref 215), some (.int x3)], [.int 0], (zS0, R, I, J))) rfl ?_
  exact zEv_r rfl
set_option maxRecDepth 50000 in
theorem b_285_1346 {Ls : Nat} {xs : Nat → Int32} {d : Nat} {R : zR} {I : zI} {J : zJ} {r : zA} {x3 : Int32} {w : Int32} {R' : zR} {I' : zI} {J' : zJ} (h1351 : zin (x3 + 1) Ls) (hc : zEv (zXs Ls xs) d zm_139 (0, [some (.ref 0), some (.int (xs (x3 + 1).toNatClampNeg))], [], (zS0, R, I, J)) (some (.int w), (zS0, R', I', J'))) (k1 : zEv (zXs Ls xs) (d + 1) zm_285 (1355, [some (.ref (zro + 0)), some (.ref 0), some (.ref 215), some (.int x3)], [.int w], (zS0, R', I', J')) r) : zEv (zXs Ls xs) (d + 1) zm_285 (1346, [some (.ref (zro + 0)), some (.ref 0), some (.ref 215), some (.int x3)], [], (zS0, R, I, J)) r := by
  refine zEv_k 5 (f' := (1351, [some (.ref (zro + 0)), some (.ref 0), some (.ref 215), some (.int x3)], [.int (x3 + 1), .ref (zro + 0), .ref 0], (zS0, R, I, J))) rfl ?_
  refine zEv_iax (a := 0) rfl rfl h1351 ?_
  exact zEv_c (fun _ => rfl) rfl hc rfl rfl k1
set_option maxRecDepth 50000 in
theorem b_285_1355 {Ls : Nat} {xs : Nat → Int32} {d : Nat} {R : zR} {I : zI} {J : zJ} {r : zA} {x3 : Int32} {s0 : Int32} {w : Int32} {R' : zR} {I' : zI} {J' : zJ} (h1360 : zin (x3 + 1) Ls) (hc : zEv (zXs Ls xs) d zm_267 (0, [some (.ref 215), some (.int (xs (x3 + 1).toNatClampNeg))], [], (zS0, R, I, J)) (some (.int w), (zS0, R', I', J'))) (k1 : zEv (zXs Ls xs) (d + 1) zm_285 (1364, [some (.ref (zro + 0)), some (.ref 0), some (.ref 215), some (.int x3)], [.int w, .int s0], (zS0, R', I', J')) r) : zEv (zXs Ls xs) (d + 1) zm_285 (1355, [some (.ref (zro + 0)), some (.ref 0), some (.ref 215), some (.int x3)], [.int s0], (zS0, R, I, J)) r := by
  refine zEv_k 5 (f' := (1360, [some (.ref (zro + 0)), some (.ref 0), some (.ref 215), some (.int x3)], [.int (x3 + 1), .ref (zro + 0), .ref 215, .int s0], (zS0, R, I, J))) rfl ?_
  refine zEv_iax (a := 0) rfl rfl h1360 ?_
  exact zEv_c (fun _ => rfl) rfl hc rfl rfl k1
set_option maxRecDepth 50000 in
theorem b_285_1364 {Ls : Nat} {xs : Nat → Int32} {d : Nat} {R : zR} {I : zI} {J : zJ} {r : zA} {x3 : Int32} {s0 : Int32} {s1 : Int32} (k1 : s0 = s1 → zEv (zXs Ls xs) d zm_285 (1415, [some (.ref (zro + 0)), some (.ref 0), some (.ref 215), some (.int x3)], [], (zS0, R, I, J)) r) (k2 : ¬ (s0 = s1) → zEv (zXs Ls xs) d zm_285 (1367, [some (.ref (zro + 0)), some (.ref 0), some (.ref 215), some (.int x3)], [], (zS0, R, I, J)) r) : zEv (zXs Ls xs) d zm_285 (1364, [some (.ref (zro + 0)), some (.ref 0), some (.ref 215), some (.int x3)], [.int s1, .int s0], (zS0, R, I, J)) r := by
  refine zEv_k 1 (f' := (if s0 = s1 then 1415 else 1367, [some (.ref (zro + 0)), some (.ref 0), some (.ref 215), some (.int x3)], [], (zS0, R, I, J))) rfl ?_
  exact zEv_if k1 k2
set_option maxRecDepth 50000 in
theorem b_285_1367 {Ls : Nat} {xs : Nat → Int32} {d : Nat} {R : zR} {I : zI} {J : zJ} {x3 : Int32} : zEv (zXs Ls xs) d zm_285 (1367, [some (.ref (zro + 0)), some (.ref 0), some (.ref 215), some (.int x3)], [], (zS0, R, I, J)) (some (.int 0), (zS0, R, I, J)) := by
  refine zEv_k 1 (f' := (1368, [some (.ref (zro + 0)), some (.ref 0), some (.ref 215), some (.int x3)], [.int 0], (zS0, R, I, J))) rfl ?_
  exact zEv_r rfl
