set_option maxRecDepth 50000 in
theorem b_285_1369 {Ls : Nat} {xs : Nat → Int32} {d : Nat} {R : zR} {I : zI} {J : zJ} {r : zA} {x3 : Int32} {w : Int32} {R' : zR} {I' : zI} {J' : zJ} (h1374 : zin (x3 + 1) Ls) (hc : zEv (zXs Ls xs) d zm_140 (0, [some (.ref 0), some (.int (xs (x3 + 1).toNatClampNeg))], [], (zS0, R, I, J)) (some (.int w), (zS0, R', I', J'))) (k1 : zEv (zXs Ls xs) (d + 1) zm_285 (1378, [some (.ref (zro + 0)), some (.ref 0), some (.ref 215), some (.int x3)], [.int w], (zS0, R', I', J')) r) : zEv (zXs Ls xs) (d + 1) zm_285 (1369, [some (.ref (zro + 0)), some (.ref 0), some (.ref 215), some (.int x3)], [], (zS0, R, I, J)) r := by
  refine zEv_k 5 (f' := (1374, [some (.ref (zro + 0)), some (.ref 0), some (.ref 215), some (.int x3)], [.int (x3 + 1), .ref (zro + 0), .ref 0], (zS0, R, I, J))) rfl ?_
  refine zEv_iax (a := 0) rfl rfl h1374 ?_
  exact zEv_c (fun _ => rfl) rfl hc rfl rfl k1
set_option maxRecDepth 50000 in
theorem b_285_1378 {Ls : Nat} {xs : Nat → Int32} {d : Nat} {R : zR} {I : zI} {J : zJ} {r : zA} {x3 : Int32} {s0 : Int32} {w : Int32} {R' : zR} {I' : zI} {J' : zJ} (h1383 : zin (x3 + 1) Ls) (hc : zEv (zXs Ls xs) d zm_268 (0, [some (.ref 215), some (.int (xs (x3 + 1).toNatClampNeg))], [], (zS0, R, I, J)) (some (.int w), (zS0, R', I', J'))) (k1 : zEv (zXs Ls xs) (d + 1) zm_285 (1387, [some (.ref (zro + 0)), some (.ref 0), some (.ref 215), some (.int x3)], [.int w, .int s0], (zS0, R', I', J')) r) : zEv (zXs Ls xs) (d + 1) zm_285 (1378, [some (.ref (zro + 0)), some (.ref 0), some (.ref 215), some (.int x3)], [.int s0], (zS0, R, I, J)) r := by
  refine zEv_k 5 (f' := (1383, [some (.ref (zro + 0)), some (.ref 0), some (.ref 215), some (.int x3)], [.int (x3 + 1), .ref (zro + 0), .ref 215, .int s0], (zS0, R, I, J))) rfl ?_
  refine zEv_iax (a := 0) rfl rfl h1383 ?_
  exact zEv_c (fun _ => rfl) rfl hc rfl rfl k1
set_option maxRecDepth 50000 in
theorem b_285_1387 {Ls : Nat} {xs : Nat → Int32} {d : Nat} {R : zR} {I : zI} {J : zJ} {r : zA} {x3 : Int32} {s0 : Int32} {s1 : Int32} (k1 : s0 = s1 → zEv (zXs Ls xs) d zm_285 (1415, [some (.ref (zro + 0)), some (.ref 0), some (.ref 215), some (.int x3)], [], (zS0, R, I, J)) r) (k2 : ¬ (s0 = s1) → zEv (zXs Ls xs) d zm_285 (1390, [some (.ref (zro + 0)), some (.ref 0), some (.ref 215), some (.int x3)], [], (zS0, R, I, J)) r) : zEv (zXs Ls xs) d zm_285 (1387, [some (.ref (zro + 0)), some (.ref 0), some (.ref 215), some (.int x3)], [.int s1, .int s0], (zS0, R, I, J)) r := by
  refine zEv_k 1 (f' := (if s0 = s1 then 1415 else 1390, [some (.ref (zro + 0)), some (.ref 0), some (.ref 215), some (.int x3)], [], (zS0, R, I, J))) rfl ?_
  exact zEv_if k1 k2
set_option maxRecDepth 50000 in
theorem b_285_1390 {Ls : Nat} {xs : Nat → Int32} {d : Nat} {R : zR} {I : zI} {J : zJ} {x3 : Int32} : zEv (zXs Ls xs) d zm_285 (1390, [some (.ref (zro + 0)), some (.ref 0), some (.ref 215), some (.int x3)], [], (zS0, R, I, J)) (some (.int 0), (zS0, R, I, J)) := by
  refine zEv_k 1 (f' := (1391, [some (.ref (zro + 0)), some (.ref 0), some (.ref 215), some (.int x3)], [.int 0], (zS0, R, I, J))) rfl ?_
  exact zEv_r rfl
set_option maxRecDepth 50000 in
theorem b_285_1392 {Ls : Nat} {xs : Nat → Int32} {d : Nat} {R : zR} {I : zI} {J : zJ} {r : zA} {x3 : Int32} {w : Int32} {R' : zR} {I' : zI} {J' : zJ} (h1397 : zin (x3 + 1) Ls) (hc : zEv (zXs Ls xs) d zm_141 (0, [some (.ref 0), some (.int (xs (x3 + 1).toNatClampNeg))], [], (zS0, R, I, J)) (some (.int w), (zS0, R', I', J'))) (k1 : zEv (zXs Ls xs) (d + 1) zm_285 (1401, [some (.ref (zro + 0)), some (.ref 0), some (.ref 215), some (.int x3)], [.int w], (zS0, R', I', J')) r) : zEv (zXs Ls xs) (d + 1) zm_285 (1392, [some (.ref (zro + 0)), some (.ref 0), some (.ref 215), some (.int x3)], [], (zS0, R, I, J)) r := by
  refine zEv_k 5 (f' := (1397, [some (.ref (zro + 0)), some (.ref 0), some (.ref 215), some (.int x3)], [.int (x3 + 1), .ref (zro + 0), .ref 0], (zS0, R, I, J))) rfl ?_
  refine zEv_iax (a := 0) rfl rfl h1397 ?_
  exact zEv_c (fun _ => rfl) rfl hc rfl rfl k1
set_option maxRecDepth 50000 in
theorem b_285_1401 {Ls : Nat} {xs : Nat → Int32} {d : Nat} {R : zR} {I : zI} {J : zJ} {r : zA} {x3 : Int32} {s0 : Int32} {w : Int32} {R' : zR} {I' : zI} {J' : zJ} (h1406 : zin (x3 + 1) Ls) (hc : zEv (zXs Ls xs) d zm_269 (0, [some (.ref 215), some (.int (xs (x3 + 1).toNatClampNeg))], [], (zS0, R, I, J)) (some (.int w), (zS0, R', I', J'))) (k1 : zEv (zXs Ls xs) (d + 1) zm_285 (1410, [some (.ref (zro + 0)), some (.ref 0), some (.ref 215), some (.int x3)], [.int w, .int s0], (zS0, R', I', J')) r) : zEv (zXs Ls xs) (d + 1) zm_285 (1401, [some (.ref (zro + 0)), some (.ref 0), some (.ref 215), some (.int x3)], [.int s0], (zS0, R, I, J)) r := by
  refine zEv_k 5 (f' := (1406, [some (.ref (zro + 0)), some (.ref 0), some (.ref 215), some (.int x3)], [.int (x3 + 1), .ref (zro + 0), .ref 215, .int s0], (zS0, R, I, J))) rfl ?_
  refine zEv_iax (a := 0) rfl rfl h1406 ?_
  exact zEv_c (fun _ => rfl) rfl hc rfl rfl k1
set_option maxRecDepth 50000 in
theorem b_285_1410 {Ls : Nat} {xs : Nat → Int32} {d : Nat} {R : zR} {I : zI} {J : zJ} {r : zA} {x3 : Int32} {s0 : Int32} {s1 : Int32} (k1 : s0 = s1 → zEv (zXs Ls xs) d zm_285 (1415, [some (.ref (zro + 0)), some (.ref 0), some (.ref 215), some (.int x3)], [], (zS0, R, I, J)) r) (k2 : ¬ (s0 = s1) → zEv (zXs Ls xs) d zm_285 (1413, [some (.ref (zro + 0)), some (.ref 0), some (.ref 215), some (.int x3)], [], (zS0, R, I, J)) r) : zEv (zXs Ls xs) d zm_285 (1410, [some (.ref (zro + 0)), some (.ref 0), some (.ref 215), some (.int x3)], [.int s1, .int s0], (zS0, R, I, J)) r := by
  refine zEv_k 1 (f' := (if s0 = s1 then 1415 else 1413, [some (.ref (zro + 0)), some (.ref 0), some (.ref 215), some (.int x3)], [], (zS0, R, I, J))) rfl ?_
  exact zEv_if k1 k2
set_option maxRecDepth 50000 in
theorem b_285_1413 {Ls : Nat} {xs : Nat → Int32} {d : Nat} {R : zR} {I : zI} {J : zJ} {x3 : Int32} : zEv (zXs Ls xs) d zm_285 (1413, [some (.ref (zro + 0)), some (.ref 0), some (.ref 215), some (.int x3)], [], (zS0, R, I, J)) (some (.int 0), (zS0, R, I, J)) := by
  refine zEv_k 1 (f' := (1414, [some (.ref (zro + 0)), some (.ref 0), some (.ref 215), some (.int x3)], [.int 0], (zS0, R, I, J))) rfl ?_
  exact zEv_r rfl
set_option maxRecDepth 50000 in
theorem b_285_1415 {Ls : Nat} {xs : Nat → Int32} {d : Nat} {R : zR} {I : zI} {J : zJ} {r : zA} {x3 : Int32} (k1 : zEv (zXs Ls xs) d zm_285 (18, [some (.ref (zro + 0)), some (.ref 0), some (.ref 215), some (.int (x3 + 6))], [], (zS0, R, I, J)) r) : zEv (zXs Ls xs) d zm_285 (1415, [some (.ref (zro + 0)), some (.ref 0), some (.ref 215), some (.int x3)], [], (zS0, R, I, J)) r := by
  refine zEv_k 2 (f' := (18, [some (.ref (zro + 0)), some (.ref 0), some (.ref 215), some (.int (x3 + 6))], [], (zS0, R, I, J))) rfl ?_
  exact k1
set_option maxRecDepth 50000 in
theorem b_285_1421 {Ls : Nat} {xs : Nat → Int32} {d : Nat} {R : zR} {I : zI} {J : zJ} {x3 : Int32} : zEv (zXs Ls xs) d zm_285 (1421, [some (.ref (zro + 0)), some (.ref 0), some (.ref 215), some (.int x3)], [], (zS0, R, I, J)) (some (.int 1), (zS0, R, I, J)) := by
  refine zEv_k 1 (f' := (1422, [some (.ref (zro + 0)), some (.ref 0), some (.ref 215), some (.int x3)], [.int 1], (zS0, R, I, J))) rfl ?_
  exact zEv_r rfl
