def qM_text_j75 (x1 : Int32) (x2 : Int32) (h : zK) : Option (Int32 × zK) :=
  (qM_readText x1 h).bind fun p10 =>
  if ¬ p10.1 = 0 then
    Option.bind (
        if ¬ x2 = (-1) then
          some x2
        else
          (zix x1 12).bind fun j14 =>
          some (gI p10.2 220 j14)
      ) fun (v13 : Int32) =>
    (zix x1 12).bind fun j15 =>
    zlet (
        if ¬ x2 = (-1) then
          0
        else
          1
      ) fun (v17 : Int32) =>
    zlet (sI p10.2 220 j15 ((gI p10.2 220 j15) + v17)) fun h18 =>
    if ¬ x1 = 0 then
      if ¬ x1 = 1 then
        (qM_store 223 17 v13 h18).bind fun p21 =>
        some (v13, p21)
      else
        (qM_store 222 121 v13 h18).bind fun p22 =>
        some (v13, p22)
    else
      (qM_store 221 52 v13 h18).bind fun p23 =>
      some (v13, p23)
  else
    some (-1, p10.2)
theorem t_qM_text_j75 {Ls : Nat} {xs : Nat → Int32} {d : Nat} {x1 : Int32} {x2 : Int32} {h : zK} {p : Int32 × zK} (H : qM_text_j75 x1 x2 h = some p)  (y3 : Option Value) : zEv (zXs Ls xs) (d + 8) zm_178 (75, [some (.ref 215), some (.int x1), some (.int x2), y3], [], zhp h) (some (.int p.1), zhp p.2) := by
  unfold qM_text_j75 at H
  refine zEv_k 2 (f' := (77, [some (.ref 215), some (.int x1), some (.int x2), y3], [.int x1, .ref 215], zhp h)) rfl ?_
  obtain ⟨p10, hp10, H⟩ := zbs H
  refine zEv_c (fun _ => rfl) rfl (t_qM_readText (x1 := x1) (h := h) (d := d) hp10) rfl rfl ?_
  refine zEv_k 1 (f' := (if ¬ p10.1 = 0 then 85 else 83, [some (.ref 215), some (.int x1), some (.int x2), y3], [], zhp p10.2)) rfl (zEv_if (fun c11 => ?_) (fun c11 => ?_))
  · replace H := zif_t c11 H
    obtain ⟨v13, hv13, H⟩ := zbs H
    have kv13 : zEv (zXs Ls xs) (d + 8) zm_178 (100, [some (.ref 215), some (.int x1), some (.int x2), y3], [.int v13], zhp p10.2) (some (.int p.1), zhp p.2) := by
      refine zEv_k 2 (f' := (102, [some (.ref 215), some (.int x1), some (.int x2), some (.int v13)], [.ref 215], zhp p10.2)) rfl ?_
      refine zRgr rfl rfl rfl (by decide) (b := 220) rfl ?_
      refine zEv_k 2 (f' := (107, [some (.ref 215), some (.int x1), some (.int x2), some (.int v13)], [.int x1, .ref 220, .int x1, .ref 220], zhp p10.2)) rfl ?_
      obtain ⟨j15, hj15, H⟩ := zbs H
      refine zRia rfl rfl (by decide) hj15 ?_
      obtain ⟨v17, hv17, H⟩ := zlets H
      have kv17 : zEv (zXs Ls xs) (d + 8) zm_178 (118, [some (.ref 215), some (.int x1), some (.int x2), some (.int v13)], [.int v17, .int (gI p10.2 220 j15), .int x1, .ref 220], zhp p10.2) (some (.int p.1), zhp p.2) := by
        refine zEv_k 1 (f' := (119, [some (.ref 215), some (.int x1), some (.int x2), some (.int v13)], [.int ((gI p10.2 220 j15) + v17), .int x1, .ref 220], zhp p10.2)) rfl ?_
        obtain ⟨h18, eh18, H⟩ := zlets H
        refine zRis rfl rfl (by decide) hj15 eh18 ?_
        refine zEv_k 2 (f' := (if ¬ x1 = 0 then 138 else 124, [some (.ref 215), some (.int x1), some (.int x2), some (.int v13)], [], zhp h18)) rfl (zEv_if (fun c19 => ?_) (fun c19 => ?_))
        · replace H := zif_t c19 H
          refine zEv_k 3 (f' := (if ¬ x1 = 1 then 157 else 143, [some (.ref 215), some (.int x1), some (.int x2), some (.int v13)], [], zhp h18)) rfl (zEv_if (fun c20 => ?_) (fun c20 => ?_))
          · replace H := zif_t c20 H
            refine zEv_k 2 (f' := (159, [some (.ref 215), some (.int x1), some (.int x2), some (.int v13)], [.ref 215, .ref 215], zhp h18)) rfl ?_
            refine zRgr rfl rfl rfl (by decide) (b := 223) rfl ?_
            refine zEv_k 2 (f' := (165, [some (.ref 215), some (.int x1), some (.int x2), some (.int v13)], [.int v13, .int 17, .ref 223, .ref 215], zhp h18)) rfl ?_
            obtain ⟨p21, hp21, H⟩ := zbs H
            refine zEv_c (fun _ => rfl) rfl (t_qM_store (oa := 223) (x2 := 17) (x3 := v13) (h := h18) (d := d + 7) (by decide) hp21) rfl rfl ?_
            refine zEv_k 1 (f' := (169, [some (.ref 215), some (.int x1), some (.int x2), some (.int v13)], [.int v13], zhp p21)) rfl ?_
            cases H
            exact zEv_r rfl
          · replace H := zif_f c20 H
            refine zEv_k 2 (f' := (145, [some (.ref 215), some (.int x1), some (.int x2), some (.int v13)], [.ref 215, .ref 215], zhp h18)) rfl ?_
            refine zRgr rfl rfl rfl (by decide) (b := 222) rfl ?_
            refine zEv_k 2 (f' := (151, [some (.ref 215), some (.int x1), some (.int x2), some (.int v13)], [.int v13, .int 121, .ref 222, .ref 215], zhp h18)) rfl ?_
            obtain ⟨p22, hp22, H⟩ := zbs H
            refine zEv_c (fun _ => rfl) rfl (t_qM_store (oa := 222) (x2 := 121) (x3 := v13) (h := h18) (d := d + 7) (by decide) hp22) rfl rfl ?_
            refine zEv_k 2 (f' := (169, [some (.ref 215), some (.int x1), some (.int x2), some (.int v13)], [.int v13], zhp p22)) rfl ?_
            cases H
            exact zEv_r rfl
        · replace H := zif_f c19 H
          refine zEv_k 2 (f' := (126, [some (.ref 215), some (.int x1), some (.int x2), some (.int v13)], [.ref 215, .ref 215], zhp h18)) rfl ?_
          refine zRgr rfl rfl rfl (by decide) (b := 221) rfl ?_
          refine zEv_k 2 (f' := (132, [some (.ref 215), some (.int x1), some (.int x2), some (.int v13)], [.int v13, .int 52, .ref 221, .ref 215], zhp h18)) rfl ?_
          obtain ⟨p23, hp23, H⟩ := zbs H
          refine zEv_c (fun _ => rfl) rfl (t_qM_store (oa := 221) (x2 := 52) (x3 := v13) (h := h18) (d := d + 7) (by decide) hp23) rfl rfl ?_
          refine zEv_k 2 (f' := (169, [some (.ref 215), some (.int x1), some (.int x2), some (.int v13)], [.int v13], zhp p23)) rfl ?_
          cases H
          exact zEv_r rfl
      clear H
      refine zEv_k 3 (f' := (if ¬ x2 = (-1) then 117 else 113, [some (.ref 215), some (.int x1), some (.int x2), some (.int v13)], [.int (gI p10.2 220 j15), .int x1, .ref 220], zhp p10.2)) rfl (zEv_if (fun c16 => ?_) (fun c16 => ?_))
      · replace hv17 := zif_t c16 hv17
        refine zEv_k 1 (f' := (118, [some (.ref 215), some (.int x1), some (.int x2), some (.int v13)], [.int 0, .int (gI p10.2 220 j15), .int x1, .ref 220], zhp p10.2)) rfl ?_
        cases hv17
        exact kv17
      · replace hv17 := zif_f c16 hv17
        refine zEv_k 2 (f' := (118, [some (.ref 215), some (.int x1), some (.int x2), some (.int v13)], [.int 1, .int (gI p10.2 220 j15), .int x1, .ref 220], zhp p10.2)) rfl ?_
        cases hv17
        exact kv17
    clear H
    refine zEv_k 3 (f' := (if ¬ x2 = (-1) then 99 else 90, [some (.ref 215), some (.int x1), some (.int x2), y3], [], zhp p10.2)) rfl (zEv_if (fun c12 => ?_) (fun c12 => ?_))
    · replace hv13 := zif_t c12 hv13
      refine zEv_k 1 (f' := (100, [some (.ref 215), some (.int x1), some (.int x2), y3], [.int x2], zhp p10.2)) rfl ?_
      cases hv13
      exact kv13
    · replace hv13 := zif_f c12 hv13
      refine zEv_k 1 (f' := (91, [some (.ref 215), some (.int x1), some (.int x2), y3], [.ref 215], zhp p10.2)) rfl ?_
      refine zRgr rfl rfl rfl (by decide) (b := 220) rfl ?_
      refine zEv_k 1 (f' := (95, [some (.ref 215), some (.int x1), some (.int x2), y3], [.int x1, .ref 220], zhp p10.2)) rfl ?_
      obtain ⟨j14, hj14, hv13⟩ := zbs hv13
      refine zRia rfl rfl (by decide) hj14 ?_
      refine zEv_k 1 (f' := (100, [some (.ref 215), some (.int x1), some (.int x2), y3], [.int (gI p10.2 220 j14)], zhp p10.2)) rfl ?_
      cases hv13
      exact kv13
  · replace H := zif_f c11 H
    refine zEv_k 1 (f' := (84, [some (.ref 215), some (.int x1), some (.int x2), y3], [.int (-1)], zhp p10.2)) rfl ?_
    cases H
    exact zEv_r rfl
def qM_text (x1 : Int32) (x2 : Int32) (h : zK) : Option (Int32 × zK) :=
  zlet (sI h 215 0 0) fun h1 =>
  zlet (sI h1 215 10 (gI h1 217 0)) fun h2 =>
  zlet (sI h2 217 0 0) fun h3 =>
  zlet (sI h3 218 0 0) fun h4 =>
  zlet (sI h4 219 0 (-1)) fun h5 =>
  if (zf_in x1 0 2) = 0 then
    some (-2, h5)
  else
    if ¬ x2 = (-1) then
      (qM_is x1 x2 h5).bind fun p8 =>
      if ¬ p8 = 0 then
        qM_text_j75 x1 x2 h5
      else
        some (-2, h5)
    else
      (zix x1 12).bind fun j24 =>
      if ¬ (gI h5 220 j24) = 2 then
        qM_text_j75 x1 x2 h5
      else
        some (-2, h5)
theorem t_qM_text {Ls : Nat} {xs : Nat → Int32} {d : Nat} {x1 : Int32} {x2 : Int32} {h : zK} {p : Int32 × zK} (H : qM_text x1 x2 h = some p) : zEv (zXs Ls xs) (d + 8) zm_178 (0, [some (.ref 215), some (.int x1), some (.int x2), none], [], zhp h) (some (.int p.1), zhp p.2) := by
  unfold qM_text at H
  obtain ⟨h1, eh1, H⟩ := zlets H
  refine zEv_w (F := fun z => (5, [some (.ref 215), some (.int x1), some (.int x2), none], [], zhp z)) (h0 := sI h 215 0 0) 3 rfl eh1 ?_
  refine zEv_k 2 (f' := (7, [some (.ref 215), some (.int x1), some (.int x2), none], [.ref 215, .ref 215], zhp h1)) rfl ?_
  refine zRgr rfl rfl rfl (by decide) (b := 217) rfl ?_
  refine zEv_k 1 (f' := (11, [some (.ref 215), some (.int x1), some (.int x2), none], [.int 0, .ref 217, .ref 215], zhp h1)) rfl ?_
  refine zRia (j := 0) rfl rfl (by decide) (by decide) ?_
  obtain ⟨h2, eh2, H⟩ := zlets H
  refine zEv_w (F := fun z => (15, [some (.ref 215), some (.int x1), some (.int x2), none], [], zhp z)) (h0 := sI h1 215 10 (gI h1 217 0)) 1 rfl eh2 ?_
  refine zEv_k 1 (f' := (16, [some (.ref 215), some (.int x1), some (.int x2), none], [.ref 215], zhp h2)) rfl ?_
  refine zRgr rfl rfl rfl (by decide) (b := 217) rfl ?_
  refine zEv_k 2 (f' := (21, [some (.ref 215), some (.int x1), some (.int x2), none], [.int 0, .int 0, .ref 217], zhp h2)) rfl ?_
  obtain ⟨h3, eh3, H⟩ := zlets H
  refine zRis (j := 0) rfl rfl (by decide) (by decide) eh3 ?_
  refine zEv_k 1 (f' := (23, [some (.ref 215), some (.int x1), some (.int x2), none], [.ref 215], zhp h3)) rfl ?_
  refine zRgr rfl rfl rfl (by decide) (b := 218) rfl ?_
  refine zEv_k 2 (f' := (28, [some (.ref 215), some (.int x1), some (.int x2), none], [.int 0, .int 0, .ref 218], zhp h3)) rfl ?_
  obtain ⟨h4, eh4, H⟩ := zlets H
  refine zRis (j := 0) rfl rfl (by decide) (by decide) eh4 ?_
  refine zEv_k 1 (f' := (30, [some (.ref 215), some (.int x1), some (.int x2), none], [.ref 215], zhp h4)) rfl ?_
  refine zRgr rfl rfl rfl (by decide) (b := 219) rfl ?_
  refine zEv_k 2 (f' := (35, [some (.ref 215), some (.int x1), some (.int x2), none], [.int (-1), .int 0, .ref 219], zhp h4)) rfl ?_
  obtain ⟨h5, eh5, H⟩ := zlets H
  refine zRis (j := 0) rfl rfl (by decide) (by decide) eh5 ?_
  refine zEv_k 3 (f' := (39, [some (.ref 215), some (.int x1), some (.int x2), none], [.int 2, .int 0, .int x1], zhp h5)) rfl ?_
  refine zEv_c (fun _ => rfl) rfl ev_zf_in rfl rfl ?_
  refine zEv_k 1 (f' := (if (zf_in x1 0 2) = 0 then 72 else 45, [some (.ref 215), some (.int x1), some (.int x2), none], [], zhp h5)) rfl (zEv_if (fun c6 => ?_) (fun c6 => ?_))
  · replace H := zif_t c6 H
    refine zEv_k 1 (f' := (74, [some (.ref 215), some (.int x1), some (.int x2), none], [.int (-2)], zhp h5)) rfl ?_
    cases H
    exact zEv_r rfl
  · replace H := zif_f c6 H
    refine zEv_k 3 (f' := (if ¬ x2 = (-1) then 63 else 50, [some (.ref 215), some (.int x1), some (.int x2), none], [], zhp h5)) rfl (zEv_if (fun c7 => ?_) (fun c7 => ?_))
    · replace H := zif_t c7 H
      refine zEv_k 3 (f' := (66, [some (.ref 215), some (.int x1), some (.int x2), none], [.int x2, .int x1, .ref 215], zhp h5)) rfl ?_
      obtain ⟨p8, hp8, H⟩ := zbs H
      refine zEv_c (fun _ => rfl) rfl (t_qM_is (x1 := x1) (x2 := x2) (h := h5) (d := d + 6) hp8) rfl rfl ?_
      refine zEv_k 1 (f' := (if ¬ p8 = 0 then 75 else 72, [some (.ref 215), some (.int x1), some (.int x2), none], [], zhp h5)) rfl (zEv_if (fun c9 => ?_) (fun c9 => ?_))
      · replace H := zif_t c9 H
        exact t_qM_text_j75 (x1 := x1) (x2 := x2) (h := h5) H _
      · replace H := zif_f c9 H
        refine zEv_k 1 (f' := (74, [some (.ref 215), some (.int x1), some (.int x2), none], [.int (-2)], zhp h5)) rfl ?_
        cases H
        exact zEv_r rfl
    · replace H := zif_f c7 H
      refine zEv_k 1 (f' := (51, [some (.ref 215), some (.int x1), some (.int x2), none], [.ref 215], zhp h5)) rfl ?_
      refine zRgr rfl rfl rfl (by decide) (b := 220) rfl ?_
      refine zEv_k 1 (f' := (55, [some (.ref 215), some (.int x1), some (.int x2), none], [.int x1, .ref 220], zhp h5)) rfl ?_
      obtain ⟨j24, hj24, H⟩ := zbs H
      refine zRia rfl rfl (by decide) hj24 ?_
      refine zEv_k 2 (f' := (if ¬ (gI h5 220 j24) = 2 then 75 else 60, [some (.ref 215), some (.int x1), some (.int x2), none], [], zhp h5)) rfl (zEv_if (fun c25 => ?_) (fun c25 => ?_))
      · replace H := zif_t c25 H
        exact t_qM_text_j75 (x1 := x1) (x2 := x2) (h := h5) H _
      · replace H := zif_f c25 H
        refine zEv_k 2 (f' := (74, [some (.ref 215), some (.int x1), some (.int x2), none], [.int (-2)], zhp h5)) rfl ?_
        cases H
        exact zEv_r rfl
def qM_fault (x1 : Int32) (h : zK) : Option (Int32 × zK) :=
  zlet (sI h 215 0 0) fun h1 =>
  if ¬ x1 = 0 then
    if ¬ x1 = 1 then
      some (-1, h1)
    else
      some (gI h1 219 0, h1)
  else
    some (gI h1 218 0, h1)
theorem t_qM_fault {Ls : Nat} {xs : Nat → Int32} {d : Nat} {x1 : Int32} {h : zK} {p : Int32 × zK} (H : qM_fault x1 h = some p) : zEv (zXs Ls xs) d zm_179 (0, [some (.ref 215), some (.int x1)], [], zhp h) (some (.int p.1), zhp p.2) := by
  unfold qM_fault at H
  obtain ⟨h1, eh1, H⟩ := zlets H
  refine zEv_w (F := fun z => (5, [some (.ref 215), some (.int x1)], [], zhp z)) (h0 := sI h 215 0 0) 3 rfl eh1 ?_
  refine zEv_k 2 (f' := (if ¬ x1 = 0 then 18 else 9, [some (.ref 215), some (.int x1)], [], zhp h1)) rfl (zEv_if (fun c2 => ?_) (fun c2 => ?_))
  · replace H := zif_t c2 H
    refine zEv_k 3 (f' := (if ¬ x1 = 1 then 32 else 23, [some (.ref 215), some (.int x1)], [], zhp h1)) rfl (zEv_if (fun c3 => ?_) (fun c3 => ?_))
    · replace H := zif_t c3 H
      refine zEv_k 1 (f' := (33, [some (.ref 215), some (.int x1)], [.int (-1)], zhp h1)) rfl ?_
      cases H
      exact zEv_r rfl
    · replace H := zif_f c3 H
      refine zEv_k 1 (f' := (24, [some (.ref 215), some (.int x1)], [.ref 215], zhp h1)) rfl ?_
      refine zRgr rfl rfl rfl (by decide) (b := 219) rfl ?_
      refine zEv_k 1 (f' := (28, [some (.ref 215), some (.int x1)], [.int 0, .ref 219], zhp h1)) rfl ?_
      refine zRia (j := 0) rfl rfl (by decide) (by decide) ?_
      refine zEv_k 1 (f' := (33, [some (.ref 215), some (.int x1)], [.int (gI h1 219 0)], zhp h1)) rfl ?_
      cases H
      exact zEv_r rfl
  · replace H := zif_f c2 H
    refine zEv_k 1 (f' := (10, [some (.ref 215), some (.int x1)], [.ref 215], zhp h1)) rfl ?_
    refine zRgr rfl rfl rfl (by decide) (b := 218) rfl ?_
    refine zEv_k 1 (f' := (14, [some (.ref 215), some (.int x1)], [.int 0, .ref 218], zhp h1)) rfl ?_
    refine zRia (j := 0) rfl rfl (by decide) (by decide) ?_
    refine zEv_k 1 (f' := (33, [some (.ref 215), some (.int x1)], [.int (gI h1 218 0)], zhp h1)) rfl ?_
    cases H
    exact zEv_r rfl
def qM_of (x1 : Int32) (h : zK) : Option (Int32) :=
  (zix ((52 * (gI h 215 22)) + x1) 416).bind fun j1 =>
  some (gI h 221 j1)
theorem t_qM_of {Ls : Nat} {xs : Nat → Int32} {d : Nat} {x1 : Int32} {h : zK} {p : Int32} (H : qM_of x1 h = some p) : zEv (zXs Ls xs) d zm_180 (0, [some (.ref 215), some (.int x1)], [], zhp h) (some (.int p), zhp h) := by
  unfold qM_of at H
  refine zEv_k 1 (f' := (1, [some (.ref 215), some (.int x1)], [.ref 215], zhp h)) rfl ?_
  refine zRgr rfl rfl rfl (by decide) (b := 221) rfl ?_
  refine zEv_k 6 (f' := (13, [some (.ref 215), some (.int x1)], [.int ((52 * (gI h 215 22)) + x1), .ref 221], zhp h)) rfl ?_
  obtain ⟨j1, hj1, H⟩ := zbs H
  refine zRia rfl rfl (by decide) hj1 ?_
  cases H
  exact zEv_r rfl
def qM_asTold_b37 (s : Int32 × zK) : Option ((Int32 × zK) ⊕ (zK)) :=
  if 7 ≤ s.1 then
    some (.inr s.2)
  else
    (qM_of (3 + s.1) s.2).bind fun p9 =>
    (zix s.1 7).bind fun j10 =>
    zlet (sI s.2 226 j10 p9) fun h11 =>
    (qM_of (17 + s.1) h11).bind fun p12 =>
    zlet (sI h11 227 j10 p12) fun h13 =>
    (qM_of (31 + s.1) h13).bind fun p14 =>
    zlet (sI h13 228 j10 p14) fun h15 =>
    (qM_of (38 + s.1) h15).bind fun p16 =>
    zlet (sI h15 229 j10 p16) fun h17 =>
    some (.inl (s.1 + 1, h17))
theorem t_qM_asTold_b37b {Ls : Nat} {xs : Nat → Int32} {d : Nat} {r : zA} {s : Int32 × zK} {e : (Int32 × zK) ⊕ (zK)} (H : qM_asTold_b37 s = some e) (K : match (generalizing := false) e with | .inl s' => zEv (zXs Ls xs) (d + 1) zm_181 (37, [some (.ref 215), some (.int s'.1)], [], zhp s'.2) r | .inr v => ∀ (z1 : Option Value), zEv (zXs Ls xs) (d + 1) zm_181 (104, [some (.ref 215), z1], [], zhp v) r) : zEv (zXs Ls xs) (d + 1) zm_181 (37, [some (.ref 215), some (.int s.1)], [], zhp s.2) r := by
  unfold qM_asTold_b37 at H
  refine zEv_k 3 (f' := (if 7 ≤ s.1 then 104 else 43, [some (.ref 215), some (.int s.1)], [], zhp s.2)) rfl (zEv_if (fun c8 => ?_) (fun c8 => ?_))
  · replace H := zif_t c8 H
    cases H
    exact K _
  · replace H := zif_f c8 H
    refine zEv_k 1 (f' := (44, [some (.ref 215), some (.int s.1)], [.ref 215], zhp s.2)) rfl ?_
    refine zRgr rfl rfl rfl (by decide) (b := 226) rfl ?_
    refine zEv_k 5 (f' := (52, [some (.ref 215), some (.int s.1)], [.int (3 + s.1), .ref 215, .int s.1, .ref 226], zhp s.2)) rfl ?_
    obtain ⟨p9, hp9, H⟩ := zbs H
    refine zEv_c (fun _ => rfl) rfl (t_qM_of (x1 := 3 + s.1) (h := s.2) (d := d) hp9) rfl rfl ?_
    obtain ⟨j10, hj10, H⟩ := zbs H
    obtain ⟨h11, eh11, H⟩ := zlets H
    refine zRis rfl rfl (by decide) hj10 eh11 ?_
    refine zEv_k 1 (f' := (57, [some (.ref 215), some (.int s.1)], [.ref 215], zhp h11)) rfl ?_
    refine zRgr rfl rfl rfl (by decide) (b := 227) rfl ?_
    refine zEv_k 5 (f' := (66, [some (.ref 215), some (.int s.1)], [.int (17 + s.1), .ref 215, .int s.1, .ref 227], zhp h11)) rfl ?_
    obtain ⟨p12, hp12, H⟩ := zbs H
    refine zEv_c (fun _ => rfl) rfl (t_qM_of (x1 := 17 + s.1) (h := h11) (d := d) hp12) rfl rfl ?_
    obtain ⟨h13, eh13, H⟩ := zlets H
    refine zRis rfl rfl (by decide) hj10 eh13 ?_
    refine zEv_k 1 (f' := (71, [some (.ref 215), some (.int s.1)], [.ref 215], zhp h13)) rfl ?_
    refine zRgr rfl rfl rfl (by decide) (b := 228) rfl ?_
    refine zEv_k 5 (f' := (80, [some (.ref 215), some (.int s.1)], [.int (31 + s.1), .ref 215, .int s.1, .ref 228], zhp h13)) rfl ?_
    obtain ⟨p14, hp14, H⟩ := zbs H
    refine zEv_c (fun _ => rfl) rfl (t_qM_of (x1 := 31 + s.1) (h := h13) (d := d) hp14) rfl rfl ?_
    obtain ⟨h15, eh15, H⟩ := zlets H
    refine zRis rfl rfl (by decide) hj10 eh15 ?_
    refine zEv_k 1 (f' := (85, [some (.ref 215), some (.int s.1)], [.ref 215], zhp h15)) rfl ?_
    refine zRgr rfl rfl rfl (by decide) (b := 229) rfl ?_
    refine zEv_k 5 (f' := (94, [some (.ref 215), some (.int s.1)], [.int (38 + s.1), .ref 215, .int s.1, .ref 229], zhp h15)) rfl ?_
    obtain ⟨p16, hp16, H⟩ := zbs H
    refine zEv_c (fun _ => rfl) rfl (t_qM_of (x1 := 38 + s.1) (h := h15) (d := d) hp16) rfl rfl ?_
    obtain ⟨h17, eh17, H⟩ := zlets H
    refine zRis rfl rfl (by decide) hj10 eh17 ?_
    refine zEv_k 2 (f' := (37, [some (.ref 215), some (.int (s.1 + 1))], [], zhp h17)) rfl ?_
    cases H
    exact K
theorem t_qM_asTold_b37 {Ls : Nat} {xs : Nat → Int32} {d : Nat} {r : zA} {t : zK} (K : ∀ (z1 : Option Value), zEv (zXs Ls xs) (d + 1) zm_181 (104, [some (.ref 215), z1], [], zhp t) r) (n : Nat) (s : Int32 × zK) (H : zloop (qM_asTold_b37) n s = some t) : zEv (zXs Ls xs) (d + 1) zm_181 (37, [some (.ref 215), some (.int s.1)], [], zhp s.2) r := by
  have Z := zloop_P (P := fun s => zEv (zXs Ls xs) (d + 1) zm_181 (37, [some (.ref 215), some (.int s.1)], [], zhp s.2) r) (b := qM_asTold_b37) (t := t) (fun s s2 hb hk => by exact t_qM_asTold_b37b hb hk) (fun s hb => by exact t_qM_asTold_b37b hb K) n s H
  exact Z
def qM_asTold (h : zK) : Option (zK) :=
  zlet (sI h 215 26 0) fun h1 =>
  zlet (sI h1 215 27 0) fun h2 =>
  zlet (sI h2 215 28 0) fun h3 =>
  zlet (sI h3 215 29 0) fun h4 =>
  zlet (sI h4 215 30 0) fun h5 =>
  zlet (sI h5 215 31 0) fun h6 =>
  zlet (sI h6 215 32 0) fun h7 =>
  (zloop (qM_asTold_b37) zfu (0, h7)).bind fun t18 =>
  some t18
theorem t_qM_asTold {Ls : Nat} {xs : Nat → Int32} {d : Nat} {h : zK} {p : zK} (H : qM_asTold h = some p) : zEv (zXs Ls xs) (d + 1) zm_181 (0, [some (.ref 215), none], [], zhp h) (none, zhp p) := by
  unfold qM_asTold at H
  obtain ⟨h1, eh1, H⟩ := zlets H
  refine zEv_w (F := fun z => (5, [some (.ref 215), none], [], zhp z)) (h0 := sI h 215 26 0) 3 rfl eh1 ?_
  obtain ⟨h2, eh2, H⟩ := zlets H
  refine zEv_w (F := fun z => (10, [some (.ref 215), none], [], zhp z)) (h0 := sI h1 215 27 0) 3 rfl eh2 ?_
  obtain ⟨h3, eh3, H⟩ := zlets H
  refine zEv_w (F := fun z => (15, [some (.ref 215), none], [], zhp z)) (h0 := sI h2 215 28 0) 3 rfl eh3 ?_
  obtain ⟨h4, eh4, H⟩ := zlets H
  refine zEv_w (F := fun z => (20, [some (.ref 215), none], [], zhp z)) (h0 := sI h3 215 29 0) 3 rfl eh4 ?_
  obtain ⟨h5, eh5, H⟩ := zlets H
  refine zEv_w (F := fun z => (25, [some (.ref 215), none], [], zhp z)) (h0 := sI h4 215 30 0) 3 rfl eh5 ?_
  obtain ⟨h6, eh6, H⟩ := zlets H
  refine zEv_w (F := fun z => (30, [some (.ref 215), none], [], zhp z)) (h0 := sI h5 215 31 0) 3 rfl eh6 ?_
  obtain ⟨h7, eh7, H⟩ := zlets H
  refine zEv_w (F := fun z => (35, [some (.ref 215), none], [], zhp z)) (h0 := sI h6 215 32 0) 3 rfl eh7 ?_
  refine zEv_k 2 (f' := (37, [some (.ref 215), some (.int 0)], [], zhp h7)) rfl ?_
  obtain ⟨t18, ht18, H⟩ := zbs H
  refine t_qM_asTold_b37 ?_ zfu _ ht18
  intro y1
  cases H
  exact zEv_r rfl
def qM_hand (x1 : Int32) (h : zK) : Option (Int32 × zK) :=
  (qM_is 0 x1 h).bind fun p1 =>
  if ¬ p1 = 0 then
    zlet (sI h 215 22 x1) fun h3 =>
    (qM_of 2 h3).bind fun p4 =>
    zlet (sI h3 215 23 p4) fun h5 =>
    (qM_of 0 h5).bind fun p6 =>
    zlet (sI h5 215 24 p6) fun h7 =>
    (qM_of 1 h7).bind fun p8 =>
    zlet (sI h7 215 25 p8) fun h9 =>
    (qM_asTold h9).bind fun p10 =>
    some (1, p10)
  else
    some (0, h)
theorem t_qM_hand {Ls : Nat} {xs : Nat → Int32} {d : Nat} {x1 : Int32} {h : zK} {p : Int32 × zK} (H : qM_hand x1 h = some p) : zEv (zXs Ls xs) (d + 2) zm_182 (0, [some (.ref 215), some (.int x1)], [], zhp h) (some (.int p.1), zhp p.2) := by
  unfold qM_hand at H
  refine zEv_k 3 (f' := (3, [some (.ref 215), some (.int x1)], [.int x1, .int 0, .ref 215], zhp h)) rfl ?_
  obtain ⟨p1, hp1, H⟩ := zbs H
  refine zEv_c (fun _ => rfl) rfl (t_qM_is (x1 := 0) (x2 := x1) (h := h) (d := d) hp1) rfl rfl ?_
  refine zEv_k 1 (f' := (if ¬ p1 = 0 then 11 else 9, [some (.ref 215), some (.int x1)], [], zhp h)) rfl (zEv_if (fun c2 => ?_) (fun c2 => ?_))
  · replace H := zif_t c2 H
    obtain ⟨h3, eh3, H⟩ := zlets H
    refine zEv_w (F := fun z => (16, [some (.ref 215), some (.int x1)], [], zhp z)) (h0 := sI h 215 22 x1) 3 rfl eh3 ?_
    refine zEv_k 3 (f' := (19, [some (.ref 215), some (.int x1)], [.int 2, .ref 215, .ref 215], zhp h3)) rfl ?_
    obtain ⟨p4, hp4, H⟩ := zbs H
    refine zEv_c (fun _ => rfl) rfl (t_qM_of (x1 := 2) (h := h3) (d := d + 1) hp4) rfl rfl ?_
    obtain ⟨h5, eh5, H⟩ := zlets H
    refine zEv_w (F := fun z => (25, [some (.ref 215), some (.int x1)], [], zhp z)) (h0 := sI h3 215 23 p4) 1 rfl eh5 ?_
    refine zEv_k 3 (f' := (28, [some (.ref 215), some (.int x1)], [.int 0, .ref 215, .ref 215], zhp h5)) rfl ?_
    obtain ⟨p6, hp6, H⟩ := zbs H
    refine zEv_c (fun _ => rfl) rfl (t_qM_of (x1 := 0) (h := h5) (d := d + 1) hp6) rfl rfl ?_
    obtain ⟨h7, eh7, H⟩ := zlets H
    refine zEv_w (F := fun z => (34, [some (.ref 215), some (.int x1)], [], zhp z)) (h0 := sI h5 215 24 p6) 1 rfl eh7 ?_
    refine zEv_k 3 (f' := (37, [some (.ref 215), some (.int x1)], [.int 1, .ref 215, .ref 215], zhp h7)) rfl ?_
    obtain ⟨p8, hp8, H⟩ := zbs H
    refine zEv_c (fun _ => rfl) rfl (t_qM_of (x1 := 1) (h := h7) (d := d + 1) hp8) rfl rfl ?_
    obtain ⟨h9, eh9, H⟩ := zlets H
    refine zEv_w (F := fun z => (43, [some (.ref 215), some (.int x1)], [], zhp z)) (h0 := sI h7 215 25 p8) 1 rfl eh9 ?_
    refine zEv_k 1 (f' := (44, [some (.ref 215), some (.int x1)], [.ref 215], zhp h9)) rfl ?_
    obtain ⟨p10, hp10, H⟩ := zbs H
    refine zEv_c (fun _ => rfl) rfl (t_qM_asTold (h := h9) (d := d) hp10) rfl rfl ?_
    refine zEv_k 1 (f' := (48, [some (.ref 215), some (.int x1)], [.int 1], zhp p10)) rfl ?_
    cases H
    exact zEv_r rfl
  · replace H := zif_f c2 H
    refine zEv_k 1 (f' := (10, [some (.ref 215), some (.int x1)], [.int 0], zhp h)) rfl ?_
    cases H
    exact zEv_r rfl
def qM_isSaying (x1 : Int32) (h : zK) : Option (Int32) :=
  if zbool (zf_in x1 0 ((gI h 215 23) - 1)) = true then
    some (zf_in x1 0 ((gI h 215 23) - 1))
  else none
theorem t_qM_isSaying {Ls : Nat} {xs : Nat → Int32} {d : Nat} {x1 : Int32} {h : zK} {p : Int32} (H : qM_isSaying x1 h = some p) : zEv (zXs Ls xs) (d + 1) zm_183 (0, [some (.ref 215), some (.int x1)], [], zhp h) (some (.int p), zhp h) := by
  unfold qM_isSaying at H
  refine zEv_k 6 (f' := (8, [some (.ref 215), some (.int x1)], [.int ((gI h 215 23) - 1), .int 0, .int x1], zhp h)) rfl ?_
  refine zEv_c (fun _ => rfl) rfl ev_zf_in rfl rfl ?_
  obtain ⟨c1, H⟩ := zifn H
  cases H
  exact zEv_rz rfl rfl c1
def qM_isHere (x1 : Int32) (h : zK) : Option (Int32) :=
  (qM_isSaying x1 h).bind fun p1 =>
  if p1 = 0 then
    some 0
  else
    if ¬ (zf_has (gI h 215 29) x1) = 0 then
      some 0
    else
      some 1
theorem t_qM_isHere {Ls : Nat} {xs : Nat → Int32} {d : Nat} {x1 : Int32} {h : zK} {p : Int32} (H : qM_isHere x1 h = some p) : zEv (zXs Ls xs) (d + 2) zm_184 (0, [some (.ref 215), some (.int x1)], [], zhp h) (some (.int p), zhp h) := by
  unfold qM_isHere at H
  refine zEv_k 2 (f' := (2, [some (.ref 215), some (.int x1)], [.int x1, .ref 215], zhp h)) rfl ?_
  obtain ⟨p1, hp1, H⟩ := zbs H
  refine zEv_c (fun _ => rfl) rfl (t_qM_isSaying (x1 := x1) (h := h) (d := d) hp1) rfl rfl ?_
  refine zEv_k 1 (f' := (if p1 = 0 then 23 else 8, [some (.ref 215), some (.int x1)], [], zhp h)) rfl (zEv_if (fun c2 => ?_) (fun c2 => ?_))
  · replace H := zif_t c2 H
    refine zEv_k 1 (f' := (24, [some (.ref 215), some (.int x1)], [.int 0], zhp h)) rfl ?_
    cases H
    exact zEv_r rfl
  · replace H := zif_f c2 H
    refine zEv_k 3 (f' := (13, [some (.ref 215), some (.int x1)], [.int x1, .int (gI h 215 29)], zhp h)) rfl ?_
    refine zEv_c (fun _ => rfl) rfl ev_zf_has rfl rfl ?_
    refine zEv_k 1 (f' := (if ¬ (zf_has (gI h 215 29) x1) = 0 then 23 else 19, [some (.ref 215), some (.int x1)], [], zhp h)) rfl (zEv_if (fun c3 => ?_) (fun c3 => ?_))
    · replace H := zif_t c3 H
      refine zEv_k 1 (f' := (24, [some (.ref 215), some (.int x1)], [.int 0], zhp h)) rfl ?_
      cases H
      exact zEv_r rfl
    · replace H := zif_f c3 H
      refine zEv_k 2 (f' := (24, [some (.ref 215), some (.int x1)], [.int 1], zhp h)) rfl ?_
      cases H
      exact zEv_r rfl
def qM_burst_b39 (x1 : Int32) (s : Int32 × zK) : Option ((Int32 × zK) ⊕ (zK)) :=
  if (gI s.2 215 23) ≤ s.1 then
    some (.inr s.2)
  else
    (zix s.1 7).bind fun j6 =>
    Option.bind (
        if ¬ (zf_has (gI s.2 215 29) s.1) = 0 then
          some 0
        else
          (zix x1 7).bind fun j9 =>
          if (gI s.2 215 25) < (zf_away (gI s.2 229 j6) (gI s.2 229 j9)) then
            some 0
          else
            some (gI s.2 215 24)
      ) fun (v8 : Int32) =>
    zlet (sI s.2 227 j6 ((gI s.2 227 j6) + v8)) fun h11 =>
    some (.inl (s.1 + 1, h11))
theorem t_qM_burst_b39b {Ls : Nat} {xs : Nat → Int32} {d : Nat} {x1 : Int32} {r : zA} {s : Int32 × zK} {e : (Int32 × zK) ⊕ (zK)} (H : qM_burst_b39 x1 s = some e) (K : match (generalizing := false) e with | .inl s' => zEv (zXs Ls xs) (d + 1) zm_186 (39, [some (.ref 215), some (.int x1), some (.int s'.1)], [], zhp s'.2) r | .inr v => ∀ (z2 : Option Value), zEv (zXs Ls xs) (d + 1) zm_186 (103, [some (.ref 215), some (.int x1), z2], [], zhp v) r) : zEv (zXs Ls xs) (d + 1) zm_186 (39, [some (.ref 215), some (.int x1), some (.int s.1)], [], zhp s.2) r := by
  unfold qM_burst_b39 at H
  refine zEv_k 4 (f' := (if (gI s.2 215 23) ≤ s.1 then 103 else 47, [some (.ref 215), some (.int x1), some (.int s.1)], [], zhp s.2)) rfl (zEv_if (fun c5 => ?_) (fun c5 => ?_))
  · replace H := zif_t c5 H
    cases H
    exact K _
  · replace H := zif_f c5 H
    refine zEv_k 1 (f' := (48, [some (.ref 215), some (.int x1), some (.int s.1)], [.ref 215], zhp s.2)) rfl ?_
    refine zRgr rfl rfl rfl (by decide) (b := 227) rfl ?_
    refine zEv_k 2 (f' := (53, [some (.ref 215), some (.int x1), some (.int s.1)], [.int s.1, .ref 227, .int s.1, .ref 227], zhp s.2)) rfl ?_
    obtain ⟨j6, hj6, H⟩ := zbs H
    refine zRia rfl rfl (by decide) hj6 ?_
    obtain ⟨v8, hv8, H⟩ := zbs H
    have kv8 : zEv (zXs Ls xs) (d + 1) zm_186 (95, [some (.ref 215), some (.int x1), some (.int s.1)], [.int v8, .int (gI s.2 227 j6), .int s.1, .ref 227], zhp s.2) r := by
      refine zEv_k 1 (f' := (96, [some (.ref 215), some (.int x1), some (.int s.1)], [.int ((gI s.2 227 j6) + v8), .int s.1, .ref 227], zhp s.2)) rfl ?_
      obtain ⟨h11, eh11, H⟩ := zlets H
      refine zRis rfl rfl (by decide) hj6 eh11 ?_
      refine zEv_k 2 (f' := (39, [some (.ref 215), some (.int x1), some (.int (s.1 + 1))], [], zhp h11)) rfl ?_
      cases H
      exact K
    clear H
    refine zEv_k 3 (f' := (59, [some (.ref 215), some (.int x1), some (.int s.1)], [.int s.1, .int (gI s.2 215 29), .int (gI s.2 227 j6), .int s.1, .ref 227], zhp s.2)) rfl ?_
    refine zEv_c (fun _ => rfl) rfl ev_zf_has rfl rfl ?_
    refine zEv_k 1 (f' := (if ¬ (zf_has (gI s.2 215 29) s.1) = 0 then 94 else 65, [some (.ref 215), some (.int x1), some (.int s.1)], [.int (gI s.2 227 j6), .int s.1, .ref 227], zhp s.2)) rfl (zEv_if (fun c7 => ?_) (fun c7 => ?_))
    · replace hv8 := zif_t c7 hv8
      refine zEv_k 1 (f' := (95, [some (.ref 215), some (.int x1), some (.int s.1)], [.int 0, .int (gI s.2 227 j6), .int s.1, .ref 227], zhp s.2)) rfl ?_
      cases hv8
      exact kv8
    · replace hv8 := zif_f c7 hv8
      refine zEv_k 1 (f' := (66, [some (.ref 215), some (.int x1), some (.int s.1)], [.ref 215, .int (gI s.2 227 j6), .int s.1, .ref 227], zhp s.2)) rfl ?_
      refine zRgr rfl rfl rfl (by decide) (b := 229) rfl ?_
      refine zEv_k 1 (f' := (70, [some (.ref 215), some (.int x1), some (.int s.1)], [.int s.1, .ref 229, .int (gI s.2 227 j6), .int s.1, .ref 227], zhp s.2)) rfl ?_
      refine zRia rfl rfl (by decide) hj6 ?_
      refine zEv_k 1 (f' := (72, [some (.ref 215), some (.int x1), some (.int s.1)], [.ref 215, .int (gI s.2 229 j6), .int (gI s.2 227 j6), .int s.1, .ref 227], zhp s.2)) rfl ?_
      refine zRgr rfl rfl rfl (by decide) (b := 229) rfl ?_
      refine zEv_k 1 (f' := (76, [some (.ref 215), some (.int x1), some (.int s.1)], [.int x1, .ref 229, .int (gI s.2 229 j6), .int (gI s.2 227 j6), .int s.1, .ref 227], zhp s.2)) rfl ?_
      obtain ⟨j9, hj9, hv8⟩ := zbs hv8
      refine zRia rfl rfl (by decide) hj9 ?_
      refine zEv_c (fun _ => rfl) rfl ev_zf_away rfl rfl ?_
      refine zEv_k 3 (f' := (if (gI s.2 215 25) < (zf_away (gI s.2 229 j6) (gI s.2 229 j9)) then 94 else 87, [some (.ref 215), some (.int x1), some (.int s.1)], [.int (gI s.2 227 j6), .int s.1, .ref 227], zhp s.2)) rfl (zEv_if (fun c10 => ?_) (fun c10 => ?_))
      · replace hv8 := zif_t c10 hv8
        refine zEv_k 1 (f' := (95, [some (.ref 215), some (.int x1), some (.int s.1)], [.int 0, .int (gI s.2 227 j6), .int s.1, .ref 227], zhp s.2)) rfl ?_
        cases hv8
        exact kv8
      · replace hv8 := zif_f c10 hv8
        refine zEv_k 3 (f' := (95, [some (.ref 215), some (.int x1), some (.int s.1)], [.int (gI s.2 215 24), .int (gI s.2 227 j6), .int s.1, .ref 227], zhp s.2)) rfl ?_
        cases hv8
        exact kv8
theorem t_qM_burst_b39 {Ls : Nat} {xs : Nat → Int32} {d : Nat} {x1 : Int32} {r : zA} {t : zK} (K : ∀ (z2 : Option Value), zEv (zXs Ls xs) (d + 1) zm_186 (103, [some (.ref 215), some (.int x1), z2], [], zhp t) r) (n : Nat) (s : Int32 × zK) (H : zloop (qM_burst_b39 x1) n s = some t) : zEv (zXs Ls xs) (d + 1) zm_186 (39, [some (.ref 215), some (.int x1), some (.int s.1)], [], zhp s.2) r := by
  have Z := zloop_P (P := fun s => zEv (zXs Ls xs) (d + 1) zm_186 (39, [some (.ref 215), some (.int x1), some (.int s.1)], [], zhp s.2) r) (b := qM_burst_b39 x1) (t := t) (fun s s2 hb hk => by exact t_qM_burst_b39b hb hk) (fun s hb => by exact t_qM_burst_b39b hb K) n s H
  exact Z
def qM_burst (x1 : Int32) (h : zK) : Option (zK) :=
  zlet (sI h 215 29 ((gI h 215 29) ||| ((1 : Int32) <<< (x1 &&& 31)))) fun h1 =>
  zlet (sI h1 215 28 ((gI h1 215 28) + 1)) fun h2 =>
  (zix x1 7).bind fun j3 =>
  zlet (sI h2 215 32 ((gI h2 215 32) + (gI h2 226 j3))) fun h4 =>
  (zloop (qM_burst_b39 x1) zfu (0, h4)).bind fun t12 =>
  some t12
theorem t_qM_burst {Ls : Nat} {xs : Nat → Int32} {d : Nat} {x1 : Int32} {h : zK} {p : zK} (H : qM_burst x1 h = some p) : zEv (zXs Ls xs) (d + 1) zm_186 (0, [some (.ref 215), some (.int x1), none], [], zhp h) (none, zhp p) := by
  unfold qM_burst at H
  obtain ⟨h1, eh1, H⟩ := zlets H
  refine zEv_w (F := fun z => (12, [some (.ref 215), some (.int x1), none], [], zhp z)) (h0 := sI h 215 29 ((gI h 215 29) ||| ((1 : Int32) <<< (x1 &&& 31)))) 8 rfl eh1 ?_
  obtain ⟨h2, eh2, H⟩ := zlets H
  refine zEv_w (F := fun z => (22, [some (.ref 215), some (.int x1), none], [], zhp z)) (h0 := sI h1 215 28 ((gI h1 215 28) + 1)) 6 rfl eh2 ?_
  refine zEv_k 4 (f' := (28, [some (.ref 215), some (.int x1), none], [.ref 215, .int (gI h2 215 32), .ref 215], zhp h2)) rfl ?_
  refine zRgr rfl rfl rfl (by decide) (b := 226) rfl ?_
  refine zEv_k 1 (f' := (32, [some (.ref 215), some (.int x1), none], [.int x1, .ref 226, .int (gI h2 215 32), .ref 215], zhp h2)) rfl ?_
  obtain ⟨j3, hj3, H⟩ := zbs H
  refine zRia rfl rfl (by decide) hj3 ?_
  obtain ⟨h4, eh4, H⟩ := zlets H
  refine zEv_w (F := fun z => (37, [some (.ref 215), some (.int x1), none], [], zhp z)) (h0 := sI h2 215 32 ((gI h2 215 32) + (gI h2 226 j3))) 2 rfl eh4 ?_
  refine zEv_k 2 (f' := (39, [some (.ref 215), some (.int x1), some (.int 0)], [], zhp h4)) rfl ?_
  obtain ⟨t12, ht12, H⟩ := zbs H
  refine t_qM_burst_b39 (x1 := x1) ?_ zfu _ ht12
  intro y2
  cases H
  exact zEv_r rfl
def qM_firstToBurst_b2 (h : zK) (s : Int32) : Option ((Int32) ⊕ ((Unit) ⊕ (Int32))) :=
  if (gI h 215 23) ≤ s then
    some (.inr (.inl ()))
  else
    if ¬ (zf_has (gI h 215 29) s) = 0 then
      some (.inl (s + 1))
    else
      (zix s 7).bind fun j3 =>
      if (gI h 227 j3) ≤ (gI h 228 j3) then
        some (.inl (s + 1))
      else
        some (.inr (.inr s))
theorem t_qM_firstToBurst_b2b {Ls : Nat} {xs : Nat → Int32} {d : Nat} {h : zK} {r : zA} {s : Int32} {e : (Int32) ⊕ ((Unit) ⊕ (Int32))} (H : qM_firstToBurst_b2 h s = some e) (K : match (generalizing := false) e with | .inl s' => zEv (zXs Ls xs) (d + 1) zm_187 (2, [some (.ref 215), some (.int s')], [], zhp h) r | .inr (.inl v) => ∀ (z1 : Option Value), zEv (zXs Ls xs) (d + 1) zm_187 (44, [some (.ref 215), z1], [], zhp h) r | .inr (.inr p) => (some (.int p), zhp h) = r) : zEv (zXs Ls xs) (d + 1) zm_187 (2, [some (.ref 215), some (.int s)], [], zhp h) r := by
  unfold qM_firstToBurst_b2 at H
  refine zEv_k 4 (f' := (if (gI h 215 23) ≤ s then 44 else 10, [some (.ref 215), some (.int s)], [], zhp h)) rfl (zEv_if (fun c1 => ?_) (fun c1 => ?_))
  · replace H := zif_t c1 H
    cases H
    exact K _
  · replace H := zif_f c1 H
    refine zEv_k 3 (f' := (15, [some (.ref 215), some (.int s)], [.int s, .int (gI h 215 29)], zhp h)) rfl ?_
    refine zEv_c (fun _ => rfl) rfl ev_zf_has rfl rfl ?_
    refine zEv_k 1 (f' := (if ¬ (zf_has (gI h 215 29) s) = 0 then 38 else 21, [some (.ref 215), some (.int s)], [], zhp h)) rfl (zEv_if (fun c2 => ?_) (fun c2 => ?_))
    · replace H := zif_t c2 H
      refine zEv_k 2 (f' := (2, [some (.ref 215), some (.int (s + 1))], [], zhp h)) rfl ?_
      cases H
      exact K
    · replace H := zif_f c2 H
      refine zEv_k 1 (f' := (22, [some (.ref 215), some (.int s)], [.ref 215], zhp h)) rfl ?_
      refine zRgr rfl rfl rfl (by decide) (b := 227) rfl ?_
      refine zEv_k 1 (f' := (26, [some (.ref 215), some (.int s)], [.int s, .ref 227], zhp h)) rfl ?_
      obtain ⟨j3, hj3, H⟩ := zbs H
      refine zRia rfl rfl (by decide) hj3 ?_
      refine zEv_k 1 (f' := (28, [some (.ref 215), some (.int s)], [.ref 215, .int (gI h 227 j3)], zhp h)) rfl ?_
      refine zRgr rfl rfl rfl (by decide) (b := 228) rfl ?_
      refine zEv_k 1 (f' := (32, [some (.ref 215), some (.int s)], [.int s, .ref 228, .int (gI h 227 j3)], zhp h)) rfl ?_
      refine zRia rfl rfl (by decide) hj3 ?_
      refine zEv_k 1 (f' := (if (gI h 227 j3) ≤ (gI h 228 j3) then 38 else 36, [some (.ref 215), some (.int s)], [], zhp h)) rfl (zEv_if (fun c4 => ?_) (fun c4 => ?_))
      · replace H := zif_t c4 H
        refine zEv_k 2 (f' := (2, [some (.ref 215), some (.int (s + 1))], [], zhp h)) rfl ?_
        cases H
        exact K
      · replace H := zif_f c4 H
        refine zEv_k 1 (f' := (37, [some (.ref 215), some (.int s)], [.int s], zhp h)) rfl ?_
        cases H
        exact zEv_re K rfl
theorem t_qM_firstToBurst_b2 {Ls : Nat} {xs : Nat → Int32} {d : Nat} {h : zK} {r : zA} {t : (Unit) ⊕ (Int32)} (K : (match (generalizing := false) t with | .inl v => ∀ (z1 : Option Value), zEv (zXs Ls xs) (d + 1) zm_187 (44, [some (.ref 215), z1], [], zhp h) r | .inr p => (some (.int p), zhp h) = r)) (n : Nat) (s : Int32) (H : zloop (qM_firstToBurst_b2 h) n s = some t) : zEv (zXs Ls xs) (d + 1) zm_187 (2, [some (.ref 215), some (.int s)], [], zhp h) r := by
  have Z := zloop_P (P := fun s => zEv (zXs Ls xs) (d + 1) zm_187 (2, [some (.ref 215), some (.int s)], [], zhp h) r) (b := qM_firstToBurst_b2 h) (t := t) (fun s s2 hb hk => by exact t_qM_firstToBurst_b2b hb hk) (fun s hb => by rcases t with v | p <;> (exact t_qM_firstToBurst_b2b hb K)) n s H
  exact Z
def qM_firstToBurst (h : zK) : Option (Int32) :=
  (zloop (qM_firstToBurst_b2 h) zfu 0).bind fun t5 => match t5 with
  | .inr p => some p
  | .inl v6 =>
    some (-1)
theorem t_qM_firstToBurst {Ls : Nat} {xs : Nat → Int32} {d : Nat} {h : zK} {p : Int32} (H : qM_firstToBurst h = some p) : zEv (zXs Ls xs) (d + 1) zm_187 (0, [some (.ref 215), none], [], zhp h) (some (.int p), zhp h) := by
  unfold qM_firstToBurst at H
  refine zEv_k 2 (f' := (2, [some (.ref 215), some (.int 0)], [], zhp h)) rfl ?_
  obtain ⟨t5, ht5, H⟩ := zbs H
  refine t_qM_firstToBurst_b2 (h := h) ?_ zfu _ ht5
  rcases t5 with v6 | p
  · intro y1
    dsimp only at H
    refine zEv_k 1 (f' := (45, [some (.ref 215), y1], [.int (-1)], zhp h)) rfl ?_
    cases H
    exact zEv_r rfl
  · cases H
    exact rfl
def qM_burstAll_b5 (s : Int32 × zK) : Option ((Int32 × zK) ⊕ (zK)) :=
  if s.1 = (-1) then
    some (.inr s.2)
  else
    (qM_burst s.1 s.2).bind fun p3 =>
    (qM_firstToBurst p3).bind fun p4 =>
    some (.inl (p4, p3))
theorem t_qM_burstAll_b5b {Ls : Nat} {xs : Nat → Int32} {d : Nat} {r : zA} {s : Int32 × zK} {e : (Int32 × zK) ⊕ (zK)} (H : qM_burstAll_b5 s = some e) (K : match (generalizing := false) e with | .inl s' => zEv (zXs Ls xs) (d + 2) zm_188 (5, [some (.ref 215), some (.int s'.1)], [], zhp s'.2) r | .inr v => ∀ (z1 : Option Value), zEv (zXs Ls xs) (d + 2) zm_188 (23, [some (.ref 215), z1], [], zhp v) r) : zEv (zXs Ls xs) (d + 2) zm_188 (5, [some (.ref 215), some (.int s.1)], [], zhp s.2) r := by
  unfold qM_burstAll_b5 at H
  refine zEv_k 3 (f' := (if s.1 = (-1) then 23 else 10, [some (.ref 215), some (.int s.1)], [], zhp s.2)) rfl (zEv_if (fun c2 => ?_) (fun c2 => ?_))
  · replace H := zif_t c2 H
    cases H
    exact K _
  · replace H := zif_f c2 H
    refine zEv_k 2 (f' := (12, [some (.ref 215), some (.int s.1)], [.int s.1, .ref 215], zhp s.2)) rfl ?_
    obtain ⟨p3, hp3, H⟩ := zbs H
    refine zEv_c (fun _ => rfl) rfl (t_qM_burst (x1 := s.1) (h := s.2) (d := d) hp3) rfl rfl ?_
    refine zEv_k 1 (f' := (16, [some (.ref 215), some (.int s.1)], [.ref 215], zhp p3)) rfl ?_
    obtain ⟨p4, hp4, H⟩ := zbs H
    refine zEv_c (fun _ => rfl) rfl (t_qM_firstToBurst (h := p3) (d := d) hp4) rfl rfl ?_
    refine zEv_k 2 (f' := (5, [some (.ref 215), some (.int p4)], [], zhp p3)) rfl ?_
    cases H
    exact K
theorem t_qM_burstAll_b5 {Ls : Nat} {xs : Nat → Int32} {d : Nat} {r : zA} {t : zK} (K : ∀ (z1 : Option Value), zEv (zXs Ls xs) (d + 2) zm_188 (23, [some (.ref 215), z1], [], zhp t) r) (n : Nat) (s : Int32 × zK) (H : zloop (qM_burstAll_b5) n s = some t) : zEv (zXs Ls xs) (d + 2) zm_188 (5, [some (.ref 215), some (.int s.1)], [], zhp s.2) r := by
  have Z := zloop_P (P := fun s => zEv (zXs Ls xs) (d + 2) zm_188 (5, [some (.ref 215), some (.int s.1)], [], zhp s.2) r) (b := qM_burstAll_b5) (t := t) (fun s s2 hb hk => by exact t_qM_burstAll_b5b hb hk) (fun s hb => by exact t_qM_burstAll_b5b hb K) n s H
  exact Z
def qM_burstAll (h : zK) : Option (zK) :=
  (qM_firstToBurst h).bind fun p1 =>
  (zloop (qM_burstAll_b5) zfu (p1, h)).bind fun t5 =>
  some t5
theorem t_qM_burstAll {Ls : Nat} {xs : Nat → Int32} {d : Nat} {h : zK} {p : zK} (H : qM_burstAll h = some p) : zEv (zXs Ls xs) (d + 2) zm_188 (0, [some (.ref 215), none], [], zhp h) (none, zhp p) := by
  unfold qM_burstAll at H
  refine zEv_k 1 (f' := (1, [some (.ref 215), none], [.ref 215], zhp h)) rfl ?_
  obtain ⟨p1, hp1, H⟩ := zbs H
  refine zEv_c (fun _ => rfl) rfl (t_qM_firstToBurst (h := h) (d := d) hp1) rfl rfl ?_
  refine zEv_k 1 (f' := (5, [some (.ref 215), some (.int p1)], [], zhp h)) rfl ?_
  obtain ⟨t5, ht5, H⟩ := zbs H
  refine t_qM_burstAll_b5 ?_ zfu _ ht5
  intro y1
  cases H
  exact zEv_r rfl
def qM_cellar (x1 : Int32) (x2 : Int32) (h : zK) : Option (Int32 × zK) :=
  zlet (sI h 215 0 0) fun h1 =>
  (qM_hand x1 h1).bind fun p2 =>
  if ¬ p2.1 = 0 then
    if 10 ≤ x2 then
      if 80 ≤ x2 then
        some (-1, p2.2)
      else
        if (gI p2.2 215 23) ≤ (x2 - x2 / 10 * 10) then
          some (-1, p2.2)
        else
          (qM_of ((3 + (7 * ((x2 / 10) - 1))) + (x2 - x2 / 10 * 10)) p2.2).bind fun p7 =>
          some (p7, p2.2)
    else
      if (zf_in x2 0 2) = 0 then
        some (-1, p2.2)
      else
        (qM_of x2 p2.2).bind fun p9 =>
        some (p9, p2.2)
  else
    some (-1, p2.2)
theorem t_qM_cellar {Ls : Nat} {xs : Nat → Int32} {d : Nat} {x1 : Int32} {x2 : Int32} {h : zK} {p : Int32 × zK} (H : qM_cellar x1 x2 h = some p) : zEv (zXs Ls xs) (d + 3) zm_189 (0, [some (.ref 215), some (.int x1), some (.int x2), none], [], zhp h) (some (.int p.1), zhp p.2) := by
  unfold qM_cellar at H
  obtain ⟨h1, eh1, H⟩ := zlets H
  refine zEv_w (F := fun z => (5, [some (.ref 215), some (.int x1), some (.int x2), none], [], zhp z)) (h0 := sI h 215 0 0) 3 rfl eh1 ?_
  refine zEv_k 2 (f' := (7, [some (.ref 215), some (.int x1), some (.int x2), none], [.int x1, .ref 215], zhp h1)) rfl ?_
  obtain ⟨p2, hp2, H⟩ := zbs H
  refine zEv_c (fun _ => rfl) rfl (t_qM_hand (x1 := x1) (h := h1) (d := d) hp2) rfl rfl ?_
  refine zEv_k 1 (f' := (if ¬ p2.1 = 0 then 15 else 13, [some (.ref 215), some (.int x1), some (.int x2), none], [], zhp p2.2)) rfl (zEv_if (fun c3 => ?_) (fun c3 => ?_))
  · replace H := zif_t c3 H
    refine zEv_k 2 (f' := (18, [some (.ref 215), some (.int x1), some (.int x2), none], [.int 10, .int x2], zhp p2.2)) rfl ?_
    refine zEv_rem rfl (by decide) ?_
    refine zEv_k 4 (f' := (if 10 ≤ x2 then 45 else 26, [some (.ref 215), some (.int x1), some (.int x2), some (.int (x2 - x2 / 10 * 10))], [], zhp p2.2)) rfl (zEv_if (fun c4 => ?_) (fun c4 => ?_))
    · replace H := zif_t c4 H
      refine zEv_k 3 (f' := (if 80 ≤ x2 then 79 else 51, [some (.ref 215), some (.int x1), some (.int x2), some (.int (x2 - x2 / 10 * 10))], [], zhp p2.2)) rfl (zEv_if (fun c5 => ?_) (fun c5 => ?_))
      · replace H := zif_t c5 H
        refine zEv_k 1 (f' := (80, [some (.ref 215), some (.int x1), some (.int x2), some (.int (x2 - x2 / 10 * 10))], [.int (-1)], zhp p2.2)) rfl ?_
        cases H
        exact zEv_r rfl
      · replace H := zif_f c5 H
        refine zEv_k 4 (f' := (if (gI p2.2 215 23) ≤ (x2 - x2 / 10 * 10) then 79 else 59, [some (.ref 215), some (.int x1), some (.int x2), some (.int (x2 - x2 / 10 * 10))], [], zhp p2.2)) rfl (zEv_if (fun c6 => ?_) (fun c6 => ?_))
        · replace H := zif_t c6 H
          refine zEv_k 1 (f' := (80, [some (.ref 215), some (.int x1), some (.int x2), some (.int (x2 - x2 / 10 * 10))], [.int (-1)], zhp p2.2)) rfl ?_
          cases H
          exact zEv_r rfl
        · replace H := zif_f c6 H
          refine zEv_k 5 (f' := (66, [some (.ref 215), some (.int x1), some (.int x2), some (.int (x2 - x2 / 10 * 10))], [.int 10, .int x2, .int 7, .int 3, .ref 215], zhp p2.2)) rfl ?_
          refine zEv_div rfl (by decide) ?_
          refine zEv_k 6 (f' := (73, [some (.ref 215), some (.int x1), some (.int x2), some (.int (x2 - x2 / 10 * 10))], [.int ((3 + (7 * ((x2 / 10) - 1))) + (x2 - x2 / 10 * 10)), .ref 215], zhp p2.2)) rfl ?_
          obtain ⟨p7, hp7, H⟩ := zbs H
          refine zEv_c (fun _ => rfl) rfl (t_qM_of (x1 := (3 + (7 * ((x2 / 10) - 1))) + (x2 - x2 / 10 * 10)) (h := p2.2) (d := d + 2) hp7) rfl rfl ?_
          refine zEv_k 1 (f' := (80, [some (.ref 215), some (.int x1), some (.int x2), some (.int (x2 - x2 / 10 * 10))], [.int p7], zhp p2.2)) rfl ?_
          cases H
          exact zEv_r rfl
    · replace H := zif_f c4 H
      refine zEv_k 3 (f' := (29, [some (.ref 215), some (.int x1), some (.int x2), some (.int (x2 - x2 / 10 * 10))], [.int 2, .int 0, .int x2], zhp p2.2)) rfl ?_
      refine zEv_c (fun _ => rfl) rfl ev_zf_in rfl rfl ?_
      refine zEv_k 1 (f' := (if (zf_in x2 0 2) = 0 then 43 else 35, [some (.ref 215), some (.int x1), some (.int x2), some (.int (x2 - x2 / 10 * 10))], [], zhp p2.2)) rfl (zEv_if (fun c8 => ?_) (fun c8 => ?_))
      · replace H := zif_t c8 H
        refine zEv_k 1 (f' := (44, [some (.ref 215), some (.int x1), some (.int x2), some (.int (x2 - x2 / 10 * 10))], [.int (-1)], zhp p2.2)) rfl ?_
        cases H
        exact zEv_r rfl
      · replace H := zif_f c8 H
        refine zEv_k 2 (f' := (37, [some (.ref 215), some (.int x1), some (.int x2), some (.int (x2 - x2 / 10 * 10))], [.int x2, .ref 215], zhp p2.2)) rfl ?_
        obtain ⟨p9, hp9, H⟩ := zbs H
        refine zEv_c (fun _ => rfl) rfl (t_qM_of (x1 := x2) (h := p2.2) (d := d + 2) hp9) rfl rfl ?_
        refine zEv_k 1 (f' := (44, [some (.ref 215), some (.int x1), some (.int x2), some (.int (x2 - x2 / 10 * 10))], [.int p9], zhp p2.2)) rfl ?_
        cases H
        exact zEv_r rfl
  · replace H := zif_f c3 H
    refine zEv_k 1 (f' := (14, [some (.ref 215), some (.int x1), some (.int x2), none], [.int (-1)], zhp p2.2)) rfl ?_
    cases H
    exact zEv_r rfl
def qM_deeds (h : zK) : Option (Int32) :=
  (zix (121 * (gI h 215 37)) 968).bind fun j1 =>
  some (gI h 222 j1)
theorem t_qM_deeds {Ls : Nat} {xs : Nat → Int32} {d : Nat} {h : zK} {p : Int32} (H : qM_deeds h = some p) : zEv (zXs Ls xs) d zm_190 (0, [some (.ref 215)], [], zhp h) (some (.int p), zhp h) := by
  unfold qM_deeds at H
  refine zEv_k 1 (f' := (1, [some (.ref 215)], [.ref 215], zhp h)) rfl ?_
  refine zRgr rfl rfl rfl (by decide) (b := 222) rfl ?_
  refine zEv_k 4 (f' := (11, [some (.ref 215)], [.int (121 * (gI h 215 37)), .ref 222], zhp h)) rfl ?_
  obtain ⟨j1, hj1, H⟩ := zbs H
  refine zRia rfl rfl (by decide) hj1 ?_
  cases H
  exact zEv_r rfl
def qM_deedOf (x1 : Int32) (x2 : Int32) (h : zK) : Option (Int32) :=
  (zix ((((121 * (gI h 215 37)) + 1) + (3 * x1)) + x2) 968).bind fun j1 =>
  some (gI h 222 j1)
theorem t_qM_deedOf {Ls : Nat} {xs : Nat → Int32} {d : Nat} {x1 : Int32} {x2 : Int32} {h : zK} {p : Int32} (H : qM_deedOf x1 x2 h = some p) : zEv (zXs Ls xs) d zm_191 (0, [some (.ref 215), some (.int x1), some (.int x2)], [], zhp h) (some (.int p), zhp h) := by
  unfold qM_deedOf at H
  refine zEv_k 1 (f' := (1, [some (.ref 215), some (.int x1), some (.int x2)], [.ref 215], zhp h)) rfl ?_
  refine zRgr rfl rfl rfl (by decide) (b := 222) rfl ?_
  refine zEv_k 9 (f' := (16, [some (.ref 215), some (.int x1), some (.int x2)], [.int (3 * x1), .int ((121 * (gI h 215 37)) + 1), .ref 222], zhp h)) rfl ?_
  refine zEv_k 3 (f' := (19, [some (.ref 215), some (.int x1), some (.int x2)], [.int ((((121 * (gI h 215 37)) + 1) + (3 * x1)) + x2), .ref 222], zhp h)) rfl ?_
  obtain ⟨j1, hj1, H⟩ := zbs H
  refine zRia rfl rfl (by decide) hj1 ?_
  cases H
  exact zEv_r rfl
def qM_hasYears (x1 : Int32) (h : zK) : Option (Int32 × zK) :=
  zlet (sI h 215 37 x1) fun h1 =>
  (qM_is 1 x1 h1).bind fun p2 =>
  if zbool p2 = true then
    some (p2, h1)
  else none
theorem t_qM_hasYears {Ls : Nat} {xs : Nat → Int32} {d : Nat} {x1 : Int32} {h : zK} {p : Int32 × zK} (H : qM_hasYears x1 h = some p) : zEv (zXs Ls xs) (d + 2) zm_192 (0, [some (.ref 215), some (.int x1)], [], zhp h) (some (.int p.1), zhp p.2) := by
  unfold qM_hasYears at H
  obtain ⟨h1, eh1, H⟩ := zlets H
  refine zEv_w (F := fun z => (5, [some (.ref 215), some (.int x1)], [], zhp z)) (h0 := sI h 215 37 x1) 3 rfl eh1 ?_
  refine zEv_k 3 (f' := (8, [some (.ref 215), some (.int x1)], [.int x1, .int 1, .ref 215], zhp h1)) rfl ?_
  obtain ⟨p2, hp2, H⟩ := zbs H
  refine zEv_c (fun _ => rfl) rfl (t_qM_is (x1 := 1) (x2 := x1) (h := h1) (d := d) hp2) rfl rfl ?_
  obtain ⟨c3, H⟩ := zifn H
  cases H
  exact zEv_rz rfl rfl c3
def qM_deed (x1 : Int32) (x2 : Int32) (x3 : Int32) (h : zK) : Option (Int32 × zK) :=
  zlet (sI h 215 0 0) fun h1 =>
  (qM_hasYears x1 h1).bind fun p2 =>
  if ¬ p2.1 = 0 then
    if ¬ x2 = (-1) then
      (qM_deeds p2.2).bind fun p5 =>
      if (zf_in x2 0 (p5 - 1)) = 0 then
        some (-2, p2.2)
      else
        if (zf_in x3 0 2) = 0 then
          some (-2, p2.2)
        else
          (qM_deedOf x2 x3 p2.2).bind fun p8 =>
          some (p8, p2.2)
    else
      if ¬ x3 = 0 then
        some (-2, p2.2)
      else
        (qM_deeds p2.2).bind fun p10 =>
        some (p10, p2.2)
  else
    some (-2, p2.2)
theorem t_qM_deed {Ls : Nat} {xs : Nat → Int32} {d : Nat} {x1 : Int32} {x2 : Int32} {x3 : Int32} {h : zK} {p : Int32 × zK} (H : qM_deed x1 x2 x3 h = some p) : zEv (zXs Ls xs) (d + 3) zm_193 (0, [some (.ref 215), some (.int x1), some (.int x2), some (.int x3)], [], zhp h) (some (.int p.1), zhp p.2) := by
  unfold qM_deed at H
  obtain ⟨h1, eh1, H⟩ := zlets H
  refine zEv_w (F := fun z => (5, [some (.ref 215), some (.int x1), some (.int x2), some (.int x3)], [], zhp z)) (h0 := sI h 215 0 0) 3 rfl eh1 ?_
  refine zEv_k 2 (f' := (7, [some (.ref 215), some (.int x1), some (.int x2), some (.int x3)], [.int x1, .ref 215], zhp h1)) rfl ?_
  obtain ⟨p2, hp2, H⟩ := zbs H
  refine zEv_c (fun _ => rfl) rfl (t_qM_hasYears (x1 := x1) (h := h1) (d := d) hp2) rfl rfl ?_
  refine zEv_k 1 (f' := (if ¬ p2.1 = 0 then 16 else 13, [some (.ref 215), some (.int x1), some (.int x2), some (.int x3)], [], zhp p2.2)) rfl (zEv_if (fun c3 => ?_) (fun c3 => ?_))
  · replace H := zif_t c3 H
    refine zEv_k 3 (f' := (if ¬ x2 = (-1) then 35 else 21, [some (.ref 215), some (.int x1), some (.int x2), some (.int x3)], [], zhp p2.2)) rfl (zEv_if (fun c4 => ?_) (fun c4 => ?_))
    · replace H := zif_t c4 H
      refine zEv_k 3 (f' := (38, [some (.ref 215), some (.int x1), some (.int x2), some (.int x3)], [.ref 215, .int 0, .int x2], zhp p2.2)) rfl ?_
      obtain ⟨p5, hp5, H⟩ := zbs H
      refine zEv_c (fun _ => rfl) rfl (t_qM_deeds (h := p2.2) (d := d + 2) hp5) rfl rfl ?_
      refine zEv_k 2 (f' := (43, [some (.ref 215), some (.int x1), some (.int x2), some (.int x3)], [.int (p5 - 1), .int 0, .int x2], zhp p2.2)) rfl ?_
      refine zEv_c (fun _ => rfl) rfl ev_zf_in rfl rfl ?_
      refine zEv_k 1 (f' := (if (zf_in x2 0 (p5 - 1)) = 0 then 67 else 49, [some (.ref 215), some (.int x1), some (.int x2), some (.int x3)], [], zhp p2.2)) rfl (zEv_if (fun c6 => ?_) (fun c6 => ?_))
      · replace H := zif_t c6 H
        refine zEv_k 1 (f' := (69, [some (.ref 215), some (.int x1), some (.int x2), some (.int x3)], [.int (-2)], zhp p2.2)) rfl ?_
        cases H
        exact zEv_r rfl
      · replace H := zif_f c6 H
        refine zEv_k 3 (f' := (52, [some (.ref 215), some (.int x1), some (.int x2), some (.int x3)], [.int 2, .int 0, .int x3], zhp p2.2)) rfl ?_
        refine zEv_c (fun _ => rfl) rfl ev_zf_in rfl rfl ?_
        refine zEv_k 1 (f' := (if (zf_in x3 0 2) = 0 then 67 else 58, [some (.ref 215), some (.int x1), some (.int x2), some (.int x3)], [], zhp p2.2)) rfl (zEv_if (fun c7 => ?_) (fun c7 => ?_))
        · replace H := zif_t c7 H
          refine zEv_k 1 (f' := (69, [some (.ref 215), some (.int x1), some (.int x2), some (.int x3)], [.int (-2)], zhp p2.2)) rfl ?_
          cases H
          exact zEv_r rfl
        · replace H := zif_f c7 H
          refine zEv_k 3 (f' := (61, [some (.ref 215), some (.int x1), some (.int x2), some (.int x3)], [.int x3, .int x2, .ref 215], zhp p2.2)) rfl ?_
          obtain ⟨p8, hp8, H⟩ := zbs H
          refine zEv_c (fun _ => rfl) rfl (t_qM_deedOf (x1 := x2) (x2 := x3) (h := p2.2) (d := d + 2) hp8) rfl rfl ?_
          refine zEv_k 1 (f' := (69, [some (.ref 215), some (.int x1), some (.int x2), some (.int x3)], [.int p8], zhp p2.2)) rfl ?_
          cases H
          exact zEv_r rfl
    · replace H := zif_f c4 H
      refine zEv_k 2 (f' := (if ¬ x3 = 0 then 32 else 25, [some (.ref 215), some (.int x1), some (.int x2), some (.int x3)], [], zhp p2.2)) rfl (zEv_if (fun c9 => ?_) (fun c9 => ?_))
      · replace H := zif_t c9 H
        refine zEv_k 1 (f' := (34, [some (.ref 215), some (.int x1), some (.int x2), some (.int x3)], [.int (-2)], zhp p2.2)) rfl ?_
        cases H
        exact zEv_r rfl
      · replace H := zif_f c9 H
        refine zEv_k 1 (f' := (26, [some (.ref 215), some (.int x1), some (.int x2), some (.int x3)], [.ref 215], zhp p2.2)) rfl ?_
        obtain ⟨p10, hp10, H⟩ := zbs H
        refine zEv_c (fun _ => rfl) rfl (t_qM_deeds (h := p2.2) (d := d + 2) hp10) rfl rfl ?_
        refine zEv_k 1 (f' := (34, [some (.ref 215), some (.int x1), some (.int x2), some (.int x3)], [.int p10], zhp p2.2)) rfl ?_
        cases H
        exact zEv_r rfl
  · replace H := zif_f c3 H
    refine zEv_k 1 (f' := (15, [some (.ref 215), some (.int x1), some (.int x2), some (.int x3)], [.int (-2)], zhp p2.2)) rfl ?_
    cases H
    exact zEv_r rfl
def qM_goesOn_b13 (s : Int32 × zK) : Option ((Int32 × zK) ⊕ (zK)) :=
  if (gI s.2 215 23) ≤ s.1 then
    some (.inr s.2)
  else
    Option.bind (
        if ¬ (zf_has (gI s.2 215 29) s.1) = 0 then
          some s.2
        else
          (zix s.1 7).bind fun j5 =>
          (qM_of (10 + s.1) s.2).bind fun p6 =>
          zlet (sI s.2 226 j5 (zf_greater 0 ((gI s.2 226 j5) - p6))) fun h7 =>
          (qM_of (24 + s.1) h7).bind fun p8 =>
          zlet (sI h7 227 j5 ((gI h7 227 j5) + p8)) fun h9 =>
          some h9
      ) fun (v4 : zK) =>
    some (.inl (s.1 + 1, v4))
theorem t_qM_goesOn_b13b {Ls : Nat} {xs : Nat → Int32} {d : Nat} {r : zA} {s : Int32 × zK} {e : (Int32 × zK) ⊕ (zK)} (H : qM_goesOn_b13 s = some e) (K : match (generalizing := false) e with | .inl s' => zEv (zXs Ls xs) (d + 3) zm_194 (13, [some (.ref 215), some (.int s'.1)], [], zhp s'.2) r | .inr v => ∀ (z1 : Option Value), zEv (zXs Ls xs) (d + 3) zm_194 (80, [some (.ref 215), z1], [], zhp v) r) : zEv (zXs Ls xs) (d + 3) zm_194 (13, [some (.ref 215), some (.int s.1)], [], zhp s.2) r := by
  unfold qM_goesOn_b13 at H
  refine zEv_k 4 (f' := (if (gI s.2 215 23) ≤ s.1 then 80 else 21, [some (.ref 215), some (.int s.1)], [], zhp s.2)) rfl (zEv_if (fun c2 => ?_) (fun c2 => ?_))
  · replace H := zif_t c2 H
    cases H
    exact K _
  · replace H := zif_f c2 H
    obtain ⟨v4, hv4, H⟩ := zbs H
    have kv4 : zEv (zXs Ls xs) (d + 3) zm_194 (74, [some (.ref 215), some (.int s.1)], [], zhp v4) r := by
      refine zEv_k 2 (f' := (13, [some (.ref 215), some (.int (s.1 + 1))], [], zhp v4)) rfl ?_
      cases H
      exact K
    clear H
    refine zEv_k 3 (f' := (26, [some (.ref 215), some (.int s.1)], [.int s.1, .int (gI s.2 215 29)], zhp s.2)) rfl ?_
    refine zEv_c (fun _ => rfl) rfl ev_zf_has rfl rfl ?_
    refine zEv_k 1 (f' := (if ¬ (zf_has (gI s.2 215 29) s.1) = 0 then 74 else 32, [some (.ref 215), some (.int s.1)], [], zhp s.2)) rfl (zEv_if (fun c3 => ?_) (fun c3 => ?_))
    · replace hv4 := zif_t c3 hv4
      cases hv4
      exact kv4
    · replace hv4 := zif_f c3 hv4
      refine zEv_k 1 (f' := (33, [some (.ref 215), some (.int s.1)], [.ref 215], zhp s.2)) rfl ?_
      refine zRgr rfl rfl rfl (by decide) (b := 226) rfl ?_
      refine zEv_k 3 (f' := (39, [some (.ref 215), some (.int s.1)], [.ref 215, .int 0, .int s.1, .ref 226], zhp s.2)) rfl ?_
      refine zRgr rfl rfl rfl (by decide) (b := 226) rfl ?_
      refine zEv_k 1 (f' := (43, [some (.ref 215), some (.int s.1)], [.int s.1, .ref 226, .int 0, .int s.1, .ref 226], zhp s.2)) rfl ?_
      obtain ⟨j5, hj5, hv4⟩ := zbs hv4
      refine zRia rfl rfl (by decide) hj5 ?_
      refine zEv_k 4 (f' := (49, [some (.ref 215), some (.int s.1)], [.int (10 + s.1), .ref 215, .int (gI s.2 226 j5), .int 0, .int s.1, .ref 226], zhp s.2)) rfl ?_
      obtain ⟨p6, hp6, hv4⟩ := zbs hv4
      refine zEv_c (fun _ => rfl) rfl (t_qM_of (x1 := 10 + s.1) (h := s.2) (d := d + 2) hp6) rfl rfl ?_
      refine zEv_k 1 (f' := (53, [some (.ref 215), some (.int s.1)], [.int ((gI s.2 226 j5) - p6), .int 0, .int s.1, .ref 226], zhp s.2)) rfl ?_
      refine zEv_c (fun _ => rfl) rfl ev_zf_greater rfl rfl ?_
      obtain ⟨h7, eh7, hv4⟩ := zlets hv4
      refine zRis rfl rfl (by decide) hj5 eh7 ?_
      refine zEv_k 1 (f' := (58, [some (.ref 215), some (.int s.1)], [.ref 215], zhp h7)) rfl ?_
      refine zRgr rfl rfl rfl (by decide) (b := 227) rfl ?_
      refine zEv_k 2 (f' := (63, [some (.ref 215), some (.int s.1)], [.int s.1, .ref 227, .int s.1, .ref 227], zhp h7)) rfl ?_
      refine zRia rfl rfl (by decide) hj5 ?_
      refine zEv_k 4 (f' := (69, [some (.ref 215), some (.int s.1)], [.int (24 + s.1), .ref 215, .int (gI h7 227 j5), .int s.1, .ref 227], zhp h7)) rfl ?_
      obtain ⟨p8, hp8, hv4⟩ := zbs hv4
      refine zEv_c (fun _ => rfl) rfl (t_qM_of (x1 := 24 + s.1) (h := h7) (d := d + 2) hp8) rfl rfl ?_
      refine zEv_k 1 (f' := (73, [some (.ref 215), some (.int s.1)], [.int ((gI h7 227 j5) + p8), .int s.1, .ref 227], zhp h7)) rfl ?_
      obtain ⟨h9, eh9, hv4⟩ := zlets hv4
      refine zRis rfl rfl (by decide) hj5 eh9 ?_
      cases hv4
      exact kv4
theorem t_qM_goesOn_b13 {Ls : Nat} {xs : Nat → Int32} {d : Nat} {r : zA} {t : zK} (K : ∀ (z1 : Option Value), zEv (zXs Ls xs) (d + 3) zm_194 (80, [some (.ref 215), z1], [], zhp t) r) (n : Nat) (s : Int32 × zK) (H : zloop (qM_goesOn_b13) n s = some t) : zEv (zXs Ls xs) (d + 3) zm_194 (13, [some (.ref 215), some (.int s.1)], [], zhp s.2) r := by
  have Z := zloop_P (P := fun s => zEv (zXs Ls xs) (d + 3) zm_194 (13, [some (.ref 215), some (.int s.1)], [], zhp s.2) r) (b := qM_goesOn_b13) (t := t) (fun s s2 hb hk => by exact t_qM_goesOn_b13b hb hk) (fun s hb => by exact t_qM_goesOn_b13b hb K) n s H
  exact Z
def qM_goesOn (h : zK) : Option (Int32 × zK) :=
  if ¬ (gI h 215 26) = 50 then
    (zloop (qM_goesOn_b13) zfu (0, h)).bind fun t10 =>
    zlet (sI t10 215 26 ((gI t10 215 26) + 1)) fun h12 =>
    (qM_burstAll h12).bind fun p13 =>
    some (1, p13)
  else
    some (0, h)
theorem t_qM_goesOn {Ls : Nat} {xs : Nat → Int32} {d : Nat} {h : zK} {p : Int32 × zK} (H : qM_goesOn h = some p) : zEv (zXs Ls xs) (d + 3) zm_194 (0, [some (.ref 215), none], [], zhp h) (some (.int p.1), zhp p.2) := by
  unfold qM_goesOn at H
  refine zEv_k 4 (f' := (if ¬ (gI h 215 26) = 50 then 11 else 9, [some (.ref 215), none], [], zhp h)) rfl (zEv_if (fun c1 => ?_) (fun c1 => ?_))
  · replace H := zif_t c1 H
    refine zEv_k 2 (f' := (13, [some (.ref 215), some (.int 0)], [], zhp h)) rfl ?_
    obtain ⟨t10, ht10, H⟩ := zbs H
    refine t_qM_goesOn_b13 ?_ zfu _ ht10
    intro y1
    obtain ⟨h12, eh12, H⟩ := zlets H
    refine zEv_w (F := fun z => (90, [some (.ref 215), y1], [], zhp z)) (h0 := sI t10 215 26 ((gI t10 215 26) + 1)) 6 rfl eh12 ?_
    refine zEv_k 1 (f' := (91, [some (.ref 215), y1], [.ref 215], zhp h12)) rfl ?_
    obtain ⟨p13, hp13, H⟩ := zbs H
    refine zEv_c (fun _ => rfl) rfl (t_qM_burstAll (h := h12) (d := d) hp13) rfl rfl ?_
    refine zEv_k 1 (f' := (95, [some (.ref 215), y1], [.int 1], zhp p13)) rfl ?_
    cases H
    exact zEv_r rfl
  · replace H := zif_f c1 H
    refine zEv_k 1 (f' := (10, [some (.ref 215), none], [.int 0], zhp h)) rfl ?_
    cases H
    exact zEv_r rfl
def qM_does (x1 : Int32) (x2 : Int32) (x3 : Int32) (h : zK) : Option (Int32 × zK) :=
  if ¬ x1 = 0 then
    (qM_isHere x2 h).bind fun p2 =>
    if ¬ p2 = 0 then
      if x1 = 1 then
        zlet (sI h 215 29 ((gI h 215 29) ||| ((1 : Int32) <<< (x2 &&& 31)))) fun h4 =>
        Option.bind (
            if (zf_has (gI h4 215 31) x2) = 0 then
              (zix x2 7).bind fun j7 =>
              some (gI h4 226 j7)
            else
              some 0
          ) fun (v6 : Int32) =>
        zlet (sI h4 215 27 ((gI h4 215 27) + v6)) fun h8 =>
        some (1, h8)
      else if x1 = 2 then
        if (zf_has (gI h 215 30) x2) = 0 then
          zlet (sI h 215 30 ((gI h 215 30) ||| ((1 : Int32) <<< (x2 &&& 31)))) fun h10 =>
          (zix x2 7).bind fun j11 =>
          zlet (sI h10 228 j11 ((gI h10 228 j11) + 5)) fun h12 =>
          some (1, h12)
        else
          some (0, h)
      else if x1 = 3 then
        if (zf_has (gI h 215 31) x2) = 0 then
          zlet (sI h 215 31 ((gI h 215 31) ||| ((1 : Int32) <<< (x2 &&& 31)))) fun h14 =>
          some (1, h14)
        else
          some (0, h)
      else
        (zix x2 7).bind fun j15 =>
        if ¬ (gI h 229 j15) = x3 then
          zlet (sI h 229 j15 x3) fun h17 =>
          some (1, h17)
        else
          some (0, h)
    else
      some (0, h)
  else
    (qM_goesOn h).bind fun p18 =>
    if zbool p18.1 = true then
      some (p18.1, p18.2)
    else none
theorem t_qM_does {Ls : Nat} {xs : Nat → Int32} {d : Nat} {x1 : Int32} {x2 : Int32} {x3 : Int32} {h : zK} {p : Int32 × zK} (H : qM_does x1 x2 x3 h = some p) : zEv (zXs Ls xs) (d + 4) zm_195 (0, [some (.ref 215), some (.int x1), some (.int x2), some (.int x3)], [], zhp h) (some (.int p.1), zhp p.2) := by
  unfold qM_does at H
  refine zEv_k 2 (f' := (if ¬ x1 = 0 then 9 else 4, [some (.ref 215), some (.int x1), some (.int x2), some (.int x3)], [], zhp h)) rfl (zEv_if (fun c1 => ?_) (fun c1 => ?_))
  · replace H := zif_t c1 H
    refine zEv_k 2 (f' := (11, [some (.ref 215), some (.int x1), some (.int x2), some (.int x3)], [.int x2, .ref 215], zhp h)) rfl ?_
    obtain ⟨p2, hp2, H⟩ := zbs H
    refine zEv_c (fun _ => rfl) rfl (t_qM_isHere (x1 := x2) (h := h) (d := d + 1) hp2) rfl rfl ?_
    refine zEv_k 1 (f' := (if ¬ p2 = 0 then 19 else 17, [some (.ref 215), some (.int x1), some (.int x2), some (.int x3)], [], zhp h)) rfl (zEv_if (fun c3 => ?_) (fun c3 => ?_))
    · replace H := zif_t c3 H
      refine zEv_k 1 (f' := (20, [some (.ref 215), some (.int x1), some (.int x2), some (.int x3)], [.int x1], zhp h)) rfl ?_
      refine zEv_ts rfl (by decide) (by decide) (by decide) (fun hh => ?_) (fun j hj hh => ?_)
      · replace H := zif_f (fun e => (by rw [e] at hh; exact absurd hh (by decide))) H
        replace H := zif_f (fun e => (by rw [e] at hh; exact absurd hh (by decide))) H
        replace H := zif_f (fun e => (by rw [e] at hh; exact absurd hh (by decide))) H
        refine zEv_k 1 (f' := (157, [some (.ref 215), some (.int x1), some (.int x2), some (.int x3)], [.ref 215], zhp h)) rfl ?_
        refine zRgr rfl rfl rfl (by decide) (b := 229) rfl ?_
        refine zEv_k 1 (f' := (161, [some (.ref 215), some (.int x1), some (.int x2), some (.int x3)], [.int x2, .ref 229], zhp h)) rfl ?_
        obtain ⟨j15, hj15, H⟩ := zbs H
        refine zRia rfl rfl (by decide) hj15 ?_
        refine zEv_k 2 (f' := (if ¬ (gI h 229 j15) = x3 then 168 else 166, [some (.ref 215), some (.int x1), some (.int x2), some (.int x3)], [], zhp h)) rfl (zEv_if (fun c16 => ?_) (fun c16 => ?_))
        · replace H := zif_t c16 H
          refine zEv_k 1 (f' := (169, [some (.ref 215), some (.int x1), some (.int x2), some (.int x3)], [.ref 215], zhp h)) rfl ?_
          refine zRgr rfl rfl rfl (by decide) (b := 229) rfl ?_
          refine zEv_k 2 (f' := (174, [some (.ref 215), some (.int x1), some (.int x2), some (.int x3)], [.int x3, .int x2, .ref 229], zhp h)) rfl ?_
          obtain ⟨h17, eh17, H⟩ := zlets H
          refine zRis rfl rfl (by decide) hj15 eh17 ?_
          refine zEv_k 1 (f' := (176, [some (.ref 215), some (.int x1), some (.int x2), some (.int x3)], [.int 1], zhp h17)) rfl ?_
          cases H
          exact zEv_r rfl
        · replace H := zif_f c16 H
          refine zEv_k 1 (f' := (167, [some (.ref 215), some (.int x1), some (.int x2), some (.int x3)], [.int 0], zhp h)) rfl ?_
          cases H
          exact zEv_r rfl
      · rcases (by have hj2 : j < 3 := hj; omega : j = 0 ∨ j = 1 ∨ j = 2) with rfl | rfl | rfl
        · have ex : x1 = 1 := zeqI hh (by decide)
          replace H := zif_t ex H
          obtain ⟨h4, eh4, H⟩ := zlets H
          refine zEv_w (F := fun z => (60, [some (.ref 215), some (.int x1), some (.int x2), some (.int x3)], [], zhp z)) (h0 := sI h 215 29 ((gI h 215 29) ||| ((1 : Int32) <<< (x2 &&& 31)))) 8 rfl eh4 ?_
          obtain ⟨v6, hv6, H⟩ := zbs H
          have kv6 : zEv (zXs Ls xs) (d + 4) zm_195 (86, [some (.ref 215), some (.int x1), some (.int x2), some (.int x3)], [.int v6, .int (gI h4 215 27), .ref 215], zhp h4) (some (.int p.1), zhp p.2) := by
            obtain ⟨h8, eh8, H⟩ := zlets H
            refine zEv_w (F := fun z => (90, [some (.ref 215), some (.int x1), some (.int x2), some (.int x3)], [], zhp z)) (h0 := sI h4 215 27 ((gI h4 215 27) + v6)) 2 rfl eh8 ?_
            refine zEv_k 1 (f' := (91, [some (.ref 215), some (.int x1), some (.int x2), some (.int x3)], [.int 1], zhp h8)) rfl ?_
            cases H
            exact zEv_r rfl
          clear H
          refine zEv_k 6 (f' := (70, [some (.ref 215), some (.int x1), some (.int x2), some (.int x3)], [.int x2, .int (gI h4 215 31), .int (gI h4 215 27), .ref 215], zhp h4)) rfl ?_
          refine zEv_c (fun _ => rfl) rfl ev_zf_has rfl rfl ?_
          refine zEv_k 1 (f' := (if (zf_has (gI h4 215 31) x2) = 0 then 80 else 76, [some (.ref 215), some (.int x1), some (.int x2), some (.int x3)], [.int (gI h4 215 27), .ref 215], zhp h4)) rfl (zEv_if (fun c5 => ?_) (fun c5 => ?_))
          · replace hv6 := zif_t c5 hv6
            refine zEv_k 1 (f' := (81, [some (.ref 215), some (.int x1), some (.int x2), some (.int x3)], [.ref 215, .int (gI h4 215 27), .ref 215], zhp h4)) rfl ?_
            refine zRgr rfl rfl rfl (by decide) (b := 226) rfl ?_
            refine zEv_k 1 (f' := (85, [some (.ref 215), some (.int x1), some (.int x2), some (.int x3)], [.int x2, .ref 226, .int (gI h4 215 27), .ref 215], zhp h4)) rfl ?_
            obtain ⟨j7, hj7, hv6⟩ := zbs hv6
            refine zRia rfl rfl (by decide) hj7 ?_
            cases hv6
            exact kv6
          · replace hv6 := zif_f c5 hv6
            refine zEv_k 2 (f' := (86, [some (.ref 215), some (.int x1), some (.int x2), some (.int x3)], [.int 0, .int (gI h4 215 27), .ref 215], zhp h4)) rfl ?_
            cases hv6
            exact kv6
        · have ex : x1 = 2 := zeqI hh (by decide)
          replace H := zif_f (fun e => by rw [ex] at e; exact absurd e (by decide)) H
          replace H := zif_t ex H
          refine zEv_k 3 (f' := (97, [some (.ref 215), some (.int x1), some (.int x2), some (.int x3)], [.int x2, .int (gI h 215 30)], zhp h)) rfl ?_
          refine zEv_c (fun _ => rfl) rfl ev_zf_has rfl rfl ?_
          refine zEv_k 1 (f' := (if (zf_has (gI h 215 30) x2) = 0 then 105 else 103, [some (.ref 215), some (.int x1), some (.int x2), some (.int x3)], [], zhp h)) rfl (zEv_if (fun c9 => ?_) (fun c9 => ?_))
          · replace H := zif_t c9 H
            obtain ⟨h10, eh10, H⟩ := zlets H
            refine zEv_w (F := fun z => (117, [some (.ref 215), some (.int x1), some (.int x2), some (.int x3)], [], zhp z)) (h0 := sI h 215 30 ((gI h 215 30) ||| ((1 : Int32) <<< (x2 &&& 31)))) 8 rfl eh10 ?_
            refine zEv_k 1 (f' := (118, [some (.ref 215), some (.int x1), some (.int x2), some (.int x3)], [.ref 215], zhp h10)) rfl ?_
            refine zRgr rfl rfl rfl (by decide) (b := 228) rfl ?_
            refine zEv_k 2 (f' := (123, [some (.ref 215), some (.int x1), some (.int x2), some (.int x3)], [.int x2, .ref 228, .int x2, .ref 228], zhp h10)) rfl ?_
            obtain ⟨j11, hj11, H⟩ := zbs H
            refine zRia rfl rfl (by decide) hj11 ?_
            refine zEv_k 2 (f' := (126, [some (.ref 215), some (.int x1), some (.int x2), some (.int x3)], [.int ((gI h10 228 j11) + 5), .int x2, .ref 228], zhp h10)) rfl ?_
            obtain ⟨h12, eh12, H⟩ := zlets H
            refine zRis rfl rfl (by decide) hj11 eh12 ?_
            refine zEv_k 1 (f' := (128, [some (.ref 215), some (.int x1), some (.int x2), some (.int x3)], [.int 1], zhp h12)) rfl ?_
            cases H
            exact zEv_r rfl
          · replace H := zif_f c9 H
            refine zEv_k 1 (f' := (104, [some (.ref 215), some (.int x1), some (.int x2), some (.int x3)], [.int 0], zhp h)) rfl ?_
            cases H
            exact zEv_r rfl
        · have ex : x1 = 3 := zeqI hh (by decide)
          replace H := zif_f (fun e => by rw [ex] at e; exact absurd e (by decide)) H
          replace H := zif_f (fun e => by rw [ex] at e; exact absurd e (by decide)) H
          replace H := zif_t ex H
          refine zEv_k 3 (f' := (134, [some (.ref 215), some (.int x1), some (.int x2), some (.int x3)], [.int x2, .int (gI h 215 31)], zhp h)) rfl ?_
          refine zEv_c (fun _ => rfl) rfl ev_zf_has rfl rfl ?_
          refine zEv_k 1 (f' := (if (zf_has (gI h 215 31) x2) = 0 then 142 else 140, [some (.ref 215), some (.int x1), some (.int x2), some (.int x3)], [], zhp h)) rfl (zEv_if (fun c13 => ?_) (fun c13 => ?_))
          · replace H := zif_t c13 H
            obtain ⟨h14, eh14, H⟩ := zlets H
            refine zEv_w (F := fun z => (154, [some (.ref 215), some (.int x1), some (.int x2), some (.int x3)], [], zhp z)) (h0 := sI h 215 31 ((gI h 215 31) ||| ((1 : Int32) <<< (x2 &&& 31)))) 8 rfl eh14 ?_
            refine zEv_k 1 (f' := (155, [some (.ref 215), some (.int x1), some (.int x2), some (.int x3)], [.int 1], zhp h14)) rfl ?_
            cases H
            exact zEv_r rfl
          · replace H := zif_f c13 H
            refine zEv_k 1 (f' := (141, [some (.ref 215), some (.int x1), some (.int x2), some (.int x3)], [.int 0], zhp h)) rfl ?_
            cases H
            exact zEv_r rfl
    · replace H := zif_f c3 H
      refine zEv_k 1 (f' := (18, [some (.ref 215), some (.int x1), some (.int x2), some (.int x3)], [.int 0], zhp h)) rfl ?_
      cases H
      exact zEv_r rfl
  · replace H := zif_f c1 H
    refine zEv_k 1 (f' := (5, [some (.ref 215), some (.int x1), some (.int x2), some (.int x3)], [.ref 215], zhp h)) rfl ?_
    obtain ⟨p18, hp18, H⟩ := zbs H
    refine zEv_c (fun _ => rfl) rfl (t_qM_goesOn (h := h) (d := d) hp18) rfl rfl ?_
    obtain ⟨c19, H⟩ := zifn H
    cases H
    exact zEv_rz rfl rfl c19
def qM_doesDeed (x1 : Int32) (h : zK) : Option (Int32 × zK) :=
  (qM_deedOf x1 0 h).bind fun p1 =>
  (qM_deedOf x1 1 h).bind fun p2 =>
  (qM_deedOf x1 2 h).bind fun p3 =>
  (qM_does p1 p2 p3 h).bind fun p4 =>
  if zbool p4.1 = true then
    some (p4.1, p4.2)
  else none
theorem t_qM_doesDeed {Ls : Nat} {xs : Nat → Int32} {d : Nat} {x1 : Int32} {h : zK} {p : Int32 × zK} (H : qM_doesDeed x1 h = some p) : zEv (zXs Ls xs) (d + 5) zm_196 (0, [some (.ref 215), some (.int x1)], [], zhp h) (some (.int p.1), zhp p.2) := by
  unfold qM_doesDeed at H
  refine zEv_k 4 (f' := (4, [some (.ref 215), some (.int x1)], [.int 0, .int x1, .ref 215, .ref 215], zhp h)) rfl ?_
  obtain ⟨p1, hp1, H⟩ := zbs H
  refine zEv_c (fun _ => rfl) rfl (t_qM_deedOf (x1 := x1) (x2 := 0) (h := h) (d := d + 4) hp1) rfl rfl ?_
  refine zEv_k 3 (f' := (10, [some (.ref 215), some (.int x1)], [.int 1, .int x1, .ref 215, .int p1, .ref 215], zhp h)) rfl ?_
  obtain ⟨p2, hp2, H⟩ := zbs H
  refine zEv_c (fun _ => rfl) rfl (t_qM_deedOf (x1 := x1) (x2 := 1) (h := h) (d := d + 4) hp2) rfl rfl ?_
  refine zEv_k 3 (f' := (16, [some (.ref 215), some (.int x1)], [.int 2, .int x1, .ref 215, .int p2, .int p1, .ref 215], zhp h)) rfl ?_
  obtain ⟨p3, hp3, H⟩ := zbs H
  refine zEv_c (fun _ => rfl) rfl (t_qM_deedOf (x1 := x1) (x2 := 2) (h := h) (d := d + 4) hp3) rfl rfl ?_
  obtain ⟨p4, hp4, H⟩ := zbs H
  refine zEv_c (fun _ => rfl) rfl (t_qM_does (x1 := p1) (x2 := p2) (x3 := p3) (h := h) (d := d) hp4) rfl rfl ?_
  obtain ⟨c5, H⟩ := zifn H
  cases H
  exact zEv_rz rfl rfl c5
def qM_play_b2 (x1 : Int32) (s : Int32 × zK) : Option ((Int32 × zK) ⊕ (Int32 × zK)) :=
  if x1 ≤ s.1 then
    some (.inr (s.1, s.2))
  else
    (qM_doesDeed s.1 s.2).bind fun p2 =>
    if p2.1 = 0 then
      some (.inr (s.1, p2.2))
    else
      some (.inl (s.1 + 1, p2.2))
theorem t_qM_play_b2b {Ls : Nat} {xs : Nat → Int32} {d : Nat} {x1 : Int32} {r : zA} {s : Int32 × zK} {e : (Int32 × zK) ⊕ (Int32 × zK)} (H : qM_play_b2 x1 s = some e) (K : match (generalizing := false) e with | .inl s' => zEv (zXs Ls xs) (d + 6) zm_197 (2, [some (.ref 215), some (.int x1), some (.int s'.1)], [], zhp s'.2) r | .inr v => zEv (zXs Ls xs) (d + 6) zm_197 (21, [some (.ref 215), some (.int x1), some (.int v.1)], [], zhp v.2) r) : zEv (zXs Ls xs) (d + 6) zm_197 (2, [some (.ref 215), some (.int x1), some (.int s.1)], [], zhp s.2) r := by
  unfold qM_play_b2 at H
  refine zEv_k 3 (f' := (if x1 ≤ s.1 then 21 else 7, [some (.ref 215), some (.int x1), some (.int s.1)], [], zhp s.2)) rfl (zEv_if (fun c1 => ?_) (fun c1 => ?_))
  · replace H := zif_t c1 H
    cases H
    exact K
  · replace H := zif_f c1 H
    refine zEv_k 2 (f' := (9, [some (.ref 215), some (.int x1), some (.int s.1)], [.int s.1, .ref 215], zhp s.2)) rfl ?_
    obtain ⟨p2, hp2, H⟩ := zbs H
    refine zEv_c (fun _ => rfl) rfl (t_qM_doesDeed (x1 := s.1) (h := s.2) (d := d) hp2) rfl rfl ?_
    refine zEv_k 1 (f' := (if p2.1 = 0 then 21 else 15, [some (.ref 215), some (.int x1), some (.int s.1)], [], zhp p2.2)) rfl (zEv_if (fun c3 => ?_) (fun c3 => ?_))
    · replace H := zif_t c3 H
      cases H
      exact K
    · replace H := zif_f c3 H
      refine zEv_k 2 (f' := (2, [some (.ref 215), some (.int x1), some (.int (s.1 + 1))], [], zhp p2.2)) rfl ?_
      cases H
      exact K
theorem t_qM_play_b2 {Ls : Nat} {xs : Nat → Int32} {d : Nat} {x1 : Int32} {r : zA} {t : Int32 × zK} (K : zEv (zXs Ls xs) (d + 6) zm_197 (21, [some (.ref 215), some (.int x1), some (.int t.1)], [], zhp t.2) r) (n : Nat) (s : Int32 × zK) (H : zloop (qM_play_b2 x1) n s = some t) : zEv (zXs Ls xs) (d + 6) zm_197 (2, [some (.ref 215), some (.int x1), some (.int s.1)], [], zhp s.2) r := by
  have Z := zloop_P (P := fun s => zEv (zXs Ls xs) (d + 6) zm_197 (2, [some (.ref 215), some (.int x1), some (.int s.1)], [], zhp s.2) r) (b := qM_play_b2 x1) (t := t) (fun s s2 hb hk => by exact t_qM_play_b2b hb hk) (fun s hb => by exact t_qM_play_b2b hb K) n s H
  exact Z
def qM_play (x1 : Int32) (h : zK) : Option (Int32 × zK) :=
  (zloop (qM_play_b2 x1) zfu (0, h)).bind fun t4 =>
  some (t4.1, t4.2)
theorem t_qM_play {Ls : Nat} {xs : Nat → Int32} {d : Nat} {x1 : Int32} {h : zK} {p : Int32 × zK} (H : qM_play x1 h = some p) : zEv (zXs Ls xs) (d + 6) zm_197 (0, [some (.ref 215), some (.int x1), none], [], zhp h) (some (.int p.1), zhp p.2) := by
  unfold qM_play at H
  refine zEv_k 2 (f' := (2, [some (.ref 215), some (.int x1), some (.int 0)], [], zhp h)) rfl ?_
  obtain ⟨t4, ht4, H⟩ := zbs H
  refine t_qM_play_b2 (x1 := x1) ?_ zfu _ ht4
  refine zEv_k 1 (f' := (22, [some (.ref 215), some (.int x1), some (.int t4.1)], [.int t4.1], zhp t4.2)) rfl ?_
  cases H
  exact zEv_r rfl
def qM_layAll (x1 : Int32) (x2 : Int32) (h : zK) : Option (Int32 × zK) :=
  (qM_hasYears x2 h).bind fun p1 =>
  if p1.1 = 0 then
    some (0, p1.2)
  else
    (qM_hand x1 p1.2).bind fun p3 =>
    if p3.1 = 0 then
      some (0, p3.2)
    else
      some (1, p3.2)
theorem t_qM_layAll {Ls : Nat} {xs : Nat → Int32} {d : Nat} {x1 : Int32} {x2 : Int32} {h : zK} {p : Int32 × zK} (H : qM_layAll x1 x2 h = some p) : zEv (zXs Ls xs) (d + 3) zm_198 (0, [some (.ref 215), some (.int x1), some (.int x2)], [], zhp h) (some (.int p.1), zhp p.2) := by
  unfold qM_layAll at H
  refine zEv_k 2 (f' := (2, [some (.ref 215), some (.int x1), some (.int x2)], [.int x2, .ref 215], zhp h)) rfl ?_
  obtain ⟨p1, hp1, H⟩ := zbs H
  refine zEv_c (fun _ => rfl) rfl (t_qM_hasYears (x1 := x2) (h := h) (d := d) hp1) rfl rfl ?_
  refine zEv_k 1 (f' := (if p1.1 = 0 then 20 else 8, [some (.ref 215), some (.int x1), some (.int x2)], [], zhp p1.2)) rfl (zEv_if (fun c2 => ?_) (fun c2 => ?_))
  · replace H := zif_t c2 H
    refine zEv_k 1 (f' := (21, [some (.ref 215), some (.int x1), some (.int x2)], [.int 0], zhp p1.2)) rfl ?_
    cases H
    exact zEv_r rfl
  · replace H := zif_f c2 H
    refine zEv_k 2 (f' := (10, [some (.ref 215), some (.int x1), some (.int x2)], [.int x1, .ref 215], zhp p1.2)) rfl ?_
    obtain ⟨p3, hp3, H⟩ := zbs H
    refine zEv_c (fun _ => rfl) rfl (t_qM_hand (x1 := x1) (h := p1.2) (d := d) hp3) rfl rfl ?_
    refine zEv_k 1 (f' := (if p3.1 = 0 then 20 else 16, [some (.ref 215), some (.int x1), some (.int x2)], [], zhp p3.2)) rfl (zEv_if (fun c4 => ?_) (fun c4 => ?_))
    · replace H := zif_t c4 H
      refine zEv_k 1 (f' := (21, [some (.ref 215), some (.int x1), some (.int x2)], [.int 0], zhp p3.2)) rfl ?_
      cases H
      exact zEv_r rfl
    · replace H := zif_f c4 H
      refine zEv_k 2 (f' := (21, [some (.ref 215), some (.int x1), some (.int x2)], [.int 1], zhp p3.2)) rfl ?_
      cases H
      exact zEv_r rfl
def qM_till (x1 : Int32) (x2 : Int32) (h : zK) : Option (Int32 × zK) :=
  zlet (sI h 215 0 0) fun h1 =>
  (qM_layAll x1 x2 h1).bind fun p2 =>
  if p2.1 = 0 then
    some (-1, p2.2)
  else
    (qM_deeds p2.2).bind fun p4 =>
    (qM_play p4 p2.2).bind fun p5 =>
    some (p5.1, p5.2)
theorem t_qM_till {Ls : Nat} {xs : Nat → Int32} {d : Nat} {x1 : Int32} {x2 : Int32} {h : zK} {p : Int32 × zK} (H : qM_till x1 x2 h = some p) : zEv (zXs Ls xs) (d + 7) zm_199 (0, [some (.ref 215), some (.int x1), some (.int x2)], [], zhp h) (some (.int p.1), zhp p.2) := by
  unfold qM_till at H
  obtain ⟨h1, eh1, H⟩ := zlets H
  refine zEv_w (F := fun z => (5, [some (.ref 215), some (.int x1), some (.int x2)], [], zhp z)) (h0 := sI h 215 0 0) 3 rfl eh1 ?_
  refine zEv_k 3 (f' := (8, [some (.ref 215), some (.int x1), some (.int x2)], [.int x2, .int x1, .ref 215], zhp h1)) rfl ?_
  obtain ⟨p2, hp2, H⟩ := zbs H
  refine zEv_c (fun _ => rfl) rfl (t_qM_layAll (x1 := x1) (x2 := x2) (h := h1) (d := d + 3) hp2) rfl rfl ?_
  refine zEv_k 1 (f' := (if p2.1 = 0 then 25 else 14, [some (.ref 215), some (.int x1), some (.int x2)], [], zhp p2.2)) rfl (zEv_if (fun c3 => ?_) (fun c3 => ?_))
  · replace H := zif_t c3 H
    refine zEv_k 1 (f' := (26, [some (.ref 215), some (.int x1), some (.int x2)], [.int (-1)], zhp p2.2)) rfl ?_
    cases H
    exact zEv_r rfl
  · replace H := zif_f c3 H
    refine zEv_k 2 (f' := (16, [some (.ref 215), some (.int x1), some (.int x2)], [.ref 215, .ref 215], zhp p2.2)) rfl ?_
    obtain ⟨p4, hp4, H⟩ := zbs H
    refine zEv_c (fun _ => rfl) rfl (t_qM_deeds (h := p2.2) (d := d + 6) hp4) rfl rfl ?_
    obtain ⟨p5, hp5, H⟩ := zbs H
    refine zEv_c (fun _ => rfl) rfl (t_qM_play (x1 := p4) (h := p2.2) (d := d) hp5) rfl rfl ?_
    refine zEv_k 1 (f' := (26, [some (.ref 215), some (.int x1), some (.int x2)], [.int p5.1], zhp p5.2)) rfl ?_
    cases H
    exact zEv_r rfl
def qM_ofState (x1 : Int32) (h : zK) : Option (Int32) :=
  if x1 < 10 then
    if x1 = 0 then
      some (gI h 215 26)
    else if x1 = 1 then
      some (gI h 215 27)
    else if x1 = 2 then
      some (gI h 215 28)
    else if x1 = 3 then
      some (gI h 215 29)
    else if x1 = 4 then
      some (gI h 215 30)
    else if x1 = 5 then
      some (gI h 215 31)
    else
      some (-1)
  else
    if (gI h 215 23) ≤ (x1 - x1 / 10 * 10) then
      some (-1)
    else
      if x1 < 50 then
        if 20 ≤ x1 then
          if 30 ≤ x1 then
            if 40 ≤ x1 then
              (zix (x1 - x1 / 10 * 10) 7).bind fun j7 =>
              some (gI h 229 j7)
            else
              (zix (x1 - x1 / 10 * 10) 7).bind fun j8 =>
              some (gI h 228 j8)
          else
            (zix (x1 - x1 / 10 * 10) 7).bind fun j9 =>
            some (gI h 227 j9)
        else
          (zix (x1 - x1 / 10 * 10) 7).bind fun j10 =>
          some (gI h 226 j10)
      else
        some (-1)
theorem t_qM_ofState {Ls : Nat} {xs : Nat → Int32} {d : Nat} {x1 : Int32} {h : zK} {p : Int32} (H : qM_ofState x1 h = some p) : zEv (zXs Ls xs) d zm_200 (0, [some (.ref 215), some (.int x1), none], [], zhp h) (some (.int p), zhp h) := by
  unfold qM_ofState at H
  refine zEv_k 2 (f' := (3, [some (.ref 215), some (.int x1), none], [.int 10, .int x1], zhp h)) rfl ?_
  refine zEv_rem rfl (by decide) ?_
  refine zEv_k 4 (f' := (if x1 < 10 then 79 else 11, [some (.ref 215), some (.int x1), some (.int (x1 - x1 / 10 * 10))], [], zhp h)) rfl (zEv_if (fun c1 => ?_) (fun c1 => ?_))
  · replace H := zif_t c1 H
    refine zEv_k 1 (f' := (80, [some (.ref 215), some (.int x1), some (.int (x1 - x1 / 10 * 10))], [.int x1], zhp h)) rfl ?_
    refine zEv_ts rfl (by decide) (by decide) (by decide) (fun hh => ?_) (fun j hj hh => ?_)
    · replace H := zif_f (fun e => (by rw [e] at hh; exact absurd hh (by decide))) H
      replace H := zif_f (fun e => (by rw [e] at hh; exact absurd hh (by decide))) H
      replace H := zif_f (fun e => (by rw [e] at hh; exact absurd hh (by decide))) H
      replace H := zif_f (fun e => (by rw [e] at hh; exact absurd hh (by decide))) H
      replace H := zif_f (fun e => (by rw [e] at hh; exact absurd hh (by decide))) H
      replace H := zif_f (fun e => (by rw [e] at hh; exact absurd hh (by decide))) H
      refine zEv_k 1 (f' := (151, [some (.ref 215), some (.int x1), some (.int (x1 - x1 / 10 * 10))], [.int (-1)], zhp h)) rfl ?_
      cases H
      exact zEv_r rfl
    · rcases (by have hj2 : j < 6 := hj; omega : j = 0 ∨ j = 1 ∨ j = 2 ∨ j = 3 ∨ j = 4 ∨ j = 5) with rfl | rfl | rfl | rfl | rfl | rfl
      · have ex : x1 = 0 := zeqI hh (by decide)
        replace H := zif_t ex H
        refine zEv_k 2 (f' := (124, [some (.ref 215), some (.int x1), some (.int (x1 - x1 / 10 * 10))], [.int (gI h 215 26)], zhp h)) rfl ?_
        cases H
        exact zEv_r rfl
      · have ex : x1 = 1 := zeqI hh (by decide)
        replace H := zif_f (fun e => by rw [ex] at e; exact absurd e (by decide)) H
        replace H := zif_t ex H
        refine zEv_k 2 (f' := (129, [some (.ref 215), some (.int x1), some (.int (x1 - x1 / 10 * 10))], [.int (gI h 215 27)], zhp h)) rfl ?_
        cases H
        exact zEv_r rfl
      · have ex : x1 = 2 := zeqI hh (by decide)
        replace H := zif_f (fun e => by rw [ex] at e; exact absurd e (by decide)) H
        replace H := zif_f (fun e => by rw [ex] at e; exact absurd e (by decide)) H
        replace H := zif_t ex H
        refine zEv_k 2 (f' := (134, [some (.ref 215), some (.int x1), some (.int (x1 - x1 / 10 * 10))], [.int (gI h 215 28)], zhp h)) rfl ?_
        cases H
        exact zEv_r rfl
      · have ex : x1 = 3 := zeqI hh (by decide)
        replace H := zif_f (fun e => by rw [ex] at e; exact absurd e (by decide)) H
        replace H := zif_f (fun e => by rw [ex] at e; exact absurd e (by decide)) H
        replace H := zif_f (fun e => by rw [ex] at e; exact absurd e (by decide)) H
        replace H := zif_t ex H
        refine zEv_k 2 (f' := (139, [some (.ref 215), some (.int x1), some (.int (x1 - x1 / 10 * 10))], [.int (gI h 215 29)], zhp h)) rfl ?_
        cases H
        exact zEv_r rfl
      · have ex : x1 = 4 := zeqI hh (by decide)
        replace H := zif_f (fun e => by rw [ex] at e; exact absurd e (by decide)) H
        replace H := zif_f (fun e => by rw [ex] at e; exact absurd e (by decide)) H
        replace H := zif_f (fun e => by rw [ex] at e; exact absurd e (by decide)) H
        replace H := zif_f (fun e => by rw [ex] at e; exact absurd e (by decide)) H
        replace H := zif_t ex H
        refine zEv_k 2 (f' := (144, [some (.ref 215), some (.int x1), some (.int (x1 - x1 / 10 * 10))], [.int (gI h 215 30)], zhp h)) rfl ?_
        cases H
        exact zEv_r rfl
      · have ex : x1 = 5 := zeqI hh (by decide)
        replace H := zif_f (fun e => by rw [ex] at e; exact absurd e (by decide)) H
        replace H := zif_f (fun e => by rw [ex] at e; exact absurd e (by decide)) H
        replace H := zif_f (fun e => by rw [ex] at e; exact absurd e (by decide)) H
        replace H := zif_f (fun e => by rw [ex] at e; exact absurd e (by decide)) H
        replace H := zif_f (fun e => by rw [ex] at e; exact absurd e (by decide)) H
        replace H := zif_t ex H
        refine zEv_k 2 (f' := (149, [some (.ref 215), some (.int x1), some (.int (x1 - x1 / 10 * 10))], [.int (gI h 215 31)], zhp h)) rfl ?_
        cases H
        exact zEv_r rfl
  · replace H := zif_f c1 H
    refine zEv_k 4 (f' := (if (gI h 215 23) ≤ (x1 - x1 / 10 * 10) then 25 else 19, [some (.ref 215), some (.int x1), some (.int (x1 - x1 / 10 * 10))], [], zhp h)) rfl (zEv_if (fun c2 => ?_) (fun c2 => ?_))
    · replace H := zif_t c2 H
      refine zEv_k 1 (f' := (26, [some (.ref 215), some (.int x1), some (.int (x1 - x1 / 10 * 10))], [.int (-1)], zhp h)) rfl ?_
      cases H
      exact zEv_r rfl
    · replace H := zif_f c2 H
      refine zEv_k 3 (f' := (if x1 < 50 then 27 else 25, [some (.ref 215), some (.int x1), some (.int (x1 - x1 / 10 * 10))], [], zhp h)) rfl (zEv_if (fun c3 => ?_) (fun c3 => ?_))
      · replace H := zif_t c3 H
        refine zEv_k 3 (f' := (if 20 ≤ x1 then 42 else 33, [some (.ref 215), some (.int x1), some (.int (x1 - x1 / 10 * 10))], [], zhp h)) rfl (zEv_if (fun c4 => ?_) (fun c4 => ?_))
        · replace H := zif_t c4 H
          refine zEv_k 3 (f' := (if 30 ≤ x1 then 57 else 48, [some (.ref 215), some (.int x1), some (.int (x1 - x1 / 10 * 10))], [], zhp h)) rfl (zEv_if (fun c5 => ?_) (fun c5 => ?_))
          · replace H := zif_t c5 H
            refine zEv_k 3 (f' := (if 40 ≤ x1 then 72 else 63, [some (.ref 215), some (.int x1), some (.int (x1 - x1 / 10 * 10))], [], zhp h)) rfl (zEv_if (fun c6 => ?_) (fun c6 => ?_))
            · replace H := zif_t c6 H
              refine zEv_k 1 (f' := (73, [some (.ref 215), some (.int x1), some (.int (x1 - x1 / 10 * 10))], [.ref 215], zhp h)) rfl ?_
              refine zRgr rfl rfl rfl (by decide) (b := 229) rfl ?_
              refine zEv_k 1 (f' := (77, [some (.ref 215), some (.int x1), some (.int (x1 - x1 / 10 * 10))], [.int (x1 - x1 / 10 * 10), .ref 229], zhp h)) rfl ?_
              obtain ⟨j7, hj7, H⟩ := zbs H
              refine zRia rfl rfl (by decide) hj7 ?_
              cases H
              exact zEv_r rfl
            · replace H := zif_f c6 H
              refine zEv_k 1 (f' := (64, [some (.ref 215), some (.int x1), some (.int (x1 - x1 / 10 * 10))], [.ref 215], zhp h)) rfl ?_
              refine zRgr rfl rfl rfl (by decide) (b := 228) rfl ?_
              refine zEv_k 1 (f' := (68, [some (.ref 215), some (.int x1), some (.int (x1 - x1 / 10 * 10))], [.int (x1 - x1 / 10 * 10), .ref 228], zhp h)) rfl ?_
              obtain ⟨j8, hj8, H⟩ := zbs H
              refine zRia rfl rfl (by decide) hj8 ?_
              refine zEv_k 1 (f' := (78, [some (.ref 215), some (.int x1), some (.int (x1 - x1 / 10 * 10))], [.int (gI h 228 j8)], zhp h)) rfl ?_
              cases H
              exact zEv_r rfl
          · replace H := zif_f c5 H
            refine zEv_k 1 (f' := (49, [some (.ref 215), some (.int x1), some (.int (x1 - x1 / 10 * 10))], [.ref 215], zhp h)) rfl ?_
            refine zRgr rfl rfl rfl (by decide) (b := 227) rfl ?_
            refine zEv_k 1 (f' := (53, [some (.ref 215), some (.int x1), some (.int (x1 - x1 / 10 * 10))], [.int (x1 - x1 / 10 * 10), .ref 227], zhp h)) rfl ?_
            obtain ⟨j9, hj9, H⟩ := zbs H
            refine zRia rfl rfl (by decide) hj9 ?_
            refine zEv_k 1 (f' := (78, [some (.ref 215), some (.int x1), some (.int (x1 - x1 / 10 * 10))], [.int (gI h 227 j9)], zhp h)) rfl ?_
            cases H
            exact zEv_r rfl
        · replace H := zif_f c4 H
          refine zEv_k 1 (f' := (34, [some (.ref 215), some (.int x1), some (.int (x1 - x1 / 10 * 10))], [.ref 215], zhp h)) rfl ?_
          refine zRgr rfl rfl rfl (by decide) (b := 226) rfl ?_
          refine zEv_k 1 (f' := (38, [some (.ref 215), some (.int x1), some (.int (x1 - x1 / 10 * 10))], [.int (x1 - x1 / 10 * 10), .ref 226], zhp h)) rfl ?_
          obtain ⟨j10, hj10, H⟩ := zbs H
          refine zRia rfl rfl (by decide) hj10 ?_
          refine zEv_k 1 (f' := (78, [some (.ref 215), some (.int x1), some (.int (x1 - x1 / 10 * 10))], [.int (gI h 226 j10)], zhp h)) rfl ?_
          cases H
          exact zEv_r rfl
      · replace H := zif_f c3 H
        refine zEv_k 1 (f' := (26, [some (.ref 215), some (.int x1), some (.int (x1 - x1 / 10 * 10))], [.int (-1)], zhp h)) rfl ?_
        cases H
        exact zEv_r rfl
def qM_state (x1 : Int32) (x2 : Int32) (x3 : Int32) (x4 : Int32) (h : zK) : Option (Int32 × zK) :=
  zlet (sI h 215 0 0) fun h1 =>
  (qM_layAll x1 x2 h1).bind fun p2 =>
  if p2.1 = 0 then
    some (-1, p2.2)
  else
    (qM_deeds p2.2).bind fun p4 =>
    if (zf_in x3 0 p4) = 0 then
      some (-1, p2.2)
    else
      (qM_play x3 p2.2).bind fun p6 =>
      if ¬ p6.1 = x3 then
        some (-1, p6.2)
      else
        (qM_ofState x4 p6.2).bind fun p8 =>
        some (p8, p6.2)
theorem t_qM_state {Ls : Nat} {xs : Nat → Int32} {d : Nat} {x1 : Int32} {x2 : Int32} {x3 : Int32} {x4 : Int32} {h : zK} {p : Int32 × zK} (H : qM_state x1 x2 x3 x4 h = some p) : zEv (zXs Ls xs) (d + 7) zm_201 (0, [some (.ref 215), some (.int x1), some (.int x2), some (.int x3), some (.int x4)], [], zhp h) (some (.int p.1), zhp p.2) := by
  unfold qM_state at H
  obtain ⟨h1, eh1, H⟩ := zlets H
  refine zEv_w (F := fun z => (5, [some (.ref 215), some (.int x1), some (.int x2), some (.int x3), some (.int x4)], [], zhp z)) (h0 := sI h 215 0 0) 3 rfl eh1 ?_
  refine zEv_k 3 (f' := (8, [some (.ref 215), some (.int x1), some (.int x2), some (.int x3), some (.int x4)], [.int x2, .int x1, .ref 215], zhp h1)) rfl ?_
  obtain ⟨p2, hp2, H⟩ := zbs H
  refine zEv_c (fun _ => rfl) rfl (t_qM_layAll (x1 := x1) (x2 := x2) (h := h1) (d := d + 3) hp2) rfl rfl ?_
  refine zEv_k 1 (f' := (if p2.1 = 0 then 44 else 14, [some (.ref 215), some (.int x1), some (.int x2), some (.int x3), some (.int x4)], [], zhp p2.2)) rfl (zEv_if (fun c3 => ?_) (fun c3 => ?_))
  · replace H := zif_t c3 H
    refine zEv_k 1 (f' := (45, [some (.ref 215), some (.int x1), some (.int x2), some (.int x3), some (.int x4)], [.int (-1)], zhp p2.2)) rfl ?_
    cases H
    exact zEv_r rfl
  · replace H := zif_f c3 H
    refine zEv_k 3 (f' := (17, [some (.ref 215), some (.int x1), some (.int x2), some (.int x3), some (.int x4)], [.ref 215, .int 0, .int x3], zhp p2.2)) rfl ?_
    obtain ⟨p4, hp4, H⟩ := zbs H
    refine zEv_c (fun _ => rfl) rfl (t_qM_deeds (h := p2.2) (d := d + 6) hp4) rfl rfl ?_
    refine zEv_c (fun _ => rfl) rfl ev_zf_in rfl rfl ?_
    refine zEv_k 1 (f' := (if (zf_in x3 0 p4) = 0 then 44 else 26, [some (.ref 215), some (.int x1), some (.int x2), some (.int x3), some (.int x4)], [], zhp p2.2)) rfl (zEv_if (fun c5 => ?_) (fun c5 => ?_))
    · replace H := zif_t c5 H
      refine zEv_k 1 (f' := (45, [some (.ref 215), some (.int x1), some (.int x2), some (.int x3), some (.int x4)], [.int (-1)], zhp p2.2)) rfl ?_
      cases H
      exact zEv_r rfl
    · replace H := zif_f c5 H
      refine zEv_k 2 (f' := (28, [some (.ref 215), some (.int x1), some (.int x2), some (.int x3), some (.int x4)], [.int x3, .ref 215], zhp p2.2)) rfl ?_
      obtain ⟨p6, hp6, H⟩ := zbs H
      refine zEv_c (fun _ => rfl) rfl (t_qM_play (x1 := x3) (h := p2.2) (d := d) hp6) rfl rfl ?_
      refine zEv_k 2 (f' := (if ¬ p6.1 = x3 then 44 else 35, [some (.ref 215), some (.int x1), some (.int x2), some (.int x3), some (.int x4)], [], zhp p6.2)) rfl (zEv_if (fun c7 => ?_) (fun c7 => ?_))
      · replace H := zif_t c7 H
        refine zEv_k 1 (f' := (45, [some (.ref 215), some (.int x1), some (.int x2), some (.int x3), some (.int x4)], [.int (-1)], zhp p6.2)) rfl ?_
        cases H
        exact zEv_r rfl
      · replace H := zif_f c7 H
        refine zEv_k 2 (f' := (38, [some (.ref 215), some (.int x1), some (.int x2), some (.int x3), some (.int x4)], [.int x4, .ref 215], zhp p6.2)) rfl ?_
        obtain ⟨p8, hp8, H⟩ := zbs H
        refine zEv_c (fun _ => rfl) rfl (t_qM_ofState (x1 := x4) (h := p6.2) (d := d + 6) hp8) rfl rfl ?_
        refine zEv_k 1 (f' := (45, [some (.ref 215), some (.int x1), some (.int x2), some (.int x3), some (.int x4)], [.int p8], zhp p6.2)) rfl ?_
        cases H
        exact zEv_r rfl
def qM_trainOf_b7 (x1 : Int32) (x2 : Int32) (s : Int32 × zK) : Option ((Int32 × zK) ⊕ (zK)) :=
  if (gI s.2 215 23) ≤ s.1 then
    some (.inr s.2)
  else
    (qM_of (17 + s.1) s.2).bind fun p3 =>
    (zix s.1 7).bind fun j4 =>
    zlet (sI s.2 227 j4 p3) fun h5 =>
    some (.inl (s.1 + 1, h5))
theorem t_qM_trainOf_b7b {Ls : Nat} {xs : Nat → Int32} {d : Nat} {x1 : Int32} {x2 : Int32} {r : zA} {s : Int32 × zK} {e : (Int32 × zK) ⊕ (zK)} (H : qM_trainOf_b7 x1 x2 s = some e) (K : match (generalizing := false) e with | .inl s' => zEv (zXs Ls xs) (d + 3) zm_202 (7, [some (.ref 215), some (.int x1), some (.int x2), some (.int s'.1)], [], zhp s'.2) r | .inr v => ∀ (z3 : Option Value), zEv (zXs Ls xs) (d + 3) zm_202 (35, [some (.ref 215), some (.int x1), some (.int x2), z3], [], zhp v) r) : zEv (zXs Ls xs) (d + 3) zm_202 (7, [some (.ref 215), some (.int x1), some (.int x2), some (.int s.1)], [], zhp s.2) r := by
  unfold qM_trainOf_b7 at H
  refine zEv_k 4 (f' := (if (gI s.2 215 23) ≤ s.1 then 35 else 15, [some (.ref 215), some (.int x1), some (.int x2), some (.int s.1)], [], zhp s.2)) rfl (zEv_if (fun c2 => ?_) (fun c2 => ?_))
  · replace H := zif_t c2 H
    cases H
    exact K _
  · replace H := zif_f c2 H
    refine zEv_k 1 (f' := (16, [some (.ref 215), some (.int x1), some (.int x2), some (.int s.1)], [.ref 215], zhp s.2)) rfl ?_
    refine zRgr rfl rfl rfl (by decide) (b := 227) rfl ?_
    refine zEv_k 5 (f' := (25, [some (.ref 215), some (.int x1), some (.int x2), some (.int s.1)], [.int (17 + s.1), .ref 215, .int s.1, .ref 227], zhp s.2)) rfl ?_
    obtain ⟨p3, hp3, H⟩ := zbs H
    refine zEv_c (fun _ => rfl) rfl (t_qM_of (x1 := 17 + s.1) (h := s.2) (d := d + 2) hp3) rfl rfl ?_
    obtain ⟨j4, hj4, H⟩ := zbs H
    obtain ⟨h5, eh5, H⟩ := zlets H
    refine zRis rfl rfl (by decide) hj4 eh5 ?_
    refine zEv_k 2 (f' := (7, [some (.ref 215), some (.int x1), some (.int x2), some (.int (s.1 + 1))], [], zhp h5)) rfl ?_
    cases H
    exact K
theorem t_qM_trainOf_b7 {Ls : Nat} {xs : Nat → Int32} {d : Nat} {x1 : Int32} {x2 : Int32} {r : zA} {t : zK} (K : ∀ (z3 : Option Value), zEv (zXs Ls xs) (d + 3) zm_202 (35, [some (.ref 215), some (.int x1), some (.int x2), z3], [], zhp t) r) (n : Nat) (s : Int32 × zK) (H : zloop (qM_trainOf_b7 x1 x2) n s = some t) : zEv (zXs Ls xs) (d + 3) zm_202 (7, [some (.ref 215), some (.int x1), some (.int x2), some (.int s.1)], [], zhp s.2) r := by
  have Z := zloop_P (P := fun s => zEv (zXs Ls xs) (d + 3) zm_202 (7, [some (.ref 215), some (.int x1), some (.int x2), some (.int s.1)], [], zhp s.2) r) (b := qM_trainOf_b7 x1 x2) (t := t) (fun s s2 hb hk => by exact t_qM_trainOf_b7b hb hk) (fun s hb => by exact t_qM_trainOf_b7b hb K) n s H
  exact Z
def qM_trainOf (x1 : Int32) (x2 : Int32) (h : zK) : Option (Int32 × zK) :=
  zlet (sI h 215 29 x2) fun h1 =>
  (zloop (qM_trainOf_b7 x1 x2) zfu (0, h1)).bind fun t6 =>
  (qM_burst x1 t6).bind fun p8 =>
  (qM_burstAll p8).bind fun p9 =>
  some ((gI p9 215 29) &&& (x2 ^^^ (-1)), p9)
theorem t_qM_trainOf {Ls : Nat} {xs : Nat → Int32} {d : Nat} {x1 : Int32} {x2 : Int32} {h : zK} {p : Int32 × zK} (H : qM_trainOf x1 x2 h = some p) : zEv (zXs Ls xs) (d + 3) zm_202 (0, [some (.ref 215), some (.int x1), some (.int x2), none], [], zhp h) (some (.int p.1), zhp p.2) := by
  unfold qM_trainOf at H
  obtain ⟨h1, eh1, H⟩ := zlets H
  refine zEv_w (F := fun z => (5, [some (.ref 215), some (.int x1), some (.int x2), none], [], zhp z)) (h0 := sI h 215 29 x2) 3 rfl eh1 ?_
  refine zEv_k 2 (f' := (7, [some (.ref 215), some (.int x1), some (.int x2), some (.int 0)], [], zhp h1)) rfl ?_
  obtain ⟨t6, ht6, H⟩ := zbs H
  refine t_qM_trainOf_b7 (x1 := x1) (x2 := x2) ?_ zfu _ ht6
  intro y3
  refine zEv_k 2 (f' := (37, [some (.ref 215), some (.int x1), some (.int x2), y3], [.int x1, .ref 215], zhp t6)) rfl ?_
  obtain ⟨p8, hp8, H⟩ := zbs H
  refine zEv_c (fun _ => rfl) rfl (t_qM_burst (x1 := x1) (h := t6) (d := d + 1) hp8) rfl rfl ?_
  refine zEv_k 1 (f' := (41, [some (.ref 215), some (.int x1), some (.int x2), y3], [.ref 215], zhp p8)) rfl ?_
  obtain ⟨p9, hp9, H⟩ := zbs H
  refine zEv_c (fun _ => rfl) rfl (t_qM_burstAll (h := p8) (d := d) hp9) rfl rfl ?_
  refine zEv_k 6 (f' := (52, [some (.ref 215), some (.int x1), some (.int x2), y3], [.int ((gI p9 215 29) &&& (x2 ^^^ (-1)))], zhp p9)) rfl ?_
  cases H
  exact zEv_r rfl
def qM_train (x1 : Int32) (x2 : Int32) (h : zK) : Option (Int32 × zK) :=
  zlet (sI h 215 0 0) fun h1 =>
  (qM_hand x1 h1).bind fun p2 =>
  if p2.1 = 0 then
    some (-1, p2.2)
  else
    (qM_isSaying x2 p2.2).bind fun p4 =>
    if p4 = 0 then
      some (-1, p2.2)
    else
      (qM_trainOf x2 0 p2.2).bind fun p6 =>
      some (p6.1, p6.2)
theorem t_qM_train {Ls : Nat} {xs : Nat → Int32} {d : Nat} {x1 : Int32} {x2 : Int32} {h : zK} {p : Int32 × zK} (H : qM_train x1 x2 h = some p) : zEv (zXs Ls xs) (d + 4) zm_203 (0, [some (.ref 215), some (.int x1), some (.int x2)], [], zhp h) (some (.int p.1), zhp p.2) := by
  unfold qM_train at H
  obtain ⟨h1, eh1, H⟩ := zlets H
  refine zEv_w (F := fun z => (5, [some (.ref 215), some (.int x1), some (.int x2)], [], zhp z)) (h0 := sI h 215 0 0) 3 rfl eh1 ?_
  refine zEv_k 2 (f' := (7, [some (.ref 215), some (.int x1), some (.int x2)], [.int x1, .ref 215], zhp h1)) rfl ?_
  obtain ⟨p2, hp2, H⟩ := zbs H
  refine zEv_c (fun _ => rfl) rfl (t_qM_hand (x1 := x1) (h := h1) (d := d + 1) hp2) rfl rfl ?_
  refine zEv_k 1 (f' := (if p2.1 = 0 then 30 else 13, [some (.ref 215), some (.int x1), some (.int x2)], [], zhp p2.2)) rfl (zEv_if (fun c3 => ?_) (fun c3 => ?_))
  · replace H := zif_t c3 H
    refine zEv_k 1 (f' := (31, [some (.ref 215), some (.int x1), some (.int x2)], [.int (-1)], zhp p2.2)) rfl ?_
    cases H
    exact zEv_r rfl
  · replace H := zif_f c3 H
    refine zEv_k 2 (f' := (15, [some (.ref 215), some (.int x1), some (.int x2)], [.int x2, .ref 215], zhp p2.2)) rfl ?_
    obtain ⟨p4, hp4, H⟩ := zbs H
    refine zEv_c (fun _ => rfl) rfl (t_qM_isSaying (x1 := x2) (h := p2.2) (d := d + 2) hp4) rfl rfl ?_
    refine zEv_k 1 (f' := (if p4 = 0 then 30 else 21, [some (.ref 215), some (.int x1), some (.int x2)], [], zhp p2.2)) rfl (zEv_if (fun c5 => ?_) (fun c5 => ?_))
    · replace H := zif_t c5 H
      refine zEv_k 1 (f' := (31, [some (.ref 215), some (.int x1), some (.int x2)], [.int (-1)], zhp p2.2)) rfl ?_
      cases H
      exact zEv_r rfl
    · replace H := zif_f c5 H
      refine zEv_k 3 (f' := (24, [some (.ref 215), some (.int x1), some (.int x2)], [.int 0, .int x2, .ref 215], zhp p2.2)) rfl ?_
      obtain ⟨p6, hp6, H⟩ := zbs H
      refine zEv_c (fun _ => rfl) rfl (t_qM_trainOf (x1 := x2) (x2 := 0) (h := p2.2) (d := d) hp6) rfl rfl ?_
      refine zEv_k 1 (f' := (31, [some (.ref 215), some (.int x1), some (.int x2)], [.int p6.1], zhp p6.2)) rfl ?_
      cases H
      exact zEv_r rfl
def qM_greatestTrain_b4 (s : Int32 × Int32 × zK) : Option ((Int32 × Int32 × zK) ⊕ (Int32 × zK)) :=
  if (gI s.2.2 215 23) ≤ s.2.1 then
    some (.inr (s.1, s.2.2))
  else
    (qM_trainOf s.2.1 0 s.2.2).bind fun p2 =>
    (qM_ones p2.1).bind fun p3 =>
    some (.inl (zf_greater s.1 p3, s.2.1 + 1, p2.2))
theorem t_qM_greatestTrain_b4b {Ls : Nat} {xs : Nat → Int32} {d : Nat} {r : zA} {s : Int32 × Int32 × zK} {e : (Int32 × Int32 × zK) ⊕ (Int32 × zK)} (H : qM_greatestTrain_b4 s = some e) (K : match (generalizing := false) e with | .inl s' => zEv (zXs Ls xs) (d + 4) zm_204 (4, [some (.ref 215), some (.int s'.1), some (.int s'.2.1)], [], zhp s'.2.2) r | .inr v => ∀ (z2 : Option Value), zEv (zXs Ls xs) (d + 4) zm_204 (32, [some (.ref 215), some (.int v.1), z2], [], zhp v.2) r) : zEv (zXs Ls xs) (d + 4) zm_204 (4, [some (.ref 215), some (.int s.1), some (.int s.2.1)], [], zhp s.2.2) r := by
  unfold qM_greatestTrain_b4 at H
  refine zEv_k 4 (f' := (if (gI s.2.2 215 23) ≤ s.2.1 then 32 else 12, [some (.ref 215), some (.int s.1), some (.int s.2.1)], [], zhp s.2.2)) rfl (zEv_if (fun c1 => ?_) (fun c1 => ?_))
  · replace H := zif_t c1 H
    cases H
    exact K _
  · replace H := zif_f c1 H
    refine zEv_k 4 (f' := (16, [some (.ref 215), some (.int s.1), some (.int s.2.1)], [.int 0, .int s.2.1, .ref 215, .int s.1], zhp s.2.2)) rfl ?_
    obtain ⟨p2, hp2, H⟩ := zbs H
    refine zEv_c (fun _ => rfl) rfl (t_qM_trainOf (x1 := s.2.1) (x2 := 0) (h := s.2.2) (d := d) hp2) rfl rfl ?_
    obtain ⟨p3, hp3, H⟩ := zbs H
    refine zEv_c (fun _ => rfl) rfl (t_qM_ones (x0 := p2.1) (h := p2.2) (d := d + 2) hp3) rfl rfl ?_
    refine zEv_c (fun _ => rfl) rfl ev_zf_greater rfl rfl ?_
    refine zEv_k 3 (f' := (4, [some (.ref 215), some (.int (zf_greater s.1 p3)), some (.int (s.2.1 + 1))], [], zhp p2.2)) rfl ?_
    cases H
    exact K
theorem t_qM_greatestTrain_b4 {Ls : Nat} {xs : Nat → Int32} {d : Nat} {r : zA} {t : Int32 × zK} (K : ∀ (z2 : Option Value), zEv (zXs Ls xs) (d + 4) zm_204 (32, [some (.ref 215), some (.int t.1), z2], [], zhp t.2) r) (n : Nat) (s : Int32 × Int32 × zK) (H : zloop (qM_greatestTrain_b4) n s = some t) : zEv (zXs Ls xs) (d + 4) zm_204 (4, [some (.ref 215), some (.int s.1), some (.int s.2.1)], [], zhp s.2.2) r := by
  have Z := zloop_P (P := fun s => zEv (zXs Ls xs) (d + 4) zm_204 (4, [some (.ref 215), some (.int s.1), some (.int s.2.1)], [], zhp s.2.2) r) (b := qM_greatestTrain_b4) (t := t) (fun s s2 hb hk => by exact t_qM_greatestTrain_b4b hb hk) (fun s hb => by exact t_qM_greatestTrain_b4b hb K) n s H
  exact Z
def qM_greatestTrain (h : zK) : Option (Int32 × zK) :=
  (zloop (qM_greatestTrain_b4) zfu (0, 0, h)).bind fun t4 =>
  some (t4.1, t4.2)
theorem t_qM_greatestTrain {Ls : Nat} {xs : Nat → Int32} {d : Nat} {h : zK} {p : Int32 × zK} (H : qM_greatestTrain h = some p) : zEv (zXs Ls xs) (d + 4) zm_204 (0, [some (.ref 215), none, none], [], zhp h) (some (.int p.1), zhp p.2) := by
  unfold qM_greatestTrain at H
  refine zEv_k 4 (f' := (4, [some (.ref 215), some (.int 0), some (.int 0)], [], zhp h)) rfl ?_
  obtain ⟨t4, ht4, H⟩ := zbs H
  refine t_qM_greatestTrain_b4 ?_ zfu _ ht4
  intro y2
  refine zEv_k 1 (f' := (33, [some (.ref 215), some (.int t4.1), y2], [.int t4.1], zhp t4.2)) rfl ?_
  cases H
  exact zEv_r rfl
def qM_swapPlaces (x1 : Int32) (x2 : Int32) (h : zK) : Option (zK) :=
  (zix x1 7).bind fun j1 =>
  (zix x2 7).bind fun j2 =>
  zlet (sI h 229 j1 (gI h 229 j2)) fun h3 =>
  zlet (sI h3 229 j2 (gI h 229 j1)) fun h4 =>
  some h4
theorem t_qM_swapPlaces {Ls : Nat} {xs : Nat → Int32} {d : Nat} {x1 : Int32} {x2 : Int32} {h : zK} {p : zK} (H : qM_swapPlaces x1 x2 h = some p) : zEv (zXs Ls xs) d zm_205 (0, [some (.ref 215), some (.int x1), some (.int x2), none], [], zhp h) (none, zhp p) := by
  unfold qM_swapPlaces at H
  refine zEv_k 1 (f' := (1, [some (.ref 215), some (.int x1), some (.int x2), none], [.ref 215], zhp h)) rfl ?_
  refine zRgr rfl rfl rfl (by decide) (b := 229) rfl ?_
  refine zEv_k 1 (f' := (5, [some (.ref 215), some (.int x1), some (.int x2), none], [.int x1, .ref 229], zhp h)) rfl ?_
  obtain ⟨j1, hj1, H⟩ := zbs H
  refine zRia rfl rfl (by decide) hj1 ?_
  refine zEv_k 2 (f' := (8, [some (.ref 215), some (.int x1), some (.int x2), some (.int (gI h 229 j1))], [.ref 215], zhp h)) rfl ?_
  refine zRgr rfl rfl rfl (by decide) (b := 229) rfl ?_
  refine zEv_k 2 (f' := (13, [some (.ref 215), some (.int x1), some (.int x2), some (.int (gI h 229 j1))], [.ref 215, .int x1, .ref 229], zhp h)) rfl ?_
  refine zRgr rfl rfl rfl (by decide) (b := 229) rfl ?_
  refine zEv_k 1 (f' := (17, [some (.ref 215), some (.int x1), some (.int x2), some (.int (gI h 229 j1))], [.int x2, .ref 229, .int x1, .ref 229], zhp h)) rfl ?_
  obtain ⟨j2, hj2, H⟩ := zbs H
  refine zRia rfl rfl (by decide) hj2 ?_
  obtain ⟨h3, eh3, H⟩ := zlets H
  refine zRis rfl rfl (by decide) hj1 eh3 ?_
  refine zEv_k 1 (f' := (20, [some (.ref 215), some (.int x1), some (.int x2), some (.int (gI h 229 j1))], [.ref 215], zhp h3)) rfl ?_
  refine zRgr rfl rfl rfl (by decide) (b := 229) rfl ?_
  refine zEv_k 2 (f' := (25, [some (.ref 215), some (.int x1), some (.int x2), some (.int (gI h 229 j1))], [.int (gI h 229 j1), .int x2, .ref 229], zhp h3)) rfl ?_
  obtain ⟨h4, eh4, H⟩ := zlets H
  refine zRis rfl rfl (by decide) hj2 eh4 ?_
  cases H
  exact zEv_r rfl
