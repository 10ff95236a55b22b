def qRe_tell (x1 : Int32) (h : zK) : Option (zK) :=
  if x1 = 0 then
    zlet (sI h 148 0 (gI h 164 0)) fun h1 =>
    some h1
  else if x1 = 1 then
    zlet (sI h 148 1 (gI h 164 0)) fun h2 =>
    some h2
  else if x1 = 2 then
    (qCe_add h).bind fun p3 =>
    some p3
  else if x1 = 3 then
    (qCe_addAnswer (gI h 164 0) (gI h 164 1) h).bind fun p4 =>
    zlet (sI p4 147 13 ((gI p4 147 13) ||| (((1 : Int32) <<< ((gI p4 164 0) &&& 31)) ||| ((1 : Int32) <<< ((gI p4 164 1) &&& 31))))) fun h5 =>
    some h5
  else if x1 = 4 then
    (zix x1 10).bind fun j6 =>
    zlet (
        if (List.getD zA_NUMBERS j6 0) ≤ 0 then
          -1
        else
          gI h 164 0
      ) fun (v8 : Int32) =>
    zlet (
        if (List.getD zA_NUMBERS j6 0) ≤ 1 then
          -1
        else
          gI h 164 1
      ) fun (v10 : Int32) =>
    (qDe_add (x1 - 4) v8 v10 h).bind fun p11 =>
    some p11
  else if x1 = 5 then
    (zix x1 10).bind fun j12 =>
    zlet (
        if (List.getD zA_NUMBERS j12 0) ≤ 0 then
          -1
        else
          gI h 164 0
      ) fun (v14 : Int32) =>
    zlet (
        if (List.getD zA_NUMBERS j12 0) ≤ 1 then
          -1
        else
          gI h 164 1
      ) fun (v16 : Int32) =>
    (qDe_add (x1 - 4) v14 v16 h).bind fun p17 =>
    some p17
  else if x1 = 6 then
    (zix x1 10).bind fun j18 =>
    zlet (
        if (List.getD zA_NUMBERS j18 0) ≤ 0 then
          -1
        else
          gI h 164 0
      ) fun (v20 : Int32) =>
    zlet (
        if (List.getD zA_NUMBERS j18 0) ≤ 1 then
          -1
        else
          gI h 164 1
      ) fun (v22 : Int32) =>
    (qDe_add (x1 - 4) v20 v22 h).bind fun p23 =>
    some p23
  else if x1 = 7 then
    (zix x1 10).bind fun j24 =>
    zlet (
        if (List.getD zA_NUMBERS j24 0) ≤ 0 then
          -1
        else
          gI h 164 0
      ) fun (v26 : Int32) =>
    zlet (
        if (List.getD zA_NUMBERS j24 0) ≤ 1 then
          -1
        else
          gI h 164 1
      ) fun (v28 : Int32) =>
    (qDe_add (x1 - 4) v26 v28 h).bind fun p29 =>
    some p29
  else if x1 = 8 then
    (zix x1 10).bind fun j30 =>
    zlet (
        if (List.getD zA_NUMBERS j30 0) ≤ 0 then
          -1
        else
          gI h 164 0
      ) fun (v32 : Int32) =>
    zlet (
        if (List.getD zA_NUMBERS j30 0) ≤ 1 then
          -1
        else
          gI h 164 1
      ) fun (v34 : Int32) =>
    (qDe_add (x1 - 4) v32 v34 h).bind fun p35 =>
    some p35
  else if x1 = 9 then
    (qLo_add (gI h 164 0) (gI h 164 1) h).bind fun p36 =>
    some p36
  else
    (zix x1 10).bind fun j37 =>
    zlet (
        if (List.getD zA_NUMBERS j37 0) ≤ 0 then
          -1
        else
          gI h 164 0
      ) fun (v39 : Int32) =>
    zlet (
        if (List.getD zA_NUMBERS j37 0) ≤ 1 then
          -1
        else
          gI h 164 1
      ) fun (v41 : Int32) =>
    (qDe_add (x1 - 4) v39 v41 h).bind fun p42 =>
    some p42
theorem t_qRe_tell {Ls : Nat} {xs : Nat → Int32} {d : Nat} {x1 : Int32} {h : zK} {p : zK} (H : qRe_tell x1 h = some p) : zEv (zXs Ls xs) (d + 2) zm_62 (0, [some (.ref 147), some (.int x1)], [], zhp h) (none, zhp p) := by
  unfold qRe_tell at H
  refine zEv_k 1 (f' := (1, [some (.ref 147), some (.int x1)], [.int x1], zhp h)) rfl ?_
  refine zEv_ts rfl (by decide) (by decide) (by decide) (fun hh => ?_) (fun j hj hh => ?_)
  · replace H := zif_f (fun e => (by rw [e] at hh; exact absurd hh (by decide))) H
    replace H := zif_f (fun e => (by rw [e] at hh; exact absurd hh (by decide))) H
    replace H := zif_f (fun e => (by rw [e] at hh; exact absurd hh (by decide))) H
    replace H := zif_f (fun e => (by rw [e] at hh; exact absurd hh (by decide))) H
    replace H := zif_f (fun e => (by rw [e] at hh; exact absurd hh (by decide))) H
    replace H := zif_f (fun e => (by rw [e] at hh; exact absurd hh (by decide))) H
    replace H := zif_f (fun e => (by rw [e] at hh; exact absurd hh (by decide))) H
    replace H := zif_f (fun e => (by rw [e] at hh; exact absurd hh (by decide))) H
    replace H := zif_f (fun e => (by rw [e] at hh; exact absurd hh (by decide))) H
    replace H := zif_f (fun e => (by rw [e] at hh; exact absurd hh (by decide))) H
    refine zEv_k 1 (f' := (173, [some (.ref 147), some (.int x1)], [.ref 147], zhp h)) rfl ?_
    refine zRgr rfl rfl rfl (by decide) (b := 156) rfl ?_
    refine zEv_k 5 (f' := (183, [some (.ref 147), some (.int x1)], [.int x1, .ref (zro + 2), .int (x1 - 4), .ref 156], zhp h)) rfl ?_
    obtain ⟨j37, hj37, H⟩ := zbs H
    refine zRix rfl rfl hj37 ?_
    obtain ⟨v39, hv39, H⟩ := zlets H
    have kv39 : zEv (zXs Ls xs) (d + 2) zm_62 (197, [some (.ref 147), some (.int x1)], [.int v39, .int (x1 - 4), .ref 156], zhp h) (none, zhp p) := by
      obtain ⟨v41, hv41, H⟩ := zlets H
      have kv41 : zEv (zXs Ls xs) (d + 2) zm_62 (216, [some (.ref 147), some (.int x1)], [.int v41, .int v39, .int (x1 - 4), .ref 156], zhp h) (none, zhp p) := by
        obtain ⟨p42, hp42, H⟩ := zbs H
        refine zEv_c (fun _ => rfl) rfl (t_qDe_add (x1 := x1 - 4) (x2 := v39) (x3 := v41) (h := h) (d := d) hp42) rfl rfl ?_
        cases H
        exact zEv_r rfl
      clear H
      refine zEv_k 2 (f' := (201, [some (.ref 147), some (.int x1)], [.int x1, .ref (zro + 2), .int v39, .int (x1 - 4), .ref 156], zhp h)) rfl ?_
      refine zRix rfl rfl hj37 ?_
      refine zEv_k 2 (f' := (if (List.getD zA_NUMBERS j37 0) ≤ 1 then 215 else 206, [some (.ref 147), some (.int x1)], [.int v39, .int (x1 - 4), .ref 156], zhp h)) rfl (zEv_if (fun c40 => ?_) (fun c40 => ?_))
      · replace hv41 := zif_t c40 hv41
        refine zEv_k 1 (f' := (216, [some (.ref 147), some (.int x1)], [.int (-1), .int v39, .int (x1 - 4), .ref 156], zhp h)) rfl ?_
        cases hv41
        exact kv41
      · replace hv41 := zif_f c40 hv41
        refine zEv_k 1 (f' := (207, [some (.ref 147), some (.int x1)], [.ref 147, .int v39, .int (x1 - 4), .ref 156], zhp h)) rfl ?_
        refine zRgr rfl rfl rfl (by decide) (b := 164) rfl ?_
        refine zEv_k 1 (f' := (211, [some (.ref 147), some (.int x1)], [.int 1, .ref 164, .int v39, .int (x1 - 4), .ref 156], zhp h)) rfl ?_
        refine zRia (j := 1) rfl rfl (by decide) (by decide) ?_
        refine zEv_k 1 (f' := (216, [some (.ref 147), some (.int x1)], [.int (gI h 164 1), .int v39, .int (x1 - 4), .ref 156], zhp h)) rfl ?_
        cases hv41
        exact kv41
    clear H
    refine zEv_k 1 (f' := (if (List.getD zA_NUMBERS j37 0) ≤ 0 then 196 else 187, [some (.ref 147), some (.int x1)], [.int (x1 - 4), .ref 156], zhp h)) rfl (zEv_if (fun c38 => ?_) (fun c38 => ?_))
    · replace hv39 := zif_t c38 hv39
      refine zEv_k 1 (f' := (197, [some (.ref 147), some (.int x1)], [.int (-1), .int (x1 - 4), .ref 156], zhp h)) rfl ?_
      cases hv39
      exact kv39
    · replace hv39 := zif_f c38 hv39
      refine zEv_k 1 (f' := (188, [some (.ref 147), some (.int x1)], [.ref 147, .int (x1 - 4), .ref 156], zhp h)) rfl ?_
      refine zRgr rfl rfl rfl (by decide) (b := 164) rfl ?_
      refine zEv_k 1 (f' := (192, [some (.ref 147), some (.int x1)], [.int 0, .ref 164, .int (x1 - 4), .ref 156], zhp h)) rfl ?_
      refine zRia (j := 0) rfl rfl (by decide) (by decide) ?_
      refine zEv_k 1 (f' := (197, [some (.ref 147), some (.int x1)], [.int (gI h 164 0), .int (x1 - 4), .ref 156], zhp h)) rfl ?_
      cases hv39
      exact kv39
  · rcases (by have hj2 : j < 10 := hj; omega : j = 0 ∨ j = 1 ∨ j = 2 ∨ j = 3 ∨ j = 4 ∨ j = 5 ∨ j = 6 ∨ j = 7 ∨ j = 8 ∨ j = 9) with rfl | rfl | rfl | rfl | rfl | rfl | rfl | rfl | rfl | rfl
    · have ex : x1 = 0 := zeqI hh (by decide)
      replace H := zif_t ex H
      refine zEv_k 1 (f' := (57, [some (.ref 147), some (.int x1)], [.ref 147], zhp h)) rfl ?_
      refine zRgr rfl rfl rfl (by decide) (b := 148) rfl ?_
      refine zEv_k 1 (f' := (61, [some (.ref 147), some (.int x1)], [.ref 147, .ref 148], zhp h)) rfl ?_
      refine zRgr rfl rfl rfl (by decide) (b := 164) rfl ?_
      refine zEv_k 1 (f' := (65, [some (.ref 147), some (.int x1)], [.int 0, .ref 164, .ref 148], zhp h)) rfl ?_
      refine zRia (j := 0) rfl rfl (by decide) (by decide) ?_
      obtain ⟨h1, eh1, H⟩ := zlets H
      refine zEv_w (F := fun z => (69, [some (.ref 147), some (.int x1)], [], zhp z)) (h0 := sI h 148 0 (gI h 164 0)) 1 rfl eh1 ?_
      refine zEv_k 1 (f' := (219, [some (.ref 147), some (.int x1)], [], zhp h1)) rfl ?_
      cases H
      exact zEv_r rfl
    · have ex : x1 = 1 := zeqI hh (by decide)
      replace H := zif_f (fun e => by rw [ex] at e; exact absurd e (by decide)) H
      replace H := zif_t ex H
      refine zEv_k 1 (f' := (73, [some (.ref 147), some (.int x1)], [.ref 147], zhp h)) rfl ?_
      refine zRgr rfl rfl rfl (by decide) (b := 148) rfl ?_
      refine zEv_k 1 (f' := (77, [some (.ref 147), some (.int x1)], [.ref 147, .ref 148], zhp h)) rfl ?_
      refine zRgr rfl rfl rfl (by decide) (b := 164) rfl ?_
      refine zEv_k 1 (f' := (81, [some (.ref 147), some (.int x1)], [.int 0, .ref 164, .ref 148], zhp h)) rfl ?_
      refine zRia (j := 0) rfl rfl (by decide) (by decide) ?_
      obtain ⟨h2, eh2, H⟩ := zlets H
      refine zEv_w (F := fun z => (85, [some (.ref 147), some (.int x1)], [], zhp z)) (h0 := sI h 148 1 (gI h 164 0)) 1 rfl eh2 ?_
      refine zEv_k 1 (f' := (219, [some (.ref 147), some (.int x1)], [], zhp h2)) rfl ?_
      cases H
      exact zEv_r rfl
    · have ex : x1 = 2 := zeqI hh (by decide)
      replace H := zif_f (fun e => by rw [ex] at e; exact absurd e (by decide)) H
      replace H := zif_f (fun e => by rw [ex] at e; exact absurd e (by decide)) H
      replace H := zif_t ex H
      refine zEv_k 1 (f' := (89, [some (.ref 147), some (.int x1)], [.ref 147], zhp h)) rfl ?_
      refine zRgr rfl rfl rfl (by decide) (b := 148) rfl ?_
      refine zEv_k 1 (f' := (93, [some (.ref 147), some (.int x1)], [.ref 147, .ref 148], zhp h)) rfl ?_
      refine zRgr rfl rfl rfl (by decide) (b := 164) rfl ?_
      obtain ⟨p3, hp3, H⟩ := zbs H
      refine zEv_c (fun _ => rfl) rfl (t_qCe_add (h := h) (d := d) hp3) rfl rfl ?_
      refine zEv_k 1 (f' := (219, [some (.ref 147), some (.int x1)], [], zhp p3)) rfl ?_
      cases H
      exact zEv_r rfl
    · have ex : x1 = 3 := zeqI hh (by decide)
      replace H := zif_f (fun e => by rw [ex] at e; exact absurd e (by decide)) H
      replace H := zif_f (fun e => by rw [ex] at e; exact absurd e (by decide)) H
      replace H := zif_f (fun e => by rw [ex] at e; exact absurd e (by decide)) H
      replace H := zif_t ex H
      refine zEv_k 1 (f' := (103, [some (.ref 147), some (.int x1)], [.ref 147], zhp h)) rfl ?_
      refine zRgr rfl rfl rfl (by decide) (b := 148) rfl ?_
      refine zEv_k 1 (f' := (107, [some (.ref 147), some (.int x1)], [.ref 147, .ref 148], zhp h)) rfl ?_
      refine zRgr rfl rfl rfl (by decide) (b := 164) rfl ?_
      refine zEv_k 1 (f' := (111, [some (.ref 147), some (.int x1)], [.int 0, .ref 164, .ref 148], zhp h)) rfl ?_
      refine zRia (j := 0) rfl rfl (by decide) (by decide) ?_
      refine zEv_k 1 (f' := (113, [some (.ref 147), some (.int x1)], [.ref 147, .int (gI h 164 0), .ref 148], zhp h)) rfl ?_
      refine zRgr rfl rfl rfl (by decide) (b := 164) rfl ?_
      refine zEv_k 1 (f' := (117, [some (.ref 147), some (.int x1)], [.int 1, .ref 164, .int (gI h 164 0), .ref 148], zhp h)) rfl ?_
      refine zRia (j := 1) rfl rfl (by decide) (by decide) ?_
      obtain ⟨p4, hp4, H⟩ := zbs H
      refine zEv_c (fun _ => rfl) rfl (t_qCe_addAnswer (x1 := gI h 164 0) (x2 := gI h 164 1) (h := h) (d := d + 1) hp4) rfl rfl ?_
      refine zEv_k 5 (f' := (128, [some (.ref 147), some (.int x1)], [.ref 147, .int 1, .int (gI p4 147 13), .ref 147], zhp p4)) rfl ?_
      refine zRgr rfl rfl rfl (by decide) (b := 164) rfl ?_
      refine zEv_k 1 (f' := (132, [some (.ref 147), some (.int x1)], [.int 0, .ref 164, .int 1, .int (gI p4 147 13), .ref 147], zhp p4)) rfl ?_
      refine zRia (j := 0) rfl rfl (by decide) (by decide) ?_
      refine zEv_k 3 (f' := (136, [some (.ref 147), some (.int x1)], [.ref 147, .int 1, .int ((1 : Int32) <<< ((gI p4 164 0) &&& 31)), .int (gI p4 147 13), .ref 147], zhp p4)) rfl ?_
      refine zRgr rfl rfl rfl (by decide) (b := 164) rfl ?_
      refine zEv_k 1 (f' := (140, [some (.ref 147), some (.int x1)], [.int 1, .ref 164, .int 1, .int ((1 : Int32) <<< ((gI p4 164 0) &&& 31)), .int (gI p4 147 13), .ref 147], zhp p4)) rfl ?_
      refine zRia (j := 1) rfl rfl (by decide) (by decide) ?_
      obtain ⟨h5, eh5, H⟩ := zlets H
      refine zEv_w (F := fun z => (147, [some (.ref 147), some (.int x1)], [], zhp z)) (h0 := sI p4 147 13 ((gI p4 147 13) ||| (((1 : Int32) <<< ((gI p4 164 0) &&& 31)) ||| ((1 : Int32) <<< ((gI p4 164 1) &&& 31))))) 4 rfl eh5 ?_
      refine zEv_k 1 (f' := (219, [some (.ref 147), some (.int x1)], [], zhp h5)) rfl ?_
      cases H
      exact zEv_r rfl
    · have ex : x1 = 4 := zeqI hh (by decide)
      replace H := zif_f (fun e => by rw [ex] at e; exact absurd e (by decide)) H
      replace H := zif_f (fun e => by rw [ex] at e; exact absurd e (by decide)) H
      replace H := zif_f (fun e => by rw [ex] at e; exact absurd e (by decide)) H
      replace H := zif_f (fun e => by rw [ex] at e; exact absurd e (by decide)) H
      replace H := zif_t ex H
      refine zEv_k 1 (f' := (173, [some (.ref 147), some (.int x1)], [.ref 147], zhp h)) rfl ?_
      refine zRgr rfl rfl rfl (by decide) (b := 156) rfl ?_
      refine zEv_k 5 (f' := (183, [some (.ref 147), some (.int x1)], [.int x1, .ref (zro + 2), .int (x1 - 4), .ref 156], zhp h)) rfl ?_
      obtain ⟨j6, hj6, H⟩ := zbs H
      refine zRix rfl rfl hj6 ?_
      obtain ⟨v8, hv8, H⟩ := zlets H
      have kv8 : zEv (zXs Ls xs) (d + 2) zm_62 (197, [some (.ref 147), some (.int x1)], [.int v8, .int (x1 - 4), .ref 156], zhp h) (none, zhp p) := by
        obtain ⟨v10, hv10, H⟩ := zlets H
        have kv10 : zEv (zXs Ls xs) (d + 2) zm_62 (216, [some (.ref 147), some (.int x1)], [.int v10, .int v8, .int (x1 - 4), .ref 156], zhp h) (none, zhp p) := by
          obtain ⟨p11, hp11, H⟩ := zbs H
          refine zEv_c (fun _ => rfl) rfl (t_qDe_add (x1 := x1 - 4) (x2 := v8) (x3 := v10) (h := h) (d := d) hp11) rfl rfl ?_
          cases H
          exact zEv_r rfl
        clear H
        refine zEv_k 2 (f' := (201, [some (.ref 147), some (.int x1)], [.int x1, .ref (zro + 2), .int v8, .int (x1 - 4), .ref 156], zhp h)) rfl ?_
        refine zRix rfl rfl hj6 ?_
        refine zEv_k 2 (f' := (if (List.getD zA_NUMBERS j6 0) ≤ 1 then 215 else 206, [some (.ref 147), some (.int x1)], [.int v8, .int (x1 - 4), .ref 156], zhp h)) rfl (zEv_if (fun c9 => ?_) (fun c9 => ?_))
        · replace hv10 := zif_t c9 hv10
          refine zEv_k 1 (f' := (216, [some (.ref 147), some (.int x1)], [.int (-1), .int v8, .int (x1 - 4), .ref 156], zhp h)) rfl ?_
          cases hv10
          exact kv10
        · replace hv10 := zif_f c9 hv10
          refine zEv_k 1 (f' := (207, [some (.ref 147), some (.int x1)], [.ref 147, .int v8, .int (x1 - 4), .ref 156], zhp h)) rfl ?_
          refine zRgr rfl rfl rfl (by decide) (b := 164) rfl ?_
          refine zEv_k 1 (f' := (211, [some (.ref 147), some (.int x1)], [.int 1, .ref 164, .int v8, .int (x1 - 4), .ref 156], zhp h)) rfl ?_
          refine zRia (j := 1) rfl rfl (by decide) (by decide) ?_
          refine zEv_k 1 (f' := (216, [some (.ref 147), some (.int x1)], [.int (gI h 164 1), .int v8, .int (x1 - 4), .ref 156], zhp h)) rfl ?_
          cases hv10
          exact kv10
      clear H
      refine zEv_k 1 (f' := (if (List.getD zA_NUMBERS j6 0) ≤ 0 then 196 else 187, [some (.ref 147), some (.int x1)], [.int (x1 - 4), .ref 156], zhp h)) rfl (zEv_if (fun c7 => ?_) (fun c7 => ?_))
      · replace hv8 := zif_t c7 hv8
        refine zEv_k 1 (f' := (197, [some (.ref 147), some (.int x1)], [.int (-1), .int (x1 - 4), .ref 156], zhp h)) rfl ?_
        cases hv8
        exact kv8
      · replace hv8 := zif_f c7 hv8
        refine zEv_k 1 (f' := (188, [some (.ref 147), some (.int x1)], [.ref 147, .int (x1 - 4), .ref 156], zhp h)) rfl ?_
        refine zRgr rfl rfl rfl (by decide) (b := 164) rfl ?_
        refine zEv_k 1 (f' := (192, [some (.ref 147), some (.int x1)], [.int 0, .ref 164, .int (x1 - 4), .ref 156], zhp h)) rfl ?_
        refine zRia (j := 0) rfl rfl (by decide) (by decide) ?_
        refine zEv_k 1 (f' := (197, [some (.ref 147), some (.int x1)], [.int (gI h 164 0), .int (x1 - 4), .ref 156], zhp h)) rfl ?_
        cases hv8
        exact kv8
    · have ex : x1 = 5 := zeqI hh (by decide)
      replace H := zif_f (fun e => by rw [ex] at e; exact absurd e (by decide)) H
      replace H := zif_f (fun e => by rw [ex] at e; exact absurd e (by decide)) H
      replace H := zif_f (fun e => by rw [ex] at e; exact absurd e (by decide)) H
      replace H := zif_f (fun e => by rw [ex] at e; exact absurd e (by decide)) H
      replace H := zif_f (fun e => by rw [ex] at e; exact absurd e (by decide)) H
      replace H := zif_t ex H
      refine zEv_k 1 (f' := (173, [some (.ref 147), some (.int x1)], [.ref 147], zhp h)) rfl ?_
      refine zRgr rfl rfl rfl (by decide) (b := 156) rfl ?_
      refine zEv_k 5 (f' := (183, [some (.ref 147), some (.int x1)], [.int x1, .ref (zro + 2), .int (x1 - 4), .ref 156], zhp h)) rfl ?_
      obtain ⟨j12, hj12, H⟩ := zbs H
      refine zRix rfl rfl hj12 ?_
      obtain ⟨v14, hv14, H⟩ := zlets H
      have kv14 : zEv (zXs Ls xs) (d + 2) zm_62 (197, [some (.ref 147), some (.int x1)], [.int v14, .int (x1 - 4), .ref 156], zhp h) (none, zhp p) := by
        obtain ⟨v16, hv16, H⟩ := zlets H
        have kv16 : zEv (zXs Ls xs) (d + 2) zm_62 (216, [some (.ref 147), some (.int x1)], [.int v16, .int v14, .int (x1 - 4), .ref 156], zhp h) (none, zhp p) := by
          obtain ⟨p17, hp17, H⟩ := zbs H
          refine zEv_c (fun _ => rfl) rfl (t_qDe_add (x1 := x1 - 4) (x2 := v14) (x3 := v16) (h := h) (d := d) hp17) rfl rfl ?_
          cases H
          exact zEv_r rfl
        clear H
        refine zEv_k 2 (f' := (201, [some (.ref 147), some (.int x1)], [.int x1, .ref (zro + 2), .int v14, .int (x1 - 4), .ref 156], zhp h)) rfl ?_
        refine zRix rfl rfl hj12 ?_
        refine zEv_k 2 (f' := (if (List.getD zA_NUMBERS j12 0) ≤ 1 then 215 else 206, [some (.ref 147), some (.int x1)], [.int v14, .int (x1 - 4), .ref 156], zhp h)) rfl (zEv_if (fun c15 => ?_) (fun c15 => ?_))
        · replace hv16 := zif_t c15 hv16
          refine zEv_k 1 (f' := (216, [some (.ref 147), some (.int x1)], [.int (-1), .int v14, .int (x1 - 4), .ref 156], zhp h)) rfl ?_
          cases hv16
          exact kv16
        · replace hv16 := zif_f c15 hv16
          refine zEv_k 1 (f' := (207, [some (.ref 147), some (.int x1)], [.ref 147, .int v14, .int (x1 - 4), .ref 156], zhp h)) rfl ?_
          refine zRgr rfl rfl rfl (by decide) (b := 164) rfl ?_
          refine zEv_k 1 (f' := (211, [some (.ref 147), some (.int x1)], [.int 1, .ref 164, .int v14, .int (x1 - 4), .ref 156], zhp h)) rfl ?_
          refine zRia (j := 1) rfl rfl (by decide) (by decide) ?_
          refine zEv_k 1 (f' := (216, [some (.ref 147), some (.int x1)], [.int (gI h 164 1), .int v14, .int (x1 - 4), .ref 156], zhp h)) rfl ?_
          cases hv16
          exact kv16
      clear H
      refine zEv_k 1 (f' := (if (List.getD zA_NUMBERS j12 0) ≤ 0 then 196 else 187, [some (.ref 147), some (.int x1)], [.int (x1 - 4), .ref 156], zhp h)) rfl (zEv_if (fun c13 => ?_) (fun c13 => ?_))
      · replace hv14 := zif_t c13 hv14
        refine zEv_k 1 (f' := (197, [some (.ref 147), some (.int x1)], [.int (-1), .int (x1 - 4), .ref 156], zhp h)) rfl ?_
        cases hv14
        exact kv14
      · replace hv14 := zif_f c13 hv14
        refine zEv_k 1 (f' := (188, [some (.ref 147), some (.int x1)], [.ref 147, .int (x1 - 4), .ref 156], zhp h)) rfl ?_
        refine zRgr rfl rfl rfl (by decide) (b := 164) rfl ?_
        refine zEv_k 1 (f' := (192, [some (.ref 147), some (.int x1)], [.int 0, .ref 164, .int (x1 - 4), .ref 156], zhp h)) rfl ?_
        refine zRia (j := 0) rfl rfl (by decide) (by decide) ?_
        refine zEv_k 1 (f' := (197, [some (.ref 147), some (.int x1)], [.int (gI h 164 0), .int (x1 - 4), .ref 156], zhp h)) rfl ?_
        cases hv14
        exact kv14
    · have ex : x1 = 6 := zeqI hh (by decide)
      replace H := zif_f (fun e => by rw [ex] at e; exact absurd e (by decide)) H
      replace H := zif_f (fun e => by rw [ex] at e; exact absurd e (by decide)) H
      replace H := zif_f (fun e => by rw [ex] at e; exact absurd e (by decide)) H
      replace H := zif_f (fun e => by rw [ex] at e; exact absurd e (by decide)) H
      replace H := zif_f (fun e => by rw [ex] at e; exact absurd e (by decide)) H
      replace H := zif_f (fun e => by rw [ex] at e; exact absurd e (by decide)) H
      replace H := zif_t ex H
      refine zEv_k 1 (f' := (173, [some (.ref 147), some (.int x1)], [.ref 147], zhp h)) rfl ?_
      refine zRgr rfl rfl rfl (by decide) (b := 156) rfl ?_
      refine zEv_k 5 (f' := (183, [some (.ref 147), some (.int x1)], [.int x1, .ref (zro + 2), .int (x1 - 4), .ref 156], zhp h)) rfl ?_
      obtain ⟨j18, hj18, H⟩ := zbs H
      refine zRix rfl rfl hj18 ?_
      obtain ⟨v20, hv20, H⟩ := zlets H
      have kv20 : zEv (zXs Ls xs) (d + 2) zm_62 (197, [some (.ref 147), some (.int x1)], [.int v20, .int (x1 - 4), .ref 156], zhp h) (none, zhp p) := by
        obtain ⟨v22, hv22, H⟩ := zlets H
        have kv22 : zEv (zXs Ls xs) (d + 2) zm_62 (216, [some (.ref 147), some (.int x1)], [.int v22, .int v20, .int (x1 - 4), .ref 156], zhp h) (none, zhp p) := by
          obtain ⟨p23, hp23, H⟩ := zbs H
          refine zEv_c (fun _ => rfl) rfl (t_qDe_add (x1 := x1 - 4) (x2 := v20) (x3 := v22) (h := h) (d := d) hp23) rfl rfl ?_
          cases H
          exact zEv_r rfl
        clear H
        refine zEv_k 2 (f' := (201, [some (.ref 147), some (.int x1)], [.int x1, .ref (zro + 2), .int v20, .int (x1 - 4), .ref 156], zhp h)) rfl ?_
        refine zRix rfl rfl hj18 ?_
        refine zEv_k 2 (f' := (if (List.getD zA_NUMBERS j18 0) ≤ 1 then 215 else 206, [some (.ref 147), some (.int x1)], [.int v20, .int (x1 - 4), .ref 156], zhp h)) rfl (zEv_if (fun c21 => ?_) (fun c21 => ?_))
        · replace hv22 := zif_t c21 hv22
          refine zEv_k 1 (f' := (216, [some (.ref 147), some (.int x1)], [.int (-1), .int v20, .int (x1 - 4), .ref 156], zhp h)) rfl ?_
          cases hv22
          exact kv22
        · replace hv22 := zif_f c21 hv22
          refine zEv_k 1 (f' := (207, [some (.ref 147), some (.int x1)], [.ref 147, .int v20, .int (x1 - 4), .ref 156], zhp h)) rfl ?_
          refine zRgr rfl rfl rfl (by decide) (b := 164) rfl ?_
          refine zEv_k 1 (f' := (211, [some (.ref 147), some (.int x1)], [.int 1, .ref 164, .int v20, .int (x1 - 4), .ref 156], zhp h)) rfl ?_
          refine zRia (j := 1) rfl rfl (by decide) (by decide) ?_
          refine zEv_k 1 (f' := (216, [some (.ref 147), some (.int x1)], [.int (gI h 164 1), .int v20, .int (x1 - 4), .ref 156], zhp h)) rfl ?_
          cases hv22
          exact kv22
      clear H
      refine zEv_k 1 (f' := (if (List.getD zA_NUMBERS j18 0) ≤ 0 then 196 else 187, [some (.ref 147), some (.int x1)], [.int (x1 - 4), .ref 156], zhp h)) rfl (zEv_if (fun c19 => ?_) (fun c19 => ?_))
      · replace hv20 := zif_t c19 hv20
        refine zEv_k 1 (f' := (197, [some (.ref 147), some (.int x1)], [.int (-1), .int (x1 - 4), .ref 156], zhp h)) rfl ?_
        cases hv20
        exact kv20
      · replace hv20 := zif_f c19 hv20
        refine zEv_k 1 (f' := (188, [some (.ref 147), some (.int x1)], [.ref 147, .int (x1 - 4), .ref 156], zhp h)) rfl ?_
        refine zRgr rfl rfl rfl (by decide) (b := 164) rfl ?_
        refine zEv_k 1 (f' := (192, [some (.ref 147), some (.int x1)], [.int 0, .ref 164, .int (x1 - 4), .ref 156], zhp h)) rfl ?_
        refine zRia (j := 0) rfl rfl (by decide) (by decide) ?_
        refine zEv_k 1 (f' := (197, [some (.ref 147), some (.int x1)], [.int (gI h 164 0), .int (x1 - 4), .ref 156], zhp h)) rfl ?_
        cases hv20
        exact kv20
    · have ex : x1 = 7 := zeqI hh (by decide)
      replace H := zif_f (fun e => by rw [ex] at e; exact absurd e (by decide)) H
      replace H := zif_f (fun e => by rw [ex] at e; exact absurd e (by decide)) H
      replace H := zif_f (fun e => by rw [ex] at e; exact absurd e (by decide)) H
      replace H := zif_f (fun e => by rw [ex] at e; exact absurd e (by decide)) H
      replace H := zif_f (fun e => by rw [ex] at e; exact absurd e (by decide)) H
      replace H := zif_f (fun e => by rw [ex] at e; exact absurd e (by decide)) H
      replace H := zif_f (fun e => by rw [ex] at e; exact absurd e (by decide)) H
      replace H := zif_t ex H
      refine zEv_k 1 (f' := (173, [some (.ref 147), some (.int x1)], [.ref 147], zhp h)) rfl ?_
      refine zRgr rfl rfl rfl (by decide) (b := 156) rfl ?_
      refine zEv_k 5 (f' := (183, [some (.ref 147), some (.int x1)], [.int x1, .ref (zro + 2), .int (x1 - 4), .ref 156], zhp h)) rfl ?_
      obtain ⟨j24, hj24, H⟩ := zbs H
      refine zRix rfl rfl hj24 ?_
      obtain ⟨v26, hv26, H⟩ := zlets H
      have kv26 : zEv (zXs Ls xs) (d + 2) zm_62 (197, [some (.ref 147), some (.int x1)], [.int v26, .int (x1 - 4), .ref 156], zhp h) (none, zhp p) := by
        obtain ⟨v28, hv28, H⟩ := zlets H
        have kv28 : zEv (zXs Ls xs) (d + 2) zm_62 (216, [some (.ref 147), some (.int x1)], [.int v28, .int v26, .int (x1 - 4), .ref 156], zhp h) (none, zhp p) := by
          obtain ⟨p29, hp29, H⟩ := zbs H
          refine zEv_c (fun _ => rfl) rfl (t_qDe_add (x1 := x1 - 4) (x2 := v26) (x3 := v28) (h := h) (d := d) hp29) rfl rfl ?_
          cases H
          exact zEv_r rfl
        clear H
        refine zEv_k 2 (f' := (201, [some (.ref 147), some (.int x1)], [.int x1, .ref (zro + 2), .int v26, .int (x1 - 4), .ref 156], zhp h)) rfl ?_
        refine zRix rfl rfl hj24 ?_
        refine zEv_k 2 (f' := (if (List.getD zA_NUMBERS j24 0) ≤ 1 then 215 else 206, [some (.ref 147), some (.int x1)], [.int v26, .int (x1 - 4), .ref 156], zhp h)) rfl (zEv_if (fun c27 => ?_) (fun c27 => ?_))
        · replace hv28 := zif_t c27 hv28
          refine zEv_k 1 (f' := (216, [some (.ref 147), some (.int x1)], [.int (-1), .int v26, .int (x1 - 4), .ref 156], zhp h)) rfl ?_
          cases hv28
          exact kv28
        · replace hv28 := zif_f c27 hv28
          refine zEv_k 1 (f' := (207, [some (.ref 147), some (.int x1)], [.ref 147, .int v26, .int (x1 - 4), .ref 156], zhp h)) rfl ?_
          refine zRgr rfl rfl rfl (by decide) (b := 164) rfl ?_
          refine zEv_k 1 (f' := (211, [some (.ref 147), some (.int x1)], [.int 1, .ref 164, .int v26, .int (x1 - 4), .ref 156], zhp h)) rfl ?_
          refine zRia (j := 1) rfl rfl (by decide) (by decide) ?_
          refine zEv_k 1 (f' := (216, [some (.ref 147), some (.int x1)], [.int (gI h 164 1), .int v26, .int (x1 - 4), .ref 156], zhp h)) rfl ?_
          cases hv28
          exact kv28
      clear H
      refine zEv_k 1 (f' := (if (List.getD zA_NUMBERS j24 0) ≤ 0 then 196 else 187, [some (.ref 147), some (.int x1)], [.int (x1 - 4), .ref 156], zhp h)) rfl (zEv_if (fun c25 => ?_) (fun c25 => ?_))
      · replace hv26 := zif_t c25 hv26
        refine zEv_k 1 (f' := (197, [some (.ref 147), some (.int x1)], [.int (-1), .int (x1 - 4), .ref 156], zhp h)) rfl ?_
        cases hv26
        exact kv26
      · replace hv26 := zif_f c25 hv26
        refine zEv_k 1 (f' := (188, [some (.ref 147), some (.int x1)], [.ref 147, .int (x1 - 4), .ref 156], zhp h)) rfl ?_
        refine zRgr rfl rfl rfl (by decide) (b := 164) rfl ?_
        refine zEv_k 1 (f' := (192, [some (.ref 147), some (.int x1)], [.int 0, .ref 164, .int (x1 - 4), .ref 156], zhp h)) rfl ?_
        refine zRia (j := 0) rfl rfl (by decide) (by decide) ?_
        refine zEv_k 1 (f' := (197, [some (.ref 147), some (.int x1)], [.int (gI h 164 0), .int (x1 - 4), .ref 156], zhp h)) rfl ?_
        cases hv26
        exact kv26
    · have ex : x1 = 8 := zeqI hh (by decide)
      replace H := zif_f (fun e => by rw [ex] at e; exact absurd e (by decide)) H
      replace H := zif_f (fun e => by rw [ex] at e; exact absurd e (by decide)) H
      replace H := zif_f (fun e => by rw [ex] at e; exact absurd e (by decide)) H
      replace H := zif_f (fun e => by rw [ex] at e; exact absurd e (by decide)) H
      replace H := zif_f (fun e => by rw [ex] at e; exact absurd e (by decide)) H
      replace H := zif_f (fun e => by rw [ex] at e; exact absurd e (by decide)) H
      replace H := zif_f (fun e => by rw [ex] at e; exact absurd e (by decide)) H
      replace H := zif_f (fun e => by rw [ex] at e; exact absurd e (by decide)) H
      replace H := zif_t ex H
      refine zEv_k 1 (f' := (173, [some (.ref 147), some (.int x1)], [.ref 147], zhp h)) rfl ?_
      refine zRgr rfl rfl rfl (by decide) (b := 156) rfl ?_
      refine zEv_k 5 (f' := (183, [some (.ref 147), some (.int x1)], [.int x1, .ref (zro + 2), .int (x1 - 4), .ref 156], zhp h)) rfl ?_
      obtain ⟨j30, hj30, H⟩ := zbs H
      refine zRix rfl rfl hj30 ?_
      obtain ⟨v32, hv32, H⟩ := zlets H
      have kv32 : zEv (zXs Ls xs) (d + 2) zm_62 (197, [some (.ref 147), some (.int x1)], [.int v32, .int (x1 - 4), .ref 156], zhp h) (none, zhp p) := by
        obtain ⟨v34, hv34, H⟩ := zlets H
        have kv34 : zEv (zXs Ls xs) (d + 2) zm_62 (216, [some (.ref 147), some (.int x1)], [.int v34, .int v32, .int (x1 - 4), .ref 156], zhp h) (none, zhp p) := by
          obtain ⟨p35, hp35, H⟩ := zbs H
          refine zEv_c (fun _ => rfl) rfl (t_qDe_add (x1 := x1 - 4) (x2 := v32) (x3 := v34) (h := h) (d := d) hp35) rfl rfl ?_
          cases H
          exact zEv_r rfl
        clear H
        refine zEv_k 2 (f' := (201, [some (.ref 147), some (.int x1)], [.int x1, .ref (zro + 2), .int v32, .int (x1 - 4), .ref 156], zhp h)) rfl ?_
        refine zRix rfl rfl hj30 ?_
        refine zEv_k 2 (f' := (if (List.getD zA_NUMBERS j30 0) ≤ 1 then 215 else 206, [some (.ref 147), some (.int x1)], [.int v32, .int (x1 - 4), .ref 156], zhp h)) rfl (zEv_if (fun c33 => ?_) (fun c33 => ?_))
        · replace hv34 := zif_t c33 hv34
          refine zEv_k 1 (f' := (216, [some (.ref 147), some (.int x1)], [.int (-1), .int v32, .int (x1 - 4), .ref 156], zhp h)) rfl ?_
          cases hv34
          exact kv34
        · replace hv34 := zif_f c33 hv34
          refine zEv_k 1 (f' := (207, [some (.ref 147), some (.int x1)], [.ref 147, .int v32, .int (x1 - 4), .ref 156], zhp h)) rfl ?_
          refine zRgr rfl rfl rfl (by decide) (b := 164) rfl ?_
          refine zEv_k 1 (f' := (211, [some (.ref 147), some (.int x1)], [.int 1, .ref 164, .int v32, .int (x1 - 4), .ref 156], zhp h)) rfl ?_
          refine zRia (j := 1) rfl rfl (by decide) (by decide) ?_
          refine zEv_k 1 (f' := (216, [some (.ref 147), some (.int x1)], [.int (gI h 164 1), .int v32, .int (x1 - 4), .ref 156], zhp h)) rfl ?_
          cases hv34
          exact kv34
      clear H
      refine zEv_k 1 (f' := (if (List.getD zA_NUMBERS j30 0) ≤ 0 then 196 else 187, [some (.ref 147), some (.int x1)], [.int (x1 - 4), .ref 156], zhp h)) rfl (zEv_if (fun c31 => ?_) (fun c31 => ?_))
      · replace hv32 := zif_t c31 hv32
        refine zEv_k 1 (f' := (197, [some (.ref 147), some (.int x1)], [.int (-1), .int (x1 - 4), .ref 156], zhp h)) rfl ?_
        cases hv32
        exact kv32
      · replace hv32 := zif_f c31 hv32
        refine zEv_k 1 (f' := (188, [some (.ref 147), some (.int x1)], [.ref 147, .int (x1 - 4), .ref 156], zhp h)) rfl ?_
        refine zRgr rfl rfl rfl (by decide) (b := 164) rfl ?_
        refine zEv_k 1 (f' := (192, [some (.ref 147), some (.int x1)], [.int 0, .ref 164, .int (x1 - 4), .ref 156], zhp h)) rfl ?_
        refine zRia (j := 0) rfl rfl (by decide) (by decide) ?_
        refine zEv_k 1 (f' := (197, [some (.ref 147), some (.int x1)], [.int (gI h 164 0), .int (x1 - 4), .ref 156], zhp h)) rfl ?_
        cases hv32
        exact kv32
    · have ex : x1 = 9 := zeqI hh (by decide)
      replace H := zif_f (fun e => by rw [ex] at e; exact absurd e (by decide)) H
      replace H := zif_f (fun e => by rw [ex] at e; exact absurd e (by decide)) H
      replace H := zif_f (fun e => by rw [ex] at e; exact absurd e (by decide)) H
      replace H := zif_f (fun e => by rw [ex] at e; exact absurd e (by decide)) H
      replace H := zif_f (fun e => by rw [ex] at e; exact absurd e (by decide)) H
      replace H := zif_f (fun e => by rw [ex] at e; exact absurd e (by decide)) H
      replace H := zif_f (fun e => by rw [ex] at e; exact absurd e (by decide)) H
      replace H := zif_f (fun e => by rw [ex] at e; exact absurd e (by decide)) H
      replace H := zif_f (fun e => by rw [ex] at e; exact absurd e (by decide)) H
      replace H := zif_t ex H
      refine zEv_k 1 (f' := (151, [some (.ref 147), some (.int x1)], [.ref 147], zhp h)) rfl ?_
      refine zRgr rfl rfl rfl (by decide) (b := 160) rfl ?_
      refine zEv_k 1 (f' := (155, [some (.ref 147), some (.int x1)], [.ref 147, .ref 160], zhp h)) rfl ?_
      refine zRgr rfl rfl rfl (by decide) (b := 164) rfl ?_
      refine zEv_k 1 (f' := (159, [some (.ref 147), some (.int x1)], [.int 0, .ref 164, .ref 160], zhp h)) rfl ?_
      refine zRia (j := 0) rfl rfl (by decide) (by decide) ?_
      refine zEv_k 1 (f' := (161, [some (.ref 147), some (.int x1)], [.ref 147, .int (gI h 164 0), .ref 160], zhp h)) rfl ?_
      refine zRgr rfl rfl rfl (by decide) (b := 164) rfl ?_
      refine zEv_k 1 (f' := (165, [some (.ref 147), some (.int x1)], [.int 1, .ref 164, .int (gI h 164 0), .ref 160], zhp h)) rfl ?_
      refine zRia (j := 1) rfl rfl (by decide) (by decide) ?_
      obtain ⟨p36, hp36, H⟩ := zbs H
      refine zEv_c (fun _ => rfl) rfl (t_qLo_add (x1 := gI h 164 0) (x2 := gI h 164 1) (h := h) (d := d) hp36) rfl rfl ?_
      refine zEv_k 1 (f' := (219, [some (.ref 147), some (.int x1)], [], zhp p36)) rfl ?_
      cases H
      exact zEv_r rfl
def qRe_readLine_b28 (x2 : Int32) (x3 : Int32) (s : Int32 × zK) : Option ((Int32 × zK) ⊕ ((zK) ⊕ (zK))) :=
  (zix x2 10).bind fun j4 =>
  if (List.getD zA_NUMBERS j4 0) ≤ s.1 then
    some (.inr (.inl s.2))
  else
    if (gI s.2 147 10) = 2 then
      (zix s.1 6).bind fun j7 =>
      zlet (sI s.2 164 j7 (gI s.2 147 12)) fun h8 =>
      zlet (sI h8 165 j7 (gI h8 147 11)) fun h9 =>
      (qRe_step h9).bind fun p10 =>
      some (.inl (s.1 + 1, p10))
    else
      (qRe_stopHere s.2).bind fun p11 =>
      some (.inr (.inr p11))
theorem t_qRe_readLine_b28b {Ls : Nat} {xs : Nat → Int32} {d : Nat} {x2 : Int32} {x3 : Int32} {r : zA} {s : Int32 × zK} {e : (Int32 × zK) ⊕ ((zK) ⊕ (zK))} (H : qRe_readLine_b28 x2 x3 s = some e) (K : match (generalizing := false) e with | .inl s' => ∀ (z1 : Option Value), zEv (zXs Ls xs) (d + 3) zm_57 (28, [some (.ref 147), z1, some (.int x2), some (.int x3), some (.int s'.1)], [], zhp s'.2) r | .inr (.inl v) => ∀ (z1 : Option Value) (z4 : Option Value), zEv (zXs Ls xs) (d + 3) zm_57 (83, [some (.ref 147), z1, some (.int x2), some (.int x3), z4], [], zhp v) r | .inr (.inr p) => (none, zhp p) = r) (y1 : Option Value) : zEv (zXs Ls xs) (d + 3) zm_57 (28, [some (.ref 147), y1, some (.int x2), some (.int x3), some (.int s.1)], [], zhp s.2) r := by
  unfold qRe_readLine_b28 at H
  refine zEv_k 3 (f' := (34, [some (.ref 147), y1, some (.int x2), some (.int x3), some (.int s.1)], [.int x2, .ref (zro + 2), .int s.1], zhp s.2)) rfl ?_
  obtain ⟨j4, hj4, H⟩ := zbs H
  refine zRix rfl rfl hj4 ?_
  refine zEv_k 1 (f' := (if (List.getD zA_NUMBERS j4 0) ≤ s.1 then 83 else 38, [some (.ref 147), y1, some (.int x2), some (.int x3), some (.int s.1)], [], zhp s.2)) rfl (zEv_if (fun c5 => ?_) (fun c5 => ?_))
  · replace H := zif_t c5 H
    cases H
    exact K _ _
  · replace H := zif_f c5 H
    refine zEv_k 4 (f' := (if (gI s.2 147 10) = 2 then 51 else 46, [some (.ref 147), y1, some (.int x2), some (.int x3), some (.int s.1)], [], zhp s.2)) rfl (zEv_if (fun c6 => ?_) (fun c6 => ?_))
    · replace H := zif_t c6 H
      refine zEv_k 1 (f' := (52, [some (.ref 147), y1, some (.int x2), some (.int x3), some (.int s.1)], [.ref 147], zhp s.2)) rfl ?_
      refine zRgr rfl rfl rfl (by decide) (b := 164) rfl ?_
      refine zEv_k 3 (f' := (61, [some (.ref 147), y1, some (.int x2), some (.int x3), some (.int s.1)], [.int (gI s.2 147 12), .int s.1, .ref 164], zhp s.2)) rfl ?_
      obtain ⟨j7, hj7, H⟩ := zbs H
      obtain ⟨h8, eh8, H⟩ := zlets H
      refine zRis rfl rfl (by decide) hj7 eh8 ?_
      refine zEv_k 1 (f' := (63, [some (.ref 147), y1, some (.int x2), some (.int x3), some (.int s.1)], [.ref 147], zhp h8)) rfl ?_
      refine zRgr rfl rfl rfl (by decide) (b := 165) rfl ?_
      refine zEv_k 3 (f' := (72, [some (.ref 147), y1, some (.int x2), some (.int x3), some (.int s.1)], [.int (gI h8 147 11), .int s.1, .ref 165], zhp h8)) rfl ?_
      obtain ⟨h9, eh9, H⟩ := zlets H
      refine zRis rfl rfl (by decide) hj7 eh9 ?_
      refine zEv_k 1 (f' := (74, [some (.ref 147), y1, some (.int x2), some (.int x3), some (.int s.1)], [.ref 147], zhp h9)) rfl ?_
      obtain ⟨p10, hp10, H⟩ := zbs H
      refine zEv_c (fun _ => rfl) rfl (t_qRe_step (h := h9) (d := d) hp10) rfl rfl ?_
      refine zEv_k 2 (f' := (28, [some (.ref 147), y1, some (.int x2), some (.int x3), some (.int (s.1 + 1))], [], zhp p10)) rfl ?_
      cases H
      exact K _
    · replace H := zif_f c6 H
      refine zEv_k 1 (f' := (47, [some (.ref 147), y1, some (.int x2), some (.int x3), some (.int s.1)], [.ref 147], zhp s.2)) rfl ?_
      obtain ⟨p11, hp11, H⟩ := zbs H
      refine zEv_c (fun _ => rfl) rfl (t_qRe_stopHere (h := s.2) (d := d + 2) hp11) rfl rfl ?_
      cases H
      exact zEv_re K rfl
theorem t_qRe_readLine_b28 {Ls : Nat} {xs : Nat → Int32} {d : Nat} {x2 : Int32} {x3 : Int32} {r : zA} {t : (zK) ⊕ (zK)} (K : (match (generalizing := false) t with | .inl v => ∀ (z1 : Option Value) (z4 : Option Value), zEv (zXs Ls xs) (d + 3) zm_57 (83, [some (.ref 147), z1, some (.int x2), some (.int x3), z4], [], zhp v) r | .inr p => (none, zhp p) = r)) (n : Nat) (s : Int32 × zK) (H : zloop (qRe_readLine_b28 x2 x3) n s = some t) (y1 : Option Value) : zEv (zXs Ls xs) (d + 3) zm_57 (28, [some (.ref 147), y1, some (.int x2), some (.int x3), some (.int s.1)], [], zhp s.2) r := by
  have Z := zloop_P (P := fun s => ∀ (y1 : Option Value), zEv (zXs Ls xs) (d + 3) zm_57 (28, [some (.ref 147), y1, some (.int x2), some (.int x3), some (.int s.1)], [], zhp s.2) r) (b := qRe_readLine_b28 x2 x3) (t := t) (fun s s2 hb hk => by intro y1; exact t_qRe_readLine_b28b hb hk y1) (fun s hb => by rcases t with v | p <;> (intro y1; exact t_qRe_readLine_b28b hb K y1)) n s H
  exact Z y1
def qRe_readLine (x1 : Int32) (h : zK) : Option (zK) :=
  (qRe_wordHere x1 h).bind fun p1 =>
  if ¬ p1 = (-1) then
    (qRe_step h).bind fun p3 =>
    (zloop (qRe_readLine_b28 p1 (gI h 147 11)) zfu (0, p3)).bind fun t12 => match t12 with
    | .inr p => some p
    | .inl v13 =>
      if (gI v13 147 10) = 3 then
        (qRe_step v13).bind fun p15 =>
        (qRe_judge p1 (gI h 147 11) p15).bind fun p16 =>
        if ¬ (gI p16 147 3) = 0 then
          some p16
        else
          (qRe_tell p1 p16).bind fun p18 =>
          some p18
      else
        (qRe_stopHere v13).bind fun p19 =>
        some p19
  else
    (qRe_stopHere h).bind fun p20 =>
    some p20
theorem t_qRe_readLine {Ls : Nat} {xs : Nat → Int32} {d : Nat} {x1 : Int32} {h : zK} {p : zK} (H : qRe_readLine x1 h = some p) : zEv (zXs Ls xs) (d + 3) zm_57 (0, [some (.ref 147), some (.int x1), none, none, none], [], zhp h) (none, zhp p) := by
  unfold qRe_readLine at H
  refine zEv_k 2 (f' := (2, [some (.ref 147), some (.int x1), none, none, none], [.int x1, .ref 147], zhp h)) rfl ?_
  obtain ⟨p1, hp1, H⟩ := zbs H
  refine zEv_c (fun _ => rfl) rfl (t_qRe_wordHere (x1 := x1) (h := h) (d := d + 1) hp1) rfl rfl ?_
  refine zEv_k 7 (f' := (if ¬ p1 = (-1) then 21 else 16, [some (.ref 147), some (.int x1), some (.int p1), some (.int (gI h 147 11)), none], [], zhp h)) rfl (zEv_if (fun c2 => ?_) (fun c2 => ?_))
  · replace H := zif_t c2 H
    refine zEv_k 1 (f' := (22, [some (.ref 147), some (.int x1), some (.int p1), some (.int (gI h 147 11)), none], [.ref 147], zhp h)) rfl ?_
    obtain ⟨p3, hp3, H⟩ := zbs H
    refine zEv_c (fun _ => rfl) rfl (t_qRe_step (h := h) (d := d) hp3) rfl rfl ?_
    refine zEv_k 2 (f' := (28, [some (.ref 147), some (.int x1), some (.int p1), some (.int (gI h 147 11)), some (.int 0)], [], zhp p3)) rfl ?_
    obtain ⟨t12, ht12, H⟩ := zbs H
    refine t_qRe_readLine_b28 (x2 := p1) (x3 := gI h 147 11) ?_ zfu _ ht12 _
    rcases t12 with v13 | p
    · intro y1 y4
      dsimp only at H
      refine zEv_k 4 (f' := (if (gI v13 147 10) = 3 then 96 else 91, [some (.ref 147), y1, some (.int p1), some (.int (gI h 147 11)), y4], [], zhp v13)) rfl (zEv_if (fun c14 => ?_) (fun c14 => ?_))
      · replace H := zif_t c14 H
        refine zEv_k 1 (f' := (97, [some (.ref 147), y1, some (.int p1), some (.int (gI h 147 11)), y4], [.ref 147], zhp v13)) rfl ?_
        obtain ⟨p15, hp15, H⟩ := zbs H
        refine zEv_c (fun _ => rfl) rfl (t_qRe_step (h := v13) (d := d) hp15) rfl rfl ?_
        refine zEv_k 3 (f' := (103, [some (.ref 147), y1, some (.int p1), some (.int (gI h 147 11)), y4], [.int (gI h 147 11), .int p1, .ref 147], zhp p15)) rfl ?_
        obtain ⟨p16, hp16, H⟩ := zbs H
        refine zEv_c (fun _ => rfl) rfl (t_qRe_judge (x1 := p1) (x2 := gI h 147 11) (h := p15) (d := d) hp16) rfl rfl ?_
        refine zEv_k 3 (f' := (if ¬ (gI p16 147 3) = 0 then 118 else 113, [some (.ref 147), y1, some (.int p1), some (.int (gI h 147 11)), y4], [], zhp p16)) rfl (zEv_if (fun c17 => ?_) (fun c17 => ?_))
        · replace H := zif_t c17 H
          cases H
          exact zEv_r rfl
        · replace H := zif_f c17 H
          refine zEv_k 2 (f' := (115, [some (.ref 147), y1, some (.int p1), some (.int (gI h 147 11)), y4], [.int p1, .ref 147], zhp p16)) rfl ?_
          obtain ⟨p18, hp18, H⟩ := zbs H
          refine zEv_c (fun _ => rfl) rfl (t_qRe_tell (x1 := p1) (h := p16) (d := d) hp18) rfl rfl ?_
          cases H
          exact zEv_r rfl
      · replace H := zif_f c14 H
        refine zEv_k 1 (f' := (92, [some (.ref 147), y1, some (.int p1), some (.int (gI h 147 11)), y4], [.ref 147], zhp v13)) rfl ?_
        obtain ⟨p19, hp19, H⟩ := zbs H
        refine zEv_c (fun _ => rfl) rfl (t_qRe_stopHere (h := v13) (d := d + 2) hp19) rfl rfl ?_
        cases H
        exact zEv_r rfl
    · cases H
      exact rfl
  · replace H := zif_f c2 H
    refine zEv_k 1 (f' := (17, [some (.ref 147), some (.int x1), some (.int p1), some (.int (gI h 147 11)), none], [.ref 147], zhp h)) rfl ?_
    obtain ⟨p20, hp20, H⟩ := zbs H
    refine zEv_c (fun _ => rfl) rfl (t_qRe_stopHere (h := h) (d := d + 2) hp20) rfl rfl ?_
    cases H
    exact zEv_r rfl
def qRe_read_b13 (x1 : Int32) (s : Int32 × zK) : Option ((Int32 × zK) ⊕ (zK)) :=
  if 600 < s.1 then
    some (.inr s.2)
  else
    if (gI s.2 147 10) = 0 then
      some (.inr s.2)
    else
      if (gI s.2 147 3) = 1 then
        some (.inr s.2)
      else
        (qRe_readLine x1 s.2).bind fun p6 =>
        some (.inl (s.1 + 1, p6))
theorem t_qRe_read_b13b {Ls : Nat} {xs : Nat → Int32} {d : Nat} {x1 : Int32} {r : zA} {s : Int32 × zK} {e : (Int32 × zK) ⊕ (zK)} (H : qRe_read_b13 x1 s = some e) (K : match (generalizing := false) e with | .inl s' => ∀ (z3 : Option Value), zEv (zXs Ls xs) (d + 4) zm_55 (13, [some (.ref 147), some (.int x1), some (.ref 2), z3, some (.int s'.1)], [], zhp s'.2) r | .inr v => ∀ (z3 : Option Value) (z4 : Option Value), zEv (zXs Ls xs) (d + 4) zm_55 (47, [some (.ref 147), some (.int x1), some (.ref 2), z3, z4], [], zhp v) r) (y3 : Option Value) : zEv (zXs Ls xs) (d + 4) zm_55 (13, [some (.ref 147), some (.int x1), some (.ref 2), y3, some (.int s.1)], [], zhp s.2) r := by
  unfold qRe_read_b13 at H
  refine zEv_k 3 (f' := (if 600 < s.1 then 47 else 21, [some (.ref 147), some (.int x1), some (.ref 2), y3, some (.int s.1)], [], zhp s.2)) rfl (zEv_if (fun c3 => ?_) (fun c3 => ?_))
  · replace H := zif_t c3 H
    cases H
    exact K _ _
  · replace H := zif_f c3 H
    refine zEv_k 3 (f' := (if (gI s.2 147 10) = 0 then 47 else 28, [some (.ref 147), some (.int x1), some (.ref 2), y3, some (.int s.1)], [], zhp s.2)) rfl (zEv_if (fun c4 => ?_) (fun c4 => ?_))
    · replace H := zif_t c4 H
      cases H
      exact K _ _
    · replace H := zif_f c4 H
      refine zEv_k 4 (f' := (if (gI s.2 147 3) = 1 then 47 else 36, [some (.ref 147), some (.int x1), some (.ref 2), y3, some (.int s.1)], [], zhp s.2)) rfl (zEv_if (fun c5 => ?_) (fun c5 => ?_))
      · replace H := zif_t c5 H
        cases H
        exact K _ _
      · replace H := zif_f c5 H
        refine zEv_k 2 (f' := (38, [some (.ref 147), some (.int x1), some (.ref 2), y3, some (.int s.1)], [.int x1, .ref 147], zhp s.2)) rfl ?_
        obtain ⟨p6, hp6, H⟩ := zbs H
        refine zEv_c (fun _ => rfl) rfl (t_qRe_readLine (x1 := x1) (h := s.2) (d := d) hp6) rfl rfl ?_
        refine zEv_k 2 (f' := (13, [some (.ref 147), some (.int x1), some (.ref 2), zlost y3, some (.int (s.1 + 1))], [], zhp p6)) rfl ?_
        cases H
        exact K _
theorem t_qRe_read_b13 {Ls : Nat} {xs : Nat → Int32} {d : Nat} {x1 : Int32} {r : zA} {t : zK} (K : ∀ (z3 : Option Value) (z4 : Option Value), zEv (zXs Ls xs) (d + 4) zm_55 (47, [some (.ref 147), some (.int x1), some (.ref 2), z3, z4], [], zhp t) r) (n : Nat) (s : Int32 × zK) (H : zloop (qRe_read_b13 x1) n s = some t) (y3 : Option Value) : zEv (zXs Ls xs) (d + 4) zm_55 (13, [some (.ref 147), some (.int x1), some (.ref 2), y3, some (.int s.1)], [], zhp s.2) r := by
  have Z := zloop_P (P := fun s => ∀ (y3 : Option Value), zEv (zXs Ls xs) (d + 4) zm_55 (13, [some (.ref 147), some (.int x1), some (.ref 2), y3, some (.int s.1)], [], zhp s.2) r) (b := qRe_read_b13 x1) (t := t) (fun s s2 hb hk => by intro y3; exact t_qRe_read_b13b hb hk y3) (fun s hb => by intro y3; exact t_qRe_read_b13b hb K y3) n s H
  exact Z y3
def qRe_read (x1 : Int32) (x3 : Int32) (h : zK) : Option (zK) :=
  (qRe_begin x3 h).bind fun p1 =>
  (qRe_step p1).bind fun p2 =>
  (zloop (qRe_read_b13 x1) zfu (0, p2)).bind fun t7 =>
  if ¬ x1 = 0 then
    some t7
  else
    if ((gI t7 147 13) &&& ((qCe_all 148 t7) ^^^ (-1))) = 0 then
      some t7
    else
      (qRe_note 4 (gI t7 147 8) t7).bind fun p11 =>
      some p11
theorem t_qRe_read {Ls : Nat} {xs : Nat → Int32} {d : Nat} {x1 : Int32} {x3 : Int32} {h : zK} {p : zK} (H : qRe_read x1 x3 h = some p) : zEv (zXs Ls xs) (d + 4) zm_55 (0, [some (.ref 147), some (.int x1), some (.ref 2), some (.int x3), none], [], zhp h) (none, zhp p) := by
  unfold qRe_read at H
  refine zEv_k 3 (f' := (3, [some (.ref 147), some (.int x1), some (.ref 2), some (.int x3), none], [.int x3, .ref 2, .ref 147], zhp h)) rfl ?_
  obtain ⟨p1, hp1, H⟩ := zbs H
  refine zEv_c (fun _ => rfl) rfl (t_qRe_begin (x2 := x3) (h := h) (d := d + 2) hp1) rfl rfl ?_
  refine zEv_k 1 (f' := (7, [some (.ref 147), some (.int x1), some (.ref 2), some (.int x3), none], [.ref 147], zhp p1)) rfl ?_
  obtain ⟨p2, hp2, H⟩ := zbs H
  refine zEv_c (fun _ => rfl) rfl (t_qRe_step (h := p1) (d := d + 1) hp2) rfl rfl ?_
  refine zEv_k 2 (f' := (13, [some (.ref 147), some (.int x1), some (.ref 2), some (.int x3), some (.int 0)], [], zhp p2)) rfl ?_
  obtain ⟨t7, ht7, H⟩ := zbs H
  refine t_qRe_read_b13 (x1 := x1) ?_ zfu _ ht7 _
  intro y3 y4
  refine zEv_k 2 (f' := (if ¬ x1 = 0 then 77 else 51, [some (.ref 147), some (.int x1), some (.ref 2), y3, y4], [], zhp t7)) rfl (zEv_if (fun c9 => ?_) (fun c9 => ?_))
  · replace H := zif_t c9 H
    cases H
    exact zEv_r rfl
  · replace H := zif_f c9 H
    refine zEv_k 3 (f' := (56, [some (.ref 147), some (.int x1), some (.ref 2), y3, y4], [.ref 147, .int (gI t7 147 13)], zhp t7)) rfl ?_
    refine zRgr rfl rfl rfl (by decide) (b := 148) rfl ?_
    refine zEv_c (fun _ => rfl) rfl (t_qCe_all (oo := 148) (h := t7) (d := d + 3) (by decide) rfl) rfl rfl ?_
    refine zEv_k 4 (f' := (if ((gI t7 147 13) &&& ((qCe_all 148 t7) ^^^ (-1))) = 0 then 77 else 68, [some (.ref 147), some (.int x1), some (.ref 2), y3, y4], [], zhp t7)) rfl (zEv_if (fun c10 => ?_) (fun c10 => ?_))
    · replace H := zif_t c10 H
      cases H
      exact zEv_r rfl
    · replace H := zif_f c10 H
      refine zEv_k 4 (f' := (74, [some (.ref 147), some (.int x1), some (.ref 2), y3, y4], [.int (gI t7 147 8), .int 4, .ref 147], zhp t7)) rfl ?_
      obtain ⟨p11, hp11, H⟩ := zbs H
      refine zEv_c (fun _ => rfl) rfl (t_qRe_note (x1 := 4) (x2 := gI t7 147 8) (h := t7) (d := d + 3) hp11) rfl rfl ?_
      cases H
      exact zEv_r rfl
def qRu_openUp_j83 (oo : Nat) (x1 : Int32) (h : zK) : Option (zK) :=
  zlet (sI h oo 6 x1) fun h6 =>
  (zix x1 7).bind fun j7 =>
  zlet (sI h6 oo 14 (gI h6 (oo + 10) j7)) fun h8 =>
  some h8
theorem t_qRu_openUp_j83 {Ls : Nat} {xs : Nat → Int32} {d : Nat} {oo : Nat} {x1 : Int32} {h : zK} {p : zK} (ho : oo = 166 ∨ oo = 198) (H : qRu_openUp_j83 oo x1 h = some p)  : zEv (zXs Ls xs) (d + 1) zm_82 (83, [some (.ref oo), some (.int x1)], [], zhp h) (none, zhp p) := by
  unfold qRu_openUp_j83 at H
  rcases ho with rfl | rfl
  · obtain ⟨h6, eh6, H⟩ := zlets H
    refine zEv_w (F := fun z => (88, [some (.ref 166), some (.int x1)], [], zhp z)) (h0 := sI h 166 6 x1) 3 rfl eh6 ?_
    refine zEv_k 2 (f' := (90, [some (.ref 166), some (.int x1)], [.ref 166, .ref 166], zhp h6)) rfl ?_
    refine zRgr rfl rfl rfl (by decide) (b := 166 + 10) rfl ?_
    refine zEv_k 1 (f' := (94, [some (.ref 166), some (.int x1)], [.int x1, .ref (166 + 10), .ref 166], zhp h6)) rfl ?_
    obtain ⟨j7, hj7, H⟩ := zbs H
    refine zRia rfl rfl (by decide) hj7 ?_
    obtain ⟨h8, eh8, H⟩ := zlets H
    refine zEv_w (F := fun z => (98, [some (.ref 166), some (.int x1)], [], zhp z)) (h0 := sI h6 166 14 (gI h6 (166 + 10) j7)) 1 rfl eh8 ?_
    cases H
    exact zEv_r rfl
  · obtain ⟨h6, eh6, H⟩ := zlets H
    refine zEv_w (F := fun z => (88, [some (.ref 198), some (.int x1)], [], zhp z)) (h0 := sI h 198 6 x1) 3 rfl eh6 ?_
    refine zEv_k 2 (f' := (90, [some (.ref 198), some (.int x1)], [.ref 198, .ref 198], zhp h6)) rfl ?_
    refine zRgr rfl rfl rfl (by decide) (b := 198 + 10) rfl ?_
    refine zEv_k 1 (f' := (94, [some (.ref 198), some (.int x1)], [.int x1, .ref (198 + 10), .ref 198], zhp h6)) rfl ?_
    obtain ⟨j7, hj7, H⟩ := zbs H
    refine zRia rfl rfl (by decide) hj7 ?_
    obtain ⟨h8, eh8, H⟩ := zlets H
    refine zEv_w (F := fun z => (98, [some (.ref 198), some (.int x1)], [], zhp z)) (h0 := sI h6 198 14 (gI h6 (198 + 10) j7)) 1 rfl eh8 ?_
    cases H
    exact zEv_r rfl
def qRu_openUp (oo : Nat) (x1 : Int32) (h : zK) : Option (zK) :=
  zlet (sI h oo 2 ((gI h oo 2) ||| ((1 : Int32) <<< (x1 &&& 31)))) fun h1 =>
  if (zf_cin (gI h1 oo 13) x1) = 0 then
    (zix x1 7).bind fun j3 =>
    zlet (sI h1 oo 11 ((gI h1 oo 11) + (gI h1 (oo + 10) j3))) fun h4 =>
    if (gI h4 oo 14) < (gI h4 (oo + 10) j3) then
      qRu_openUp_j83 oo x1 h4
    else
      if ¬ (gI h4 (oo + 10) j3) = (gI h4 oo 14) then
        some h4
      else
        if (gI h4 oo 6) ≤ x1 then
          some h4
        else
          qRu_openUp_j83 oo x1 h4
  else
    zlet (sI h1 oo 8 ((gI h1 oo 8) + 1)) fun h11 =>
    some h11
theorem t_qRu_openUp {Ls : Nat} {xs : Nat → Int32} {d : Nat} {oo : Nat} {x1 : Int32} {h : zK} {p : zK} (ho : oo = 166 ∨ oo = 198) (H : qRu_openUp oo x1 h = some p) : zEv (zXs Ls xs) (d + 1) zm_82 (0, [some (.ref oo), some (.int x1)], [], zhp h) (none, zhp p) := by
  unfold qRu_openUp at H
  rcases ho with rfl | rfl
  · obtain ⟨h1, eh1, H⟩ := zlets H
    refine zEv_w (F := fun z => (12, [some (.ref 166), some (.int x1)], [], zhp z)) (h0 := sI h 166 2 ((gI h 166 2) ||| ((1 : Int32) <<< (x1 &&& 31)))) 8 rfl eh1 ?_
    refine zEv_k 3 (f' := (17, [some (.ref 166), some (.int x1)], [.int x1, .int (gI h1 166 13)], zhp h1)) rfl ?_
    refine zEv_c (fun _ => rfl) rfl ev_zf_cin rfl rfl ?_
    refine zEv_k 1 (f' := (if (zf_cin (gI h1 166 13) x1) = 0 then 34 else 23, [some (.ref 166), some (.int x1)], [], zhp h1)) rfl (zEv_if (fun c2 => ?_) (fun c2 => ?_))
    · replace H := zif_t c2 H
      refine zEv_k 4 (f' := (40, [some (.ref 166), some (.int x1)], [.ref 166, .int (gI h1 166 11), .ref 166], zhp h1)) rfl ?_
      refine zRgr rfl rfl rfl (by decide) (b := 166 + 10) rfl ?_
      refine zEv_k 1 (f' := (44, [some (.ref 166), some (.int x1)], [.int x1, .ref (166 + 10), .int (gI h1 166 11), .ref 166], zhp h1)) rfl ?_
      obtain ⟨j3, hj3, H⟩ := zbs H
      refine zRia rfl rfl (by decide) hj3 ?_
      obtain ⟨h4, eh4, H⟩ := zlets H
      refine zEv_w (F := fun z => (49, [some (.ref 166), some (.int x1)], [], zhp z)) (h0 := sI h1 166 11 ((gI h1 166 11) + (gI h1 (166 + 10) j3))) 2 rfl eh4 ?_
      refine zEv_k 1 (f' := (50, [some (.ref 166), some (.int x1)], [.ref 166], zhp h4)) rfl ?_
      refine zRgr rfl rfl rfl (by decide) (b := 166 + 10) rfl ?_
      refine zEv_k 1 (f' := (54, [some (.ref 166), some (.int x1)], [.int x1, .ref (166 + 10)], zhp h4)) rfl ?_
      refine zRia rfl rfl (by decide) hj3 ?_
      refine zEv_k 3 (f' := (if (gI h4 166 14) < (gI h4 (166 + 10) j3) then 83 else 62, [some (.ref 166), some (.int x1)], [], zhp h4)) rfl (zEv_if (fun c5 => ?_) (fun c5 => ?_))
      · replace H := zif_t c5 H
        exact t_qRu_openUp_j83 (oo := 166) (x1 := x1) (h := h4) (by decide) H
      · replace H := zif_f c5 H
        refine zEv_k 1 (f' := (63, [some (.ref 166), some (.int x1)], [.ref 166], zhp h4)) rfl ?_
        refine zRgr rfl rfl rfl (by decide) (b := 166 + 10) rfl ?_
        refine zEv_k 1 (f' := (67, [some (.ref 166), some (.int x1)], [.int x1, .ref (166 + 10)], zhp h4)) rfl ?_
        refine zRia rfl rfl (by decide) hj3 ?_
        refine zEv_k 3 (f' := (if ¬ (gI h4 (166 + 10) j3) = (gI h4 166 14) then 98 else 75, [some (.ref 166), some (.int x1)], [], zhp h4)) rfl (zEv_if (fun c9 => ?_) (fun c9 => ?_))
        · replace H := zif_t c9 H
          cases H
          exact zEv_r rfl
        · replace H := zif_f c9 H
          refine zEv_k 4 (f' := (if (gI h4 166 6) ≤ x1 then 98 else 83, [some (.ref 166), some (.int x1)], [], zhp h4)) rfl (zEv_if (fun c10 => ?_) (fun c10 => ?_))
          · replace H := zif_t c10 H
            cases H
            exact zEv_r rfl
          · replace H := zif_f c10 H
            exact t_qRu_openUp_j83 (oo := 166) (x1 := x1) (h := h4) (by decide) H
    · replace H := zif_f c2 H
      obtain ⟨h11, eh11, H⟩ := zlets H
      refine zEv_w (F := fun z => (33, [some (.ref 166), some (.int x1)], [], zhp z)) (h0 := sI h1 166 8 ((gI h1 166 8) + 1)) 6 rfl eh11 ?_
      cases H
      exact zEv_r rfl
  · obtain ⟨h1, eh1, H⟩ := zlets H
    refine zEv_w (F := fun z => (12, [some (.ref 198), some (.int x1)], [], zhp z)) (h0 := sI h 198 2 ((gI h 198 2) ||| ((1 : Int32) <<< (x1 &&& 31)))) 8 rfl eh1 ?_
    refine zEv_k 3 (f' := (17, [some (.ref 198), some (.int x1)], [.int x1, .int (gI h1 198 13)], zhp h1)) rfl ?_
    refine zEv_c (fun _ => rfl) rfl ev_zf_cin rfl rfl ?_
    refine zEv_k 1 (f' := (if (zf_cin (gI h1 198 13) x1) = 0 then 34 else 23, [some (.ref 198), some (.int x1)], [], zhp h1)) rfl (zEv_if (fun c2 => ?_) (fun c2 => ?_))
    · replace H := zif_t c2 H
      refine zEv_k 4 (f' := (40, [some (.ref 198), some (.int x1)], [.ref 198, .int (gI h1 198 11), .ref 198], zhp h1)) rfl ?_
      refine zRgr rfl rfl rfl (by decide) (b := 198 + 10) rfl ?_
      refine zEv_k 1 (f' := (44, [some (.ref 198), some (.int x1)], [.int x1, .ref (198 + 10), .int (gI h1 198 11), .ref 198], zhp h1)) rfl ?_
      obtain ⟨j3, hj3, H⟩ := zbs H
      refine zRia rfl rfl (by decide) hj3 ?_
      obtain ⟨h4, eh4, H⟩ := zlets H
      refine zEv_w (F := fun z => (49, [some (.ref 198), some (.int x1)], [], zhp z)) (h0 := sI h1 198 11 ((gI h1 198 11) + (gI h1 (198 + 10) j3))) 2 rfl eh4 ?_
      refine zEv_k 1 (f' := (50, [some (.ref 198), some (.int x1)], [.ref 198], zhp h4)) rfl ?_
      refine zRgr rfl rfl rfl (by decide) (b := 198 + 10) rfl ?_
      refine zEv_k 1 (f' := (54, [some (.ref 198), some (.int x1)], [.int x1, .ref (198 + 10)], zhp h4)) rfl ?_
      refine zRia rfl rfl (by decide) hj3 ?_
      refine zEv_k 3 (f' := (if (gI h4 198 14) < (gI h4 (198 + 10) j3) then 83 else 62, [some (.ref 198), some (.int x1)], [], zhp h4)) rfl (zEv_if (fun c5 => ?_) (fun c5 => ?_))
      · replace H := zif_t c5 H
        exact t_qRu_openUp_j83 (oo := 198) (x1 := x1) (h := h4) (by decide) H
      · replace H := zif_f c5 H
        refine zEv_k 1 (f' := (63, [some (.ref 198), some (.int x1)], [.ref 198], zhp h4)) rfl ?_
        refine zRgr rfl rfl rfl (by decide) (b := 198 + 10) rfl ?_
        refine zEv_k 1 (f' := (67, [some (.ref 198), some (.int x1)], [.int x1, .ref (198 + 10)], zhp h4)) rfl ?_
        refine zRia rfl rfl (by decide) hj3 ?_
        refine zEv_k 3 (f' := (if ¬ (gI h4 (198 + 10) j3) = (gI h4 198 14) then 98 else 75, [some (.ref 198), some (.int x1)], [], zhp h4)) rfl (zEv_if (fun c9 => ?_) (fun c9 => ?_))
        · replace H := zif_t c9 H
          cases H
          exact zEv_r rfl
        · replace H := zif_f c9 H
          refine zEv_k 4 (f' := (if (gI h4 198 6) ≤ x1 then 98 else 83, [some (.ref 198), some (.int x1)], [], zhp h4)) rfl (zEv_if (fun c10 => ?_) (fun c10 => ?_))
          · replace H := zif_t c10 H
            cases H
            exact zEv_r rfl
          · replace H := zif_f c10 H
            exact t_qRu_openUp_j83 (oo := 198) (x1 := x1) (h := h4) (by decide) H
    · replace H := zif_f c2 H
      obtain ⟨h11, eh11, H⟩ := zlets H
      refine zEv_w (F := fun z => (33, [some (.ref 198), some (.int x1)], [], zhp z)) (h0 := sI h1 198 8 ((gI h1 198 8) + 1)) 6 rfl eh11 ?_
      cases H
      exact zEv_r rfl
def qRu_wiredDown (oo : Nat) (x1 : Int32) (h : zK) : Option (Int32 × zK) :=
  if (zf_cin (gI h oo 12) x1) = 0 then
    zlet (sI h oo 12 ((gI h oo 12) ||| ((1 : Int32) <<< (x1 &&& 31)))) fun h2 =>
    (zix x1 7).bind fun j3 =>
    zlet (sI h2 (oo + 12) j3 ((gI h2 (oo + 12) j3) + 5)) fun h4 =>
    some (1, h4)
  else
    some (0, h)
theorem t_qRu_wiredDown {Ls : Nat} {xs : Nat → Int32} {d : Nat} {oo : Nat} {x1 : Int32} {h : zK} {p : Int32 × zK} (ho : oo = 166 ∨ oo = 198) (H : qRu_wiredDown oo x1 h = some p) : zEv (zXs Ls xs) (d + 1) zm_83 (0, [some (.ref oo), some (.int x1)], [], zhp h) (some (.int p.1), zhp p.2) := by
  unfold qRu_wiredDown at H
  rcases ho with rfl | rfl
  · refine zEv_k 3 (f' := (5, [some (.ref 166), some (.int x1)], [.int x1, .int (gI h 166 12)], zhp h)) rfl ?_
    refine zEv_c (fun _ => rfl) rfl ev_zf_cin rfl rfl ?_
    refine zEv_k 1 (f' := (if (zf_cin (gI h 166 12) x1) = 0 then 13 else 11, [some (.ref 166), some (.int x1)], [], zhp h)) rfl (zEv_if (fun c1 => ?_) (fun c1 => ?_))
    · replace H := zif_t c1 H
      obtain ⟨h2, eh2, H⟩ := zlets H
      refine zEv_w (F := fun z => (25, [some (.ref 166), some (.int x1)], [], zhp z)) (h0 := sI h 166 12 ((gI h 166 12) ||| ((1 : Int32) <<< (x1 &&& 31)))) 8 rfl eh2 ?_
      refine zEv_k 1 (f' := (26, [some (.ref 166), some (.int x1)], [.ref 166], zhp h2)) rfl ?_
      refine zRgr rfl rfl rfl (by decide) (b := 166 + 12) rfl ?_
      refine zEv_k 2 (f' := (31, [some (.ref 166), some (.int x1)], [.int x1, .ref (166 + 12), .int x1, .ref (166 + 12)], zhp h2)) rfl ?_
      obtain ⟨j3, hj3, H⟩ := zbs H
      refine zRia rfl rfl (by decide) hj3 ?_
      refine zEv_k 2 (f' := (34, [some (.ref 166), some (.int x1)], [.int ((gI h2 (166 + 12) j3) + 5), .int x1, .ref (166 + 12)], zhp h2)) rfl ?_
      obtain ⟨h4, eh4, H⟩ := zlets H
      refine zRis rfl rfl (by decide) hj3 eh4 ?_
      refine zEv_k 1 (f' := (36, [some (.ref 166), some (.int x1)], [.int 1], zhp h4)) rfl ?_
      cases H
      exact zEv_r rfl
    · replace H := zif_f c1 H
      refine zEv_k 1 (f' := (12, [some (.ref 166), some (.int x1)], [.int 0], zhp h)) rfl ?_
      cases H
      exact zEv_r rfl
  · refine zEv_k 3 (f' := (5, [some (.ref 198), some (.int x1)], [.int x1, .int (gI h 198 12)], zhp h)) rfl ?_
    refine zEv_c (fun _ => rfl) rfl ev_zf_cin rfl rfl ?_
    refine zEv_k 1 (f' := (if (zf_cin (gI h 198 12) x1) = 0 then 13 else 11, [some (.ref 198), some (.int x1)], [], zhp h)) rfl (zEv_if (fun c1 => ?_) (fun c1 => ?_))
    · replace H := zif_t c1 H
      obtain ⟨h2, eh2, H⟩ := zlets H
      refine zEv_w (F := fun z => (25, [some (.ref 198), some (.int x1)], [], zhp z)) (h0 := sI h 198 12 ((gI h 198 12) ||| ((1 : Int32) <<< (x1 &&& 31)))) 8 rfl eh2 ?_
      refine zEv_k 1 (f' := (26, [some (.ref 198), some (.int x1)], [.ref 198], zhp h2)) rfl ?_
      refine zRgr rfl rfl rfl (by decide) (b := 198 + 12) rfl ?_
      refine zEv_k 2 (f' := (31, [some (.ref 198), some (.int x1)], [.int x1, .ref (198 + 12), .int x1, .ref (198 + 12)], zhp h2)) rfl ?_
      obtain ⟨j3, hj3, H⟩ := zbs H
      refine zRia rfl rfl (by decide) hj3 ?_
      refine zEv_k 2 (f' := (34, [some (.ref 198), some (.int x1)], [.int ((gI h2 (198 + 12) j3) + 5), .int x1, .ref (198 + 12)], zhp h2)) rfl ?_
      obtain ⟨h4, eh4, H⟩ := zlets H
      refine zRis rfl rfl (by decide) hj3 eh4 ?_
      refine zEv_k 1 (f' := (36, [some (.ref 198), some (.int x1)], [.int 1], zhp h4)) rfl ?_
      cases H
      exact zEv_r rfl
    · replace H := zif_f c1 H
      refine zEv_k 1 (f' := (12, [some (.ref 198), some (.int x1)], [.int 0], zhp h)) rfl ?_
      cases H
      exact zEv_r rfl
def qRu_becameTainted (oo : Nat) (x1 : Int32) (h : zK) : Option (Int32 × zK) :=
  if (zf_cin (gI h oo 13) x1) = 0 then
    zlet (sI h oo 13 ((gI h oo 13) ||| ((1 : Int32) <<< (x1 &&& 31)))) fun h2 =>
    some (1, h2)
  else
    some (0, h)
theorem t_qRu_becameTainted {Ls : Nat} {xs : Nat → Int32} {d : Nat} {oo : Nat} {x1 : Int32} {h : zK} {p : Int32 × zK} (ho : oo = 166 ∨ oo = 198) (H : qRu_becameTainted oo x1 h = some p) : zEv (zXs Ls xs) (d + 1) zm_84 (0, [some (.ref oo), some (.int x1)], [], zhp h) (some (.int p.1), zhp p.2) := by
  unfold qRu_becameTainted at H
  rcases ho with rfl | rfl
  · refine zEv_k 3 (f' := (5, [some (.ref 166), some (.int x1)], [.int x1, .int (gI h 166 13)], zhp h)) rfl ?_
    refine zEv_c (fun _ => rfl) rfl ev_zf_cin rfl rfl ?_
    refine zEv_k 1 (f' := (if (zf_cin (gI h 166 13) x1) = 0 then 13 else 11, [some (.ref 166), some (.int x1)], [], zhp h)) rfl (zEv_if (fun c1 => ?_) (fun c1 => ?_))
    · replace H := zif_t c1 H
      obtain ⟨h2, eh2, H⟩ := zlets H
      refine zEv_w (F := fun z => (25, [some (.ref 166), some (.int x1)], [], zhp z)) (h0 := sI h 166 13 ((gI h 166 13) ||| ((1 : Int32) <<< (x1 &&& 31)))) 8 rfl eh2 ?_
      refine zEv_k 1 (f' := (26, [some (.ref 166), some (.int x1)], [.int 1], zhp h2)) rfl ?_
      cases H
      exact zEv_r rfl
    · replace H := zif_f c1 H
      refine zEv_k 1 (f' := (12, [some (.ref 166), some (.int x1)], [.int 0], zhp h)) rfl ?_
      cases H
      exact zEv_r rfl
  · refine zEv_k 3 (f' := (5, [some (.ref 198), some (.int x1)], [.int x1, .int (gI h 198 13)], zhp h)) rfl ?_
    refine zEv_c (fun _ => rfl) rfl ev_zf_cin rfl rfl ?_
    refine zEv_k 1 (f' := (if (zf_cin (gI h 198 13) x1) = 0 then 13 else 11, [some (.ref 198), some (.int x1)], [], zhp h)) rfl (zEv_if (fun c1 => ?_) (fun c1 => ?_))
    · replace H := zif_t c1 H
      obtain ⟨h2, eh2, H⟩ := zlets H
      refine zEv_w (F := fun z => (25, [some (.ref 198), some (.int x1)], [], zhp z)) (h0 := sI h 198 13 ((gI h 198 13) ||| ((1 : Int32) <<< (x1 &&& 31)))) 8 rfl eh2 ?_
      refine zEv_k 1 (f' := (26, [some (.ref 198), some (.int x1)], [.int 1], zhp h2)) rfl ?_
      cases H
      exact zEv_r rfl
    · replace H := zif_f c1 H
      refine zEv_k 1 (f' := (12, [some (.ref 198), some (.int x1)], [.int 0], zhp h)) rfl ?_
      cases H
      exact zEv_r rfl
def qRu_movedTo (oo : Nat) (x1 : Int32) (x2 : Int32) (h : zK) : Option (Int32 × zK) :=
  (zix x1 7).bind fun j1 =>
  if ¬ (gI h (oo + 13) j1) = x2 then
    zlet (sI h (oo + 13) j1 x2) fun h3 =>
    zlet (sI h3 oo 9 ((gI h3 oo 9) + 1)) fun h4 =>
    some (1, h4)
  else
    some (0, h)
theorem t_qRu_movedTo {Ls : Nat} {xs : Nat → Int32} {d : Nat} {oo : Nat} {x1 : Int32} {x2 : Int32} {h : zK} {p : Int32 × zK} (ho : oo = 166 ∨ oo = 198) (H : qRu_movedTo oo x1 x2 h = some p) : zEv (zXs Ls xs) d zm_85 (0, [some (.ref oo), some (.int x1), some (.int x2)], [], zhp h) (some (.int p.1), zhp p.2) := by
  unfold qRu_movedTo at H
  rcases ho with rfl | rfl
  · refine zEv_k 1 (f' := (1, [some (.ref 166), some (.int x1), some (.int x2)], [.ref 166], zhp h)) rfl ?_
    refine zRgr rfl rfl rfl (by decide) (b := 166 + 13) rfl ?_
    refine zEv_k 1 (f' := (5, [some (.ref 166), some (.int x1), some (.int x2)], [.int x1, .ref (166 + 13)], zhp h)) rfl ?_
    obtain ⟨j1, hj1, H⟩ := zbs H
    refine zRia rfl rfl (by decide) hj1 ?_
    refine zEv_k 2 (f' := (if ¬ (gI h (166 + 13) j1) = x2 then 12 else 10, [some (.ref 166), some (.int x1), some (.int x2)], [], zhp h)) rfl (zEv_if (fun c2 => ?_) (fun c2 => ?_))
    · replace H := zif_t c2 H
      refine zEv_k 1 (f' := (13, [some (.ref 166), some (.int x1), some (.int x2)], [.ref 166], zhp h)) rfl ?_
      refine zRgr rfl rfl rfl (by decide) (b := 166 + 13) rfl ?_
      refine zEv_k 2 (f' := (18, [some (.ref 166), some (.int x1), some (.int x2)], [.int x2, .int x1, .ref (166 + 13)], zhp h)) rfl ?_
      obtain ⟨h3, eh3, H⟩ := zlets H
      refine zRis rfl rfl (by decide) hj1 eh3 ?_
      obtain ⟨h4, eh4, H⟩ := zlets H
      refine zEv_w (F := fun z => (29, [some (.ref 166), some (.int x1), some (.int x2)], [], zhp z)) (h0 := sI h3 166 9 ((gI h3 166 9) + 1)) 6 rfl eh4 ?_
      refine zEv_k 1 (f' := (30, [some (.ref 166), some (.int x1), some (.int x2)], [.int 1], zhp h4)) rfl ?_
      cases H
      exact zEv_r rfl
    · replace H := zif_f c2 H
      refine zEv_k 1 (f' := (11, [some (.ref 166), some (.int x1), some (.int x2)], [.int 0], zhp h)) rfl ?_
      cases H
      exact zEv_r rfl
  · refine zEv_k 1 (f' := (1, [some (.ref 198), some (.int x1), some (.int x2)], [.ref 198], zhp h)) rfl ?_
    refine zRgr rfl rfl rfl (by decide) (b := 198 + 13) rfl ?_
    refine zEv_k 1 (f' := (5, [some (.ref 198), some (.int x1), some (.int x2)], [.int x1, .ref (198 + 13)], zhp h)) rfl ?_
    obtain ⟨j1, hj1, H⟩ := zbs H
    refine zRia rfl rfl (by decide) hj1 ?_
    refine zEv_k 2 (f' := (if ¬ (gI h (198 + 13) j1) = x2 then 12 else 10, [some (.ref 198), some (.int x1), some (.int x2)], [], zhp h)) rfl (zEv_if (fun c2 => ?_) (fun c2 => ?_))
    · replace H := zif_t c2 H
      refine zEv_k 1 (f' := (13, [some (.ref 198), some (.int x1), some (.int x2)], [.ref 198], zhp h)) rfl ?_
      refine zRgr rfl rfl rfl (by decide) (b := 198 + 13) rfl ?_
      refine zEv_k 2 (f' := (18, [some (.ref 198), some (.int x1), some (.int x2)], [.int x2, .int x1, .ref (198 + 13)], zhp h)) rfl ?_
      obtain ⟨h3, eh3, H⟩ := zlets H
      refine zRis rfl rfl (by decide) hj1 eh3 ?_
      obtain ⟨h4, eh4, H⟩ := zlets H
      refine zEv_w (F := fun z => (29, [some (.ref 198), some (.int x1), some (.int x2)], [], zhp z)) (h0 := sI h3 198 9 ((gI h3 198 9) + 1)) 6 rfl eh4 ?_
      refine zEv_k 1 (f' := (30, [some (.ref 198), some (.int x1), some (.int x2)], [.int 1], zhp h4)) rfl ?_
      cases H
      exact zEv_r rfl
    · replace H := zif_f c2 H
      refine zEv_k 1 (f' := (11, [some (.ref 198), some (.int x1), some (.int x2)], [.int 0], zhp h)) rfl ?_
      cases H
      exact zEv_r rfl
def qRu_did (oo : Nat) (x1 : Int32) (x2 : Int32) (x3 : Int32) (h : zK) : Option (Int32 × zK) :=
  if ¬ x1 = 0 then
    zlet (gR h oo) fun a2 =>
    if a2 = 7 ∨ a2 = 22 then
      if (qCe_has a2 x2 h) = 0 then
        some (0, h)
      else
        if (zf_cin (gI h oo 2) x2) = 0 then
          if x1 = 1 then
            (qRu_openUp oo x2 h).bind fun p6 =>
            some (1, p6)
          else if x1 = 2 then
            (qRu_wiredDown oo x2 h).bind fun p7 =>
            if zbool p7.1 = true then
              some (p7.1, p7.2)
            else none
          else if x1 = 3 then
            (qRu_becameTainted oo x2 h).bind fun p9 =>
            if zbool p9.1 = true then
              some (p9.1, p9.2)
            else none
          else if x1 = 4 then
            (qRu_movedTo oo x2 x3 h).bind fun p11 =>
            if zbool p11.1 = true then
              some (p11.1, p11.2)
            else none
          else
            some (0, h)
        else
          some (0, h)
    else none
  else
    (qRu_passedYear oo h).bind fun p13 =>
    if zbool p13.1 = true then
      some (p13.1, p13.2)
    else none
theorem t_qRu_did {Ls : Nat} {xs : Nat → Int32} {d : Nat} {oo : Nat} {x1 : Int32} {x2 : Int32} {x3 : Int32} {h : zK} {p : Int32 × zK} (ho : oo = 166 ∨ oo = 198) (H : qRu_did oo x1 x2 x3 h = some p) : zEv (zXs Ls xs) (d + 3) zm_73 (0, [some (.ref oo), some (.int x1), some (.int x2), some (.int x3)], [], zhp h) (some (.int p.1), zhp p.2) := by
  unfold qRu_did at H
  rcases ho with rfl | rfl
  · refine zEv_k 2 (f' := (if ¬ x1 = 0 then 9 else 4, [some (.ref 166), some (.int x1), some (.int x2), some (.int x3)], [], zhp h)) rfl (zEv_if (fun c1 => ?_) (fun c1 => ?_))
    · replace H := zif_t c1 H
      refine zEv_k 1 (f' := (10, [some (.ref 166), some (.int x1), some (.int x2), some (.int x3)], [.ref 166], zhp h)) rfl ?_
      refine zRgc (by decide) rfl rfl rfl (by decide) ?_
      refine zEv_k 1 (f' := (14, [some (.ref 166), some (.int x1), some (.int x2), some (.int x3)], [.int x2, .ref (gR h 166)], zhp h)) rfl ?_
      obtain ⟨a2, ea2, H⟩ := zlets H
      rw [ea2]
      obtain ⟨c3, H⟩ := zifn H
      rcases c3 with rfl | rfl
      · refine zEv_c (fun _ => rfl) rfl (t_qCe_has (oo := 7) (x1 := x2) (h := h) (d := d + 2) (by decide) rfl) rfl rfl ?_
        refine zEv_k 1 (f' := (if (qCe_has 7 x2 h) = 0 then 31 else 20, [some (.ref 166), some (.int x1), some (.int x2), some (.int x3)], [], zhp h)) rfl (zEv_if (fun c4 => ?_) (fun c4 => ?_))
        · replace H := zif_t c4 H
          refine zEv_k 1 (f' := (32, [some (.ref 166), some (.int x1), some (.int x2), some (.int x3)], [.int 0], zhp h)) rfl ?_
          cases H
          exact zEv_r rfl
        · replace H := zif_f c4 H
          refine zEv_k 3 (f' := (25, [some (.ref 166), some (.int x1), some (.int x2), some (.int x3)], [.int x2, .int (gI h 166 2)], zhp h)) rfl ?_
          refine zEv_c (fun _ => rfl) rfl ev_zf_cin rfl rfl ?_
          refine zEv_k 1 (f' := (if (zf_cin (gI h 166 2) x2) = 0 then 33 else 31, [some (.ref 166), some (.int x1), some (.int x2), some (.int x3)], [], zhp h)) rfl (zEv_if (fun c5 => ?_) (fun c5 => ?_))
          · replace H := zif_t c5 H
            refine zEv_k 1 (f' := (34, [some (.ref 166), some (.int x1), some (.int x2), some (.int x3)], [.int x1], zhp h)) rfl ?_
            refine zEv_ts rfl (by decide) (by decide) (by decide) (fun hh => ?_) (fun j hj hh => ?_)
            · replace H := zif_f (fun e => (by rw [e] at hh; exact absurd hh (by decide))) H
              replace H := zif_f (fun e => (by rw [e] at hh; exact absurd hh (by decide))) H
              replace H := zif_f (fun e => (by rw [e] at hh; exact absurd hh (by decide))) H
              replace H := zif_f (fun e => (by rw [e] at hh; exact absurd hh (by decide))) H
              refine zEv_k 1 (f' := (91, [some (.ref 166), some (.int x1), some (.int x2), some (.int x3)], [.int 0], zhp h)) rfl ?_
              cases H
              exact zEv_r rfl
            · rcases (by have hj2 : j < 4 := hj; omega : j = 0 ∨ j = 1 ∨ j = 2 ∨ j = 3) with rfl | rfl | rfl | rfl
              · have ex : x1 = 1 := zeqI hh (by decide)
                replace H := zif_t ex H
                refine zEv_k 2 (f' := (66, [some (.ref 166), some (.int x1), some (.int x2), some (.int x3)], [.int x2, .ref 166], zhp h)) rfl ?_
                obtain ⟨p6, hp6, H⟩ := zbs H
                refine zEv_c (fun _ => rfl) rfl (t_qRu_openUp (oo := 166) (x1 := x2) (h := h) (d := d + 1) (by decide) hp6) rfl rfl ?_
                refine zEv_k 1 (f' := (70, [some (.ref 166), some (.int x1), some (.int x2), some (.int x3)], [.int 1], zhp p6)) rfl ?_
                cases H
                exact zEv_r rfl
              · have ex : x1 = 2 := zeqI hh (by decide)
                replace H := zif_f (fun e => by rw [ex] at e; exact absurd e (by decide)) H
                replace H := zif_t ex H
                refine zEv_k 2 (f' := (73, [some (.ref 166), some (.int x1), some (.int x2), some (.int x3)], [.int x2, .ref 166], zhp h)) rfl ?_
                obtain ⟨p7, hp7, H⟩ := zbs H
                refine zEv_c (fun _ => rfl) rfl (t_qRu_wiredDown (oo := 166) (x1 := x2) (h := h) (d := d + 1) (by decide) hp7) rfl rfl ?_
                obtain ⟨c8, H⟩ := zifn H
                cases H
                exact zEv_rz rfl rfl c8
              · have ex : x1 = 3 := zeqI hh (by decide)
                replace H := zif_f (fun e => by rw [ex] at e; exact absurd e (by decide)) H
                replace H := zif_f (fun e => by rw [ex] at e; exact absurd e (by decide)) H
                replace H := zif_t ex H
                refine zEv_k 2 (f' := (79, [some (.ref 166), some (.int x1), some (.int x2), some (.int x3)], [.int x2, .ref 166], zhp h)) rfl ?_
                obtain ⟨p9, hp9, H⟩ := zbs H
                refine zEv_c (fun _ => rfl) rfl (t_qRu_becameTainted (oo := 166) (x1 := x2) (h := h) (d := d + 1) (by decide) hp9) rfl rfl ?_
                obtain ⟨c10, H⟩ := zifn H
                cases H
                exact zEv_rz rfl rfl c10
              · have ex : x1 = 4 := zeqI hh (by decide)
                replace H := zif_f (fun e => by rw [ex] at e; exact absurd e (by decide)) H
                replace H := zif_f (fun e => by rw [ex] at e; exact absurd e (by decide)) H
                replace H := zif_f (fun e => by rw [ex] at e; exact absurd e (by decide)) H
                replace H := zif_t ex H
                refine zEv_k 3 (f' := (86, [some (.ref 166), some (.int x1), some (.int x2), some (.int x3)], [.int x3, .int x2, .ref 166], zhp h)) rfl ?_
                obtain ⟨p11, hp11, H⟩ := zbs H
                refine zEv_c (fun _ => rfl) rfl (t_qRu_movedTo (oo := 166) (x1 := x2) (x2 := x3) (h := h) (d := d + 2) (by decide) hp11) rfl rfl ?_
                obtain ⟨c12, H⟩ := zifn H
                cases H
                exact zEv_rz rfl rfl c12
          · replace H := zif_f c5 H
            refine zEv_k 1 (f' := (32, [some (.ref 166), some (.int x1), some (.int x2), some (.int x3)], [.int 0], zhp h)) rfl ?_
            cases H
            exact zEv_r rfl
      · refine zEv_c (fun _ => rfl) rfl (t_qCe_has (oo := 22) (x1 := x2) (h := h) (d := d + 2) (by decide) rfl) rfl rfl ?_
        refine zEv_k 1 (f' := (if (qCe_has 22 x2 h) = 0 then 31 else 20, [some (.ref 166), some (.int x1), some (.int x2), some (.int x3)], [], zhp h)) rfl (zEv_if (fun c4 => ?_) (fun c4 => ?_))
        · replace H := zif_t c4 H
          refine zEv_k 1 (f' := (32, [some (.ref 166), some (.int x1), some (.int x2), some (.int x3)], [.int 0], zhp h)) rfl ?_
          cases H
          exact zEv_r rfl
        · replace H := zif_f c4 H
          refine zEv_k 3 (f' := (25, [some (.ref 166), some (.int x1), some (.int x2), some (.int x3)], [.int x2, .int (gI h 166 2)], zhp h)) rfl ?_
          refine zEv_c (fun _ => rfl) rfl ev_zf_cin rfl rfl ?_
          refine zEv_k 1 (f' := (if (zf_cin (gI h 166 2) x2) = 0 then 33 else 31, [some (.ref 166), some (.int x1), some (.int x2), some (.int x3)], [], zhp h)) rfl (zEv_if (fun c5 => ?_) (fun c5 => ?_))
          · replace H := zif_t c5 H
            refine zEv_k 1 (f' := (34, [some (.ref 166), some (.int x1), some (.int x2), some (.int x3)], [.int x1], zhp h)) rfl ?_
            refine zEv_ts rfl (by decide) (by decide) (by decide) (fun hh => ?_) (fun j hj hh => ?_)
            · replace H := zif_f (fun e => (by rw [e] at hh; exact absurd hh (by decide))) H
              replace H := zif_f (fun e => (by rw [e] at hh; exact absurd hh (by decide))) H
              replace H := zif_f (fun e => (by rw [e] at hh; exact absurd hh (by decide))) H
              replace H := zif_f (fun e => (by rw [e] at hh; exact absurd hh (by decide))) H
              refine zEv_k 1 (f' := (91, [some (.ref 166), some (.int x1), some (.int x2), some (.int x3)], [.int 0], zhp h)) rfl ?_
              cases H
              exact zEv_r rfl
            · rcases (by have hj2 : j < 4 := hj; omega : j = 0 ∨ j = 1 ∨ j = 2 ∨ j = 3) with rfl | rfl | rfl | rfl
              · have ex : x1 = 1 := zeqI hh (by decide)
                replace H := zif_t ex H
                refine zEv_k 2 (f' := (66, [some (.ref 166), some (.int x1), some (.int x2), some (.int x3)], [.int x2, .ref 166], zhp h)) rfl ?_
                obtain ⟨p6, hp6, H⟩ := zbs H
                refine zEv_c (fun _ => rfl) rfl (t_qRu_openUp (oo := 166) (x1 := x2) (h := h) (d := d + 1) (by decide) hp6) rfl rfl ?_
                refine zEv_k 1 (f' := (70, [some (.ref 166), some (.int x1), some (.int x2), some (.int x3)], [.int 1], zhp p6)) rfl ?_
                cases H
                exact zEv_r rfl
              · have ex : x1 = 2 := zeqI hh (by decide)
                replace H := zif_f (fun e => by rw [ex] at e; exact absurd e (by decide)) H
                replace H := zif_t ex H
                refine zEv_k 2 (f' := (73, [some (.ref 166), some (.int x1), some (.int x2), some (.int x3)], [.int x2, .ref 166], zhp h)) rfl ?_
                obtain ⟨p7, hp7, H⟩ := zbs H
                refine zEv_c (fun _ => rfl) rfl (t_qRu_wiredDown (oo := 166) (x1 := x2) (h := h) (d := d + 1) (by decide) hp7) rfl rfl ?_
                obtain ⟨c8, H⟩ := zifn H
                cases H
                exact zEv_rz rfl rfl c8
              · have ex : x1 = 3 := zeqI hh (by decide)
                replace H := zif_f (fun e => by rw [ex] at e; exact absurd e (by decide)) H
                replace H := zif_f (fun e => by rw [ex] at e; exact absurd e (by decide)) H
                replace H := zif_t ex H
                refine zEv_k 2 (f' := (79, [some (.ref 166), some (.int x1), some (.int x2), some (.int x3)], [.int x2, .ref 166], zhp h)) rfl ?_
                obtain ⟨p9, hp9, H⟩ := zbs H
                refine zEv_c (fun _ => rfl) rfl (t_qRu_becameTainted (oo := 166) (x1 := x2) (h := h) (d := d + 1) (by decide) hp9) rfl rfl ?_
                obtain ⟨c10, H⟩ := zifn H
                cases H
                exact zEv_rz rfl rfl c10
              · have ex : x1 = 4 := zeqI hh (by decide)
                replace H := zif_f (fun e => by rw [ex] at e; exact absurd e (by decide)) H
                replace H := zif_f (fun e => by rw [ex] at e; exact absurd e (by decide)) H
                replace H := zif_f (fun e => by rw [ex] at e; exact absurd e (by decide)) H
                replace H := zif_t ex H
                refine zEv_k 3 (f' := (86, [some (.ref 166), some (.int x1), some (.int x2), some (.int x3)], [.int x3, .int x2, .ref 166], zhp h)) rfl ?_
                obtain ⟨p11, hp11, H⟩ := zbs H
                refine zEv_c (fun _ => rfl) rfl (t_qRu_movedTo (oo := 166) (x1 := x2) (x2 := x3) (h := h) (d := d + 2) (by decide) hp11) rfl rfl ?_
                obtain ⟨c12, H⟩ := zifn H
                cases H
                exact zEv_rz rfl rfl c12
          · replace H := zif_f c5 H
            refine zEv_k 1 (f' := (32, [some (.ref 166), some (.int x1), some (.int x2), some (.int x3)], [.int 0], zhp h)) rfl ?_
            cases H
            exact zEv_r rfl
    · replace H := zif_f c1 H
      refine zEv_k 1 (f' := (5, [some (.ref 166), some (.int x1), some (.int x2), some (.int x3)], [.ref 166], zhp h)) rfl ?_
      obtain ⟨p13, hp13, H⟩ := zbs H
      refine zEv_c (fun _ => rfl) rfl (t_qRu_passedYear (oo := 166) (h := h) (d := d) (by decide) hp13) rfl rfl ?_
      obtain ⟨c14, H⟩ := zifn H
      cases H
      exact zEv_rz rfl rfl c14
  · refine zEv_k 2 (f' := (if ¬ x1 = 0 then 9 else 4, [some (.ref 198), some (.int x1), some (.int x2), some (.int x3)], [], zhp h)) rfl (zEv_if (fun c1 => ?_) (fun c1 => ?_))
    · replace H := zif_t c1 H
      refine zEv_k 1 (f' := (10, [some (.ref 198), some (.int x1), some (.int x2), some (.int x3)], [.ref 198], zhp h)) rfl ?_
      refine zRgc (by decide) rfl rfl rfl (by decide) ?_
      refine zEv_k 1 (f' := (14, [some (.ref 198), some (.int x1), some (.int x2), some (.int x3)], [.int x2, .ref (gR h 198)], zhp h)) rfl ?_
      obtain ⟨a2, ea2, H⟩ := zlets H
      rw [ea2]
      obtain ⟨c3, H⟩ := zifn H
      rcases c3 with rfl | rfl
      · refine zEv_c (fun _ => rfl) rfl (t_qCe_has (oo := 7) (x1 := x2) (h := h) (d := d + 2) (by decide) rfl) rfl rfl ?_
        refine zEv_k 1 (f' := (if (qCe_has 7 x2 h) = 0 then 31 else 20, [some (.ref 198), some (.int x1), some (.int x2), some (.int x3)], [], zhp h)) rfl (zEv_if (fun c4 => ?_) (fun c4 => ?_))
        · replace H := zif_t c4 H
          refine zEv_k 1 (f' := (32, [some (.ref 198), some (.int x1), some (.int x2), some (.int x3)], [.int 0], zhp h)) rfl ?_
          cases H
          exact zEv_r rfl
        · replace H := zif_f c4 H
          refine zEv_k 3 (f' := (25, [some (.ref 198), some (.int x1), some (.int x2), some (.int x3)], [.int x2, .int (gI h 198 2)], zhp h)) rfl ?_
          refine zEv_c (fun _ => rfl) rfl ev_zf_cin rfl rfl ?_
          refine zEv_k 1 (f' := (if (zf_cin (gI h 198 2) x2) = 0 then 33 else 31, [some (.ref 198), some (.int x1), some (.int x2), some (.int x3)], [], zhp h)) rfl (zEv_if (fun c5 => ?_) (fun c5 => ?_))
          · replace H := zif_t c5 H
            refine zEv_k 1 (f' := (34, [some (.ref 198), some (.int x1), some (.int x2), some (.int x3)], [.int x1], zhp h)) rfl ?_
            refine zEv_ts rfl (by decide) (by decide) (by decide) (fun hh => ?_) (fun j hj hh => ?_)
            · replace H := zif_f (fun e => (by rw [e] at hh; exact absurd hh (by decide))) H
              replace H := zif_f (fun e => (by rw [e] at hh; exact absurd hh (by decide))) H
              replace H := zif_f (fun e => (by rw [e] at hh; exact absurd hh (by decide))) H
              replace H := zif_f (fun e => (by rw [e] at hh; exact absurd hh (by decide))) H
              refine zEv_k 1 (f' := (91, [some (.ref 198), some (.int x1), some (.int x2), some (.int x3)], [.int 0], zhp h)) rfl ?_
              cases H
              exact zEv_r rfl
            · rcases (by have hj2 : j < 4 := hj; omega : j = 0 ∨ j = 1 ∨ j = 2 ∨ j = 3) with rfl | rfl | rfl | rfl
              · have ex : x1 = 1 := zeqI hh (by decide)
                replace H := zif_t ex H
                refine zEv_k 2 (f' := (66, [some (.ref 198), some (.int x1), some (.int x2), some (.int x3)], [.int x2, .ref 198], zhp h)) rfl ?_
                obtain ⟨p6, hp6, H⟩ := zbs H
                refine zEv_c (fun _ => rfl) rfl (t_qRu_openUp (oo := 198) (x1 := x2) (h := h) (d := d + 1) (by decide) hp6) rfl rfl ?_
                refine zEv_k 1 (f' := (70, [some (.ref 198), some (.int x1), some (.int x2), some (.int x3)], [.int 1], zhp p6)) rfl ?_
                cases H
                exact zEv_r rfl
              · have ex : x1 = 2 := zeqI hh (by decide)
                replace H := zif_f (fun e => by rw [ex] at e; exact absurd e (by decide)) H
                replace H := zif_t ex H
                refine zEv_k 2 (f' := (73, [some (.ref 198), some (.int x1), some (.int x2), some (.int x3)], [.int x2, .ref 198], zhp h)) rfl ?_
                obtain ⟨p7, hp7, H⟩ := zbs H
                refine zEv_c (fun _ => rfl) rfl (t_qRu_wiredDown (oo := 198) (x1 := x2) (h := h) (d := d + 1) (by decide) hp7) rfl rfl ?_
                obtain ⟨c8, H⟩ := zifn H
                cases H
                exact zEv_rz rfl rfl c8
              · have ex : x1 = 3 := zeqI hh (by decide)
                replace H := zif_f (fun e => by rw [ex] at e; exact absurd e (by decide)) H
                replace H := zif_f (fun e => by rw [ex] at e; exact absurd e (by decide)) H
                replace H := zif_t ex H
                refine zEv_k 2 (f' := (79, [some (.ref 198), some (.int x1), some (.int x2), some (.int x3)], [.int x2, .ref 198], zhp h)) rfl ?_
                obtain ⟨p9, hp9, H⟩ := zbs H
                refine zEv_c (fun _ => rfl) rfl (t_qRu_becameTainted (oo := 198) (x1 := x2) (h := h) (d := d + 1) (by decide) hp9) rfl rfl ?_
                obtain ⟨c10, H⟩ := zifn H
                cases H
                exact zEv_rz rfl rfl c10
              · have ex : x1 = 4 := zeqI hh (by decide)
                replace H := zif_f (fun e => by rw [ex] at e; exact absurd e (by decide)) H
                replace H := zif_f (fun e => by rw [ex] at e; exact absurd e (by decide)) H
                replace H := zif_f (fun e => by rw [ex] at e; exact absurd e (by decide)) H
                replace H := zif_t ex H
                refine zEv_k 3 (f' := (86, [some (.ref 198), some (.int x1), some (.int x2), some (.int x3)], [.int x3, .int x2, .ref 198], zhp h)) rfl ?_
                obtain ⟨p11, hp11, H⟩ := zbs H
                refine zEv_c (fun _ => rfl) rfl (t_qRu_movedTo (oo := 198) (x1 := x2) (x2 := x3) (h := h) (d := d + 2) (by decide) hp11) rfl rfl ?_
                obtain ⟨c12, H⟩ := zifn H
                cases H
                exact zEv_rz rfl rfl c12
          · replace H := zif_f c5 H
            refine zEv_k 1 (f' := (32, [some (.ref 198), some (.int x1), some (.int x2), some (.int x3)], [.int 0], zhp h)) rfl ?_
            cases H
            exact zEv_r rfl
      · refine zEv_c (fun _ => rfl) rfl (t_qCe_has (oo := 22) (x1 := x2) (h := h) (d := d + 2) (by decide) rfl) rfl rfl ?_
        refine zEv_k 1 (f' := (if (qCe_has 22 x2 h) = 0 then 31 else 20, [some (.ref 198), some (.int x1), some (.int x2), some (.int x3)], [], zhp h)) rfl (zEv_if (fun c4 => ?_) (fun c4 => ?_))
        · replace H := zif_t c4 H
          refine zEv_k 1 (f' := (32, [some (.ref 198), some (.int x1), some (.int x2), some (.int x3)], [.int 0], zhp h)) rfl ?_
          cases H
          exact zEv_r rfl
        · replace H := zif_f c4 H
          refine zEv_k 3 (f' := (25, [some (.ref 198), some (.int x1), some (.int x2), some (.int x3)], [.int x2, .int (gI h 198 2)], zhp h)) rfl ?_
          refine zEv_c (fun _ => rfl) rfl ev_zf_cin rfl rfl ?_
          refine zEv_k 1 (f' := (if (zf_cin (gI h 198 2) x2) = 0 then 33 else 31, [some (.ref 198), some (.int x1), some (.int x2), some (.int x3)], [], zhp h)) rfl (zEv_if (fun c5 => ?_) (fun c5 => ?_))
          · replace H := zif_t c5 H
            refine zEv_k 1 (f' := (34, [some (.ref 198), some (.int x1), some (.int x2), some (.int x3)], [.int x1], zhp h)) rfl ?_
            refine zEv_ts rfl (by decide) (by decide) (by decide) (fun hh => ?_) (fun j hj hh => ?_)
            · replace H := zif_f (fun e => (by rw [e] at hh; exact absurd hh (by decide))) H
              replace H := zif_f (fun e => (by rw [e] at hh; exact absurd hh (by decide))) H
              replace H := zif_f (fun e => (by rw [e] at hh; exact absurd hh (by decide))) H
              replace H := zif_f (fun e => (by rw [e] at hh; exact absurd hh (by decide))) H
              refine zEv_k 1 (f' := (91, [some (.ref 198), some (.int x1), some (.int x2), some (.int x3)], [.int 0], zhp h)) rfl ?_
              cases H
              exact zEv_r rfl
            · rcases (by have hj2 : j < 4 := hj; omega : j = 0 ∨ j = 1 ∨ j = 2 ∨ j = 3) with rfl | rfl | rfl | rfl
              · have ex : x1 = 1 := zeqI hh (by decide)
                replace H := zif_t ex H
                refine zEv_k 2 (f' := (66, [some (.ref 198), some (.int x1), some (.int x2), some (.int x3)], [.int x2, .ref 198], zhp h)) rfl ?_
                obtain ⟨p6, hp6, H⟩ := zbs H
                refine zEv_c (fun _ => rfl) rfl (t_qRu_openUp (oo := 198) (x1 := x2) (h := h) (d := d + 1) (by decide) hp6) rfl rfl ?_
                refine zEv_k 1 (f' := (70, [some (.ref 198), some (.int x1), some (.int x2), some (.int x3)], [.int 1], zhp p6)) rfl ?_
                cases H
                exact zEv_r rfl
              · have ex : x1 = 2 := zeqI hh (by decide)
                replace H := zif_f (fun e => by rw [ex] at e; exact absurd e (by decide)) H
                replace H := zif_t ex H
                refine zEv_k 2 (f' := (73, [some (.ref 198), some (.int x1), some (.int x2), some (.int x3)], [.int x2, .ref 198], zhp h)) rfl ?_
                obtain ⟨p7, hp7, H⟩ := zbs H
                refine zEv_c (fun _ => rfl) rfl (t_qRu_wiredDown (oo := 198) (x1 := x2) (h := h) (d := d + 1) (by decide) hp7) rfl rfl ?_
                obtain ⟨c8, H⟩ := zifn H
                cases H
                exact zEv_rz rfl rfl c8
              · have ex : x1 = 3 := zeqI hh (by decide)
                replace H := zif_f (fun e => by rw [ex] at e; exact absurd e (by decide)) H
                replace H := zif_f (fun e => by rw [ex] at e; exact absurd e (by decide)) H
                replace H := zif_t ex H
                refine zEv_k 2 (f' := (79, [some (.ref 198), some (.int x1), some (.int x2), some (.int x3)], [.int x2, .ref 198], zhp h)) rfl ?_
                obtain ⟨p9, hp9, H⟩ := zbs H
                refine zEv_c (fun _ => rfl) rfl (t_qRu_becameTainted (oo := 198) (x1 := x2) (h := h) (d := d + 1) (by decide) hp9) rfl rfl ?_
                obtain ⟨c10, H⟩ := zifn H
                cases H
                exact zEv_rz rfl rfl c10
              · have ex : x1 = 4 := zeqI hh (by decide)
                replace H := zif_f (fun e => by rw [ex] at e; exact absurd e (by decide)) H
                replace H := zif_f (fun e => by rw [ex] at e; exact absurd e (by decide)) H
                replace H := zif_f (fun e => by rw [ex] at e; exact absurd e (by decide)) H
                replace H := zif_t ex H
                refine zEv_k 3 (f' := (86, [some (.ref 198), some (.int x1), some (.int x2), some (.int x3)], [.int x3, .int x2, .ref 198], zhp h)) rfl ?_
                obtain ⟨p11, hp11, H⟩ := zbs H
                refine zEv_c (fun _ => rfl) rfl (t_qRu_movedTo (oo := 198) (x1 := x2) (x2 := x3) (h := h) (d := d + 2) (by decide) hp11) rfl rfl ?_
                obtain ⟨c12, H⟩ := zifn H
                cases H
                exact zEv_rz rfl rfl c12
          · replace H := zif_f c5 H
            refine zEv_k 1 (f' := (32, [some (.ref 198), some (.int x1), some (.int x2), some (.int x3)], [.int 0], zhp h)) rfl ?_
            cases H
            exact zEv_r rfl
    · replace H := zif_f c1 H
      refine zEv_k 1 (f' := (5, [some (.ref 198), some (.int x1), some (.int x2), some (.int x3)], [.ref 198], zhp h)) rfl ?_
      obtain ⟨p13, hp13, H⟩ := zbs H
      refine zEv_c (fun _ => rfl) rfl (t_qRu_passedYear (oo := 198) (h := h) (d := d) (by decide) hp13) rfl rfl ?_
      obtain ⟨c14, H⟩ := zifn H
      cases H
      exact zEv_rz rfl rfl c14
def qRu_follow_b2 (oe : Nat) (oo : Nat) (x2 : Int32) (s : Int32 × zK) : Option ((Int32 × zK) ⊕ ((zK) ⊕ (Int32 × zK))) :=
  if x2 ≤ s.1 then
    some (.inr (.inl s.2))
  else
    if (gI s.2 oe 0) ≤ s.1 then
      some (.inr (.inl s.2))
    else
      (zix s.1 40).bind fun j3 =>
      (qRu_did oo (gI s.2 (oe + 1) j3) (gI s.2 (oe + 2) j3) (gI s.2 (oe + 3) j3) s.2).bind fun p4 =>
      if ¬ p4.1 = 0 then
        some (.inl (s.1 + 1, p4.2))
      else
        some (.inr (.inr (s.1, p4.2)))
theorem t_qRu_follow_b2b {Ls : Nat} {xs : Nat → Int32} {d : Nat} {oe : Nat} {oo : Nat} {x2 : Int32} {r : zA} {s : Int32 × zK} {e : (Int32 × zK) ⊕ ((zK) ⊕ (Int32 × zK))} (ho : (oe = 15 ∧ oo = 166) ∨ (oe = 30 ∧ oo = 166) ∨ (oe = 15 ∧ oo = 198) ∨ (oe = 30 ∧ oo = 198)) (H : qRu_follow_b2 oe oo x2 s = some e) (K : match (generalizing := false) e with | .inl s' => zEv (zXs Ls xs) (d + 4) zm_72 (2, [some (.ref oo), some (.ref oe), some (.int x2), some (.int s'.1)], [], zhp s'.2) r | .inr (.inl v) => ∀ (z3 : Option Value), zEv (zXs Ls xs) (d + 4) zm_72 (48, [some (.ref oo), some (.ref oe), some (.int x2), z3], [], zhp v) r | .inr (.inr p) => (some (.int p.1), zhp p.2) = r) : zEv (zXs Ls xs) (d + 4) zm_72 (2, [some (.ref oo), some (.ref oe), some (.int x2), some (.int s.1)], [], zhp s.2) r := by
  unfold qRu_follow_b2 at H
  rcases ho with ⟨rfl, rfl⟩ | ⟨rfl, rfl⟩ | ⟨rfl, rfl⟩ | ⟨rfl, rfl⟩
  · refine zEv_k 3 (f' := (if x2 ≤ s.1 then 48 else 7, [some (.ref 166), some (.ref 15), some (.int x2), some (.int s.1)], [], zhp s.2)) rfl (zEv_if (fun c1 => ?_) (fun c1 => ?_))
    · replace H := zif_t c1 H
      cases H
      exact K _
    · replace H := zif_f c1 H
      refine zEv_k 4 (f' := (if (gI s.2 15 0) ≤ s.1 then 48 else 15, [some (.ref 166), some (.ref 15), some (.int x2), some (.int s.1)], [], zhp s.2)) rfl (zEv_if (fun c2 => ?_) (fun c2 => ?_))
      · replace H := zif_t c2 H
        cases H
        exact K _
      · replace H := zif_f c2 H
        refine zEv_k 2 (f' := (17, [some (.ref 166), some (.ref 15), some (.int x2), some (.int s.1)], [.ref 15, .ref 166], zhp s.2)) rfl ?_
        refine zRgr rfl rfl rfl (by decide) (b := 15 + 1) rfl ?_
        refine zEv_k 1 (f' := (21, [some (.ref 166), some (.ref 15), some (.int x2), some (.int s.1)], [.int s.1, .ref (15 + 1), .ref 166], zhp s.2)) rfl ?_
        obtain ⟨j3, hj3, H⟩ := zbs H
        refine zRia rfl rfl (by decide) hj3 ?_
        refine zEv_k 1 (f' := (23, [some (.ref 166), some (.ref 15), some (.int x2), some (.int s.1)], [.ref 15, .int (gI s.2 (15 + 1) j3), .ref 166], zhp s.2)) rfl ?_
        refine zRgr rfl rfl rfl (by decide) (b := 15 + 2) rfl ?_
        refine zEv_k 1 (f' := (27, [some (.ref 166), some (.ref 15), some (.int x2), some (.int s.1)], [.int s.1, .ref (15 + 2), .int (gI s.2 (15 + 1) j3), .ref 166], zhp s.2)) rfl ?_
        refine zRia rfl rfl (by decide) hj3 ?_
        refine zEv_k 1 (f' := (29, [some (.ref 166), some (.ref 15), some (.int x2), some (.int s.1)], [.ref 15, .int (gI s.2 (15 + 2) j3), .int (gI s.2 (15 + 1) j3), .ref 166], zhp s.2)) rfl ?_
        refine zRgr rfl rfl rfl (by decide) (b := 15 + 3) rfl ?_
        refine zEv_k 1 (f' := (33, [some (.ref 166), some (.ref 15), some (.int x2), some (.int s.1)], [.int s.1, .ref (15 + 3), .int (gI s.2 (15 + 2) j3), .int (gI s.2 (15 + 1) j3), .ref 166], zhp s.2)) rfl ?_
        refine zRia rfl rfl (by decide) hj3 ?_
        obtain ⟨p4, hp4, H⟩ := zbs H
        refine zEv_c (fun _ => rfl) rfl (t_qRu_did (oo := 166) (x1 := gI s.2 (15 + 1) j3) (x2 := gI s.2 (15 + 2) j3) (x3 := gI s.2 (15 + 3) j3) (h := s.2) (d := d) (by decide) hp4) rfl rfl ?_
        refine zEv_k 1 (f' := (if ¬ p4.1 = 0 then 42 else 40, [some (.ref 166), some (.ref 15), some (.int x2), some (.int s.1)], [], zhp p4.2)) rfl (zEv_if (fun c5 => ?_) (fun c5 => ?_))
        · replace H := zif_t c5 H
          refine zEv_k 2 (f' := (2, [some (.ref 166), some (.ref 15), some (.int x2), some (.int (s.1 + 1))], [], zhp p4.2)) rfl ?_
          cases H
          exact K
        · replace H := zif_f c5 H
          refine zEv_k 1 (f' := (41, [some (.ref 166), some (.ref 15), some (.int x2), some (.int s.1)], [.int s.1], zhp p4.2)) rfl ?_
          cases H
          exact zEv_re K rfl
  · refine zEv_k 3 (f' := (if x2 ≤ s.1 then 48 else 7, [some (.ref 166), some (.ref 30), some (.int x2), some (.int s.1)], [], zhp s.2)) rfl (zEv_if (fun c1 => ?_) (fun c1 => ?_))
    · replace H := zif_t c1 H
      cases H
      exact K _
    · replace H := zif_f c1 H
      refine zEv_k 4 (f' := (if (gI s.2 30 0) ≤ s.1 then 48 else 15, [some (.ref 166), some (.ref 30), some (.int x2), some (.int s.1)], [], zhp s.2)) rfl (zEv_if (fun c2 => ?_) (fun c2 => ?_))
      · replace H := zif_t c2 H
        cases H
        exact K _
      · replace H := zif_f c2 H
        refine zEv_k 2 (f' := (17, [some (.ref 166), some (.ref 30), some (.int x2), some (.int s.1)], [.ref 30, .ref 166], zhp s.2)) rfl ?_
        refine zRgr rfl rfl rfl (by decide) (b := 30 + 1) rfl ?_
        refine zEv_k 1 (f' := (21, [some (.ref 166), some (.ref 30), some (.int x2), some (.int s.1)], [.int s.1, .ref (30 + 1), .ref 166], zhp s.2)) rfl ?_
        obtain ⟨j3, hj3, H⟩ := zbs H
        refine zRia rfl rfl (by decide) hj3 ?_
        refine zEv_k 1 (f' := (23, [some (.ref 166), some (.ref 30), some (.int x2), some (.int s.1)], [.ref 30, .int (gI s.2 (30 + 1) j3), .ref 166], zhp s.2)) rfl ?_
        refine zRgr rfl rfl rfl (by decide) (b := 30 + 2) rfl ?_
        refine zEv_k 1 (f' := (27, [some (.ref 166), some (.ref 30), some (.int x2), some (.int s.1)], [.int s.1, .ref (30 + 2), .int (gI s.2 (30 + 1) j3), .ref 166], zhp s.2)) rfl ?_
        refine zRia rfl rfl (by decide) hj3 ?_
        refine zEv_k 1 (f' := (29, [some (.ref 166), some (.ref 30), some (.int x2), some (.int s.1)], [.ref 30, .int (gI s.2 (30 + 2) j3), .int (gI s.2 (30 + 1) j3), .ref 166], zhp s.2)) rfl ?_
        refine zRgr rfl rfl rfl (by decide) (b := 30 + 3) rfl ?_
        refine zEv_k 1 (f' := (33, [some (.ref 166), some (.ref 30), some (.int x2), some (.int s.1)], [.int s.1, .ref (30 + 3), .int (gI s.2 (30 + 2) j3), .int (gI s.2 (30 + 1) j3), .ref 166], zhp s.2)) rfl ?_
        refine zRia rfl rfl (by decide) hj3 ?_
        obtain ⟨p4, hp4, H⟩ := zbs H
        refine zEv_c (fun _ => rfl) rfl (t_qRu_did (oo := 166) (x1 := gI s.2 (30 + 1) j3) (x2 := gI s.2 (30 + 2) j3) (x3 := gI s.2 (30 + 3) j3) (h := s.2) (d := d) (by decide) hp4) rfl rfl ?_
        refine zEv_k 1 (f' := (if ¬ p4.1 = 0 then 42 else 40, [some (.ref 166), some (.ref 30), some (.int x2), some (.int s.1)], [], zhp p4.2)) rfl (zEv_if (fun c5 => ?_) (fun c5 => ?_))
        · replace H := zif_t c5 H
          refine zEv_k 2 (f' := (2, [some (.ref 166), some (.ref 30), some (.int x2), some (.int (s.1 + 1))], [], zhp p4.2)) rfl ?_
          cases H
          exact K
        · replace H := zif_f c5 H
          refine zEv_k 1 (f' := (41, [some (.ref 166), some (.ref 30), some (.int x2), some (.int s.1)], [.int s.1], zhp p4.2)) rfl ?_
          cases H
          exact zEv_re K rfl
  · refine zEv_k 3 (f' := (if x2 ≤ s.1 then 48 else 7, [some (.ref 198), some (.ref 15), some (.int x2), some (.int s.1)], [], zhp s.2)) rfl (zEv_if (fun c1 => ?_) (fun c1 => ?_))
    · replace H := zif_t c1 H
      cases H
      exact K _
    · replace H := zif_f c1 H
      refine zEv_k 4 (f' := (if (gI s.2 15 0) ≤ s.1 then 48 else 15, [some (.ref 198), some (.ref 15), some (.int x2), some (.int s.1)], [], zhp s.2)) rfl (zEv_if (fun c2 => ?_) (fun c2 => ?_))
      · replace H := zif_t c2 H
        cases H
        exact K _
      · replace H := zif_f c2 H
        refine zEv_k 2 (f' := (17, [some (.ref 198), some (.ref 15), some (.int x2), some (.int s.1)], [.ref 15, .ref 198], zhp s.2)) rfl ?_
        refine zRgr rfl rfl rfl (by decide) (b := 15 + 1) rfl ?_
        refine zEv_k 1 (f' := (21, [some (.ref 198), some (.ref 15), some (.int x2), some (.int s.1)], [.int s.1, .ref (15 + 1), .ref 198], zhp s.2)) rfl ?_
        obtain ⟨j3, hj3, H⟩ := zbs H
        refine zRia rfl rfl (by decide) hj3 ?_
        refine zEv_k 1 (f' := (23, [some (.ref 198), some (.ref 15), some (.int x2), some (.int s.1)], [.ref 15, .int (gI s.2 (15 + 1) j3), .ref 198], zhp s.2)) rfl ?_
        refine zRgr rfl rfl rfl (by decide) (b := 15 + 2) rfl ?_
        refine zEv_k 1 (f' := (27, [some (.ref 198), some (.ref 15), some (.int x2), some (.int s.1)], [.int s.1, .ref (15 + 2), .int (gI s.2 (15 + 1) j3), .ref 198], zhp s.2)) rfl ?_
        refine zRia rfl rfl (by decide) hj3 ?_
        refine zEv_k 1 (f' := (29, [some (.ref 198), some (.ref 15), some (.int x2), some (.int s.1)], [.ref 15, .int (gI s.2 (15 + 2) j3), .int (gI s.2 (15 + 1) j3), .ref 198], zhp s.2)) rfl ?_
        refine zRgr rfl rfl rfl (by decide) (b := 15 + 3) rfl ?_
        refine zEv_k 1 (f' := (33, [some (.ref 198), some (.ref 15), some (.int x2), some (.int s.1)], [.int s.1, .ref (15 + 3), .int (gI s.2 (15 + 2) j3), .int (gI s.2 (15 + 1) j3), .ref 198], zhp s.2)) rfl ?_
        refine zRia rfl rfl (by decide) hj3 ?_
        obtain ⟨p4, hp4, H⟩ := zbs H
        refine zEv_c (fun _ => rfl) rfl (t_qRu_did (oo := 198) (x1 := gI s.2 (15 + 1) j3) (x2 := gI s.2 (15 + 2) j3) (x3 := gI s.2 (15 + 3) j3) (h := s.2) (d := d) (by decide) hp4) rfl rfl ?_
        refine zEv_k 1 (f' := (if ¬ p4.1 = 0 then 42 else 40, [some (.ref 198), some (.ref 15), some (.int x2), some (.int s.1)], [], zhp p4.2)) rfl (zEv_if (fun c5 => ?_) (fun c5 => ?_))
        · replace H := zif_t c5 H
          refine zEv_k 2 (f' := (2, [some (.ref 198), some (.ref 15), some (.int x2), some (.int (s.1 + 1))], [], zhp p4.2)) rfl ?_
          cases H
          exact K
        · replace H := zif_f c5 H
          refine zEv_k 1 (f' := (41, [some (.ref 198), some (.ref 15), some (.int x2), some (.int s.1)], [.int s.1], zhp p4.2)) rfl ?_
          cases H
          exact zEv_re K rfl
  · refine zEv_k 3 (f' := (if x2 ≤ s.1 then 48 else 7, [some (.ref 198), some (.ref 30), some (.int x2), some (.int s.1)], [], zhp s.2)) rfl (zEv_if (fun c1 => ?_) (fun c1 => ?_))
    · replace H := zif_t c1 H
      cases H
      exact K _
    · replace H := zif_f c1 H
      refine zEv_k 4 (f' := (if (gI s.2 30 0) ≤ s.1 then 48 else 15, [some (.ref 198), some (.ref 30), some (.int x2), some (.int s.1)], [], zhp s.2)) rfl (zEv_if (fun c2 => ?_) (fun c2 => ?_))
      · replace H := zif_t c2 H
        cases H
        exact K _
      · replace H := zif_f c2 H
        refine zEv_k 2 (f' := (17, [some (.ref 198), some (.ref 30), some (.int x2), some (.int s.1)], [.ref 30, .ref 198], zhp s.2)) rfl ?_
        refine zRgr rfl rfl rfl (by decide) (b := 30 + 1) rfl ?_
        refine zEv_k 1 (f' := (21, [some (.ref 198), some (.ref 30), some (.int x2), some (.int s.1)], [.int s.1, .ref (30 + 1), .ref 198], zhp s.2)) rfl ?_
        obtain ⟨j3, hj3, H⟩ := zbs H
        refine zRia rfl rfl (by decide) hj3 ?_
        refine zEv_k 1 (f' := (23, [some (.ref 198), some (.ref 30), some (.int x2), some (.int s.1)], [.ref 30, .int (gI s.2 (30 + 1) j3), .ref 198], zhp s.2)) rfl ?_
        refine zRgr rfl rfl rfl (by decide) (b := 30 + 2) rfl ?_
        refine zEv_k 1 (f' := (27, [some (.ref 198), some (.ref 30), some (.int x2), some (.int s.1)], [.int s.1, .ref (30 + 2), .int (gI s.2 (30 + 1) j3), .ref 198], zhp s.2)) rfl ?_
        refine zRia rfl rfl (by decide) hj3 ?_
        refine zEv_k 1 (f' := (29, [some (.ref 198), some (.ref 30), some (.int x2), some (.int s.1)], [.ref 30, .int (gI s.2 (30 + 2) j3), .int (gI s.2 (30 + 1) j3), .ref 198], zhp s.2)) rfl ?_
        refine zRgr rfl rfl rfl (by decide) (b := 30 + 3) rfl ?_
        refine zEv_k 1 (f' := (33, [some (.ref 198), some (.ref 30), some (.int x2), some (.int s.1)], [.int s.1, .ref (30 + 3), .int (gI s.2 (30 + 2) j3), .int (gI s.2 (30 + 1) j3), .ref 198], zhp s.2)) rfl ?_
        refine zRia rfl rfl (by decide) hj3 ?_
        obtain ⟨p4, hp4, H⟩ := zbs H
        refine zEv_c (fun _ => rfl) rfl (t_qRu_did (oo := 198) (x1 := gI s.2 (30 + 1) j3) (x2 := gI s.2 (30 + 2) j3) (x3 := gI s.2 (30 + 3) j3) (h := s.2) (d := d) (by decide) hp4) rfl rfl ?_
        refine zEv_k 1 (f' := (if ¬ p4.1 = 0 then 42 else 40, [some (.ref 198), some (.ref 30), some (.int x2), some (.int s.1)], [], zhp p4.2)) rfl (zEv_if (fun c5 => ?_) (fun c5 => ?_))
        · replace H := zif_t c5 H
          refine zEv_k 2 (f' := (2, [some (.ref 198), some (.ref 30), some (.int x2), some (.int (s.1 + 1))], [], zhp p4.2)) rfl ?_
          cases H
          exact K
        · replace H := zif_f c5 H
          refine zEv_k 1 (f' := (41, [some (.ref 198), some (.ref 30), some (.int x2), some (.int s.1)], [.int s.1], zhp p4.2)) rfl ?_
          cases H
          exact zEv_re K rfl
theorem t_qRu_follow_b2 {Ls : Nat} {xs : Nat → Int32} {d : Nat} {oe : Nat} {oo : Nat} {x2 : Int32} {r : zA} (ho : (oe = 15 ∧ oo = 166) ∨ (oe = 30 ∧ oo = 166) ∨ (oe = 15 ∧ oo = 198) ∨ (oe = 30 ∧ oo = 198)) {t : (zK) ⊕ (Int32 × zK)} (K : (match (generalizing := false) t with | .inl v => ∀ (z3 : Option Value), zEv (zXs Ls xs) (d + 4) zm_72 (48, [some (.ref oo), some (.ref oe), some (.int x2), z3], [], zhp v) r | .inr p => (some (.int p.1), zhp p.2) = r)) (n : Nat) (s : Int32 × zK) (H : zloop (qRu_follow_b2 oe oo x2) n s = some t) : zEv (zXs Ls xs) (d + 4) zm_72 (2, [some (.ref oo), some (.ref oe), some (.int x2), some (.int s.1)], [], zhp s.2) r := by
  have Z := zloop_P (P := fun s => zEv (zXs Ls xs) (d + 4) zm_72 (2, [some (.ref oo), some (.ref oe), some (.int x2), some (.int s.1)], [], zhp s.2) r) (b := qRu_follow_b2 oe oo x2) (t := t) (fun s s2 hb hk => by exact t_qRu_follow_b2b ho hb hk) (fun s hb => by rcases t with v | p <;> (exact t_qRu_follow_b2b ho hb K)) n s H
  exact Z
def qRu_follow (oo : Nat) (oe : Nat) (x2 : Int32) (h : zK) : Option (Int32 × zK) :=
  (zloop (qRu_follow_b2 oe oo x2) zfu (0, h)).bind fun t6 => match t6 with
  | .inr p => some p
  | .inl v7 =>
    some (zf_min x2 (gI v7 oe 0), v7)
theorem t_qRu_follow {Ls : Nat} {xs : Nat → Int32} {d : Nat} {oo : Nat} {oe : Nat} {x2 : Int32} {h : zK} {p : Int32 × zK} (ho : (oe = 15 ∧ oo = 166) ∨ (oe = 30 ∧ oo = 166) ∨ (oe = 15 ∧ oo = 198) ∨ (oe = 30 ∧ oo = 198)) (H : qRu_follow oo oe x2 h = some p) : zEv (zXs Ls xs) (d + 4) zm_72 (0, [some (.ref oo), some (.ref oe), some (.int x2), none], [], zhp h) (some (.int p.1), zhp p.2) := by
  unfold qRu_follow at H
  rcases ho with ⟨rfl, rfl⟩ | ⟨rfl, rfl⟩ | ⟨rfl, rfl⟩ | ⟨rfl, rfl⟩
  · refine zEv_k 2 (f' := (2, [some (.ref 166), some (.ref 15), some (.int x2), some (.int 0)], [], zhp h)) rfl ?_
    obtain ⟨t6, ht6, H⟩ := zbs H
    refine t_qRu_follow_b2 (oe := 15) (oo := 166) (x2 := x2) (by decide) ?_ zfu _ ht6
    rcases t6 with v7 | p
    · intro y3
      dsimp only at H
      refine zEv_k 4 (f' := (56, [some (.ref 166), some (.ref 15), some (.int x2), y3], [.int (zf_min x2 (gI v7 15 0))], zhp v7)) rfl ?_
      cases H
      exact zEv_r rfl
    · cases H
      exact rfl
  · refine zEv_k 2 (f' := (2, [some (.ref 166), some (.ref 30), some (.int x2), some (.int 0)], [], zhp h)) rfl ?_
    obtain ⟨t6, ht6, H⟩ := zbs H
    refine t_qRu_follow_b2 (oe := 30) (oo := 166) (x2 := x2) (by decide) ?_ zfu _ ht6
    rcases t6 with v7 | p
    · intro y3
      dsimp only at H
      refine zEv_k 4 (f' := (56, [some (.ref 166), some (.ref 30), some (.int x2), y3], [.int (zf_min x2 (gI v7 30 0))], zhp v7)) rfl ?_
      cases H
      exact zEv_r rfl
    · cases H
      exact rfl
  · refine zEv_k 2 (f' := (2, [some (.ref 198), some (.ref 15), some (.int x2), some (.int 0)], [], zhp h)) rfl ?_
    obtain ⟨t6, ht6, H⟩ := zbs H
    refine t_qRu_follow_b2 (oe := 15) (oo := 198) (x2 := x2) (by decide) ?_ zfu _ ht6
    rcases t6 with v7 | p
    · intro y3
      dsimp only at H
      refine zEv_k 4 (f' := (56, [some (.ref 198), some (.ref 15), some (.int x2), y3], [.int (zf_min x2 (gI v7 15 0))], zhp v7)) rfl ?_
      cases H
      exact zEv_r rfl
    · cases H
      exact rfl
  · refine zEv_k 2 (f' := (2, [some (.ref 198), some (.ref 30), some (.int x2), some (.int 0)], [], zhp h)) rfl ?_
    obtain ⟨t6, ht6, H⟩ := zbs H
    refine t_qRu_follow_b2 (oe := 30) (oo := 198) (x2 := x2) (by decide) ?_ zfu _ ht6
    rcases t6 with v7 | p
    · intro y3
      dsimp only at H
      refine zEv_k 4 (f' := (56, [some (.ref 198), some (.ref 30), some (.int x2), y3], [.int (zf_min x2 (gI v7 30 0))], zhp v7)) rfl ?_
      cases H
      exact zEv_r rfl
    · cases H
      exact rfl
def qRu_below (oo : Nat) (x1 : Int32) (h : zK) : Option (Int32 × zK) :=
  zlet (sI h oo 15 (((gI h oo 15) * 1103515245) + 12345)) fun h1 =>
  if x1 ≤ 0 then
    some (0, h1)
  else
    if ¬ x1 = 0 then
      some (((Int32.toUInt32 (gI h1 oo 15) >>> (Int32.toUInt32 16 &&& Int32.toUInt32 31)).toInt32) - ((Int32.toUInt32 (gI h1 oo 15) >>> (Int32.toUInt32 16 &&& Int32.toUInt32 31)).toInt32) / x1 * x1, h1)
    else none
theorem t_qRu_below {Ls : Nat} {xs : Nat → Int32} {d : Nat} {oo : Nat} {x1 : Int32} {h : zK} {p : Int32 × zK} (ho : oo = 166 ∨ oo = 198) (H : qRu_below oo x1 h = some p) : zEv (zXs Ls xs) d zm_86 (0, [some (.ref oo), some (.int x1)], [], zhp h) (some (.int p.1), zhp p.2) := by
  unfold qRu_below at H
  rcases ho with rfl | rfl
  · obtain ⟨h1, eh1, H⟩ := zlets H
    refine zEv_w (F := fun z => (15, [some (.ref 166), some (.int x1)], [], zhp z)) (h0 := sI h 166 15 (((gI h 166 15) * 1103515245) + 12345)) 8 rfl eh1 ?_
    refine zEv_k 2 (f' := (if x1 ≤ 0 then 31 else 19, [some (.ref 166), some (.int x1)], [], zhp h1)) rfl (zEv_if (fun c2 => ?_) (fun c2 => ?_))
    · replace H := zif_t c2 H
      refine zEv_k 1 (f' := (32, [some (.ref 166), some (.int x1)], [.int 0], zhp h1)) rfl ?_
      cases H
      exact zEv_r rfl
    · replace H := zif_f c2 H
      refine zEv_k 5 (f' := (27, [some (.ref 166), some (.int x1)], [.int x1, .int ((Int32.toUInt32 (gI h1 166 15) >>> (Int32.toUInt32 16 &&& Int32.toUInt32 31)).toInt32)], zhp h1)) rfl ?_
      obtain ⟨c3, H⟩ := zifn H
      refine zEv_rem rfl c3 ?_
      refine zEv_k 1 (f' := (32, [some (.ref 166), some (.int x1)], [.int (((Int32.toUInt32 (gI h1 166 15) >>> (Int32.toUInt32 16 &&& Int32.toUInt32 31)).toInt32) - ((Int32.toUInt32 (gI h1 166 15) >>> (Int32.toUInt32 16 &&& Int32.toUInt32 31)).toInt32) / x1 * x1)], zhp h1)) rfl ?_
      cases H
      exact zEv_r rfl
  · obtain ⟨h1, eh1, H⟩ := zlets H
    refine zEv_w (F := fun z => (15, [some (.ref 198), some (.int x1)], [], zhp z)) (h0 := sI h 198 15 (((gI h 198 15) * 1103515245) + 12345)) 8 rfl eh1 ?_
    refine zEv_k 2 (f' := (if x1 ≤ 0 then 31 else 19, [some (.ref 198), some (.int x1)], [], zhp h1)) rfl (zEv_if (fun c2 => ?_) (fun c2 => ?_))
    · replace H := zif_t c2 H
      refine zEv_k 1 (f' := (32, [some (.ref 198), some (.int x1)], [.int 0], zhp h1)) rfl ?_
      cases H
      exact zEv_r rfl
    · replace H := zif_f c2 H
      refine zEv_k 5 (f' := (27, [some (.ref 198), some (.int x1)], [.int x1, .int ((Int32.toUInt32 (gI h1 198 15) >>> (Int32.toUInt32 16 &&& Int32.toUInt32 31)).toInt32)], zhp h1)) rfl ?_
      obtain ⟨c3, H⟩ := zifn H
      refine zEv_rem rfl c3 ?_
      refine zEv_k 1 (f' := (32, [some (.ref 198), some (.int x1)], [.int (((Int32.toUInt32 (gI h1 198 15) >>> (Int32.toUInt32 16 &&& Int32.toUInt32 31)).toInt32) - ((Int32.toUInt32 (gI h1 198 15) >>> (Int32.toUInt32 16 &&& Int32.toUInt32 31)).toInt32) / x1 * x1)], zhp h1)) rfl ?_
      cases H
      exact zEv_r rfl
