def qC_deed_j33 (v2 : Nat) (x2 : Int32) (x3 : Int32) (h : zK) : Option (Int32) :=
  if x2 < 0 then
    some (-2)
  else
    if x2 < (gI h v2 0) then
      if x3 = 0 then
        (zix x2 40).bind fun j7 =>
        some (gI h (v2 + 1) j7)
      else if x3 = 1 then
        (zix x2 40).bind fun j8 =>
        some (gI h (v2 + 2) j8)
      else if x3 = 2 then
        (zix x2 40).bind fun j9 =>
        some (gI h (v2 + 3) j9)
      else
        some (-2)
    else
      some (-2)
theorem t_qC_deed_j33 {Ls : Nat} {xs : Nat → Int32} {d : Nat} {v2 : Nat} {x2 : Int32} {x3 : Int32} {h : zK} {p : Int32} (ho : v2 = 15 ∨ v2 = 30) (H : qC_deed_j33 v2 x2 x3 h = some p)  (y1 : Option Value) : zEv (zXs Ls xs) (d + 1) zm_117 (33, [some (.ref 0), y1, some (.int x2), some (.int x3), some (.ref v2)], [], zhp h) (some (.int p), zhp h) := by
  unfold qC_deed_j33 at H
  rcases ho with rfl | rfl
  · refine zEv_k 2 (f' := (if x2 < 0 then 46 else 37, [some (.ref 0), y1, some (.int x2), some (.int x3), some (.ref 15)], [], zhp h)) rfl (zEv_if (fun c5 => ?_) (fun c5 => ?_))
    · replace H := zif_t c5 H
      refine zEv_k 1 (f' := (48, [some (.ref 0), y1, some (.int x2), some (.int x3), some (.ref 15)], [.int (-2)], zhp h)) rfl ?_
      cases H
      exact zEv_r rfl
    · replace H := zif_f c5 H
      refine zEv_k 4 (f' := (if x2 < (gI h 15 0) then 49 else 46, [some (.ref 0), y1, some (.int x2), some (.int x3), some (.ref 15)], [], zhp h)) rfl (zEv_if (fun c6 => ?_) (fun c6 => ?_))
      · replace H := zif_t c6 H
        refine zEv_k 1 (f' := (50, [some (.ref 0), y1, some (.int x2), some (.int x3), some (.ref 15)], [.int x3], zhp h)) rfl ?_
        refine zEv_ts rfl (by decide) (by decide) (by decide) (fun hh => ?_) (fun j hj hh => ?_)
        · replace H := zif_f (fun e => (by rw [e] at hh; exact absurd hh (by decide))) H
          replace H := zif_f (fun e => (by rw [e] at hh; exact absurd hh (by decide))) H
          replace H := zif_f (fun e => (by rw [e] at hh; exact absurd hh (by decide))) H
          refine zEv_k 1 (f' := (102, [some (.ref 0), y1, some (.int x2), some (.int x3), some (.ref 15)], [.int (-2)], zhp h)) rfl ?_
          cases H
          exact zEv_r rfl
        · rcases (by have hj2 : j < 3 := hj; omega : j = 0 ∨ j = 1 ∨ j = 2) with rfl | rfl | rfl
          · have ex : x3 = 0 := zeqI hh (by decide)
            replace H := zif_t ex H
            refine zEv_k 1 (f' := (78, [some (.ref 0), y1, some (.int x2), some (.int x3), some (.ref 15)], [.ref 15], zhp h)) rfl ?_
            refine zRgr rfl rfl rfl (by decide) (b := 15 + 1) rfl ?_
            refine zEv_k 1 (f' := (82, [some (.ref 0), y1, some (.int x2), some (.int x3), some (.ref 15)], [.int x2, .ref (15 + 1)], zhp h)) rfl ?_
            obtain ⟨j7, hj7, H⟩ := zbs H
            refine zRia rfl rfl (by decide) hj7 ?_
            cases H
            exact zEv_r rfl
          · have ex : x3 = 1 := zeqI hh (by decide)
            replace H := zif_f (fun e => by rw [ex] at e; exact absurd e (by decide)) H
            replace H := zif_t ex H
            refine zEv_k 1 (f' := (86, [some (.ref 0), y1, some (.int x2), some (.int x3), some (.ref 15)], [.ref 15], zhp h)) rfl ?_
            refine zRgr rfl rfl rfl (by decide) (b := 15 + 2) rfl ?_
            refine zEv_k 1 (f' := (90, [some (.ref 0), y1, some (.int x2), some (.int x3), some (.ref 15)], [.int x2, .ref (15 + 2)], zhp h)) rfl ?_
            obtain ⟨j8, hj8, H⟩ := zbs H
            refine zRia rfl rfl (by decide) hj8 ?_
            cases H
            exact zEv_r rfl
          · have ex : x3 = 2 := zeqI hh (by decide)
            replace H := zif_f (fun e => by rw [ex] at e; exact absurd e (by decide)) H
            replace H := zif_f (fun e => by rw [ex] at e; exact absurd e (by decide)) H
            replace H := zif_t ex H
            refine zEv_k 1 (f' := (94, [some (.ref 0), y1, some (.int x2), some (.int x3), some (.ref 15)], [.ref 15], zhp h)) rfl ?_
            refine zRgr rfl rfl rfl (by decide) (b := 15 + 3) rfl ?_
            refine zEv_k 1 (f' := (98, [some (.ref 0), y1, some (.int x2), some (.int x3), some (.ref 15)], [.int x2, .ref (15 + 3)], zhp h)) rfl ?_
            obtain ⟨j9, hj9, H⟩ := zbs H
            refine zRia rfl rfl (by decide) hj9 ?_
            cases H
            exact zEv_r rfl
      · replace H := zif_f c6 H
        refine zEv_k 1 (f' := (48, [some (.ref 0), y1, some (.int x2), some (.int x3), some (.ref 15)], [.int (-2)], zhp h)) rfl ?_
        cases H
        exact zEv_r rfl
  · refine zEv_k 2 (f' := (if x2 < 0 then 46 else 37, [some (.ref 0), y1, some (.int x2), some (.int x3), some (.ref 30)], [], zhp h)) rfl (zEv_if (fun c5 => ?_) (fun c5 => ?_))
    · replace H := zif_t c5 H
      refine zEv_k 1 (f' := (48, [some (.ref 0), y1, some (.int x2), some (.int x3), some (.ref 30)], [.int (-2)], zhp h)) rfl ?_
      cases H
      exact zEv_r rfl
    · replace H := zif_f c5 H
      refine zEv_k 4 (f' := (if x2 < (gI h 30 0) then 49 else 46, [some (.ref 0), y1, some (.int x2), some (.int x3), some (.ref 30)], [], zhp h)) rfl (zEv_if (fun c6 => ?_) (fun c6 => ?_))
      · replace H := zif_t c6 H
        refine zEv_k 1 (f' := (50, [some (.ref 0), y1, some (.int x2), some (.int x3), some (.ref 30)], [.int x3], zhp h)) rfl ?_
        refine zEv_ts rfl (by decide) (by decide) (by decide) (fun hh => ?_) (fun j hj hh => ?_)
        · replace H := zif_f (fun e => (by rw [e] at hh; exact absurd hh (by decide))) H
          replace H := zif_f (fun e => (by rw [e] at hh; exact absurd hh (by decide))) H
          replace H := zif_f (fun e => (by rw [e] at hh; exact absurd hh (by decide))) H
          refine zEv_k 1 (f' := (102, [some (.ref 0), y1, some (.int x2), some (.int x3), some (.ref 30)], [.int (-2)], zhp h)) rfl ?_
          cases H
          exact zEv_r rfl
        · rcases (by have hj2 : j < 3 := hj; omega : j = 0 ∨ j = 1 ∨ j = 2) with rfl | rfl | rfl
          · have ex : x3 = 0 := zeqI hh (by decide)
            replace H := zif_t ex H
            refine zEv_k 1 (f' := (78, [some (.ref 0), y1, some (.int x2), some (.int x3), some (.ref 30)], [.ref 30], zhp h)) rfl ?_
            refine zRgr rfl rfl rfl (by decide) (b := 30 + 1) rfl ?_
            refine zEv_k 1 (f' := (82, [some (.ref 0), y1, some (.int x2), some (.int x3), some (.ref 30)], [.int x2, .ref (30 + 1)], zhp h)) rfl ?_
            obtain ⟨j7, hj7, H⟩ := zbs H
            refine zRia rfl rfl (by decide) hj7 ?_
            cases H
            exact zEv_r rfl
          · have ex : x3 = 1 := zeqI hh (by decide)
            replace H := zif_f (fun e => by rw [ex] at e; exact absurd e (by decide)) H
            replace H := zif_t ex H
            refine zEv_k 1 (f' := (86, [some (.ref 0), y1, some (.int x2), some (.int x3), some (.ref 30)], [.ref 30], zhp h)) rfl ?_
            refine zRgr rfl rfl rfl (by decide) (b := 30 + 2) rfl ?_
            refine zEv_k 1 (f' := (90, [some (.ref 0), y1, some (.int x2), some (.int x3), some (.ref 30)], [.int x2, .ref (30 + 2)], zhp h)) rfl ?_
            obtain ⟨j8, hj8, H⟩ := zbs H
            refine zRia rfl rfl (by decide) hj8 ?_
            cases H
            exact zEv_r rfl
          · have ex : x3 = 2 := zeqI hh (by decide)
            replace H := zif_f (fun e => by rw [ex] at e; exact absurd e (by decide)) H
            replace H := zif_f (fun e => by rw [ex] at e; exact absurd e (by decide)) H
            replace H := zif_t ex H
            refine zEv_k 1 (f' := (94, [some (.ref 0), y1, some (.int x2), some (.int x3), some (.ref 30)], [.ref 30], zhp h)) rfl ?_
            refine zRgr rfl rfl rfl (by decide) (b := 30 + 3) rfl ?_
            refine zEv_k 1 (f' := (98, [some (.ref 0), y1, some (.int x2), some (.int x3), some (.ref 30)], [.int x2, .ref (30 + 3)], zhp h)) rfl ?_
            obtain ⟨j9, hj9, H⟩ := zbs H
            refine zRia rfl rfl (by decide) hj9 ?_
            cases H
            exact zEv_r rfl
      · replace H := zif_f c6 H
        refine zEv_k 1 (f' := (48, [some (.ref 0), y1, some (.int x2), some (.int x3), some (.ref 30)], [.int (-2)], zhp h)) rfl ?_
        cases H
        exact zEv_r rfl
def qC_deed (x1 : Int32) (x2 : Int32) (x3 : Int32) (h : zK) : Option (Int32) :=
  (qT_deedsAt x1 h).bind fun p1 => match p1 with
  | none =>
    some (-2)
  | some v2 =>
    if ¬ x2 = (-1) then
      if v2 = 15 ∨ v2 = 30 then
        qC_deed_j33 v2 x2 x3 h
      else none
    else
      if ¬ x3 = 0 then
        if v2 = 15 ∨ v2 = 30 then
          qC_deed_j33 v2 x2 x3 h
        else none
      else
        if v2 = 15 ∨ v2 = 30 then
          some (gI h v2 0)
        else none
theorem t_qC_deed {Ls : Nat} {xs : Nat → Int32} {d : Nat} {x1 : Int32} {x2 : Int32} {x3 : Int32} {h : zK} {p : Int32} (H : qC_deed x1 x2 x3 h = some p) : zEv (zXs Ls xs) (d + 1) zm_117 (0, [some (.ref 0), some (.int x1), some (.int x2), some (.int x3), none], [], zhp h) (some (.int p), zhp h) := by
  unfold qC_deed at H
  refine zEv_k 1 (f' := (1, [some (.ref 0), some (.int x1), some (.int x2), some (.int x3), none], [.ref 0], zhp h)) rfl ?_
  refine zRgr rfl rfl rfl (by decide) (b := 1) rfl ?_
  refine zEv_k 1 (f' := (5, [some (.ref 0), some (.int x1), some (.int x2), some (.int x3), none], [.int x1, .ref 1], zhp h)) rfl ?_
  obtain ⟨p1, hp1, H⟩ := zbs H
  refine zEv_c (fun _ => rfl) rfl (t_qT_deedsAt (x1 := x1) (h := h) (d := d) hp1) rfl rfl ?_
  rcases p1 with _ | v2
  · dsimp only at H
    refine zEv_k 4 (f' := (17, [some (.ref 0), some (.int x1), some (.int x2), some (.int x3), some (.null)], [.int (-2)], zhp h)) rfl ?_
    cases H
    exact zEv_r rfl
  · dsimp only at H
    refine zEv_k 6 (f' := (if ¬ x2 = (-1) then 33 else 23, [some (.ref 0), some (.int x1), some (.int x2), some (.int x3), some (.ref v2)], [], zhp h)) rfl (zEv_if (fun c3 => ?_) (fun c3 => ?_))
    · replace H := zif_t c3 H
      obtain ⟨c4, H⟩ := zifn H
      rcases c4 with rfl | rfl
      · exact t_qC_deed_j33 (v2 := 15) (x2 := x2) (x3 := x3) (h := h) (by decide) H _
      · exact t_qC_deed_j33 (v2 := 30) (x2 := x2) (x3 := x3) (h := h) (by decide) H _
    · replace H := zif_f c3 H
      refine zEv_k 2 (f' := (if ¬ x3 = 0 then 33 else 27, [some (.ref 0), some (.int x1), some (.int x2), some (.int x3), some (.ref v2)], [], zhp h)) rfl (zEv_if (fun c10 => ?_) (fun c10 => ?_))
      · replace H := zif_t c10 H
        obtain ⟨c11, H⟩ := zifn H
        rcases c11 with rfl | rfl
        · exact t_qC_deed_j33 (v2 := 15) (x2 := x2) (x3 := x3) (h := h) (by decide) H _
        · exact t_qC_deed_j33 (v2 := 30) (x2 := x2) (x3 := x3) (h := h) (by decide) H _
      · replace H := zif_f c10 H
        refine zEv_k 1 (f' := (29, [some (.ref 0), some (.int x1), some (.int x2), some (.int x3), some (.ref v2)], [.ref v2], zhp h)) rfl ?_
        obtain ⟨c12, H⟩ := zifn H
        rcases c12 with rfl | rfl
        · refine zEv_k 1 (f' := (32, [some (.ref 0), some (.int x1), some (.int x2), some (.int x3), some (.ref 15)], [.int (gI h 15 0)], zhp h)) rfl ?_
          cases H
          exact zEv_r rfl
        · refine zEv_k 1 (f' := (32, [some (.ref 0), some (.int x1), some (.int x2), some (.int x3), some (.ref 30)], [.int (gI h 30 0)], zhp h)) rfl ?_
          cases H
          exact zEv_r rfl
def qC_till (x1 : Int32) (x2 : Int32) (h : zK) : Option (Int32 × zK) :=
  (qT_cellarAt x1 h).bind fun p1 => match p1 with
  | none =>
    (qT_deedsAt x2 h).bind fun p3 => match p3 with
    | none =>
      some (-1, h)
    | some v4 =>
      some (-1, h)
  | some v2 =>
    (qT_deedsAt x2 h).bind fun p5 => match p5 with
    | none =>
      some (-1, h)
    | some v6 =>
      if v2 = 7 ∨ v2 = 22 then
        (qRu_begin 166 v2 h).bind fun p8 =>
        if v6 = 15 ∨ v6 = 30 then
          (qRu_follow 166 v6 (gI p8 v6 0) p8).bind fun p10 =>
          some (p10.1, p10.2)
        else none
      else none
theorem t_qC_till {Ls : Nat} {xs : Nat → Int32} {d : Nat} {x1 : Int32} {x2 : Int32} {h : zK} {p : Int32 × zK} (H : qC_till x1 x2 h = some p) : zEv (zXs Ls xs) (d + 5) zm_118 (0, [some (.ref 0), some (.int x1), some (.int x2), none, none], [], zhp h) (some (.int p.1), zhp p.2) := by
  unfold qC_till at H
  refine zEv_k 1 (f' := (1, [some (.ref 0), some (.int x1), some (.int x2), none, none], [.ref 0], zhp h)) rfl ?_
  refine zRgr rfl rfl rfl (by decide) (b := 1) rfl ?_
  refine zEv_k 1 (f' := (5, [some (.ref 0), some (.int x1), some (.int x2), none, none], [.int x1, .ref 1], zhp h)) rfl ?_
  obtain ⟨p1, hp1, H⟩ := zbs H
  refine zEv_c (fun _ => rfl) rfl (t_qT_cellarAt (x1 := x1) (h := h) (d := d + 4) hp1) rfl rfl ?_
  rcases p1 with _ | v2
  · dsimp only at H
    refine zEv_k 2 (f' := (10, [some (.ref 0), some (.int x1), some (.int x2), some (.null), none], [.ref 0], zhp h)) rfl ?_
    refine zRgr rfl rfl rfl (by decide) (b := 1) rfl ?_
    refine zEv_k 1 (f' := (14, [some (.ref 0), some (.int x1), some (.int x2), some (.null), none], [.int x2, .ref 1], zhp h)) rfl ?_
    obtain ⟨p3, hp3, H⟩ := zbs H
    refine zEv_c (fun _ => rfl) rfl (t_qT_deedsAt (x1 := x2) (h := h) (d := d + 4) hp3) rfl rfl ?_
    rcases p3 with _ | v4
    · dsimp only at H
      refine zEv_k 4 (f' := (29, [some (.ref 0), some (.int x1), some (.int x2), some (.null), some (.null)], [.int (-1)], zhp h)) rfl ?_
      cases H
      exact zEv_r rfl
    · dsimp only at H
      refine zEv_k 4 (f' := (29, [some (.ref 0), some (.int x1), some (.int x2), some (.null), some (.ref v4)], [.int (-1)], zhp h)) rfl ?_
      cases H
      exact zEv_r rfl
  · dsimp only at H
    refine zEv_k 2 (f' := (10, [some (.ref 0), some (.int x1), some (.int x2), some (.ref v2), none], [.ref 0], zhp h)) rfl ?_
    refine zRgr rfl rfl rfl (by decide) (b := 1) rfl ?_
    refine zEv_k 1 (f' := (14, [some (.ref 0), some (.int x1), some (.int x2), some (.ref v2), none], [.int x2, .ref 1], zhp h)) rfl ?_
    obtain ⟨p5, hp5, H⟩ := zbs H
    refine zEv_c (fun _ => rfl) rfl (t_qT_deedsAt (x1 := x2) (h := h) (d := d + 4) hp5) rfl rfl ?_
    rcases p5 with _ | v6
    · dsimp only at H
      refine zEv_k 6 (f' := (29, [some (.ref 0), some (.int x1), some (.int x2), some (.ref v2), some (.null)], [.int (-1)], zhp h)) rfl ?_
      cases H
      exact zEv_r rfl
    · dsimp only at H
      refine zEv_k 6 (f' := (31, [some (.ref 0), some (.int x1), some (.int x2), some (.ref v2), some (.ref v6)], [.ref 0], zhp h)) rfl ?_
      refine zRgr rfl rfl rfl (by decide) (b := 166) rfl ?_
      refine zEv_k 1 (f' := (35, [some (.ref 0), some (.int x1), some (.int x2), some (.ref v2), some (.ref v6)], [.ref v2, .ref 166], zhp h)) rfl ?_
      obtain ⟨c7, H⟩ := zifn H
      rcases c7 with rfl | rfl
      · obtain ⟨p8, hp8, H⟩ := zbs H
        refine zEv_c (fun _ => rfl) rfl (t_qRu_begin (oo := 166) (oc := 7) (h := h) (d := d + 4) (by decide) hp8) rfl rfl ?_
        refine zEv_k 1 (f' := (39, [some (.ref 0), some (.int x1), some (.int x2), some (.ref 7), some (.ref v6)], [.ref 0], zhp p8)) rfl ?_
        refine zRgr rfl rfl rfl (by decide) (b := 166) rfl ?_
        refine zEv_k 2 (f' := (46, [some (.ref 0), some (.int x1), some (.int x2), some (.ref 7), some (.ref v6)], [.ref v6, .ref v6, .ref 166], zhp p8)) rfl ?_
        obtain ⟨c9, H⟩ := zifn H
        rcases c9 with rfl | rfl
        · refine zEv_k 1 (f' := (49, [some (.ref 0), some (.int x1), some (.int x2), some (.ref 7), some (.ref 15)], [.int (gI p8 15 0), .ref 15, .ref 166], zhp p8)) rfl ?_
          obtain ⟨p10, hp10, H⟩ := zbs H
          refine zEv_c (fun _ => rfl) rfl (t_qRu_follow (oo := 166) (oe := 15) (x2 := gI p8 15 0) (h := p8) (d := d) (by decide) hp10) rfl rfl ?_
          cases H
          exact zEv_r rfl
        · refine zEv_k 1 (f' := (49, [some (.ref 0), some (.int x1), some (.int x2), some (.ref 7), some (.ref 30)], [.int (gI p8 30 0), .ref 30, .ref 166], zhp p8)) rfl ?_
          obtain ⟨p10, hp10, H⟩ := zbs H
          refine zEv_c (fun _ => rfl) rfl (t_qRu_follow (oo := 166) (oe := 30) (x2 := gI p8 30 0) (h := p8) (d := d) (by decide) hp10) rfl rfl ?_
          cases H
          exact zEv_r rfl
      · obtain ⟨p8, hp8, H⟩ := zbs H
        refine zEv_c (fun _ => rfl) rfl (t_qRu_begin (oo := 166) (oc := 22) (h := h) (d := d + 4) (by decide) hp8) rfl rfl ?_
        refine zEv_k 1 (f' := (39, [some (.ref 0), some (.int x1), some (.int x2), some (.ref 22), some (.ref v6)], [.ref 0], zhp p8)) rfl ?_
        refine zRgr rfl rfl rfl (by decide) (b := 166) rfl ?_
        refine zEv_k 2 (f' := (46, [some (.ref 0), some (.int x1), some (.int x2), some (.ref 22), some (.ref v6)], [.ref v6, .ref v6, .ref 166], zhp p8)) rfl ?_
        obtain ⟨c9, H⟩ := zifn H
        rcases c9 with rfl | rfl
        · refine zEv_k 1 (f' := (49, [some (.ref 0), some (.int x1), some (.int x2), some (.ref 22), some (.ref 15)], [.int (gI p8 15 0), .ref 15, .ref 166], zhp p8)) rfl ?_
          obtain ⟨p10, hp10, H⟩ := zbs H
          refine zEv_c (fun _ => rfl) rfl (t_qRu_follow (oo := 166) (oe := 15) (x2 := gI p8 15 0) (h := p8) (d := d) (by decide) hp10) rfl rfl ?_
          cases H
          exact zEv_r rfl
        · refine zEv_k 1 (f' := (49, [some (.ref 0), some (.int x1), some (.int x2), some (.ref 22), some (.ref 30)], [.int (gI p8 30 0), .ref 30, .ref 166], zhp p8)) rfl ?_
          obtain ⟨p10, hp10, H⟩ := zbs H
          refine zEv_c (fun _ => rfl) rfl (t_qRu_follow (oo := 166) (oe := 30) (x2 := gI p8 30 0) (h := p8) (d := d) (by decide) hp10) rfl rfl ?_
          cases H
          exact zEv_r rfl
def qC_state (x1 : Int32) (x2 : Int32) (x3 : Int32) (x4 : Int32) (h : zK) : Option (Int32 × zK) :=
  (qT_cellarAt x1 h).bind fun p1 => match p1 with
  | none =>
    (qT_deedsAt x2 h).bind fun p3 => match p3 with
    | none =>
      some (-1, h)
    | some v4 =>
      some (-1, h)
  | some v2 =>
    (qT_deedsAt x2 h).bind fun p5 => match p5 with
    | none =>
      some (-1, h)
    | some v6 =>
      if x3 < 0 then
        some (-1, h)
      else
        if v6 = 15 ∨ v6 = 30 then
          if x3 ≤ (gI h v6 0) then
            if v2 = 7 ∨ v2 = 22 then
              (qRu_begin 166 v2 h).bind fun p11 =>
              (qRu_follow 166 v6 x3 p11).bind fun p12 =>
              if x3 ≤ p12.1 then
                (qRu_look 166 x4 p12.2).bind fun p14 =>
                some (p14, p12.2)
              else
                some (-1, p12.2)
            else none
          else
            some (-1, h)
        else none
theorem t_qC_state {Ls : Nat} {xs : Nat → Int32} {d : Nat} {x1 : Int32} {x2 : Int32} {x3 : Int32} {x4 : Int32} {h : zK} {p : Int32 × zK} (H : qC_state x1 x2 x3 x4 h = some p) : zEv (zXs Ls xs) (d + 5) zm_119 (0, [some (.ref 0), some (.int x1), some (.int x2), some (.int x3), some (.int x4), none, none], [], zhp h) (some (.int p.1), zhp p.2) := by
  unfold qC_state at H
  refine zEv_k 1 (f' := (1, [some (.ref 0), some (.int x1), some (.int x2), some (.int x3), some (.int x4), none, none], [.ref 0], zhp h)) rfl ?_
  refine zRgr rfl rfl rfl (by decide) (b := 1) rfl ?_
  refine zEv_k 1 (f' := (5, [some (.ref 0), some (.int x1), some (.int x2), some (.int x3), some (.int x4), none, none], [.int x1, .ref 1], zhp h)) rfl ?_
  obtain ⟨p1, hp1, H⟩ := zbs H
  refine zEv_c (fun _ => rfl) rfl (t_qT_cellarAt (x1 := x1) (h := h) (d := d + 4) hp1) rfl rfl ?_
  rcases p1 with _ | v2
  · dsimp only at H
    refine zEv_k 2 (f' := (11, [some (.ref 0), some (.int x1), some (.int x2), some (.int x3), some (.int x4), some (.null), none], [.ref 0], zhp h)) rfl ?_
    refine zRgr rfl rfl rfl (by decide) (b := 1) rfl ?_
    refine zEv_k 1 (f' := (15, [some (.ref 0), some (.int x1), some (.int x2), some (.int x3), some (.int x4), some (.null), none], [.int x2, .ref 1], zhp h)) rfl ?_
    obtain ⟨p3, hp3, H⟩ := zbs H
    refine zEv_c (fun _ => rfl) rfl (t_qT_deedsAt (x1 := x2) (h := h) (d := d + 4) hp3) rfl rfl ?_
    rcases p3 with _ | v4
    · dsimp only at H
      refine zEv_k 4 (f' := (44, [some (.ref 0), some (.int x1), some (.int x2), some (.int x3), some (.int x4), some (.null), some (.null)], [.int (-1)], zhp h)) rfl ?_
      cases H
      exact zEv_r rfl
    · dsimp only at H
      refine zEv_k 4 (f' := (44, [some (.ref 0), some (.int x1), some (.int x2), some (.int x3), some (.int x4), some (.null), some (.ref v4)], [.int (-1)], zhp h)) rfl ?_
      cases H
      exact zEv_r rfl
  · dsimp only at H
    refine zEv_k 2 (f' := (11, [some (.ref 0), some (.int x1), some (.int x2), some (.int x3), some (.int x4), some (.ref v2), none], [.ref 0], zhp h)) rfl ?_
    refine zRgr rfl rfl rfl (by decide) (b := 1) rfl ?_
    refine zEv_k 1 (f' := (15, [some (.ref 0), some (.int x1), some (.int x2), some (.int x3), some (.int x4), some (.ref v2), none], [.int x2, .ref 1], zhp h)) rfl ?_
    obtain ⟨p5, hp5, H⟩ := zbs H
    refine zEv_c (fun _ => rfl) rfl (t_qT_deedsAt (x1 := x2) (h := h) (d := d + 4) hp5) rfl rfl ?_
    rcases p5 with _ | v6
    · dsimp only at H
      refine zEv_k 6 (f' := (44, [some (.ref 0), some (.int x1), some (.int x2), some (.int x3), some (.int x4), some (.ref v2), some (.null)], [.int (-1)], zhp h)) rfl ?_
      cases H
      exact zEv_r rfl
    · dsimp only at H
      refine zEv_k 7 (f' := (if x3 < 0 then 43 else 34, [some (.ref 0), some (.int x1), some (.int x2), some (.int x3), some (.int x4), some (.ref v2), some (.ref v6)], [], zhp h)) rfl (zEv_if (fun c7 => ?_) (fun c7 => ?_))
      · replace H := zif_t c7 H
        refine zEv_k 1 (f' := (44, [some (.ref 0), some (.int x1), some (.int x2), some (.int x3), some (.int x4), some (.ref v2), some (.ref v6)], [.int (-1)], zhp h)) rfl ?_
        cases H
        exact zEv_r rfl
      · replace H := zif_f c7 H
        refine zEv_k 2 (f' := (37, [some (.ref 0), some (.int x1), some (.int x2), some (.int x3), some (.int x4), some (.ref v2), some (.ref v6)], [.ref v6, .int x3], zhp h)) rfl ?_
        obtain ⟨c8, H⟩ := zifn H
        rcases c8 with rfl | rfl
        · refine zEv_k 2 (f' := (if x3 ≤ (gI h 15 0) then 45 else 43, [some (.ref 0), some (.int x1), some (.int x2), some (.int x3), some (.int x4), some (.ref v2), some (.ref 15)], [], zhp h)) rfl (zEv_if (fun c9 => ?_) (fun c9 => ?_))
          · replace H := zif_t c9 H
            refine zEv_k 1 (f' := (46, [some (.ref 0), some (.int x1), some (.int x2), some (.int x3), some (.int x4), some (.ref v2), some (.ref 15)], [.ref 0], zhp h)) rfl ?_
            refine zRgr rfl rfl rfl (by decide) (b := 166) rfl ?_
            refine zEv_k 1 (f' := (51, [some (.ref 0), some (.int x1), some (.int x2), some (.int x3), some (.int x4), some (.ref v2), some (.ref 15)], [.ref v2, .ref 166], zhp h)) rfl ?_
            obtain ⟨c10, H⟩ := zifn H
            rcases c10 with rfl | rfl
            · obtain ⟨p11, hp11, H⟩ := zbs H
              refine zEv_c (fun _ => rfl) rfl (t_qRu_begin (oo := 166) (oc := 7) (h := h) (d := d + 4) (by decide) hp11) rfl rfl ?_
              refine zEv_k 1 (f' := (55, [some (.ref 0), some (.int x1), some (.int x2), some (.int x3), some (.int x4), some (.ref 7), some (.ref 15)], [.ref 0], zhp p11)) rfl ?_
              refine zRgr rfl rfl rfl (by decide) (b := 166) rfl ?_
              refine zEv_k 2 (f' := (61, [some (.ref 0), some (.int x1), some (.int x2), some (.int x3), some (.int x4), some (.ref 7), some (.ref 15)], [.int x3, .ref 15, .ref 166], zhp p11)) rfl ?_
              obtain ⟨p12, hp12, H⟩ := zbs H
              refine zEv_c (fun _ => rfl) rfl (t_qRu_follow (oo := 166) (oe := 15) (x2 := x3) (h := p11) (d := d) (by decide) hp12) rfl rfl ?_
              refine zEv_k 2 (f' := (if x3 ≤ p12.1 then 70 else 68, [some (.ref 0), some (.int x1), some (.int x2), some (.int x3), some (.int x4), some (.ref 7), some (.ref 15)], [], zhp p12.2)) rfl (zEv_if (fun c13 => ?_) (fun c13 => ?_))
              · replace H := zif_t c13 H
                refine zEv_k 1 (f' := (71, [some (.ref 0), some (.int x1), some (.int x2), some (.int x3), some (.int x4), some (.ref 7), some (.ref 15)], [.ref 0], zhp p12.2)) rfl ?_
                refine zRgr rfl rfl rfl (by decide) (b := 166) rfl ?_
                refine zEv_k 1 (f' := (76, [some (.ref 0), some (.int x1), some (.int x2), some (.int x3), some (.int x4), some (.ref 7), some (.ref 15)], [.int x4, .ref 166], zhp p12.2)) rfl ?_
                obtain ⟨p14, hp14, H⟩ := zbs H
                refine zEv_c (fun _ => rfl) rfl (t_qRu_look (oo := 166) (x1 := x4) (h := p12.2) (d := d + 3) (by decide) hp14) rfl rfl ?_
                cases H
                exact zEv_r rfl
              · replace H := zif_f c13 H
                refine zEv_k 1 (f' := (69, [some (.ref 0), some (.int x1), some (.int x2), some (.int x3), some (.int x4), some (.ref 7), some (.ref 15)], [.int (-1)], zhp p12.2)) rfl ?_
                cases H
                exact zEv_r rfl
            · obtain ⟨p11, hp11, H⟩ := zbs H
              refine zEv_c (fun _ => rfl) rfl (t_qRu_begin (oo := 166) (oc := 22) (h := h) (d := d + 4) (by decide) hp11) rfl rfl ?_
              refine zEv_k 1 (f' := (55, [some (.ref 0), some (.int x1), some (.int x2), some (.int x3), some (.int x4), some (.ref 22), some (.ref 15)], [.ref 0], zhp p11)) rfl ?_
              refine zRgr rfl rfl rfl (by decide) (b := 166) rfl ?_
              refine zEv_k 2 (f' := (61, [some (.ref 0), some (.int x1), some (.int x2), some (.int x3), some (.int x4), some (.ref 22), some (.ref 15)], [.int x3, .ref 15, .ref 166], zhp p11)) rfl ?_
              obtain ⟨p12, hp12, H⟩ := zbs H
              refine zEv_c (fun _ => rfl) rfl (t_qRu_follow (oo := 166) (oe := 15) (x2 := x3) (h := p11) (d := d) (by decide) hp12) rfl rfl ?_
              refine zEv_k 2 (f' := (if x3 ≤ p12.1 then 70 else 68, [some (.ref 0), some (.int x1), some (.int x2), some (.int x3), some (.int x4), some (.ref 22), some (.ref 15)], [], zhp p12.2)) rfl (zEv_if (fun c13 => ?_) (fun c13 => ?_))
              · replace H := zif_t c13 H
                refine zEv_k 1 (f' := (71, [some (.ref 0), some (.int x1), some (.int x2), some (.int x3), some (.int x4), some (.ref 22), some (.ref 15)], [.ref 0], zhp p12.2)) rfl ?_
                refine zRgr rfl rfl rfl (by decide) (b := 166) rfl ?_
                refine zEv_k 1 (f' := (76, [some (.ref 0), some (.int x1), some (.int x2), some (.int x3), some (.int x4), some (.ref 22), some (.ref 15)], [.int x4, .ref 166], zhp p12.2)) rfl ?_
                obtain ⟨p14, hp14, H⟩ := zbs H
                refine zEv_c (fun _ => rfl) rfl (t_qRu_look (oo := 166) (x1 := x4) (h := p12.2) (d := d + 3) (by decide) hp14) rfl rfl ?_
                cases H
                exact zEv_r rfl
              · replace H := zif_f c13 H
                refine zEv_k 1 (f' := (69, [some (.ref 0), some (.int x1), some (.int x2), some (.int x3), some (.int x4), some (.ref 22), some (.ref 15)], [.int (-1)], zhp p12.2)) rfl ?_
                cases H
                exact zEv_r rfl
          · replace H := zif_f c9 H
            refine zEv_k 1 (f' := (44, [some (.ref 0), some (.int x1), some (.int x2), some (.int x3), some (.int x4), some (.ref v2), some (.ref 15)], [.int (-1)], zhp h)) rfl ?_
            cases H
            exact zEv_r rfl
        · refine zEv_k 2 (f' := (if x3 ≤ (gI h 30 0) then 45 else 43, [some (.ref 0), some (.int x1), some (.int x2), some (.int x3), some (.int x4), some (.ref v2), some (.ref 30)], [], zhp h)) rfl (zEv_if (fun c9 => ?_) (fun c9 => ?_))
          · replace H := zif_t c9 H
            refine zEv_k 1 (f' := (46, [some (.ref 0), some (.int x1), some (.int x2), some (.int x3), some (.int x4), some (.ref v2), some (.ref 30)], [.ref 0], zhp h)) rfl ?_
            refine zRgr rfl rfl rfl (by decide) (b := 166) rfl ?_
            refine zEv_k 1 (f' := (51, [some (.ref 0), some (.int x1), some (.int x2), some (.int x3), some (.int x4), some (.ref v2), some (.ref 30)], [.ref v2, .ref 166], zhp h)) rfl ?_
            obtain ⟨c10, H⟩ := zifn H
            rcases c10 with rfl | rfl
            · obtain ⟨p11, hp11, H⟩ := zbs H
              refine zEv_c (fun _ => rfl) rfl (t_qRu_begin (oo := 166) (oc := 7) (h := h) (d := d + 4) (by decide) hp11) rfl rfl ?_
              refine zEv_k 1 (f' := (55, [some (.ref 0), some (.int x1), some (.int x2), some (.int x3), some (.int x4), some (.ref 7), some (.ref 30)], [.ref 0], zhp p11)) rfl ?_
              refine zRgr rfl rfl rfl (by decide) (b := 166) rfl ?_
              refine zEv_k 2 (f' := (61, [some (.ref 0), some (.int x1), some (.int x2), some (.int x3), some (.int x4), some (.ref 7), some (.ref 30)], [.int x3, .ref 30, .ref 166], zhp p11)) rfl ?_
              obtain ⟨p12, hp12, H⟩ := zbs H
              refine zEv_c (fun _ => rfl) rfl (t_qRu_follow (oo := 166) (oe := 30) (x2 := x3) (h := p11) (d := d) (by decide) hp12) rfl rfl ?_
              refine zEv_k 2 (f' := (if x3 ≤ p12.1 then 70 else 68, [some (.ref 0), some (.int x1), some (.int x2), some (.int x3), some (.int x4), some (.ref 7), some (.ref 30)], [], zhp p12.2)) rfl (zEv_if (fun c13 => ?_) (fun c13 => ?_))
              · replace H := zif_t c13 H
                refine zEv_k 1 (f' := (71, [some (.ref 0), some (.int x1), some (.int x2), some (.int x3), some (.int x4), some (.ref 7), some (.ref 30)], [.ref 0], zhp p12.2)) rfl ?_
                refine zRgr rfl rfl rfl (by decide) (b := 166) rfl ?_
                refine zEv_k 1 (f' := (76, [some (.ref 0), some (.int x1), some (.int x2), some (.int x3), some (.int x4), some (.ref 7), some (.ref 30)], [.int x4, .ref 166], zhp p12.2)) rfl ?_
                obtain ⟨p14, hp14, H⟩ := zbs H
                refine zEv_c (fun _ => rfl) rfl (t_qRu_look (oo := 166) (x1 := x4) (h := p12.2) (d := d + 3) (by decide) hp14) rfl rfl ?_
                cases H
                exact zEv_r rfl
              · replace H := zif_f c13 H
                refine zEv_k 1 (f' := (69, [some (.ref 0), some (.int x1), some (.int x2), some (.int x3), some (.int x4), some (.ref 7), some (.ref 30)], [.int (-1)], zhp p12.2)) rfl ?_
                cases H
                exact zEv_r rfl
            · obtain ⟨p11, hp11, H⟩ := zbs H
              refine zEv_c (fun _ => rfl) rfl (t_qRu_begin (oo := 166) (oc := 22) (h := h) (d := d + 4) (by decide) hp11) rfl rfl ?_
              refine zEv_k 1 (f' := (55, [some (.ref 0), some (.int x1), some (.int x2), some (.int x3), some (.int x4), some (.ref 22), some (.ref 30)], [.ref 0], zhp p11)) rfl ?_
              refine zRgr rfl rfl rfl (by decide) (b := 166) rfl ?_
              refine zEv_k 2 (f' := (61, [some (.ref 0), some (.int x1), some (.int x2), some (.int x3), some (.int x4), some (.ref 22), some (.ref 30)], [.int x3, .ref 30, .ref 166], zhp p11)) rfl ?_
              obtain ⟨p12, hp12, H⟩ := zbs H
              refine zEv_c (fun _ => rfl) rfl (t_qRu_follow (oo := 166) (oe := 30) (x2 := x3) (h := p11) (d := d) (by decide) hp12) rfl rfl ?_
              refine zEv_k 2 (f' := (if x3 ≤ p12.1 then 70 else 68, [some (.ref 0), some (.int x1), some (.int x2), some (.int x3), some (.int x4), some (.ref 22), some (.ref 30)], [], zhp p12.2)) rfl (zEv_if (fun c13 => ?_) (fun c13 => ?_))
              · replace H := zif_t c13 H
                refine zEv_k 1 (f' := (71, [some (.ref 0), some (.int x1), some (.int x2), some (.int x3), some (.int x4), some (.ref 22), some (.ref 30)], [.ref 0], zhp p12.2)) rfl ?_
                refine zRgr rfl rfl rfl (by decide) (b := 166) rfl ?_
                refine zEv_k 1 (f' := (76, [some (.ref 0), some (.int x1), some (.int x2), some (.int x3), some (.int x4), some (.ref 22), some (.ref 30)], [.int x4, .ref 166], zhp p12.2)) rfl ?_
                obtain ⟨p14, hp14, H⟩ := zbs H
                refine zEv_c (fun _ => rfl) rfl (t_qRu_look (oo := 166) (x1 := x4) (h := p12.2) (d := d + 3) (by decide) hp14) rfl rfl ?_
                cases H
                exact zEv_r rfl
              · replace H := zif_f c13 H
                refine zEv_k 1 (f' := (69, [some (.ref 0), some (.int x1), some (.int x2), some (.int x3), some (.int x4), some (.ref 22), some (.ref 30)], [.int (-1)], zhp p12.2)) rfl ?_
                cases H
                exact zEv_r rfl
          · replace H := zif_f c9 H
            refine zEv_k 1 (f' := (44, [some (.ref 0), some (.int x1), some (.int x2), some (.int x3), some (.int x4), some (.ref v2), some (.ref 30)], [.int (-1)], zhp h)) rfl ?_
            cases H
            exact zEv_r rfl
def qC_train (x1 : Int32) (x2 : Int32) (h : zK) : Option (Int32 × zK) :=
  (qT_cellarAt x1 h).bind fun p1 => match p1 with
  | none =>
    some (-1, h)
  | some v2 =>
    if v2 = 7 ∨ v2 = 22 then
      if ¬ (qCe_has v2 x2 h) = 0 then
        (qTr_lookAt 180 v2 h).bind fun p5 =>
        (qTr_from 180 x2 p5).bind fun p6 =>
        some (p6, p5)
      else
        some (-1, h)
    else none
theorem t_qC_train {Ls : Nat} {xs : Nat → Int32} {d : Nat} {x1 : Int32} {x2 : Int32} {h : zK} {p : Int32 × zK} (H : qC_train x1 x2 h = some p) : zEv (zXs Ls xs) (d + 3) zm_120 (0, [some (.ref 0), some (.int x1), some (.int x2), none], [], zhp h) (some (.int p.1), zhp p.2) := by
  unfold qC_train at H
  refine zEv_k 1 (f' := (1, [some (.ref 0), some (.int x1), some (.int x2), none], [.ref 0], zhp h)) rfl ?_
  refine zRgr rfl rfl rfl (by decide) (b := 1) rfl ?_
  refine zEv_k 1 (f' := (5, [some (.ref 0), some (.int x1), some (.int x2), none], [.int x1, .ref 1], zhp h)) rfl ?_
  obtain ⟨p1, hp1, H⟩ := zbs H
  refine zEv_c (fun _ => rfl) rfl (t_qT_cellarAt (x1 := x1) (h := h) (d := d + 2) hp1) rfl rfl ?_
  rcases p1 with _ | v2
  · dsimp only at H
    refine zEv_k 4 (f' := (22, [some (.ref 0), some (.int x1), some (.int x2), some (.null)], [.int (-1)], zhp h)) rfl ?_
    cases H
    exact zEv_r rfl
  · dsimp only at H
    refine zEv_k 5 (f' := (15, [some (.ref 0), some (.int x1), some (.int x2), some (.ref v2)], [.int x2, .ref v2], zhp h)) rfl ?_
    obtain ⟨c3, H⟩ := zifn H
    rcases c3 with rfl | rfl
    · refine zEv_c (fun _ => rfl) rfl (t_qCe_has (oo := 7) (x1 := x2) (h := h) (d := d + 2) (by decide) rfl) rfl rfl ?_
      refine zEv_k 1 (f' := (if ¬ (qCe_has 7 x2 h) = 0 then 23 else 21, [some (.ref 0), some (.int x1), some (.int x2), some (.ref 7)], [], zhp h)) rfl (zEv_if (fun c4 => ?_) (fun c4 => ?_))
      · replace H := zif_t c4 H
        refine zEv_k 1 (f' := (24, [some (.ref 0), some (.int x1), some (.int x2), some (.ref 7)], [.ref 0], zhp h)) rfl ?_
        refine zRgr rfl rfl rfl (by decide) (b := 180) rfl ?_
        refine zEv_k 1 (f' := (28, [some (.ref 0), some (.int x1), some (.int x2), some (.ref 7)], [.ref 7, .ref 180], zhp h)) rfl ?_
        obtain ⟨p5, hp5, H⟩ := zbs H
        refine zEv_c (fun _ => rfl) rfl (t_qTr_lookAt (oo := 180) (oc := 7) (h := h) (d := d) (by decide) hp5) rfl rfl ?_
        refine zEv_k 1 (f' := (32, [some (.ref 0), some (.int x1), some (.int x2), some (.ref 7)], [.ref 0], zhp p5)) rfl ?_
        refine zRgr rfl rfl rfl (by decide) (b := 180) rfl ?_
        refine zEv_k 1 (f' := (36, [some (.ref 0), some (.int x1), some (.int x2), some (.ref 7)], [.int x2, .ref 180], zhp p5)) rfl ?_
        obtain ⟨p6, hp6, H⟩ := zbs H
        refine zEv_c (fun _ => rfl) rfl (t_qTr_from (oo := 180) (x1 := x2) (h := p5) (d := d + 1) (by decide) hp6) rfl rfl ?_
        cases H
        exact zEv_r rfl
      · replace H := zif_f c4 H
        refine zEv_k 1 (f' := (22, [some (.ref 0), some (.int x1), some (.int x2), some (.ref 7)], [.int (-1)], zhp h)) rfl ?_
        cases H
        exact zEv_r rfl
    · refine zEv_c (fun _ => rfl) rfl (t_qCe_has (oo := 22) (x1 := x2) (h := h) (d := d + 2) (by decide) rfl) rfl rfl ?_
      refine zEv_k 1 (f' := (if ¬ (qCe_has 22 x2 h) = 0 then 23 else 21, [some (.ref 0), some (.int x1), some (.int x2), some (.ref 22)], [], zhp h)) rfl (zEv_if (fun c4 => ?_) (fun c4 => ?_))
      · replace H := zif_t c4 H
        refine zEv_k 1 (f' := (24, [some (.ref 0), some (.int x1), some (.int x2), some (.ref 22)], [.ref 0], zhp h)) rfl ?_
        refine zRgr rfl rfl rfl (by decide) (b := 180) rfl ?_
        refine zEv_k 1 (f' := (28, [some (.ref 0), some (.int x1), some (.int x2), some (.ref 22)], [.ref 22, .ref 180], zhp h)) rfl ?_
        obtain ⟨p5, hp5, H⟩ := zbs H
        refine zEv_c (fun _ => rfl) rfl (t_qTr_lookAt (oo := 180) (oc := 22) (h := h) (d := d) (by decide) hp5) rfl rfl ?_
        refine zEv_k 1 (f' := (32, [some (.ref 0), some (.int x1), some (.int x2), some (.ref 22)], [.ref 0], zhp p5)) rfl ?_
        refine zRgr rfl rfl rfl (by decide) (b := 180) rfl ?_
        refine zEv_k 1 (f' := (36, [some (.ref 0), some (.int x1), some (.int x2), some (.ref 22)], [.int x2, .ref 180], zhp p5)) rfl ?_
        obtain ⟨p6, hp6, H⟩ := zbs H
        refine zEv_c (fun _ => rfl) rfl (t_qTr_from (oo := 180) (x1 := x2) (h := p5) (d := d + 1) (by decide) hp6) rfl rfl ?_
        cases H
        exact zEv_r rfl
      · replace H := zif_f c4 H
        refine zEv_k 1 (f' := (22, [some (.ref 0), some (.int x1), some (.int x2), some (.ref 22)], [.int (-1)], zhp h)) rfl ?_
        cases H
        exact zEv_r rfl
def qC_laying_j28 (v2 : Nat) (x1 : Int32) (x2 : Int32) (h : zK) : Option (Int32 × zK) :=
  (qLa_find x1 v2 h).bind fun p5 =>
  if ¬ x2 = (-1) then
    (zix x2 7).bind fun j7 =>
    some (gI p5 185 j7, p5)
  else
    some (gI p5 184 0, p5)
theorem t_qC_laying_j28 {Ls : Nat} {xs : Nat → Int32} {d : Nat} {v2 : Nat} {x1 : Int32} {x2 : Int32} {h : zK} {p : Int32 × zK} (ho : v2 = 7 ∨ v2 = 22) (H : qC_laying_j28 v2 x1 x2 h = some p)  : zEv (zXs Ls xs) (d + 13) zm_121 (28, [some (.ref 0), some (.int x1), some (.int x2), some (.ref v2)], [], zhp h) (some (.int p.1), zhp p.2) := by
  unfold qC_laying_j28 at H
  rcases ho with rfl | rfl
  · refine zEv_k 1 (f' := (29, [some (.ref 0), some (.int x1), some (.int x2), some (.ref 7)], [.ref 0], zhp h)) rfl ?_
    refine zRgr rfl rfl rfl (by decide) (b := 184) rfl ?_
    refine zEv_k 2 (f' := (34, [some (.ref 0), some (.int x1), some (.int x2), some (.ref 7)], [.ref 7, .int x1, .ref 184], zhp h)) rfl ?_
    obtain ⟨p5, hp5, H⟩ := zbs H
    refine zEv_c (fun _ => rfl) rfl (t_qLa_find (x1 := x1) (oc := 7) (h := h) (d := d) (by decide) hp5) rfl rfl ?_
    refine zEv_k 3 (f' := (if ¬ x2 = (-1) then 52 else 42, [some (.ref 0), some (.int x1), some (.int x2), some (.ref 7)], [], zhp p5)) rfl (zEv_if (fun c6 => ?_) (fun c6 => ?_))
    · replace H := zif_t c6 H
      refine zEv_k 1 (f' := (53, [some (.ref 0), some (.int x1), some (.int x2), some (.ref 7)], [.ref 0], zhp p5)) rfl ?_
      refine zRgr rfl rfl rfl (by decide) (b := 184) rfl ?_
      refine zRgr rfl rfl rfl (by decide) (b := 185) rfl ?_
      refine zEv_k 1 (f' := (60, [some (.ref 0), some (.int x1), some (.int x2), some (.ref 7)], [.int x2, .ref 185], zhp p5)) rfl ?_
      obtain ⟨j7, hj7, H⟩ := zbs H
      refine zRia rfl rfl (by decide) hj7 ?_
      cases H
      exact zEv_r rfl
    · replace H := zif_f c6 H
      refine zEv_k 1 (f' := (43, [some (.ref 0), some (.int x1), some (.int x2), some (.ref 7)], [.ref 0], zhp p5)) rfl ?_
      refine zRgr rfl rfl rfl (by decide) (b := 184) rfl ?_
      refine zEv_k 2 (f' := (61, [some (.ref 0), some (.int x1), some (.int x2), some (.ref 7)], [.int (gI p5 184 0)], zhp p5)) rfl ?_
      cases H
      exact zEv_r rfl
  · refine zEv_k 1 (f' := (29, [some (.ref 0), some (.int x1), some (.int x2), some (.ref 22)], [.ref 0], zhp h)) rfl ?_
    refine zRgr rfl rfl rfl (by decide) (b := 184) rfl ?_
    refine zEv_k 2 (f' := (34, [some (.ref 0), some (.int x1), some (.int x2), some (.ref 22)], [.ref 22, .int x1, .ref 184], zhp h)) rfl ?_
    obtain ⟨p5, hp5, H⟩ := zbs H
    refine zEv_c (fun _ => rfl) rfl (t_qLa_find (x1 := x1) (oc := 22) (h := h) (d := d) (by decide) hp5) rfl rfl ?_
    refine zEv_k 3 (f' := (if ¬ x2 = (-1) then 52 else 42, [some (.ref 0), some (.int x1), some (.int x2), some (.ref 22)], [], zhp p5)) rfl (zEv_if (fun c6 => ?_) (fun c6 => ?_))
    · replace H := zif_t c6 H
      refine zEv_k 1 (f' := (53, [some (.ref 0), some (.int x1), some (.int x2), some (.ref 22)], [.ref 0], zhp p5)) rfl ?_
      refine zRgr rfl rfl rfl (by decide) (b := 184) rfl ?_
      refine zRgr rfl rfl rfl (by decide) (b := 185) rfl ?_
      refine zEv_k 1 (f' := (60, [some (.ref 0), some (.int x1), some (.int x2), some (.ref 22)], [.int x2, .ref 185], zhp p5)) rfl ?_
      obtain ⟨j7, hj7, H⟩ := zbs H
      refine zRia rfl rfl (by decide) hj7 ?_
      cases H
      exact zEv_r rfl
    · replace H := zif_f c6 H
      refine zEv_k 1 (f' := (43, [some (.ref 0), some (.int x1), some (.int x2), some (.ref 22)], [.ref 0], zhp p5)) rfl ?_
      refine zRgr rfl rfl rfl (by decide) (b := 184) rfl ?_
      refine zEv_k 2 (f' := (61, [some (.ref 0), some (.int x1), some (.int x2), some (.ref 22)], [.int (gI p5 184 0)], zhp p5)) rfl ?_
      cases H
      exact zEv_r rfl
def qC_laying (x1 : Int32) (x2 : Int32) (h : zK) : Option (Int32 × zK) :=
  (qT_cellarAt x1 h).bind fun p1 => match p1 with
  | none =>
    some (-1, h)
  | some v2 =>
    if x2 = (-1) then
      if v2 = 7 ∨ v2 = 22 then
        qC_laying_j28 v2 x1 x2 h
      else none
    else
      if v2 = 7 ∨ v2 = 22 then
        if ¬ (qCe_has v2 x2 h) = 0 then
          qC_laying_j28 v2 x1 x2 h
        else
          some (-1, h)
      else none
theorem t_qC_laying {Ls : Nat} {xs : Nat → Int32} {d : Nat} {x1 : Int32} {x2 : Int32} {h : zK} {p : Int32 × zK} (H : qC_laying x1 x2 h = some p) : zEv (zXs Ls xs) (d + 13) zm_121 (0, [some (.ref 0), some (.int x1), some (.int x2), none], [], zhp h) (some (.int p.1), zhp p.2) := by
  unfold qC_laying at H
  refine zEv_k 1 (f' := (1, [some (.ref 0), some (.int x1), some (.int x2), none], [.ref 0], zhp h)) rfl ?_
  refine zRgr rfl rfl rfl (by decide) (b := 1) rfl ?_
  refine zEv_k 1 (f' := (5, [some (.ref 0), some (.int x1), some (.int x2), none], [.int x1, .ref 1], zhp h)) rfl ?_
  obtain ⟨p1, hp1, H⟩ := zbs H
  refine zEv_c (fun _ => rfl) rfl (t_qT_cellarAt (x1 := x1) (h := h) (d := d + 12) hp1) rfl rfl ?_
  rcases p1 with _ | v2
  · dsimp only at H
    refine zEv_k 4 (f' := (27, [some (.ref 0), some (.int x1), some (.int x2), some (.null)], [.int (-1)], zhp h)) rfl ?_
    cases H
    exact zEv_r rfl
  · dsimp only at H
    refine zEv_k 6 (f' := (if x2 = (-1) then 28 else 18, [some (.ref 0), some (.int x1), some (.int x2), some (.ref v2)], [], zhp h)) rfl (zEv_if (fun c3 => ?_) (fun c3 => ?_))
    · replace H := zif_t c3 H
      obtain ⟨c4, H⟩ := zifn H
      rcases c4 with rfl | rfl
      · exact t_qC_laying_j28 (v2 := 7) (x1 := x1) (x2 := x2) (h := h) (by decide) H
      · exact t_qC_laying_j28 (v2 := 22) (x1 := x1) (x2 := x2) (h := h) (by decide) H
    · replace H := zif_f c3 H
      refine zEv_k 2 (f' := (20, [some (.ref 0), some (.int x1), some (.int x2), some (.ref v2)], [.int x2, .ref v2], zhp h)) rfl ?_
      obtain ⟨c8, H⟩ := zifn H
      rcases c8 with rfl | rfl
      · refine zEv_c (fun _ => rfl) rfl (t_qCe_has (oo := 7) (x1 := x2) (h := h) (d := d + 12) (by decide) rfl) rfl rfl ?_
        refine zEv_k 1 (f' := (if ¬ (qCe_has 7 x2 h) = 0 then 28 else 26, [some (.ref 0), some (.int x1), some (.int x2), some (.ref 7)], [], zhp h)) rfl (zEv_if (fun c9 => ?_) (fun c9 => ?_))
        · replace H := zif_t c9 H
          exact t_qC_laying_j28 (v2 := 7) (x1 := x1) (x2 := x2) (h := h) (by decide) H
        · replace H := zif_f c9 H
          refine zEv_k 1 (f' := (27, [some (.ref 0), some (.int x1), some (.int x2), some (.ref 7)], [.int (-1)], zhp h)) rfl ?_
          cases H
          exact zEv_r rfl
      · refine zEv_c (fun _ => rfl) rfl (t_qCe_has (oo := 22) (x1 := x2) (h := h) (d := d + 12) (by decide) rfl) rfl rfl ?_
        refine zEv_k 1 (f' := (if ¬ (qCe_has 22 x2 h) = 0 then 28 else 26, [some (.ref 0), some (.int x1), some (.int x2), some (.ref 22)], [], zhp h)) rfl (zEv_if (fun c9 => ?_) (fun c9 => ?_))
        · replace H := zif_t c9 H
          exact t_qC_laying_j28 (v2 := 22) (x1 := x1) (x2 := x2) (h := h) (by decide) H
        · replace H := zif_f c9 H
          refine zEv_k 1 (f' := (27, [some (.ref 0), some (.int x1), some (.int x2), some (.ref 22)], [.int (-1)], zhp h)) rfl ?_
          cases H
          exact zEv_r rfl
def qC_life (x1 : Int32) (x2 : Int32) (h : zK) : Option (Int32) :=
  (qT_cellarAt x1 h).bind fun p1 => match p1 with
  | none =>
    some (-1)
  | some v2 =>
    if v2 = 7 ∨ v2 = 22 then
      if ¬ (qCe_has v2 x2 h) = 0 then
        (qCe_lifeOf v2 x2 h).bind fun p5 =>
        some p5
      else
        some (-1)
    else none
theorem t_qC_life {Ls : Nat} {xs : Nat → Int32} {d : Nat} {x1 : Int32} {x2 : Int32} {h : zK} {p : Int32} (H : qC_life x1 x2 h = some p) : zEv (zXs Ls xs) (d + 1) zm_122 (0, [some (.ref 0), some (.int x1), some (.int x2), none], [], zhp h) (some (.int p), zhp h) := by
  unfold qC_life at H
  refine zEv_k 1 (f' := (1, [some (.ref 0), some (.int x1), some (.int x2), none], [.ref 0], zhp h)) rfl ?_
  refine zRgr rfl rfl rfl (by decide) (b := 1) rfl ?_
  refine zEv_k 1 (f' := (5, [some (.ref 0), some (.int x1), some (.int x2), none], [.int x1, .ref 1], zhp h)) rfl ?_
  obtain ⟨p1, hp1, H⟩ := zbs H
  refine zEv_c (fun _ => rfl) rfl (t_qT_cellarAt (x1 := x1) (h := h) (d := d) hp1) rfl rfl ?_
  rcases p1 with _ | v2
  · dsimp only at H
    refine zEv_k 4 (f' := (22, [some (.ref 0), some (.int x1), some (.int x2), some (.null)], [.int (-1)], zhp h)) rfl ?_
    cases H
    exact zEv_r rfl
  · dsimp only at H
    refine zEv_k 5 (f' := (15, [some (.ref 0), some (.int x1), some (.int x2), some (.ref v2)], [.int x2, .ref v2], zhp h)) rfl ?_
    obtain ⟨c3, H⟩ := zifn H
    rcases c3 with rfl | rfl
    · refine zEv_c (fun _ => rfl) rfl (t_qCe_has (oo := 7) (x1 := x2) (h := h) (d := d) (by decide) rfl) rfl rfl ?_
      refine zEv_k 1 (f' := (if ¬ (qCe_has 7 x2 h) = 0 then 23 else 21, [some (.ref 0), some (.int x1), some (.int x2), some (.ref 7)], [], zhp h)) rfl (zEv_if (fun c4 => ?_) (fun c4 => ?_))
      · replace H := zif_t c4 H
        refine zEv_k 2 (f' := (25, [some (.ref 0), some (.int x1), some (.int x2), some (.ref 7)], [.int x2, .ref 7], zhp h)) rfl ?_
        obtain ⟨p5, hp5, H⟩ := zbs H
        refine zEv_c (fun _ => rfl) rfl (t_qCe_lifeOf (oo := 7) (x1 := x2) (h := h) (d := d) (by decide) hp5) rfl rfl ?_
        cases H
        exact zEv_r rfl
      · replace H := zif_f c4 H
        refine zEv_k 1 (f' := (22, [some (.ref 0), some (.int x1), some (.int x2), some (.ref 7)], [.int (-1)], zhp h)) rfl ?_
        cases H
        exact zEv_r rfl
    · refine zEv_c (fun _ => rfl) rfl (t_qCe_has (oo := 22) (x1 := x2) (h := h) (d := d) (by decide) rfl) rfl rfl ?_
      refine zEv_k 1 (f' := (if ¬ (qCe_has 22 x2 h) = 0 then 23 else 21, [some (.ref 0), some (.int x1), some (.int x2), some (.ref 22)], [], zhp h)) rfl (zEv_if (fun c4 => ?_) (fun c4 => ?_))
      · replace H := zif_t c4 H
        refine zEv_k 2 (f' := (25, [some (.ref 0), some (.int x1), some (.int x2), some (.ref 22)], [.int x2, .ref 22], zhp h)) rfl ?_
        obtain ⟨p5, hp5, H⟩ := zbs H
        refine zEv_c (fun _ => rfl) rfl (t_qCe_lifeOf (oo := 22) (x1 := x2) (h := h) (d := d) (by decide) hp5) rfl rfl ?_
        cases H
        exact zEv_r rfl
      · replace H := zif_f c4 H
        refine zEv_k 1 (f' := (22, [some (.ref 0), some (.int x1), some (.int x2), some (.ref 22)], [.int (-1)], zhp h)) rfl ?_
        cases H
        exact zEv_r rfl
def qC_plan (x1 : Int32) (x2 : Int32) (x3 : Int32) (h : zK) : Option (Int32 × zK) :=
  (qT_cellarAt x1 h).bind fun p1 => match p1 with
  | none =>
    some (-1, h)
  | some v2 =>
    if x2 < 0 then
      some (-1, h)
    else
      if 10 < x2 then
        some (-1, h)
      else
        if x3 < (-1) then
          some (-1, h)
        else
          if x3 < x2 then
            if v2 = 7 ∨ v2 = 22 then
              (qOr_bestPlan v2 x2 h).bind fun p8 =>
              if ¬ x3 = (-1) then
                (zix x3 10).bind fun j10 =>
                some (gI p8 193 j10, p8)
              else
                some (gI p8 192 0, p8)
            else none
          else
            some (-1, h)
theorem t_qC_plan {Ls : Nat} {xs : Nat → Int32} {d : Nat} {x1 : Int32} {x2 : Int32} {x3 : Int32} {h : zK} {p : Int32 × zK} (H : qC_plan x1 x2 x3 h = some p) : zEv (zXs Ls xs) (d + 4) zm_123 (0, [some (.ref 0), some (.int x1), some (.int x2), some (.int x3), none], [], zhp h) (some (.int p.1), zhp p.2) := by
  unfold qC_plan at H
  refine zEv_k 1 (f' := (1, [some (.ref 0), some (.int x1), some (.int x2), some (.int x3), none], [.ref 0], zhp h)) rfl ?_
  refine zRgr rfl rfl rfl (by decide) (b := 1) rfl ?_
  refine zEv_k 1 (f' := (5, [some (.ref 0), some (.int x1), some (.int x2), some (.int x3), none], [.int x1, .ref 1], zhp h)) rfl ?_
  obtain ⟨p1, hp1, H⟩ := zbs H
  refine zEv_c (fun _ => rfl) rfl (t_qT_cellarAt (x1 := x1) (h := h) (d := d + 3) hp1) rfl rfl ?_
  rcases p1 with _ | v2
  · dsimp only at H
    refine zEv_k 4 (f' := (36, [some (.ref 0), some (.int x1), some (.int x2), some (.int x3), some (.null)], [.int (-1)], zhp h)) rfl ?_
    cases H
    exact zEv_r rfl
  · dsimp only at H
    refine zEv_k 5 (f' := (if x2 < 0 then 35 else 19, [some (.ref 0), some (.int x1), some (.int x2), some (.int x3), some (.ref v2)], [], zhp h)) rfl (zEv_if (fun c3 => ?_) (fun c3 => ?_))
    · replace H := zif_t c3 H
      refine zEv_k 1 (f' := (36, [some (.ref 0), some (.int x1), some (.int x2), some (.int x3), some (.ref v2)], [.int (-1)], zhp h)) rfl ?_
      cases H
      exact zEv_r rfl
    · replace H := zif_f c3 H
      refine zEv_k 3 (f' := (if 10 < x2 then 35 else 25, [some (.ref 0), some (.int x1), some (.int x2), some (.int x3), some (.ref v2)], [], zhp h)) rfl (zEv_if (fun c4 => ?_) (fun c4 => ?_))
      · replace H := zif_t c4 H
        refine zEv_k 1 (f' := (36, [some (.ref 0), some (.int x1), some (.int x2), some (.int x3), some (.ref v2)], [.int (-1)], zhp h)) rfl ?_
        cases H
        exact zEv_r rfl
      · replace H := zif_f c4 H
        refine zEv_k 3 (f' := (if x3 < (-1) then 35 else 30, [some (.ref 0), some (.int x1), some (.int x2), some (.int x3), some (.ref v2)], [], zhp h)) rfl (zEv_if (fun c5 => ?_) (fun c5 => ?_))
        · replace H := zif_t c5 H
          refine zEv_k 1 (f' := (36, [some (.ref 0), some (.int x1), some (.int x2), some (.int x3), some (.ref v2)], [.int (-1)], zhp h)) rfl ?_
          cases H
          exact zEv_r rfl
        · replace H := zif_f c5 H
          refine zEv_k 3 (f' := (if x3 < x2 then 37 else 35, [some (.ref 0), some (.int x1), some (.int x2), some (.int x3), some (.ref v2)], [], zhp h)) rfl (zEv_if (fun c6 => ?_) (fun c6 => ?_))
          · replace H := zif_t c6 H
            refine zEv_k 1 (f' := (38, [some (.ref 0), some (.int x1), some (.int x2), some (.int x3), some (.ref v2)], [.ref 0], zhp h)) rfl ?_
            refine zRgr rfl rfl rfl (by decide) (b := 192) rfl ?_
            refine zEv_k 2 (f' := (44, [some (.ref 0), some (.int x1), some (.int x2), some (.int x3), some (.ref v2)], [.int x2, .ref v2, .ref 192], zhp h)) rfl ?_
            obtain ⟨c7, H⟩ := zifn H
            rcases c7 with rfl | rfl
            · obtain ⟨p8, hp8, H⟩ := zbs H
              refine zEv_c (fun _ => rfl) rfl (t_qOr_bestPlan (oc := 7) (x2 := x2) (h := h) (d := d) (by decide) hp8) rfl rfl ?_
              refine zEv_k 3 (f' := (if ¬ x3 = (-1) then 62 else 52, [some (.ref 0), some (.int x1), some (.int x2), some (.int x3), some (.ref 7)], [], zhp p8)) rfl (zEv_if (fun c9 => ?_) (fun c9 => ?_))
              · replace H := zif_t c9 H
                refine zEv_k 1 (f' := (63, [some (.ref 0), some (.int x1), some (.int x2), some (.int x3), some (.ref 7)], [.ref 0], zhp p8)) rfl ?_
                refine zRgr rfl rfl rfl (by decide) (b := 192) rfl ?_
                refine zRgr rfl rfl rfl (by decide) (b := 193) rfl ?_
                refine zEv_k 1 (f' := (70, [some (.ref 0), some (.int x1), some (.int x2), some (.int x3), some (.ref 7)], [.int x3, .ref 193], zhp p8)) rfl ?_
                obtain ⟨j10, hj10, H⟩ := zbs H
                refine zRia rfl rfl (by decide) hj10 ?_
                cases H
                exact zEv_r rfl
              · replace H := zif_f c9 H
                refine zEv_k 1 (f' := (53, [some (.ref 0), some (.int x1), some (.int x2), some (.int x3), some (.ref 7)], [.ref 0], zhp p8)) rfl ?_
                refine zRgr rfl rfl rfl (by decide) (b := 192) rfl ?_
                refine zEv_k 2 (f' := (71, [some (.ref 0), some (.int x1), some (.int x2), some (.int x3), some (.ref 7)], [.int (gI p8 192 0)], zhp p8)) rfl ?_
                cases H
                exact zEv_r rfl
            · obtain ⟨p8, hp8, H⟩ := zbs H
              refine zEv_c (fun _ => rfl) rfl (t_qOr_bestPlan (oc := 22) (x2 := x2) (h := h) (d := d) (by decide) hp8) rfl rfl ?_
              refine zEv_k 3 (f' := (if ¬ x3 = (-1) then 62 else 52, [some (.ref 0), some (.int x1), some (.int x2), some (.int x3), some (.ref 22)], [], zhp p8)) rfl (zEv_if (fun c9 => ?_) (fun c9 => ?_))
              · replace H := zif_t c9 H
                refine zEv_k 1 (f' := (63, [some (.ref 0), some (.int x1), some (.int x2), some (.int x3), some (.ref 22)], [.ref 0], zhp p8)) rfl ?_
                refine zRgr rfl rfl rfl (by decide) (b := 192) rfl ?_
                refine zRgr rfl rfl rfl (by decide) (b := 193) rfl ?_
                refine zEv_k 1 (f' := (70, [some (.ref 0), some (.int x1), some (.int x2), some (.int x3), some (.ref 22)], [.int x3, .ref 193], zhp p8)) rfl ?_
                obtain ⟨j10, hj10, H⟩ := zbs H
                refine zRia rfl rfl (by decide) hj10 ?_
                cases H
                exact zEv_r rfl
              · replace H := zif_f c9 H
                refine zEv_k 1 (f' := (53, [some (.ref 0), some (.int x1), some (.int x2), some (.int x3), some (.ref 22)], [.ref 0], zhp p8)) rfl ?_
                refine zRgr rfl rfl rfl (by decide) (b := 192) rfl ?_
                refine zEv_k 2 (f' := (71, [some (.ref 0), some (.int x1), some (.int x2), some (.int x3), some (.ref 22)], [.int (gI p8 192 0)], zhp p8)) rfl ?_
                cases H
                exact zEv_r rfl
          · replace H := zif_f c6 H
            refine zEv_k 1 (f' := (36, [some (.ref 0), some (.int x1), some (.int x2), some (.int x3), some (.ref v2)], [.int (-1)], zhp h)) rfl ?_
            cases H
            exact zEv_r rfl
def qC_talk (x1 : Int32) (x2 : Int32) (h : zK) : Option (Int32 × zK) :=
  (qT_cellarAt x1 h).bind fun p1 => match p1 with
  | none =>
    some (-1, h)
  | some v2 =>
    if v2 = 7 ∨ v2 = 22 then
      (qOr_bestRow v2 1 h).bind fun p4 =>
      (qOr_worthOrNumber x2 p4).bind fun p5 =>
      some (p5, p4)
    else none
theorem t_qC_talk {Ls : Nat} {xs : Nat → Int32} {d : Nat} {x1 : Int32} {x2 : Int32} {h : zK} {p : Int32 × zK} (H : qC_talk x1 x2 h = some p) : zEv (zXs Ls xs) (d + 5) zm_124 (0, [some (.ref 0), some (.int x1), some (.int x2), none], [], zhp h) (some (.int p.1), zhp p.2) := by
  unfold qC_talk at H
  refine zEv_k 1 (f' := (1, [some (.ref 0), some (.int x1), some (.int x2), none], [.ref 0], zhp h)) rfl ?_
  refine zRgr rfl rfl rfl (by decide) (b := 1) rfl ?_
  refine zEv_k 1 (f' := (5, [some (.ref 0), some (.int x1), some (.int x2), none], [.int x1, .ref 1], zhp h)) rfl ?_
  obtain ⟨p1, hp1, H⟩ := zbs H
  refine zEv_c (fun _ => rfl) rfl (t_qT_cellarAt (x1 := x1) (h := h) (d := d + 4) hp1) rfl rfl ?_
  rcases p1 with _ | v2
  · dsimp only at H
    refine zEv_k 4 (f' := (14, [some (.ref 0), some (.int x1), some (.int x2), some (.null)], [.int (-1)], zhp h)) rfl ?_
    cases H
    exact zEv_r rfl
  · dsimp only at H
    refine zEv_k 4 (f' := (16, [some (.ref 0), some (.int x1), some (.int x2), some (.ref v2)], [.ref 0], zhp h)) rfl ?_
    refine zRgr rfl rfl rfl (by decide) (b := 192) rfl ?_
    refine zEv_k 2 (f' := (21, [some (.ref 0), some (.int x1), some (.int x2), some (.ref v2)], [.int 1, .ref v2, .ref 192], zhp h)) rfl ?_
    obtain ⟨c3, H⟩ := zifn H
    rcases c3 with rfl | rfl
    · obtain ⟨p4, hp4, H⟩ := zbs H
      refine zEv_c (fun _ => rfl) rfl (t_qOr_bestRow (oc := 7) (x2 := 1) (h := h) (d := d) (by decide) hp4) rfl rfl ?_
      refine zEv_k 1 (f' := (25, [some (.ref 0), some (.int x1), some (.int x2), some (.ref 7)], [.ref 0], zhp p4)) rfl ?_
      refine zRgr rfl rfl rfl (by decide) (b := 192) rfl ?_
      refine zEv_k 1 (f' := (29, [some (.ref 0), some (.int x1), some (.int x2), some (.ref 7)], [.int x2, .ref 192], zhp p4)) rfl ?_
      obtain ⟨p5, hp5, H⟩ := zbs H
      refine zEv_c (fun _ => rfl) rfl (t_qOr_worthOrNumber (x1 := x2) (h := p4) (d := d + 4) hp5) rfl rfl ?_
      cases H
      exact zEv_r rfl
    · obtain ⟨p4, hp4, H⟩ := zbs H
      refine zEv_c (fun _ => rfl) rfl (t_qOr_bestRow (oc := 22) (x2 := 1) (h := h) (d := d) (by decide) hp4) rfl rfl ?_
      refine zEv_k 1 (f' := (25, [some (.ref 0), some (.int x1), some (.int x2), some (.ref 22)], [.ref 0], zhp p4)) rfl ?_
      refine zRgr rfl rfl rfl (by decide) (b := 192) rfl ?_
      refine zEv_k 1 (f' := (29, [some (.ref 0), some (.int x1), some (.int x2), some (.ref 22)], [.int x2, .ref 192], zhp p4)) rfl ?_
      obtain ⟨p5, hp5, H⟩ := zbs H
      refine zEv_c (fun _ => rfl) rfl (t_qOr_worthOrNumber (x1 := x2) (h := p4) (d := d + 4) hp5) rfl rfl ?_
      cases H
      exact zEv_r rfl
def qC_dinner (x1 : Int32) (x2 : Int32) (h : zK) : Option (Int32 × zK) :=
  (qT_cellarAt x1 h).bind fun p1 => match p1 with
  | none =>
    some (-1, h)
  | some v2 =>
    if v2 = 7 ∨ v2 = 22 then
      (qOr_bestRow v2 0 h).bind fun p4 =>
      (qOr_worthOrNumber x2 p4).bind fun p5 =>
      some (p5, p4)
    else none
theorem t_qC_dinner {Ls : Nat} {xs : Nat → Int32} {d : Nat} {x1 : Int32} {x2 : Int32} {h : zK} {p : Int32 × zK} (H : qC_dinner x1 x2 h = some p) : zEv (zXs Ls xs) (d + 5) zm_125 (0, [some (.ref 0), some (.int x1), some (.int x2), none], [], zhp h) (some (.int p.1), zhp p.2) := by
  unfold qC_dinner at H
  refine zEv_k 1 (f' := (1, [some (.ref 0), some (.int x1), some (.int x2), none], [.ref 0], zhp h)) rfl ?_
  refine zRgr rfl rfl rfl (by decide) (b := 1) rfl ?_
  refine zEv_k 1 (f' := (5, [some (.ref 0), some (.int x1), some (.int x2), none], [.int x1, .ref 1], zhp h)) rfl ?_
  obtain ⟨p1, hp1, H⟩ := zbs H
  refine zEv_c (fun _ => rfl) rfl (t_qT_cellarAt (x1 := x1) (h := h) (d := d + 4) hp1) rfl rfl ?_
  rcases p1 with _ | v2
  · dsimp only at H
    refine zEv_k 4 (f' := (14, [some (.ref 0), some (.int x1), some (.int x2), some (.null)], [.int (-1)], zhp h)) rfl ?_
    cases H
    exact zEv_r rfl
  · dsimp only at H
    refine zEv_k 4 (f' := (16, [some (.ref 0), some (.int x1), some (.int x2), some (.ref v2)], [.ref 0], zhp h)) rfl ?_
    refine zRgr rfl rfl rfl (by decide) (b := 192) rfl ?_
    refine zEv_k 2 (f' := (21, [some (.ref 0), some (.int x1), some (.int x2), some (.ref v2)], [.int 0, .ref v2, .ref 192], zhp h)) rfl ?_
    obtain ⟨c3, H⟩ := zifn H
    rcases c3 with rfl | rfl
    · obtain ⟨p4, hp4, H⟩ := zbs H
      refine zEv_c (fun _ => rfl) rfl (t_qOr_bestRow (oc := 7) (x2 := 0) (h := h) (d := d) (by decide) hp4) rfl rfl ?_
      refine zEv_k 1 (f' := (25, [some (.ref 0), some (.int x1), some (.int x2), some (.ref 7)], [.ref 0], zhp p4)) rfl ?_
      refine zRgr rfl rfl rfl (by decide) (b := 192) rfl ?_
      refine zEv_k 1 (f' := (29, [some (.ref 0), some (.int x1), some (.int x2), some (.ref 7)], [.int x2, .ref 192], zhp p4)) rfl ?_
      obtain ⟨p5, hp5, H⟩ := zbs H
      refine zEv_c (fun _ => rfl) rfl (t_qOr_worthOrNumber (x1 := x2) (h := p4) (d := d + 4) hp5) rfl rfl ?_
      cases H
      exact zEv_r rfl
    · obtain ⟨p4, hp4, H⟩ := zbs H
      refine zEv_c (fun _ => rfl) rfl (t_qOr_bestRow (oc := 22) (x2 := 0) (h := h) (d := d) (by decide) hp4) rfl rfl ?_
      refine zEv_k 1 (f' := (25, [some (.ref 0), some (.int x1), some (.int x2), some (.ref 22)], [.ref 0], zhp p4)) rfl ?_
      refine zRgr rfl rfl rfl (by decide) (b := 192) rfl ?_
      refine zEv_k 1 (f' := (29, [some (.ref 0), some (.int x1), some (.int x2), some (.ref 22)], [.int x2, .ref 192], zhp p4)) rfl ?_
      obtain ⟨p5, hp5, H⟩ := zbs H
      refine zEv_c (fun _ => rfl) rfl (t_qOr_worthOrNumber (x1 := x2) (h := p4) (d := d + 4) hp5) rfl rfl ?_
      cases H
      exact zEv_r rfl
def qLk_wiresFor_b4 (oc : Nat) (x1 : Int32) (h : zK) (s : Int32 × Int32) : Option ((Int32 × Int32) ⊕ ((Int32) ⊕ (Int32))) :=
  if (gI h oc 2) ≤ s.2 then
    some (.inr (.inl s.1))
  else
    if x1 ≤ 0 then
      some (.inr (.inl s.1))
    else
      (zix s.2 7).bind fun j3 =>
      if (((gI h (oc + 3) j3) + ((gI h (oc + 4) j3) * x1)) - (gI h (oc + 5) j3)) ≤ 5 then
        zlet (
            if (((gI h (oc + 3) j3) + ((gI h (oc + 4) j3) * x1)) - (gI h (oc + 5) j3)) ≤ 0 then
              s.1
            else
              s.1 ||| ((1 : Int32) <<< (s.2 &&& 31))
          ) fun (v6 : Int32) =>
        some (.inl (v6, s.2 + 1))
      else
        some (.inr (.inr (-1)))
theorem t_qLk_wiresFor_b4b {Ls : Nat} {xs : Nat → Int32} {d : Nat} {oc : Nat} {x1 : Int32} {h : zK} {r : zA} {s : Int32 × Int32} {e : (Int32 × Int32) ⊕ ((Int32) ⊕ (Int32))} (ho : oc = 7 ∨ oc = 22) (H : qLk_wiresFor_b4 oc x1 h s = some e) (K : match (generalizing := false) e with | .inl s' => ∀ (z4 : Option Value), zEv (zXs Ls xs) d zm_283 (4, [some (.ref oc), some (.int x1), some (.int s'.1), some (.int s'.2), z4], [], zhp h) r | .inr (.inl v) => ∀ (z3 : Option Value) (z4 : Option Value), zEv (zXs Ls xs) d zm_283 (65, [some (.ref oc), some (.int x1), some (.int v), z3, z4], [], zhp h) r | .inr (.inr p) => (some (.int p), zhp h) = r) (y4 : Option Value) : zEv (zXs Ls xs) d zm_283 (4, [some (.ref oc), some (.int x1), some (.int s.1), some (.int s.2), y4], [], zhp h) r := by
  unfold qLk_wiresFor_b4 at H
  rcases ho with rfl | rfl
  · refine zEv_k 4 (f' := (if (gI h 7 2) ≤ s.2 then 65 else 12, [some (.ref 7), some (.int x1), some (.int s.1), some (.int s.2), y4], [], zhp h)) rfl (zEv_if (fun c1 => ?_) (fun c1 => ?_))
    · replace H := zif_t c1 H
      cases H
      exact K _ _
    · replace H := zif_f c1 H
      refine zEv_k 2 (f' := (if x1 ≤ 0 then 65 else 16, [some (.ref 7), some (.int x1), some (.int s.1), some (.int s.2), y4], [], zhp h)) rfl (zEv_if (fun c2 => ?_) (fun c2 => ?_))
      · replace H := zif_t c2 H
        cases H
        exact K _ _
      · replace H := zif_f c2 H
        refine zEv_k 1 (f' := (17, [some (.ref 7), some (.int x1), some (.int s.1), some (.int s.2), y4], [.ref 7], zhp h)) rfl ?_
        refine zRgr rfl rfl rfl (by decide) (b := 7 + 3) rfl ?_
        refine zEv_k 1 (f' := (21, [some (.ref 7), some (.int x1), some (.int s.1), some (.int s.2), y4], [.int s.2, .ref (7 + 3)], zhp h)) rfl ?_
        obtain ⟨j3, hj3, H⟩ := zbs H
        refine zRia rfl rfl (by decide) hj3 ?_
        refine zEv_k 1 (f' := (23, [some (.ref 7), some (.int x1), some (.int s.1), some (.int s.2), y4], [.ref 7, .int (gI h (7 + 3) j3)], zhp h)) rfl ?_
        refine zRgr rfl rfl rfl (by decide) (b := 7 + 4) rfl ?_
        refine zEv_k 1 (f' := (27, [some (.ref 7), some (.int x1), some (.int s.1), some (.int s.2), y4], [.int s.2, .ref (7 + 4), .int (gI h (7 + 3) j3)], zhp h)) rfl ?_
        refine zRia rfl rfl (by decide) hj3 ?_
        refine zEv_k 4 (f' := (32, [some (.ref 7), some (.int x1), some (.int s.1), some (.int s.2), y4], [.ref 7, .int ((gI h (7 + 3) j3) + ((gI h (7 + 4) j3) * x1))], zhp h)) rfl ?_
        refine zRgr rfl rfl rfl (by decide) (b := 7 + 5) rfl ?_
        refine zEv_k 1 (f' := (36, [some (.ref 7), some (.int x1), some (.int s.1), some (.int s.2), y4], [.int s.2, .ref (7 + 5), .int ((gI h (7 + 3) j3) + ((gI h (7 + 4) j3) * x1))], zhp h)) rfl ?_
        refine zRia rfl rfl (by decide) hj3 ?_
        refine zEv_k 5 (f' := (if (((gI h (7 + 3) j3) + ((gI h (7 + 4) j3) * x1)) - (gI h (7 + 5) j3)) ≤ 5 then 48 else 46, [some (.ref 7), some (.int x1), some (.int s.1), some (.int s.2), some (.int (((gI h (7 + 3) j3) + ((gI h (7 + 4) j3) * x1)) - (gI h (7 + 5) j3)))], [], zhp h)) rfl (zEv_if (fun c4 => ?_) (fun c4 => ?_))
        · replace H := zif_t c4 H
          obtain ⟨v6, hv6, H⟩ := zlets H
          have kv6 : zEv (zXs Ls xs) d zm_283 (59, [some (.ref 7), some (.int x1), some (.int v6), some (.int s.2), some (.int (((gI h (7 + 3) j3) + ((gI h (7 + 4) j3) * x1)) - (gI h (7 + 5) j3)))], [], zhp h) r := by
            refine zEv_k 2 (f' := (4, [some (.ref 7), some (.int x1), some (.int v6), some (.int (s.2 + 1)), some (.int (((gI h (7 + 3) j3) + ((gI h (7 + 4) j3) * x1)) - (gI h (7 + 5) j3)))], [], zhp h)) rfl ?_
            cases H
            exact K _
          clear H
          refine zEv_k 2 (f' := (if (((gI h (7 + 3) j3) + ((gI h (7 + 4) j3) * x1)) - (gI h (7 + 5) j3)) ≤ 0 then 59 else 53, [some (.ref 7), some (.int x1), some (.int s.1), some (.int s.2), some (.int (((gI h (7 + 3) j3) + ((gI h (7 + 4) j3) * x1)) - (gI h (7 + 5) j3)))], [], zhp h)) rfl (zEv_if (fun c5 => ?_) (fun c5 => ?_))
          · replace hv6 := zif_t c5 hv6
            cases hv6
            exact kv6
          · replace hv6 := zif_f c5 hv6
            refine zEv_k 6 (f' := (59, [some (.ref 7), some (.int x1), some (.int (s.1 ||| ((1 : Int32) <<< (s.2 &&& 31)))), some (.int s.2), some (.int (((gI h (7 + 3) j3) + ((gI h (7 + 4) j3) * x1)) - (gI h (7 + 5) j3)))], [], zhp h)) rfl ?_
            cases hv6
            exact kv6
        · replace H := zif_f c4 H
          refine zEv_k 1 (f' := (47, [some (.ref 7), some (.int x1), some (.int s.1), some (.int s.2), some (.int (((gI h (7 + 3) j3) + ((gI h (7 + 4) j3) * x1)) - (gI h (7 + 5) j3)))], [.int (-1)], zhp h)) rfl ?_
          cases H
          exact zEv_re K rfl
  · refine zEv_k 4 (f' := (if (gI h 22 2) ≤ s.2 then 65 else 12, [some (.ref 22), some (.int x1), some (.int s.1), some (.int s.2), y4], [], zhp h)) rfl (zEv_if (fun c1 => ?_) (fun c1 => ?_))
    · replace H := zif_t c1 H
      cases H
      exact K _ _
    · replace H := zif_f c1 H
      refine zEv_k 2 (f' := (if x1 ≤ 0 then 65 else 16, [some (.ref 22), some (.int x1), some (.int s.1), some (.int s.2), y4], [], zhp h)) rfl (zEv_if (fun c2 => ?_) (fun c2 => ?_))
      · replace H := zif_t c2 H
        cases H
        exact K _ _
      · replace H := zif_f c2 H
        refine zEv_k 1 (f' := (17, [some (.ref 22), some (.int x1), some (.int s.1), some (.int s.2), y4], [.ref 22], zhp h)) rfl ?_
        refine zRgr rfl rfl rfl (by decide) (b := 22 + 3) rfl ?_
        refine zEv_k 1 (f' := (21, [some (.ref 22), some (.int x1), some (.int s.1), some (.int s.2), y4], [.int s.2, .ref (22 + 3)], zhp h)) rfl ?_
        obtain ⟨j3, hj3, H⟩ := zbs H
        refine zRia rfl rfl (by decide) hj3 ?_
        refine zEv_k 1 (f' := (23, [some (.ref 22), some (.int x1), some (.int s.1), some (.int s.2), y4], [.ref 22, .int (gI h (22 + 3) j3)], zhp h)) rfl ?_
        refine zRgr rfl rfl rfl (by decide) (b := 22 + 4) rfl ?_
        refine zEv_k 1 (f' := (27, [some (.ref 22), some (.int x1), some (.int s.1), some (.int s.2), y4], [.int s.2, .ref (22 + 4), .int (gI h (22 + 3) j3)], zhp h)) rfl ?_
        refine zRia rfl rfl (by decide) hj3 ?_
        refine zEv_k 4 (f' := (32, [some (.ref 22), some (.int x1), some (.int s.1), some (.int s.2), y4], [.ref 22, .int ((gI h (22 + 3) j3) + ((gI h (22 + 4) j3) * x1))], zhp h)) rfl ?_
        refine zRgr rfl rfl rfl (by decide) (b := 22 + 5) rfl ?_
        refine zEv_k 1 (f' := (36, [some (.ref 22), some (.int x1), some (.int s.1), some (.int s.2), y4], [.int s.2, .ref (22 + 5), .int ((gI h (22 + 3) j3) + ((gI h (22 + 4) j3) * x1))], zhp h)) rfl ?_
        refine zRia rfl rfl (by decide) hj3 ?_
        refine zEv_k 5 (f' := (if (((gI h (22 + 3) j3) + ((gI h (22 + 4) j3) * x1)) - (gI h (22 + 5) j3)) ≤ 5 then 48 else 46, [some (.ref 22), some (.int x1), some (.int s.1), some (.int s.2), some (.int (((gI h (22 + 3) j3) + ((gI h (22 + 4) j3) * x1)) - (gI h (22 + 5) j3)))], [], zhp h)) rfl (zEv_if (fun c4 => ?_) (fun c4 => ?_))
        · replace H := zif_t c4 H
          obtain ⟨v6, hv6, H⟩ := zlets H
          have kv6 : zEv (zXs Ls xs) d zm_283 (59, [some (.ref 22), some (.int x1), some (.int v6), some (.int s.2), some (.int (((gI h (22 + 3) j3) + ((gI h (22 + 4) j3) * x1)) - (gI h (22 + 5) j3)))], [], zhp h) r := by
            refine zEv_k 2 (f' := (4, [some (.ref 22), some (.int x1), some (.int v6), some (.int (s.2 + 1)), some (.int (((gI h (22 + 3) j3) + ((gI h (22 + 4) j3) * x1)) - (gI h (22 + 5) j3)))], [], zhp h)) rfl ?_
            cases H
            exact K _
          clear H
          refine zEv_k 2 (f' := (if (((gI h (22 + 3) j3) + ((gI h (22 + 4) j3) * x1)) - (gI h (22 + 5) j3)) ≤ 0 then 59 else 53, [some (.ref 22), some (.int x1), some (.int s.1), some (.int s.2), some (.int (((gI h (22 + 3) j3) + ((gI h (22 + 4) j3) * x1)) - (gI h (22 + 5) j3)))], [], zhp h)) rfl (zEv_if (fun c5 => ?_) (fun c5 => ?_))
          · replace hv6 := zif_t c5 hv6
            cases hv6
            exact kv6
          · replace hv6 := zif_f c5 hv6
            refine zEv_k 6 (f' := (59, [some (.ref 22), some (.int x1), some (.int (s.1 ||| ((1 : Int32) <<< (s.2 &&& 31)))), some (.int s.2), some (.int (((gI h (22 + 3) j3) + ((gI h (22 + 4) j3) * x1)) - (gI h (22 + 5) j3)))], [], zhp h)) rfl ?_
            cases hv6
            exact kv6
        · replace H := zif_f c4 H
          refine zEv_k 1 (f' := (47, [some (.ref 22), some (.int x1), some (.int s.1), some (.int s.2), some (.int (((gI h (22 + 3) j3) + ((gI h (22 + 4) j3) * x1)) - (gI h (22 + 5) j3)))], [.int (-1)], zhp h)) rfl ?_
          cases H
          exact zEv_re K rfl
theorem t_qLk_wiresFor_b4 {Ls : Nat} {xs : Nat → Int32} {d : Nat} {oc : Nat} {x1 : Int32} {h : zK} {r : zA} (ho : oc = 7 ∨ oc = 22) {t : (Int32) ⊕ (Int32)} (K : (match (generalizing := false) t with | .inl v => ∀ (z3 : Option Value) (z4 : Option Value), zEv (zXs Ls xs) d zm_283 (65, [some (.ref oc), some (.int x1), some (.int v), z3, z4], [], zhp h) r | .inr p => (some (.int p), zhp h) = r)) (n : Nat) (s : Int32 × Int32) (H : zloop (qLk_wiresFor_b4 oc x1 h) n s = some t) (y4 : Option Value) : zEv (zXs Ls xs) d zm_283 (4, [some (.ref oc), some (.int x1), some (.int s.1), some (.int s.2), y4], [], zhp h) r := by
  have Z := zloop_P (P := fun s => ∀ (y4 : Option Value), zEv (zXs Ls xs) d zm_283 (4, [some (.ref oc), some (.int x1), some (.int s.1), some (.int s.2), y4], [], zhp h) r) (b := qLk_wiresFor_b4 oc x1 h) (t := t) (fun s s2 hb hk => by intro y4; exact t_qLk_wiresFor_b4b ho hb hk y4) (fun s hb => by rcases t with v | p <;> (intro y4; exact t_qLk_wiresFor_b4b ho hb K y4)) n s H
  exact Z y4
def qLk_wiresFor (oc : Nat) (x1 : Int32) (h : zK) : Option (Int32) :=
  (zloop (qLk_wiresFor_b4 oc x1 h) zfu (0, 0)).bind fun t7 => match t7 with
  | .inr p => some p
  | .inl v8 =>
    some v8
theorem t_qLk_wiresFor {Ls : Nat} {xs : Nat → Int32} {d : Nat} {oc : Nat} {x1 : Int32} {h : zK} {p : Int32} (ho : oc = 7 ∨ oc = 22) (H : qLk_wiresFor oc x1 h = some p) : zEv (zXs Ls xs) d zm_283 (0, [some (.ref oc), some (.int x1), none, none, none], [], zhp h) (some (.int p), zhp h) := by
  unfold qLk_wiresFor at H
  rcases ho with rfl | rfl
  · refine zEv_k 4 (f' := (4, [some (.ref 7), some (.int x1), some (.int 0), some (.int 0), none], [], zhp h)) rfl ?_
    obtain ⟨t7, ht7, H⟩ := zbs H
    refine t_qLk_wiresFor_b4 (oc := 7) (x1 := x1) (h := h) (by decide) ?_ zfu _ ht7 _
    rcases t7 with v8 | p
    · intro y3 y4
      dsimp only at H
      refine zEv_k 1 (f' := (66, [some (.ref 7), some (.int x1), some (.int v8), y3, y4], [.int v8], zhp h)) rfl ?_
      cases H
      exact zEv_r rfl
    · cases H
      exact rfl
  · refine zEv_k 4 (f' := (4, [some (.ref 22), some (.int x1), some (.int 0), some (.int 0), none], [], zhp h)) rfl ?_
    obtain ⟨t7, ht7, H⟩ := zbs H
    refine t_qLk_wiresFor_b4 (oc := 22) (x1 := x1) (h := h) (by decide) ?_ zfu _ ht7 _
    rcases t7 with v8 | p
    · intro y3 y4
      dsimp only at H
      refine zEv_k 1 (f' := (66, [some (.ref 22), some (.int x1), some (.int v8), y3, y4], [.int v8], zhp h)) rfl ?_
      cases H
      exact zEv_r rfl
    · cases H
      exact rfl
def qC_wires (x1 : Int32) (x2 : Int32) (x3 : Int32) (h : zK) : Option (Int32) :=
  (qT_cellarAt x1 h).bind fun p1 => match p1 with
  | none =>
    some (-1)
  | some v2 =>
    if x2 < 0 then
      some (-1)
    else
      if x2 ≤ 20 then
        if v2 = 7 ∨ v2 = 22 then
          (qLk_wiresFor v2 x2 h).bind fun p6 =>
          if ¬ x3 = 0 then
            some p6
          else
            if ¬ p6 = (-1) then
              some (qIn_bitCount p6)
            else
              some p6
        else none
      else
        some (-1)
theorem t_qC_wires {Ls : Nat} {xs : Nat → Int32} {d : Nat} {x1 : Int32} {x2 : Int32} {x3 : Int32} {h : zK} {p : Int32} (H : qC_wires x1 x2 x3 h = some p) : zEv (zXs Ls xs) (d + 1) zm_126 (0, [some (.ref 0), some (.int x1), some (.int x2), some (.int x3), none, none], [], zhp h) (some (.int p), zhp h) := by
  unfold qC_wires at H
  refine zEv_k 1 (f' := (1, [some (.ref 0), some (.int x1), some (.int x2), some (.int x3), none, none], [.ref 0], zhp h)) rfl ?_
  refine zRgr rfl rfl rfl (by decide) (b := 1) rfl ?_
  refine zEv_k 1 (f' := (5, [some (.ref 0), some (.int x1), some (.int x2), some (.int x3), none, none], [.int x1, .ref 1], zhp h)) rfl ?_
  obtain ⟨p1, hp1, H⟩ := zbs H
  refine zEv_c (fun _ => rfl) rfl (t_qT_cellarAt (x1 := x1) (h := h) (d := d) hp1) rfl rfl ?_
  rcases p1 with _ | v2
  · dsimp only at H
    refine zEv_k 4 (f' := (26, [some (.ref 0), some (.int x1), some (.int x2), some (.int x3), some (.null), none], [.int (-1)], zhp h)) rfl ?_
    cases H
    exact zEv_r rfl
  · dsimp only at H
    refine zEv_k 5 (f' := (if x2 < 0 then 25 else 19, [some (.ref 0), some (.int x1), some (.int x2), some (.int x3), some (.ref v2), none], [], zhp h)) rfl (zEv_if (fun c3 => ?_) (fun c3 => ?_))
    · replace H := zif_t c3 H
      refine zEv_k 1 (f' := (26, [some (.ref 0), some (.int x1), some (.int x2), some (.int x3), some (.ref v2), none], [.int (-1)], zhp h)) rfl ?_
      cases H
      exact zEv_r rfl
    · replace H := zif_f c3 H
      refine zEv_k 3 (f' := (if x2 ≤ 20 then 27 else 25, [some (.ref 0), some (.int x1), some (.int x2), some (.int x3), some (.ref v2), none], [], zhp h)) rfl (zEv_if (fun c4 => ?_) (fun c4 => ?_))
      · replace H := zif_t c4 H
        refine zEv_k 2 (f' := (30, [some (.ref 0), some (.int x1), some (.int x2), some (.int x3), some (.ref v2), none], [.int x2, .ref v2], zhp h)) rfl ?_
        obtain ⟨c5, H⟩ := zifn H
        rcases c5 with rfl | rfl
        · obtain ⟨p6, hp6, H⟩ := zbs H
          refine zEv_c (fun _ => rfl) rfl (t_qLk_wiresFor (oc := 7) (x1 := x2) (h := h) (d := d) (by decide) hp6) rfl rfl ?_
          refine zEv_k 3 (f' := (if ¬ x3 = 0 then 45 else 39, [some (.ref 0), some (.int x1), some (.int x2), some (.int x3), some (.ref 7), some (.int p6)], [], zhp h)) rfl (zEv_if (fun c7 => ?_) (fun c7 => ?_))
          · replace H := zif_t c7 H
            refine zEv_k 2 (f' := (55, [some (.ref 0), some (.int x1), some (.int x2), some (.int x3), some (.ref 7), some (.int p6)], [.int p6], zhp h)) rfl ?_
            cases H
            exact zEv_r rfl
          · replace H := zif_f c7 H
            refine zEv_k 3 (f' := (if ¬ p6 = (-1) then 50 else 45, [some (.ref 0), some (.int x1), some (.int x2), some (.int x3), some (.ref 7), some (.int p6)], [], zhp h)) rfl (zEv_if (fun c8 => ?_) (fun c8 => ?_))
            · replace H := zif_t c8 H
              refine zEv_k 1 (f' := (52, [some (.ref 0), some (.int x1), some (.int x2), some (.int x3), some (.ref 7), some (.int p6)], [.int p6], zhp h)) rfl ?_
              refine zEv_c (fun _ => rfl) rfl (t_qIn_bitCount (x0 := p6) (h := h) (d := d) rfl) rfl rfl ?_
              cases H
              exact zEv_r rfl
            · replace H := zif_f c8 H
              refine zEv_k 2 (f' := (55, [some (.ref 0), some (.int x1), some (.int x2), some (.int x3), some (.ref 7), some (.int p6)], [.int p6], zhp h)) rfl ?_
              cases H
              exact zEv_r rfl
        · obtain ⟨p6, hp6, H⟩ := zbs H
          refine zEv_c (fun _ => rfl) rfl (t_qLk_wiresFor (oc := 22) (x1 := x2) (h := h) (d := d) (by decide) hp6) rfl rfl ?_
          refine zEv_k 3 (f' := (if ¬ x3 = 0 then 45 else 39, [some (.ref 0), some (.int x1), some (.int x2), some (.int x3), some (.ref 22), some (.int p6)], [], zhp h)) rfl (zEv_if (fun c7 => ?_) (fun c7 => ?_))
          · replace H := zif_t c7 H
            refine zEv_k 2 (f' := (55, [some (.ref 0), some (.int x1), some (.int x2), some (.int x3), some (.ref 22), some (.int p6)], [.int p6], zhp h)) rfl ?_
            cases H
            exact zEv_r rfl
          · replace H := zif_f c7 H
            refine zEv_k 3 (f' := (if ¬ p6 = (-1) then 50 else 45, [some (.ref 0), some (.int x1), some (.int x2), some (.int x3), some (.ref 22), some (.int p6)], [], zhp h)) rfl (zEv_if (fun c8 => ?_) (fun c8 => ?_))
            · replace H := zif_t c8 H
              refine zEv_k 1 (f' := (52, [some (.ref 0), some (.int x1), some (.int x2), some (.int x3), some (.ref 22), some (.int p6)], [.int p6], zhp h)) rfl ?_
              refine zEv_c (fun _ => rfl) rfl (t_qIn_bitCount (x0 := p6) (h := h) (d := d) rfl) rfl rfl ?_
              cases H
              exact zEv_r rfl
            · replace H := zif_f c8 H
              refine zEv_k 2 (f' := (55, [some (.ref 0), some (.int x1), some (.int x2), some (.int x3), some (.ref 22), some (.int p6)], [.int p6], zhp h)) rfl ?_
              cases H
              exact zEv_r rfl
      · replace H := zif_f c4 H
        refine zEv_k 1 (f' := (26, [some (.ref 0), some (.int x1), some (.int x2), some (.int x3), some (.ref v2), none], [.int (-1)], zhp h)) rfl ?_
        cases H
        exact zEv_r rfl
def qC_duel (x1 : Int32) (x2 : Int32) (x3 : Int32) (h : zK) : Option (Int32 × zK) :=
  (qT_cellarAt x1 h).bind fun p1 => match p1 with
  | none =>
    some (-999, h)
  | some v2 =>
    if x2 < 0 then
      some (-999, h)
    else
      if x2 ≤ 5 then
        if v2 = 7 ∨ v2 = 22 then
          (qOr_playOut v2 x2 h).bind fun p6 =>
          if x3 = 0 then
            some (gI p6 192 0, p6)
          else
            some (gI p6 192 1, p6)
        else none
      else
        some (-999, h)
theorem t_qC_duel {Ls : Nat} {xs : Nat → Int32} {d : Nat} {x1 : Int32} {x2 : Int32} {x3 : Int32} {h : zK} {p : Int32 × zK} (H : qC_duel x1 x2 x3 h = some p) : zEv (zXs Ls xs) (d + 6) zm_127 (0, [some (.ref 0), some (.int x1), some (.int x2), some (.int x3), none], [], zhp h) (some (.int p.1), zhp p.2) := by
  unfold qC_duel at H
  refine zEv_k 1 (f' := (1, [some (.ref 0), some (.int x1), some (.int x2), some (.int x3), none], [.ref 0], zhp h)) rfl ?_
  refine zRgr rfl rfl rfl (by decide) (b := 1) rfl ?_
  refine zEv_k 1 (f' := (5, [some (.ref 0), some (.int x1), some (.int x2), some (.int x3), none], [.int x1, .ref 1], zhp h)) rfl ?_
  obtain ⟨p1, hp1, H⟩ := zbs H
  refine zEv_c (fun _ => rfl) rfl (t_qT_cellarAt (x1 := x1) (h := h) (d := d + 5) hp1) rfl rfl ?_
  rcases p1 with _ | v2
  · dsimp only at H
    refine zEv_k 4 (f' := (27, [some (.ref 0), some (.int x1), some (.int x2), some (.int x3), some (.null)], [.int (-999)], zhp h)) rfl ?_
    cases H
    exact zEv_r rfl
  · dsimp only at H
    refine zEv_k 5 (f' := (if x2 < 0 then 24 else 19, [some (.ref 0), some (.int x1), some (.int x2), some (.int x3), some (.ref v2)], [], zhp h)) rfl (zEv_if (fun c3 => ?_) (fun c3 => ?_))
    · replace H := zif_t c3 H
      refine zEv_k 1 (f' := (27, [some (.ref 0), some (.int x1), some (.int x2), some (.int x3), some (.ref v2)], [.int (-999)], zhp h)) rfl ?_
      cases H
      exact zEv_r rfl
    · replace H := zif_f c3 H
      refine zEv_k 3 (f' := (if x2 ≤ 5 then 28 else 24, [some (.ref 0), some (.int x1), some (.int x2), some (.int x3), some (.ref v2)], [], zhp h)) rfl (zEv_if (fun c4 => ?_) (fun c4 => ?_))
      · replace H := zif_t c4 H
        refine zEv_k 1 (f' := (29, [some (.ref 0), some (.int x1), some (.int x2), some (.int x3), some (.ref v2)], [.ref 0], zhp h)) rfl ?_
        refine zRgr rfl rfl rfl (by decide) (b := 192) rfl ?_
        refine zEv_k 2 (f' := (35, [some (.ref 0), some (.int x1), some (.int x2), some (.int x3), some (.ref v2)], [.int x2, .ref v2, .ref 192], zhp h)) rfl ?_
        obtain ⟨c5, H⟩ := zifn H
        rcases c5 with rfl | rfl
        · obtain ⟨p6, hp6, H⟩ := zbs H
          refine zEv_c (fun _ => rfl) rfl (t_qOr_playOut (oc := 7) (x2 := x2) (h := h) (d := d) (by decide) hp6) rfl rfl ?_
          refine zEv_k 2 (f' := (if x3 = 0 then 52 else 42, [some (.ref 0), some (.int x1), some (.int x2), some (.int x3), some (.ref 7)], [], zhp p6)) rfl (zEv_if (fun c7 => ?_) (fun c7 => ?_))
          · replace H := zif_t c7 H
            refine zEv_k 1 (f' := (53, [some (.ref 0), some (.int x1), some (.int x2), some (.int x3), some (.ref 7)], [.ref 0], zhp p6)) rfl ?_
            refine zRgr rfl rfl rfl (by decide) (b := 192) rfl ?_
            refine zEv_k 1 (f' := (59, [some (.ref 0), some (.int x1), some (.int x2), some (.int x3), some (.ref 7)], [.int (gI p6 192 0)], zhp p6)) rfl ?_
            cases H
            exact zEv_r rfl
          · replace H := zif_f c7 H
            refine zEv_k 1 (f' := (43, [some (.ref 0), some (.int x1), some (.int x2), some (.int x3), some (.ref 7)], [.ref 0], zhp p6)) rfl ?_
            refine zRgr rfl rfl rfl (by decide) (b := 192) rfl ?_
            refine zEv_k 2 (f' := (59, [some (.ref 0), some (.int x1), some (.int x2), some (.int x3), some (.ref 7)], [.int (gI p6 192 1)], zhp p6)) rfl ?_
            cases H
            exact zEv_r rfl
        · obtain ⟨p6, hp6, H⟩ := zbs H
          refine zEv_c (fun _ => rfl) rfl (t_qOr_playOut (oc := 22) (x2 := x2) (h := h) (d := d) (by decide) hp6) rfl rfl ?_
          refine zEv_k 2 (f' := (if x3 = 0 then 52 else 42, [some (.ref 0), some (.int x1), some (.int x2), some (.int x3), some (.ref 22)], [], zhp p6)) rfl (zEv_if (fun c7 => ?_) (fun c7 => ?_))
          · replace H := zif_t c7 H
            refine zEv_k 1 (f' := (53, [some (.ref 0), some (.int x1), some (.int x2), some (.int x3), some (.ref 22)], [.ref 0], zhp p6)) rfl ?_
            refine zRgr rfl rfl rfl (by decide) (b := 192) rfl ?_
            refine zEv_k 1 (f' := (59, [some (.ref 0), some (.int x1), some (.int x2), some (.int x3), some (.ref 22)], [.int (gI p6 192 0)], zhp p6)) rfl ?_
            cases H
            exact zEv_r rfl
          · replace H := zif_f c7 H
            refine zEv_k 1 (f' := (43, [some (.ref 0), some (.int x1), some (.int x2), some (.int x3), some (.ref 22)], [.ref 0], zhp p6)) rfl ?_
            refine zRgr rfl rfl rfl (by decide) (b := 192) rfl ?_
            refine zEv_k 2 (f' := (59, [some (.ref 0), some (.int x1), some (.int x2), some (.int x3), some (.ref 22)], [.int (gI p6 192 1)], zhp p6)) rfl ?_
            cases H
            exact zEv_r rfl
      · replace H := zif_f c4 H
        refine zEv_k 1 (f' := (27, [some (.ref 0), some (.int x1), some (.int x2), some (.int x3), some (.ref v2)], [.int (-999)], zhp h)) rfl ?_
        cases H
        exact zEv_r rfl
def qC_power_b5 (x0 : Int64) (x2 : Int32) (s : Int64 × Int32) : Option ((Int64 × Int32) ⊕ (Int64)) :=
  if x2 ≤ s.2 then
    some (.inr s.1)
  else
    some (.inl (s.1 * x0, s.2 + 1))
theorem t_qC_power_b5b {Ls : Nat} {xs : Nat → Int32} {d : Nat} {x0 : Int64} {x2 : Int32} {h : zK} {r : zA} {s : Int64 × Int32} {e : (Int64 × Int32) ⊕ (Int64)} (H : qC_power_b5 x0 x2 s = some e) (K : match (generalizing := false) e with | .inl s' => zEv (zXs Ls xs) d zm_145 (5, [some (.long x0), none, some (.int x2), some (.long s'.1), none, some (.int s'.2)], [], zhp h) r | .inr v => ∀ (z5 : Option Value), zEv (zXs Ls xs) d zm_145 (21, [some (.long x0), none, some (.int x2), some (.long v), none, z5], [], zhp h) r) : zEv (zXs Ls xs) d zm_145 (5, [some (.long x0), none, some (.int x2), some (.long s.1), none, some (.int s.2)], [], zhp h) r := by
  unfold qC_power_b5 at H
  refine zEv_k 3 (f' := (if x2 ≤ s.2 then 21 else 11, [some (.long x0), none, some (.int x2), some (.long s.1), none, some (.int s.2)], [], zhp h)) rfl (zEv_if (fun c1 => ?_) (fun c1 => ?_))
  · replace H := zif_t c1 H
    cases H
    exact K _
  · replace H := zif_f c1 H
    refine zEv_k 6 (f' := (5, [some (.long x0), none, some (.int x2), some (.long (s.1 * x0)), none, some (.int (s.2 + 1))], [], zhp h)) rfl ?_
    cases H
    exact K
theorem t_qC_power_b5 {Ls : Nat} {xs : Nat → Int32} {d : Nat} {x0 : Int64} {x2 : Int32} {h : zK} {r : zA} {t : Int64} (K : ∀ (z5 : Option Value), zEv (zXs Ls xs) d zm_145 (21, [some (.long x0), none, some (.int x2), some (.long t), none, z5], [], zhp h) r) (n : Nat) (s : Int64 × Int32) (H : zloop (qC_power_b5 x0 x2) n s = some t) : zEv (zXs Ls xs) d zm_145 (5, [some (.long x0), none, some (.int x2), some (.long s.1), none, some (.int s.2)], [], zhp h) r := by
  have Z := zloop_P (P := fun s => zEv (zXs Ls xs) d zm_145 (5, [some (.long x0), none, some (.int x2), some (.long s.1), none, some (.int s.2)], [], zhp h) r) (b := qC_power_b5 x0 x2) (t := t) (fun s s2 hb hk => by exact t_qC_power_b5b hb hk) (fun s hb => by exact t_qC_power_b5b hb K) n s H
  exact Z
def qC_power (x0 : Int64) (x2 : Int32) : Option (Int64) :=
  (zloop (qC_power_b5 x0 x2) zfu (1, 0)).bind fun t2 =>
  some t2
theorem t_qC_power {Ls : Nat} {xs : Nat → Int32} {d : Nat} {x0 : Int64} {x2 : Int32} {h : zK} {p : Int64} (H : qC_power x0 x2 = some p) : zEv (zXs Ls xs) d zm_145 (0, [some (.long x0), none, some (.int x2), none, none, none], [], zhp h) (some (.long p), zhp h) := by
  unfold qC_power at H
  refine zEv_k 4 (f' := (5, [some (.long x0), none, some (.int x2), some (.long 1), none, some (.int 0)], [], zhp h)) rfl ?_
  obtain ⟨t2, ht2, H⟩ := zbs H
  refine t_qC_power_b5 (x0 := x0) (x2 := x2) (h := h) ?_ zfu _ ht2
  intro y5
  refine zEv_k 1 (f' := (22, [some (.long x0), none, some (.int x2), some (.long t2), none, y5], [.long t2], zhp h)) rfl ?_
  cases H
  exact zEv_r rfl
def qC_ways_b5 (x0 : Int32) (x1 : Int32) (s : Int64 × Int32) : Option ((Int64 × Int32) ⊕ (Int64)) :=
  if x1 < s.2 then
    some (.inr s.1)
  else
    if ¬ (Int32.toInt64 s.2) = 0 then
      some (.inl ((s.1 * (Int32.toInt64 ((x0 - s.2) + 1))) / (Int32.toInt64 s.2), s.2 + 1))
    else none
theorem t_qC_ways_b5b {Ls : Nat} {xs : Nat → Int32} {d : Nat} {x0 : Int32} {x1 : Int32} {h : zK} {r : zA} {s : Int64 × Int32} {e : (Int64 × Int32) ⊕ (Int64)} (H : qC_ways_b5 x0 x1 s = some e) (K : match (generalizing := false) e with | .inl s' => zEv (zXs Ls xs) d zm_146 (5, [some (.int x0), some (.int x1), some (.long s'.1), none, some (.int s'.2)], [], zhp h) r | .inr v => ∀ (z4 : Option Value), zEv (zXs Ls xs) d zm_146 (31, [some (.int x0), some (.int x1), some (.long v), none, z4], [], zhp h) r) : zEv (zXs Ls xs) d zm_146 (5, [some (.int x0), some (.int x1), some (.long s.1), none, some (.int s.2)], [], zhp h) r := by
  unfold qC_ways_b5 at H
  refine zEv_k 3 (f' := (if x1 < s.2 then 31 else 11, [some (.int x0), some (.int x1), some (.long s.1), none, some (.int s.2)], [], zhp h)) rfl (zEv_if (fun c1 => ?_) (fun c1 => ?_))
  · replace H := zif_t c1 H
    cases H
    exact K _
  · replace H := zif_f c1 H
    refine zEv_k 9 (f' := (22, [some (.int x0), some (.int x1), some (.long s.1), none, some (.int s.2)], [.int s.2, .long (s.1 * (Int32.toInt64 ((x0 - s.2) + 1)))], zhp h)) rfl ?_
    refine zEv_k 1 (f' := (23, [some (.int x0), some (.int x1), some (.long s.1), none, some (.int s.2)], [.long (Int32.toInt64 s.2), .long (s.1 * (Int32.toInt64 ((x0 - s.2) + 1)))], zhp h)) rfl ?_
    obtain ⟨c2, H⟩ := zifn H
    refine zEv_ldiv rfl c2 ?_
    refine zEv_k 3 (f' := (5, [some (.int x0), some (.int x1), some (.long ((s.1 * (Int32.toInt64 ((x0 - s.2) + 1))) / (Int32.toInt64 s.2))), none, some (.int (s.2 + 1))], [], zhp h)) rfl ?_
    cases H
    exact K
theorem t_qC_ways_b5 {Ls : Nat} {xs : Nat → Int32} {d : Nat} {x0 : Int32} {x1 : Int32} {h : zK} {r : zA} {t : Int64} (K : ∀ (z4 : Option Value), zEv (zXs Ls xs) d zm_146 (31, [some (.int x0), some (.int x1), some (.long t), none, z4], [], zhp h) r) (n : Nat) (s : Int64 × Int32) (H : zloop (qC_ways_b5 x0 x1) n s = some t) : zEv (zXs Ls xs) d zm_146 (5, [some (.int x0), some (.int x1), some (.long s.1), none, some (.int s.2)], [], zhp h) r := by
  have Z := zloop_P (P := fun s => zEv (zXs Ls xs) d zm_146 (5, [some (.int x0), some (.int x1), some (.long s.1), none, some (.int s.2)], [], zhp h) r) (b := qC_ways_b5 x0 x1) (t := t) (fun s s2 hb hk => by exact t_qC_ways_b5b hb hk) (fun s hb => by exact t_qC_ways_b5b hb K) n s H
  exact Z
def qC_ways (x0 : Int32) (x1 : Int32) : Option (Int64) :=
  (zloop (qC_ways_b5 x0 x1) zfu (1, 1)).bind fun t3 =>
  some t3
theorem t_qC_ways {Ls : Nat} {xs : Nat → Int32} {d : Nat} {x0 : Int32} {x1 : Int32} {h : zK} {p : Int64} (H : qC_ways x0 x1 = some p) : zEv (zXs Ls xs) d zm_146 (0, [some (.int x0), some (.int x1), none, none, none], [], zhp h) (some (.long p), zhp h) := by
  unfold qC_ways at H
  refine zEv_k 4 (f' := (5, [some (.int x0), some (.int x1), some (.long 1), none, some (.int 1)], [], zhp h)) rfl ?_
  obtain ⟨t3, ht3, H⟩ := zbs H
  refine t_qC_ways_b5 (x0 := x0) (x1 := x1) (h := h) ?_ zfu _ ht3
  intro y4
  refine zEv_k 1 (f' := (32, [some (.int x0), some (.int x1), some (.long t3), none, y4], [.long t3], zhp h)) rfl ?_
  cases H
  exact zEv_r rfl
def qC_sharedDivisor_b9 (s : Int64 × Int64 × Int32) : Option ((Int64 × Int64 × Int32) ⊕ (Int64)) :=
  if 100 ≤ s.2.2 then
    some (.inr s.1)
  else
    if (lg_cmp s.2.1 0) = 0 then
      some (.inr s.1)
    else
      if ¬ s.2.1 = 0 then
        some (.inl (s.2.1, s.1 - s.1 / s.2.1 * s.2.1, s.2.2 + 1))
      else none
theorem t_qC_sharedDivisor_b9b {Ls : Nat} {xs : Nat → Int32} {d : Nat} {h : zK} {r : zA} {s : Int64 × Int64 × Int32} {e : (Int64 × Int64 × Int32) ⊕ (Int64)} (H : qC_sharedDivisor_b9 s = some e) (K : match (generalizing := false) e with | .inl s' => ∀ (z0 : Option Value) (z2 : Option Value) (z9 : Option Value), zEv (zXs Ls xs) d zm_148 (9, [z0, none, z2, none, some (.long s'.1), none, some (.long s'.2.1), none, some (.int s'.2.2), z9, none], [], zhp h) r | .inr v => ∀ (z0 : Option Value) (z2 : Option Value) (z6 : Option Value) (z8 : Option Value) (z9 : Option Value), zEv (zXs Ls xs) d zm_148 (44, [z0, none, z2, none, some (.long v), none, z6, none, z8, z9, none], [], zhp h) r) (y0 : Option Value) (y2 : Option Value) (y9 : Option Value) : zEv (zXs Ls xs) d zm_148 (9, [y0, none, y2, none, some (.long s.1), none, some (.long s.2.1), none, some (.int s.2.2), y9, none], [], zhp h) r := by
  unfold qC_sharedDivisor_b9 at H
  refine zEv_k 3 (f' := (if 100 ≤ s.2.2 then 44 else 16, [y0, none, y2, none, some (.long s.1), none, some (.long s.2.1), none, some (.int s.2.2), y9, none], [], zhp h)) rfl (zEv_if (fun c1 => ?_) (fun c1 => ?_))
  · replace H := zif_t c1 H
    cases H
    exact K _ _ _ _ _
  · replace H := zif_f c1 H
    refine zEv_k 4 (f' := (if (lg_cmp s.2.1 0) = 0 then 44 else 23, [y0, none, y2, none, some (.long s.1), none, some (.long s.2.1), none, some (.int s.2.2), y9, none], [], zhp h)) rfl (zEv_if (fun c2 => ?_) (fun c2 => ?_))
    · replace H := zif_t c2 H
      cases H
      exact K _ _ _ _ _
    · replace H := zif_f c2 H
      refine zEv_k 2 (f' := (27, [y0, none, y2, none, some (.long s.1), none, some (.long s.2.1), none, some (.int s.2.2), y9, none], [.long s.2.1, .long s.1], zhp h)) rfl ?_
      obtain ⟨c3, H⟩ := zifn H
      refine zEv_lrem rfl c3 ?_
      refine zEv_k 7 (f' := (9, [y0, none, y2, none, some (.long s.2.1), none, some (.long (s.1 - s.1 / s.2.1 * s.2.1)), none, some (.int (s.2.2 + 1)), some (.long (s.1 - s.1 / s.2.1 * s.2.1)), none], [], zhp h)) rfl ?_
      cases H
      exact K _ _ _
theorem t_qC_sharedDivisor_b9 {Ls : Nat} {xs : Nat → Int32} {d : Nat} {h : zK} {r : zA} {t : Int64} (K : ∀ (z0 : Option Value) (z2 : Option Value) (z6 : Option Value) (z8 : Option Value) (z9 : Option Value), zEv (zXs Ls xs) d zm_148 (44, [z0, none, z2, none, some (.long t), none, z6, none, z8, z9, none], [], zhp h) r) (n : Nat) (s : Int64 × Int64 × Int32) (H : zloop (qC_sharedDivisor_b9) n s = some t) (y0 : Option Value) (y2 : Option Value) (y9 : Option Value) : zEv (zXs Ls xs) d zm_148 (9, [y0, none, y2, none, some (.long s.1), none, some (.long s.2.1), none, some (.int s.2.2), y9, none], [], zhp h) r := by
  have Z := zloop_P (P := fun s => ∀ (y0 : Option Value) (y2 : Option Value) (y9 : Option Value), zEv (zXs Ls xs) d zm_148 (9, [y0, none, y2, none, some (.long s.1), none, some (.long s.2.1), none, some (.int s.2.2), y9, none], [], zhp h) r) (b := qC_sharedDivisor_b9) (t := t) (fun s s2 hb hk => by intro y0 y2 y9; exact t_qC_sharedDivisor_b9b hb hk y0 y2 y9) (fun s hb => by intro y0 y2 y9; exact t_qC_sharedDivisor_b9b hb K y0 y2 y9) n s H
  exact Z y0 y2 y9
def qC_sharedDivisor (x0 : Int64) (x2 : Int64) : Option (Int64) :=
  (zloop (qC_sharedDivisor_b9) zfu (x0, x2, 0)).bind fun t4 =>
  some t4
theorem t_qC_sharedDivisor {Ls : Nat} {xs : Nat → Int32} {d : Nat} {x0 : Int64} {x2 : Int64} {h : zK} {p : Int64} (H : qC_sharedDivisor x0 x2 = some p) : zEv (zXs Ls xs) d zm_148 (0, [some (.long x0), none, some (.long x2), none, none, none, none, none, none, none, none], [], zhp h) (some (.long p), zhp h) := by
  unfold qC_sharedDivisor at H
  refine zEv_k 6 (f' := (9, [some (.long x0), none, some (.long x2), none, some (.long x0), none, some (.long x2), none, some (.int 0), none, none], [], zhp h)) rfl ?_
  obtain ⟨t4, ht4, H⟩ := zbs H
  refine t_qC_sharedDivisor_b9 (h := h) ?_ zfu _ ht4 _ _ _
  intro y0 y2 y6 y8 y9
  refine zEv_k 1 (f' := (46, [y0, none, y2, none, some (.long t4), none, y6, none, y8, y9, none], [.long t4], zhp h)) rfl ?_
  cases H
  exact zEv_r rfl
def qC_inLeastTerms (x0 : Int64) (x2 : Int64) (x4 : Int32) : Option (Int64) :=
  (qC_sharedDivisor x0 x2).bind fun p1 =>
  if (lg_cmp x2 0) ≤ 0 then
    some (-1)
  else
    if 0 < (lg_cmp p1 0) then
      zlet (
          if x4 = 0 then
            x0
          else
            x2
        ) fun (v5 : Int64) =>
      if ¬ p1 = 0 then
        some (v5 / p1)
      else none
    else
      some (-1)
theorem t_qC_inLeastTerms {Ls : Nat} {xs : Nat → Int32} {d : Nat} {x0 : Int64} {x2 : Int64} {x4 : Int32} {h : zK} {p : Int64} (H : qC_inLeastTerms x0 x2 x4 = some p) : zEv (zXs Ls xs) (d + 1) zm_147 (0, [some (.long x0), none, some (.long x2), none, some (.int x4), none, none], [], zhp h) (some (.long p), zhp h) := by
  unfold qC_inLeastTerms at H
  refine zEv_k 2 (f' := (2, [some (.long x0), none, some (.long x2), none, some (.int x4), none, none], [.long x2, .long x0], zhp h)) rfl ?_
  obtain ⟨p1, hp1, H⟩ := zbs H
  refine zEv_c (fun _ => rfl) rfl (t_qC_sharedDivisor (x0 := x0) (x2 := x2) (h := h) (d := d) hp1) rfl rfl ?_
  refine zEv_k 5 (f' := (if (lg_cmp x2 0) ≤ 0 then 20 else 13, [some (.long x0), none, some (.long x2), none, some (.int x4), some (.long p1), none], [], zhp h)) rfl (zEv_if (fun c2 => ?_) (fun c2 => ?_))
  · replace H := zif_t c2 H
    refine zEv_k 1 (f' := (23, [some (.long x0), none, some (.long x2), none, some (.int x4), some (.long p1), none], [.long (-1)], zhp h)) rfl ?_
    cases H
    exact zEv_r rfl
  · replace H := zif_f c2 H
    refine zEv_k 4 (f' := (if 0 < (lg_cmp p1 0) then 24 else 20, [some (.long x0), none, some (.long x2), none, some (.int x4), some (.long p1), none], [], zhp h)) rfl (zEv_if (fun c3 => ?_) (fun c3 => ?_))
    · replace H := zif_t c3 H
      obtain ⟨v5, hv5, H⟩ := zlets H
      have kv5 : zEv (zXs Ls xs) (d + 1) zm_147 (34, [some (.long x0), none, some (.long x2), none, some (.int x4), some (.long p1), none], [.long v5], zhp h) (some (.long p), zhp h) := by
        refine zEv_k 1 (f' := (36, [some (.long x0), none, some (.long x2), none, some (.int x4), some (.long p1), none], [.long p1, .long v5], zhp h)) rfl ?_
        obtain ⟨c6, H⟩ := zifn H
        refine zEv_ldiv rfl c6 ?_
        cases H
        exact zEv_r rfl
      clear H
      refine zEv_k 2 (f' := (if x4 = 0 then 33 else 29, [some (.long x0), none, some (.long x2), none, some (.int x4), some (.long p1), none], [], zhp h)) rfl (zEv_if (fun c4 => ?_) (fun c4 => ?_))
      · replace hv5 := zif_t c4 hv5
        refine zEv_k 1 (f' := (34, [some (.long x0), none, some (.long x2), none, some (.int x4), some (.long p1), none], [.long x0], zhp h)) rfl ?_
        cases hv5
        exact kv5
      · replace hv5 := zif_f c4 hv5
        refine zEv_k 2 (f' := (34, [some (.long x0), none, some (.long x2), none, some (.int x4), some (.long p1), none], [.long x2], zhp h)) rfl ?_
        cases hv5
        exact kv5
    · replace H := zif_f c3 H
      refine zEv_k 1 (f' := (23, [some (.long x0), none, some (.long x2), none, some (.int x4), some (.long p1), none], [.long (-1)], zhp h)) rfl ?_
      cases H
      exact zEv_r rfl
