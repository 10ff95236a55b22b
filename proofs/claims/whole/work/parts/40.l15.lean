def qC_half (x1 : Int32) (x2 : Int32) (x3 : Int32) (h : zK) : Option (Int32) :=
  (qT_cellarAt x1 h).bind fun p1 => match p1 with
  | none =>
    some (-1)
  | some v2 =>
    if x2 < 0 then
      some (-1)
    else
      if x2 ≤ 7 then
        if v2 = 7 ∨ v2 = 22 then
          (qLk_bestApart v2 x2 h).bind fun p6 =>
          if ¬ x3 = 0 then
            some p6
          else
            if ¬ p6 = (-1) then
              (qLk_witOf v2 p6 h).bind fun p9 =>
              some p9
            else
              some p6
        else none
      else
        some (-1)
theorem t_qC_half {Ls : Nat} {xs : Nat → Int32} {d : Nat} {x1 : Int32} {x2 : Int32} {x3 : Int32} {h : zK} {p : Int32} (H : qC_half x1 x2 x3 h = some p) : zEv (zXs Ls xs) (d + 3) zm_136 (0, [some (.ref 0), some (.int x1), some (.int x2), some (.int x3), none, none], [], zhp h) (some (.int p), zhp h) := by
  unfold qC_half at H
  refine zEv_k 1 (f' := (1, [some (.ref 0), some (.int x1), some (.int x2), some (.int x3), none, none], [.ref 0], zhp h)) rfl ?_
  refine zRgr rfl rfl rfl (by decide) (b := 1) rfl ?_
  refine zEv_k 1 (f' := (5, [some (.ref 0), some (.int x1), some (.int x2), some (.int x3), none, none], [.int x1, .ref 1], zhp h)) rfl ?_
  obtain ⟨p1, hp1, H⟩ := zbs H
  refine zEv_c (fun _ => rfl) rfl (t_qT_cellarAt (x1 := x1) (h := h) (d := d + 2) hp1) rfl rfl ?_
  rcases p1 with _ | v2
  · dsimp only at H
    refine zEv_k 4 (f' := (26, [some (.ref 0), some (.int x1), some (.int x2), some (.int x3), some (.null), none], [.int (-1)], zhp h)) rfl ?_
    cases H
    exact zEv_r rfl
  · dsimp only at H
    refine zEv_k 5 (f' := (if x2 < 0 then 25 else 19, [some (.ref 0), some (.int x1), some (.int x2), some (.int x3), some (.ref v2), none], [], zhp h)) rfl (zEv_if (fun c3 => ?_) (fun c3 => ?_))
    · replace H := zif_t c3 H
      refine zEv_k 1 (f' := (26, [some (.ref 0), some (.int x1), some (.int x2), some (.int x3), some (.ref v2), none], [.int (-1)], zhp h)) rfl ?_
      cases H
      exact zEv_r rfl
    · replace H := zif_f c3 H
      refine zEv_k 3 (f' := (if x2 ≤ 7 then 27 else 25, [some (.ref 0), some (.int x1), some (.int x2), some (.int x3), some (.ref v2), none], [], zhp h)) rfl (zEv_if (fun c4 => ?_) (fun c4 => ?_))
      · replace H := zif_t c4 H
        refine zEv_k 2 (f' := (30, [some (.ref 0), some (.int x1), some (.int x2), some (.int x3), some (.ref v2), none], [.int x2, .ref v2], zhp h)) rfl ?_
        obtain ⟨c5, H⟩ := zifn H
        rcases c5 with rfl | rfl
        · obtain ⟨p6, hp6, H⟩ := zbs H
          refine zEv_c (fun _ => rfl) rfl (t_qLk_bestApart (oc := 7) (x1 := x2) (h := h) (d := d) (by decide) hp6) rfl rfl ?_
          refine zEv_k 3 (f' := (if ¬ x3 = 0 then 45 else 39, [some (.ref 0), some (.int x1), some (.int x2), some (.int x3), some (.ref 7), some (.int p6)], [], zhp h)) rfl (zEv_if (fun c7 => ?_) (fun c7 => ?_))
          · replace H := zif_t c7 H
            refine zEv_k 2 (f' := (57, [some (.ref 0), some (.int x1), some (.int x2), some (.int x3), some (.ref 7), some (.int p6)], [.int p6], zhp h)) rfl ?_
            cases H
            exact zEv_r rfl
          · replace H := zif_f c7 H
            refine zEv_k 3 (f' := (if ¬ p6 = (-1) then 50 else 45, [some (.ref 0), some (.int x1), some (.int x2), some (.int x3), some (.ref 7), some (.int p6)], [], zhp h)) rfl (zEv_if (fun c8 => ?_) (fun c8 => ?_))
            · replace H := zif_t c8 H
              refine zEv_k 2 (f' := (54, [some (.ref 0), some (.int x1), some (.int x2), some (.int x3), some (.ref 7), some (.int p6)], [.int p6, .ref 7], zhp h)) rfl ?_
              obtain ⟨p9, hp9, H⟩ := zbs H
              refine zEv_c (fun _ => rfl) rfl (t_qLk_witOf (oc := 7) (x1 := p6) (h := h) (d := d + 1) (by decide) hp9) rfl rfl ?_
              cases H
              exact zEv_r rfl
            · replace H := zif_f c8 H
              refine zEv_k 2 (f' := (57, [some (.ref 0), some (.int x1), some (.int x2), some (.int x3), some (.ref 7), some (.int p6)], [.int p6], zhp h)) rfl ?_
              cases H
              exact zEv_r rfl
        · obtain ⟨p6, hp6, H⟩ := zbs H
          refine zEv_c (fun _ => rfl) rfl (t_qLk_bestApart (oc := 22) (x1 := x2) (h := h) (d := d) (by decide) hp6) rfl rfl ?_
          refine zEv_k 3 (f' := (if ¬ x3 = 0 then 45 else 39, [some (.ref 0), some (.int x1), some (.int x2), some (.int x3), some (.ref 22), some (.int p6)], [], zhp h)) rfl (zEv_if (fun c7 => ?_) (fun c7 => ?_))
          · replace H := zif_t c7 H
            refine zEv_k 2 (f' := (57, [some (.ref 0), some (.int x1), some (.int x2), some (.int x3), some (.ref 22), some (.int p6)], [.int p6], zhp h)) rfl ?_
            cases H
            exact zEv_r rfl
          · replace H := zif_f c7 H
            refine zEv_k 3 (f' := (if ¬ p6 = (-1) then 50 else 45, [some (.ref 0), some (.int x1), some (.int x2), some (.int x3), some (.ref 22), some (.int p6)], [], zhp h)) rfl (zEv_if (fun c8 => ?_) (fun c8 => ?_))
            · replace H := zif_t c8 H
              refine zEv_k 2 (f' := (54, [some (.ref 0), some (.int x1), some (.int x2), some (.int x3), some (.ref 22), some (.int p6)], [.int p6, .ref 22], zhp h)) rfl ?_
              obtain ⟨p9, hp9, H⟩ := zbs H
              refine zEv_c (fun _ => rfl) rfl (t_qLk_witOf (oc := 22) (x1 := p6) (h := h) (d := d + 1) (by decide) hp9) rfl rfl ?_
              cases H
              exact zEv_r rfl
            · replace H := zif_f c8 H
              refine zEv_k 2 (f' := (57, [some (.ref 0), some (.int x1), some (.int x2), some (.int x3), some (.ref 22), some (.int p6)], [.int p6], zhp h)) rfl ?_
              cases H
              exact zEv_r rfl
      · replace H := zif_f c4 H
        refine zEv_k 1 (f' := (26, [some (.ref 0), some (.int x1), some (.int x2), some (.int x3), some (.ref v2), none], [.int (-1)], zhp h)) rfl ?_
        cases H
        exact zEv_r rfl
def qC_after (x1 : Int32) (x2 : Int32) (x3 : Int32) (h : zK) : Option (Int32 × zK) :=
  (qT_cellarAt x1 h).bind fun p1 => match p1 with
  | none =>
    (qT_deedsAt x2 h).bind fun p3 => match p3 with
    | none =>
      some (-2, h)
    | some v4 =>
      some (-2, h)
  | some v2 =>
    (qT_deedsAt x2 h).bind fun p5 => match p5 with
    | none =>
      some (-2, h)
    | some v6 =>
      if v2 = 7 ∨ v2 = 22 then
        (qRu_begin 166 v2 h).bind fun p8 =>
        if v6 = 15 ∨ v6 = 30 then
          (qRu_follow 166 v6 (gI p8 v6 0) p8).bind fun p10 =>
          if x3 = 0 then
            (qRu_firstBurstYear 166 p10.2).bind fun p11 =>
            some (p11, p10.2)
          else if x3 = 1 then
            (qRu_mostBurstYear 166 p10.2).bind fun p12 =>
            some (p12, p10.2)
          else if x3 = 2 then
            some (gI p10.2 166 6, p10.2)
          else if x3 = 3 then
            some (gI p10.2 166 7, p10.2)
          else if x3 = 4 then
            some (gI p10.2 166 8, p10.2)
          else if x3 = 5 then
            some (gI p10.2 166 9, p10.2)
          else
            some (-2, p10.2)
        else none
      else none
theorem t_qC_after {Ls : Nat} {xs : Nat → Int32} {d : Nat} {x1 : Int32} {x2 : Int32} {x3 : Int32} {h : zK} {p : Int32 × zK} (H : qC_after x1 x2 x3 h = some p) : zEv (zXs Ls xs) (d + 5) zm_137 (0, [some (.ref 0), some (.int x1), some (.int x2), some (.int x3), none, none], [], zhp h) (some (.int p.1), zhp p.2) := by
  unfold qC_after at H
  refine zEv_k 1 (f' := (1, [some (.ref 0), some (.int x1), some (.int x2), some (.int x3), none, none], [.ref 0], zhp h)) rfl ?_
  refine zRgr rfl rfl rfl (by decide) (b := 1) rfl ?_
  refine zEv_k 1 (f' := (5, [some (.ref 0), some (.int x1), some (.int x2), some (.int x3), none, none], [.int x1, .ref 1], zhp h)) rfl ?_
  obtain ⟨p1, hp1, H⟩ := zbs H
  refine zEv_c (fun _ => rfl) rfl (t_qT_cellarAt (x1 := x1) (h := h) (d := d + 4) hp1) rfl rfl ?_
  rcases p1 with _ | v2
  · dsimp only at H
    refine zEv_k 2 (f' := (11, [some (.ref 0), some (.int x1), some (.int x2), some (.int x3), some (.null), none], [.ref 0], zhp h)) rfl ?_
    refine zRgr rfl rfl rfl (by decide) (b := 1) rfl ?_
    refine zEv_k 1 (f' := (15, [some (.ref 0), some (.int x1), some (.int x2), some (.int x3), some (.null), none], [.int x2, .ref 1], zhp h)) rfl ?_
    obtain ⟨p3, hp3, H⟩ := zbs H
    refine zEv_c (fun _ => rfl) rfl (t_qT_deedsAt (x1 := x2) (h := h) (d := d + 4) hp3) rfl rfl ?_
    rcases p3 with _ | v4
    · dsimp only at H
      refine zEv_k 4 (f' := (32, [some (.ref 0), some (.int x1), some (.int x2), some (.int x3), some (.null), some (.null)], [.int (-2)], zhp h)) rfl ?_
      cases H
      exact zEv_r rfl
    · dsimp only at H
      refine zEv_k 4 (f' := (32, [some (.ref 0), some (.int x1), some (.int x2), some (.int x3), some (.null), some (.ref v4)], [.int (-2)], zhp h)) rfl ?_
      cases H
      exact zEv_r rfl
  · dsimp only at H
    refine zEv_k 2 (f' := (11, [some (.ref 0), some (.int x1), some (.int x2), some (.int x3), some (.ref v2), none], [.ref 0], zhp h)) rfl ?_
    refine zRgr rfl rfl rfl (by decide) (b := 1) rfl ?_
    refine zEv_k 1 (f' := (15, [some (.ref 0), some (.int x1), some (.int x2), some (.int x3), some (.ref v2), none], [.int x2, .ref 1], zhp h)) rfl ?_
    obtain ⟨p5, hp5, H⟩ := zbs H
    refine zEv_c (fun _ => rfl) rfl (t_qT_deedsAt (x1 := x2) (h := h) (d := d + 4) hp5) rfl rfl ?_
    rcases p5 with _ | v6
    · dsimp only at H
      refine zEv_k 6 (f' := (32, [some (.ref 0), some (.int x1), some (.int x2), some (.int x3), some (.ref v2), some (.null)], [.int (-2)], zhp h)) rfl ?_
      cases H
      exact zEv_r rfl
    · dsimp only at H
      refine zEv_k 6 (f' := (34, [some (.ref 0), some (.int x1), some (.int x2), some (.int x3), some (.ref v2), some (.ref v6)], [.ref 0], zhp h)) rfl ?_
      refine zRgr rfl rfl rfl (by decide) (b := 166) rfl ?_
      refine zEv_k 1 (f' := (39, [some (.ref 0), some (.int x1), some (.int x2), some (.int x3), some (.ref v2), some (.ref v6)], [.ref v2, .ref 166], zhp h)) rfl ?_
      obtain ⟨c7, H⟩ := zifn H
      rcases c7 with rfl | rfl
      · obtain ⟨p8, hp8, H⟩ := zbs H
        refine zEv_c (fun _ => rfl) rfl (t_qRu_begin (oo := 166) (oc := 7) (h := h) (d := d + 4) (by decide) hp8) rfl rfl ?_
        refine zEv_k 1 (f' := (43, [some (.ref 0), some (.int x1), some (.int x2), some (.int x3), some (.ref 7), some (.ref v6)], [.ref 0], zhp p8)) rfl ?_
        refine zRgr rfl rfl rfl (by decide) (b := 166) rfl ?_
        refine zEv_k 2 (f' := (50, [some (.ref 0), some (.int x1), some (.int x2), some (.int x3), some (.ref 7), some (.ref v6)], [.ref v6, .ref v6, .ref 166], zhp p8)) rfl ?_
        obtain ⟨c9, H⟩ := zifn H
        rcases c9 with rfl | rfl
        · refine zEv_k 1 (f' := (53, [some (.ref 0), some (.int x1), some (.int x2), some (.int x3), some (.ref 7), some (.ref 15)], [.int (gI p8 15 0), .ref 15, .ref 166], zhp p8)) rfl ?_
          obtain ⟨p10, hp10, H⟩ := zbs H
          refine zEv_c (fun _ => rfl) rfl (t_qRu_follow (oo := 166) (oe := 15) (x2 := gI p8 15 0) (h := p8) (d := d) (by decide) hp10) rfl rfl ?_
          refine zEv_k 2 (f' := (58, [some (.ref 0), some (.int x1), some (.int x2), some (.int x3), some (.ref 7), some (.ref 15)], [.int x3], zhp p10.2)) rfl ?_
          refine zEv_ts rfl (by decide) (by decide) (by decide) (fun hh => ?_) (fun j hj hh => ?_)
          · replace H := zif_f (fun e => (by rw [e] at hh; exact absurd hh (by decide))) H
            replace H := zif_f (fun e => (by rw [e] at hh; exact absurd hh (by decide))) H
            replace H := zif_f (fun e => (by rw [e] at hh; exact absurd hh (by decide))) H
            replace H := zif_f (fun e => (by rw [e] at hh; exact absurd hh (by decide))) H
            replace H := zif_f (fun e => (by rw [e] at hh; exact absurd hh (by decide))) H
            replace H := zif_f (fun e => (by rw [e] at hh; exact absurd hh (by decide))) H
            refine zEv_k 1 (f' := (146, [some (.ref 0), some (.int x1), some (.int x2), some (.int x3), some (.ref 7), some (.ref 15)], [.int (-2)], zhp p10.2)) rfl ?_
            cases H
            exact zEv_r rfl
          · rcases (by have hj2 : j < 6 := hj; omega : j = 0 ∨ j = 1 ∨ j = 2 ∨ j = 3 ∨ j = 4 ∨ j = 5) with rfl | rfl | rfl | rfl | rfl | rfl
            · have ex : x3 = 0 := zeqI hh (by decide)
              replace H := zif_t ex H
              refine zEv_k 1 (f' := (97, [some (.ref 0), some (.int x1), some (.int x2), some (.int x3), some (.ref 7), some (.ref 15)], [.ref 0], zhp p10.2)) rfl ?_
              refine zRgr rfl rfl rfl (by decide) (b := 166) rfl ?_
              obtain ⟨p11, hp11, H⟩ := zbs H
              refine zEv_c (fun _ => rfl) rfl (t_qRu_firstBurstYear (oo := 166) (h := p10.2) (d := d + 4) (by decide) hp11) rfl rfl ?_
              cases H
              exact zEv_r rfl
            · have ex : x3 = 1 := zeqI hh (by decide)
              replace H := zif_f (fun e => by rw [ex] at e; exact absurd e (by decide)) H
              replace H := zif_t ex H
              refine zEv_k 1 (f' := (105, [some (.ref 0), some (.int x1), some (.int x2), some (.int x3), some (.ref 7), some (.ref 15)], [.ref 0], zhp p10.2)) rfl ?_
              refine zRgr rfl rfl rfl (by decide) (b := 166) rfl ?_
              obtain ⟨p12, hp12, H⟩ := zbs H
              refine zEv_c (fun _ => rfl) rfl (t_qRu_mostBurstYear (oo := 166) (h := p10.2) (d := d + 4) (by decide) hp12) rfl rfl ?_
              cases H
              exact zEv_r rfl
            · have ex : x3 = 2 := zeqI hh (by decide)
              replace H := zif_f (fun e => by rw [ex] at e; exact absurd e (by decide)) H
              replace H := zif_f (fun e => by rw [ex] at e; exact absurd e (by decide)) H
              replace H := zif_t ex H
              refine zEv_k 1 (f' := (113, [some (.ref 0), some (.int x1), some (.int x2), some (.int x3), some (.ref 7), some (.ref 15)], [.ref 0], zhp p10.2)) rfl ?_
              refine zRgr rfl rfl rfl (by decide) (b := 166) rfl ?_
              refine zEv_k 1 (f' := (119, [some (.ref 0), some (.int x1), some (.int x2), some (.int x3), some (.ref 7), some (.ref 15)], [.int (gI p10.2 166 6)], zhp p10.2)) rfl ?_
              cases H
              exact zEv_r rfl
            · have ex : x3 = 3 := zeqI hh (by decide)
              replace H := zif_f (fun e => by rw [ex] at e; exact absurd e (by decide)) H
              replace H := zif_f (fun e => by rw [ex] at e; exact absurd e (by decide)) H
              replace H := zif_f (fun e => by rw [ex] at e; exact absurd e (by decide)) H
              replace H := zif_t ex H
              refine zEv_k 1 (f' := (121, [some (.ref 0), some (.int x1), some (.int x2), some (.int x3), some (.ref 7), some (.ref 15)], [.ref 0], zhp p10.2)) rfl ?_
              refine zRgr rfl rfl rfl (by decide) (b := 166) rfl ?_
              refine zEv_k 1 (f' := (127, [some (.ref 0), some (.int x1), some (.int x2), some (.int x3), some (.ref 7), some (.ref 15)], [.int (gI p10.2 166 7)], zhp p10.2)) rfl ?_
              cases H
              exact zEv_r rfl
            · have ex : x3 = 4 := zeqI hh (by decide)
              replace H := zif_f (fun e => by rw [ex] at e; exact absurd e (by decide)) H
              replace H := zif_f (fun e => by rw [ex] at e; exact absurd e (by decide)) H
              replace H := zif_f (fun e => by rw [ex] at e; exact absurd e (by decide)) H
              replace H := zif_f (fun e => by rw [ex] at e; exact absurd e (by decide)) H
              replace H := zif_t ex H
              refine zEv_k 1 (f' := (129, [some (.ref 0), some (.int x1), some (.int x2), some (.int x3), some (.ref 7), some (.ref 15)], [.ref 0], zhp p10.2)) rfl ?_
              refine zRgr rfl rfl rfl (by decide) (b := 166) rfl ?_
              refine zEv_k 1 (f' := (135, [some (.ref 0), some (.int x1), some (.int x2), some (.int x3), some (.ref 7), some (.ref 15)], [.int (gI p10.2 166 8)], zhp p10.2)) rfl ?_
              cases H
              exact zEv_r rfl
            · have ex : x3 = 5 := zeqI hh (by decide)
              replace H := zif_f (fun e => by rw [ex] at e; exact absurd e (by decide)) H
              replace H := zif_f (fun e => by rw [ex] at e; exact absurd e (by decide)) H
              replace H := zif_f (fun e => by rw [ex] at e; exact absurd e (by decide)) H
              replace H := zif_f (fun e => by rw [ex] at e; exact absurd e (by decide)) H
              replace H := zif_f (fun e => by rw [ex] at e; exact absurd e (by decide)) H
              replace H := zif_t ex H
              refine zEv_k 1 (f' := (137, [some (.ref 0), some (.int x1), some (.int x2), some (.int x3), some (.ref 7), some (.ref 15)], [.ref 0], zhp p10.2)) rfl ?_
              refine zRgr rfl rfl rfl (by decide) (b := 166) rfl ?_
              refine zEv_k 1 (f' := (143, [some (.ref 0), some (.int x1), some (.int x2), some (.int x3), some (.ref 7), some (.ref 15)], [.int (gI p10.2 166 9)], zhp p10.2)) rfl ?_
              cases H
              exact zEv_r rfl
        · refine zEv_k 1 (f' := (53, [some (.ref 0), some (.int x1), some (.int x2), some (.int x3), some (.ref 7), some (.ref 30)], [.int (gI p8 30 0), .ref 30, .ref 166], zhp p8)) rfl ?_
          obtain ⟨p10, hp10, H⟩ := zbs H
          refine zEv_c (fun _ => rfl) rfl (t_qRu_follow (oo := 166) (oe := 30) (x2 := gI p8 30 0) (h := p8) (d := d) (by decide) hp10) rfl rfl ?_
          refine zEv_k 2 (f' := (58, [some (.ref 0), some (.int x1), some (.int x2), some (.int x3), some (.ref 7), some (.ref 30)], [.int x3], zhp p10.2)) rfl ?_
          refine zEv_ts rfl (by decide) (by decide) (by decide) (fun hh => ?_) (fun j hj hh => ?_)
          · replace H := zif_f (fun e => (by rw [e] at hh; exact absurd hh (by decide))) H
            replace H := zif_f (fun e => (by rw [e] at hh; exact absurd hh (by decide))) H
            replace H := zif_f (fun e => (by rw [e] at hh; exact absurd hh (by decide))) H
            replace H := zif_f (fun e => (by rw [e] at hh; exact absurd hh (by decide))) H
            replace H := zif_f (fun e => (by rw [e] at hh; exact absurd hh (by decide))) H
            replace H := zif_f (fun e => (by rw [e] at hh; exact absurd hh (by decide))) H
            refine zEv_k 1 (f' := (146, [some (.ref 0), some (.int x1), some (.int x2), some (.int x3), some (.ref 7), some (.ref 30)], [.int (-2)], zhp p10.2)) rfl ?_
            cases H
            exact zEv_r rfl
          · rcases (by have hj2 : j < 6 := hj; omega : j = 0 ∨ j = 1 ∨ j = 2 ∨ j = 3 ∨ j = 4 ∨ j = 5) with rfl | rfl | rfl | rfl | rfl | rfl
            · have ex : x3 = 0 := zeqI hh (by decide)
              replace H := zif_t ex H
              refine zEv_k 1 (f' := (97, [some (.ref 0), some (.int x1), some (.int x2), some (.int x3), some (.ref 7), some (.ref 30)], [.ref 0], zhp p10.2)) rfl ?_
              refine zRgr rfl rfl rfl (by decide) (b := 166) rfl ?_
              obtain ⟨p11, hp11, H⟩ := zbs H
              refine zEv_c (fun _ => rfl) rfl (t_qRu_firstBurstYear (oo := 166) (h := p10.2) (d := d + 4) (by decide) hp11) rfl rfl ?_
              cases H
              exact zEv_r rfl
            · have ex : x3 = 1 := zeqI hh (by decide)
              replace H := zif_f (fun e => by rw [ex] at e; exact absurd e (by decide)) H
              replace H := zif_t ex H
              refine zEv_k 1 (f' := (105, [some (.ref 0), some (.int x1), some (.int x2), some (.int x3), some (.ref 7), some (.ref 30)], [.ref 0], zhp p10.2)) rfl ?_
              refine zRgr rfl rfl rfl (by decide) (b := 166) rfl ?_
              obtain ⟨p12, hp12, H⟩ := zbs H
              refine zEv_c (fun _ => rfl) rfl (t_qRu_mostBurstYear (oo := 166) (h := p10.2) (d := d + 4) (by decide) hp12) rfl rfl ?_
              cases H
              exact zEv_r rfl
            · have ex : x3 = 2 := zeqI hh (by decide)
              replace H := zif_f (fun e => by rw [ex] at e; exact absurd e (by decide)) H
              replace H := zif_f (fun e => by rw [ex] at e; exact absurd e (by decide)) H
              replace H := zif_t ex H
              refine zEv_k 1 (f' := (113, [some (.ref 0), some (.int x1), some (.int x2), some (.int x3), some (.ref 7), some (.ref 30)], [.ref 0], zhp p10.2)) rfl ?_
              refine zRgr rfl rfl rfl (by decide) (b := 166) rfl ?_
              refine zEv_k 1 (f' := (119, [some (.ref 0), some (.int x1), some (.int x2), some (.int x3), some (.ref 7), some (.ref 30)], [.int (gI p10.2 166 6)], zhp p10.2)) rfl ?_
              cases H
              exact zEv_r rfl
            · have ex : x3 = 3 := zeqI hh (by decide)
              replace H := zif_f (fun e => by rw [ex] at e; exact absurd e (by decide)) H
              replace H := zif_f (fun e => by rw [ex] at e; exact absurd e (by decide)) H
              replace H := zif_f (fun e => by rw [ex] at e; exact absurd e (by decide)) H
              replace H := zif_t ex H
              refine zEv_k 1 (f' := (121, [some (.ref 0), some (.int x1), some (.int x2), some (.int x3), some (.ref 7), some (.ref 30)], [.ref 0], zhp p10.2)) rfl ?_
              refine zRgr rfl rfl rfl (by decide) (b := 166) rfl ?_
              refine zEv_k 1 (f' := (127, [some (.ref 0), some (.int x1), some (.int x2), some (.int x3), some (.ref 7), some (.ref 30)], [.int (gI p10.2 166 7)], zhp p10.2)) rfl ?_
              cases H
              exact zEv_r rfl
            · have ex : x3 = 4 := zeqI hh (by decide)
              replace H := zif_f (fun e => by rw [ex] at e; exact absurd e (by decide)) H
              replace H := zif_f (fun e => by rw [ex] at e; exact absurd e (by decide)) H
              replace H := zif_f (fun e => by rw [ex] at e; exact absurd e (by decide)) H
              replace H := zif_f (fun e => by rw [ex] at e; exact absurd e (by decide)) H
              replace H := zif_t ex H
              refine zEv_k 1 (f' := (129, [some (.ref 0), some (.int x1), some (.int x2), some (.int x3), some (.ref 7), some (.ref 30)], [.ref 0], zhp p10.2)) rfl ?_
              refine zRgr rfl rfl rfl (by decide) (b := 166) rfl ?_
              refine zEv_k 1 (f' := (135, [some (.ref 0), some (.int x1), some (.int x2), some (.int x3), some (.ref 7), some (.ref 30)], [.int (gI p10.2 166 8)], zhp p10.2)) rfl ?_
              cases H
              exact zEv_r rfl
            · have ex : x3 = 5 := zeqI hh (by decide)
              replace H := zif_f (fun e => by rw [ex] at e; exact absurd e (by decide)) H
              replace H := zif_f (fun e => by rw [ex] at e; exact absurd e (by decide)) H
              replace H := zif_f (fun e => by rw [ex] at e; exact absurd e (by decide)) H
              replace H := zif_f (fun e => by rw [ex] at e; exact absurd e (by decide)) H
              replace H := zif_f (fun e => by rw [ex] at e; exact absurd e (by decide)) H
              replace H := zif_t ex H
              refine zEv_k 1 (f' := (137, [some (.ref 0), some (.int x1), some (.int x2), some (.int x3), some (.ref 7), some (.ref 30)], [.ref 0], zhp p10.2)) rfl ?_
              refine zRgr rfl rfl rfl (by decide) (b := 166) rfl ?_
              refine zEv_k 1 (f' := (143, [some (.ref 0), some (.int x1), some (.int x2), some (.int x3), some (.ref 7), some (.ref 30)], [.int (gI p10.2 166 9)], zhp p10.2)) rfl ?_
              cases H
              exact zEv_r rfl
      · obtain ⟨p8, hp8, H⟩ := zbs H
        refine zEv_c (fun _ => rfl) rfl (t_qRu_begin (oo := 166) (oc := 22) (h := h) (d := d + 4) (by decide) hp8) rfl rfl ?_
        refine zEv_k 1 (f' := (43, [some (.ref 0), some (.int x1), some (.int x2), some (.int x3), some (.ref 22), some (.ref v6)], [.ref 0], zhp p8)) rfl ?_
        refine zRgr rfl rfl rfl (by decide) (b := 166) rfl ?_
        refine zEv_k 2 (f' := (50, [some (.ref 0), some (.int x1), some (.int x2), some (.int x3), some (.ref 22), some (.ref v6)], [.ref v6, .ref v6, .ref 166], zhp p8)) rfl ?_
        obtain ⟨c9, H⟩ := zifn H
        rcases c9 with rfl | rfl
        · refine zEv_k 1 (f' := (53, [some (.ref 0), some (.int x1), some (.int x2), some (.int x3), some (.ref 22), some (.ref 15)], [.int (gI p8 15 0), .ref 15, .ref 166], zhp p8)) rfl ?_
          obtain ⟨p10, hp10, H⟩ := zbs H
          refine zEv_c (fun _ => rfl) rfl (t_qRu_follow (oo := 166) (oe := 15) (x2 := gI p8 15 0) (h := p8) (d := d) (by decide) hp10) rfl rfl ?_
          refine zEv_k 2 (f' := (58, [some (.ref 0), some (.int x1), some (.int x2), some (.int x3), some (.ref 22), some (.ref 15)], [.int x3], zhp p10.2)) rfl ?_
          refine zEv_ts rfl (by decide) (by decide) (by decide) (fun hh => ?_) (fun j hj hh => ?_)
          · replace H := zif_f (fun e => (by rw [e] at hh; exact absurd hh (by decide))) H
            replace H := zif_f (fun e => (by rw [e] at hh; exact absurd hh (by decide))) H
            replace H := zif_f (fun e => (by rw [e] at hh; exact absurd hh (by decide))) H
            replace H := zif_f (fun e => (by rw [e] at hh; exact absurd hh (by decide))) H
            replace H := zif_f (fun e => (by rw [e] at hh; exact absurd hh (by decide))) H
            replace H := zif_f (fun e => (by rw [e] at hh; exact absurd hh (by decide))) H
            refine zEv_k 1 (f' := (146, [some (.ref 0), some (.int x1), some (.int x2), some (.int x3), some (.ref 22), some (.ref 15)], [.int (-2)], zhp p10.2)) rfl ?_
            cases H
            exact zEv_r rfl
          · rcases (by have hj2 : j < 6 := hj; omega : j = 0 ∨ j = 1 ∨ j = 2 ∨ j = 3 ∨ j = 4 ∨ j = 5) with rfl | rfl | rfl | rfl | rfl | rfl
            · have ex : x3 = 0 := zeqI hh (by decide)
              replace H := zif_t ex H
              refine zEv_k 1 (f' := (97, [some (.ref 0), some (.int x1), some (.int x2), some (.int x3), some (.ref 22), some (.ref 15)], [.ref 0], zhp p10.2)) rfl ?_
              refine zRgr rfl rfl rfl (by decide) (b := 166) rfl ?_
              obtain ⟨p11, hp11, H⟩ := zbs H
              refine zEv_c (fun _ => rfl) rfl (t_qRu_firstBurstYear (oo := 166) (h := p10.2) (d := d + 4) (by decide) hp11) rfl rfl ?_
              cases H
              exact zEv_r rfl
            · have ex : x3 = 1 := zeqI hh (by decide)
              replace H := zif_f (fun e => by rw [ex] at e; exact absurd e (by decide)) H
              replace H := zif_t ex H
              refine zEv_k 1 (f' := (105, [some (.ref 0), some (.int x1), some (.int x2), some (.int x3), some (.ref 22), some (.ref 15)], [.ref 0], zhp p10.2)) rfl ?_
              refine zRgr rfl rfl rfl (by decide) (b := 166) rfl ?_
              obtain ⟨p12, hp12, H⟩ := zbs H
              refine zEv_c (fun _ => rfl) rfl (t_qRu_mostBurstYear (oo := 166) (h := p10.2) (d := d + 4) (by decide) hp12) rfl rfl ?_
              cases H
              exact zEv_r rfl
            · have ex : x3 = 2 := zeqI hh (by decide)
              replace H := zif_f (fun e => by rw [ex] at e; exact absurd e (by decide)) H
              replace H := zif_f (fun e => by rw [ex] at e; exact absurd e (by decide)) H
              replace H := zif_t ex H
              refine zEv_k 1 (f' := (113, [some (.ref 0), some (.int x1), some (.int x2), some (.int x3), some (.ref 22), some (.ref 15)], [.ref 0], zhp p10.2)) rfl ?_
              refine zRgr rfl rfl rfl (by decide) (b := 166) rfl ?_
              refine zEv_k 1 (f' := (119, [some (.ref 0), some (.int x1), some (.int x2), some (.int x3), some (.ref 22), some (.ref 15)], [.int (gI p10.2 166 6)], zhp p10.2)) rfl ?_
              cases H
              exact zEv_r rfl
            · have ex : x3 = 3 := zeqI hh (by decide)
              replace H := zif_f (fun e => by rw [ex] at e; exact absurd e (by decide)) H
              replace H := zif_f (fun e => by rw [ex] at e; exact absurd e (by decide)) H
              replace H := zif_f (fun e => by rw [ex] at e; exact absurd e (by decide)) H
              replace H := zif_t ex H
              refine zEv_k 1 (f' := (121, [some (.ref 0), some (.int x1), some (.int x2), some (.int x3), some (.ref 22), some (.ref 15)], [.ref 0], zhp p10.2)) rfl ?_
              refine zRgr rfl rfl rfl (by decide) (b := 166) rfl ?_
              refine zEv_k 1 (f' := (127, [some (.ref 0), some (.int x1), some (.int x2), some (.int x3), some (.ref 22), some (.ref 15)], [.int (gI p10.2 166 7)], zhp p10.2)) rfl ?_
              cases H
              exact zEv_r rfl
            · have ex : x3 = 4 := zeqI hh (by decide)
              replace H := zif_f (fun e => by rw [ex] at e; exact absurd e (by decide)) H
              replace H := zif_f (fun e => by rw [ex] at e; exact absurd e (by decide)) H
              replace H := zif_f (fun e => by rw [ex] at e; exact absurd e (by decide)) H
              replace H := zif_f (fun e => by rw [ex] at e; exact absurd e (by decide)) H
              replace H := zif_t ex H
              refine zEv_k 1 (f' := (129, [some (.ref 0), some (.int x1), some (.int x2), some (.int x3), some (.ref 22), some (.ref 15)], [.ref 0], zhp p10.2)) rfl ?_
              refine zRgr rfl rfl rfl (by decide) (b := 166) rfl ?_
              refine zEv_k 1 (f' := (135, [some (.ref 0), some (.int x1), some (.int x2), some (.int x3), some (.ref 22), some (.ref 15)], [.int (gI p10.2 166 8)], zhp p10.2)) rfl ?_
              cases H
              exact zEv_r rfl
            · have ex : x3 = 5 := zeqI hh (by decide)
              replace H := zif_f (fun e => by rw [ex] at e; exact absurd e (by decide)) H
              replace H := zif_f (fun e => by rw [ex] at e; exact absurd e (by decide)) H
              replace H := zif_f (fun e => by rw [ex] at e; exact absurd e (by decide)) H
              replace H := zif_f (fun e => by rw [ex] at e; exact absurd e (by decide)) H
              replace H := zif_f (fun e => by rw [ex] at e; exact absurd e (by decide)) H
              replace H := zif_t ex H
              refine zEv_k 1 (f' := (137, [some (.ref 0), some (.int x1), some (.int x2), some (.int x3), some (.ref 22), some (.ref 15)], [.ref 0], zhp p10.2)) rfl ?_
              refine zRgr rfl rfl rfl (by decide) (b := 166) rfl ?_
              refine zEv_k 1 (f' := (143, [some (.ref 0), some (.int x1), some (.int x2), some (.int x3), some (.ref 22), some (.ref 15)], [.int (gI p10.2 166 9)], zhp p10.2)) rfl ?_
              cases H
              exact zEv_r rfl
        · refine zEv_k 1 (f' := (53, [some (.ref 0), some (.int x1), some (.int x2), some (.int x3), some (.ref 22), some (.ref 30)], [.int (gI p8 30 0), .ref 30, .ref 166], zhp p8)) rfl ?_
          obtain ⟨p10, hp10, H⟩ := zbs H
          refine zEv_c (fun _ => rfl) rfl (t_qRu_follow (oo := 166) (oe := 30) (x2 := gI p8 30 0) (h := p8) (d := d) (by decide) hp10) rfl rfl ?_
          refine zEv_k 2 (f' := (58, [some (.ref 0), some (.int x1), some (.int x2), some (.int x3), some (.ref 22), some (.ref 30)], [.int x3], zhp p10.2)) rfl ?_
          refine zEv_ts rfl (by decide) (by decide) (by decide) (fun hh => ?_) (fun j hj hh => ?_)
          · replace H := zif_f (fun e => (by rw [e] at hh; exact absurd hh (by decide))) H
            replace H := zif_f (fun e => (by rw [e] at hh; exact absurd hh (by decide))) H
            replace H := zif_f (fun e => (by rw [e] at hh; exact absurd hh (by decide))) H
            replace H := zif_f (fun e => (by rw [e] at hh; exact absurd hh (by decide))) H
            replace H := zif_f (fun e => (by rw [e] at hh; exact absurd hh (by decide))) H
            replace H := zif_f (fun e => (by rw [e] at hh; exact absurd hh (by decide))) H
            refine zEv_k 1 (f' := (146, [some (.ref 0), some (.int x1), some (.int x2), some (.int x3), some (.ref 22), some (.ref 30)], [.int (-2)], zhp p10.2)) rfl ?_
            cases H
            exact zEv_r rfl
          · rcases (by have hj2 : j < 6 := hj; omega : j = 0 ∨ j = 1 ∨ j = 2 ∨ j = 3 ∨ j = 4 ∨ j = 5) with rfl | rfl | rfl | rfl | rfl | rfl
            · have ex : x3 = 0 := zeqI hh (by decide)
              replace H := zif_t ex H
              refine zEv_k 1 (f' := (97, [some (.ref 0), some (.int x1), some (.int x2), some (.int x3), some (.ref 22), some (.ref 30)], [.ref 0], zhp p10.2)) rfl ?_
              refine zRgr rfl rfl rfl (by decide) (b := 166) rfl ?_
              obtain ⟨p11, hp11, H⟩ := zbs H
              refine zEv_c (fun _ => rfl) rfl (t_qRu_firstBurstYear (oo := 166) (h := p10.2) (d := d + 4) (by decide) hp11) rfl rfl ?_
              cases H
              exact zEv_r rfl
            · have ex : x3 = 1 := zeqI hh (by decide)
              replace H := zif_f (fun e => by rw [ex] at e; exact absurd e (by decide)) H
              replace H := zif_t ex H
              refine zEv_k 1 (f' := (105, [some (.ref 0), some (.int x1), some (.int x2), some (.int x3), some (.ref 22), some (.ref 30)], [.ref 0], zhp p10.2)) rfl ?_
              refine zRgr rfl rfl rfl (by decide) (b := 166) rfl ?_
              obtain ⟨p12, hp12, H⟩ := zbs H
              refine zEv_c (fun _ => rfl) rfl (t_qRu_mostBurstYear (oo := 166) (h := p10.2) (d := d + 4) (by decide) hp12) rfl rfl ?_
              cases H
              exact zEv_r rfl
            · have ex : x3 = 2 := zeqI hh (by decide)
              replace H := zif_f (fun e => by rw [ex] at e; exact absurd e (by decide)) H
              replace H := zif_f (fun e => by rw [ex] at e; exact absurd e (by decide)) H
              replace H := zif_t ex H
              refine zEv_k 1 (f' := (113, [some (.ref 0), some (.int x1), some (.int x2), some (.int x3), some (.ref 22), some (.ref 30)], [.ref 0], zhp p10.2)) rfl ?_
              refine zRgr rfl rfl rfl (by decide) (b := 166) rfl ?_
              refine zEv_k 1 (f' := (119, [some (.ref 0), some (.int x1), some (.int x2), some (.int x3), some (.ref 22), some (.ref 30)], [.int (gI p10.2 166 6)], zhp p10.2)) rfl ?_
              cases H
              exact zEv_r rfl
            · have ex : x3 = 3 := zeqI hh (by decide)
              replace H := zif_f (fun e => by rw [ex] at e; exact absurd e (by decide)) H
              replace H := zif_f (fun e => by rw [ex] at e; exact absurd e (by decide)) H
              replace H := zif_f (fun e => by rw [ex] at e; exact absurd e (by decide)) H
              replace H := zif_t ex H
              refine zEv_k 1 (f' := (121, [some (.ref 0), some (.int x1), some (.int x2), some (.int x3), some (.ref 22), some (.ref 30)], [.ref 0], zhp p10.2)) rfl ?_
              refine zRgr rfl rfl rfl (by decide) (b := 166) rfl ?_
              refine zEv_k 1 (f' := (127, [some (.ref 0), some (.int x1), some (.int x2), some (.int x3), some (.ref 22), some (.ref 30)], [.int (gI p10.2 166 7)], zhp p10.2)) rfl ?_
              cases H
              exact zEv_r rfl
            · have ex : x3 = 4 := zeqI hh (by decide)
              replace H := zif_f (fun e => by rw [ex] at e; exact absurd e (by decide)) H
              replace H := zif_f (fun e => by rw [ex] at e; exact absurd e (by decide)) H
              replace H := zif_f (fun e => by rw [ex] at e; exact absurd e (by decide)) H
              replace H := zif_f (fun e => by rw [ex] at e; exact absurd e (by decide)) H
              replace H := zif_t ex H
              refine zEv_k 1 (f' := (129, [some (.ref 0), some (.int x1), some (.int x2), some (.int x3), some (.ref 22), some (.ref 30)], [.ref 0], zhp p10.2)) rfl ?_
              refine zRgr rfl rfl rfl (by decide) (b := 166) rfl ?_
              refine zEv_k 1 (f' := (135, [some (.ref 0), some (.int x1), some (.int x2), some (.int x3), some (.ref 22), some (.ref 30)], [.int (gI p10.2 166 8)], zhp p10.2)) rfl ?_
              cases H
              exact zEv_r rfl
            · have ex : x3 = 5 := zeqI hh (by decide)
              replace H := zif_f (fun e => by rw [ex] at e; exact absurd e (by decide)) H
              replace H := zif_f (fun e => by rw [ex] at e; exact absurd e (by decide)) H
              replace H := zif_f (fun e => by rw [ex] at e; exact absurd e (by decide)) H
              replace H := zif_f (fun e => by rw [ex] at e; exact absurd e (by decide)) H
              replace H := zif_f (fun e => by rw [ex] at e; exact absurd e (by decide)) H
              replace H := zif_t ex H
              refine zEv_k 1 (f' := (137, [some (.ref 0), some (.int x1), some (.int x2), some (.int x3), some (.ref 22), some (.ref 30)], [.ref 0], zhp p10.2)) rfl ?_
              refine zRgr rfl rfl rfl (by decide) (b := 166) rfl ?_
              refine zEv_k 1 (f' := (143, [some (.ref 0), some (.int x1), some (.int x2), some (.int x3), some (.ref 22), some (.ref 30)], [.int (gI p10.2 166 9)], zhp p10.2)) rfl ?_
              cases H
              exact zEv_r rfl
def qC_odds (x1 : Int32) (x2 : Int32) (x3 : Int32) (x4 : Int32) (h : zK) : Option (Int32 × zK) :=
  (qT_cellarAt x1 h).bind fun p1 => match p1 with
  | none =>
    (qT_logAt x2 h).bind fun p3 => match p3 with
    | none =>
      some (-1, h)
    | some v4 =>
      some (-1, h)
  | some v2 =>
    (qT_logAt x2 h).bind fun p5 => match p5 with
    | none =>
      some (-1, h)
    | some v6 =>
      if x3 < 0 then
        some (-1, h)
      else
        if x3 ≤ 9 then
          if v2 = 7 ∨ v2 = 22 then
            if v6 = 19 ∨ v6 = 34 then
              (qLw_find x1 v2 v6 h).bind fun p11 =>
              (qLw_sizeOfReach x3 p11).bind fun p12 =>
              (qC_inLeastTerms (Int32.toInt64 p12) (Int32.toInt64 (gI p11 196 0)) x4).bind fun p13 =>
              some (Int64.toInt32 p13, p11)
            else none
          else none
        else
          some (-1, h)
theorem t_qC_odds {Ls : Nat} {xs : Nat → Int32} {d : Nat} {x1 : Int32} {x2 : Int32} {x3 : Int32} {x4 : Int32} {h : zK} {p : Int32 × zK} (H : qC_odds x1 x2 x3 x4 h = some p) : zEv (zXs Ls xs) (d + 6) zm_138 (0, [some (.ref 0), some (.int x1), some (.int x2), some (.int x3), some (.int x4), none, none], [], zhp h) (some (.int p.1), zhp p.2) := by
  unfold qC_odds at H
  refine zEv_k 1 (f' := (1, [some (.ref 0), some (.int x1), some (.int x2), some (.int x3), some (.int x4), none, none], [.ref 0], zhp h)) rfl ?_
  refine zRgr rfl rfl rfl (by decide) (b := 1) rfl ?_
  refine zEv_k 1 (f' := (5, [some (.ref 0), some (.int x1), some (.int x2), some (.int x3), some (.int x4), none, none], [.int x1, .ref 1], zhp h)) rfl ?_
  obtain ⟨p1, hp1, H⟩ := zbs H
  refine zEv_c (fun _ => rfl) rfl (t_qT_cellarAt (x1 := x1) (h := h) (d := d + 5) hp1) rfl rfl ?_
  rcases p1 with _ | v2
  · dsimp only at H
    refine zEv_k 2 (f' := (11, [some (.ref 0), some (.int x1), some (.int x2), some (.int x3), some (.int x4), some (.null), none], [.ref 0], zhp h)) rfl ?_
    refine zRgr rfl rfl rfl (by decide) (b := 1) rfl ?_
    refine zEv_k 1 (f' := (15, [some (.ref 0), some (.int x1), some (.int x2), some (.int x3), some (.int x4), some (.null), none], [.int x2, .ref 1], zhp h)) rfl ?_
    obtain ⟨p3, hp3, H⟩ := zbs H
    refine zEv_c (fun _ => rfl) rfl (t_qT_logAt (x1 := x2) (h := h) (d := d + 5) hp3) rfl rfl ?_
    rcases p3 with _ | v4
    · dsimp only at H
      refine zEv_k 4 (f' := (41, [some (.ref 0), some (.int x1), some (.int x2), some (.int x3), some (.int x4), some (.null), some (.null)], [.int (-1)], zhp h)) rfl ?_
      cases H
      exact zEv_r rfl
    · dsimp only at H
      refine zEv_k 4 (f' := (41, [some (.ref 0), some (.int x1), some (.int x2), some (.int x3), some (.int x4), some (.null), some (.ref v4)], [.int (-1)], zhp h)) rfl ?_
      cases H
      exact zEv_r rfl
  · dsimp only at H
    refine zEv_k 2 (f' := (11, [some (.ref 0), some (.int x1), some (.int x2), some (.int x3), some (.int x4), some (.ref v2), none], [.ref 0], zhp h)) rfl ?_
    refine zRgr rfl rfl rfl (by decide) (b := 1) rfl ?_
    refine zEv_k 1 (f' := (15, [some (.ref 0), some (.int x1), some (.int x2), some (.int x3), some (.int x4), some (.ref v2), none], [.int x2, .ref 1], zhp h)) rfl ?_
    obtain ⟨p5, hp5, H⟩ := zbs H
    refine zEv_c (fun _ => rfl) rfl (t_qT_logAt (x1 := x2) (h := h) (d := d + 5) hp5) rfl rfl ?_
    rcases p5 with _ | v6
    · dsimp only at H
      refine zEv_k 6 (f' := (41, [some (.ref 0), some (.int x1), some (.int x2), some (.int x3), some (.int x4), some (.ref v2), some (.null)], [.int (-1)], zhp h)) rfl ?_
      cases H
      exact zEv_r rfl
    · dsimp only at H
      refine zEv_k 7 (f' := (if x3 < 0 then 40 else 34, [some (.ref 0), some (.int x1), some (.int x2), some (.int x3), some (.int x4), some (.ref v2), some (.ref v6)], [], zhp h)) rfl (zEv_if (fun c7 => ?_) (fun c7 => ?_))
      · replace H := zif_t c7 H
        refine zEv_k 1 (f' := (41, [some (.ref 0), some (.int x1), some (.int x2), some (.int x3), some (.int x4), some (.ref v2), some (.ref v6)], [.int (-1)], zhp h)) rfl ?_
        cases H
        exact zEv_r rfl
      · replace H := zif_f c7 H
        refine zEv_k 3 (f' := (if x3 ≤ 9 then 42 else 40, [some (.ref 0), some (.int x1), some (.int x2), some (.int x3), some (.int x4), some (.ref v2), some (.ref v6)], [], zhp h)) rfl (zEv_if (fun c8 => ?_) (fun c8 => ?_))
        · replace H := zif_t c8 H
          refine zEv_k 1 (f' := (43, [some (.ref 0), some (.int x1), some (.int x2), some (.int x3), some (.int x4), some (.ref v2), some (.ref v6)], [.ref 0], zhp h)) rfl ?_
          refine zRgr rfl rfl rfl (by decide) (b := 196) rfl ?_
          refine zEv_k 3 (f' := (51, [some (.ref 0), some (.int x1), some (.int x2), some (.int x3), some (.int x4), some (.ref v2), some (.ref v6)], [.ref v6, .ref v2, .int x1, .ref 196], zhp h)) rfl ?_
          obtain ⟨c9, H⟩ := zifn H
          rcases c9 with rfl | rfl
          · obtain ⟨c10, H⟩ := zifn H
            rcases c10 with rfl | rfl
            · obtain ⟨p11, hp11, H⟩ := zbs H
              refine zEv_c (fun _ => rfl) rfl (t_qLw_find (x1 := x1) (oc := 7) (og := 19) (h := h) (d := d) (by decide) hp11) rfl rfl ?_
              refine zEv_k 1 (f' := (55, [some (.ref 0), some (.int x1), some (.int x2), some (.int x3), some (.int x4), some (.ref 7), some (.ref 19)], [.ref 0], zhp p11)) rfl ?_
              refine zRgr rfl rfl rfl (by decide) (b := 196) rfl ?_
              refine zEv_k 1 (f' := (59, [some (.ref 0), some (.int x1), some (.int x2), some (.int x3), some (.int x4), some (.ref 7), some (.ref 19)], [.int x3, .ref 196], zhp p11)) rfl ?_
              obtain ⟨p12, hp12, H⟩ := zbs H
              refine zEv_c (fun _ => rfl) rfl (t_qLw_sizeOfReach (x1 := x3) (h := p11) (d := d + 5) hp12) rfl rfl ?_
              refine zEv_k 2 (f' := (64, [some (.ref 0), some (.int x1), some (.int x2), some (.int x3), some (.int x4), some (.ref 7), some (.ref 19)], [.ref 0, .long (Int32.toInt64 p12)], zhp p11)) rfl ?_
              refine zRgr rfl rfl rfl (by decide) (b := 196) rfl ?_
              refine zEv_k 3 (f' := (73, [some (.ref 0), some (.int x1), some (.int x2), some (.int x3), some (.int x4), some (.ref 7), some (.ref 19)], [.int x4, .long (Int32.toInt64 (gI p11 196 0)), .long (Int32.toInt64 p12)], zhp p11)) rfl ?_
              obtain ⟨p13, hp13, H⟩ := zbs H
              refine zEv_c (fun _ => rfl) rfl (t_qC_inLeastTerms (x0 := Int32.toInt64 p12) (x2 := Int32.toInt64 (gI p11 196 0)) (x4 := x4) (h := p11) (d := d + 4) hp13) rfl rfl ?_
              refine zEv_k 1 (f' := (77, [some (.ref 0), some (.int x1), some (.int x2), some (.int x3), some (.int x4), some (.ref 7), some (.ref 19)], [.int (Int64.toInt32 p13)], zhp p11)) rfl ?_
              cases H
              exact zEv_r rfl
            · obtain ⟨p11, hp11, H⟩ := zbs H
              refine zEv_c (fun _ => rfl) rfl (t_qLw_find (x1 := x1) (oc := 7) (og := 34) (h := h) (d := d) (by decide) hp11) rfl rfl ?_
              refine zEv_k 1 (f' := (55, [some (.ref 0), some (.int x1), some (.int x2), some (.int x3), some (.int x4), some (.ref 7), some (.ref 34)], [.ref 0], zhp p11)) rfl ?_
              refine zRgr rfl rfl rfl (by decide) (b := 196) rfl ?_
              refine zEv_k 1 (f' := (59, [some (.ref 0), some (.int x1), some (.int x2), some (.int x3), some (.int x4), some (.ref 7), some (.ref 34)], [.int x3, .ref 196], zhp p11)) rfl ?_
              obtain ⟨p12, hp12, H⟩ := zbs H
              refine zEv_c (fun _ => rfl) rfl (t_qLw_sizeOfReach (x1 := x3) (h := p11) (d := d + 5) hp12) rfl rfl ?_
              refine zEv_k 2 (f' := (64, [some (.ref 0), some (.int x1), some (.int x2), some (.int x3), some (.int x4), some (.ref 7), some (.ref 34)], [.ref 0, .long (Int32.toInt64 p12)], zhp p11)) rfl ?_
              refine zRgr rfl rfl rfl (by decide) (b := 196) rfl ?_
              refine zEv_k 3 (f' := (73, [some (.ref 0), some (.int x1), some (.int x2), some (.int x3), some (.int x4), some (.ref 7), some (.ref 34)], [.int x4, .long (Int32.toInt64 (gI p11 196 0)), .long (Int32.toInt64 p12)], zhp p11)) rfl ?_
              obtain ⟨p13, hp13, H⟩ := zbs H
              refine zEv_c (fun _ => rfl) rfl (t_qC_inLeastTerms (x0 := Int32.toInt64 p12) (x2 := Int32.toInt64 (gI p11 196 0)) (x4 := x4) (h := p11) (d := d + 4) hp13) rfl rfl ?_
              refine zEv_k 1 (f' := (77, [some (.ref 0), some (.int x1), some (.int x2), some (.int x3), some (.int x4), some (.ref 7), some (.ref 34)], [.int (Int64.toInt32 p13)], zhp p11)) rfl ?_
              cases H
              exact zEv_r rfl
          · obtain ⟨c10, H⟩ := zifn H
            rcases c10 with rfl | rfl
            · obtain ⟨p11, hp11, H⟩ := zbs H
              refine zEv_c (fun _ => rfl) rfl (t_qLw_find (x1 := x1) (oc := 22) (og := 19) (h := h) (d := d) (by decide) hp11) rfl rfl ?_
              refine zEv_k 1 (f' := (55, [some (.ref 0), some (.int x1), some (.int x2), some (.int x3), some (.int x4), some (.ref 22), some (.ref 19)], [.ref 0], zhp p11)) rfl ?_
              refine zRgr rfl rfl rfl (by decide) (b := 196) rfl ?_
              refine zEv_k 1 (f' := (59, [some (.ref 0), some (.int x1), some (.int x2), some (.int x3), some (.int x4), some (.ref 22), some (.ref 19)], [.int x3, .ref 196], zhp p11)) rfl ?_
              obtain ⟨p12, hp12, H⟩ := zbs H
              refine zEv_c (fun _ => rfl) rfl (t_qLw_sizeOfReach (x1 := x3) (h := p11) (d := d + 5) hp12) rfl rfl ?_
              refine zEv_k 2 (f' := (64, [some (.ref 0), some (.int x1), some (.int x2), some (.int x3), some (.int x4), some (.ref 22), some (.ref 19)], [.ref 0, .long (Int32.toInt64 p12)], zhp p11)) rfl ?_
              refine zRgr rfl rfl rfl (by decide) (b := 196) rfl ?_
              refine zEv_k 3 (f' := (73, [some (.ref 0), some (.int x1), some (.int x2), some (.int x3), some (.int x4), some (.ref 22), some (.ref 19)], [.int x4, .long (Int32.toInt64 (gI p11 196 0)), .long (Int32.toInt64 p12)], zhp p11)) rfl ?_
              obtain ⟨p13, hp13, H⟩ := zbs H
              refine zEv_c (fun _ => rfl) rfl (t_qC_inLeastTerms (x0 := Int32.toInt64 p12) (x2 := Int32.toInt64 (gI p11 196 0)) (x4 := x4) (h := p11) (d := d + 4) hp13) rfl rfl ?_
              refine zEv_k 1 (f' := (77, [some (.ref 0), some (.int x1), some (.int x2), some (.int x3), some (.int x4), some (.ref 22), some (.ref 19)], [.int (Int64.toInt32 p13)], zhp p11)) rfl ?_
              cases H
              exact zEv_r rfl
            · obtain ⟨p11, hp11, H⟩ := zbs H
              refine zEv_c (fun _ => rfl) rfl (t_qLw_find (x1 := x1) (oc := 22) (og := 34) (h := h) (d := d) (by decide) hp11) rfl rfl ?_
              refine zEv_k 1 (f' := (55, [some (.ref 0), some (.int x1), some (.int x2), some (.int x3), some (.int x4), some (.ref 22), some (.ref 34)], [.ref 0], zhp p11)) rfl ?_
              refine zRgr rfl rfl rfl (by decide) (b := 196) rfl ?_
              refine zEv_k 1 (f' := (59, [some (.ref 0), some (.int x1), some (.int x2), some (.int x3), some (.int x4), some (.ref 22), some (.ref 34)], [.int x3, .ref 196], zhp p11)) rfl ?_
              obtain ⟨p12, hp12, H⟩ := zbs H
              refine zEv_c (fun _ => rfl) rfl (t_qLw_sizeOfReach (x1 := x3) (h := p11) (d := d + 5) hp12) rfl rfl ?_
              refine zEv_k 2 (f' := (64, [some (.ref 0), some (.int x1), some (.int x2), some (.int x3), some (.int x4), some (.ref 22), some (.ref 34)], [.ref 0, .long (Int32.toInt64 p12)], zhp p11)) rfl ?_
              refine zRgr rfl rfl rfl (by decide) (b := 196) rfl ?_
              refine zEv_k 3 (f' := (73, [some (.ref 0), some (.int x1), some (.int x2), some (.int x3), some (.int x4), some (.ref 22), some (.ref 34)], [.int x4, .long (Int32.toInt64 (gI p11 196 0)), .long (Int32.toInt64 p12)], zhp p11)) rfl ?_
              obtain ⟨p13, hp13, H⟩ := zbs H
              refine zEv_c (fun _ => rfl) rfl (t_qC_inLeastTerms (x0 := Int32.toInt64 p12) (x2 := Int32.toInt64 (gI p11 196 0)) (x4 := x4) (h := p11) (d := d + 4) hp13) rfl rfl ?_
              refine zEv_k 1 (f' := (77, [some (.ref 0), some (.int x1), some (.int x2), some (.int x3), some (.int x4), some (.ref 22), some (.ref 34)], [.int (Int64.toInt32 p13)], zhp p11)) rfl ?_
              cases H
              exact zEv_r rfl
        · replace H := zif_f c8 H
          refine zEv_k 1 (f' := (41, [some (.ref 0), some (.int x1), some (.int x2), some (.int x3), some (.int x4), some (.ref v2), some (.ref v6)], [.int (-1)], zhp h)) rfl ?_
          cases H
          exact zEv_r rfl
def qC_shock (x1 : Int32) (x2 : Int32) (x3 : Int32) (h : zK) : Option (Int32 × zK) :=
  (qT_cellarAt x1 h).bind fun p1 => match p1 with
  | none =>
    (qT_logAt x2 h).bind fun p3 => match p3 with
    | none =>
      some (-1, h)
    | some v4 =>
      some (-1, h)
  | some v2 =>
    (qT_logAt x2 h).bind fun p5 => match p5 with
    | none =>
      some (-1, h)
    | some v6 =>
      if v2 = 7 ∨ v2 = 22 then
        if v6 = 19 ∨ v6 = 34 then
          (qLw_find x1 v2 v6 h).bind fun p9 =>
          if x3 = 0 then
            (qLw_leastShock p9).bind fun p11 =>
            some (p11, p9)
          else
            (qLw_greatestShock p9).bind fun p12 =>
            some (p12, p9)
        else none
      else none
theorem t_qC_shock {Ls : Nat} {xs : Nat → Int32} {d : Nat} {x1 : Int32} {x2 : Int32} {x3 : Int32} {h : zK} {p : Int32 × zK} (H : qC_shock x1 x2 x3 h = some p) : zEv (zXs Ls xs) (d + 6) zm_139 (0, [some (.ref 0), some (.int x1), some (.int x2), some (.int x3), none, none], [], zhp h) (some (.int p.1), zhp p.2) := by
  unfold qC_shock at H
  refine zEv_k 1 (f' := (1, [some (.ref 0), some (.int x1), some (.int x2), some (.int x3), none, none], [.ref 0], zhp h)) rfl ?_
  refine zRgr rfl rfl rfl (by decide) (b := 1) rfl ?_
  refine zEv_k 1 (f' := (5, [some (.ref 0), some (.int x1), some (.int x2), some (.int x3), none, none], [.int x1, .ref 1], zhp h)) rfl ?_
  obtain ⟨p1, hp1, H⟩ := zbs H
  refine zEv_c (fun _ => rfl) rfl (t_qT_cellarAt (x1 := x1) (h := h) (d := d + 5) hp1) rfl rfl ?_
  rcases p1 with _ | v2
  · dsimp only at H
    refine zEv_k 2 (f' := (11, [some (.ref 0), some (.int x1), some (.int x2), some (.int x3), some (.null), none], [.ref 0], zhp h)) rfl ?_
    refine zRgr rfl rfl rfl (by decide) (b := 1) rfl ?_
    refine zEv_k 1 (f' := (15, [some (.ref 0), some (.int x1), some (.int x2), some (.int x3), some (.null), none], [.int x2, .ref 1], zhp h)) rfl ?_
    obtain ⟨p3, hp3, H⟩ := zbs H
    refine zEv_c (fun _ => rfl) rfl (t_qT_logAt (x1 := x2) (h := h) (d := d + 5) hp3) rfl rfl ?_
    rcases p3 with _ | v4
    · dsimp only at H
      refine zEv_k 4 (f' := (31, [some (.ref 0), some (.int x1), some (.int x2), some (.int x3), some (.null), some (.null)], [.int (-1)], zhp h)) rfl ?_
      cases H
      exact zEv_r rfl
    · dsimp only at H
      refine zEv_k 4 (f' := (31, [some (.ref 0), some (.int x1), some (.int x2), some (.int x3), some (.null), some (.ref v4)], [.int (-1)], zhp h)) rfl ?_
      cases H
      exact zEv_r rfl
  · dsimp only at H
    refine zEv_k 2 (f' := (11, [some (.ref 0), some (.int x1), some (.int x2), some (.int x3), some (.ref v2), none], [.ref 0], zhp h)) rfl ?_
    refine zRgr rfl rfl rfl (by decide) (b := 1) rfl ?_
    refine zEv_k 1 (f' := (15, [some (.ref 0), some (.int x1), some (.int x2), some (.int x3), some (.ref v2), none], [.int x2, .ref 1], zhp h)) rfl ?_
    obtain ⟨p5, hp5, H⟩ := zbs H
    refine zEv_c (fun _ => rfl) rfl (t_qT_logAt (x1 := x2) (h := h) (d := d + 5) hp5) rfl rfl ?_
    rcases p5 with _ | v6
    · dsimp only at H
      refine zEv_k 6 (f' := (31, [some (.ref 0), some (.int x1), some (.int x2), some (.int x3), some (.ref v2), some (.null)], [.int (-1)], zhp h)) rfl ?_
      cases H
      exact zEv_r rfl
    · dsimp only at H
      refine zEv_k 6 (f' := (33, [some (.ref 0), some (.int x1), some (.int x2), some (.int x3), some (.ref v2), some (.ref v6)], [.ref 0], zhp h)) rfl ?_
      refine zRgr rfl rfl rfl (by decide) (b := 196) rfl ?_
      refine zEv_k 3 (f' := (41, [some (.ref 0), some (.int x1), some (.int x2), some (.int x3), some (.ref v2), some (.ref v6)], [.ref v6, .ref v2, .int x1, .ref 196], zhp h)) rfl ?_
      obtain ⟨c7, H⟩ := zifn H
      rcases c7 with rfl | rfl
      · obtain ⟨c8, H⟩ := zifn H
        rcases c8 with rfl | rfl
        · obtain ⟨p9, hp9, H⟩ := zbs H
          refine zEv_c (fun _ => rfl) rfl (t_qLw_find (x1 := x1) (oc := 7) (og := 19) (h := h) (d := d) (by decide) hp9) rfl rfl ?_
          refine zEv_k 2 (f' := (if x3 = 0 then 58 else 48, [some (.ref 0), some (.int x1), some (.int x2), some (.int x3), some (.ref 7), some (.ref 19)], [], zhp p9)) rfl (zEv_if (fun c10 => ?_) (fun c10 => ?_))
          · replace H := zif_t c10 H
            refine zEv_k 1 (f' := (59, [some (.ref 0), some (.int x1), some (.int x2), some (.int x3), some (.ref 7), some (.ref 19)], [.ref 0], zhp p9)) rfl ?_
            refine zRgr rfl rfl rfl (by decide) (b := 196) rfl ?_
            obtain ⟨p11, hp11, H⟩ := zbs H
            refine zEv_c (fun _ => rfl) rfl (t_qLw_leastShock (h := p9) (d := d + 5) hp11) rfl rfl ?_
            cases H
            exact zEv_r rfl
          · replace H := zif_f c10 H
            refine zEv_k 1 (f' := (49, [some (.ref 0), some (.int x1), some (.int x2), some (.int x3), some (.ref 7), some (.ref 19)], [.ref 0], zhp p9)) rfl ?_
            refine zRgr rfl rfl rfl (by decide) (b := 196) rfl ?_
            obtain ⟨p12, hp12, H⟩ := zbs H
            refine zEv_c (fun _ => rfl) rfl (t_qLw_greatestShock (h := p9) (d := d + 5) hp12) rfl rfl ?_
            refine zEv_k 1 (f' := (65, [some (.ref 0), some (.int x1), some (.int x2), some (.int x3), some (.ref 7), some (.ref 19)], [.int p12], zhp p9)) rfl ?_
            cases H
            exact zEv_r rfl
        · obtain ⟨p9, hp9, H⟩ := zbs H
          refine zEv_c (fun _ => rfl) rfl (t_qLw_find (x1 := x1) (oc := 7) (og := 34) (h := h) (d := d) (by decide) hp9) rfl rfl ?_
          refine zEv_k 2 (f' := (if x3 = 0 then 58 else 48, [some (.ref 0), some (.int x1), some (.int x2), some (.int x3), some (.ref 7), some (.ref 34)], [], zhp p9)) rfl (zEv_if (fun c10 => ?_) (fun c10 => ?_))
          · replace H := zif_t c10 H
            refine zEv_k 1 (f' := (59, [some (.ref 0), some (.int x1), some (.int x2), some (.int x3), some (.ref 7), some (.ref 34)], [.ref 0], zhp p9)) rfl ?_
            refine zRgr rfl rfl rfl (by decide) (b := 196) rfl ?_
            obtain ⟨p11, hp11, H⟩ := zbs H
            refine zEv_c (fun _ => rfl) rfl (t_qLw_leastShock (h := p9) (d := d + 5) hp11) rfl rfl ?_
            cases H
            exact zEv_r rfl
          · replace H := zif_f c10 H
            refine zEv_k 1 (f' := (49, [some (.ref 0), some (.int x1), some (.int x2), some (.int x3), some (.ref 7), some (.ref 34)], [.ref 0], zhp p9)) rfl ?_
            refine zRgr rfl rfl rfl (by decide) (b := 196) rfl ?_
            obtain ⟨p12, hp12, H⟩ := zbs H
            refine zEv_c (fun _ => rfl) rfl (t_qLw_greatestShock (h := p9) (d := d + 5) hp12) rfl rfl ?_
            refine zEv_k 1 (f' := (65, [some (.ref 0), some (.int x1), some (.int x2), some (.int x3), some (.ref 7), some (.ref 34)], [.int p12], zhp p9)) rfl ?_
            cases H
            exact zEv_r rfl
      · obtain ⟨c8, H⟩ := zifn H
        rcases c8 with rfl | rfl
        · obtain ⟨p9, hp9, H⟩ := zbs H
          refine zEv_c (fun _ => rfl) rfl (t_qLw_find (x1 := x1) (oc := 22) (og := 19) (h := h) (d := d) (by decide) hp9) rfl rfl ?_
          refine zEv_k 2 (f' := (if x3 = 0 then 58 else 48, [some (.ref 0), some (.int x1), some (.int x2), some (.int x3), some (.ref 22), some (.ref 19)], [], zhp p9)) rfl (zEv_if (fun c10 => ?_) (fun c10 => ?_))
          · replace H := zif_t c10 H
            refine zEv_k 1 (f' := (59, [some (.ref 0), some (.int x1), some (.int x2), some (.int x3), some (.ref 22), some (.ref 19)], [.ref 0], zhp p9)) rfl ?_
            refine zRgr rfl rfl rfl (by decide) (b := 196) rfl ?_
            obtain ⟨p11, hp11, H⟩ := zbs H
            refine zEv_c (fun _ => rfl) rfl (t_qLw_leastShock (h := p9) (d := d + 5) hp11) rfl rfl ?_
            cases H
            exact zEv_r rfl
          · replace H := zif_f c10 H
            refine zEv_k 1 (f' := (49, [some (.ref 0), some (.int x1), some (.int x2), some (.int x3), some (.ref 22), some (.ref 19)], [.ref 0], zhp p9)) rfl ?_
            refine zRgr rfl rfl rfl (by decide) (b := 196) rfl ?_
            obtain ⟨p12, hp12, H⟩ := zbs H
            refine zEv_c (fun _ => rfl) rfl (t_qLw_greatestShock (h := p9) (d := d + 5) hp12) rfl rfl ?_
            refine zEv_k 1 (f' := (65, [some (.ref 0), some (.int x1), some (.int x2), some (.int x3), some (.ref 22), some (.ref 19)], [.int p12], zhp p9)) rfl ?_
            cases H
            exact zEv_r rfl
        · obtain ⟨p9, hp9, H⟩ := zbs H
          refine zEv_c (fun _ => rfl) rfl (t_qLw_find (x1 := x1) (oc := 22) (og := 34) (h := h) (d := d) (by decide) hp9) rfl rfl ?_
          refine zEv_k 2 (f' := (if x3 = 0 then 58 else 48, [some (.ref 0), some (.int x1), some (.int x2), some (.int x3), some (.ref 22), some (.ref 34)], [], zhp p9)) rfl (zEv_if (fun c10 => ?_) (fun c10 => ?_))
          · replace H := zif_t c10 H
            refine zEv_k 1 (f' := (59, [some (.ref 0), some (.int x1), some (.int x2), some (.int x3), some (.ref 22), some (.ref 34)], [.ref 0], zhp p9)) rfl ?_
            refine zRgr rfl rfl rfl (by decide) (b := 196) rfl ?_
            obtain ⟨p11, hp11, H⟩ := zbs H
            refine zEv_c (fun _ => rfl) rfl (t_qLw_leastShock (h := p9) (d := d + 5) hp11) rfl rfl ?_
            cases H
            exact zEv_r rfl
          · replace H := zif_f c10 H
            refine zEv_k 1 (f' := (49, [some (.ref 0), some (.int x1), some (.int x2), some (.int x3), some (.ref 22), some (.ref 34)], [.ref 0], zhp p9)) rfl ?_
            refine zRgr rfl rfl rfl (by decide) (b := 196) rfl ?_
            obtain ⟨p12, hp12, H⟩ := zbs H
            refine zEv_c (fun _ => rfl) rfl (t_qLw_greatestShock (h := p9) (d := d + 5) hp12) rfl rfl ?_
            refine zEv_k 1 (f' := (65, [some (.ref 0), some (.int x1), some (.int x2), some (.int x3), some (.ref 22), some (.ref 34)], [.int p12], zhp p9)) rfl ?_
            cases H
            exact zEv_r rfl
def qC_count (x1 : Int32) (h : zK) : Option (Int32) :=
  if x1 < 0 then
    some (-2)
  else
    if 3 ≤ x1 then
      some (-2)
    else
      (zix x1 3).bind fun j3 =>
      some (gI h 3 j3)
theorem t_qC_count {Ls : Nat} {xs : Nat → Int32} {d : Nat} {x1 : Int32} {h : zK} {p : Int32} (H : qC_count x1 h = some p) : zEv (zXs Ls xs) d zm_140 (0, [some (.ref 0), some (.int x1)], [], zhp h) (some (.int p), zhp h) := by
  unfold qC_count at H
  refine zEv_k 2 (f' := (if x1 < 0 then 21 else 4, [some (.ref 0), some (.int x1)], [], zhp h)) rfl (zEv_if (fun c1 => ?_) (fun c1 => ?_))
  · replace H := zif_t c1 H
    refine zEv_k 1 (f' := (23, [some (.ref 0), some (.int x1)], [.int (-2)], zhp h)) rfl ?_
    cases H
    exact zEv_r rfl
  · replace H := zif_f c1 H
    refine zEv_k 3 (f' := (if 3 ≤ x1 then 21 else 9, [some (.ref 0), some (.int x1)], [], zhp h)) rfl (zEv_if (fun c2 => ?_) (fun c2 => ?_))
    · replace H := zif_t c2 H
      refine zEv_k 1 (f' := (23, [some (.ref 0), some (.int x1)], [.int (-2)], zhp h)) rfl ?_
      cases H
      exact zEv_r rfl
    · replace H := zif_f c2 H
      refine zEv_k 1 (f' := (10, [some (.ref 0), some (.int x1)], [.ref 0], zhp h)) rfl ?_
      refine zRgr rfl rfl rfl (by decide) (b := 1) rfl ?_
      refine zRgr rfl rfl rfl (by decide) (b := 3) rfl ?_
      refine zEv_k 1 (f' := (17, [some (.ref 0), some (.int x1)], [.int x1, .ref 3], zhp h)) rfl ?_
      obtain ⟨j3, hj3, H⟩ := zbs H
      refine zRia rfl rfl (by decide) hj3 ?_
      refine zEv_k 1 (f' := (23, [some (.ref 0), some (.int x1)], [.int (gI h 3 j3)], zhp h)) rfl ?_
      cases H
      exact zEv_r rfl
def qC_image (x1 : Int32) (h : zK) : Option (Int32 × zK) :=
  if x1 < 0 then
    some (0, h)
  else
    if x1 < 3 then
      (zix x1 3).bind fun j3 =>
      zlet (zaa 37 j3) fun a4 =>
      if a4 = 38 ∨ a4 = 74 ∨ a4 = 110 then
        (qT_become a4 1 h).bind fun p6 =>
        zlet (sI p6 146 j3 (vp_nar .boolean 1)) fun h7 =>
        some (1, h7)
      else none
    else
      some (0, h)
theorem t_qC_image {Ls : Nat} {xs : Nat → Int32} {d : Nat} {x1 : Int32} {h : zK} {p : Int32 × zK} (H : qC_image x1 h = some p) : zEv (zXs Ls xs) (d + 2) zm_141 (0, [some (.ref 0), some (.int x1)], [], zhp h) (some (.int p.1), zhp p.2) := by
  unfold qC_image at H
  refine zEv_k 2 (f' := (if x1 < 0 then 9 else 4, [some (.ref 0), some (.int x1)], [], zhp h)) rfl (zEv_if (fun c1 => ?_) (fun c1 => ?_))
  · replace H := zif_t c1 H
    refine zEv_k 1 (f' := (10, [some (.ref 0), some (.int x1)], [.int 0], zhp h)) rfl ?_
    cases H
    exact zEv_r rfl
  · replace H := zif_f c1 H
    refine zEv_k 3 (f' := (if x1 < 3 then 11 else 9, [some (.ref 0), some (.int x1)], [], zhp h)) rfl (zEv_if (fun c2 => ?_) (fun c2 => ?_))
    · replace H := zif_t c2 H
      refine zEv_k 1 (f' := (12, [some (.ref 0), some (.int x1)], [.ref 0], zhp h)) rfl ?_
      refine zRgr rfl rfl rfl (by decide) (b := 37) rfl ?_
      refine zEv_k 1 (f' := (16, [some (.ref 0), some (.int x1)], [.int x1, .ref 37], zhp h)) rfl ?_
      obtain ⟨j3, hj3, H⟩ := zbs H
      refine zRaa rfl rfl (by decide) hj3 (by decide) ?_
      refine zEv_k 1 (f' := (18, [some (.ref 0), some (.int x1)], [.ref 0, .ref (zaa 37 j3)], zhp h)) rfl ?_
      refine zRgr rfl rfl rfl (by decide) (b := 1) rfl ?_
      obtain ⟨a4, ea4, H⟩ := zlets H
      rw [ea4]
      obtain ⟨c5, H⟩ := zifn H
      rcases c5 with rfl | rfl | rfl
      · obtain ⟨p6, hp6, H⟩ := zbs H
        refine zEv_c (fun _ => rfl) rfl (t_qT_become (oo := 38) (oq := 1) (h := h) (d := d) (by decide) hp6) rfl rfl ?_
        refine zEv_k 1 (f' := (25, [some (.ref 0), some (.int x1)], [.ref 0], zhp p6)) rfl ?_
        refine zRgr rfl rfl rfl (by decide) (b := 146) rfl ?_
        refine zEv_k 2 (f' := (30, [some (.ref 0), some (.int x1)], [.int 1, .int x1, .ref 146], zhp p6)) rfl ?_
        obtain ⟨h7, eh7, H⟩ := zlets H
        refine zRzs rfl rfl (by decide) hj3 eh7 ?_
        refine zEv_k 1 (f' := (32, [some (.ref 0), some (.int x1)], [.int 1], zhp h7)) rfl ?_
        cases H
        exact zEv_r rfl
      · obtain ⟨p6, hp6, H⟩ := zbs H
        refine zEv_c (fun _ => rfl) rfl (t_qT_become (oo := 74) (oq := 1) (h := h) (d := d) (by decide) hp6) rfl rfl ?_
        refine zEv_k 1 (f' := (25, [some (.ref 0), some (.int x1)], [.ref 0], zhp p6)) rfl ?_
        refine zRgr rfl rfl rfl (by decide) (b := 146) rfl ?_
        refine zEv_k 2 (f' := (30, [some (.ref 0), some (.int x1)], [.int 1, .int x1, .ref 146], zhp p6)) rfl ?_
        obtain ⟨h7, eh7, H⟩ := zlets H
        refine zRzs rfl rfl (by decide) hj3 eh7 ?_
        refine zEv_k 1 (f' := (32, [some (.ref 0), some (.int x1)], [.int 1], zhp h7)) rfl ?_
        cases H
        exact zEv_r rfl
      · obtain ⟨p6, hp6, H⟩ := zbs H
        refine zEv_c (fun _ => rfl) rfl (t_qT_become (oo := 110) (oq := 1) (h := h) (d := d) (by decide) hp6) rfl rfl ?_
        refine zEv_k 1 (f' := (25, [some (.ref 0), some (.int x1)], [.ref 0], zhp p6)) rfl ?_
        refine zRgr rfl rfl rfl (by decide) (b := 146) rfl ?_
        refine zEv_k 2 (f' := (30, [some (.ref 0), some (.int x1)], [.int 1, .int x1, .ref 146], zhp p6)) rfl ?_
        obtain ⟨h7, eh7, H⟩ := zlets H
        refine zRzs rfl rfl (by decide) hj3 eh7 ?_
        refine zEv_k 1 (f' := (32, [some (.ref 0), some (.int x1)], [.int 1], zhp h7)) rfl ?_
        cases H
        exact zEv_r rfl
    · replace H := zif_f c2 H
      refine zEv_k 1 (f' := (10, [some (.ref 0), some (.int x1)], [.int 0], zhp h)) rfl ?_
      cases H
      exact zEv_r rfl
def qC_again (x1 : Int32) (h : zK) : Option (Int32 × zK) :=
  if x1 < 0 then
    some (0, h)
  else
    if 3 ≤ x1 then
      some (0, h)
    else
      (zix x1 3).bind fun j3 =>
      if ¬ (gI h 146 j3) = 0 then
        zlet (zaa 37 j3) fun a5 =>
        if a5 = 38 ∨ a5 = 74 ∨ a5 = 110 then
          (qT_become 1 a5 h).bind fun p7 =>
          (qC_forgetCellars p7).bind fun p8 =>
          some (1, p8)
        else none
      else
        some (0, h)
theorem t_qC_again {Ls : Nat} {xs : Nat → Int32} {d : Nat} {x1 : Int32} {h : zK} {p : Int32 × zK} (H : qC_again x1 h = some p) : zEv (zXs Ls xs) (d + 2) zm_142 (0, [some (.ref 0), some (.int x1)], [], zhp h) (some (.int p.1), zhp p.2) := by
  unfold qC_again at H
  refine zEv_k 2 (f' := (if x1 < 0 then 18 else 4, [some (.ref 0), some (.int x1)], [], zhp h)) rfl (zEv_if (fun c1 => ?_) (fun c1 => ?_))
  · replace H := zif_t c1 H
    refine zEv_k 1 (f' := (19, [some (.ref 0), some (.int x1)], [.int 0], zhp h)) rfl ?_
    cases H
    exact zEv_r rfl
  · replace H := zif_f c1 H
    refine zEv_k 3 (f' := (if 3 ≤ x1 then 18 else 9, [some (.ref 0), some (.int x1)], [], zhp h)) rfl (zEv_if (fun c2 => ?_) (fun c2 => ?_))
    · replace H := zif_t c2 H
      refine zEv_k 1 (f' := (19, [some (.ref 0), some (.int x1)], [.int 0], zhp h)) rfl ?_
      cases H
      exact zEv_r rfl
    · replace H := zif_f c2 H
      refine zEv_k 1 (f' := (10, [some (.ref 0), some (.int x1)], [.ref 0], zhp h)) rfl ?_
      refine zRgr rfl rfl rfl (by decide) (b := 146) rfl ?_
      refine zEv_k 1 (f' := (14, [some (.ref 0), some (.int x1)], [.int x1, .ref 146], zhp h)) rfl ?_
      obtain ⟨j3, hj3, H⟩ := zbs H
      refine zRza rfl rfl (by decide) hj3 ?_
      refine zEv_k 1 (f' := (if ¬ (gI h 146 j3) = 0 then 20 else 18, [some (.ref 0), some (.int x1)], [], zhp h)) rfl (zEv_if (fun c4 => ?_) (fun c4 => ?_))
      · replace H := zif_t c4 H
        refine zEv_k 1 (f' := (21, [some (.ref 0), some (.int x1)], [.ref 0], zhp h)) rfl ?_
        refine zRgr rfl rfl rfl (by decide) (b := 1) rfl ?_
        refine zEv_k 1 (f' := (25, [some (.ref 0), some (.int x1)], [.ref 0, .ref 1], zhp h)) rfl ?_
        refine zRgr rfl rfl rfl (by decide) (b := 37) rfl ?_
        refine zEv_k 1 (f' := (29, [some (.ref 0), some (.int x1)], [.int x1, .ref 37, .ref 1], zhp h)) rfl ?_
        refine zRaa rfl rfl (by decide) hj3 (by decide) ?_
        obtain ⟨a5, ea5, H⟩ := zlets H
        rw [ea5]
        obtain ⟨c6, H⟩ := zifn H
        rcases c6 with rfl | rfl | rfl
        · obtain ⟨p7, hp7, H⟩ := zbs H
          refine zEv_c (fun _ => rfl) rfl (t_qT_become (oo := 1) (oq := 38) (h := h) (d := d) (by decide) hp7) rfl rfl ?_
          refine zEv_k 1 (f' := (34, [some (.ref 0), some (.int x1)], [.ref 0], zhp p7)) rfl ?_
          obtain ⟨p8, hp8, H⟩ := zbs H
          refine zEv_c (fun _ => rfl) rfl (t_qC_forgetCellars (h := p7) (d := d) hp8) rfl rfl ?_
          refine zEv_k 1 (f' := (38, [some (.ref 0), some (.int x1)], [.int 1], zhp p8)) rfl ?_
          cases H
          exact zEv_r rfl
        · obtain ⟨p7, hp7, H⟩ := zbs H
          refine zEv_c (fun _ => rfl) rfl (t_qT_become (oo := 1) (oq := 74) (h := h) (d := d) (by decide) hp7) rfl rfl ?_
          refine zEv_k 1 (f' := (34, [some (.ref 0), some (.int x1)], [.ref 0], zhp p7)) rfl ?_
          obtain ⟨p8, hp8, H⟩ := zbs H
          refine zEv_c (fun _ => rfl) rfl (t_qC_forgetCellars (h := p7) (d := d) hp8) rfl rfl ?_
          refine zEv_k 1 (f' := (38, [some (.ref 0), some (.int x1)], [.int 1], zhp p8)) rfl ?_
          cases H
          exact zEv_r rfl
        · obtain ⟨p7, hp7, H⟩ := zbs H
          refine zEv_c (fun _ => rfl) rfl (t_qT_become (oo := 1) (oq := 110) (h := h) (d := d) (by decide) hp7) rfl rfl ?_
          refine zEv_k 1 (f' := (34, [some (.ref 0), some (.int x1)], [.ref 0], zhp p7)) rfl ?_
          obtain ⟨p8, hp8, H⟩ := zbs H
          refine zEv_c (fun _ => rfl) rfl (t_qC_forgetCellars (h := p7) (d := d) hp8) rfl rfl ?_
          refine zEv_k 1 (f' := (38, [some (.ref 0), some (.int x1)], [.int 1], zhp p8)) rfl ?_
          cases H
          exact zEv_r rfl
      · replace H := zif_f c4 H
        refine zEv_k 1 (f' := (19, [some (.ref 0), some (.int x1)], [.int 0], zhp h)) rfl ?_
        cases H
        exact zEv_r rfl
def qM_ones_b4 (x0 : Int32) (s : Int32 × Int32) : Option ((Int32 × Int32) ⊕ (Int32)) :=
  if 7 ≤ s.2 then
    some (.inr s.1)
  else
    zlet (
        if (zf_has x0 s.2) = 0 then
          0
        else
          1
      ) fun (v3 : Int32) =>
    some (.inl (s.1 + v3, s.2 + 1))
theorem t_qM_ones_b4b {Ls : Nat} {xs : Nat → Int32} {d : Nat} {x0 : Int32} {h : zK} {r : zA} {s : Int32 × Int32} {e : (Int32 × Int32) ⊕ (Int32)} (H : qM_ones_b4 x0 s = some e) (K : match (generalizing := false) e with | .inl s' => zEv (zXs Ls xs) (d + 1) zm_155 (4, [some (.int x0), some (.int s'.1), some (.int s'.2)], [], zhp h) r | .inr v => ∀ (z2 : Option Value), zEv (zXs Ls xs) (d + 1) zm_155 (32, [some (.int x0), some (.int v), z2], [], zhp h) r) : zEv (zXs Ls xs) (d + 1) zm_155 (4, [some (.int x0), some (.int s.1), some (.int s.2)], [], zhp h) r := by
  unfold qM_ones_b4 at H
  refine zEv_k 3 (f' := (if 7 ≤ s.2 then 32 else 10, [some (.int x0), some (.int s.1), some (.int s.2)], [], zhp h)) rfl (zEv_if (fun c1 => ?_) (fun c1 => ?_))
  · replace H := zif_t c1 H
    cases H
    exact K _
  · replace H := zif_f c1 H
    obtain ⟨v3, hv3, H⟩ := zlets H
    have kv3 : zEv (zXs Ls xs) (d + 1) zm_155 (24, [some (.int x0), some (.int s.1), some (.int s.2)], [.int v3, .int s.1], zhp h) r := by
      refine zEv_k 4 (f' := (4, [some (.int x0), some (.int (s.1 + v3)), some (.int (s.2 + 1))], [], zhp h)) rfl ?_
      cases H
      exact K
    clear H
    refine zEv_k 3 (f' := (13, [some (.int x0), some (.int s.1), some (.int s.2)], [.int s.2, .int x0, .int s.1], zhp h)) rfl ?_
    refine zEv_c (fun _ => rfl) rfl ev_zf_has rfl rfl ?_
    refine zEv_k 1 (f' := (if (zf_has x0 s.2) = 0 then 23 else 19, [some (.int x0), some (.int s.1), some (.int s.2)], [.int s.1], zhp h)) rfl (zEv_if (fun c2 => ?_) (fun c2 => ?_))
    · replace hv3 := zif_t c2 hv3
      refine zEv_k 1 (f' := (24, [some (.int x0), some (.int s.1), some (.int s.2)], [.int 0, .int s.1], zhp h)) rfl ?_
      cases hv3
      exact kv3
    · replace hv3 := zif_f c2 hv3
      refine zEv_k 2 (f' := (24, [some (.int x0), some (.int s.1), some (.int s.2)], [.int 1, .int s.1], zhp h)) rfl ?_
      cases hv3
      exact kv3
theorem t_qM_ones_b4 {Ls : Nat} {xs : Nat → Int32} {d : Nat} {x0 : Int32} {h : zK} {r : zA} {t : Int32} (K : ∀ (z2 : Option Value), zEv (zXs Ls xs) (d + 1) zm_155 (32, [some (.int x0), some (.int t), z2], [], zhp h) r) (n : Nat) (s : Int32 × Int32) (H : zloop (qM_ones_b4 x0) n s = some t) : zEv (zXs Ls xs) (d + 1) zm_155 (4, [some (.int x0), some (.int s.1), some (.int s.2)], [], zhp h) r := by
  have Z := zloop_P (P := fun s => zEv (zXs Ls xs) (d + 1) zm_155 (4, [some (.int x0), some (.int s.1), some (.int s.2)], [], zhp h) r) (b := qM_ones_b4 x0) (t := t) (fun s s2 hb hk => by exact t_qM_ones_b4b hb hk) (fun s hb => by exact t_qM_ones_b4b hb K) n s H
  exact Z
def qM_ones (x0 : Int32) : Option (Int32) :=
  (zloop (qM_ones_b4 x0) zfu (0, 0)).bind fun t4 =>
  some t4
theorem t_qM_ones {Ls : Nat} {xs : Nat → Int32} {d : Nat} {x0 : Int32} {h : zK} {p : Int32} (H : qM_ones x0 = some p) : zEv (zXs Ls xs) (d + 1) zm_155 (0, [some (.int x0), none, none], [], zhp h) (some (.int p), zhp h) := by
  unfold qM_ones at H
  refine zEv_k 4 (f' := (4, [some (.int x0), some (.int 0), some (.int 0)], [], zhp h)) rfl ?_
  obtain ⟨t4, ht4, H⟩ := zbs H
  refine t_qM_ones_b4 (x0 := x0) (h := h) ?_ zfu _ ht4
  intro y2
  refine zEv_k 1 (f' := (33, [some (.int x0), some (.int t4), y2], [.int t4], zhp h)) rfl ?_
  cases H
  exact zEv_r rfl
def qM_copyRow_b3 (oa : Nat) (x1 : Int32) (x2 : Int32) (x3 : Int32) (s : Int32 × zK) : Option ((Int32 × zK) ⊕ (zK)) :=
  if x1 ≤ s.1 then
    some (.inr s.2)
  else
    (zix ((x1 * x2) + s.1) (zln oa)).bind fun j2 =>
    (zix ((x1 * x3) + s.1) (zln oa)).bind fun j3 =>
    zlet (sI s.2 oa j3 (gI s.2 oa j2)) fun h4 =>
    some (.inl (s.1 + 1, h4))
theorem t_qM_copyRow_b3b {Ls : Nat} {xs : Nat → Int32} {d : Nat} {oa : Nat} {x1 : Int32} {x2 : Int32} {x3 : Int32} {r : zA} {s : Int32 × zK} {e : (Int32 × zK) ⊕ (zK)} (ho : oa = 217 ∨ oa = 218 ∨ oa = 219 ∨ oa = 220 ∨ oa = 221 ∨ oa = 222 ∨ oa = 223) (H : qM_copyRow_b3 oa x1 x2 x3 s = some e) (K : match (generalizing := false) e with | .inl s' => zEv (zXs Ls xs) d zm_156 (3, [some (.ref oa), some (.int x1), some (.int x2), some (.int x3), some (.int s'.1)], [], zhp s'.2) r | .inr v => ∀ (z4 : Option Value), zEv (zXs Ls xs) d zm_156 (31, [some (.ref oa), some (.int x1), some (.int x2), some (.int x3), z4], [], zhp v) r) : zEv (zXs Ls xs) d zm_156 (3, [some (.ref oa), some (.int x1), some (.int x2), some (.int x3), some (.int s.1)], [], zhp s.2) r := by
  unfold qM_copyRow_b3 at H
  rcases ho with rfl | rfl | rfl | rfl | rfl | rfl | rfl
  · refine zEv_k 3 (f' := (if x1 ≤ s.1 then 31 else 9, [some (.ref 217), some (.int x1), some (.int x2), some (.int x3), some (.int s.1)], [], zhp s.2)) rfl (zEv_if (fun c1 => ?_) (fun c1 => ?_))
    · replace H := zif_t c1 H
      cases H
      exact K _
    · replace H := zif_f c1 H
      refine zEv_k 9 (f' := (19, [some (.ref 217), some (.int x1), some (.int x2), some (.int x3), some (.int s.1)], [.int x2, .int x1, .ref 217, .int ((x1 * x3) + s.1), .ref 217], zhp s.2)) rfl ?_
      refine zEv_k 3 (f' := (23, [some (.ref 217), some (.int x1), some (.int x2), some (.int x3), some (.int s.1)], [.int ((x1 * x2) + s.1), .ref 217, .int ((x1 * x3) + s.1), .ref 217], zhp s.2)) rfl ?_
      obtain ⟨j2, hj2, H⟩ := zbs H
      refine zRia rfl rfl (by decide) hj2 ?_
      obtain ⟨j3, hj3, H⟩ := zbs H
      obtain ⟨h4, eh4, H⟩ := zlets H
      refine zRis rfl rfl (by decide) hj3 eh4 ?_
      refine zEv_k 2 (f' := (3, [some (.ref 217), some (.int x1), some (.int x2), some (.int x3), some (.int (s.1 + 1))], [], zhp h4)) rfl ?_
      cases H
      exact K
  · refine zEv_k 3 (f' := (if x1 ≤ s.1 then 31 else 9, [some (.ref 218), some (.int x1), some (.int x2), some (.int x3), some (.int s.1)], [], zhp s.2)) rfl (zEv_if (fun c1 => ?_) (fun c1 => ?_))
    · replace H := zif_t c1 H
      cases H
      exact K _
    · replace H := zif_f c1 H
      refine zEv_k 9 (f' := (19, [some (.ref 218), some (.int x1), some (.int x2), some (.int x3), some (.int s.1)], [.int x2, .int x1, .ref 218, .int ((x1 * x3) + s.1), .ref 218], zhp s.2)) rfl ?_
      refine zEv_k 3 (f' := (23, [some (.ref 218), some (.int x1), some (.int x2), some (.int x3), some (.int s.1)], [.int ((x1 * x2) + s.1), .ref 218, .int ((x1 * x3) + s.1), .ref 218], zhp s.2)) rfl ?_
      obtain ⟨j2, hj2, H⟩ := zbs H
      refine zRia rfl rfl (by decide) hj2 ?_
      obtain ⟨j3, hj3, H⟩ := zbs H
      obtain ⟨h4, eh4, H⟩ := zlets H
      refine zRis rfl rfl (by decide) hj3 eh4 ?_
      refine zEv_k 2 (f' := (3, [some (.ref 218), some (.int x1), some (.int x2), some (.int x3), some (.int (s.1 + 1))], [], zhp h4)) rfl ?_
      cases H
      exact K
  · refine zEv_k 3 (f' := (if x1 ≤ s.1 then 31 else 9, [some (.ref 219), some (.int x1), some (.int x2), some (.int x3), some (.int s.1)], [], zhp s.2)) rfl (zEv_if (fun c1 => ?_) (fun c1 => ?_))
    · replace H := zif_t c1 H
      cases H
      exact K _
    · replace H := zif_f c1 H
      refine zEv_k 9 (f' := (19, [some (.ref 219), some (.int x1), some (.int x2), some (.int x3), some (.int s.1)], [.int x2, .int x1, .ref 219, .int ((x1 * x3) + s.1), .ref 219], zhp s.2)) rfl ?_
      refine zEv_k 3 (f' := (23, [some (.ref 219), some (.int x1), some (.int x2), some (.int x3), some (.int s.1)], [.int ((x1 * x2) + s.1), .ref 219, .int ((x1 * x3) + s.1), .ref 219], zhp s.2)) rfl ?_
      obtain ⟨j2, hj2, H⟩ := zbs H
      refine zRia rfl rfl (by decide) hj2 ?_
      obtain ⟨j3, hj3, H⟩ := zbs H
      obtain ⟨h4, eh4, H⟩ := zlets H
      refine zRis rfl rfl (by decide) hj3 eh4 ?_
      refine zEv_k 2 (f' := (3, [some (.ref 219), some (.int x1), some (.int x2), some (.int x3), some (.int (s.1 + 1))], [], zhp h4)) rfl ?_
      cases H
      exact K
  · refine zEv_k 3 (f' := (if x1 ≤ s.1 then 31 else 9, [some (.ref 220), some (.int x1), some (.int x2), some (.int x3), some (.int s.1)], [], zhp s.2)) rfl (zEv_if (fun c1 => ?_) (fun c1 => ?_))
    · replace H := zif_t c1 H
      cases H
      exact K _
    · replace H := zif_f c1 H
      refine zEv_k 9 (f' := (19, [some (.ref 220), some (.int x1), some (.int x2), some (.int x3), some (.int s.1)], [.int x2, .int x1, .ref 220, .int ((x1 * x3) + s.1), .ref 220], zhp s.2)) rfl ?_
      refine zEv_k 3 (f' := (23, [some (.ref 220), some (.int x1), some (.int x2), some (.int x3), some (.int s.1)], [.int ((x1 * x2) + s.1), .ref 220, .int ((x1 * x3) + s.1), .ref 220], zhp s.2)) rfl ?_
      obtain ⟨j2, hj2, H⟩ := zbs H
      refine zRia rfl rfl (by decide) hj2 ?_
      obtain ⟨j3, hj3, H⟩ := zbs H
      obtain ⟨h4, eh4, H⟩ := zlets H
      refine zRis rfl rfl (by decide) hj3 eh4 ?_
      refine zEv_k 2 (f' := (3, [some (.ref 220), some (.int x1), some (.int x2), some (.int x3), some (.int (s.1 + 1))], [], zhp h4)) rfl ?_
      cases H
      exact K
  · refine zEv_k 3 (f' := (if x1 ≤ s.1 then 31 else 9, [some (.ref 221), some (.int x1), some (.int x2), some (.int x3), some (.int s.1)], [], zhp s.2)) rfl (zEv_if (fun c1 => ?_) (fun c1 => ?_))
    · replace H := zif_t c1 H
      cases H
      exact K _
    · replace H := zif_f c1 H
      refine zEv_k 9 (f' := (19, [some (.ref 221), some (.int x1), some (.int x2), some (.int x3), some (.int s.1)], [.int x2, .int x1, .ref 221, .int ((x1 * x3) + s.1), .ref 221], zhp s.2)) rfl ?_
      refine zEv_k 3 (f' := (23, [some (.ref 221), some (.int x1), some (.int x2), some (.int x3), some (.int s.1)], [.int ((x1 * x2) + s.1), .ref 221, .int ((x1 * x3) + s.1), .ref 221], zhp s.2)) rfl ?_
      obtain ⟨j2, hj2, H⟩ := zbs H
      refine zRia rfl rfl (by decide) hj2 ?_
      obtain ⟨j3, hj3, H⟩ := zbs H
      obtain ⟨h4, eh4, H⟩ := zlets H
      refine zRis rfl rfl (by decide) hj3 eh4 ?_
      refine zEv_k 2 (f' := (3, [some (.ref 221), some (.int x1), some (.int x2), some (.int x3), some (.int (s.1 + 1))], [], zhp h4)) rfl ?_
      cases H
      exact K
  · refine zEv_k 3 (f' := (if x1 ≤ s.1 then 31 else 9, [some (.ref 222), some (.int x1), some (.int x2), some (.int x3), some (.int s.1)], [], zhp s.2)) rfl (zEv_if (fun c1 => ?_) (fun c1 => ?_))
    · replace H := zif_t c1 H
      cases H
      exact K _
    · replace H := zif_f c1 H
      refine zEv_k 9 (f' := (19, [some (.ref 222), some (.int x1), some (.int x2), some (.int x3), some (.int s.1)], [.int x2, .int x1, .ref 222, .int ((x1 * x3) + s.1), .ref 222], zhp s.2)) rfl ?_
      refine zEv_k 3 (f' := (23, [some (.ref 222), some (.int x1), some (.int x2), some (.int x3), some (.int s.1)], [.int ((x1 * x2) + s.1), .ref 222, .int ((x1 * x3) + s.1), .ref 222], zhp s.2)) rfl ?_
      obtain ⟨j2, hj2, H⟩ := zbs H
      refine zRia rfl rfl (by decide) hj2 ?_
      obtain ⟨j3, hj3, H⟩ := zbs H
      obtain ⟨h4, eh4, H⟩ := zlets H
      refine zRis rfl rfl (by decide) hj3 eh4 ?_
      refine zEv_k 2 (f' := (3, [some (.ref 222), some (.int x1), some (.int x2), some (.int x3), some (.int (s.1 + 1))], [], zhp h4)) rfl ?_
      cases H
      exact K
  · refine zEv_k 3 (f' := (if x1 ≤ s.1 then 31 else 9, [some (.ref 223), some (.int x1), some (.int x2), some (.int x3), some (.int s.1)], [], zhp s.2)) rfl (zEv_if (fun c1 => ?_) (fun c1 => ?_))
    · replace H := zif_t c1 H
      cases H
      exact K _
    · replace H := zif_f c1 H
      refine zEv_k 9 (f' := (19, [some (.ref 223), some (.int x1), some (.int x2), some (.int x3), some (.int s.1)], [.int x2, .int x1, .ref 223, .int ((x1 * x3) + s.1), .ref 223], zhp s.2)) rfl ?_
      refine zEv_k 3 (f' := (23, [some (.ref 223), some (.int x1), some (.int x2), some (.int x3), some (.int s.1)], [.int ((x1 * x2) + s.1), .ref 223, .int ((x1 * x3) + s.1), .ref 223], zhp s.2)) rfl ?_
      obtain ⟨j2, hj2, H⟩ := zbs H
      refine zRia rfl rfl (by decide) hj2 ?_
      obtain ⟨j3, hj3, H⟩ := zbs H
      obtain ⟨h4, eh4, H⟩ := zlets H
      refine zRis rfl rfl (by decide) hj3 eh4 ?_
      refine zEv_k 2 (f' := (3, [some (.ref 223), some (.int x1), some (.int x2), some (.int x3), some (.int (s.1 + 1))], [], zhp h4)) rfl ?_
      cases H
      exact K
theorem t_qM_copyRow_b3 {Ls : Nat} {xs : Nat → Int32} {d : Nat} {oa : Nat} {x1 : Int32} {x2 : Int32} {x3 : Int32} {r : zA} (ho : oa = 217 ∨ oa = 218 ∨ oa = 219 ∨ oa = 220 ∨ oa = 221 ∨ oa = 222 ∨ oa = 223) {t : zK} (K : ∀ (z4 : Option Value), zEv (zXs Ls xs) d zm_156 (31, [some (.ref oa), some (.int x1), some (.int x2), some (.int x3), z4], [], zhp t) r) (n : Nat) (s : Int32 × zK) (H : zloop (qM_copyRow_b3 oa x1 x2 x3) n s = some t) : zEv (zXs Ls xs) d zm_156 (3, [some (.ref oa), some (.int x1), some (.int x2), some (.int x3), some (.int s.1)], [], zhp s.2) r := by
  have Z := zloop_P (P := fun s => zEv (zXs Ls xs) d zm_156 (3, [some (.ref oa), some (.int x1), some (.int x2), some (.int x3), some (.int s.1)], [], zhp s.2) r) (b := qM_copyRow_b3 oa x1 x2 x3) (t := t) (fun s s2 hb hk => by exact t_qM_copyRow_b3b ho hb hk) (fun s hb => by exact t_qM_copyRow_b3b ho hb K) n s H
  exact Z
def qM_copyRow (oa : Nat) (x1 : Int32) (x2 : Int32) (x3 : Int32) (h : zK) : Option (zK) :=
  (zloop (qM_copyRow_b3 oa x1 x2 x3) zfu (0, h)).bind fun t5 =>
  some t5
theorem t_qM_copyRow {Ls : Nat} {xs : Nat → Int32} {d : Nat} {oa : Nat} {x1 : Int32} {x2 : Int32} {x3 : Int32} {h : zK} {p : zK} (ho : oa = 217 ∨ oa = 218 ∨ oa = 219 ∨ oa = 220 ∨ oa = 221 ∨ oa = 222 ∨ oa = 223) (H : qM_copyRow oa x1 x2 x3 h = some p) : zEv (zXs Ls xs) d zm_156 (0, [some (.ref oa), some (.int x1), some (.int x2), some (.int x3), none], [], zhp h) (none, zhp p) := by
  unfold qM_copyRow at H
  rcases ho with rfl | rfl | rfl | rfl | rfl | rfl | rfl
  · refine zEv_k 2 (f' := (3, [some (.ref 217), some (.int x1), some (.int x2), some (.int x3), some (.int 0)], [], zhp h)) rfl ?_
    obtain ⟨t5, ht5, H⟩ := zbs H
    refine t_qM_copyRow_b3 (oa := 217) (x1 := x1) (x2 := x2) (x3 := x3) (by decide) ?_ zfu _ ht5
    intro y4
    cases H
    exact zEv_r rfl
  · refine zEv_k 2 (f' := (3, [some (.ref 218), some (.int x1), some (.int x2), some (.int x3), some (.int 0)], [], zhp h)) rfl ?_
    obtain ⟨t5, ht5, H⟩ := zbs H
    refine t_qM_copyRow_b3 (oa := 218) (x1 := x1) (x2 := x2) (x3 := x3) (by decide) ?_ zfu _ ht5
    intro y4
    cases H
    exact zEv_r rfl
  · refine zEv_k 2 (f' := (3, [some (.ref 219), some (.int x1), some (.int x2), some (.int x3), some (.int 0)], [], zhp h)) rfl ?_
    obtain ⟨t5, ht5, H⟩ := zbs H
    refine t_qM_copyRow_b3 (oa := 219) (x1 := x1) (x2 := x2) (x3 := x3) (by decide) ?_ zfu _ ht5
    intro y4
    cases H
    exact zEv_r rfl
  · refine zEv_k 2 (f' := (3, [some (.ref 220), some (.int x1), some (.int x2), some (.int x3), some (.int 0)], [], zhp h)) rfl ?_
    obtain ⟨t5, ht5, H⟩ := zbs H
    refine t_qM_copyRow_b3 (oa := 220) (x1 := x1) (x2 := x2) (x3 := x3) (by decide) ?_ zfu _ ht5
    intro y4
    cases H
    exact zEv_r rfl
  · refine zEv_k 2 (f' := (3, [some (.ref 221), some (.int x1), some (.int x2), some (.int x3), some (.int 0)], [], zhp h)) rfl ?_
    obtain ⟨t5, ht5, H⟩ := zbs H
    refine t_qM_copyRow_b3 (oa := 221) (x1 := x1) (x2 := x2) (x3 := x3) (by decide) ?_ zfu _ ht5
    intro y4
    cases H
    exact zEv_r rfl
  · refine zEv_k 2 (f' := (3, [some (.ref 222), some (.int x1), some (.int x2), some (.int x3), some (.int 0)], [], zhp h)) rfl ?_
    obtain ⟨t5, ht5, H⟩ := zbs H
    refine t_qM_copyRow_b3 (oa := 222) (x1 := x1) (x2 := x2) (x3 := x3) (by decide) ?_ zfu _ ht5
    intro y4
    cases H
    exact zEv_r rfl
  · refine zEv_k 2 (f' := (3, [some (.ref 223), some (.int x1), some (.int x2), some (.int x3), some (.int 0)], [], zhp h)) rfl ?_
    obtain ⟨t5, ht5, H⟩ := zbs H
    refine t_qM_copyRow_b3 (oa := 223) (x1 := x1) (x2 := x2) (x3 := x3) (by decide) ?_ zfu _ ht5
    intro y4
    cases H
    exact zEv_r rfl
def qM_copyAll_b2 (x1 : Int32) (x2 : Int32) (s : Int32 × zK) : Option ((Int32 × zK) ⊕ (zK)) :=
  if 600 ≤ s.1 then
    some (.inr s.2)
  else
    (zix ((600 * x1) + s.1) 2400).bind fun j2 =>
    (zix ((600 * x2) + s.1) 2400).bind fun j3 =>
    zlet (sI s.2 216 j3 (Int32.toInt8 (gI s.2 216 j2)).toInt32) fun h4 =>
    some (.inl (s.1 + 1, h4))
theorem t_qM_copyAll_b2b {Ls : Nat} {xs : Nat → Int32} {d : Nat} {x1 : Int32} {x2 : Int32} {r : zA} {s : Int32 × zK} {e : (Int32 × zK) ⊕ (zK)} (H : qM_copyAll_b2 x1 x2 s = some e) (K : match (generalizing := false) e with | .inl s' => zEv (zXs Ls xs) (d + 1) zm_157 (2, [some (.ref 215), some (.int x1), some (.int x2), some (.int s'.1)], [], zhp s'.2) r | .inr v => ∀ (z3 : Option Value), zEv (zXs Ls xs) (d + 1) zm_157 (39, [some (.ref 215), some (.int x1), some (.int x2), z3], [], zhp v) r) : zEv (zXs Ls xs) (d + 1) zm_157 (2, [some (.ref 215), some (.int x1), some (.int x2), some (.int s.1)], [], zhp s.2) r := by
  unfold qM_copyAll_b2 at H
  refine zEv_k 3 (f' := (if 600 ≤ s.1 then 39 else 9, [some (.ref 215), some (.int x1), some (.int x2), some (.int s.1)], [], zhp s.2)) rfl (zEv_if (fun c1 => ?_) (fun c1 => ?_))
  · replace H := zif_t c1 H
    cases H
    exact K _
  · replace H := zif_f c1 H
    refine zEv_k 1 (f' := (10, [some (.ref 215), some (.int x1), some (.int x2), some (.int s.1)], [.ref 215], zhp s.2)) rfl ?_
    refine zRgr rfl rfl rfl (by decide) (b := 216) rfl ?_
    refine zEv_k 6 (f' := (21, [some (.ref 215), some (.int x1), some (.int x2), some (.int s.1)], [.ref 215, .int ((600 * x2) + s.1), .ref 216], zhp s.2)) rfl ?_
    refine zRgr rfl rfl rfl (by decide) (b := 216) rfl ?_
    refine zEv_k 5 (f' := (31, [some (.ref 215), some (.int x1), some (.int x2), some (.int s.1)], [.int ((600 * x1) + s.1), .ref 216, .int ((600 * x2) + s.1), .ref 216], zhp s.2)) rfl ?_
    obtain ⟨j2, hj2, H⟩ := zbs H
    refine zRba rfl rfl (by decide) hj2 ?_
    obtain ⟨j3, hj3, H⟩ := zbs H
    obtain ⟨h4, eh4, H⟩ := zlets H
    refine zRbs rfl rfl (by decide) hj3 eh4 ?_
    refine zEv_k 2 (f' := (2, [some (.ref 215), some (.int x1), some (.int x2), some (.int (s.1 + 1))], [], zhp h4)) rfl ?_
    cases H
    exact K
theorem t_qM_copyAll_b2 {Ls : Nat} {xs : Nat → Int32} {d : Nat} {x1 : Int32} {x2 : Int32} {r : zA} {t : zK} (K : ∀ (z3 : Option Value), zEv (zXs Ls xs) (d + 1) zm_157 (39, [some (.ref 215), some (.int x1), some (.int x2), z3], [], zhp t) r) (n : Nat) (s : Int32 × zK) (H : zloop (qM_copyAll_b2 x1 x2) n s = some t) : zEv (zXs Ls xs) (d + 1) zm_157 (2, [some (.ref 215), some (.int x1), some (.int x2), some (.int s.1)], [], zhp s.2) r := by
  have Z := zloop_P (P := fun s => zEv (zXs Ls xs) (d + 1) zm_157 (2, [some (.ref 215), some (.int x1), some (.int x2), some (.int s.1)], [], zhp s.2) r) (b := qM_copyAll_b2 x1 x2) (t := t) (fun s s2 hb hk => by exact t_qM_copyAll_b2b hb hk) (fun s hb => by exact t_qM_copyAll_b2b hb K) n s H
  exact Z
def qM_copyAll (x1 : Int32) (x2 : Int32) (h : zK) : Option (zK) :=
  (zloop (qM_copyAll_b2 x1 x2) zfu (0, h)).bind fun t5 =>
  (qM_copyRow 217 1 x1 x2 t5).bind fun p7 =>
  (qM_copyRow 218 1 x1 x2 p7).bind fun p8 =>
  (qM_copyRow 219 1 x1 x2 p8).bind fun p9 =>
  (qM_copyRow 220 3 x1 x2 p9).bind fun p10 =>
  (qM_copyRow 221 104 x1 x2 p10).bind fun p11 =>
  (qM_copyRow 222 242 x1 x2 p11).bind fun p12 =>
  (qM_copyRow 223 34 x1 x2 p12).bind fun p13 =>
  some p13
theorem t_qM_copyAll {Ls : Nat} {xs : Nat → Int32} {d : Nat} {x1 : Int32} {x2 : Int32} {h : zK} {p : zK} (H : qM_copyAll x1 x2 h = some p) : zEv (zXs Ls xs) (d + 1) zm_157 (0, [some (.ref 215), some (.int x1), some (.int x2), none], [], zhp h) (none, zhp p) := by
  unfold qM_copyAll at H
  refine zEv_k 2 (f' := (2, [some (.ref 215), some (.int x1), some (.int x2), some (.int 0)], [], zhp h)) rfl ?_
  obtain ⟨t5, ht5, H⟩ := zbs H
  refine t_qM_copyAll_b2 (x1 := x1) (x2 := x2) ?_ zfu _ ht5
  intro y3
  refine zEv_k 1 (f' := (40, [some (.ref 215), some (.int x1), some (.int x2), y3], [.ref 215], zhp t5)) rfl ?_
  refine zRgr rfl rfl rfl (by decide) (b := 217) rfl ?_
  refine zEv_k 3 (f' := (46, [some (.ref 215), some (.int x1), some (.int x2), y3], [.int x2, .int x1, .int 1, .ref 217], zhp t5)) rfl ?_
  obtain ⟨p7, hp7, H⟩ := zbs H
  refine zEv_c (fun _ => rfl) rfl (t_qM_copyRow (oa := 217) (x1 := 1) (x2 := x1) (x3 := x2) (h := t5) (d := d) (by decide) hp7) rfl rfl ?_
  refine zEv_k 1 (f' := (50, [some (.ref 215), some (.int x1), some (.int x2), y3], [.ref 215], zhp p7)) rfl ?_
  refine zRgr rfl rfl rfl (by decide) (b := 218) rfl ?_
  refine zEv_k 3 (f' := (56, [some (.ref 215), some (.int x1), some (.int x2), y3], [.int x2, .int x1, .int 1, .ref 218], zhp p7)) rfl ?_
  obtain ⟨p8, hp8, H⟩ := zbs H
  refine zEv_c (fun _ => rfl) rfl (t_qM_copyRow (oa := 218) (x1 := 1) (x2 := x1) (x3 := x2) (h := p7) (d := d) (by decide) hp8) rfl rfl ?_
  refine zEv_k 1 (f' := (60, [some (.ref 215), some (.int x1), some (.int x2), y3], [.ref 215], zhp p8)) rfl ?_
  refine zRgr rfl rfl rfl (by decide) (b := 219) rfl ?_
  refine zEv_k 3 (f' := (66, [some (.ref 215), some (.int x1), some (.int x2), y3], [.int x2, .int x1, .int 1, .ref 219], zhp p8)) rfl ?_
  obtain ⟨p9, hp9, H⟩ := zbs H
  refine zEv_c (fun _ => rfl) rfl (t_qM_copyRow (oa := 219) (x1 := 1) (x2 := x1) (x3 := x2) (h := p8) (d := d) (by decide) hp9) rfl rfl ?_
  refine zEv_k 1 (f' := (70, [some (.ref 215), some (.int x1), some (.int x2), y3], [.ref 215], zhp p9)) rfl ?_
  refine zRgr rfl rfl rfl (by decide) (b := 220) rfl ?_
  refine zEv_k 3 (f' := (76, [some (.ref 215), some (.int x1), some (.int x2), y3], [.int x2, .int x1, .int 3, .ref 220], zhp p9)) rfl ?_
  obtain ⟨p10, hp10, H⟩ := zbs H
  refine zEv_c (fun _ => rfl) rfl (t_qM_copyRow (oa := 220) (x1 := 3) (x2 := x1) (x3 := x2) (h := p9) (d := d) (by decide) hp10) rfl rfl ?_
  refine zEv_k 1 (f' := (80, [some (.ref 215), some (.int x1), some (.int x2), y3], [.ref 215], zhp p10)) rfl ?_
  refine zRgr rfl rfl rfl (by decide) (b := 221) rfl ?_
  refine zEv_k 3 (f' := (87, [some (.ref 215), some (.int x1), some (.int x2), y3], [.int x2, .int x1, .int 104, .ref 221], zhp p10)) rfl ?_
  obtain ⟨p11, hp11, H⟩ := zbs H
  refine zEv_c (fun _ => rfl) rfl (t_qM_copyRow (oa := 221) (x1 := 104) (x2 := x1) (x3 := x2) (h := p10) (d := d) (by decide) hp11) rfl rfl ?_
  refine zEv_k 1 (f' := (91, [some (.ref 215), some (.int x1), some (.int x2), y3], [.ref 215], zhp p11)) rfl ?_
  refine zRgr rfl rfl rfl (by decide) (b := 222) rfl ?_
  refine zEv_k 3 (f' := (99, [some (.ref 215), some (.int x1), some (.int x2), y3], [.int x2, .int x1, .int 242, .ref 222], zhp p11)) rfl ?_
  obtain ⟨p12, hp12, H⟩ := zbs H
  refine zEv_c (fun _ => rfl) rfl (t_qM_copyRow (oa := 222) (x1 := 242) (x2 := x1) (x3 := x2) (h := p11) (d := d) (by decide) hp12) rfl rfl ?_
  refine zEv_k 1 (f' := (103, [some (.ref 215), some (.int x1), some (.int x2), y3], [.ref 215], zhp p12)) rfl ?_
  refine zRgr rfl rfl rfl (by decide) (b := 223) rfl ?_
  refine zEv_k 3 (f' := (110, [some (.ref 215), some (.int x1), some (.int x2), y3], [.int x2, .int x1, .int 34, .ref 223], zhp p12)) rfl ?_
  obtain ⟨p13, hp13, H⟩ := zbs H
  refine zEv_c (fun _ => rfl) rfl (t_qM_copyRow (oa := 223) (x1 := 34) (x2 := x1) (x3 := x2) (h := p12) (d := d) (by decide) hp13) rfl rfl ?_
  cases H
  exact zEv_r rfl
def qM_is (x1 : Int32) (x2 : Int32) (h : zK) : Option (Int32) :=
  (zix x1 12).bind fun j1 =>
  if zbool (zf_in x2 0 ((gI h 220 j1) - 1)) = true then
    some (zf_in x2 0 ((gI h 220 j1) - 1))
  else none
theorem t_qM_is {Ls : Nat} {xs : Nat → Int32} {d : Nat} {x1 : Int32} {x2 : Int32} {h : zK} {p : Int32} (H : qM_is x1 x2 h = some p) : zEv (zXs Ls xs) (d + 1) zm_158 (0, [some (.ref 215), some (.int x1), some (.int x2)], [], zhp h) (some (.int p), zhp h) := by
  unfold qM_is at H
  refine zEv_k 3 (f' := (3, [some (.ref 215), some (.int x1), some (.int x2)], [.ref 215, .int 0, .int x2], zhp h)) rfl ?_
  refine zRgr rfl rfl rfl (by decide) (b := 220) rfl ?_
  refine zEv_k 1 (f' := (7, [some (.ref 215), some (.int x1), some (.int x2)], [.int x1, .ref 220, .int 0, .int x2], zhp h)) rfl ?_
  obtain ⟨j1, hj1, H⟩ := zbs H
  refine zRia rfl rfl (by decide) hj1 ?_
  refine zEv_k 2 (f' := (10, [some (.ref 215), some (.int x1), some (.int x2)], [.int ((gI h 220 j1) - 1), .int 0, .int x2], zhp h)) rfl ?_
  refine zEv_c (fun _ => rfl) rfl ev_zf_in rfl rfl ?_
  obtain ⟨c2, H⟩ := zifn H
  cases H
  exact zEv_rz rfl rfl c2
def qM_four_b3 (x1 : Int32) (s : Int32 × zK) : Option ((Int32 × zK) ⊕ (zK)) :=
  if s.1 < 0 then
    some (.inr s.2)
  else
    (zix (gI s.2 217 0) 2400).bind fun j2 =>
    zlet (sI s.2 216 j2 (Int32.toInt8 ((Int32.toInt8 (x1 >>> (s.1 &&& 31))).toInt32)).toInt32) fun h3 =>
    zlet (sI h3 217 0 ((gI h3 217 0) + 1)) fun h4 =>
    some (.inl (s.1 + (-8), h4))
theorem t_qM_four_b3b {Ls : Nat} {xs : Nat → Int32} {d : Nat} {x1 : Int32} {r : zA} {s : Int32 × zK} {e : (Int32 × zK) ⊕ (zK)} (H : qM_four_b3 x1 s = some e) (K : match (generalizing := false) e with | .inl s' => zEv (zXs Ls xs) d zm_160 (3, [some (.ref 215), some (.int x1), some (.int s'.1)], [], zhp s'.2) r | .inr v => ∀ (z2 : Option Value), zEv (zXs Ls xs) d zm_160 (38, [some (.ref 215), some (.int x1), z2], [], zhp v) r) : zEv (zXs Ls xs) d zm_160 (3, [some (.ref 215), some (.int x1), some (.int s.1)], [], zhp s.2) r := by
  unfold qM_four_b3 at H
  refine zEv_k 2 (f' := (if s.1 < 0 then 38 else 7, [some (.ref 215), some (.int x1), some (.int s.1)], [], zhp s.2)) rfl (zEv_if (fun c1 => ?_) (fun c1 => ?_))
  · replace H := zif_t c1 H
    cases H
    exact K _
  · replace H := zif_f c1 H
    refine zEv_k 1 (f' := (8, [some (.ref 215), some (.int x1), some (.int s.1)], [.ref 215], zhp s.2)) rfl ?_
    refine zRgr rfl rfl rfl (by decide) (b := 216) rfl ?_
    refine zEv_k 1 (f' := (12, [some (.ref 215), some (.int x1), some (.int s.1)], [.ref 215, .ref 216], zhp s.2)) rfl ?_
    refine zRgr rfl rfl rfl (by decide) (b := 217) rfl ?_
    refine zEv_k 1 (f' := (16, [some (.ref 215), some (.int x1), some (.int s.1)], [.int 0, .ref 217, .ref 216], zhp s.2)) rfl ?_
    refine zRia (j := 0) rfl rfl (by decide) (by decide) ?_
    refine zEv_k 4 (f' := (21, [some (.ref 215), some (.int x1), some (.int s.1)], [.int ((Int32.toInt8 (x1 >>> (s.1 &&& 31))).toInt32), .int (gI s.2 217 0), .ref 216], zhp s.2)) rfl ?_
    obtain ⟨j2, hj2, H⟩ := zbs H
    obtain ⟨h3, eh3, H⟩ := zlets H
    refine zRbs rfl rfl (by decide) hj2 eh3 ?_
    refine zEv_k 1 (f' := (23, [some (.ref 215), some (.int x1), some (.int s.1)], [.ref 215], zhp h3)) rfl ?_
    refine zRgr rfl rfl rfl (by decide) (b := 217) rfl ?_
    refine zEv_k 2 (f' := (28, [some (.ref 215), some (.int x1), some (.int s.1)], [.int 0, .ref 217, .int 0, .ref 217], zhp h3)) rfl ?_
    refine zRia (j := 0) rfl rfl (by decide) (by decide) ?_
    refine zEv_k 2 (f' := (31, [some (.ref 215), some (.int x1), some (.int s.1)], [.int ((gI h3 217 0) + 1), .int 0, .ref 217], zhp h3)) rfl ?_
    obtain ⟨h4, eh4, H⟩ := zlets H
    refine zRis (j := 0) rfl rfl (by decide) (by decide) eh4 ?_
    refine zEv_k 2 (f' := (3, [some (.ref 215), some (.int x1), some (.int (s.1 + (-8)))], [], zhp h4)) rfl ?_
    cases H
    exact K
theorem t_qM_four_b3 {Ls : Nat} {xs : Nat → Int32} {d : Nat} {x1 : Int32} {r : zA} {t : zK} (K : ∀ (z2 : Option Value), zEv (zXs Ls xs) d zm_160 (38, [some (.ref 215), some (.int x1), z2], [], zhp t) r) (n : Nat) (s : Int32 × zK) (H : zloop (qM_four_b3 x1) n s = some t) : zEv (zXs Ls xs) d zm_160 (3, [some (.ref 215), some (.int x1), some (.int s.1)], [], zhp s.2) r := by
  have Z := zloop_P (P := fun s => zEv (zXs Ls xs) d zm_160 (3, [some (.ref 215), some (.int x1), some (.int s.1)], [], zhp s.2) r) (b := qM_four_b3 x1) (t := t) (fun s s2 hb hk => by exact t_qM_four_b3b hb hk) (fun s hb => by exact t_qM_four_b3b hb K) n s H
  exact Z
def qM_four (x1 : Int32) (h : zK) : Option (zK) :=
  (zloop (qM_four_b3 x1) zfu (24, h)).bind fun t5 =>
  some t5
theorem t_qM_four {Ls : Nat} {xs : Nat → Int32} {d : Nat} {x1 : Int32} {h : zK} {p : zK} (H : qM_four x1 h = some p) : zEv (zXs Ls xs) d zm_160 (0, [some (.ref 215), some (.int x1), none], [], zhp h) (none, zhp p) := by
  unfold qM_four at H
  refine zEv_k 2 (f' := (3, [some (.ref 215), some (.int x1), some (.int 24)], [], zhp h)) rfl ?_
  obtain ⟨t5, ht5, H⟩ := zbs H
  refine t_qM_four_b3 (x1 := x1) ?_ zfu _ ht5
  intro y2
  cases H
  exact zEv_r rfl
def qM_feed (x1 : Int32) (x2 : Int32) (x3 : Int32) (x4 : Int32) (x5 : Int32) (h : zK) : Option (Int32 × zK) :=
  zlet (sI h 215 0 0) fun h1 =>
  if ((gI h1 217 0) + 20) ≤ 600 then
    (qM_four x1 h1).bind fun p3 =>
    (qM_four x2 p3).bind fun p4 =>
    (qM_four x3 p4).bind fun p5 =>
    (qM_four x4 p5).bind fun p6 =>
    (qM_four x5 p6).bind fun p7 =>
    some (gI p7 217 0, p7)
  else
    some (-1, h1)
theorem t_qM_feed {Ls : Nat} {xs : Nat → Int32} {d : Nat} {x1 : Int32} {x2 : Int32} {x3 : Int32} {x4 : Int32} {x5 : Int32} {h : zK} {p : Int32 × zK} (H : qM_feed x1 x2 x3 x4 x5 h = some p) : zEv (zXs Ls xs) (d + 1) zm_159 (0, [some (.ref 215), some (.int x1), some (.int x2), some (.int x3), some (.int x4), some (.int x5)], [], zhp h) (some (.int p.1), zhp p.2) := by
  unfold qM_feed at H
  obtain ⟨h1, eh1, H⟩ := zlets H
  refine zEv_w (F := fun z => (5, [some (.ref 215), some (.int x1), some (.int x2), some (.int x3), some (.int x4), some (.int x5)], [], zhp z)) (h0 := sI h 215 0 0) 3 rfl eh1 ?_
  refine zEv_k 1 (f' := (6, [some (.ref 215), some (.int x1), some (.int x2), some (.int x3), some (.int x4), some (.int x5)], [.ref 215], zhp h1)) rfl ?_
  refine zRgr rfl rfl rfl (by decide) (b := 217) rfl ?_
  refine zEv_k 1 (f' := (10, [some (.ref 215), some (.int x1), some (.int x2), some (.int x3), some (.int x4), some (.int x5)], [.int 0, .ref 217], zhp h1)) rfl ?_
  refine zRia (j := 0) rfl rfl (by decide) (by decide) ?_
  refine zEv_k 4 (f' := (if ((gI h1 217 0) + 20) ≤ 600 then 22 else 20, [some (.ref 215), some (.int x1), some (.int x2), some (.int x3), some (.int x4), some (.int x5)], [], zhp h1)) rfl (zEv_if (fun c2 => ?_) (fun c2 => ?_))
  · replace H := zif_t c2 H
    refine zEv_k 2 (f' := (24, [some (.ref 215), some (.int x1), some (.int x2), some (.int x3), some (.int x4), some (.int x5)], [.int x1, .ref 215], zhp h1)) rfl ?_
    obtain ⟨p3, hp3, H⟩ := zbs H
    refine zEv_c (fun _ => rfl) rfl (t_qM_four (x1 := x1) (h := h1) (d := d) hp3) rfl rfl ?_
    refine zEv_k 2 (f' := (29, [some (.ref 215), some (.int x1), some (.int x2), some (.int x3), some (.int x4), some (.int x5)], [.int x2, .ref 215], zhp p3)) rfl ?_
    obtain ⟨p4, hp4, H⟩ := zbs H
    refine zEv_c (fun _ => rfl) rfl (t_qM_four (x1 := x2) (h := p3) (d := d) hp4) rfl rfl ?_
    refine zEv_k 2 (f' := (34, [some (.ref 215), some (.int x1), some (.int x2), some (.int x3), some (.int x4), some (.int x5)], [.int x3, .ref 215], zhp p4)) rfl ?_
    obtain ⟨p5, hp5, H⟩ := zbs H
    refine zEv_c (fun _ => rfl) rfl (t_qM_four (x1 := x3) (h := p4) (d := d) hp5) rfl rfl ?_
    refine zEv_k 2 (f' := (40, [some (.ref 215), some (.int x1), some (.int x2), some (.int x3), some (.int x4), some (.int x5)], [.int x4, .ref 215], zhp p5)) rfl ?_
    obtain ⟨p6, hp6, H⟩ := zbs H
    refine zEv_c (fun _ => rfl) rfl (t_qM_four (x1 := x4) (h := p5) (d := d) hp6) rfl rfl ?_
    refine zEv_k 2 (f' := (46, [some (.ref 215), some (.int x1), some (.int x2), some (.int x3), some (.int x4), some (.int x5)], [.int x5, .ref 215], zhp p6)) rfl ?_
    obtain ⟨p7, hp7, H⟩ := zbs H
    refine zEv_c (fun _ => rfl) rfl (t_qM_four (x1 := x5) (h := p6) (d := d) hp7) rfl rfl ?_
    refine zEv_k 1 (f' := (50, [some (.ref 215), some (.int x1), some (.int x2), some (.int x3), some (.int x4), some (.int x5)], [.ref 215], zhp p7)) rfl ?_
    refine zRgr rfl rfl rfl (by decide) (b := 217) rfl ?_
    refine zEv_k 1 (f' := (54, [some (.ref 215), some (.int x1), some (.int x2), some (.int x3), some (.int x4), some (.int x5)], [.int 0, .ref 217], zhp p7)) rfl ?_
    refine zRia (j := 0) rfl rfl (by decide) (by decide) ?_
    cases H
    exact zEv_r rfl
  · replace H := zif_f c2 H
    refine zEv_k 1 (f' := (21, [some (.ref 215), some (.int x1), some (.int x2), some (.int x3), some (.int x4), some (.int x5)], [.int (-1)], zhp h1)) rfl ?_
    cases H
    exact zEv_r rfl
def qM_end (x1 : Int32) (h : zK) : Option (Int32 × zK) :=
  zlet (sI h 215 0 0) fun h1 =>
  if ¬ (zf_in x1 0 (gI h1 217 0)) = 0 then
    zlet (sI h1 217 0 x1) fun h3 =>
    some (x1, h3)
  else
    some (-1, h1)
theorem t_qM_end {Ls : Nat} {xs : Nat → Int32} {d : Nat} {x1 : Int32} {h : zK} {p : Int32 × zK} (H : qM_end x1 h = some p) : zEv (zXs Ls xs) (d + 1) zm_161 (0, [some (.ref 215), some (.int x1)], [], zhp h) (some (.int p.1), zhp p.2) := by
  unfold qM_end at H
  obtain ⟨h1, eh1, H⟩ := zlets H
  refine zEv_w (F := fun z => (5, [some (.ref 215), some (.int x1)], [], zhp z)) (h0 := sI h 215 0 0) 3 rfl eh1 ?_
  refine zEv_k 3 (f' := (8, [some (.ref 215), some (.int x1)], [.ref 215, .int 0, .int x1], zhp h1)) rfl ?_
  refine zRgr rfl rfl rfl (by decide) (b := 217) rfl ?_
  refine zEv_k 1 (f' := (12, [some (.ref 215), some (.int x1)], [.int 0, .ref 217, .int 0, .int x1], zhp h1)) rfl ?_
  refine zRia (j := 0) rfl rfl (by decide) (by decide) ?_
  refine zEv_c (fun _ => rfl) rfl ev_zf_in rfl rfl ?_
  refine zEv_k 1 (f' := (if ¬ (zf_in x1 0 (gI h1 217 0)) = 0 then 21 else 19, [some (.ref 215), some (.int x1)], [], zhp h1)) rfl (zEv_if (fun c2 => ?_) (fun c2 => ?_))
  · replace H := zif_t c2 H
    refine zEv_k 1 (f' := (22, [some (.ref 215), some (.int x1)], [.ref 215], zhp h1)) rfl ?_
    refine zRgr rfl rfl rfl (by decide) (b := 217) rfl ?_
    refine zEv_k 2 (f' := (27, [some (.ref 215), some (.int x1)], [.int x1, .int 0, .ref 217], zhp h1)) rfl ?_
    obtain ⟨h3, eh3, H⟩ := zlets H
    refine zRis (j := 0) rfl rfl (by decide) (by decide) eh3 ?_
    refine zEv_k 1 (f' := (29, [some (.ref 215), some (.int x1)], [.int x1], zhp h3)) rfl ?_
    cases H
    exact zEv_r rfl
  · replace H := zif_f c2 H
    refine zEv_k 1 (f' := (20, [some (.ref 215), some (.int x1)], [.int (-1)], zhp h1)) rfl ?_
    cases H
    exact zEv_r rfl
def qM_see (h : zK) : Option (Int32) :=
  if (gI h 215 10) ≤ (gI h 215 9) then
    some (-1)
  else
    (zix (gI h 215 9) 2400).bind fun j2 =>
    some ((gI h 216 j2) &&& 255)
theorem t_qM_see {Ls : Nat} {xs : Nat → Int32} {d : Nat} {h : zK} {p : Int32} (H : qM_see h = some p) : zEv (zXs Ls xs) d zm_162 (0, [some (.ref 215)], [], zhp h) (some (.int p), zhp h) := by
  unfold qM_see at H
  refine zEv_k 5 (f' := (if (gI h 215 10) ≤ (gI h 215 9) then 27 else 11, [some (.ref 215)], [], zhp h)) rfl (zEv_if (fun c1 => ?_) (fun c1 => ?_))
  · replace H := zif_t c1 H
    refine zEv_k 1 (f' := (28, [some (.ref 215)], [.int (-1)], zhp h)) rfl ?_
    cases H
    exact zEv_r rfl
  · replace H := zif_f c1 H
    refine zEv_k 1 (f' := (12, [some (.ref 215)], [.ref 215], zhp h)) rfl ?_
    refine zRgr rfl rfl rfl (by decide) (b := 216) rfl ?_
    refine zEv_k 2 (f' := (19, [some (.ref 215)], [.int (gI h 215 9), .ref 216], zhp h)) rfl ?_
    obtain ⟨j2, hj2, H⟩ := zbs H
    refine zRba rfl rfl (by decide) hj2 ?_
    refine zEv_k 3 (f' := (28, [some (.ref 215)], [.int ((gI h 216 j2) &&& 255)], zhp h)) rfl ?_
    cases H
    exact zEv_r rfl
