def qC_fits (x1 : Int32) (x2 : Int32) (x3 : Int32) (h : zK) : Option (Int32 × zK) :=
  (qT_cellarAt x1 h).bind fun p1 => match p1 with
  | none =>
    (qT_logAt x2 h).bind fun p3 => match p3 with
    | none =>
      some (-2, h)
    | some v4 =>
      some (-2, h)
  | some v2 =>
    (qT_logAt x2 h).bind fun p5 => match p5 with
    | none =>
      some (-2, h)
    | some v6 =>
      if 0 ≤ x3 then
        if v2 = 7 ∨ v2 = 22 then
          if v6 = 19 ∨ v6 = 34 then
            (qLw_find x1 v2 v6 h).bind fun p10 =>
            if x3 = 0 then
              some (gI p10 196 0, p10)
            else if x3 = 1 then
              (qLw_sureReach p10).bind fun p11 =>
              some (p11, p10)
            else if x3 = 2 then
              (qLw_sureShock p10).bind fun p12 =>
              some (p12, p10)
            else if x3 = 3 then
              (qLw_yearToAsk p10).bind fun p13 =>
              some (p13.1, p13.2)
            else
              if (x3 - 10) < 0 then
                some (-2, p10)
              else
                if (gI p10 196 0) ≤ (x3 - 10) then
                  some (-2, p10)
                else
                  (zix (x3 - 10) 100).bind fun j16 =>
                  some (gI p10 197 j16, p10)
          else none
        else none
      else
        some (-2, h)
theorem t_qC_fits {Ls : Nat} {xs : Nat → Int32} {d : Nat} {x1 : Int32} {x2 : Int32} {x3 : Int32} {h : zK} {p : Int32 × zK} (H : qC_fits x1 x2 x3 h = some p) : zEv (zXs Ls xs) (d + 6) zm_131 (0, [some (.ref 0), some (.int x1), some (.int x2), some (.int x3), none, none, none], [], zhp h) (some (.int p.1), zhp p.2) := by
  unfold qC_fits at H
  refine zEv_k 1 (f' := (1, [some (.ref 0), some (.int x1), some (.int x2), some (.int x3), none, none, none], [.ref 0], zhp h)) rfl ?_
  refine zRgr rfl rfl rfl (by decide) (b := 1) rfl ?_
  refine zEv_k 1 (f' := (5, [some (.ref 0), some (.int x1), some (.int x2), some (.int x3), none, none, none], [.int x1, .ref 1], zhp h)) rfl ?_
  obtain ⟨p1, hp1, H⟩ := zbs H
  refine zEv_c (fun _ => rfl) rfl (t_qT_cellarAt (x1 := x1) (h := h) (d := d + 5) hp1) rfl rfl ?_
  rcases p1 with _ | v2
  · dsimp only at H
    refine zEv_k 2 (f' := (11, [some (.ref 0), some (.int x1), some (.int x2), some (.int x3), some (.null), none, none], [.ref 0], zhp h)) rfl ?_
    refine zRgr rfl rfl rfl (by decide) (b := 1) rfl ?_
    refine zEv_k 1 (f' := (15, [some (.ref 0), some (.int x1), some (.int x2), some (.int x3), some (.null), none, none], [.int x2, .ref 1], zhp h)) rfl ?_
    obtain ⟨p3, hp3, H⟩ := zbs H
    refine zEv_c (fun _ => rfl) rfl (t_qT_logAt (x1 := x2) (h := h) (d := d + 5) hp3) rfl rfl ?_
    rcases p3 with _ | v4
    · dsimp only at H
      refine zEv_k 4 (f' := (36, [some (.ref 0), some (.int x1), some (.int x2), some (.int x3), some (.null), some (.null), none], [.int (-2)], zhp h)) rfl ?_
      cases H
      exact zEv_r rfl
    · dsimp only at H
      refine zEv_k 4 (f' := (36, [some (.ref 0), some (.int x1), some (.int x2), some (.int x3), some (.null), some (.ref v4), none], [.int (-2)], zhp h)) rfl ?_
      cases H
      exact zEv_r rfl
  · dsimp only at H
    refine zEv_k 2 (f' := (11, [some (.ref 0), some (.int x1), some (.int x2), some (.int x3), some (.ref v2), none, none], [.ref 0], zhp h)) rfl ?_
    refine zRgr rfl rfl rfl (by decide) (b := 1) rfl ?_
    refine zEv_k 1 (f' := (15, [some (.ref 0), some (.int x1), some (.int x2), some (.int x3), some (.ref v2), none, none], [.int x2, .ref 1], zhp h)) rfl ?_
    obtain ⟨p5, hp5, H⟩ := zbs H
    refine zEv_c (fun _ => rfl) rfl (t_qT_logAt (x1 := x2) (h := h) (d := d + 5) hp5) rfl rfl ?_
    rcases p5 with _ | v6
    · dsimp only at H
      refine zEv_k 6 (f' := (36, [some (.ref 0), some (.int x1), some (.int x2), some (.int x3), some (.ref v2), some (.null), none], [.int (-2)], zhp h)) rfl ?_
      cases H
      exact zEv_r rfl
    · dsimp only at H
      refine zEv_k 7 (f' := (if 0 ≤ x3 then 37 else 34, [some (.ref 0), some (.int x1), some (.int x2), some (.int x3), some (.ref v2), some (.ref v6), none], [], zhp h)) rfl (zEv_if (fun c7 => ?_) (fun c7 => ?_))
      · replace H := zif_t c7 H
        refine zEv_k 1 (f' := (38, [some (.ref 0), some (.int x1), some (.int x2), some (.int x3), some (.ref v2), some (.ref v6), none], [.ref 0], zhp h)) rfl ?_
        refine zRgr rfl rfl rfl (by decide) (b := 196) rfl ?_
        refine zEv_k 3 (f' := (46, [some (.ref 0), some (.int x1), some (.int x2), some (.int x3), some (.ref v2), some (.ref v6), none], [.ref v6, .ref v2, .int x1, .ref 196], zhp h)) rfl ?_
        obtain ⟨c8, H⟩ := zifn H
        rcases c8 with rfl | rfl
        · obtain ⟨c9, H⟩ := zifn H
          rcases c9 with rfl | rfl
          · obtain ⟨p10, hp10, H⟩ := zbs H
            refine zEv_c (fun _ => rfl) rfl (t_qLw_find (x1 := x1) (oc := 7) (og := 19) (h := h) (d := d) (by decide) hp10) rfl rfl ?_
            refine zEv_k 1 (f' := (50, [some (.ref 0), some (.int x1), some (.int x2), some (.int x3), some (.ref 7), some (.ref 19), none], [.int x3], zhp p10)) rfl ?_
            refine zEv_ts rfl (by decide) (by decide) (by decide) (fun hh => ?_) (fun j hj hh => ?_)
            · replace H := zif_f (fun e => (by rw [e] at hh; exact absurd hh (by decide))) H
              replace H := zif_f (fun e => (by rw [e] at hh; exact absurd hh (by decide))) H
              replace H := zif_f (fun e => (by rw [e] at hh; exact absurd hh (by decide))) H
              replace H := zif_f (fun e => (by rw [e] at hh; exact absurd hh (by decide))) H
              refine zEv_k 6 (f' := (if (x3 - 10) < 0 then 148 else 123, [some (.ref 0), some (.int x1), some (.int x2), some (.int x3), some (.ref 7), some (.ref 19), some (.int (x3 - 10))], [], zhp p10)) rfl (zEv_if (fun c14 => ?_) (fun c14 => ?_))
              · replace H := zif_t c14 H
                refine zEv_k 1 (f' := (150, [some (.ref 0), some (.int x1), some (.int x2), some (.int x3), some (.ref 7), some (.ref 19), some (.int (x3 - 10))], [.int (-2)], zhp p10)) rfl ?_
                cases H
                exact zEv_r rfl
              · replace H := zif_f c14 H
                refine zEv_k 2 (f' := (126, [some (.ref 0), some (.int x1), some (.int x2), some (.int x3), some (.ref 7), some (.ref 19), some (.int (x3 - 10))], [.ref 0, .int (x3 - 10)], zhp p10)) rfl ?_
                refine zRgr rfl rfl rfl (by decide) (b := 196) rfl ?_
                refine zEv_k 2 (f' := (if (gI p10 196 0) ≤ (x3 - 10) then 148 else 135, [some (.ref 0), some (.int x1), some (.int x2), some (.int x3), some (.ref 7), some (.ref 19), some (.int (x3 - 10))], [], zhp p10)) rfl (zEv_if (fun c15 => ?_) (fun c15 => ?_))
                · replace H := zif_t c15 H
                  refine zEv_k 1 (f' := (150, [some (.ref 0), some (.int x1), some (.int x2), some (.int x3), some (.ref 7), some (.ref 19), some (.int (x3 - 10))], [.int (-2)], zhp p10)) rfl ?_
                  cases H
                  exact zEv_r rfl
                · replace H := zif_f c15 H
                  refine zEv_k 1 (f' := (136, [some (.ref 0), some (.int x1), some (.int x2), some (.int x3), some (.ref 7), some (.ref 19), some (.int (x3 - 10))], [.ref 0], zhp p10)) rfl ?_
                  refine zRgr rfl rfl rfl (by decide) (b := 196) rfl ?_
                  refine zRgr rfl rfl rfl (by decide) (b := 197) rfl ?_
                  refine zEv_k 1 (f' := (144, [some (.ref 0), some (.int x1), some (.int x2), some (.int x3), some (.ref 7), some (.ref 19), some (.int (x3 - 10))], [.int (x3 - 10), .ref 197], zhp p10)) rfl ?_
                  obtain ⟨j16, hj16, H⟩ := zbs H
                  refine zRia rfl rfl (by decide) hj16 ?_
                  refine zEv_k 1 (f' := (150, [some (.ref 0), some (.int x1), some (.int x2), some (.int x3), some (.ref 7), some (.ref 19), some (.int (x3 - 10))], [.int (gI p10 197 j16)], zhp p10)) rfl ?_
                  cases H
                  exact zEv_r rfl
            · rcases (by have hj2 : j < 4 := hj; omega : j = 0 ∨ j = 1 ∨ j = 2 ∨ j = 3) with rfl | rfl | rfl | rfl
              · have ex : x3 = 0 := zeqI hh (by decide)
                replace H := zif_t ex H
                refine zEv_k 1 (f' := (81, [some (.ref 0), some (.int x1), some (.int x2), some (.int x3), some (.ref 7), some (.ref 19), none], [.ref 0], zhp p10)) rfl ?_
                refine zRgr rfl rfl rfl (by decide) (b := 196) rfl ?_
                refine zEv_k 1 (f' := (87, [some (.ref 0), some (.int x1), some (.int x2), some (.int x3), some (.ref 7), some (.ref 19), none], [.int (gI p10 196 0)], zhp p10)) rfl ?_
                cases H
                exact zEv_r rfl
              · have ex : x3 = 1 := zeqI hh (by decide)
                replace H := zif_f (fun e => by rw [ex] at e; exact absurd e (by decide)) H
                replace H := zif_t ex H
                refine zEv_k 1 (f' := (89, [some (.ref 0), some (.int x1), some (.int x2), some (.int x3), some (.ref 7), some (.ref 19), none], [.ref 0], zhp p10)) rfl ?_
                refine zRgr rfl rfl rfl (by decide) (b := 196) rfl ?_
                obtain ⟨p11, hp11, H⟩ := zbs H
                refine zEv_c (fun _ => rfl) rfl (t_qLw_sureReach (h := p10) (d := d + 5) hp11) rfl rfl ?_
                cases H
                exact zEv_r rfl
              · have ex : x3 = 2 := zeqI hh (by decide)
                replace H := zif_f (fun e => by rw [ex] at e; exact absurd e (by decide)) H
                replace H := zif_f (fun e => by rw [ex] at e; exact absurd e (by decide)) H
                replace H := zif_t ex H
                refine zEv_k 1 (f' := (97, [some (.ref 0), some (.int x1), some (.int x2), some (.int x3), some (.ref 7), some (.ref 19), none], [.ref 0], zhp p10)) rfl ?_
                refine zRgr rfl rfl rfl (by decide) (b := 196) rfl ?_
                obtain ⟨p12, hp12, H⟩ := zbs H
                refine zEv_c (fun _ => rfl) rfl (t_qLw_sureShock (h := p10) (d := d + 4) hp12) rfl rfl ?_
                cases H
                exact zEv_r rfl
              · have ex : x3 = 3 := zeqI hh (by decide)
                replace H := zif_f (fun e => by rw [ex] at e; exact absurd e (by decide)) H
                replace H := zif_f (fun e => by rw [ex] at e; exact absurd e (by decide)) H
                replace H := zif_f (fun e => by rw [ex] at e; exact absurd e (by decide)) H
                replace H := zif_t ex H
                refine zEv_k 1 (f' := (105, [some (.ref 0), some (.int x1), some (.int x2), some (.int x3), some (.ref 7), some (.ref 19), none], [.ref 0], zhp p10)) rfl ?_
                refine zRgr rfl rfl rfl (by decide) (b := 196) rfl ?_
                obtain ⟨p13, hp13, H⟩ := zbs H
                refine zEv_c (fun _ => rfl) rfl (t_qLw_yearToAsk (h := p10) (d := d + 3) hp13) rfl rfl ?_
                cases H
                exact zEv_r rfl
          · obtain ⟨p10, hp10, H⟩ := zbs H
            refine zEv_c (fun _ => rfl) rfl (t_qLw_find (x1 := x1) (oc := 7) (og := 34) (h := h) (d := d) (by decide) hp10) rfl rfl ?_
            refine zEv_k 1 (f' := (50, [some (.ref 0), some (.int x1), some (.int x2), some (.int x3), some (.ref 7), some (.ref 34), none], [.int x3], zhp p10)) rfl ?_
            refine zEv_ts rfl (by decide) (by decide) (by decide) (fun hh => ?_) (fun j hj hh => ?_)
            · replace H := zif_f (fun e => (by rw [e] at hh; exact absurd hh (by decide))) H
              replace H := zif_f (fun e => (by rw [e] at hh; exact absurd hh (by decide))) H
              replace H := zif_f (fun e => (by rw [e] at hh; exact absurd hh (by decide))) H
              replace H := zif_f (fun e => (by rw [e] at hh; exact absurd hh (by decide))) H
              refine zEv_k 6 (f' := (if (x3 - 10) < 0 then 148 else 123, [some (.ref 0), some (.int x1), some (.int x2), some (.int x3), some (.ref 7), some (.ref 34), some (.int (x3 - 10))], [], zhp p10)) rfl (zEv_if (fun c14 => ?_) (fun c14 => ?_))
              · replace H := zif_t c14 H
                refine zEv_k 1 (f' := (150, [some (.ref 0), some (.int x1), some (.int x2), some (.int x3), some (.ref 7), some (.ref 34), some (.int (x3 - 10))], [.int (-2)], zhp p10)) rfl ?_
                cases H
                exact zEv_r rfl
              · replace H := zif_f c14 H
                refine zEv_k 2 (f' := (126, [some (.ref 0), some (.int x1), some (.int x2), some (.int x3), some (.ref 7), some (.ref 34), some (.int (x3 - 10))], [.ref 0, .int (x3 - 10)], zhp p10)) rfl ?_
                refine zRgr rfl rfl rfl (by decide) (b := 196) rfl ?_
                refine zEv_k 2 (f' := (if (gI p10 196 0) ≤ (x3 - 10) then 148 else 135, [some (.ref 0), some (.int x1), some (.int x2), some (.int x3), some (.ref 7), some (.ref 34), some (.int (x3 - 10))], [], zhp p10)) rfl (zEv_if (fun c15 => ?_) (fun c15 => ?_))
                · replace H := zif_t c15 H
                  refine zEv_k 1 (f' := (150, [some (.ref 0), some (.int x1), some (.int x2), some (.int x3), some (.ref 7), some (.ref 34), some (.int (x3 - 10))], [.int (-2)], zhp p10)) rfl ?_
                  cases H
                  exact zEv_r rfl
                · replace H := zif_f c15 H
                  refine zEv_k 1 (f' := (136, [some (.ref 0), some (.int x1), some (.int x2), some (.int x3), some (.ref 7), some (.ref 34), some (.int (x3 - 10))], [.ref 0], zhp p10)) rfl ?_
                  refine zRgr rfl rfl rfl (by decide) (b := 196) rfl ?_
                  refine zRgr rfl rfl rfl (by decide) (b := 197) rfl ?_
                  refine zEv_k 1 (f' := (144, [some (.ref 0), some (.int x1), some (.int x2), some (.int x3), some (.ref 7), some (.ref 34), some (.int (x3 - 10))], [.int (x3 - 10), .ref 197], zhp p10)) rfl ?_
                  obtain ⟨j16, hj16, H⟩ := zbs H
                  refine zRia rfl rfl (by decide) hj16 ?_
                  refine zEv_k 1 (f' := (150, [some (.ref 0), some (.int x1), some (.int x2), some (.int x3), some (.ref 7), some (.ref 34), some (.int (x3 - 10))], [.int (gI p10 197 j16)], zhp p10)) rfl ?_
                  cases H
                  exact zEv_r rfl
            · rcases (by have hj2 : j < 4 := hj; omega : j = 0 ∨ j = 1 ∨ j = 2 ∨ j = 3) with rfl | rfl | rfl | rfl
              · have ex : x3 = 0 := zeqI hh (by decide)
                replace H := zif_t ex H
                refine zEv_k 1 (f' := (81, [some (.ref 0), some (.int x1), some (.int x2), some (.int x3), some (.ref 7), some (.ref 34), none], [.ref 0], zhp p10)) rfl ?_
                refine zRgr rfl rfl rfl (by decide) (b := 196) rfl ?_
                refine zEv_k 1 (f' := (87, [some (.ref 0), some (.int x1), some (.int x2), some (.int x3), some (.ref 7), some (.ref 34), none], [.int (gI p10 196 0)], zhp p10)) rfl ?_
                cases H
                exact zEv_r rfl
              · have ex : x3 = 1 := zeqI hh (by decide)
                replace H := zif_f (fun e => by rw [ex] at e; exact absurd e (by decide)) H
                replace H := zif_t ex H
                refine zEv_k 1 (f' := (89, [some (.ref 0), some (.int x1), some (.int x2), some (.int x3), some (.ref 7), some (.ref 34), none], [.ref 0], zhp p10)) rfl ?_
                refine zRgr rfl rfl rfl (by decide) (b := 196) rfl ?_
                obtain ⟨p11, hp11, H⟩ := zbs H
                refine zEv_c (fun _ => rfl) rfl (t_qLw_sureReach (h := p10) (d := d + 5) hp11) rfl rfl ?_
                cases H
                exact zEv_r rfl
              · have ex : x3 = 2 := zeqI hh (by decide)
                replace H := zif_f (fun e => by rw [ex] at e; exact absurd e (by decide)) H
                replace H := zif_f (fun e => by rw [ex] at e; exact absurd e (by decide)) H
                replace H := zif_t ex H
                refine zEv_k 1 (f' := (97, [some (.ref 0), some (.int x1), some (.int x2), some (.int x3), some (.ref 7), some (.ref 34), none], [.ref 0], zhp p10)) rfl ?_
                refine zRgr rfl rfl rfl (by decide) (b := 196) rfl ?_
                obtain ⟨p12, hp12, H⟩ := zbs H
                refine zEv_c (fun _ => rfl) rfl (t_qLw_sureShock (h := p10) (d := d + 4) hp12) rfl rfl ?_
                cases H
                exact zEv_r rfl
              · have ex : x3 = 3 := zeqI hh (by decide)
                replace H := zif_f (fun e => by rw [ex] at e; exact absurd e (by decide)) H
                replace H := zif_f (fun e => by rw [ex] at e; exact absurd e (by decide)) H
                replace H := zif_f (fun e => by rw [ex] at e; exact absurd e (by decide)) H
                replace H := zif_t ex H
                refine zEv_k 1 (f' := (105, [some (.ref 0), some (.int x1), some (.int x2), some (.int x3), some (.ref 7), some (.ref 34), none], [.ref 0], zhp p10)) rfl ?_
                refine zRgr rfl rfl rfl (by decide) (b := 196) rfl ?_
                obtain ⟨p13, hp13, H⟩ := zbs H
                refine zEv_c (fun _ => rfl) rfl (t_qLw_yearToAsk (h := p10) (d := d + 3) hp13) rfl rfl ?_
                cases H
                exact zEv_r rfl
        · obtain ⟨c9, H⟩ := zifn H
          rcases c9 with rfl | rfl
          · obtain ⟨p10, hp10, H⟩ := zbs H
            refine zEv_c (fun _ => rfl) rfl (t_qLw_find (x1 := x1) (oc := 22) (og := 19) (h := h) (d := d) (by decide) hp10) rfl rfl ?_
            refine zEv_k 1 (f' := (50, [some (.ref 0), some (.int x1), some (.int x2), some (.int x3), some (.ref 22), some (.ref 19), none], [.int x3], zhp p10)) rfl ?_
            refine zEv_ts rfl (by decide) (by decide) (by decide) (fun hh => ?_) (fun j hj hh => ?_)
            · replace H := zif_f (fun e => (by rw [e] at hh; exact absurd hh (by decide))) H
              replace H := zif_f (fun e => (by rw [e] at hh; exact absurd hh (by decide))) H
              replace H := zif_f (fun e => (by rw [e] at hh; exact absurd hh (by decide))) H
              replace H := zif_f (fun e => (by rw [e] at hh; exact absurd hh (by decide))) H
              refine zEv_k 6 (f' := (if (x3 - 10) < 0 then 148 else 123, [some (.ref 0), some (.int x1), some (.int x2), some (.int x3), some (.ref 22), some (.ref 19), some (.int (x3 - 10))], [], zhp p10)) rfl (zEv_if (fun c14 => ?_) (fun c14 => ?_))
              · replace H := zif_t c14 H
                refine zEv_k 1 (f' := (150, [some (.ref 0), some (.int x1), some (.int x2), some (.int x3), some (.ref 22), some (.ref 19), some (.int (x3 - 10))], [.int (-2)], zhp p10)) rfl ?_
                cases H
                exact zEv_r rfl
              · replace H := zif_f c14 H
                refine zEv_k 2 (f' := (126, [some (.ref 0), some (.int x1), some (.int x2), some (.int x3), some (.ref 22), some (.ref 19), some (.int (x3 - 10))], [.ref 0, .int (x3 - 10)], zhp p10)) rfl ?_
                refine zRgr rfl rfl rfl (by decide) (b := 196) rfl ?_
                refine zEv_k 2 (f' := (if (gI p10 196 0) ≤ (x3 - 10) then 148 else 135, [some (.ref 0), some (.int x1), some (.int x2), some (.int x3), some (.ref 22), some (.ref 19), some (.int (x3 - 10))], [], zhp p10)) rfl (zEv_if (fun c15 => ?_) (fun c15 => ?_))
                · replace H := zif_t c15 H
                  refine zEv_k 1 (f' := (150, [some (.ref 0), some (.int x1), some (.int x2), some (.int x3), some (.ref 22), some (.ref 19), some (.int (x3 - 10))], [.int (-2)], zhp p10)) rfl ?_
                  cases H
                  exact zEv_r rfl
                · replace H := zif_f c15 H
                  refine zEv_k 1 (f' := (136, [some (.ref 0), some (.int x1), some (.int x2), some (.int x3), some (.ref 22), some (.ref 19), some (.int (x3 - 10))], [.ref 0], zhp p10)) rfl ?_
                  refine zRgr rfl rfl rfl (by decide) (b := 196) rfl ?_
                  refine zRgr rfl rfl rfl (by decide) (b := 197) rfl ?_
                  refine zEv_k 1 (f' := (144, [some (.ref 0), some (.int x1), some (.int x2), some (.int x3), some (.ref 22), some (.ref 19), some (.int (x3 - 10))], [.int (x3 - 10), .ref 197], zhp p10)) rfl ?_
                  obtain ⟨j16, hj16, H⟩ := zbs H
                  refine zRia rfl rfl (by decide) hj16 ?_
                  refine zEv_k 1 (f' := (150, [some (.ref 0), some (.int x1), some (.int x2), some (.int x3), some (.ref 22), some (.ref 19), some (.int (x3 - 10))], [.int (gI p10 197 j16)], zhp p10)) rfl ?_
                  cases H
                  exact zEv_r rfl
            · rcases (by have hj2 : j < 4 := hj; omega : j = 0 ∨ j = 1 ∨ j = 2 ∨ j = 3) with rfl | rfl | rfl | rfl
              · have ex : x3 = 0 := zeqI hh (by decide)
                replace H := zif_t ex H
                refine zEv_k 1 (f' := (81, [some (.ref 0), some (.int x1), some (.int x2), some (.int x3), some (.ref 22), some (.ref 19), none], [.ref 0], zhp p10)) rfl ?_
                refine zRgr rfl rfl rfl (by decide) (b := 196) rfl ?_
                refine zEv_k 1 (f' := (87, [some (.ref 0), some (.int x1), some (.int x2), some (.int x3), some (.ref 22), some (.ref 19), none], [.int (gI p10 196 0)], zhp p10)) rfl ?_
                cases H
                exact zEv_r rfl
              · have ex : x3 = 1 := zeqI hh (by decide)
                replace H := zif_f (fun e => by rw [ex] at e; exact absurd e (by decide)) H
                replace H := zif_t ex H
                refine zEv_k 1 (f' := (89, [some (.ref 0), some (.int x1), some (.int x2), some (.int x3), some (.ref 22), some (.ref 19), none], [.ref 0], zhp p10)) rfl ?_
                refine zRgr rfl rfl rfl (by decide) (b := 196) rfl ?_
                obtain ⟨p11, hp11, H⟩ := zbs H
                refine zEv_c (fun _ => rfl) rfl (t_qLw_sureReach (h := p10) (d := d + 5) hp11) rfl rfl ?_
                cases H
                exact zEv_r rfl
              · have ex : x3 = 2 := zeqI hh (by decide)
                replace H := zif_f (fun e => by rw [ex] at e; exact absurd e (by decide)) H
                replace H := zif_f (fun e => by rw [ex] at e; exact absurd e (by decide)) H
                replace H := zif_t ex H
                refine zEv_k 1 (f' := (97, [some (.ref 0), some (.int x1), some (.int x2), some (.int x3), some (.ref 22), some (.ref 19), none], [.ref 0], zhp p10)) rfl ?_
                refine zRgr rfl rfl rfl (by decide) (b := 196) rfl ?_
                obtain ⟨p12, hp12, H⟩ := zbs H
                refine zEv_c (fun _ => rfl) rfl (t_qLw_sureShock (h := p10) (d := d + 4) hp12) rfl rfl ?_
                cases H
                exact zEv_r rfl
              · have ex : x3 = 3 := zeqI hh (by decide)
                replace H := zif_f (fun e => by rw [ex] at e; exact absurd e (by decide)) H
                replace H := zif_f (fun e => by rw [ex] at e; exact absurd e (by decide)) H
                replace H := zif_f (fun e => by rw [ex] at e; exact absurd e (by decide)) H
                replace H := zif_t ex H
                refine zEv_k 1 (f' := (105, [some (.ref 0), some (.int x1), some (.int x2), some (.int x3), some (.ref 22), some (.ref 19), none], [.ref 0], zhp p10)) rfl ?_
                refine zRgr rfl rfl rfl (by decide) (b := 196) rfl ?_
                obtain ⟨p13, hp13, H⟩ := zbs H
                refine zEv_c (fun _ => rfl) rfl (t_qLw_yearToAsk (h := p10) (d := d + 3) hp13) rfl rfl ?_
                cases H
                exact zEv_r rfl
          · obtain ⟨p10, hp10, H⟩ := zbs H
            refine zEv_c (fun _ => rfl) rfl (t_qLw_find (x1 := x1) (oc := 22) (og := 34) (h := h) (d := d) (by decide) hp10) rfl rfl ?_
            refine zEv_k 1 (f' := (50, [some (.ref 0), some (.int x1), some (.int x2), some (.int x3), some (.ref 22), some (.ref 34), none], [.int x3], zhp p10)) rfl ?_
            refine zEv_ts rfl (by decide) (by decide) (by decide) (fun hh => ?_) (fun j hj hh => ?_)
            · replace H := zif_f (fun e => (by rw [e] at hh; exact absurd hh (by decide))) H
              replace H := zif_f (fun e => (by rw [e] at hh; exact absurd hh (by decide))) H
              replace H := zif_f (fun e => (by rw [e] at hh; exact absurd hh (by decide))) H
              replace H := zif_f (fun e => (by rw [e] at hh; exact absurd hh (by decide))) H
              refine zEv_k 6 (f' := (if (x3 - 10) < 0 then 148 else 123, [some (.ref 0), some (.int x1), some (.int x2), some (.int x3), some (.ref 22), some (.ref 34), some (.int (x3 - 10))], [], zhp p10)) rfl (zEv_if (fun c14 => ?_) (fun c14 => ?_))
              · replace H := zif_t c14 H
                refine zEv_k 1 (f' := (150, [some (.ref 0), some (.int x1), some (.int x2), some (.int x3), some (.ref 22), some (.ref 34), some (.int (x3 - 10))], [.int (-2)], zhp p10)) rfl ?_
                cases H
                exact zEv_r rfl
              · replace H := zif_f c14 H
                refine zEv_k 2 (f' := (126, [some (.ref 0), some (.int x1), some (.int x2), some (.int x3), some (.ref 22), some (.ref 34), some (.int (x3 - 10))], [.ref 0, .int (x3 - 10)], zhp p10)) rfl ?_
                refine zRgr rfl rfl rfl (by decide) (b := 196) rfl ?_
                refine zEv_k 2 (f' := (if (gI p10 196 0) ≤ (x3 - 10) then 148 else 135, [some (.ref 0), some (.int x1), some (.int x2), some (.int x3), some (.ref 22), some (.ref 34), some (.int (x3 - 10))], [], zhp p10)) rfl (zEv_if (fun c15 => ?_) (fun c15 => ?_))
                · replace H := zif_t c15 H
                  refine zEv_k 1 (f' := (150, [some (.ref 0), some (.int x1), some (.int x2), some (.int x3), some (.ref 22), some (.ref 34), some (.int (x3 - 10))], [.int (-2)], zhp p10)) rfl ?_
                  cases H
                  exact zEv_r rfl
                · replace H := zif_f c15 H
                  refine zEv_k 1 (f' := (136, [some (.ref 0), some (.int x1), some (.int x2), some (.int x3), some (.ref 22), some (.ref 34), some (.int (x3 - 10))], [.ref 0], zhp p10)) rfl ?_
                  refine zRgr rfl rfl rfl (by decide) (b := 196) rfl ?_
                  refine zRgr rfl rfl rfl (by decide) (b := 197) rfl ?_
                  refine zEv_k 1 (f' := (144, [some (.ref 0), some (.int x1), some (.int x2), some (.int x3), some (.ref 22), some (.ref 34), some (.int (x3 - 10))], [.int (x3 - 10), .ref 197], zhp p10)) rfl ?_
                  obtain ⟨j16, hj16, H⟩ := zbs H
                  refine zRia rfl rfl (by decide) hj16 ?_
                  refine zEv_k 1 (f' := (150, [some (.ref 0), some (.int x1), some (.int x2), some (.int x3), some (.ref 22), some (.ref 34), some (.int (x3 - 10))], [.int (gI p10 197 j16)], zhp p10)) rfl ?_
                  cases H
                  exact zEv_r rfl
            · rcases (by have hj2 : j < 4 := hj; omega : j = 0 ∨ j = 1 ∨ j = 2 ∨ j = 3) with rfl | rfl | rfl | rfl
              · have ex : x3 = 0 := zeqI hh (by decide)
                replace H := zif_t ex H
                refine zEv_k 1 (f' := (81, [some (.ref 0), some (.int x1), some (.int x2), some (.int x3), some (.ref 22), some (.ref 34), none], [.ref 0], zhp p10)) rfl ?_
                refine zRgr rfl rfl rfl (by decide) (b := 196) rfl ?_
                refine zEv_k 1 (f' := (87, [some (.ref 0), some (.int x1), some (.int x2), some (.int x3), some (.ref 22), some (.ref 34), none], [.int (gI p10 196 0)], zhp p10)) rfl ?_
                cases H
                exact zEv_r rfl
              · have ex : x3 = 1 := zeqI hh (by decide)
                replace H := zif_f (fun e => by rw [ex] at e; exact absurd e (by decide)) H
                replace H := zif_t ex H
                refine zEv_k 1 (f' := (89, [some (.ref 0), some (.int x1), some (.int x2), some (.int x3), some (.ref 22), some (.ref 34), none], [.ref 0], zhp p10)) rfl ?_
                refine zRgr rfl rfl rfl (by decide) (b := 196) rfl ?_
                obtain ⟨p11, hp11, H⟩ := zbs H
                refine zEv_c (fun _ => rfl) rfl (t_qLw_sureReach (h := p10) (d := d + 5) hp11) rfl rfl ?_
                cases H
                exact zEv_r rfl
              · have ex : x3 = 2 := zeqI hh (by decide)
                replace H := zif_f (fun e => by rw [ex] at e; exact absurd e (by decide)) H
                replace H := zif_f (fun e => by rw [ex] at e; exact absurd e (by decide)) H
                replace H := zif_t ex H
                refine zEv_k 1 (f' := (97, [some (.ref 0), some (.int x1), some (.int x2), some (.int x3), some (.ref 22), some (.ref 34), none], [.ref 0], zhp p10)) rfl ?_
                refine zRgr rfl rfl rfl (by decide) (b := 196) rfl ?_
                obtain ⟨p12, hp12, H⟩ := zbs H
                refine zEv_c (fun _ => rfl) rfl (t_qLw_sureShock (h := p10) (d := d + 4) hp12) rfl rfl ?_
                cases H
                exact zEv_r rfl
              · have ex : x3 = 3 := zeqI hh (by decide)
                replace H := zif_f (fun e => by rw [ex] at e; exact absurd e (by decide)) H
                replace H := zif_f (fun e => by rw [ex] at e; exact absurd e (by decide)) H
                replace H := zif_f (fun e => by rw [ex] at e; exact absurd e (by decide)) H
                replace H := zif_t ex H
                refine zEv_k 1 (f' := (105, [some (.ref 0), some (.int x1), some (.int x2), some (.int x3), some (.ref 22), some (.ref 34), none], [.ref 0], zhp p10)) rfl ?_
                refine zRgr rfl rfl rfl (by decide) (b := 196) rfl ?_
                obtain ⟨p13, hp13, H⟩ := zbs H
                refine zEv_c (fun _ => rfl) rfl (t_qLw_yearToAsk (h := p10) (d := d + 3) hp13) rfl rfl ?_
                cases H
                exact zEv_r rfl
      · replace H := zif_f c7 H
        refine zEv_k 1 (f' := (36, [some (.ref 0), some (.int x1), some (.int x2), some (.int x3), some (.ref v2), some (.ref v6), none], [.int (-2)], zhp h)) rfl ?_
        cases H
        exact zEv_r rfl
def qC_drawn (x1 : Int32) (x2 : Int32) (x3 : Int32) (x4 : Int32) (h : zK) : Option (Int32 × zK) :=
  (qT_cellarAt x1 h).bind fun p1 => match p1 with
  | none =>
    some (-1, h)
  | some v2 =>
    if x3 < 0 then
      some (-1, h)
    else
      if x3 ≤ 60 then
        if v2 = 7 ∨ v2 = 22 then
          (qRu_begin 166 v2 h).bind fun p6 =>
          (qRu_draw 166 x2 x3 p6).bind fun p7 =>
          (qRu_look 166 x4 p7).bind fun p8 =>
          some (p8, p7)
        else none
      else
        some (-1, h)
theorem t_qC_drawn {Ls : Nat} {xs : Nat → Int32} {d : Nat} {x1 : Int32} {x2 : Int32} {x3 : Int32} {x4 : Int32} {h : zK} {p : Int32 × zK} (H : qC_drawn x1 x2 x3 x4 h = some p) : zEv (zXs Ls xs) (d + 5) zm_132 (0, [some (.ref 0), some (.int x1), some (.int x2), some (.int x3), some (.int x4), none], [], zhp h) (some (.int p.1), zhp p.2) := by
  unfold qC_drawn at H
  refine zEv_k 1 (f' := (1, [some (.ref 0), some (.int x1), some (.int x2), some (.int x3), some (.int x4), none], [.ref 0], zhp h)) rfl ?_
  refine zRgr rfl rfl rfl (by decide) (b := 1) rfl ?_
  refine zEv_k 1 (f' := (5, [some (.ref 0), some (.int x1), some (.int x2), some (.int x3), some (.int x4), none], [.int x1, .ref 1], zhp h)) rfl ?_
  obtain ⟨p1, hp1, H⟩ := zbs H
  refine zEv_c (fun _ => rfl) rfl (t_qT_cellarAt (x1 := x1) (h := h) (d := d + 4) hp1) rfl rfl ?_
  rcases p1 with _ | v2
  · dsimp only at H
    refine zEv_k 4 (f' := (26, [some (.ref 0), some (.int x1), some (.int x2), some (.int x3), some (.int x4), some (.null)], [.int (-1)], zhp h)) rfl ?_
    cases H
    exact zEv_r rfl
  · dsimp only at H
    refine zEv_k 5 (f' := (if x3 < 0 then 25 else 19, [some (.ref 0), some (.int x1), some (.int x2), some (.int x3), some (.int x4), some (.ref v2)], [], zhp h)) rfl (zEv_if (fun c3 => ?_) (fun c3 => ?_))
    · replace H := zif_t c3 H
      refine zEv_k 1 (f' := (26, [some (.ref 0), some (.int x1), some (.int x2), some (.int x3), some (.int x4), some (.ref v2)], [.int (-1)], zhp h)) rfl ?_
      cases H
      exact zEv_r rfl
    · replace H := zif_f c3 H
      refine zEv_k 3 (f' := (if x3 ≤ 60 then 27 else 25, [some (.ref 0), some (.int x1), some (.int x2), some (.int x3), some (.int x4), some (.ref v2)], [], zhp h)) rfl (zEv_if (fun c4 => ?_) (fun c4 => ?_))
      · replace H := zif_t c4 H
        refine zEv_k 1 (f' := (28, [some (.ref 0), some (.int x1), some (.int x2), some (.int x3), some (.int x4), some (.ref v2)], [.ref 0], zhp h)) rfl ?_
        refine zRgr rfl rfl rfl (by decide) (b := 166) rfl ?_
        refine zEv_k 1 (f' := (33, [some (.ref 0), some (.int x1), some (.int x2), some (.int x3), some (.int x4), some (.ref v2)], [.ref v2, .ref 166], zhp h)) rfl ?_
        obtain ⟨c5, H⟩ := zifn H
        rcases c5 with rfl | rfl
        · obtain ⟨p6, hp6, H⟩ := zbs H
          refine zEv_c (fun _ => rfl) rfl (t_qRu_begin (oo := 166) (oc := 7) (h := h) (d := d + 4) (by decide) hp6) rfl rfl ?_
          refine zEv_k 1 (f' := (37, [some (.ref 0), some (.int x1), some (.int x2), some (.int x3), some (.int x4), some (.ref 7)], [.ref 0], zhp p6)) rfl ?_
          refine zRgr rfl rfl rfl (by decide) (b := 166) rfl ?_
          refine zEv_k 2 (f' := (42, [some (.ref 0), some (.int x1), some (.int x2), some (.int x3), some (.int x4), some (.ref 7)], [.int x3, .int x2, .ref 166], zhp p6)) rfl ?_
          obtain ⟨p7, hp7, H⟩ := zbs H
          refine zEv_c (fun _ => rfl) rfl (t_qRu_draw (oo := 166) (x1 := x2) (x2 := x3) (h := p6) (d := d) (by decide) hp7) rfl rfl ?_
          refine zEv_k 1 (f' := (46, [some (.ref 0), some (.int x1), some (.int x2), some (.int x3), some (.int x4), some (.ref 7)], [.ref 0], zhp p7)) rfl ?_
          refine zRgr rfl rfl rfl (by decide) (b := 166) rfl ?_
          refine zEv_k 1 (f' := (51, [some (.ref 0), some (.int x1), some (.int x2), some (.int x3), some (.int x4), some (.ref 7)], [.int x4, .ref 166], zhp p7)) rfl ?_
          obtain ⟨p8, hp8, H⟩ := zbs H
          refine zEv_c (fun _ => rfl) rfl (t_qRu_look (oo := 166) (x1 := x4) (h := p7) (d := d + 3) (by decide) hp8) rfl rfl ?_
          cases H
          exact zEv_r rfl
        · obtain ⟨p6, hp6, H⟩ := zbs H
          refine zEv_c (fun _ => rfl) rfl (t_qRu_begin (oo := 166) (oc := 22) (h := h) (d := d + 4) (by decide) hp6) rfl rfl ?_
          refine zEv_k 1 (f' := (37, [some (.ref 0), some (.int x1), some (.int x2), some (.int x3), some (.int x4), some (.ref 22)], [.ref 0], zhp p6)) rfl ?_
          refine zRgr rfl rfl rfl (by decide) (b := 166) rfl ?_
          refine zEv_k 2 (f' := (42, [some (.ref 0), some (.int x1), some (.int x2), some (.int x3), some (.int x4), some (.ref 22)], [.int x3, .int x2, .ref 166], zhp p6)) rfl ?_
          obtain ⟨p7, hp7, H⟩ := zbs H
          refine zEv_c (fun _ => rfl) rfl (t_qRu_draw (oo := 166) (x1 := x2) (x2 := x3) (h := p6) (d := d) (by decide) hp7) rfl rfl ?_
          refine zEv_k 1 (f' := (46, [some (.ref 0), some (.int x1), some (.int x2), some (.int x3), some (.int x4), some (.ref 22)], [.ref 0], zhp p7)) rfl ?_
          refine zRgr rfl rfl rfl (by decide) (b := 166) rfl ?_
          refine zEv_k 1 (f' := (51, [some (.ref 0), some (.int x1), some (.int x2), some (.int x3), some (.int x4), some (.ref 22)], [.int x4, .ref 166], zhp p7)) rfl ?_
          obtain ⟨p8, hp8, H⟩ := zbs H
          refine zEv_c (fun _ => rfl) rfl (t_qRu_look (oo := 166) (x1 := x4) (h := p7) (d := d + 3) (by decide) hp8) rfl rfl ?_
          cases H
          exact zEv_r rfl
      · replace H := zif_f c4 H
        refine zEv_k 1 (f' := (26, [some (.ref 0), some (.int x1), some (.int x2), some (.int x3), some (.int x4), some (.ref v2)], [.int (-1)], zhp h)) rfl ?_
        cases H
        exact zEv_r rfl
def qLk_wittiest_b4 (oc : Nat) (h : zK) (s : Int32 × Int32) : Option ((Int32 × Int32) ⊕ (Int32)) :=
  if (gI h oc 2) ≤ s.2 then
    some (.inr s.1)
  else
    Option.bind (
        if s.1 = (-1) then
          some s.2
        else
          (zix s.2 7).bind fun j4 =>
          (zix s.1 7).bind fun j5 =>
          if (gI h (oc + 1) j4) ≤ (gI h (oc + 1) j5) then
            some s.1
          else
            some s.2
      ) fun (v3 : Int32) =>
    some (.inl (v3, s.2 + 1))
theorem t_qLk_wittiest_b4b {Ls : Nat} {xs : Nat → Int32} {d : Nat} {oc : Nat} {h : zK} {r : zA} {s : Int32 × Int32} {e : (Int32 × Int32) ⊕ (Int32)} (ho : oc = 7 ∨ oc = 22) (H : qLk_wittiest_b4 oc h s = some e) (K : match (generalizing := false) e with | .inl s' => zEv (zXs Ls xs) d zm_271 (4, [some (.ref oc), some (.int s'.1), some (.int s'.2)], [], zhp h) r | .inr v => ∀ (z2 : Option Value), zEv (zXs Ls xs) d zm_271 (40, [some (.ref oc), some (.int v), z2], [], zhp h) r) : zEv (zXs Ls xs) d zm_271 (4, [some (.ref oc), some (.int s.1), some (.int s.2)], [], zhp h) r := by
  unfold qLk_wittiest_b4 at H
  rcases ho with rfl | rfl
  · refine zEv_k 4 (f' := (if (gI h 7 2) ≤ s.2 then 40 else 12, [some (.ref 7), some (.int s.1), some (.int s.2)], [], zhp h)) rfl (zEv_if (fun c1 => ?_) (fun c1 => ?_))
    · replace H := zif_t c1 H
      cases H
      exact K _
    · replace H := zif_f c1 H
      obtain ⟨v3, hv3, H⟩ := zbs H
      have kv3 : zEv (zXs Ls xs) d zm_271 (34, [some (.ref 7), some (.int v3), some (.int s.2)], [], zhp h) r := by
        refine zEv_k 2 (f' := (4, [some (.ref 7), some (.int v3), some (.int (s.2 + 1))], [], zhp h)) rfl ?_
        cases H
        exact K
      clear H
      refine zEv_k 3 (f' := (if s.1 = (-1) then 32 else 17, [some (.ref 7), some (.int s.1), some (.int s.2)], [], zhp h)) rfl (zEv_if (fun c2 => ?_) (fun c2 => ?_))
      · replace hv3 := zif_t c2 hv3
        refine zEv_k 2 (f' := (34, [some (.ref 7), some (.int s.2), some (.int s.2)], [], zhp h)) rfl ?_
        cases hv3
        exact kv3
      · replace hv3 := zif_f c2 hv3
        refine zEv_k 1 (f' := (18, [some (.ref 7), some (.int s.1), some (.int s.2)], [.ref 7], zhp h)) rfl ?_
        refine zRgr rfl rfl rfl (by decide) (b := 7 + 1) rfl ?_
        refine zEv_k 1 (f' := (22, [some (.ref 7), some (.int s.1), some (.int s.2)], [.int s.2, .ref (7 + 1)], zhp h)) rfl ?_
        obtain ⟨j4, hj4, hv3⟩ := zbs hv3
        refine zRia rfl rfl (by decide) hj4 ?_
        refine zEv_k 1 (f' := (24, [some (.ref 7), some (.int s.1), some (.int s.2)], [.ref 7, .int (gI h (7 + 1) j4)], zhp h)) rfl ?_
        refine zRgr rfl rfl rfl (by decide) (b := 7 + 1) rfl ?_
        refine zEv_k 1 (f' := (28, [some (.ref 7), some (.int s.1), some (.int s.2)], [.int s.1, .ref (7 + 1), .int (gI h (7 + 1) j4)], zhp h)) rfl ?_
        obtain ⟨j5, hj5, hv3⟩ := zbs hv3
        refine zRia rfl rfl (by decide) hj5 ?_
        refine zEv_k 1 (f' := (if (gI h (7 + 1) j4) ≤ (gI h (7 + 1) j5) then 34 else 32, [some (.ref 7), some (.int s.1), some (.int s.2)], [], zhp h)) rfl (zEv_if (fun c6 => ?_) (fun c6 => ?_))
        · replace hv3 := zif_t c6 hv3
          cases hv3
          exact kv3
        · replace hv3 := zif_f c6 hv3
          refine zEv_k 2 (f' := (34, [some (.ref 7), some (.int s.2), some (.int s.2)], [], zhp h)) rfl ?_
          cases hv3
          exact kv3
  · refine zEv_k 4 (f' := (if (gI h 22 2) ≤ s.2 then 40 else 12, [some (.ref 22), some (.int s.1), some (.int s.2)], [], zhp h)) rfl (zEv_if (fun c1 => ?_) (fun c1 => ?_))
    · replace H := zif_t c1 H
      cases H
      exact K _
    · replace H := zif_f c1 H
      obtain ⟨v3, hv3, H⟩ := zbs H
      have kv3 : zEv (zXs Ls xs) d zm_271 (34, [some (.ref 22), some (.int v3), some (.int s.2)], [], zhp h) r := by
        refine zEv_k 2 (f' := (4, [some (.ref 22), some (.int v3), some (.int (s.2 + 1))], [], zhp h)) rfl ?_
        cases H
        exact K
      clear H
      refine zEv_k 3 (f' := (if s.1 = (-1) then 32 else 17, [some (.ref 22), some (.int s.1), some (.int s.2)], [], zhp h)) rfl (zEv_if (fun c2 => ?_) (fun c2 => ?_))
      · replace hv3 := zif_t c2 hv3
        refine zEv_k 2 (f' := (34, [some (.ref 22), some (.int s.2), some (.int s.2)], [], zhp h)) rfl ?_
        cases hv3
        exact kv3
      · replace hv3 := zif_f c2 hv3
        refine zEv_k 1 (f' := (18, [some (.ref 22), some (.int s.1), some (.int s.2)], [.ref 22], zhp h)) rfl ?_
        refine zRgr rfl rfl rfl (by decide) (b := 22 + 1) rfl ?_
        refine zEv_k 1 (f' := (22, [some (.ref 22), some (.int s.1), some (.int s.2)], [.int s.2, .ref (22 + 1)], zhp h)) rfl ?_
        obtain ⟨j4, hj4, hv3⟩ := zbs hv3
        refine zRia rfl rfl (by decide) hj4 ?_
        refine zEv_k 1 (f' := (24, [some (.ref 22), some (.int s.1), some (.int s.2)], [.ref 22, .int (gI h (22 + 1) j4)], zhp h)) rfl ?_
        refine zRgr rfl rfl rfl (by decide) (b := 22 + 1) rfl ?_
        refine zEv_k 1 (f' := (28, [some (.ref 22), some (.int s.1), some (.int s.2)], [.int s.1, .ref (22 + 1), .int (gI h (22 + 1) j4)], zhp h)) rfl ?_
        obtain ⟨j5, hj5, hv3⟩ := zbs hv3
        refine zRia rfl rfl (by decide) hj5 ?_
        refine zEv_k 1 (f' := (if (gI h (22 + 1) j4) ≤ (gI h (22 + 1) j5) then 34 else 32, [some (.ref 22), some (.int s.1), some (.int s.2)], [], zhp h)) rfl (zEv_if (fun c6 => ?_) (fun c6 => ?_))
        · replace hv3 := zif_t c6 hv3
          cases hv3
          exact kv3
        · replace hv3 := zif_f c6 hv3
          refine zEv_k 2 (f' := (34, [some (.ref 22), some (.int s.2), some (.int s.2)], [], zhp h)) rfl ?_
          cases hv3
          exact kv3
theorem t_qLk_wittiest_b4 {Ls : Nat} {xs : Nat → Int32} {d : Nat} {oc : Nat} {h : zK} {r : zA} (ho : oc = 7 ∨ oc = 22) {t : Int32} (K : ∀ (z2 : Option Value), zEv (zXs Ls xs) d zm_271 (40, [some (.ref oc), some (.int t), z2], [], zhp h) r) (n : Nat) (s : Int32 × Int32) (H : zloop (qLk_wittiest_b4 oc h) n s = some t) : zEv (zXs Ls xs) d zm_271 (4, [some (.ref oc), some (.int s.1), some (.int s.2)], [], zhp h) r := by
  have Z := zloop_P (P := fun s => zEv (zXs Ls xs) d zm_271 (4, [some (.ref oc), some (.int s.1), some (.int s.2)], [], zhp h) r) (b := qLk_wittiest_b4 oc h) (t := t) (fun s s2 hb hk => by exact t_qLk_wittiest_b4b ho hb hk) (fun s hb => by exact t_qLk_wittiest_b4b ho hb K) n s H
  exact Z
def qLk_wittiest (oc : Nat) (h : zK) : Option (Int32) :=
  (zloop (qLk_wittiest_b4 oc h) zfu (-1, 0)).bind fun t7 =>
  some t7
theorem t_qLk_wittiest {Ls : Nat} {xs : Nat → Int32} {d : Nat} {oc : Nat} {h : zK} {p : Int32} (ho : oc = 7 ∨ oc = 22) (H : qLk_wittiest oc h = some p) : zEv (zXs Ls xs) d zm_271 (0, [some (.ref oc), none, none], [], zhp h) (some (.int p), zhp h) := by
  unfold qLk_wittiest at H
  rcases ho with rfl | rfl
  · refine zEv_k 4 (f' := (4, [some (.ref 7), some (.int (-1)), some (.int 0)], [], zhp h)) rfl ?_
    obtain ⟨t7, ht7, H⟩ := zbs H
    refine t_qLk_wittiest_b4 (oc := 7) (h := h) (by decide) ?_ zfu _ ht7
    intro y2
    refine zEv_k 1 (f' := (41, [some (.ref 7), some (.int t7), y2], [.int t7], zhp h)) rfl ?_
    cases H
    exact zEv_r rfl
  · refine zEv_k 4 (f' := (4, [some (.ref 22), some (.int (-1)), some (.int 0)], [], zhp h)) rfl ?_
    obtain ⟨t7, ht7, H⟩ := zbs H
    refine t_qLk_wittiest_b4 (oc := 22) (h := h) (by decide) ?_ zfu _ ht7
    intro y2
    refine zEv_k 1 (f' := (41, [some (.ref 22), some (.int t7), y2], [.int t7], zhp h)) rfl ?_
    cases H
    exact zEv_r rfl
def qLk_witOfAll_b4 (oc : Nat) (x1 : Int32) (h : zK) (s : Int32 × Int32) : Option ((Int32 × Int32) ⊕ (Int32)) :=
  if (gI h oc 2) ≤ s.2 then
    some (.inr s.1)
  else
    (qCe_witIn oc s.2 x1 h).bind fun p2 =>
    some (.inl (s.1 + p2, s.2 + 1))
theorem t_qLk_witOfAll_b4b {Ls : Nat} {xs : Nat → Int32} {d : Nat} {oc : Nat} {x1 : Int32} {h : zK} {r : zA} {s : Int32 × Int32} {e : (Int32 × Int32) ⊕ (Int32)} (ho : oc = 7 ∨ oc = 22) (H : qLk_witOfAll_b4 oc x1 h s = some e) (K : match (generalizing := false) e with | .inl s' => zEv (zXs Ls xs) (d + 1) zm_273 (4, [some (.ref oc), some (.int x1), some (.int s'.1), some (.int s'.2)], [], zhp h) r | .inr v => ∀ (z3 : Option Value), zEv (zXs Ls xs) (d + 1) zm_273 (27, [some (.ref oc), some (.int x1), some (.int v), z3], [], zhp h) r) : zEv (zXs Ls xs) (d + 1) zm_273 (4, [some (.ref oc), some (.int x1), some (.int s.1), some (.int s.2)], [], zhp h) r := by
  unfold qLk_witOfAll_b4 at H
  rcases ho with rfl | rfl
  · refine zEv_k 4 (f' := (if (gI h 7 2) ≤ s.2 then 27 else 12, [some (.ref 7), some (.int x1), some (.int s.1), some (.int s.2)], [], zhp h)) rfl (zEv_if (fun c1 => ?_) (fun c1 => ?_))
    · replace H := zif_t c1 H
      cases H
      exact K _
    · replace H := zif_f c1 H
      refine zEv_k 4 (f' := (16, [some (.ref 7), some (.int x1), some (.int s.1), some (.int s.2)], [.int x1, .int s.2, .ref 7, .int s.1], zhp h)) rfl ?_
      obtain ⟨p2, hp2, H⟩ := zbs H
      refine zEv_c (fun _ => rfl) rfl (t_qCe_witIn (oo := 7) (x1 := s.2) (x2 := x1) (h := h) (d := d) (by decide) hp2) rfl rfl ?_
      refine zEv_k 4 (f' := (4, [some (.ref 7), some (.int x1), some (.int (s.1 + p2)), some (.int (s.2 + 1))], [], zhp h)) rfl ?_
      cases H
      exact K
  · refine zEv_k 4 (f' := (if (gI h 22 2) ≤ s.2 then 27 else 12, [some (.ref 22), some (.int x1), some (.int s.1), some (.int s.2)], [], zhp h)) rfl (zEv_if (fun c1 => ?_) (fun c1 => ?_))
    · replace H := zif_t c1 H
      cases H
      exact K _
    · replace H := zif_f c1 H
      refine zEv_k 4 (f' := (16, [some (.ref 22), some (.int x1), some (.int s.1), some (.int s.2)], [.int x1, .int s.2, .ref 22, .int s.1], zhp h)) rfl ?_
      obtain ⟨p2, hp2, H⟩ := zbs H
      refine zEv_c (fun _ => rfl) rfl (t_qCe_witIn (oo := 22) (x1 := s.2) (x2 := x1) (h := h) (d := d) (by decide) hp2) rfl rfl ?_
      refine zEv_k 4 (f' := (4, [some (.ref 22), some (.int x1), some (.int (s.1 + p2)), some (.int (s.2 + 1))], [], zhp h)) rfl ?_
      cases H
      exact K
theorem t_qLk_witOfAll_b4 {Ls : Nat} {xs : Nat → Int32} {d : Nat} {oc : Nat} {x1 : Int32} {h : zK} {r : zA} (ho : oc = 7 ∨ oc = 22) {t : Int32} (K : ∀ (z3 : Option Value), zEv (zXs Ls xs) (d + 1) zm_273 (27, [some (.ref oc), some (.int x1), some (.int t), z3], [], zhp h) r) (n : Nat) (s : Int32 × Int32) (H : zloop (qLk_witOfAll_b4 oc x1 h) n s = some t) : zEv (zXs Ls xs) (d + 1) zm_273 (4, [some (.ref oc), some (.int x1), some (.int s.1), some (.int s.2)], [], zhp h) r := by
  have Z := zloop_P (P := fun s => zEv (zXs Ls xs) (d + 1) zm_273 (4, [some (.ref oc), some (.int x1), some (.int s.1), some (.int s.2)], [], zhp h) r) (b := qLk_witOfAll_b4 oc x1 h) (t := t) (fun s s2 hb hk => by exact t_qLk_witOfAll_b4b ho hb hk) (fun s hb => by exact t_qLk_witOfAll_b4b ho hb K) n s H
  exact Z
def qLk_witOfAll (oc : Nat) (x1 : Int32) (h : zK) : Option (Int32) :=
  (zloop (qLk_witOfAll_b4 oc x1 h) zfu (0, 0)).bind fun t3 =>
  some t3
theorem t_qLk_witOfAll {Ls : Nat} {xs : Nat → Int32} {d : Nat} {oc : Nat} {x1 : Int32} {h : zK} {p : Int32} (ho : oc = 7 ∨ oc = 22) (H : qLk_witOfAll oc x1 h = some p) : zEv (zXs Ls xs) (d + 1) zm_273 (0, [some (.ref oc), some (.int x1), none, none], [], zhp h) (some (.int p), zhp h) := by
  unfold qLk_witOfAll at H
  rcases ho with rfl | rfl
  · refine zEv_k 4 (f' := (4, [some (.ref 7), some (.int x1), some (.int 0), some (.int 0)], [], zhp h)) rfl ?_
    obtain ⟨t3, ht3, H⟩ := zbs H
    refine t_qLk_witOfAll_b4 (oc := 7) (x1 := x1) (h := h) (by decide) ?_ zfu _ ht3
    intro y3
    refine zEv_k 1 (f' := (28, [some (.ref 7), some (.int x1), some (.int t3), y3], [.int t3], zhp h)) rfl ?_
    cases H
    exact zEv_r rfl
  · refine zEv_k 4 (f' := (4, [some (.ref 22), some (.int x1), some (.int 0), some (.int 0)], [], zhp h)) rfl ?_
    obtain ⟨t3, ht3, H⟩ := zbs H
    refine t_qLk_witOfAll_b4 (oc := 22) (x1 := x1) (h := h) (by decide) ?_ zfu _ ht3
    intro y3
    refine zEv_k 1 (f' := (28, [some (.ref 22), some (.int x1), some (.int t3), y3], [.int t3], zhp h)) rfl ?_
    cases H
    exact zEv_r rfl
def qLk_liveliest_b4 (oc : Nat) (h : zK) (s : Int32 × Int32) : Option ((Int32 × Int32) ⊕ (Int32)) :=
  if (gI h oc 2) ≤ s.2 then
    some (.inr s.1)
  else
    Option.bind (
        if s.1 = (-1) then
          some s.2
        else
          (zix s.2 7).bind fun j4 =>
          (zix s.1 7).bind fun j5 =>
          if ((gI h (oc + 3) j4) - (gI h (oc + 5) j4)) ≤ ((gI h (oc + 3) j5) - (gI h (oc + 5) j5)) then
            some s.1
          else
            some s.2
      ) fun (v3 : Int32) =>
    some (.inl (v3, s.2 + 1))
theorem t_qLk_liveliest_b4b {Ls : Nat} {xs : Nat → Int32} {d : Nat} {oc : Nat} {h : zK} {r : zA} {s : Int32 × Int32} {e : (Int32 × Int32) ⊕ (Int32)} (ho : oc = 7 ∨ oc = 22) (H : qLk_liveliest_b4 oc h s = some e) (K : match (generalizing := false) e with | .inl s' => zEv (zXs Ls xs) d zm_272 (4, [some (.ref oc), some (.int s'.1), some (.int s'.2)], [], zhp h) r | .inr v => ∀ (z2 : Option Value), zEv (zXs Ls xs) d zm_272 (54, [some (.ref oc), some (.int v), z2], [], zhp h) r) : zEv (zXs Ls xs) d zm_272 (4, [some (.ref oc), some (.int s.1), some (.int s.2)], [], zhp h) r := by
  unfold qLk_liveliest_b4 at H
  rcases ho with rfl | rfl
  · refine zEv_k 4 (f' := (if (gI h 7 2) ≤ s.2 then 54 else 12, [some (.ref 7), some (.int s.1), some (.int s.2)], [], zhp h)) rfl (zEv_if (fun c1 => ?_) (fun c1 => ?_))
    · replace H := zif_t c1 H
      cases H
      exact K _
    · replace H := zif_f c1 H
      obtain ⟨v3, hv3, H⟩ := zbs H
      have kv3 : zEv (zXs Ls xs) d zm_272 (48, [some (.ref 7), some (.int v3), some (.int s.2)], [], zhp h) r := by
        refine zEv_k 2 (f' := (4, [some (.ref 7), some (.int v3), some (.int (s.2 + 1))], [], zhp h)) rfl ?_
        cases H
        exact K
      clear H
      refine zEv_k 3 (f' := (if s.1 = (-1) then 46 else 17, [some (.ref 7), some (.int s.1), some (.int s.2)], [], zhp h)) rfl (zEv_if (fun c2 => ?_) (fun c2 => ?_))
      · replace hv3 := zif_t c2 hv3
        refine zEv_k 2 (f' := (48, [some (.ref 7), some (.int s.2), some (.int s.2)], [], zhp h)) rfl ?_
        cases hv3
        exact kv3
      · replace hv3 := zif_f c2 hv3
        refine zEv_k 1 (f' := (18, [some (.ref 7), some (.int s.1), some (.int s.2)], [.ref 7], zhp h)) rfl ?_
        refine zRgr rfl rfl rfl (by decide) (b := 7 + 3) rfl ?_
        refine zEv_k 1 (f' := (22, [some (.ref 7), some (.int s.1), some (.int s.2)], [.int s.2, .ref (7 + 3)], zhp h)) rfl ?_
        obtain ⟨j4, hj4, hv3⟩ := zbs hv3
        refine zRia rfl rfl (by decide) hj4 ?_
        refine zEv_k 1 (f' := (24, [some (.ref 7), some (.int s.1), some (.int s.2)], [.ref 7, .int (gI h (7 + 3) j4)], zhp h)) rfl ?_
        refine zRgr rfl rfl rfl (by decide) (b := 7 + 5) rfl ?_
        refine zEv_k 1 (f' := (28, [some (.ref 7), some (.int s.1), some (.int s.2)], [.int s.2, .ref (7 + 5), .int (gI h (7 + 3) j4)], zhp h)) rfl ?_
        refine zRia rfl rfl (by decide) hj4 ?_
        refine zEv_k 2 (f' := (31, [some (.ref 7), some (.int s.1), some (.int s.2)], [.ref 7, .int ((gI h (7 + 3) j4) - (gI h (7 + 5) j4))], zhp h)) rfl ?_
        refine zRgr rfl rfl rfl (by decide) (b := 7 + 3) rfl ?_
        refine zEv_k 1 (f' := (35, [some (.ref 7), some (.int s.1), some (.int s.2)], [.int s.1, .ref (7 + 3), .int ((gI h (7 + 3) j4) - (gI h (7 + 5) j4))], zhp h)) rfl ?_
        obtain ⟨j5, hj5, hv3⟩ := zbs hv3
        refine zRia rfl rfl (by decide) hj5 ?_
        refine zEv_k 1 (f' := (37, [some (.ref 7), some (.int s.1), some (.int s.2)], [.ref 7, .int (gI h (7 + 3) j5), .int ((gI h (7 + 3) j4) - (gI h (7 + 5) j4))], zhp h)) rfl ?_
        refine zRgr rfl rfl rfl (by decide) (b := 7 + 5) rfl ?_
        refine zEv_k 1 (f' := (41, [some (.ref 7), some (.int s.1), some (.int s.2)], [.int s.1, .ref (7 + 5), .int (gI h (7 + 3) j5), .int ((gI h (7 + 3) j4) - (gI h (7 + 5) j4))], zhp h)) rfl ?_
        refine zRia rfl rfl (by decide) hj5 ?_
        refine zEv_k 2 (f' := (if ((gI h (7 + 3) j4) - (gI h (7 + 5) j4)) ≤ ((gI h (7 + 3) j5) - (gI h (7 + 5) j5)) then 48 else 46, [some (.ref 7), some (.int s.1), some (.int s.2)], [], zhp h)) rfl (zEv_if (fun c6 => ?_) (fun c6 => ?_))
        · replace hv3 := zif_t c6 hv3
          cases hv3
          exact kv3
        · replace hv3 := zif_f c6 hv3
          refine zEv_k 2 (f' := (48, [some (.ref 7), some (.int s.2), some (.int s.2)], [], zhp h)) rfl ?_
          cases hv3
          exact kv3
  · refine zEv_k 4 (f' := (if (gI h 22 2) ≤ s.2 then 54 else 12, [some (.ref 22), some (.int s.1), some (.int s.2)], [], zhp h)) rfl (zEv_if (fun c1 => ?_) (fun c1 => ?_))
    · replace H := zif_t c1 H
      cases H
      exact K _
    · replace H := zif_f c1 H
      obtain ⟨v3, hv3, H⟩ := zbs H
      have kv3 : zEv (zXs Ls xs) d zm_272 (48, [some (.ref 22), some (.int v3), some (.int s.2)], [], zhp h) r := by
        refine zEv_k 2 (f' := (4, [some (.ref 22), some (.int v3), some (.int (s.2 + 1))], [], zhp h)) rfl ?_
        cases H
        exact K
      clear H
      refine zEv_k 3 (f' := (if s.1 = (-1) then 46 else 17, [some (.ref 22), some (.int s.1), some (.int s.2)], [], zhp h)) rfl (zEv_if (fun c2 => ?_) (fun c2 => ?_))
      · replace hv3 := zif_t c2 hv3
        refine zEv_k 2 (f' := (48, [some (.ref 22), some (.int s.2), some (.int s.2)], [], zhp h)) rfl ?_
        cases hv3
        exact kv3
      · replace hv3 := zif_f c2 hv3
        refine zEv_k 1 (f' := (18, [some (.ref 22), some (.int s.1), some (.int s.2)], [.ref 22], zhp h)) rfl ?_
        refine zRgr rfl rfl rfl (by decide) (b := 22 + 3) rfl ?_
        refine zEv_k 1 (f' := (22, [some (.ref 22), some (.int s.1), some (.int s.2)], [.int s.2, .ref (22 + 3)], zhp h)) rfl ?_
        obtain ⟨j4, hj4, hv3⟩ := zbs hv3
        refine zRia rfl rfl (by decide) hj4 ?_
        refine zEv_k 1 (f' := (24, [some (.ref 22), some (.int s.1), some (.int s.2)], [.ref 22, .int (gI h (22 + 3) j4)], zhp h)) rfl ?_
        refine zRgr rfl rfl rfl (by decide) (b := 22 + 5) rfl ?_
        refine zEv_k 1 (f' := (28, [some (.ref 22), some (.int s.1), some (.int s.2)], [.int s.2, .ref (22 + 5), .int (gI h (22 + 3) j4)], zhp h)) rfl ?_
        refine zRia rfl rfl (by decide) hj4 ?_
        refine zEv_k 2 (f' := (31, [some (.ref 22), some (.int s.1), some (.int s.2)], [.ref 22, .int ((gI h (22 + 3) j4) - (gI h (22 + 5) j4))], zhp h)) rfl ?_
        refine zRgr rfl rfl rfl (by decide) (b := 22 + 3) rfl ?_
        refine zEv_k 1 (f' := (35, [some (.ref 22), some (.int s.1), some (.int s.2)], [.int s.1, .ref (22 + 3), .int ((gI h (22 + 3) j4) - (gI h (22 + 5) j4))], zhp h)) rfl ?_
        obtain ⟨j5, hj5, hv3⟩ := zbs hv3
        refine zRia rfl rfl (by decide) hj5 ?_
        refine zEv_k 1 (f' := (37, [some (.ref 22), some (.int s.1), some (.int s.2)], [.ref 22, .int (gI h (22 + 3) j5), .int ((gI h (22 + 3) j4) - (gI h (22 + 5) j4))], zhp h)) rfl ?_
        refine zRgr rfl rfl rfl (by decide) (b := 22 + 5) rfl ?_
        refine zEv_k 1 (f' := (41, [some (.ref 22), some (.int s.1), some (.int s.2)], [.int s.1, .ref (22 + 5), .int (gI h (22 + 3) j5), .int ((gI h (22 + 3) j4) - (gI h (22 + 5) j4))], zhp h)) rfl ?_
        refine zRia rfl rfl (by decide) hj5 ?_
        refine zEv_k 2 (f' := (if ((gI h (22 + 3) j4) - (gI h (22 + 5) j4)) ≤ ((gI h (22 + 3) j5) - (gI h (22 + 5) j5)) then 48 else 46, [some (.ref 22), some (.int s.1), some (.int s.2)], [], zhp h)) rfl (zEv_if (fun c6 => ?_) (fun c6 => ?_))
        · replace hv3 := zif_t c6 hv3
          cases hv3
          exact kv3
        · replace hv3 := zif_f c6 hv3
          refine zEv_k 2 (f' := (48, [some (.ref 22), some (.int s.2), some (.int s.2)], [], zhp h)) rfl ?_
          cases hv3
          exact kv3
theorem t_qLk_liveliest_b4 {Ls : Nat} {xs : Nat → Int32} {d : Nat} {oc : Nat} {h : zK} {r : zA} (ho : oc = 7 ∨ oc = 22) {t : Int32} (K : ∀ (z2 : Option Value), zEv (zXs Ls xs) d zm_272 (54, [some (.ref oc), some (.int t), z2], [], zhp h) r) (n : Nat) (s : Int32 × Int32) (H : zloop (qLk_liveliest_b4 oc h) n s = some t) : zEv (zXs Ls xs) d zm_272 (4, [some (.ref oc), some (.int s.1), some (.int s.2)], [], zhp h) r := by
  have Z := zloop_P (P := fun s => zEv (zXs Ls xs) d zm_272 (4, [some (.ref oc), some (.int s.1), some (.int s.2)], [], zhp h) r) (b := qLk_liveliest_b4 oc h) (t := t) (fun s s2 hb hk => by exact t_qLk_liveliest_b4b ho hb hk) (fun s hb => by exact t_qLk_liveliest_b4b ho hb K) n s H
  exact Z
def qLk_liveliest (oc : Nat) (h : zK) : Option (Int32) :=
  (zloop (qLk_liveliest_b4 oc h) zfu (-1, 0)).bind fun t7 =>
  some t7
theorem t_qLk_liveliest {Ls : Nat} {xs : Nat → Int32} {d : Nat} {oc : Nat} {h : zK} {p : Int32} (ho : oc = 7 ∨ oc = 22) (H : qLk_liveliest oc h = some p) : zEv (zXs Ls xs) d zm_272 (0, [some (.ref oc), none, none], [], zhp h) (some (.int p), zhp h) := by
  unfold qLk_liveliest at H
  rcases ho with rfl | rfl
  · refine zEv_k 4 (f' := (4, [some (.ref 7), some (.int (-1)), some (.int 0)], [], zhp h)) rfl ?_
    obtain ⟨t7, ht7, H⟩ := zbs H
    refine t_qLk_liveliest_b4 (oc := 7) (h := h) (by decide) ?_ zfu _ ht7
    intro y2
    refine zEv_k 1 (f' := (55, [some (.ref 7), some (.int t7), y2], [.int t7], zhp h)) rfl ?_
    cases H
    exact zEv_r rfl
  · refine zEv_k 4 (f' := (4, [some (.ref 22), some (.int (-1)), some (.int 0)], [], zhp h)) rfl ?_
    obtain ⟨t7, ht7, H⟩ := zbs H
    refine t_qLk_liveliest_b4 (oc := 22) (h := h) (by decide) ?_ zfu _ ht7
    intro y2
    refine zEv_k 1 (f' := (55, [some (.ref 22), some (.int t7), y2], [.int t7], zhp h)) rfl ?_
    cases H
    exact zEv_r rfl
def qLk_closest_b20 (oc : Nat) (x3 : Int32) (h : zK) (s : Int32 × Int32 × Int32) : Option ((Int32 × Int32 × Int32) ⊕ (Int32 × Int32)) :=
  if (gI h oc 2) ≤ s.2.2 then
    some (.inr (s.1, s.2.1))
  else
    (zix x3 7).bind fun j3 =>
    (zix s.2.2 7).bind fun j4 =>
    zlet (
        if s.2.1 ≤ (zf_abs ((gI h (oc + 6) j3) - (gI h (oc + 6) j4))) then
          (s.1, s.2.1)
        else
          ((10 * x3) + s.2.2, zf_abs ((gI h (oc + 6) j3) - (gI h (oc + 6) j4)))
      ) fun (v6 : Int32 × Int32) =>
    some (.inl (v6.1, v6.2, s.2.2 + 1))
theorem t_qLk_closest_b20b {Ls : Nat} {xs : Nat → Int32} {d : Nat} {oc : Nat} {x3 : Int32} {h : zK} {r : zA} {s : Int32 × Int32 × Int32} {e : (Int32 × Int32 × Int32) ⊕ (Int32 × Int32)} (ho : oc = 7 ∨ oc = 22) (H : qLk_closest_b20 oc x3 h s = some e) (K : match (generalizing := false) e with | .inl s' => ∀ (z5 : Option Value), zEv (zXs Ls xs) d zm_277 (20, [some (.ref oc), some (.int s'.1), some (.int s'.2.1), some (.int x3), some (.int s'.2.2), z5], [], zhp h) r | .inr v => ∀ (z4 : Option Value) (z5 : Option Value), zEv (zXs Ls xs) d zm_277 (71, [some (.ref oc), some (.int v.1), some (.int v.2), some (.int x3), z4, z5], [], zhp h) r) (y5 : Option Value) : zEv (zXs Ls xs) d zm_277 (20, [some (.ref oc), some (.int s.1), some (.int s.2.1), some (.int x3), some (.int s.2.2), y5], [], zhp h) r := by
  unfold qLk_closest_b20 at H
  rcases ho with rfl | rfl
  · refine zEv_k 4 (f' := (if (gI h 7 2) ≤ s.2.2 then 71 else 29, [some (.ref 7), some (.int s.1), some (.int s.2.1), some (.int x3), some (.int s.2.2), y5], [], zhp h)) rfl (zEv_if (fun c2 => ?_) (fun c2 => ?_))
    · replace H := zif_t c2 H
      cases H
      exact K _ _
    · replace H := zif_f c2 H
      refine zEv_k 1 (f' := (30, [some (.ref 7), some (.int s.1), some (.int s.2.1), some (.int x3), some (.int s.2.2), y5], [.ref 7], zhp h)) rfl ?_
      refine zRgr rfl rfl rfl (by decide) (b := 7 + 6) rfl ?_
      refine zEv_k 1 (f' := (34, [some (.ref 7), some (.int s.1), some (.int s.2.1), some (.int x3), some (.int s.2.2), y5], [.int x3, .ref (7 + 6)], zhp h)) rfl ?_
      obtain ⟨j3, hj3, H⟩ := zbs H
      refine zRia rfl rfl (by decide) hj3 ?_
      refine zEv_k 1 (f' := (36, [some (.ref 7), some (.int s.1), some (.int s.2.1), some (.int x3), some (.int s.2.2), y5], [.ref 7, .int (gI h (7 + 6) j3)], zhp h)) rfl ?_
      refine zRgr rfl rfl rfl (by decide) (b := 7 + 6) rfl ?_
      refine zEv_k 1 (f' := (41, [some (.ref 7), some (.int s.1), some (.int s.2.1), some (.int x3), some (.int s.2.2), y5], [.int s.2.2, .ref (7 + 6), .int (gI h (7 + 6) j3)], zhp h)) rfl ?_
      obtain ⟨j4, hj4, H⟩ := zbs H
      refine zRia rfl rfl (by decide) hj4 ?_
      obtain ⟨v6, hv6, H⟩ := zlets H
      have kv6 : zEv (zXs Ls xs) d zm_277 (65, [some (.ref 7), some (.int v6.1), some (.int v6.2), some (.int x3), some (.int s.2.2), some (.int (zf_abs ((gI h (7 + 6) j3) - (gI h (7 + 6) j4))))], [], zhp h) r := by
        refine zEv_k 2 (f' := (20, [some (.ref 7), some (.int v6.1), some (.int v6.2), some (.int x3), some (.int (s.2.2 + 1)), some (.int (zf_abs ((gI h (7 + 6) j3) - (gI h (7 + 6) j4))))], [], zhp h)) rfl ?_
        cases H
        exact K _
      clear H
      refine zEv_k 6 (f' := (if s.2.1 ≤ (zf_abs ((gI h (7 + 6) j3) - (gI h (7 + 6) j4))) then 65 else 54, [some (.ref 7), some (.int s.1), some (.int s.2.1), some (.int x3), some (.int s.2.2), some (.int (zf_abs ((gI h (7 + 6) j3) - (gI h (7 + 6) j4))))], [], zhp h)) rfl (zEv_if (fun c5 => ?_) (fun c5 => ?_))
      · replace hv6 := zif_t c5 hv6
        cases hv6
        exact kv6
      · replace hv6 := zif_f c5 hv6
        refine zEv_k 8 (f' := (65, [some (.ref 7), some (.int ((10 * x3) + s.2.2)), some (.int (zf_abs ((gI h (7 + 6) j3) - (gI h (7 + 6) j4)))), some (.int x3), some (.int s.2.2), some (.int (zf_abs ((gI h (7 + 6) j3) - (gI h (7 + 6) j4))))], [], zhp h)) rfl ?_
        cases hv6
        exact kv6
  · refine zEv_k 4 (f' := (if (gI h 22 2) ≤ s.2.2 then 71 else 29, [some (.ref 22), some (.int s.1), some (.int s.2.1), some (.int x3), some (.int s.2.2), y5], [], zhp h)) rfl (zEv_if (fun c2 => ?_) (fun c2 => ?_))
    · replace H := zif_t c2 H
      cases H
      exact K _ _
    · replace H := zif_f c2 H
      refine zEv_k 1 (f' := (30, [some (.ref 22), some (.int s.1), some (.int s.2.1), some (.int x3), some (.int s.2.2), y5], [.ref 22], zhp h)) rfl ?_
      refine zRgr rfl rfl rfl (by decide) (b := 22 + 6) rfl ?_
      refine zEv_k 1 (f' := (34, [some (.ref 22), some (.int s.1), some (.int s.2.1), some (.int x3), some (.int s.2.2), y5], [.int x3, .ref (22 + 6)], zhp h)) rfl ?_
      obtain ⟨j3, hj3, H⟩ := zbs H
      refine zRia rfl rfl (by decide) hj3 ?_
      refine zEv_k 1 (f' := (36, [some (.ref 22), some (.int s.1), some (.int s.2.1), some (.int x3), some (.int s.2.2), y5], [.ref 22, .int (gI h (22 + 6) j3)], zhp h)) rfl ?_
      refine zRgr rfl rfl rfl (by decide) (b := 22 + 6) rfl ?_
      refine zEv_k 1 (f' := (41, [some (.ref 22), some (.int s.1), some (.int s.2.1), some (.int x3), some (.int s.2.2), y5], [.int s.2.2, .ref (22 + 6), .int (gI h (22 + 6) j3)], zhp h)) rfl ?_
      obtain ⟨j4, hj4, H⟩ := zbs H
      refine zRia rfl rfl (by decide) hj4 ?_
      obtain ⟨v6, hv6, H⟩ := zlets H
      have kv6 : zEv (zXs Ls xs) d zm_277 (65, [some (.ref 22), some (.int v6.1), some (.int v6.2), some (.int x3), some (.int s.2.2), some (.int (zf_abs ((gI h (22 + 6) j3) - (gI h (22 + 6) j4))))], [], zhp h) r := by
        refine zEv_k 2 (f' := (20, [some (.ref 22), some (.int v6.1), some (.int v6.2), some (.int x3), some (.int (s.2.2 + 1)), some (.int (zf_abs ((gI h (22 + 6) j3) - (gI h (22 + 6) j4))))], [], zhp h)) rfl ?_
        cases H
        exact K _
      clear H
      refine zEv_k 6 (f' := (if s.2.1 ≤ (zf_abs ((gI h (22 + 6) j3) - (gI h (22 + 6) j4))) then 65 else 54, [some (.ref 22), some (.int s.1), some (.int s.2.1), some (.int x3), some (.int s.2.2), some (.int (zf_abs ((gI h (22 + 6) j3) - (gI h (22 + 6) j4))))], [], zhp h)) rfl (zEv_if (fun c5 => ?_) (fun c5 => ?_))
      · replace hv6 := zif_t c5 hv6
        cases hv6
        exact kv6
      · replace hv6 := zif_f c5 hv6
        refine zEv_k 8 (f' := (65, [some (.ref 22), some (.int ((10 * x3) + s.2.2)), some (.int (zf_abs ((gI h (22 + 6) j3) - (gI h (22 + 6) j4)))), some (.int x3), some (.int s.2.2), some (.int (zf_abs ((gI h (22 + 6) j3) - (gI h (22 + 6) j4))))], [], zhp h)) rfl ?_
        cases hv6
        exact kv6
theorem t_qLk_closest_b20 {Ls : Nat} {xs : Nat → Int32} {d : Nat} {oc : Nat} {x3 : Int32} {h : zK} {r : zA} (ho : oc = 7 ∨ oc = 22) {t : Int32 × Int32} (K : ∀ (z4 : Option Value) (z5 : Option Value), zEv (zXs Ls xs) d zm_277 (71, [some (.ref oc), some (.int t.1), some (.int t.2), some (.int x3), z4, z5], [], zhp h) r) (n : Nat) (s : Int32 × Int32 × Int32) (H : zloop (qLk_closest_b20 oc x3 h) n s = some t) (y5 : Option Value) : zEv (zXs Ls xs) d zm_277 (20, [some (.ref oc), some (.int s.1), some (.int s.2.1), some (.int x3), some (.int s.2.2), y5], [], zhp h) r := by
  have Z := zloop_P (P := fun s => ∀ (y5 : Option Value), zEv (zXs Ls xs) d zm_277 (20, [some (.ref oc), some (.int s.1), some (.int s.2.1), some (.int x3), some (.int s.2.2), y5], [], zhp h) r) (b := qLk_closest_b20 oc x3 h) (t := t) (fun s s2 hb hk => by intro y5; exact t_qLk_closest_b20b ho hb hk y5) (fun s hb => by intro y5; exact t_qLk_closest_b20b ho hb K y5) n s H
  exact Z y5
def qLk_closest_b7 (oc : Nat) (h : zK) (s : Int32 × Int32 × Int32) : Option ((Int32 × Int32 × Int32) ⊕ (Int32)) :=
  if (gI h oc 2) ≤ s.2.2 then
    some (.inr s.1)
  else
    (zloop (qLk_closest_b20 oc s.2.2 h) zfu (s.1, s.2.1, s.2.2 + 1)).bind fun t7 =>
    some (.inl (t7.1, t7.2, s.2.2 + 1))
theorem t_qLk_closest_b7b {Ls : Nat} {xs : Nat → Int32} {d : Nat} {oc : Nat} {h : zK} {r : zA} {s : Int32 × Int32 × Int32} {e : (Int32 × Int32 × Int32) ⊕ (Int32)} (ho : oc = 7 ∨ oc = 22) (H : qLk_closest_b7 oc h s = some e) (K : match (generalizing := false) e with | .inl s' => ∀ (z4 : Option Value) (z5 : Option Value), zEv (zXs Ls xs) d zm_277 (7, [some (.ref oc), some (.int s'.1), some (.int s'.2.1), some (.int s'.2.2), z4, z5], [], zhp h) r | .inr v => ∀ (z2 : Option Value) (z3 : Option Value) (z4 : Option Value) (z5 : Option Value), zEv (zXs Ls xs) d zm_277 (77, [some (.ref oc), some (.int v), z2, z3, z4, z5], [], zhp h) r) (y4 : Option Value) (y5 : Option Value) : zEv (zXs Ls xs) d zm_277 (7, [some (.ref oc), some (.int s.1), some (.int s.2.1), some (.int s.2.2), y4, y5], [], zhp h) r := by
  unfold qLk_closest_b7 at H
  rcases ho with rfl | rfl
  · refine zEv_k 4 (f' := (if (gI h 7 2) ≤ s.2.2 then 77 else 15, [some (.ref 7), some (.int s.1), some (.int s.2.1), some (.int s.2.2), y4, y5], [], zhp h)) rfl (zEv_if (fun c1 => ?_) (fun c1 => ?_))
    · replace H := zif_t c1 H
      cases H
      exact K _ _ _ _
    · replace H := zif_f c1 H
      refine zEv_k 4 (f' := (20, [some (.ref 7), some (.int s.1), some (.int s.2.1), some (.int s.2.2), some (.int (s.2.2 + 1)), y5], [], zhp h)) rfl ?_
      obtain ⟨t7, ht7, H⟩ := zbs H
      refine t_qLk_closest_b20 (oc := 7) (x3 := s.2.2) (h := h) (by decide) ?_ zfu _ ht7 _
      intro y4 y5
      refine zEv_k 2 (f' := (7, [some (.ref 7), some (.int t7.1), some (.int t7.2), some (.int (s.2.2 + 1)), y4, y5], [], zhp h)) rfl ?_
      cases H
      exact K _ _
  · refine zEv_k 4 (f' := (if (gI h 22 2) ≤ s.2.2 then 77 else 15, [some (.ref 22), some (.int s.1), some (.int s.2.1), some (.int s.2.2), y4, y5], [], zhp h)) rfl (zEv_if (fun c1 => ?_) (fun c1 => ?_))
    · replace H := zif_t c1 H
      cases H
      exact K _ _ _ _
    · replace H := zif_f c1 H
      refine zEv_k 4 (f' := (20, [some (.ref 22), some (.int s.1), some (.int s.2.1), some (.int s.2.2), some (.int (s.2.2 + 1)), y5], [], zhp h)) rfl ?_
      obtain ⟨t7, ht7, H⟩ := zbs H
      refine t_qLk_closest_b20 (oc := 22) (x3 := s.2.2) (h := h) (by decide) ?_ zfu _ ht7 _
      intro y4 y5
      refine zEv_k 2 (f' := (7, [some (.ref 22), some (.int t7.1), some (.int t7.2), some (.int (s.2.2 + 1)), y4, y5], [], zhp h)) rfl ?_
      cases H
      exact K _ _
theorem t_qLk_closest_b7 {Ls : Nat} {xs : Nat → Int32} {d : Nat} {oc : Nat} {h : zK} {r : zA} (ho : oc = 7 ∨ oc = 22) {t : Int32} (K : ∀ (z2 : Option Value) (z3 : Option Value) (z4 : Option Value) (z5 : Option Value), zEv (zXs Ls xs) d zm_277 (77, [some (.ref oc), some (.int t), z2, z3, z4, z5], [], zhp h) r) (n : Nat) (s : Int32 × Int32 × Int32) (H : zloop (qLk_closest_b7 oc h) n s = some t) (y4 : Option Value) (y5 : Option Value) : zEv (zXs Ls xs) d zm_277 (7, [some (.ref oc), some (.int s.1), some (.int s.2.1), some (.int s.2.2), y4, y5], [], zhp h) r := by
  have Z := zloop_P (P := fun s => ∀ (y4 : Option Value) (y5 : Option Value), zEv (zXs Ls xs) d zm_277 (7, [some (.ref oc), some (.int s.1), some (.int s.2.1), some (.int s.2.2), y4, y5], [], zhp h) r) (b := qLk_closest_b7 oc h) (t := t) (fun s s2 hb hk => by intro y4 y5; exact t_qLk_closest_b7b ho hb hk y4 y5) (fun s hb => by intro y4 y5; exact t_qLk_closest_b7b ho hb K y4 y5) n s H
  exact Z y4 y5
def qLk_closest (oc : Nat) (h : zK) : Option (Int32) :=
  (zloop (qLk_closest_b7 oc h) zfu (-1, 21, 0)).bind fun t9 =>
  some t9
theorem t_qLk_closest {Ls : Nat} {xs : Nat → Int32} {d : Nat} {oc : Nat} {h : zK} {p : Int32} (ho : oc = 7 ∨ oc = 22) (H : qLk_closest oc h = some p) : zEv (zXs Ls xs) d zm_277 (0, [some (.ref oc), none, none, none, none, none], [], zhp h) (some (.int p), zhp h) := by
  unfold qLk_closest at H
  rcases ho with rfl | rfl
  · refine zEv_k 6 (f' := (7, [some (.ref 7), some (.int (-1)), some (.int 21), some (.int 0), none, none], [], zhp h)) rfl ?_
    obtain ⟨t9, ht9, H⟩ := zbs H
    refine t_qLk_closest_b7 (oc := 7) (h := h) (by decide) ?_ zfu _ ht9 _ _
    intro y2 y3 y4 y5
    refine zEv_k 1 (f' := (78, [some (.ref 7), some (.int t9), y2, y3, y4, y5], [.int t9], zhp h)) rfl ?_
    cases H
    exact zEv_r rfl
  · refine zEv_k 6 (f' := (7, [some (.ref 22), some (.int (-1)), some (.int 21), some (.int 0), none, none], [], zhp h)) rfl ?_
    obtain ⟨t9, ht9, H⟩ := zbs H
    refine t_qLk_closest_b7 (oc := 22) (h := h) (by decide) ?_ zfu _ ht9 _ _
    intro y2 y3 y4 y5
    refine zEv_k 1 (f' := (78, [some (.ref 22), some (.int t9), y2, y3, y4, y5], [.int t9], zhp h)) rfl ?_
    cases H
    exact zEv_r rfl
def qLk_closestGap (oc : Nat) (h : zK) : Option (Int32) :=
  (qLk_closest oc h).bind fun p1 =>
  if ¬ p1 = (-1) then
    (zix (p1 / 10) 7).bind fun j3 =>
    (zix (p1 - p1 / 10 * 10) 7).bind fun j4 =>
    some (zf_abs ((gI h (oc + 6) j3) - (gI h (oc + 6) j4)))
  else
    some 0
theorem t_qLk_closestGap {Ls : Nat} {xs : Nat → Int32} {d : Nat} {oc : Nat} {h : zK} {p : Int32} (ho : oc = 7 ∨ oc = 22) (H : qLk_closestGap oc h = some p) : zEv (zXs Ls xs) (d + 1) zm_278 (0, [some (.ref oc), none], [], zhp h) (some (.int p), zhp h) := by
  unfold qLk_closestGap at H
  rcases ho with rfl | rfl
  · refine zEv_k 1 (f' := (1, [some (.ref 7), none], [.ref 7], zhp h)) rfl ?_
    obtain ⟨p1, hp1, H⟩ := zbs H
    refine zEv_c (fun _ => rfl) rfl (t_qLk_closest (oc := 7) (h := h) (d := d) (by decide) hp1) rfl rfl ?_
    refine zEv_k 4 (f' := (if ¬ p1 = (-1) then 14 else 10, [some (.ref 7), some (.int p1)], [], zhp h)) rfl (zEv_if (fun c2 => ?_) (fun c2 => ?_))
    · replace H := zif_t c2 H
      refine zEv_k 1 (f' := (15, [some (.ref 7), some (.int p1)], [.ref 7], zhp h)) rfl ?_
      refine zRgr rfl rfl rfl (by decide) (b := 7 + 6) rfl ?_
      refine zEv_k 2 (f' := (21, [some (.ref 7), some (.int p1)], [.int 10, .int p1, .ref (7 + 6)], zhp h)) rfl ?_
      refine zEv_div rfl (by decide) ?_
      obtain ⟨j3, hj3, H⟩ := zbs H
      refine zRia rfl rfl (by decide) hj3 ?_
      refine zEv_k 1 (f' := (24, [some (.ref 7), some (.int p1)], [.ref 7, .int (gI h (7 + 6) j3)], zhp h)) rfl ?_
      refine zRgr rfl rfl rfl (by decide) (b := 7 + 6) rfl ?_
      refine zEv_k 2 (f' := (30, [some (.ref 7), some (.int p1)], [.int 10, .int p1, .ref (7 + 6), .int (gI h (7 + 6) j3)], zhp h)) rfl ?_
      refine zEv_rem rfl (by decide) ?_
      obtain ⟨j4, hj4, H⟩ := zbs H
      refine zRia rfl rfl (by decide) hj4 ?_
      refine zEv_k 2 (f' := (36, [some (.ref 7), some (.int p1)], [.int (zf_abs ((gI h (7 + 6) j3) - (gI h (7 + 6) j4)))], zhp h)) rfl ?_
      cases H
      exact zEv_r rfl
    · replace H := zif_f c2 H
      refine zEv_k 2 (f' := (36, [some (.ref 7), some (.int p1)], [.int 0], zhp h)) rfl ?_
      cases H
      exact zEv_r rfl
  · refine zEv_k 1 (f' := (1, [some (.ref 22), none], [.ref 22], zhp h)) rfl ?_
    obtain ⟨p1, hp1, H⟩ := zbs H
    refine zEv_c (fun _ => rfl) rfl (t_qLk_closest (oc := 22) (h := h) (d := d) (by decide) hp1) rfl rfl ?_
    refine zEv_k 4 (f' := (if ¬ p1 = (-1) then 14 else 10, [some (.ref 22), some (.int p1)], [], zhp h)) rfl (zEv_if (fun c2 => ?_) (fun c2 => ?_))
    · replace H := zif_t c2 H
      refine zEv_k 1 (f' := (15, [some (.ref 22), some (.int p1)], [.ref 22], zhp h)) rfl ?_
      refine zRgr rfl rfl rfl (by decide) (b := 22 + 6) rfl ?_
      refine zEv_k 2 (f' := (21, [some (.ref 22), some (.int p1)], [.int 10, .int p1, .ref (22 + 6)], zhp h)) rfl ?_
      refine zEv_div rfl (by decide) ?_
      obtain ⟨j3, hj3, H⟩ := zbs H
      refine zRia rfl rfl (by decide) hj3 ?_
      refine zEv_k 1 (f' := (24, [some (.ref 22), some (.int p1)], [.ref 22, .int (gI h (22 + 6) j3)], zhp h)) rfl ?_
      refine zRgr rfl rfl rfl (by decide) (b := 22 + 6) rfl ?_
      refine zEv_k 2 (f' := (30, [some (.ref 22), some (.int p1)], [.int 10, .int p1, .ref (22 + 6), .int (gI h (22 + 6) j3)], zhp h)) rfl ?_
      refine zEv_rem rfl (by decide) ?_
      obtain ⟨j4, hj4, H⟩ := zbs H
      refine zRia rfl rfl (by decide) hj4 ?_
      refine zEv_k 2 (f' := (36, [some (.ref 22), some (.int p1)], [.int (zf_abs ((gI h (22 + 6) j3) - (gI h (22 + 6) j4)))], zhp h)) rfl ?_
      cases H
      exact zEv_r rfl
    · replace H := zif_f c2 H
      refine zEv_k 2 (f' := (36, [some (.ref 22), some (.int p1)], [.int 0], zhp h)) rfl ?_
      cases H
      exact zEv_r rfl
def qLk_goodYear_b8 (oc : Nat) (x1 : Int32) (h : zK) (s : Int32) : Option ((Int32) ⊕ ((Unit) ⊕ (Int32))) :=
  if 50 < s then
    some (.inr (.inl ()))
  else
    (qLk_witOfAll oc s h).bind fun p3 =>
    if x1 ≤ (2 * p3) then
      some (.inl (s + 1))
    else
      some (.inr (.inr s))
theorem t_qLk_goodYear_b8b {Ls : Nat} {xs : Nat → Int32} {d : Nat} {oc : Nat} {x1 : Int32} {h : zK} {r : zA} {s : Int32} {e : (Int32) ⊕ ((Unit) ⊕ (Int32))} (ho : oc = 7 ∨ oc = 22) (H : qLk_goodYear_b8 oc x1 h s = some e) (K : match (generalizing := false) e with | .inl s' => zEv (zXs Ls xs) (d + 2) zm_276 (8, [some (.ref oc), some (.int x1), some (.int s')], [], zhp h) r | .inr (.inl v) => ∀ (z2 : Option Value), zEv (zXs Ls xs) (d + 2) zm_276 (33, [some (.ref oc), some (.int x1), z2], [], zhp h) r | .inr (.inr p) => (some (.int p), zhp h) = r) : zEv (zXs Ls xs) (d + 2) zm_276 (8, [some (.ref oc), some (.int x1), some (.int s)], [], zhp h) r := by
  unfold qLk_goodYear_b8 at H
  rcases ho with rfl | rfl
  · refine zEv_k 3 (f' := (if 50 < s then 33 else 14, [some (.ref 7), some (.int x1), some (.int s)], [], zhp h)) rfl (zEv_if (fun c2 => ?_) (fun c2 => ?_))
    · replace H := zif_t c2 H
      cases H
      exact K _
    · replace H := zif_f c2 H
      refine zEv_k 3 (f' := (17, [some (.ref 7), some (.int x1), some (.int s)], [.int s, .ref 7, .int 2], zhp h)) rfl ?_
      obtain ⟨p3, hp3, H⟩ := zbs H
      refine zEv_c (fun _ => rfl) rfl (t_qLk_witOfAll (oc := 7) (x1 := s) (h := h) (d := d) (by decide) hp3) rfl rfl ?_
      refine zEv_k 3 (f' := (if x1 ≤ (2 * p3) then 27 else 25, [some (.ref 7), some (.int x1), some (.int s)], [], zhp h)) rfl (zEv_if (fun c4 => ?_) (fun c4 => ?_))
      · replace H := zif_t c4 H
        refine zEv_k 2 (f' := (8, [some (.ref 7), some (.int x1), some (.int (s + 1))], [], zhp h)) rfl ?_
        cases H
        exact K
      · replace H := zif_f c4 H
        refine zEv_k 1 (f' := (26, [some (.ref 7), some (.int x1), some (.int s)], [.int s], zhp h)) rfl ?_
        cases H
        exact zEv_re K rfl
  · refine zEv_k 3 (f' := (if 50 < s then 33 else 14, [some (.ref 22), some (.int x1), some (.int s)], [], zhp h)) rfl (zEv_if (fun c2 => ?_) (fun c2 => ?_))
    · replace H := zif_t c2 H
      cases H
      exact K _
    · replace H := zif_f c2 H
      refine zEv_k 3 (f' := (17, [some (.ref 22), some (.int x1), some (.int s)], [.int s, .ref 22, .int 2], zhp h)) rfl ?_
      obtain ⟨p3, hp3, H⟩ := zbs H
      refine zEv_c (fun _ => rfl) rfl (t_qLk_witOfAll (oc := 22) (x1 := s) (h := h) (d := d) (by decide) hp3) rfl rfl ?_
      refine zEv_k 3 (f' := (if x1 ≤ (2 * p3) then 27 else 25, [some (.ref 22), some (.int x1), some (.int s)], [], zhp h)) rfl (zEv_if (fun c4 => ?_) (fun c4 => ?_))
      · replace H := zif_t c4 H
        refine zEv_k 2 (f' := (8, [some (.ref 22), some (.int x1), some (.int (s + 1))], [], zhp h)) rfl ?_
        cases H
        exact K
      · replace H := zif_f c4 H
        refine zEv_k 1 (f' := (26, [some (.ref 22), some (.int x1), some (.int s)], [.int s], zhp h)) rfl ?_
        cases H
        exact zEv_re K rfl
theorem t_qLk_goodYear_b8 {Ls : Nat} {xs : Nat → Int32} {d : Nat} {oc : Nat} {x1 : Int32} {h : zK} {r : zA} (ho : oc = 7 ∨ oc = 22) {t : (Unit) ⊕ (Int32)} (K : (match (generalizing := false) t with | .inl v => ∀ (z2 : Option Value), zEv (zXs Ls xs) (d + 2) zm_276 (33, [some (.ref oc), some (.int x1), z2], [], zhp h) r | .inr p => (some (.int p), zhp h) = r)) (n : Nat) (s : Int32) (H : zloop (qLk_goodYear_b8 oc x1 h) n s = some t) : zEv (zXs Ls xs) (d + 2) zm_276 (8, [some (.ref oc), some (.int x1), some (.int s)], [], zhp h) r := by
  have Z := zloop_P (P := fun s => zEv (zXs Ls xs) (d + 2) zm_276 (8, [some (.ref oc), some (.int x1), some (.int s)], [], zhp h) r) (b := qLk_goodYear_b8 oc x1 h) (t := t) (fun s s2 hb hk => by exact t_qLk_goodYear_b8b ho hb hk) (fun s hb => by rcases t with v | p <;> (exact t_qLk_goodYear_b8b ho hb K)) n s H
  exact Z
def qLk_goodYear (oc : Nat) (h : zK) : Option (Int32) :=
  (qLk_witOfAll oc 0 h).bind fun p1 =>
  (zloop (qLk_goodYear_b8 oc p1 h) zfu 0).bind fun t5 => match t5 with
  | .inr p => some p
  | .inl v6 =>
    some (-1)
theorem t_qLk_goodYear {Ls : Nat} {xs : Nat → Int32} {d : Nat} {oc : Nat} {h : zK} {p : Int32} (ho : oc = 7 ∨ oc = 22) (H : qLk_goodYear oc h = some p) : zEv (zXs Ls xs) (d + 2) zm_276 (0, [some (.ref oc), none, none], [], zhp h) (some (.int p), zhp h) := by
  unfold qLk_goodYear at H
  rcases ho with rfl | rfl
  · refine zEv_k 2 (f' := (2, [some (.ref 7), none, none], [.int 0, .ref 7], zhp h)) rfl ?_
    obtain ⟨p1, hp1, H⟩ := zbs H
    refine zEv_c (fun _ => rfl) rfl (t_qLk_witOfAll (oc := 7) (x1 := 0) (h := h) (d := d) (by decide) hp1) rfl rfl ?_
    refine zEv_k 3 (f' := (8, [some (.ref 7), some (.int p1), some (.int 0)], [], zhp h)) rfl ?_
    obtain ⟨t5, ht5, H⟩ := zbs H
    refine t_qLk_goodYear_b8 (oc := 7) (x1 := p1) (h := h) (by decide) ?_ zfu _ ht5
    rcases t5 with v6 | p
    · intro y2
      dsimp only at H
      refine zEv_k 1 (f' := (34, [some (.ref 7), some (.int p1), y2], [.int (-1)], zhp h)) rfl ?_
      cases H
      exact zEv_r rfl
    · cases H
      exact rfl
  · refine zEv_k 2 (f' := (2, [some (.ref 22), none, none], [.int 0, .ref 22], zhp h)) rfl ?_
    obtain ⟨p1, hp1, H⟩ := zbs H
    refine zEv_c (fun _ => rfl) rfl (t_qLk_witOfAll (oc := 22) (x1 := 0) (h := h) (d := d) (by decide) hp1) rfl rfl ?_
    refine zEv_k 3 (f' := (8, [some (.ref 22), some (.int p1), some (.int 0)], [], zhp h)) rfl ?_
    obtain ⟨t5, ht5, H⟩ := zbs H
    refine t_qLk_goodYear_b8 (oc := 22) (x1 := p1) (h := h) (by decide) ?_ zfu _ ht5
    rcases t5 with v6 | p
    · intro y2
      dsimp only at H
      refine zEv_k 1 (f' := (34, [some (.ref 22), some (.int p1), y2], [.int (-1)], zhp h)) rfl ?_
      cases H
      exact zEv_r rfl
    · cases H
      exact rfl
def qLk_mute_b4 (oc : Nat) (h : zK) (s : Int32 × Int32) : Option ((Int32 × Int32) ⊕ (Int32)) :=
  if (gI h oc 2) ≤ s.2 then
    some (.inr s.1)
  else
    (zix s.2 7).bind fun j2 =>
    zlet (
        if (gI h (oc + 7) j2) = 0 then
          s.1
        else
          s.1 ||| ((gI h (oc + 7) j2) ||| ((1 : Int32) <<< (s.2 &&& 31)))
      ) fun (v4 : Int32) =>
    some (.inl (v4, s.2 + 1))
theorem t_qLk_mute_b4b {Ls : Nat} {xs : Nat → Int32} {d : Nat} {oc : Nat} {h : zK} {r : zA} {s : Int32 × Int32} {e : (Int32 × Int32) ⊕ (Int32)} (ho : oc = 7 ∨ oc = 22) (H : qLk_mute_b4 oc h s = some e) (K : match (generalizing := false) e with | .inl s' => zEv (zXs Ls xs) (d + 1) zm_281 (4, [some (.ref oc), some (.int s'.1), some (.int s'.2)], [], zhp h) r | .inr v => ∀ (z2 : Option Value), zEv (zXs Ls xs) (d + 1) zm_281 (40, [some (.ref oc), some (.int v), z2], [], zhp h) r) : zEv (zXs Ls xs) (d + 1) zm_281 (4, [some (.ref oc), some (.int s.1), some (.int s.2)], [], zhp h) r := by
  unfold qLk_mute_b4 at H
  rcases ho with rfl | rfl
  · refine zEv_k 4 (f' := (if (gI h 7 2) ≤ s.2 then 40 else 12, [some (.ref 7), some (.int s.1), some (.int s.2)], [], zhp h)) rfl (zEv_if (fun c1 => ?_) (fun c1 => ?_))
    · replace H := zif_t c1 H
      cases H
      exact K _
    · replace H := zif_f c1 H
      refine zEv_k 1 (f' := (13, [some (.ref 7), some (.int s.1), some (.int s.2)], [.ref 7], zhp h)) rfl ?_
      refine zRgr rfl rfl rfl (by decide) (b := 7 + 7) rfl ?_
      refine zEv_k 1 (f' := (17, [some (.ref 7), some (.int s.1), some (.int s.2)], [.int s.2, .ref (7 + 7)], zhp h)) rfl ?_
      obtain ⟨j2, hj2, H⟩ := zbs H
      refine zRia rfl rfl (by decide) hj2 ?_
      obtain ⟨v4, hv4, H⟩ := zlets H
      have kv4 : zEv (zXs Ls xs) (d + 1) zm_281 (34, [some (.ref 7), some (.int v4), some (.int s.2)], [], zhp h) r := by
        refine zEv_k 2 (f' := (4, [some (.ref 7), some (.int v4), some (.int (s.2 + 1))], [], zhp h)) rfl ?_
        cases H
        exact K
      clear H
      refine zEv_k 1 (f' := (if (gI h (7 + 7) j2) = 0 then 34 else 21, [some (.ref 7), some (.int s.1), some (.int s.2)], [], zhp h)) rfl (zEv_if (fun c3 => ?_) (fun c3 => ?_))
      · replace hv4 := zif_t c3 hv4
        cases hv4
        exact kv4
      · replace hv4 := zif_f c3 hv4
        refine zEv_k 2 (f' := (23, [some (.ref 7), some (.int s.1), some (.int s.2)], [.ref 7, .int s.1], zhp h)) rfl ?_
        refine zRgr rfl rfl rfl (by decide) (b := 7 + 7) rfl ?_
        refine zEv_k 1 (f' := (27, [some (.ref 7), some (.int s.1), some (.int s.2)], [.int s.2, .ref (7 + 7), .int s.1], zhp h)) rfl ?_
        refine zRia rfl rfl (by decide) hj2 ?_
        refine zEv_k 6 (f' := (34, [some (.ref 7), some (.int (s.1 ||| ((gI h (7 + 7) j2) ||| ((1 : Int32) <<< (s.2 &&& 31))))), some (.int s.2)], [], zhp h)) rfl ?_
        cases hv4
        exact kv4
  · refine zEv_k 4 (f' := (if (gI h 22 2) ≤ s.2 then 40 else 12, [some (.ref 22), some (.int s.1), some (.int s.2)], [], zhp h)) rfl (zEv_if (fun c1 => ?_) (fun c1 => ?_))
    · replace H := zif_t c1 H
      cases H
      exact K _
    · replace H := zif_f c1 H
      refine zEv_k 1 (f' := (13, [some (.ref 22), some (.int s.1), some (.int s.2)], [.ref 22], zhp h)) rfl ?_
      refine zRgr rfl rfl rfl (by decide) (b := 22 + 7) rfl ?_
      refine zEv_k 1 (f' := (17, [some (.ref 22), some (.int s.1), some (.int s.2)], [.int s.2, .ref (22 + 7)], zhp h)) rfl ?_
      obtain ⟨j2, hj2, H⟩ := zbs H
      refine zRia rfl rfl (by decide) hj2 ?_
      obtain ⟨v4, hv4, H⟩ := zlets H
      have kv4 : zEv (zXs Ls xs) (d + 1) zm_281 (34, [some (.ref 22), some (.int v4), some (.int s.2)], [], zhp h) r := by
        refine zEv_k 2 (f' := (4, [some (.ref 22), some (.int v4), some (.int (s.2 + 1))], [], zhp h)) rfl ?_
        cases H
        exact K
      clear H
      refine zEv_k 1 (f' := (if (gI h (22 + 7) j2) = 0 then 34 else 21, [some (.ref 22), some (.int s.1), some (.int s.2)], [], zhp h)) rfl (zEv_if (fun c3 => ?_) (fun c3 => ?_))
      · replace hv4 := zif_t c3 hv4
        cases hv4
        exact kv4
      · replace hv4 := zif_f c3 hv4
        refine zEv_k 2 (f' := (23, [some (.ref 22), some (.int s.1), some (.int s.2)], [.ref 22, .int s.1], zhp h)) rfl ?_
        refine zRgr rfl rfl rfl (by decide) (b := 22 + 7) rfl ?_
        refine zEv_k 1 (f' := (27, [some (.ref 22), some (.int s.1), some (.int s.2)], [.int s.2, .ref (22 + 7), .int s.1], zhp h)) rfl ?_
        refine zRia rfl rfl (by decide) hj2 ?_
        refine zEv_k 6 (f' := (34, [some (.ref 22), some (.int (s.1 ||| ((gI h (22 + 7) j2) ||| ((1 : Int32) <<< (s.2 &&& 31))))), some (.int s.2)], [], zhp h)) rfl ?_
        cases hv4
        exact kv4
theorem t_qLk_mute_b4 {Ls : Nat} {xs : Nat → Int32} {d : Nat} {oc : Nat} {h : zK} {r : zA} (ho : oc = 7 ∨ oc = 22) {t : Int32} (K : ∀ (z2 : Option Value), zEv (zXs Ls xs) (d + 1) zm_281 (40, [some (.ref oc), some (.int t), z2], [], zhp h) r) (n : Nat) (s : Int32 × Int32) (H : zloop (qLk_mute_b4 oc h) n s = some t) : zEv (zXs Ls xs) (d + 1) zm_281 (4, [some (.ref oc), some (.int s.1), some (.int s.2)], [], zhp h) r := by
  have Z := zloop_P (P := fun s => zEv (zXs Ls xs) (d + 1) zm_281 (4, [some (.ref oc), some (.int s.1), some (.int s.2)], [], zhp h) r) (b := qLk_mute_b4 oc h) (t := t) (fun s s2 hb hk => by exact t_qLk_mute_b4b ho hb hk) (fun s hb => by exact t_qLk_mute_b4b ho hb K) n s H
  exact Z
def qLk_mute (oc : Nat) (h : zK) : Option (Int32) :=
  (zloop (qLk_mute_b4 oc h) zfu (0, 0)).bind fun t5 =>
  some ((qCe_all oc h) &&& (t5 ^^^ (-1)))
theorem t_qLk_mute {Ls : Nat} {xs : Nat → Int32} {d : Nat} {oc : Nat} {h : zK} {p : Int32} (ho : oc = 7 ∨ oc = 22) (H : qLk_mute oc h = some p) : zEv (zXs Ls xs) (d + 1) zm_281 (0, [some (.ref oc), none, none], [], zhp h) (some (.int p), zhp h) := by
  unfold qLk_mute at H
  rcases ho with rfl | rfl
  · refine zEv_k 4 (f' := (4, [some (.ref 7), some (.int 0), some (.int 0)], [], zhp h)) rfl ?_
    obtain ⟨t5, ht5, H⟩ := zbs H
    refine t_qLk_mute_b4 (oc := 7) (h := h) (by decide) ?_ zfu _ ht5
    intro y2
    refine zEv_k 1 (f' := (41, [some (.ref 7), some (.int t5), y2], [.ref 7], zhp h)) rfl ?_
    refine zEv_c (fun _ => rfl) rfl (t_qCe_all (oo := 7) (h := h) (d := d) (by decide) rfl) rfl rfl ?_
    refine zEv_k 4 (f' := (48, [some (.ref 7), some (.int t5), y2], [.int ((qCe_all 7 h) &&& (t5 ^^^ (-1)))], zhp h)) rfl ?_
    cases H
    exact zEv_r rfl
  · refine zEv_k 4 (f' := (4, [some (.ref 22), some (.int 0), some (.int 0)], [], zhp h)) rfl ?_
    obtain ⟨t5, ht5, H⟩ := zbs H
    refine t_qLk_mute_b4 (oc := 22) (h := h) (by decide) ?_ zfu _ ht5
    intro y2
    refine zEv_k 1 (f' := (41, [some (.ref 22), some (.int t5), y2], [.ref 22], zhp h)) rfl ?_
    refine zEv_c (fun _ => rfl) rfl (t_qCe_all (oo := 22) (h := h) (d := d) (by decide) rfl) rfl rfl ?_
    refine zEv_k 4 (f' := (48, [some (.ref 22), some (.int t5), y2], [.int ((qCe_all 22 h) &&& (t5 ^^^ (-1)))], zhp h)) rfl ?_
    cases H
    exact zEv_r rfl
def qLk_answeredBy_b4 (oc : Nat) (x1 : Int32) (h : zK) (s : Int32 × Int32) : Option ((Int32 × Int32) ⊕ (Int32)) :=
  if (gI h oc 2) ≤ s.2 then
    some (.inr s.1)
  else
    Option.bind (
        if (zf_cin x1 s.2) = 0 then
          some s.1
        else
          (zix s.2 7).bind fun j4 =>
          some (s.1 ||| (gI h (oc + 7) j4))
      ) fun (v3 : Int32) =>
    some (.inl (v3, s.2 + 1))
theorem t_qLk_answeredBy_b4b {Ls : Nat} {xs : Nat → Int32} {d : Nat} {oc : Nat} {x1 : Int32} {h : zK} {r : zA} {s : Int32 × Int32} {e : (Int32 × Int32) ⊕ (Int32)} (ho : oc = 7 ∨ oc = 22) (H : qLk_answeredBy_b4 oc x1 h s = some e) (K : match (generalizing := false) e with | .inl s' => zEv (zXs Ls xs) (d + 1) zm_283 (4, [some (.ref oc), some (.int x1), some (.int s'.1), some (.int s'.2)], [], zhp h) r | .inr v => ∀ (z3 : Option Value), zEv (zXs Ls xs) (d + 1) zm_283 (35, [some (.ref oc), some (.int x1), some (.int v), z3], [], zhp h) r) : zEv (zXs Ls xs) (d + 1) zm_283 (4, [some (.ref oc), some (.int x1), some (.int s.1), some (.int s.2)], [], zhp h) r := by
  unfold qLk_answeredBy_b4 at H
  rcases ho with rfl | rfl
  · refine zEv_k 4 (f' := (if (gI h 7 2) ≤ s.2 then 35 else 12, [some (.ref 7), some (.int x1), some (.int s.1), some (.int s.2)], [], zhp h)) rfl (zEv_if (fun c1 => ?_) (fun c1 => ?_))
    · replace H := zif_t c1 H
      cases H
      exact K _
    · replace H := zif_f c1 H
      obtain ⟨v3, hv3, H⟩ := zbs H
      have kv3 : zEv (zXs Ls xs) (d + 1) zm_283 (29, [some (.ref 7), some (.int x1), some (.int v3), some (.int s.2)], [], zhp h) r := by
        refine zEv_k 2 (f' := (4, [some (.ref 7), some (.int x1), some (.int v3), some (.int (s.2 + 1))], [], zhp h)) rfl ?_
        cases H
        exact K
      clear H
      refine zEv_k 2 (f' := (14, [some (.ref 7), some (.int x1), some (.int s.1), some (.int s.2)], [.int s.2, .int x1], zhp h)) rfl ?_
      refine zEv_c (fun _ => rfl) rfl ev_zf_cin rfl rfl ?_
      refine zEv_k 1 (f' := (if (zf_cin x1 s.2) = 0 then 29 else 20, [some (.ref 7), some (.int x1), some (.int s.1), some (.int s.2)], [], zhp h)) rfl (zEv_if (fun c2 => ?_) (fun c2 => ?_))
      · replace hv3 := zif_t c2 hv3
        cases hv3
        exact kv3
      · replace hv3 := zif_f c2 hv3
        refine zEv_k 2 (f' := (22, [some (.ref 7), some (.int x1), some (.int s.1), some (.int s.2)], [.ref 7, .int s.1], zhp h)) rfl ?_
        refine zRgr rfl rfl rfl (by decide) (b := 7 + 7) rfl ?_
        refine zEv_k 1 (f' := (26, [some (.ref 7), some (.int x1), some (.int s.1), some (.int s.2)], [.int s.2, .ref (7 + 7), .int s.1], zhp h)) rfl ?_
        obtain ⟨j4, hj4, hv3⟩ := zbs hv3
        refine zRia rfl rfl (by decide) hj4 ?_
        refine zEv_k 2 (f' := (29, [some (.ref 7), some (.int x1), some (.int (s.1 ||| (gI h (7 + 7) j4))), some (.int s.2)], [], zhp h)) rfl ?_
        cases hv3
        exact kv3
  · refine zEv_k 4 (f' := (if (gI h 22 2) ≤ s.2 then 35 else 12, [some (.ref 22), some (.int x1), some (.int s.1), some (.int s.2)], [], zhp h)) rfl (zEv_if (fun c1 => ?_) (fun c1 => ?_))
    · replace H := zif_t c1 H
      cases H
      exact K _
    · replace H := zif_f c1 H
      obtain ⟨v3, hv3, H⟩ := zbs H
      have kv3 : zEv (zXs Ls xs) (d + 1) zm_283 (29, [some (.ref 22), some (.int x1), some (.int v3), some (.int s.2)], [], zhp h) r := by
        refine zEv_k 2 (f' := (4, [some (.ref 22), some (.int x1), some (.int v3), some (.int (s.2 + 1))], [], zhp h)) rfl ?_
        cases H
        exact K
      clear H
      refine zEv_k 2 (f' := (14, [some (.ref 22), some (.int x1), some (.int s.1), some (.int s.2)], [.int s.2, .int x1], zhp h)) rfl ?_
      refine zEv_c (fun _ => rfl) rfl ev_zf_cin rfl rfl ?_
      refine zEv_k 1 (f' := (if (zf_cin x1 s.2) = 0 then 29 else 20, [some (.ref 22), some (.int x1), some (.int s.1), some (.int s.2)], [], zhp h)) rfl (zEv_if (fun c2 => ?_) (fun c2 => ?_))
      · replace hv3 := zif_t c2 hv3
        cases hv3
        exact kv3
      · replace hv3 := zif_f c2 hv3
        refine zEv_k 2 (f' := (22, [some (.ref 22), some (.int x1), some (.int s.1), some (.int s.2)], [.ref 22, .int s.1], zhp h)) rfl ?_
        refine zRgr rfl rfl rfl (by decide) (b := 22 + 7) rfl ?_
        refine zEv_k 1 (f' := (26, [some (.ref 22), some (.int x1), some (.int s.1), some (.int s.2)], [.int s.2, .ref (22 + 7), .int s.1], zhp h)) rfl ?_
        obtain ⟨j4, hj4, hv3⟩ := zbs hv3
        refine zRia rfl rfl (by decide) hj4 ?_
        refine zEv_k 2 (f' := (29, [some (.ref 22), some (.int x1), some (.int (s.1 ||| (gI h (22 + 7) j4))), some (.int s.2)], [], zhp h)) rfl ?_
        cases hv3
        exact kv3
theorem t_qLk_answeredBy_b4 {Ls : Nat} {xs : Nat → Int32} {d : Nat} {oc : Nat} {x1 : Int32} {h : zK} {r : zA} (ho : oc = 7 ∨ oc = 22) {t : Int32} (K : ∀ (z3 : Option Value), zEv (zXs Ls xs) (d + 1) zm_283 (35, [some (.ref oc), some (.int x1), some (.int t), z3], [], zhp h) r) (n : Nat) (s : Int32 × Int32) (H : zloop (qLk_answeredBy_b4 oc x1 h) n s = some t) : zEv (zXs Ls xs) (d + 1) zm_283 (4, [some (.ref oc), some (.int x1), some (.int s.1), some (.int s.2)], [], zhp h) r := by
  have Z := zloop_P (P := fun s => zEv (zXs Ls xs) (d + 1) zm_283 (4, [some (.ref oc), some (.int x1), some (.int s.1), some (.int s.2)], [], zhp h) r) (b := qLk_answeredBy_b4 oc x1 h) (t := t) (fun s s2 hb hk => by exact t_qLk_answeredBy_b4b ho hb hk) (fun s hb => by exact t_qLk_answeredBy_b4b ho hb K) n s H
  exact Z
def qLk_answeredBy (oc : Nat) (x1 : Int32) (h : zK) : Option (Int32) :=
  (zloop (qLk_answeredBy_b4 oc x1 h) zfu (0, 0)).bind fun t5 =>
  some t5
theorem t_qLk_answeredBy {Ls : Nat} {xs : Nat → Int32} {d : Nat} {oc : Nat} {x1 : Int32} {h : zK} {p : Int32} (ho : oc = 7 ∨ oc = 22) (H : qLk_answeredBy oc x1 h = some p) : zEv (zXs Ls xs) (d + 1) zm_283 (0, [some (.ref oc), some (.int x1), none, none], [], zhp h) (some (.int p), zhp h) := by
  unfold qLk_answeredBy at H
  rcases ho with rfl | rfl
  · refine zEv_k 4 (f' := (4, [some (.ref 7), some (.int x1), some (.int 0), some (.int 0)], [], zhp h)) rfl ?_
    obtain ⟨t5, ht5, H⟩ := zbs H
    refine t_qLk_answeredBy_b4 (oc := 7) (x1 := x1) (h := h) (by decide) ?_ zfu _ ht5
    intro y3
    refine zEv_k 1 (f' := (36, [some (.ref 7), some (.int x1), some (.int t5), y3], [.int t5], zhp h)) rfl ?_
    cases H
    exact zEv_r rfl
  · refine zEv_k 4 (f' := (4, [some (.ref 22), some (.int x1), some (.int 0), some (.int 0)], [], zhp h)) rfl ?_
    obtain ⟨t5, ht5, H⟩ := zbs H
    refine t_qLk_answeredBy_b4 (oc := 22) (x1 := x1) (h := h) (by decide) ?_ zfu _ ht5
    intro y3
    refine zEv_k 1 (f' := (36, [some (.ref 22), some (.int x1), some (.int t5), y3], [.int t5], zhp h)) rfl ?_
    cases H
    exact zEv_r rfl
def qLk_ring_b19 (oc : Nat) (x2 : Int32) (h : zK) (s : Int32 × Int32 × Int32) : Option ((Int32 × Int32 × Int32) ⊕ (Int32)) :=
  if (gI h oc 2) < s.2.2 then
    some (.inr s.1)
  else
    (qLk_answeredBy oc s.2.1 h).bind fun p3 =>
    zlet (
        if (zf_cin p3 x2) = 0 then
          s.1
        else
          if s.1 = (-1) then
            s.2.2
          else
            if s.1 ≤ s.2.2 then
              s.1
            else
              s.2.2
      ) fun (v5 : Int32) =>
    some (.inl (v5, p3, s.2.2 + 1))
theorem t_qLk_ring_b19b {Ls : Nat} {xs : Nat → Int32} {d : Nat} {oc : Nat} {x2 : Int32} {h : zK} {r : zA} {s : Int32 × Int32 × Int32} {e : (Int32 × Int32 × Int32) ⊕ (Int32)} (ho : oc = 7 ∨ oc = 22) (H : qLk_ring_b19 oc x2 h s = some e) (K : match (generalizing := false) e with | .inl s' => zEv (zXs Ls xs) (d + 2) zm_282 (19, [some (.ref oc), some (.int s'.1), some (.int x2), some (.int s'.2.1), some (.int s'.2.2)], [], zhp h) r | .inr v => ∀ (z3 : Option Value) (z4 : Option Value), zEv (zXs Ls xs) (d + 2) zm_282 (62, [some (.ref oc), some (.int v), some (.int x2), z3, z4], [], zhp h) r) : zEv (zXs Ls xs) (d + 2) zm_282 (19, [some (.ref oc), some (.int s.1), some (.int x2), some (.int s.2.1), some (.int s.2.2)], [], zhp h) r := by
  unfold qLk_ring_b19 at H
  rcases ho with rfl | rfl
  · refine zEv_k 4 (f' := (if (gI h 7 2) < s.2.2 then 62 else 28, [some (.ref 7), some (.int s.1), some (.int x2), some (.int s.2.1), some (.int s.2.2)], [], zhp h)) rfl (zEv_if (fun c2 => ?_) (fun c2 => ?_))
    · replace H := zif_t c2 H
      cases H
      exact K _ _
    · replace H := zif_f c2 H
      refine zEv_k 2 (f' := (30, [some (.ref 7), some (.int s.1), some (.int x2), some (.int s.2.1), some (.int s.2.2)], [.int s.2.1, .ref 7], zhp h)) rfl ?_
      obtain ⟨p3, hp3, H⟩ := zbs H
      refine zEv_c (fun _ => rfl) rfl (t_qLk_answeredBy (oc := 7) (x1 := s.2.1) (h := h) (d := d) (by decide) hp3) rfl rfl ?_
      obtain ⟨v5, hv5, H⟩ := zlets H
      have kv5 : zEv (zXs Ls xs) (d + 2) zm_282 (56, [some (.ref 7), some (.int v5), some (.int x2), some (.int p3), some (.int s.2.2)], [], zhp h) r := by
        refine zEv_k 2 (f' := (19, [some (.ref 7), some (.int v5), some (.int x2), some (.int p3), some (.int (s.2.2 + 1))], [], zhp h)) rfl ?_
        cases H
        exact K
      clear H
      refine zEv_k 3 (f' := (36, [some (.ref 7), some (.int s.1), some (.int x2), some (.int p3), some (.int s.2.2)], [.int x2, .int p3], zhp h)) rfl ?_
      refine zEv_c (fun _ => rfl) rfl ev_zf_cin rfl rfl ?_
      refine zEv_k 1 (f' := (if (zf_cin p3 x2) = 0 then 56 else 42, [some (.ref 7), some (.int s.1), some (.int x2), some (.int p3), some (.int s.2.2)], [], zhp h)) rfl (zEv_if (fun c4 => ?_) (fun c4 => ?_))
      · replace hv5 := zif_t c4 hv5
        cases hv5
        exact kv5
      · replace hv5 := zif_f c4 hv5
        refine zEv_k 3 (f' := (if s.1 = (-1) then 53 else 47, [some (.ref 7), some (.int s.1), some (.int x2), some (.int p3), some (.int s.2.2)], [], zhp h)) rfl (zEv_if (fun c6 => ?_) (fun c6 => ?_))
        · replace hv5 := zif_t c6 hv5
          refine zEv_k 2 (f' := (56, [some (.ref 7), some (.int s.2.2), some (.int x2), some (.int p3), some (.int s.2.2)], [], zhp h)) rfl ?_
          cases hv5
          exact kv5
        · replace hv5 := zif_f c6 hv5
          refine zEv_k 3 (f' := (if s.1 ≤ s.2.2 then 56 else 53, [some (.ref 7), some (.int s.1), some (.int x2), some (.int p3), some (.int s.2.2)], [], zhp h)) rfl (zEv_if (fun c7 => ?_) (fun c7 => ?_))
          · replace hv5 := zif_t c7 hv5
            cases hv5
            exact kv5
          · replace hv5 := zif_f c7 hv5
            refine zEv_k 2 (f' := (56, [some (.ref 7), some (.int s.2.2), some (.int x2), some (.int p3), some (.int s.2.2)], [], zhp h)) rfl ?_
            cases hv5
            exact kv5
  · refine zEv_k 4 (f' := (if (gI h 22 2) < s.2.2 then 62 else 28, [some (.ref 22), some (.int s.1), some (.int x2), some (.int s.2.1), some (.int s.2.2)], [], zhp h)) rfl (zEv_if (fun c2 => ?_) (fun c2 => ?_))
    · replace H := zif_t c2 H
      cases H
      exact K _ _
    · replace H := zif_f c2 H
      refine zEv_k 2 (f' := (30, [some (.ref 22), some (.int s.1), some (.int x2), some (.int s.2.1), some (.int s.2.2)], [.int s.2.1, .ref 22], zhp h)) rfl ?_
      obtain ⟨p3, hp3, H⟩ := zbs H
      refine zEv_c (fun _ => rfl) rfl (t_qLk_answeredBy (oc := 22) (x1 := s.2.1) (h := h) (d := d) (by decide) hp3) rfl rfl ?_
      obtain ⟨v5, hv5, H⟩ := zlets H
      have kv5 : zEv (zXs Ls xs) (d + 2) zm_282 (56, [some (.ref 22), some (.int v5), some (.int x2), some (.int p3), some (.int s.2.2)], [], zhp h) r := by
        refine zEv_k 2 (f' := (19, [some (.ref 22), some (.int v5), some (.int x2), some (.int p3), some (.int (s.2.2 + 1))], [], zhp h)) rfl ?_
        cases H
        exact K
      clear H
      refine zEv_k 3 (f' := (36, [some (.ref 22), some (.int s.1), some (.int x2), some (.int p3), some (.int s.2.2)], [.int x2, .int p3], zhp h)) rfl ?_
      refine zEv_c (fun _ => rfl) rfl ev_zf_cin rfl rfl ?_
      refine zEv_k 1 (f' := (if (zf_cin p3 x2) = 0 then 56 else 42, [some (.ref 22), some (.int s.1), some (.int x2), some (.int p3), some (.int s.2.2)], [], zhp h)) rfl (zEv_if (fun c4 => ?_) (fun c4 => ?_))
      · replace hv5 := zif_t c4 hv5
        cases hv5
        exact kv5
      · replace hv5 := zif_f c4 hv5
        refine zEv_k 3 (f' := (if s.1 = (-1) then 53 else 47, [some (.ref 22), some (.int s.1), some (.int x2), some (.int p3), some (.int s.2.2)], [], zhp h)) rfl (zEv_if (fun c6 => ?_) (fun c6 => ?_))
        · replace hv5 := zif_t c6 hv5
          refine zEv_k 2 (f' := (56, [some (.ref 22), some (.int s.2.2), some (.int x2), some (.int p3), some (.int s.2.2)], [], zhp h)) rfl ?_
          cases hv5
          exact kv5
        · replace hv5 := zif_f c6 hv5
          refine zEv_k 3 (f' := (if s.1 ≤ s.2.2 then 56 else 53, [some (.ref 22), some (.int s.1), some (.int x2), some (.int p3), some (.int s.2.2)], [], zhp h)) rfl (zEv_if (fun c7 => ?_) (fun c7 => ?_))
          · replace hv5 := zif_t c7 hv5
            cases hv5
            exact kv5
          · replace hv5 := zif_f c7 hv5
            refine zEv_k 2 (f' := (56, [some (.ref 22), some (.int s.2.2), some (.int x2), some (.int p3), some (.int s.2.2)], [], zhp h)) rfl ?_
            cases hv5
            exact kv5
theorem t_qLk_ring_b19 {Ls : Nat} {xs : Nat → Int32} {d : Nat} {oc : Nat} {x2 : Int32} {h : zK} {r : zA} (ho : oc = 7 ∨ oc = 22) {t : Int32} (K : ∀ (z3 : Option Value) (z4 : Option Value), zEv (zXs Ls xs) (d + 2) zm_282 (62, [some (.ref oc), some (.int t), some (.int x2), z3, z4], [], zhp h) r) (n : Nat) (s : Int32 × Int32 × Int32) (H : zloop (qLk_ring_b19 oc x2 h) n s = some t) : zEv (zXs Ls xs) (d + 2) zm_282 (19, [some (.ref oc), some (.int s.1), some (.int x2), some (.int s.2.1), some (.int s.2.2)], [], zhp h) r := by
  have Z := zloop_P (P := fun s => zEv (zXs Ls xs) (d + 2) zm_282 (19, [some (.ref oc), some (.int s.1), some (.int x2), some (.int s.2.1), some (.int s.2.2)], [], zhp h) r) (b := qLk_ring_b19 oc x2 h) (t := t) (fun s s2 hb hk => by exact t_qLk_ring_b19b ho hb hk) (fun s hb => by exact t_qLk_ring_b19b ho hb K) n s H
  exact Z
def qLk_ring_b4 (oc : Nat) (h : zK) (s : Int32 × Int32) : Option ((Int32 × Int32) ⊕ (Int32)) :=
  if (gI h oc 2) ≤ s.2 then
    some (.inr s.1)
  else
    (zloop (qLk_ring_b19 oc s.2 h) zfu (s.1, (1 : Int32) <<< (s.2 &&& 31), 1)).bind fun t8 =>
    some (.inl (t8, s.2 + 1))
theorem t_qLk_ring_b4b {Ls : Nat} {xs : Nat → Int32} {d : Nat} {oc : Nat} {h : zK} {r : zA} {s : Int32 × Int32} {e : (Int32 × Int32) ⊕ (Int32)} (ho : oc = 7 ∨ oc = 22) (H : qLk_ring_b4 oc h s = some e) (K : match (generalizing := false) e with | .inl s' => ∀ (z3 : Option Value) (z4 : Option Value), zEv (zXs Ls xs) (d + 2) zm_282 (4, [some (.ref oc), some (.int s'.1), some (.int s'.2), z3, z4], [], zhp h) r | .inr v => ∀ (z2 : Option Value) (z3 : Option Value) (z4 : Option Value), zEv (zXs Ls xs) (d + 2) zm_282 (68, [some (.ref oc), some (.int v), z2, z3, z4], [], zhp h) r) (y3 : Option Value) (y4 : Option Value) : zEv (zXs Ls xs) (d + 2) zm_282 (4, [some (.ref oc), some (.int s.1), some (.int s.2), y3, y4], [], zhp h) r := by
  unfold qLk_ring_b4 at H
  rcases ho with rfl | rfl
  · refine zEv_k 4 (f' := (if (gI h 7 2) ≤ s.2 then 68 else 12, [some (.ref 7), some (.int s.1), some (.int s.2), y3, y4], [], zhp h)) rfl (zEv_if (fun c1 => ?_) (fun c1 => ?_))
    · replace H := zif_t c1 H
      cases H
      exact K _ _ _
    · replace H := zif_f c1 H
      refine zEv_k 6 (f' := (19, [some (.ref 7), some (.int s.1), some (.int s.2), some (.int ((1 : Int32) <<< (s.2 &&& 31))), some (.int 1)], [], zhp h)) rfl ?_
      obtain ⟨t8, ht8, H⟩ := zbs H
      refine t_qLk_ring_b19 (oc := 7) (x2 := s.2) (h := h) (by decide) ?_ zfu _ ht8
      intro y3 y4
      refine zEv_k 2 (f' := (4, [some (.ref 7), some (.int t8), some (.int (s.2 + 1)), y3, y4], [], zhp h)) rfl ?_
      cases H
      exact K _ _
  · refine zEv_k 4 (f' := (if (gI h 22 2) ≤ s.2 then 68 else 12, [some (.ref 22), some (.int s.1), some (.int s.2), y3, y4], [], zhp h)) rfl (zEv_if (fun c1 => ?_) (fun c1 => ?_))
    · replace H := zif_t c1 H
      cases H
      exact K _ _ _
    · replace H := zif_f c1 H
      refine zEv_k 6 (f' := (19, [some (.ref 22), some (.int s.1), some (.int s.2), some (.int ((1 : Int32) <<< (s.2 &&& 31))), some (.int 1)], [], zhp h)) rfl ?_
      obtain ⟨t8, ht8, H⟩ := zbs H
      refine t_qLk_ring_b19 (oc := 22) (x2 := s.2) (h := h) (by decide) ?_ zfu _ ht8
      intro y3 y4
      refine zEv_k 2 (f' := (4, [some (.ref 22), some (.int t8), some (.int (s.2 + 1)), y3, y4], [], zhp h)) rfl ?_
      cases H
      exact K _ _
theorem t_qLk_ring_b4 {Ls : Nat} {xs : Nat → Int32} {d : Nat} {oc : Nat} {h : zK} {r : zA} (ho : oc = 7 ∨ oc = 22) {t : Int32} (K : ∀ (z2 : Option Value) (z3 : Option Value) (z4 : Option Value), zEv (zXs Ls xs) (d + 2) zm_282 (68, [some (.ref oc), some (.int t), z2, z3, z4], [], zhp h) r) (n : Nat) (s : Int32 × Int32) (H : zloop (qLk_ring_b4 oc h) n s = some t) (y3 : Option Value) (y4 : Option Value) : zEv (zXs Ls xs) (d + 2) zm_282 (4, [some (.ref oc), some (.int s.1), some (.int s.2), y3, y4], [], zhp h) r := by
  have Z := zloop_P (P := fun s => ∀ (y3 : Option Value) (y4 : Option Value), zEv (zXs Ls xs) (d + 2) zm_282 (4, [some (.ref oc), some (.int s.1), some (.int s.2), y3, y4], [], zhp h) r) (b := qLk_ring_b4 oc h) (t := t) (fun s s2 hb hk => by intro y3 y4; exact t_qLk_ring_b4b ho hb hk y3 y4) (fun s hb => by intro y3 y4; exact t_qLk_ring_b4b ho hb K y3 y4) n s H
  exact Z y3 y4
def qLk_ring (oc : Nat) (h : zK) : Option (Int32) :=
  (zloop (qLk_ring_b4 oc h) zfu (-1, 0)).bind fun t10 =>
  some t10
theorem t_qLk_ring {Ls : Nat} {xs : Nat → Int32} {d : Nat} {oc : Nat} {h : zK} {p : Int32} (ho : oc = 7 ∨ oc = 22) (H : qLk_ring oc h = some p) : zEv (zXs Ls xs) (d + 2) zm_282 (0, [some (.ref oc), none, none, none, none], [], zhp h) (some (.int p), zhp h) := by
  unfold qLk_ring at H
  rcases ho with rfl | rfl
  · refine zEv_k 4 (f' := (4, [some (.ref 7), some (.int (-1)), some (.int 0), none, none], [], zhp h)) rfl ?_
    obtain ⟨t10, ht10, H⟩ := zbs H
    refine t_qLk_ring_b4 (oc := 7) (h := h) (by decide) ?_ zfu _ ht10 _ _
    intro y2 y3 y4
    refine zEv_k 1 (f' := (69, [some (.ref 7), some (.int t10), y2, y3, y4], [.int t10], zhp h)) rfl ?_
    cases H
    exact zEv_r rfl
  · refine zEv_k 4 (f' := (4, [some (.ref 22), some (.int (-1)), some (.int 0), none, none], [], zhp h)) rfl ?_
    obtain ⟨t10, ht10, H⟩ := zbs H
    refine t_qLk_ring_b4 (oc := 22) (h := h) (by decide) ?_ zfu _ ht10 _ _
    intro y2 y3 y4
    refine zEv_k 1 (f' := (69, [some (.ref 22), some (.int t10), y2, y3, y4], [.int t10], zhp h)) rfl ?_
    cases H
    exact zEv_r rfl
