def qRu_movedTo (oo : Nat) (x1 : Int32) (x2 : Int32) (h : zK) : Option (Int32 × zK) :=
  (zix x1 7).bind fun j1 =>
  if ¬ (gI h (oo + 13) j1) = x2 then
    zlet (sI h (oo + 13) j1 x2) fun h3 =>
    zlet (sI h3 oo 9 ((gI h3 oo 9) + 1)) fun h4 =>
    some (1, h4)
  else
    some (0, h)
theorem t_qRu_movedTo {Ls : Nat} {xs : Nat → Int32} {d : Nat} {oo : Nat} {x1 : Int32} {x2 : Int32} {h : zK} {p : Int32 × zK} (ho : oo = 166 ∨ oo = 198) (H : qRu_movedTo oo x1 x2 h = some p) : zEv (zXs Ls xs) d zm_84 (0, [some (.ref oo), some (.int x1), some (.int x2)], [], zhp h) (some (.int p.1), zhp p.2) := by
  unfold qRu_movedTo at H
  rcases ho with rfl | rfl
  · refine zEv_k 1 (f' := (1, [some (.ref 166), some (.int x1), some (.int x2)], [.ref 166], zhp h)) rfl ?_
    refine zRgr rfl rfl rfl (by decide) (b := 166 + 13) rfl ?_
    refine zEv_k 1 (f' := (5, [some (.ref 166), some (.int x1), some (.int x2)], [.int x1, .ref (166 + 13)], zhp h)) rfl ?_
    obtain ⟨j1, hj1, H⟩ := zbs H
    refine zRia rfl rfl (by decide) hj1 ?_
    refine zEv_k 2 (f' := (if ¬ (gI h (166 + 13) j1) = x2 then 12 else 10, [some (.ref 166), some (.int x1), some (.int x2)], [], zhp h)) rfl (zEv_if (fun c2 => ?_) (fun c2 => ?_))
    · replace H := zif_t c2 H
      refine zEv_k 1 (f' := (13, [some (.ref 166), some (.int x1), some (.int x2)], [.ref 166], zhp h)) rfl ?_
      refine zRgr rfl rfl rfl (by decide) (b := 166 + 13) rfl ?_
      refine zEv_k 2 (f' := (18, [some (.ref 166), some (.int x1), some (.int x2)], [.int x2, .int x1, .ref (166 + 13)], zhp h)) rfl ?_
      obtain ⟨h3, eh3, H⟩ := zlets H
      refine zRis rfl rfl (by decide) hj1 eh3 ?_
      obtain ⟨h4, eh4, H⟩ := zlets H
      refine zEv_w (F := fun z => (29, [some (.ref 166), some (.int x1), some (.int x2)], [], zhp z)) (h0 := sI h3 166 9 ((gI h3 166 9) + 1)) 6 rfl eh4 ?_
      refine zEv_k 1 (f' := (30, [some (.ref 166), some (.int x1), some (.int x2)], [.int 1], zhp h4)) rfl ?_
      cases H
      exact zEv_r rfl
    · replace H := zif_f c2 H
      refine zEv_k 1 (f' := (11, [some (.ref 166), some (.int x1), some (.int x2)], [.int 0], zhp h)) rfl ?_
      cases H
      exact zEv_r rfl
  · refine zEv_k 1 (f' := (1, [some (.ref 198), some (.int x1), some (.int x2)], [.ref 198], zhp h)) rfl ?_
    refine zRgr rfl rfl rfl (by decide) (b := 198 + 13) rfl ?_
    refine zEv_k 1 (f' := (5, [some (.ref 198), some (.int x1), some (.int x2)], [.int x1, .ref (198 + 13)], zhp h)) rfl ?_
    obtain ⟨j1, hj1, H⟩ := zbs H
    refine zRia rfl rfl (by decide) hj1 ?_
    refine zEv_k 2 (f' := (if ¬ (gI h (198 + 13) j1) = x2 then 12 else 10, [some (.ref 198), some (.int x1), some (.int x2)], [], zhp h)) rfl (zEv_if (fun c2 => ?_) (fun c2 => ?_))
    · replace H := zif_t c2 H
      refine zEv_k 1 (f' := (13, [some (.ref 198), some (.int x1), some (.int x2)], [.ref 198], zhp h)) rfl ?_
      refine zRgr rfl rfl rfl (by decide) (b := 198 + 13) rfl ?_
      refine zEv_k 2 (f' := (18, [some (.ref 198), some (.int x1), some (.int x2)], [.int x2, .int x1, .ref (198 + 13)], zhp h)) rfl ?_
      obtain ⟨h3, eh3, H⟩ := zlets H
      refine zRis rfl rfl (by decide) hj1 eh3 ?_
      obtain ⟨h4, eh4, H⟩ := zlets H
      refine zEv_w (F := fun z => (29, [some (.ref 198), some (.int x1), some (.int x2)], [], zhp z)) (h0 := sI h3 198 9 ((gI h3 198 9) + 1)) 6 rfl eh4 ?_
      refine zEv_k 1 (f' := (30, [some (.ref 198), some (.int x1), some (.int x2)], [.int 1], zhp h4)) rfl ?_
      cases H
      exact zEv_r rfl
    · replace H := zif_f c2 H
      refine zEv_k 1 (f' := (11, [some (.ref 198), some (.int x1), some (.int x2)], [.int 0], zhp h)) rfl ?_
      cases H
      exact zEv_r rfl
def qRu_did (oo : Nat) (x1 : Int32) (x2 : Int32) (x3 : Int32) (h : zK) : Option (Int32 × zK) :=
  if ¬ x1 = 0 then
    zlet (gR h oo) fun a2 =>
    if a2 = 7 ∨ a2 = 22 then
      if (qCe_has a2 x2 h) = 0 then
        some (0, h)
      else
        if (zf_cin (gI h oo 2) x2) = 0 then
          if x1 = 1 then
            (qRu_openUp oo x2 h).bind fun p6 =>
            some (1, p6)
          else if x1 = 2 then
            (qRu_wiredDown oo x2 h).bind fun p7 =>
            if zbool p7.1 = true then
              some (p7.1, p7.2)
            else none
          else if x1 = 3 then
            (qRu_becameTainted oo x2 h).bind fun p9 =>
            if zbool p9.1 = true then
              some (p9.1, p9.2)
            else none
          else if x1 = 4 then
            (qRu_movedTo oo x2 x3 h).bind fun p11 =>
            if zbool p11.1 = true then
              some (p11.1, p11.2)
            else none
          else
            some (0, h)
        else
          some (0, h)
    else none
  else
    (qRu_passedYear oo h).bind fun p13 =>
    if zbool p13.1 = true then
      some (p13.1, p13.2)
    else none
theorem t_qRu_did {Ls : Nat} {xs : Nat → Int32} {d : Nat} {oo : Nat} {x1 : Int32} {x2 : Int32} {x3 : Int32} {h : zK} {p : Int32 × zK} (ho : oo = 166 ∨ oo = 198) (H : qRu_did oo x1 x2 x3 h = some p) : zEv (zXs Ls xs) (d + 3) zm_72 (0, [some (.ref oo), some (.int x1), some (.int x2), some (.int x3)], [], zhp h) (some (.int p.1), zhp p.2) := by
  unfold qRu_did at H
  rcases ho with rfl | rfl
  · refine zEv_k 2 (f' := (if ¬ x1 = 0 then 9 else 4, [some (.ref 166), some (.int x1), some (.int x2), some (.int x3)], [], zhp h)) rfl (zEv_if (fun c1 => ?_) (fun c1 => ?_))
    · replace H := zif_t c1 H
      refine zEv_k 1 (f' := (10, [some (.ref 166), some (.int x1), some (.int x2), some (.int x3)], [.ref 166], zhp h)) rfl ?_
      refine zRgc (by decide) rfl rfl rfl (by decide) ?_
      refine zEv_k 1 (f' := (14, [some (.ref 166), some (.int x1), some (.int x2), some (.int x3)], [.int x2, .ref (gR h 166)], zhp h)) rfl ?_
      obtain ⟨a2, ea2, H⟩ := zlets H
      rw [ea2]
      obtain ⟨c3, H⟩ := zifn H
      rcases c3 with rfl | rfl
      · refine zEv_c (fun _ => rfl) rfl (t_qCe_has (oo := 7) (x1 := x2) (h := h) (d := d + 2) (by decide) rfl) rfl rfl ?_
        refine zEv_k 1 (f' := (if (qCe_has 7 x2 h) = 0 then 31 else 20, [some (.ref 166), some (.int x1), some (.int x2), some (.int x3)], [], zhp h)) rfl (zEv_if (fun c4 => ?_) (fun c4 => ?_))
        · replace H := zif_t c4 H
          refine zEv_k 1 (f' := (32, [some (.ref 166), some (.int x1), some (.int x2), some (.int x3)], [.int 0], zhp h)) rfl ?_
          cases H
          exact zEv_r rfl
        · replace H := zif_f c4 H
          refine zEv_k 3 (f' := (25, [some (.ref 166), some (.int x1), some (.int x2), some (.int x3)], [.int x2, .int (gI h 166 2)], zhp h)) rfl ?_
          refine zEv_c (fun _ => rfl) rfl ev_zf_cin rfl rfl ?_
          refine zEv_k 1 (f' := (if (zf_cin (gI h 166 2) x2) = 0 then 33 else 31, [some (.ref 166), some (.int x1), some (.int x2), some (.int x3)], [], zhp h)) rfl (zEv_if (fun c5 => ?_) (fun c5 => ?_))
          · replace H := zif_t c5 H
            refine zEv_k 1 (f' := (34, [some (.ref 166), some (.int x1), some (.int x2), some (.int x3)], [.int x1], zhp h)) rfl ?_
            refine zEv_ts rfl (by decide) (by decide) (by decide) (fun hh => ?_) (fun j hj hh => ?_)
            · replace H := zif_f (fun e => (by rw [e] at hh; exact absurd hh (by decide))) H
              replace H := zif_f (fun e => (by rw [e] at hh; exact absurd hh (by decide))) H
              replace H := zif_f (fun e => (by rw [e] at hh; exact absurd hh (by decide))) H
              replace H := zif_f (fun e => (by rw [e] at hh; exact absurd hh (by decide))) H
              refine zEv_k 1 (f' := (91, [some (.ref 166), some (.int x1), some (.int x2), some (.int x3)], [.int 0], zhp h)) rfl ?_
              cases H
              exact zEv_r rfl
            · rcases (by have hj2 : j < 4 := hj; omega : j = 0 ∨ j = 1 ∨ j = 2 ∨ j = 3) with rfl | rfl | rfl | rfl
              · have ex : x1 = 1 := zeqI hh (by decide)
                replace H := zif_t ex H
                refine zEv_k 2 (f' := (66, [some (.ref 166), some (.int x1), some (.int x2), some (.int x3)], [.int x2, .ref 166], zhp h)) rfl ?_
                obtain ⟨p6, hp6, H⟩ := zbs H
                refine zEv_c (fun _ => rfl) rfl (t_qRu_openUp (oo := 166) (x1 := x2) (h := h) (d := d + 1) (by decide) hp6) rfl rfl ?_
                refine zEv_k 1 (f' := (70, [some (.ref 166), some (.int x1), some (.int x2), some (.int x3)], [.int 1], zhp p6)) rfl ?_
                cases H
                exact zEv_r rfl
              · have ex : x1 = 2 := zeqI hh (by decide)
                replace H := zif_f (fun e => by rw [ex] at e; exact absurd e (by decide)) H
                replace H := zif_t ex H
                refine zEv_k 2 (f' := (73, [some (.ref 166), some (.int x1), some (.int x2), some (.int x3)], [.int x2, .ref 166], zhp h)) rfl ?_
                obtain ⟨p7, hp7, H⟩ := zbs H
                refine zEv_c (fun _ => rfl) rfl (t_qRu_wiredDown (oo := 166) (x1 := x2) (h := h) (d := d + 1) (by decide) hp7) rfl rfl ?_
                obtain ⟨c8, H⟩ := zifn H
                cases H
                exact zEv_rz rfl rfl c8
              · have ex : x1 = 3 := zeqI hh (by decide)
                replace H := zif_f (fun e => by rw [ex] at e; exact absurd e (by decide)) H
                replace H := zif_f (fun e => by rw [ex] at e; exact absurd e (by decide)) H
                replace H := zif_t ex H
                refine zEv_k 2 (f' := (79, [some (.ref 166), some (.int x1), some (.int x2), some (.int x3)], [.int x2, .ref 166], zhp h)) rfl ?_
                obtain ⟨p9, hp9, H⟩ := zbs H
                refine zEv_c (fun _ => rfl) rfl (t_qRu_becameTainted (oo := 166) (x1 := x2) (h := h) (d := d + 1) (by decide) hp9) rfl rfl ?_
                obtain ⟨c10, H⟩ := zifn H
                cases H
                exact zEv_rz rfl rfl c10
              · have ex : x1 = 4 := zeqI hh (by decide)
                replace H := zif_f (fun e => by rw [ex] at e; exact absurd e (by decide)) H
                replace H := zif_f (fun e => by rw [ex] at e; exact absurd e (by decide)) H
                replace H := zif_f (fun e => by rw [ex] at e; exact absurd e (by decide)) H
                replace H := zif_t ex H
                refine zEv_k 3 (f' := (86, [some (.ref 166), some (.int x1), some (.int x2), some (.int x3)], [.int x3, .int x2, .ref 166], zhp h)) rfl ?_
                obtain ⟨p11, hp11, H⟩ := zbs H
                refine zEv_c (fun _ => rfl) rfl (t_qRu_movedTo (oo := 166) (x1 := x2) (x2 := x3) (h := h) (d := d + 2) (by decide) hp11) rfl rfl ?_
                obtain ⟨c12, H⟩ := zifn H
                cases H
                exact zEv_rz rfl rfl c12
          · replace H := zif_f c5 H
            refine zEv_k 1 (f' := (32, [some (.ref 166), some (.int x1), some (.int x2), some (.int x3)], [.int 0], zhp h)) rfl ?_
            cases H
            exact zEv_r rfl
      · refine zEv_c (fun _ => rfl) rfl (t_qCe_has (oo := 22) (x1 := x2) (h := h) (d := d + 2) (by decide) rfl) rfl rfl ?_
        refine zEv_k 1 (f' := (if (qCe_has 22 x2 h) = 0 then 31 else 20, [some (.ref 166), some (.int x1), some (.int x2), some (.int x3)], [], zhp h)) rfl (zEv_if (fun c4 => ?_) (fun c4 => ?_))
        · replace H := zif_t c4 H
          refine zEv_k 1 (f' := (32, [some (.ref 166), some (.int x1), some (.int x2), some (.int x3)], [.int 0], zhp h)) rfl ?_
          cases H
          exact zEv_r rfl
        · replace H := zif_f c4 H
          refine zEv_k 3 (f' := (25, [some (.ref 166), some (.int x1), some (.int x2), some (.int x3)], [.int x2, .int (gI h 166 2)], zhp h)) rfl ?_
          refine zEv_c (fun _ => rfl) rfl ev_zf_cin rfl rfl ?_
          refine zEv_k 1 (f' := (if (zf_cin (gI h 166 2) x2) = 0 then 33 else 31, [some (.ref 166), some (.int x1), some (.int x2), some (.int x3)], [], zhp h)) rfl (zEv_if (fun c5 => ?_) (fun c5 => ?_))
          · replace H := zif_t c5 H
            refine zEv_k 1 (f' := (34, [some (.ref 166), some (.int x1), some (.int x2), some (.int x3)], [.int x1], zhp h)) rfl ?_
            refine zEv_ts rfl (by decide) (by decide) (by decide) (fun hh => ?_) (fun j hj hh => ?_)
            · replace H := zif_f (fun e => (by rw [e] at hh; exact absurd hh (by decide))) H
              replace H := zif_f (fun e => (by rw [e] at hh; exact absurd hh (by decide))) H
              replace H := zif_f (fun e => (by rw [e] at hh; exact absurd hh (by decide))) H
              replace H := zif_f (fun e => (by rw [e] at hh; exact absurd hh (by decide))) H
              refine zEv_k 1 (f' := (91, [some (.ref 166), some (.int x1), some (.int x2), some (.int x3)], [.int 0], zhp h)) rfl ?_
              cases H
              exact zEv_r rfl
            · rcases (by have hj2 : j < 4 := hj; omega : j = 0 ∨ j = 1 ∨ j = 2 ∨ j = 3) with rfl | rfl | rfl | rfl
              · have ex : x1 = 1 := zeqI hh (by decide)
                replace H := zif_t ex H
                refine zEv_k 2 (f' := (66, [some (.ref 166), some (.int x1), some (.int x2), some (.int x3)], [.int x2, .ref 166], zhp h)) rfl ?_
                obtain ⟨p6, hp6, H⟩ := zbs H
                refine zEv_c (fun _ => rfl) rfl (t_qRu_openUp (oo := 166) (x1 := x2) (h := h) (d := d + 1) (by decide) hp6) rfl rfl ?_
                refine zEv_k 1 (f' := (70, [some (.ref 166), some (.int x1), some (.int x2), some (.int x3)], [.int 1], zhp p6)) rfl ?_
                cases H
                exact zEv_r rfl
              · have ex : x1 = 2 := zeqI hh (by decide)
                replace H := zif_f (fun e => by rw [ex] at e; exact absurd e (by decide)) H
                replace H := zif_t ex H
                refine zEv_k 2 (f' := (73, [some (.ref 166), some (.int x1), some (.int x2), some (.int x3)], [.int x2, .ref 166], zhp h)) rfl ?_
                obtain ⟨p7, hp7, H⟩ := zbs H
                refine zEv_c (fun _ => rfl) rfl (t_qRu_wiredDown (oo := 166) (x1 := x2) (h := h) (d := d + 1) (by decide) hp7) rfl rfl ?_
                obtain ⟨c8, H⟩ := zifn H
                cases H
                exact zEv_rz rfl rfl c8
              · have ex : x1 = 3 := zeqI hh (by decide)
                replace H := zif_f (fun e => by rw [ex] at e; exact absurd e (by decide)) H
                replace H := zif_f (fun e => by rw [ex] at e; exact absurd e (by decide)) H
                replace H := zif_t ex H
                refine zEv_k 2 (f' := (79, [some (.ref 166), some (.int x1), some (.int x2), some (.int x3)], [.int x2, .ref 166], zhp h)) rfl ?_
                obtain ⟨p9, hp9, H⟩ := zbs H
                refine zEv_c (fun _ => rfl) rfl (t_qRu_becameTainted (oo := 166) (x1 := x2) (h := h) (d := d + 1) (by decide) hp9) rfl rfl ?_
                obtain ⟨c10, H⟩ := zifn H
                cases H
                exact zEv_rz rfl rfl c10
              · have ex : x1 = 4 := zeqI hh (by decide)
                replace H := zif_f (fun e => by rw [ex] at e; exact absurd e (by decide)) H
                replace H := zif_f (fun e => by rw [ex] at e; exact absurd e (by decide)) H
                replace H := zif_f (fun e => by rw [ex] at e; exact absurd e (by decide)) H
                replace H := zif_t ex H
                refine zEv_k 3 (f' := (86, [some (.ref 166), some (.int x1), some (.int x2), some (.int x3)], [.int x3, .int x2, .ref 166], zhp h)) rfl ?_
                obtain ⟨p11, hp11, H⟩ := zbs H
                refine zEv_c (fun _ => rfl) rfl (t_qRu_movedTo (oo := 166) (x1 := x2) (x2 := x3) (h := h) (d := d + 2) (by decide) hp11) rfl rfl ?_
                obtain ⟨c12, H⟩ := zifn H
                cases H
                exact zEv_rz rfl rfl c12
          · replace H := zif_f c5 H
            refine zEv_k 1 (f' := (32, [some (.ref 166), some (.int x1), some (.int x2), some (.int x3)], [.int 0], zhp h)) rfl ?_
            cases H
            exact zEv_r rfl
    · replace H := zif_f c1 H
      refine zEv_k 1 (f' := (5, [some (.ref 166), some (.int x1), some (.int x2), some (.int x3)], [.ref 166], zhp h)) rfl ?_
      obtain ⟨p13, hp13, H⟩ := zbs H
      refine zEv_c (fun _ => rfl) rfl (t_qRu_passedYear (oo := 166) (h := h) (d := d) (by decide) hp13) rfl rfl ?_
      obtain ⟨c14, H⟩ := zifn H
      cases H
      exact zEv_rz rfl rfl c14
  · refine zEv_k 2 (f' := (if ¬ x1 = 0 then 9 else 4, [some (.ref 198), some (.int x1), some (.int x2), some (.int x3)], [], zhp h)) rfl (zEv_if (fun c1 => ?_) (fun c1 => ?_))
    · replace H := zif_t c1 H
      refine zEv_k 1 (f' := (10, [some (.ref 198), some (.int x1), some (.int x2), some (.int x3)], [.ref 198], zhp h)) rfl ?_
      refine zRgc (by decide) rfl rfl rfl (by decide) ?_
      refine zEv_k 1 (f' := (14, [some (.ref 198), some (.int x1), some (.int x2), some (.int x3)], [.int x2, .ref (gR h 198)], zhp h)) rfl ?_
      obtain ⟨a2, ea2, H⟩ := zlets H
      rw [ea2]
      obtain ⟨c3, H⟩ := zifn H
      rcases c3 with rfl | rfl
      · refine zEv_c (fun _ => rfl) rfl (t_qCe_has (oo := 7) (x1 := x2) (h := h) (d := d + 2) (by decide) rfl) rfl rfl ?_
        refine zEv_k 1 (f' := (if (qCe_has 7 x2 h) = 0 then 31 else 20, [some (.ref 198), some (.int x1), some (.int x2), some (.int x3)], [], zhp h)) rfl (zEv_if (fun c4 => ?_) (fun c4 => ?_))
        · replace H := zif_t c4 H
          refine zEv_k 1 (f' := (32, [some (.ref 198), some (.int x1), some (.int x2), some (.int x3)], [.int 0], zhp h)) rfl ?_
          cases H
          exact zEv_r rfl
        · replace H := zif_f c4 H
          refine zEv_k 3 (f' := (25, [some (.ref 198), some (.int x1), some (.int x2), some (.int x3)], [.int x2, .int (gI h 198 2)], zhp h)) rfl ?_
          refine zEv_c (fun _ => rfl) rfl ev_zf_cin rfl rfl ?_
          refine zEv_k 1 (f' := (if (zf_cin (gI h 198 2) x2) = 0 then 33 else 31, [some (.ref 198), some (.int x1), some (.int x2), some (.int x3)], [], zhp h)) rfl (zEv_if (fun c5 => ?_) (fun c5 => ?_))
          · replace H := zif_t c5 H
            refine zEv_k 1 (f' := (34, [some (.ref 198), some (.int x1), some (.int x2), some (.int x3)], [.int x1], zhp h)) rfl ?_
            refine zEv_ts rfl (by decide) (by decide) (by decide) (fun hh => ?_) (fun j hj hh => ?_)
            · replace H := zif_f (fun e => (by rw [e] at hh; exact absurd hh (by decide))) H
              replace H := zif_f (fun e => (by rw [e] at hh; exact absurd hh (by decide))) H
              replace H := zif_f (fun e => (by rw [e] at hh; exact absurd hh (by decide))) H
              replace H := zif_f (fun e => (by rw [e] at hh; exact absurd hh (by decide))) H
              refine zEv_k 1 (f' := (91, [some (.ref 198), some (.int x1), some (.int x2), some (.int x3)], [.int 0], zhp h)) rfl ?_
              cases H
              exact zEv_r rfl
            · rcases (by have hj2 : j < 4 := hj; omega : j = 0 ∨ j = 1 ∨ j = 2 ∨ j = 3) with rfl | rfl | rfl | rfl
              · have ex : x1 = 1 := zeqI hh (by decide)
                replace H := zif_t ex H
                refine zEv_k 2 (f' := (66, [some (.ref 198), some (.int x1), some (.int x2), some (.int x3)], [.int x2, .ref 198], zhp h)) rfl ?_
                obtain ⟨p6, hp6, H⟩ := zbs H
                refine zEv_c (fun _ => rfl) rfl (t_qRu_openUp (oo := 198) (x1 := x2) (h := h) (d := d + 1) (by decide) hp6) rfl rfl ?_
                refine zEv_k 1 (f' := (70, [some (.ref 198), some (.int x1), some (.int x2), some (.int x3)], [.int 1], zhp p6)) rfl ?_
                cases H
                exact zEv_r rfl
              · have ex : x1 = 2 := zeqI hh (by decide)
                replace H := zif_f (fun e => by rw [ex] at e; exact absurd e (by decide)) H
                replace H := zif_t ex H
                refine zEv_k 2 (f' := (73, [some (.ref 198), some (.int x1), some (.int x2), some (.int x3)], [.int x2, .ref 198], zhp h)) rfl ?_
                obtain ⟨p7, hp7, H⟩ := zbs H
                refine zEv_c (fun _ => rfl) rfl (t_qRu_wiredDown (oo := 198) (x1 := x2) (h := h) (d := d + 1) (by decide) hp7) rfl rfl ?_
                obtain ⟨c8, H⟩ := zifn H
                cases H
                exact zEv_rz rfl rfl c8
              · have ex : x1 = 3 := zeqI hh (by decide)
                replace H := zif_f (fun e => by rw [ex] at e; exact absurd e (by decide)) H
                replace H := zif_f (fun e => by rw [ex] at e; exact absurd e (by decide)) H
                replace H := zif_t ex H
                refine zEv_k 2 (f' := (79, [some (.ref 198), some (.int x1), some (.int x2), some (.int x3)], [.int x2, .ref 198], zhp h)) rfl ?_
                obtain ⟨p9, hp9, H⟩ := zbs H
                refine zEv_c (fun _ => rfl) rfl (t_qRu_becameTainted (oo := 198) (x1 := x2) (h := h) (d := d + 1) (by decide) hp9) rfl rfl ?_
                obtain ⟨c10, H⟩ := zifn H
                cases H
                exact zEv_rz rfl rfl c10
              · have ex : x1 = 4 := zeqI hh (by decide)
                replace H := zif_f (fun e => by rw [ex] at e; exact absurd e (by decide)) H
                replace H := zif_f (fun e => by rw [ex] at e; exact absurd e (by decide)) H
                replace H := zif_f (fun e => by rw [ex] at e; exact absurd e (by decide)) H
                replace H := zif_t ex H
                refine zEv_k 3 (f' := (86, [some (.ref 198), some (.int x1), some (.int x2), some (.int x3)], [.int x3, .int x2, .ref 198], zhp h)) rfl ?_
                obtain ⟨p11, hp11, H⟩ := zbs H
                refine zEv_c (fun _ => rfl) rfl (t_qRu_movedTo (oo := 198) (x1 := x2) (x2 := x3) (h := h) (d := d + 2) (by decide) hp11) rfl rfl ?_
                obtain ⟨c12, H⟩ := zifn H
                cases H
                exact zEv_rz rfl rfl c12
          · replace H := zif_f c5 H
            refine zEv_k 1 (f' := (32, [some (.ref 198), some (.int x1), some (.int x2), some (.int x3)], [.int 0], zhp h)) rfl ?_
            cases H
            exact zEv_r rfl
      · refine zEv_c (fun _ => rfl) rfl (t_qCe_has (oo := 22) (x1 := x2) (h := h) (d := d + 2) (by decide) rfl) rfl rfl ?_
        refine zEv_k 1 (f' := (if (qCe_has 22 x2 h) = 0 then 31 else 20, [some (.ref 198), some (.int x1), some (.int x2), some (.int x3)], [], zhp h)) rfl (zEv_if (fun c4 => ?_) (fun c4 => ?_))
        · replace H := zif_t c4 H
          refine zEv_k 1 (f' := (32, [some (.ref 198), some (.int x1), some (.int x2), some (.int x3)], [.int 0], zhp h)) rfl ?_
          cases H
          exact zEv_r rfl
        · replace H := zif_f c4 H
          refine zEv_k 3 (f' := (25, [some (.ref 198), some (.int x1), some (.int x2), some (.int x3)], [.int x2, .int (gI h 198 2)], zhp h)) rfl ?_
          refine zEv_c (fun _ => rfl) rfl ev_zf_cin rfl rfl ?_
          refine zEv_k 1 (f' := (if (zf_cin (gI h 198 2) x2) = 0 then 33 else 31, [some (.ref 198), some (.int x1), some (.int x2), some (.int x3)], [], zhp h)) rfl (zEv_if (fun c5 => ?_) (fun c5 => ?_))
          · replace H := zif_t c5 H
            refine zEv_k 1 (f' := (34, [some (.ref 198), some (.int x1), some (.int x2), some (.int x3)], [.int x1], zhp h)) rfl ?_
            refine zEv_ts rfl (by decide) (by decide) (by decide) (fun hh => ?_) (fun j hj hh => ?_)
            · replace H := zif_f (fun e => (by rw [e] at hh; exact absurd hh (by decide))) H
              replace H := zif_f (fun e => (by rw [e] at hh; exact absurd hh (by decide))) H
              replace H := zif_f (fun e => (by rw [e] at hh; exact absurd hh (by decide))) H
              replace H := zif_f (fun e => (by rw [e] at hh; exact absurd hh (by decide))) H
              refine zEv_k 1 (f' := (91, [some (.ref 198), some (.int x1), some (.int x2), some (.int x3)], [.int 0], zhp h)) rfl ?_
              cases H
              exact zEv_r rfl
            · rcases (by have hj2 : j < 4 := hj; omega : j = 0 ∨ j = 1 ∨ j = 2 ∨ j = 3) with rfl | rfl | rfl | rfl
              · have ex : x1 = 1 := zeqI hh (by decide)
                replace H := zif_t ex H
                refine zEv_k 2 (f' := (66, [some (.ref 198), some (.int x1), some (.int x2), some (.int x3)], [.int x2, .ref 198], zhp h)) rfl ?_
                obtain ⟨p6, hp6, H⟩ := zbs H
                refine zEv_c (fun _ => rfl) rfl (t_qRu_openUp (oo := 198) (x1 := x2) (h := h) (d := d + 1) (by decide) hp6) rfl rfl ?_
                refine zEv_k 1 (f' := (70, [some (.ref 198), some (.int x1), some (.int x2), some (.int x3)], [.int 1], zhp p6)) rfl ?_
                cases H
                exact zEv_r rfl
              · have ex : x1 = 2 := zeqI hh (by decide)
                replace H := zif_f (fun e => by rw [ex] at e; exact absurd e (by decide)) H
                replace H := zif_t ex H
                refine zEv_k 2 (f' := (73, [some (.ref 198), some (.int x1), some (.int x2), some (.int x3)], [.int x2, .ref 198], zhp h)) rfl ?_
                obtain ⟨p7, hp7, H⟩ := zbs H
                refine zEv_c (fun _ => rfl) rfl (t_qRu_wiredDown (oo := 198) (x1 := x2) (h := h) (d := d + 1) (by decide) hp7) rfl rfl ?_
                obtain ⟨c8, H⟩ := zifn H
                cases H
                exact zEv_rz rfl rfl c8
              · have ex : x1 = 3 := zeqI hh (by decide)
                replace H := zif_f (fun e => by rw [ex] at e; exact absurd e (by decide)) H
                replace H := zif_f (fun e => by rw [ex] at e; exact absurd e (by decide)) H
                replace H := zif_t ex H
                refine zEv_k 2 (f' := (79, [some (.ref 198), some (.int x1), some (.int x2), some (.int x3)], [.int x2, .ref 198], zhp h)) rfl ?_
                obtain ⟨p9, hp9, H⟩ := zbs H
                refine zEv_c (fun _ => rfl) rfl (t_qRu_becameTainted (oo := 198) (x1 := x2) (h := h) (d := d + 1) (by decide) hp9) rfl rfl ?_
                obtain ⟨c10, H⟩ := zifn H
                cases H
                exact zEv_rz rfl rfl c10
              · have ex : x1 = 4 := zeqI hh (by decide)
                replace H := zif_f (fun e => by rw [ex] at e; exact absurd e (by decide)) H
                replace H := zif_f (fun e => by rw [ex] at e; exact absurd e (by decide)) H
                replace H := zif_f (fun e => by rw [ex] at e; exact absurd e (by decide)) H
                replace H := zif_t ex H
                refine zEv_k 3 (f' := (86, [some (.ref 198), some (.int x1), some (.int x2), some (.int x3)], [.int x3, .int x2, .ref 198], zhp h)) rfl ?_
                obtain ⟨p11, hp11, H⟩ := zbs H
                refine zEv_c (fun _ => rfl) rfl (t_qRu_movedTo (oo := 198) (x1 := x2) (x2 := x3) (h := h) (d := d + 2) (by decide) hp11) rfl rfl ?_
                obtain ⟨c12, H⟩ := zifn H
                cases H
                exact zEv_rz rfl rfl c12
          · replace H := zif_f c5 H
            refine zEv_k 1 (f' := (32, [some (.ref 198), some (.int x1), some (.int x2), some (.int x3)], [.int 0], zhp h)) rfl ?_
            cases H
            exact zEv_r rfl
    · replace H := zif_f c1 H
      refine zEv_k 1 (f' := (5, [some (.ref 198), some (.int x1), some (.int x2), some (.int x3)], [.ref 198], zhp h)) rfl ?_
      obtain ⟨p13, hp13, H⟩ := zbs H
      refine zEv_c (fun _ => rfl) rfl (t_qRu_passedYear (oo := 198) (h := h) (d := d) (by decide) hp13) rfl rfl ?_
      obtain ⟨c14, H⟩ := zifn H
      cases H
      exact zEv_rz rfl rfl c14
def qRu_follow_b2 (oe : Nat) (oo : Nat) (x2 : Int32) (s : Int32 × zK) : Option ((Int32 × zK) ⊕ ((zK) ⊕ (Int32 × zK))) :=
  if x2 ≤ s.1 then
    some (.inr (.inl s.2))
  else
    if (gI s.2 oe 0) ≤ s.1 then
      some (.inr (.inl s.2))
    else
      (zix s.1 40).bind fun j3 =>
      (qRu_did oo (gI s.2 (oe + 1) j3) (gI s.2 (oe + 2) j3) (gI s.2 (oe + 3) j3) s.2).bind fun p4 =>
      if ¬ p4.1 = 0 then
        some (.inl (s.1 + 1, p4.2))
      else
        some (.inr (.inr (s.1, p4.2)))
theorem t_qRu_follow_b2b {Ls : Nat} {xs : Nat → Int32} {d : Nat} {oe : Nat} {oo : Nat} {x2 : Int32} {r : zA} {s : Int32 × zK} {e : (Int32 × zK) ⊕ ((zK) ⊕ (Int32 × zK))} (ho : (oe = 15 ∧ oo = 166) ∨ (oe = 30 ∧ oo = 166) ∨ (oe = 15 ∧ oo = 198) ∨ (oe = 30 ∧ oo = 198)) (H : qRu_follow_b2 oe oo x2 s = some e) (K : match (generalizing := false) e with | .inl s' => zEv (zXs Ls xs) (d + 4) zm_71 (2, [some (.ref oo), some (.ref oe), some (.int x2), some (.int s'.1)], [], zhp s'.2) r | .inr (.inl v) => ∀ (z3 : Option Value), zEv (zXs Ls xs) (d + 4) zm_71 (48, [some (.ref oo), some (.ref oe), some (.int x2), z3], [], zhp v) r | .inr (.inr p) => (some (.int p.1), zhp p.2) = r) : zEv (zXs Ls xs) (d + 4) zm_71 (2, [some (.ref oo), some (.ref oe), some (.int x2), some (.int s.1)], [], zhp s.2) r := by
  unfold qRu_follow_b2 at H
  rcases ho with ⟨rfl, rfl⟩ | ⟨rfl, rfl⟩ | ⟨rfl, rfl⟩ | ⟨rfl, rfl⟩
  · refine zEv_k 3 (f' := (if x2 ≤ s.1 then 48 else 7, [some (.ref 166), some (.ref 15), some (.int x2), some (.int s.1)], [], zhp s.2)) rfl (zEv_if (fun c1 => ?_) (fun c1 => ?_))
    · replace H := zif_t c1 H
      cases H
      exact K _
    · replace H := zif_f c1 H
      refine zEv_k 4 (f' := (if (gI s.2 15 0) ≤ s.1 then 48 else 15, [some (.ref 166), some (.ref 15), some (.int x2), some (.int s.1)], [], zhp s.2)) rfl (zEv_if (fun c2 => ?_) (fun c2 => ?_))
      · replace H := zif_t c2 H
        cases H
        exact K _
      · replace H := zif_f c2 H
        refine zEv_k 2 (f' := (17, [some (.ref 166), some (.ref 15), some (.int x2), some (.int s.1)], [.ref 15, .ref 166], zhp s.2)) rfl ?_
        refine zRgr rfl rfl rfl (by decide) (b := 15 + 1) rfl ?_
        refine zEv_k 1 (f' := (21, [some (.ref 166), some (.ref 15), some (.int x2), some (.int s.1)], [.int s.1, .ref (15 + 1), .ref 166], zhp s.2)) rfl ?_
        obtain ⟨j3, hj3, H⟩ := zbs H
        refine zRia rfl rfl (by decide) hj3 ?_
        refine zEv_k 1 (f' := (23, [some (.ref 166), some (.ref 15), some (.int x2), some (.int s.1)], [.ref 15, .int (gI s.2 (15 + 1) j3), .ref 166], zhp s.2)) rfl ?_
        refine zRgr rfl rfl rfl (by decide) (b := 15 + 2) rfl ?_
        refine zEv_k 1 (f' := (27, [some (.ref 166), some (.ref 15), some (.int x2), some (.int s.1)], [.int s.1, .ref (15 + 2), .int (gI s.2 (15 + 1) j3), .ref 166], zhp s.2)) rfl ?_
        refine zRia rfl rfl (by decide) hj3 ?_
        refine zEv_k 1 (f' := (29, [some (.ref 166), some (.ref 15), some (.int x2), some (.int s.1)], [.ref 15, .int (gI s.2 (15 + 2) j3), .int (gI s.2 (15 + 1) j3), .ref 166], zhp s.2)) rfl ?_
        refine zRgr rfl rfl rfl (by decide) (b := 15 + 3) rfl ?_
        refine zEv_k 1 (f' := (33, [some (.ref 166), some (.ref 15), some (.int x2), some (.int s.1)], [.int s.1, .ref (15 + 3), .int (gI s.2 (15 + 2) j3), .int (gI s.2 (15 + 1) j3), .ref 166], zhp s.2)) rfl ?_
        refine zRia rfl rfl (by decide) hj3 ?_
        obtain ⟨p4, hp4, H⟩ := zbs H
        refine zEv_c (fun _ => rfl) rfl (t_qRu_did (oo := 166) (x1 := gI s.2 (15 + 1) j3) (x2 := gI s.2 (15 + 2) j3) (x3 := gI s.2 (15 + 3) j3) (h := s.2) (d := d) (by decide) hp4) rfl rfl ?_
        refine zEv_k 1 (f' := (if ¬ p4.1 = 0 then 42 else 40, [some (.ref 166), some (.ref 15), some (.int x2), some (.int s.1)], [], zhp p4.2)) rfl (zEv_if (fun c5 => ?_) (fun c5 => ?_))
        · replace H := zif_t c5 H
          refine zEv_k 2 (f' := (2, [some (.ref 166), some (.ref 15), some (.int x2), some (.int (s.1 + 1))], [], zhp p4.2)) rfl ?_
          cases H
          exact K
        · replace H := zif_f c5 H
          refine zEv_k 1 (f' := (41, [some (.ref 166), some (.ref 15), some (.int x2), some (.int s.1)], [.int s.1], zhp p4.2)) rfl ?_
          cases H
          exact zEv_re K rfl
  · refine zEv_k 3 (f' := (if x2 ≤ s.1 then 48 else 7, [some (.ref 166), some (.ref 30), some (.int x2), some (.int s.1)], [], zhp s.2)) rfl (zEv_if (fun c1 => ?_) (fun c1 => ?_))
    · replace H := zif_t c1 H
      cases H
      exact K _
    · replace H := zif_f c1 H
      refine zEv_k 4 (f' := (if (gI s.2 30 0) ≤ s.1 then 48 else 15, [some (.ref 166), some (.ref 30), some (.int x2), some (.int s.1)], [], zhp s.2)) rfl (zEv_if (fun c2 => ?_) (fun c2 => ?_))
      · replace H := zif_t c2 H
        cases H
        exact K _
      · replace H := zif_f c2 H
        refine zEv_k 2 (f' := (17, [some (.ref 166), some (.ref 30), some (.int x2), some (.int s.1)], [.ref 30, .ref 166], zhp s.2)) rfl ?_
        refine zRgr rfl rfl rfl (by decide) (b := 30 + 1) rfl ?_
        refine zEv_k 1 (f' := (21, [some (.ref 166), some (.ref 30), some (.int x2), some (.int s.1)], [.int s.1, .ref (30 + 1), .ref 166], zhp s.2)) rfl ?_
        obtain ⟨j3, hj3, H⟩ := zbs H
        refine zRia rfl rfl (by decide) hj3 ?_
        refine zEv_k 1 (f' := (23, [some (.ref 166), some (.ref 30), some (.int x2), some (.int s.1)], [.ref 30, .int (gI s.2 (30 + 1) j3), .ref 166], zhp s.2)) rfl ?_
        refine zRgr rfl rfl rfl (by decide) (b := 30 + 2) rfl ?_
        refine zEv_k 1 (f' := (27, [some (.ref 166), some (.ref 30), some (.int x2), some (.int s.1)], [.int s.1, .ref (30 + 2), .int (gI s.2 (30 + 1) j3), .ref 166], zhp s.2)) rfl ?_
        refine zRia rfl rfl (by decide) hj3 ?_
        refine zEv_k 1 (f' := (29, [some (.ref 166), some (.ref 30), some (.int x2), some (.int s.1)], [.ref 30, .int (gI s.2 (30 + 2) j3), .int (gI s.2 (30 + 1) j3), .ref 166], zhp s.2)) rfl ?_
        refine zRgr rfl rfl rfl (by decide) (b := 30 + 3) rfl ?_
        refine zEv_k 1 (f' := (33, [some (.ref 166), some (.ref 30), some (.int x2), some (.int s.1)], [.int s.1, .ref (30 + 3), .int (gI s.2 (30 + 2) j3), .int (gI s.2 (30 + 1) j3), .ref 166], zhp s.2)) rfl ?_
        refine zRia rfl rfl (by decide) hj3 ?_
        obtain ⟨p4, hp4, H⟩ := zbs H
        refine zEv_c (fun _ => rfl) rfl (t_qRu_did (oo := 166) (x1 := gI s.2 (30 + 1) j3) (x2 := gI s.2 (30 + 2) j3) (x3 := gI s.2 (30 + 3) j3) (h := s.2) (d := d) (by decide) hp4) rfl rfl ?_
        refine zEv_k 1 (f' := (if ¬ p4.1 = 0 then 42 else 40, [some (.ref 166), some (.ref 30), some (.int x2), some (.int s.1)], [], zhp p4.2)) rfl (zEv_if (fun c5 => ?_) (fun c5 => ?_))
        · replace H := zif_t c5 H
          refine zEv_k 2 (f' := (2, [some (.ref 166), some (.ref 30), some (.int x2), some (.int (s.1 + 1))], [], zhp p4.2)) rfl ?_
          cases H
          exact K
        · replace H := zif_f c5 H
          refine zEv_k 1 (f' := (41, [some (.ref 166), some (.ref 30), some (.int x2), some (.int s.1)], [.int s.1], zhp p4.2)) rfl ?_
          cases H
          exact zEv_re K rfl
  · refine zEv_k 3 (f' := (if x2 ≤ s.1 then 48 else 7, [some (.ref 198), some (.ref 15), some (.int x2), some (.int s.1)], [], zhp s.2)) rfl (zEv_if (fun c1 => ?_) (fun c1 => ?_))
    · replace H := zif_t c1 H
      cases H
      exact K _
    · replace H := zif_f c1 H
      refine zEv_k 4 (f' := (if (gI s.2 15 0) ≤ s.1 then 48 else 15, [some (.ref 198), some (.ref 15), some (.int x2), some (.int s.1)], [], zhp s.2)) rfl (zEv_if (fun c2 => ?_) (fun c2 => ?_))
      · replace H := zif_t c2 H
        cases H
        exact K _
      · replace H := zif_f c2 H
        refine zEv_k 2 (f' := (17, [some (.ref 198), some (.ref 15), some (.int x2), some (.int s.1)], [.ref 15, .ref 198], zhp s.2)) rfl ?_
        refine zRgr rfl rfl rfl (by decide) (b := 15 + 1) rfl ?_
        refine zEv_k 1 (f' := (21, [some (.ref 198), some (.ref 15), some (.int x2), some (.int s.1)], [.int s.1, .ref (15 + 1), .ref 198], zhp s.2)) rfl ?_
        obtain ⟨j3, hj3, H⟩ := zbs H
        refine zRia rfl rfl (by decide) hj3 ?_
        refine zEv_k 1 (f' := (23, [some (.ref 198), some (.ref 15), some (.int x2), some (.int s.1)], [.ref 15, .int (gI s.2 (15 + 1) j3), .ref 198], zhp s.2)) rfl ?_
        refine zRgr rfl rfl rfl (by decide) (b := 15 + 2) rfl ?_
        refine zEv_k 1 (f' := (27, [some (.ref 198), some (.ref 15), some (.int x2), some (.int s.1)], [.int s.1, .ref (15 + 2), .int (gI s.2 (15 + 1) j3), .ref 198], zhp s.2)) rfl ?_
        refine zRia rfl rfl (by decide) hj3 ?_
        refine zEv_k 1 (f' := (29, [some (.ref 198), some (.ref 15), some (.int x2), some (.int s.1)], [.ref 15, .int (gI s.2 (15 + 2) j3), .int (gI s.2 (15 + 1) j3), .ref 198], zhp s.2)) rfl ?_
        refine zRgr rfl rfl rfl (by decide) (b := 15 + 3) rfl ?_
        refine zEv_k 1 (f' := (33, [some (.ref 198), some (.ref 15), some (.int x2), some (.int s.1)], [.int s.1, .ref (15 + 3), .int (gI s.2 (15 + 2) j3), .int (gI s.2 (15 + 1) j3), .ref 198], zhp s.2)) rfl ?_
        refine zRia rfl rfl (by decide) hj3 ?_
        obtain ⟨p4, hp4, H⟩ := zbs H
        refine zEv_c (fun _ => rfl) rfl (t_qRu_did (oo := 198) (x1 := gI s.2 (15 + 1) j3) (x2 := gI s.2 (15 + 2) j3) (x3 := gI s.2 (15 + 3) j3) (h := s.2) (d := d) (by decide) hp4) rfl rfl ?_
        refine zEv_k 1 (f' := (if ¬ p4.1 = 0 then 42 else 40, [some (.ref 198), some (.ref 15), some (.int x2), some (.int s.1)], [], zhp p4.2)) rfl (zEv_if (fun c5 => ?_) (fun c5 => ?_))
        · replace H := zif_t c5 H
          refine zEv_k 2 (f' := (2, [some (.ref 198), some (.ref 15), some (.int x2), some (.int (s.1 + 1))], [], zhp p4.2)) rfl ?_
          cases H
          exact K
        · replace H := zif_f c5 H
          refine zEv_k 1 (f' := (41, [some (.ref 198), some (.ref 15), some (.int x2), some (.int s.1)], [.int s.1], zhp p4.2)) rfl ?_
          cases H
          exact zEv_re K rfl
  · refine zEv_k 3 (f' := (if x2 ≤ s.1 then 48 else 7, [some (.ref 198), some (.ref 30), some (.int x2), some (.int s.1)], [], zhp s.2)) rfl (zEv_if (fun c1 => ?_) (fun c1 => ?_))
    · replace H := zif_t c1 H
      cases H
      exact K _
    · replace H := zif_f c1 H
      refine zEv_k 4 (f' := (if (gI s.2 30 0) ≤ s.1 then 48 else 15, [some (.ref 198), some (.ref 30), some (.int x2), some (.int s.1)], [], zhp s.2)) rfl (zEv_if (fun c2 => ?_) (fun c2 => ?_))
      · replace H := zif_t c2 H
        cases H
        exact K _
      · replace H := zif_f c2 H
        refine zEv_k 2 (f' := (17, [some (.ref 198), some (.ref 30), some (.int x2), some (.int s.1)], [.ref 30, .ref 198], zhp s.2)) rfl ?_
        refine zRgr rfl rfl rfl (by decide) (b := 30 + 1) rfl ?_
        refine zEv_k 1 (f' := (21, [some (.ref 198), some (.ref 30), some (.int x2), some (.int s.1)], [.int s.1, .ref (30 + 1), .ref 198], zhp s.2)) rfl ?_
        obtain ⟨j3, hj3, H⟩ := zbs H
        refine zRia rfl rfl (by decide) hj3 ?_
        refine zEv_k 1 (f' := (23, [some (.ref 198), some (.ref 30), some (.int x2), some (.int s.1)], [.ref 30, .int (gI s.2 (30 + 1) j3), .ref 198], zhp s.2)) rfl ?_
        refine zRgr rfl rfl rfl (by decide) (b := 30 + 2) rfl ?_
        refine zEv_k 1 (f' := (27, [some (.ref 198), some (.ref 30), some (.int x2), some (.int s.1)], [.int s.1, .ref (30 + 2), .int (gI s.2 (30 + 1) j3), .ref 198], zhp s.2)) rfl ?_
        refine zRia rfl rfl (by decide) hj3 ?_
        refine zEv_k 1 (f' := (29, [some (.ref 198), some (.ref 30), some (.int x2), some (.int s.1)], [.ref 30, .int (gI s.2 (30 + 2) j3), .int (gI s.2 (30 + 1) j3), .ref 198], zhp s.2)) rfl ?_
        refine zRgr rfl rfl rfl (by decide) (b := 30 + 3) rfl ?_
        refine zEv_k 1 (f' := (33, [some (.ref 198), some (.ref 30), some (.int x2), some (.int s.1)], [.int s.1, .ref (30 + 3), .int (gI s.2 (30 + 2) j3), .int (gI s.2 (30 + 1) j3), .ref 198], zhp s.2)) rfl ?_
        refine zRia rfl rfl (by decide) hj3 ?_
        obtain ⟨p4, hp4, H⟩ := zbs H
        refine zEv_c (fun _ => rfl) rfl (t_qRu_did (oo := 198) (x1 := gI s.2 (30 + 1) j3) (x2 := gI s.2 (30 + 2) j3) (x3 := gI s.2 (30 + 3) j3) (h := s.2) (d := d) (by decide) hp4) rfl rfl ?_
        refine zEv_k 1 (f' := (if ¬ p4.1 = 0 then 42 else 40, [some (.ref 198), some (.ref 30), some (.int x2), some (.int s.1)], [], zhp p4.2)) rfl (zEv_if (fun c5 => ?_) (fun c5 => ?_))
        · replace H := zif_t c5 H
          refine zEv_k 2 (f' := (2, [some (.ref 198), some (.ref 30), some (.int x2), some (.int (s.1 + 1))], [], zhp p4.2)) rfl ?_
          cases H
          exact K
        · replace H := zif_f c5 H
          refine zEv_k 1 (f' := (41, [some (.ref 198), some (.ref 30), some (.int x2), some (.int s.1)], [.int s.1], zhp p4.2)) rfl ?_
          cases H
          exact zEv_re K rfl
theorem t_qRu_follow_b2 {Ls : Nat} {xs : Nat → Int32} {d : Nat} {oe : Nat} {oo : Nat} {x2 : Int32} {r : zA} (ho : (oe = 15 ∧ oo = 166) ∨ (oe = 30 ∧ oo = 166) ∨ (oe = 15 ∧ oo = 198) ∨ (oe = 30 ∧ oo = 198)) {t : (zK) ⊕ (Int32 × zK)} (K : (match (generalizing := false) t with | .inl v => ∀ (z3 : Option Value), zEv (zXs Ls xs) (d + 4) zm_71 (48, [some (.ref oo), some (.ref oe), some (.int x2), z3], [], zhp v) r | .inr p => (some (.int p.1), zhp p.2) = r)) (n : Nat) (s : Int32 × zK) (H : zloop (qRu_follow_b2 oe oo x2) n s = some t) : zEv (zXs Ls xs) (d + 4) zm_71 (2, [some (.ref oo), some (.ref oe), some (.int x2), some (.int s.1)], [], zhp s.2) r := by
  have Z := zloop_P (P := fun s => zEv (zXs Ls xs) (d + 4) zm_71 (2, [some (.ref oo), some (.ref oe), some (.int x2), some (.int s.1)], [], zhp s.2) r) (b := qRu_follow_b2 oe oo x2) (t := t) (fun s s2 hb hk => by exact t_qRu_follow_b2b ho hb hk) (fun s hb => by rcases t with v | p <;> (exact t_qRu_follow_b2b ho hb K)) n s H
  exact Z
def qRu_follow (oo : Nat) (oe : Nat) (x2 : Int32) (h : zK) : Option (Int32 × zK) :=
  (zloop (qRu_follow_b2 oe oo x2) zfu (0, h)).bind fun t6 => match t6 with
  | .inr p => some p
  | .inl v7 =>
    some (zf_min x2 (gI v7 oe 0), v7)
theorem t_qRu_follow {Ls : Nat} {xs : Nat → Int32} {d : Nat} {oo : Nat} {oe : Nat} {x2 : Int32} {h : zK} {p : Int32 × zK} (ho : (oe = 15 ∧ oo = 166) ∨ (oe = 30 ∧ oo = 166) ∨ (oe = 15 ∧ oo = 198) ∨ (oe = 30 ∧ oo = 198)) (H : qRu_follow oo oe x2 h = some p) : zEv (zXs Ls xs) (d + 4) zm_71 (0, [some (.ref oo), some (.ref oe), some (.int x2), none], [], zhp h) (some (.int p.1), zhp p.2) := by
  unfold qRu_follow at H
  rcases ho with ⟨rfl, rfl⟩ | ⟨rfl, rfl⟩ | ⟨rfl, rfl⟩ | ⟨rfl, rfl⟩
  · refine zEv_k 2 (f' := (2, [some (.ref 166), some (.ref 15), some (.int x2), some (.int 0)], [], zhp h)) rfl ?_
    obtain ⟨t6, ht6, H⟩ := zbs H
    refine t_qRu_follow_b2 (oe := 15) (oo := 166) (x2 := x2) (by decide) ?_ zfu _ ht6
    rcases t6 with v7 | p
    · intro y3
      dsimp only at H
      refine zEv_k 4 (f' := (56, [some (.ref 166), some (.ref 15), some (.int x2), y3], [.int (zf_min x2 (gI v7 15 0))], zhp v7)) rfl ?_
      cases H
      exact zEv_r rfl
    · cases H
      exact rfl
  · refine zEv_k 2 (f' := (2, [some (.ref 166), some (.ref 30), some (.int x2), some (.int 0)], [], zhp h)) rfl ?_
    obtain ⟨t6, ht6, H⟩ := zbs H
    refine t_qRu_follow_b2 (oe := 30) (oo := 166) (x2 := x2) (by decide) ?_ zfu _ ht6
    rcases t6 with v7 | p
    · intro y3
      dsimp only at H
      refine zEv_k 4 (f' := (56, [some (.ref 166), some (.ref 30), some (.int x2), y3], [.int (zf_min x2 (gI v7 30 0))], zhp v7)) rfl ?_
      cases H
      exact zEv_r rfl
    · cases H
      exact rfl
  · refine zEv_k 2 (f' := (2, [some (.ref 198), some (.ref 15), some (.int x2), some (.int 0)], [], zhp h)) rfl ?_
    obtain ⟨t6, ht6, H⟩ := zbs H
    refine t_qRu_follow_b2 (oe := 15) (oo := 198) (x2 := x2) (by decide) ?_ zfu _ ht6
    rcases t6 with v7 | p
    · intro y3
      dsimp only at H
      refine zEv_k 4 (f' := (56, [some (.ref 198), some (.ref 15), some (.int x2), y3], [.int (zf_min x2 (gI v7 15 0))], zhp v7)) rfl ?_
      cases H
      exact zEv_r rfl
    · cases H
      exact rfl
  · refine zEv_k 2 (f' := (2, [some (.ref 198), some (.ref 30), some (.int x2), some (.int 0)], [], zhp h)) rfl ?_
    obtain ⟨t6, ht6, H⟩ := zbs H
    refine t_qRu_follow_b2 (oe := 30) (oo := 198) (x2 := x2) (by decide) ?_ zfu _ ht6
    rcases t6 with v7 | p
    · intro y3
      dsimp only at H
      refine zEv_k 4 (f' := (56, [some (.ref 198), some (.ref 30), some (.int x2), y3], [.int (zf_min x2 (gI v7 30 0))], zhp v7)) rfl ?_
      cases H
      exact zEv_r rfl
    · cases H
      exact rfl
def qRu_below (oo : Nat) (x1 : Int32) (h : zK) : Option (Int32 × zK) :=
  zlet (sI h oo 15 (((gI h oo 15) * 1103515245) + 12345)) fun h1 =>
  if x1 ≤ 0 then
    some (0, h1)
  else
    if ¬ x1 = 0 then
      some (((Int32.toUInt32 (gI h1 oo 15) >>> (Int32.toUInt32 16 &&& Int32.toUInt32 31)).toInt32) - ((Int32.toUInt32 (gI h1 oo 15) >>> (Int32.toUInt32 16 &&& Int32.toUInt32 31)).toInt32) / x1 * x1, h1)
    else none
theorem t_qRu_below {Ls : Nat} {xs : Nat → Int32} {d : Nat} {oo : Nat} {x1 : Int32} {h : zK} {p : Int32 × zK} (ho : oo = 166 ∨ oo = 198) (H : qRu_below oo x1 h = some p) : zEv (zXs Ls xs) d zm_85 (0, [some (.ref oo), some (.int x1)], [], zhp h) (some (.int p.1), zhp p.2) := by
  unfold qRu_below at H
  rcases ho with rfl | rfl
  · obtain ⟨h1, eh1, H⟩ := zlets H
    refine zEv_w (F := fun z => (15, [some (.ref 166), some (.int x1)], [], zhp z)) (h0 := sI h 166 15 (((gI h 166 15) * 1103515245) + 12345)) 8 rfl eh1 ?_
    refine zEv_k 2 (f' := (if x1 ≤ 0 then 31 else 19, [some (.ref 166), some (.int x1)], [], zhp h1)) rfl (zEv_if (fun c2 => ?_) (fun c2 => ?_))
    · replace H := zif_t c2 H
      refine zEv_k 1 (f' := (32, [some (.ref 166), some (.int x1)], [.int 0], zhp h1)) rfl ?_
      cases H
      exact zEv_r rfl
    · replace H := zif_f c2 H
      refine zEv_k 5 (f' := (27, [some (.ref 166), some (.int x1)], [.int x1, .int ((Int32.toUInt32 (gI h1 166 15) >>> (Int32.toUInt32 16 &&& Int32.toUInt32 31)).toInt32)], zhp h1)) rfl ?_
      obtain ⟨c3, H⟩ := zifn H
      refine zEv_rem rfl c3 ?_
      refine zEv_k 1 (f' := (32, [some (.ref 166), some (.int x1)], [.int (((Int32.toUInt32 (gI h1 166 15) >>> (Int32.toUInt32 16 &&& Int32.toUInt32 31)).toInt32) - ((Int32.toUInt32 (gI h1 166 15) >>> (Int32.toUInt32 16 &&& Int32.toUInt32 31)).toInt32) / x1 * x1)], zhp h1)) rfl ?_
      cases H
      exact zEv_r rfl
  · obtain ⟨h1, eh1, H⟩ := zlets H
    refine zEv_w (F := fun z => (15, [some (.ref 198), some (.int x1)], [], zhp z)) (h0 := sI h 198 15 (((gI h 198 15) * 1103515245) + 12345)) 8 rfl eh1 ?_
    refine zEv_k 2 (f' := (if x1 ≤ 0 then 31 else 19, [some (.ref 198), some (.int x1)], [], zhp h1)) rfl (zEv_if (fun c2 => ?_) (fun c2 => ?_))
    · replace H := zif_t c2 H
      refine zEv_k 1 (f' := (32, [some (.ref 198), some (.int x1)], [.int 0], zhp h1)) rfl ?_
      cases H
      exact zEv_r rfl
    · replace H := zif_f c2 H
      refine zEv_k 5 (f' := (27, [some (.ref 198), some (.int x1)], [.int x1, .int ((Int32.toUInt32 (gI h1 198 15) >>> (Int32.toUInt32 16 &&& Int32.toUInt32 31)).toInt32)], zhp h1)) rfl ?_
      obtain ⟨c3, H⟩ := zifn H
      refine zEv_rem rfl c3 ?_
      refine zEv_k 1 (f' := (32, [some (.ref 198), some (.int x1)], [.int (((Int32.toUInt32 (gI h1 198 15) >>> (Int32.toUInt32 16 &&& Int32.toUInt32 31)).toInt32) - ((Int32.toUInt32 (gI h1 198 15) >>> (Int32.toUInt32 16 &&& Int32.toUInt32 31)).toInt32) / x1 * x1)], zhp h1)) rfl ?_
      cases H
      exact zEv_r rfl
def qRu_kindDrawn (x0 : Int32) : Option (Int32) :=
  if x0 = 4 then
    some 1
  else if x0 = 5 then
    some 1
  else if x0 = 6 then
    some 2
  else if x0 = 7 then
    some 3
  else if x0 = 8 then
    some 4
  else if x0 = 9 then
    some 4
  else
    some 0
theorem t_qRu_kindDrawn {Ls : Nat} {xs : Nat → Int32} {d : Nat} {x0 : Int32} {h : zK} {p : Int32} (H : qRu_kindDrawn x0 = some p) : zEv (zXs Ls xs) d zm_86 (0, [some (.int x0)], [], zhp h) (some (.int p), zhp h) := by
  unfold qRu_kindDrawn at H
  refine zEv_k 1 (f' := (1, [some (.int x0)], [.int x0], zhp h)) rfl ?_
  refine zEv_ts rfl (by decide) (by decide) (by decide) (fun hh => ?_) (fun j hj hh => ?_)
  · replace H := zif_f (fun e => (by rw [e] at hh; exact absurd hh (by decide))) H
    replace H := zif_f (fun e => (by rw [e] at hh; exact absurd hh (by decide))) H
    replace H := zif_f (fun e => (by rw [e] at hh; exact absurd hh (by decide))) H
    replace H := zif_f (fun e => (by rw [e] at hh; exact absurd hh (by decide))) H
    replace H := zif_f (fun e => (by rw [e] at hh; exact absurd hh (by decide))) H
    replace H := zif_f (fun e => (by rw [e] at hh; exact absurd hh (by decide))) H
    refine zEv_k 1 (f' := (49, [some (.int x0)], [.int 0], zhp h)) rfl ?_
    cases H
    exact zEv_r rfl
  · rcases (by have hj2 : j < 6 := hj; omega : j = 0 ∨ j = 1 ∨ j = 2 ∨ j = 3 ∨ j = 4 ∨ j = 5) with rfl | rfl | rfl | rfl | rfl | rfl
    · have ex : x0 = 4 := zeqI hh (by decide)
      replace H := zif_t ex H
      refine zEv_k 1 (f' := (41, [some (.int x0)], [.int 1], zhp h)) rfl ?_
      cases H
      exact zEv_r rfl
    · have ex : x0 = 5 := zeqI hh (by decide)
      replace H := zif_f (fun e => by rw [ex] at e; exact absurd e (by decide)) H
      replace H := zif_t ex H
      refine zEv_k 1 (f' := (41, [some (.int x0)], [.int 1], zhp h)) rfl ?_
      cases H
      exact zEv_r rfl
    · have ex : x0 = 6 := zeqI hh (by decide)
      replace H := zif_f (fun e => by rw [ex] at e; exact absurd e (by decide)) H
      replace H := zif_f (fun e => by rw [ex] at e; exact absurd e (by decide)) H
      replace H := zif_t ex H
      refine zEv_k 1 (f' := (43, [some (.int x0)], [.int 2], zhp h)) rfl ?_
      cases H
      exact zEv_r rfl
    · have ex : x0 = 7 := zeqI hh (by decide)
      replace H := zif_f (fun e => by rw [ex] at e; exact absurd e (by decide)) H
      replace H := zif_f (fun e => by rw [ex] at e; exact absurd e (by decide)) H
      replace H := zif_f (fun e => by rw [ex] at e; exact absurd e (by decide)) H
      replace H := zif_t ex H
      refine zEv_k 1 (f' := (45, [some (.int x0)], [.int 3], zhp h)) rfl ?_
      cases H
      exact zEv_r rfl
    · have ex : x0 = 8 := zeqI hh (by decide)
      replace H := zif_f (fun e => by rw [ex] at e; exact absurd e (by decide)) H
      replace H := zif_f (fun e => by rw [ex] at e; exact absurd e (by decide)) H
      replace H := zif_f (fun e => by rw [ex] at e; exact absurd e (by decide)) H
      replace H := zif_f (fun e => by rw [ex] at e; exact absurd e (by decide)) H
      replace H := zif_t ex H
      refine zEv_k 1 (f' := (47, [some (.int x0)], [.int 4], zhp h)) rfl ?_
      cases H
      exact zEv_r rfl
    · have ex : x0 = 9 := zeqI hh (by decide)
      replace H := zif_f (fun e => by rw [ex] at e; exact absurd e (by decide)) H
      replace H := zif_f (fun e => by rw [ex] at e; exact absurd e (by decide)) H
      replace H := zif_f (fun e => by rw [ex] at e; exact absurd e (by decide)) H
      replace H := zif_f (fun e => by rw [ex] at e; exact absurd e (by decide)) H
      replace H := zif_f (fun e => by rw [ex] at e; exact absurd e (by decide)) H
      replace H := zif_t ex H
      refine zEv_k 1 (f' := (47, [some (.int x0)], [.int 4], zhp h)) rfl ?_
      cases H
      exact zEv_r rfl
def qRu_draw_b7 (oo : Nat) (x2 : Int32) (s : Int32 × zK) : Option ((Int32 × zK) ⊕ (zK)) :=
  if x2 ≤ s.1 then
    some (.inr s.2)
  else
    (qRu_below oo 10 s.2).bind fun p3 =>
    (qRu_kindDrawn p3.1).bind fun p4 =>
    Option.bind (
        if ¬ p4 = 0 then
          zlet (gR p3.2 oo) fun a7 =>
          if a7 = 7 ∨ a7 = 22 then
            if (gI p3.2 a7 2) ≤ 0 then
              some p3.2
            else
              zlet (gR p3.2 oo) fun a10 =>
              if a10 = 7 ∨ a10 = 22 then
                (qRu_below oo (gI p3.2 a10 2) p3.2).bind fun p12 =>
                Option.bind (
                    if ¬ p4 = 4 then
                      some (-1, p12.2)
                    else
                      (qRu_below oo 21 p12.2).bind fun p15 =>
                      some (p15.1, p15.2)
                  ) fun (v14 : Int32 × zK) =>
                (qRu_did oo p4 p12.1 v14.1 v14.2).bind fun p16 =>
                some p16.2
              else none
          else none
        else
          (qRu_passedYear oo p3.2).bind fun p17 =>
          some p17.2
      ) fun (v6 : zK) =>
    some (.inl (s.1 + 1, v6))
theorem t_qRu_draw_b7b {Ls : Nat} {xs : Nat → Int32} {d : Nat} {oo : Nat} {x2 : Int32} {r : zA} {s : Int32 × zK} {e : (Int32 × zK) ⊕ (zK)} (ho : oo = 166 ∨ oo = 198) (H : qRu_draw_b7 oo x2 s = some e) (K : match (generalizing := false) e with | .inl s' => ∀ (z1 : Option Value) (z4 : Option Value) (z5 : Option Value), zEv (zXs Ls xs) (d + 4) zm_74 (7, [some (.ref oo), z1, some (.int x2), some (.int s'.1), z4, z5], [], zhp s'.2) r | .inr v => ∀ (z1 : Option Value) (z3 : Option Value) (z4 : Option Value) (z5 : Option Value), zEv (zXs Ls xs) (d + 4) zm_74 (90, [some (.ref oo), z1, some (.int x2), z3, z4, z5], [], zhp v) r) (y1 : Option Value) (y4 : Option Value) (y5 : Option Value) : zEv (zXs Ls xs) (d + 4) zm_74 (7, [some (.ref oo), y1, some (.int x2), some (.int s.1), y4, y5], [], zhp s.2) r := by
  unfold qRu_draw_b7 at H
  rcases ho with rfl | rfl
  · refine zEv_k 3 (f' := (if x2 ≤ s.1 then 90 else 12, [some (.ref 166), y1, some (.int x2), some (.int s.1), y4, y5], [], zhp s.2)) rfl (zEv_if (fun c2 => ?_) (fun c2 => ?_))
    · replace H := zif_t c2 H
      cases H
      exact K _ _ _ _
    · replace H := zif_f c2 H
      refine zEv_k 2 (f' := (15, [some (.ref 166), y1, some (.int x2), some (.int s.1), y4, y5], [.int 10, .ref 166], zhp s.2)) rfl ?_
      obtain ⟨p3, hp3, H⟩ := zbs H
      refine zEv_c (fun _ => rfl) rfl (t_qRu_below (oo := 166) (x1 := 10) (h := s.2) (d := d + 3) (by decide) hp3) rfl rfl ?_
      obtain ⟨p4, hp4, H⟩ := zbs H
      refine zEv_c (fun _ => rfl) rfl (t_qRu_kindDrawn (x0 := p3.1) (h := p3.2) (d := d + 3) hp4) rfl rfl ?_
      obtain ⟨v6, hv6, H⟩ := zbs H
      have kv6 : ∀ (y5 : Option Value), zEv (zXs Ls xs) (d + 4) zm_74 (84, [some (.ref 166), y1, some (.int x2), some (.int s.1), some (.int p4), y5], [], zhp v6) r := by
        intro y5
        refine zEv_k 2 (f' := (7, [some (.ref 166), y1, some (.int x2), some (.int (s.1 + 1)), some (.int p4), y5], [], zhp v6)) rfl ?_
        cases H
        exact K _ _ _
      clear H
      refine zEv_k 3 (f' := (if ¬ p4 = 0 then 36 else 28, [some (.ref 166), y1, some (.int x2), some (.int s.1), some (.int p4), y5], [], zhp p3.2)) rfl (zEv_if (fun c5 => ?_) (fun c5 => ?_))
      · replace hv6 := zif_t c5 hv6
        refine zEv_k 1 (f' := (37, [some (.ref 166), y1, some (.int x2), some (.int s.1), some (.int p4), y5], [.ref 166], zhp p3.2)) rfl ?_
        refine zRgc (by decide) rfl rfl rfl (by decide) ?_
        obtain ⟨a7, ea7, hv6⟩ := zlets hv6
        rw [ea7]
        obtain ⟨c8, hv6⟩ := zifn hv6
        rcases c8 with rfl | rfl
        · refine zEv_k 2 (f' := (if (gI p3.2 7 2) ≤ 0 then 84 else 46, [some (.ref 166), y1, some (.int x2), some (.int s.1), some (.int p4), y5], [], zhp p3.2)) rfl (zEv_if (fun c9 => ?_) (fun c9 => ?_))
          · replace hv6 := zif_t c9 hv6
            cases hv6
            exact kv6 _
          · replace hv6 := zif_f c9 hv6
            refine zEv_k 2 (f' := (48, [some (.ref 166), y1, some (.int x2), some (.int s.1), some (.int p4), y5], [.ref 166, .ref 166], zhp p3.2)) rfl ?_
            refine zRgc (by decide) rfl rfl rfl (by decide) ?_
            obtain ⟨a10, ea10, hv6⟩ := zlets hv6
            rw [ea10]
            obtain ⟨c11, hv6⟩ := zifn hv6
            rcases c11 with rfl | rfl
            · refine zEv_k 1 (f' := (54, [some (.ref 166), y1, some (.int x2), some (.int s.1), some (.int p4), y5], [.int (gI p3.2 7 2), .ref 166], zhp p3.2)) rfl ?_
              obtain ⟨p12, hp12, hv6⟩ := zbs hv6
              refine zEv_c (fun _ => rfl) rfl (t_qRu_below (oo := 166) (x1 := gI p3.2 7 2) (h := p3.2) (d := d + 3) (by decide) hp12) rfl rfl ?_
              obtain ⟨v14, hv14, hv6⟩ := zbs hv6
              have kv14 : zEv (zXs Ls xs) (d + 4) zm_74 (80, [some (.ref 166), y1, some (.int x2), some (.int s.1), some (.int p4), some (.int p12.1)], [.int v14.1, .int p12.1, .int p4, .ref 166], zhp v14.2) r := by
                obtain ⟨p16, hp16, hv6⟩ := zbs hv6
                refine zEv_c (fun _ => rfl) rfl (t_qRu_did (oo := 166) (x1 := p4) (x2 := p12.1) (x3 := v14.1) (h := v14.2) (d := d) (by decide) hp16) rfl rfl ?_
                refine zEv_k 1 (f' := (84, [some (.ref 166), y1, some (.int x2), some (.int s.1), some (.int p4), some (.int p12.1)], [], zhp p16.2)) rfl ?_
                cases hv6
                exact kv6 _
              clear hv6
              refine zEv_k 7 (f' := (if ¬ p4 = 4 then 79 else 70, [some (.ref 166), y1, some (.int x2), some (.int s.1), some (.int p4), some (.int p12.1)], [.int p12.1, .int p4, .ref 166], zhp p12.2)) rfl (zEv_if (fun c13 => ?_) (fun c13 => ?_))
              · replace hv14 := zif_t c13 hv14
                refine zEv_k 1 (f' := (80, [some (.ref 166), y1, some (.int x2), some (.int s.1), some (.int p4), some (.int p12.1)], [.int (-1), .int p12.1, .int p4, .ref 166], zhp p12.2)) rfl ?_
                cases hv14
                exact kv14
              · replace hv14 := zif_f c13 hv14
                refine zEv_k 2 (f' := (73, [some (.ref 166), y1, some (.int x2), some (.int s.1), some (.int p4), some (.int p12.1)], [.int 21, .ref 166, .int p12.1, .int p4, .ref 166], zhp p12.2)) rfl ?_
                obtain ⟨p15, hp15, hv14⟩ := zbs hv14
                refine zEv_c (fun _ => rfl) rfl (t_qRu_below (oo := 166) (x1 := 21) (h := p12.2) (d := d + 3) (by decide) hp15) rfl rfl ?_
                refine zEv_k 1 (f' := (80, [some (.ref 166), y1, some (.int x2), some (.int s.1), some (.int p4), some (.int p12.1)], [.int p15.1, .int p12.1, .int p4, .ref 166], zhp p15.2)) rfl ?_
                cases hv14
                exact kv14
            · refine zEv_k 1 (f' := (54, [some (.ref 166), y1, some (.int x2), some (.int s.1), some (.int p4), y5], [.int (gI p3.2 22 2), .ref 166], zhp p3.2)) rfl ?_
              obtain ⟨p12, hp12, hv6⟩ := zbs hv6
              refine zEv_c (fun _ => rfl) rfl (t_qRu_below (oo := 166) (x1 := gI p3.2 22 2) (h := p3.2) (d := d + 3) (by decide) hp12) rfl rfl ?_
              obtain ⟨v14, hv14, hv6⟩ := zbs hv6
              have kv14 : zEv (zXs Ls xs) (d + 4) zm_74 (80, [some (.ref 166), y1, some (.int x2), some (.int s.1), some (.int p4), some (.int p12.1)], [.int v14.1, .int p12.1, .int p4, .ref 166], zhp v14.2) r := by
                obtain ⟨p16, hp16, hv6⟩ := zbs hv6
                refine zEv_c (fun _ => rfl) rfl (t_qRu_did (oo := 166) (x1 := p4) (x2 := p12.1) (x3 := v14.1) (h := v14.2) (d := d) (by decide) hp16) rfl rfl ?_
                refine zEv_k 1 (f' := (84, [some (.ref 166), y1, some (.int x2), some (.int s.1), some (.int p4), some (.int p12.1)], [], zhp p16.2)) rfl ?_
                cases hv6
                exact kv6 _
              clear hv6
              refine zEv_k 7 (f' := (if ¬ p4 = 4 then 79 else 70, [some (.ref 166), y1, some (.int x2), some (.int s.1), some (.int p4), some (.int p12.1)], [.int p12.1, .int p4, .ref 166], zhp p12.2)) rfl (zEv_if (fun c13 => ?_) (fun c13 => ?_))
              · replace hv14 := zif_t c13 hv14
                refine zEv_k 1 (f' := (80, [some (.ref 166), y1, some (.int x2), some (.int s.1), some (.int p4), some (.int p12.1)], [.int (-1), .int p12.1, .int p4, .ref 166], zhp p12.2)) rfl ?_
                cases hv14
                exact kv14
              · replace hv14 := zif_f c13 hv14
                refine zEv_k 2 (f' := (73, [some (.ref 166), y1, some (.int x2), some (.int s.1), some (.int p4), some (.int p12.1)], [.int 21, .ref 166, .int p12.1, .int p4, .ref 166], zhp p12.2)) rfl ?_
                obtain ⟨p15, hp15, hv14⟩ := zbs hv14
                refine zEv_c (fun _ => rfl) rfl (t_qRu_below (oo := 166) (x1 := 21) (h := p12.2) (d := d + 3) (by decide) hp15) rfl rfl ?_
                refine zEv_k 1 (f' := (80, [some (.ref 166), y1, some (.int x2), some (.int s.1), some (.int p4), some (.int p12.1)], [.int p15.1, .int p12.1, .int p4, .ref 166], zhp p15.2)) rfl ?_
                cases hv14
                exact kv14
        · refine zEv_k 2 (f' := (if (gI p3.2 22 2) ≤ 0 then 84 else 46, [some (.ref 166), y1, some (.int x2), some (.int s.1), some (.int p4), y5], [], zhp p3.2)) rfl (zEv_if (fun c9 => ?_) (fun c9 => ?_))
          · replace hv6 := zif_t c9 hv6
            cases hv6
            exact kv6 _
          · replace hv6 := zif_f c9 hv6
            refine zEv_k 2 (f' := (48, [some (.ref 166), y1, some (.int x2), some (.int s.1), some (.int p4), y5], [.ref 166, .ref 166], zhp p3.2)) rfl ?_
            refine zRgc (by decide) rfl rfl rfl (by decide) ?_
            obtain ⟨a10, ea10, hv6⟩ := zlets hv6
            rw [ea10]
            obtain ⟨c11, hv6⟩ := zifn hv6
            rcases c11 with rfl | rfl
            · refine zEv_k 1 (f' := (54, [some (.ref 166), y1, some (.int x2), some (.int s.1), some (.int p4), y5], [.int (gI p3.2 7 2), .ref 166], zhp p3.2)) rfl ?_
              obtain ⟨p12, hp12, hv6⟩ := zbs hv6
              refine zEv_c (fun _ => rfl) rfl (t_qRu_below (oo := 166) (x1 := gI p3.2 7 2) (h := p3.2) (d := d + 3) (by decide) hp12) rfl rfl ?_
              obtain ⟨v14, hv14, hv6⟩ := zbs hv6
              have kv14 : zEv (zXs Ls xs) (d + 4) zm_74 (80, [some (.ref 166), y1, some (.int x2), some (.int s.1), some (.int p4), some (.int p12.1)], [.int v14.1, .int p12.1, .int p4, .ref 166], zhp v14.2) r := by
                obtain ⟨p16, hp16, hv6⟩ := zbs hv6
                refine zEv_c (fun _ => rfl) rfl (t_qRu_did (oo := 166) (x1 := p4) (x2 := p12.1) (x3 := v14.1) (h := v14.2) (d := d) (by decide) hp16) rfl rfl ?_
                refine zEv_k 1 (f' := (84, [some (.ref 166), y1, some (.int x2), some (.int s.1), some (.int p4), some (.int p12.1)], [], zhp p16.2)) rfl ?_
                cases hv6
                exact kv6 _
              clear hv6
              refine zEv_k 7 (f' := (if ¬ p4 = 4 then 79 else 70, [some (.ref 166), y1, some (.int x2), some (.int s.1), some (.int p4), some (.int p12.1)], [.int p12.1, .int p4, .ref 166], zhp p12.2)) rfl (zEv_if (fun c13 => ?_) (fun c13 => ?_))
              · replace hv14 := zif_t c13 hv14
                refine zEv_k 1 (f' := (80, [some (.ref 166), y1, some (.int x2), some (.int s.1), some (.int p4), some (.int p12.1)], [.int (-1), .int p12.1, .int p4, .ref 166], zhp p12.2)) rfl ?_
                cases hv14
                exact kv14
              · replace hv14 := zif_f c13 hv14
                refine zEv_k 2 (f' := (73, [some (.ref 166), y1, some (.int x2), some (.int s.1), some (.int p4), some (.int p12.1)], [.int 21, .ref 166, .int p12.1, .int p4, .ref 166], zhp p12.2)) rfl ?_
                obtain ⟨p15, hp15, hv14⟩ := zbs hv14
                refine zEv_c (fun _ => rfl) rfl (t_qRu_below (oo := 166) (x1 := 21) (h := p12.2) (d := d + 3) (by decide) hp15) rfl rfl ?_
                refine zEv_k 1 (f' := (80, [some (.ref 166), y1, some (.int x2), some (.int s.1), some (.int p4), some (.int p12.1)], [.int p15.1, .int p12.1, .int p4, .ref 166], zhp p15.2)) rfl ?_
                cases hv14
                exact kv14
            · refine zEv_k 1 (f' := (54, [some (.ref 166), y1, some (.int x2), some (.int s.1), some (.int p4), y5], [.int (gI p3.2 22 2), .ref 166], zhp p3.2)) rfl ?_
              obtain ⟨p12, hp12, hv6⟩ := zbs hv6
              refine zEv_c (fun _ => rfl) rfl (t_qRu_below (oo := 166) (x1 := gI p3.2 22 2) (h := p3.2) (d := d + 3) (by decide) hp12) rfl rfl ?_
              obtain ⟨v14, hv14, hv6⟩ := zbs hv6
              have kv14 : zEv (zXs Ls xs) (d + 4) zm_74 (80, [some (.ref 166), y1, some (.int x2), some (.int s.1), some (.int p4), some (.int p12.1)], [.int v14.1, .int p12.1, .int p4, .ref 166], zhp v14.2) r := by
                obtain ⟨p16, hp16, hv6⟩ := zbs hv6
                refine zEv_c (fun _ => rfl) rfl (t_qRu_did (oo := 166) (x1 := p4) (x2 := p12.1) (x3 := v14.1) (h := v14.2) (d := d) (by decide) hp16) rfl rfl ?_
                refine zEv_k 1 (f' := (84, [some (.ref 166), y1, some (.int x2), some (.int s.1), some (.int p4), some (.int p12.1)], [], zhp p16.2)) rfl ?_
                cases hv6
                exact kv6 _
              clear hv6
              refine zEv_k 7 (f' := (if ¬ p4 = 4 then 79 else 70, [some (.ref 166), y1, some (.int x2), some (.int s.1), some (.int p4), some (.int p12.1)], [.int p12.1, .int p4, .ref 166], zhp p12.2)) rfl (zEv_if (fun c13 => ?_) (fun c13 => ?_))
              · replace hv14 := zif_t c13 hv14
                refine zEv_k 1 (f' := (80, [some (.ref 166), y1, some (.int x2), some (.int s.1), some (.int p4), some (.int p12.1)], [.int (-1), .int p12.1, .int p4, .ref 166], zhp p12.2)) rfl ?_
                cases hv14
                exact kv14
              · replace hv14 := zif_f c13 hv14
                refine zEv_k 2 (f' := (73, [some (.ref 166), y1, some (.int x2), some (.int s.1), some (.int p4), some (.int p12.1)], [.int 21, .ref 166, .int p12.1, .int p4, .ref 166], zhp p12.2)) rfl ?_
                obtain ⟨p15, hp15, hv14⟩ := zbs hv14
                refine zEv_c (fun _ => rfl) rfl (t_qRu_below (oo := 166) (x1 := 21) (h := p12.2) (d := d + 3) (by decide) hp15) rfl rfl ?_
                refine zEv_k 1 (f' := (80, [some (.ref 166), y1, some (.int x2), some (.int s.1), some (.int p4), some (.int p12.1)], [.int p15.1, .int p12.1, .int p4, .ref 166], zhp p15.2)) rfl ?_
                cases hv14
                exact kv14
      · replace hv6 := zif_f c5 hv6
        refine zEv_k 1 (f' := (29, [some (.ref 166), y1, some (.int x2), some (.int s.1), some (.int p4), y5], [.ref 166], zhp p3.2)) rfl ?_
        obtain ⟨p17, hp17, hv6⟩ := zbs hv6
        refine zEv_c (fun _ => rfl) rfl (t_qRu_passedYear (oo := 166) (h := p3.2) (d := d + 1) (by decide) hp17) rfl rfl ?_
        refine zEv_k 2 (f' := (84, [some (.ref 166), y1, some (.int x2), some (.int s.1), some (.int p4), y5], [], zhp p17.2)) rfl ?_
        cases hv6
        exact kv6 _
  · refine zEv_k 3 (f' := (if x2 ≤ s.1 then 90 else 12, [some (.ref 198), y1, some (.int x2), some (.int s.1), y4, y5], [], zhp s.2)) rfl (zEv_if (fun c2 => ?_) (fun c2 => ?_))
    · replace H := zif_t c2 H
      cases H
      exact K _ _ _ _
    · replace H := zif_f c2 H
      refine zEv_k 2 (f' := (15, [some (.ref 198), y1, some (.int x2), some (.int s.1), y4, y5], [.int 10, .ref 198], zhp s.2)) rfl ?_
      obtain ⟨p3, hp3, H⟩ := zbs H
      refine zEv_c (fun _ => rfl) rfl (t_qRu_below (oo := 198) (x1 := 10) (h := s.2) (d := d + 3) (by decide) hp3) rfl rfl ?_
      obtain ⟨p4, hp4, H⟩ := zbs H
      refine zEv_c (fun _ => rfl) rfl (t_qRu_kindDrawn (x0 := p3.1) (h := p3.2) (d := d + 3) hp4) rfl rfl ?_
      obtain ⟨v6, hv6, H⟩ := zbs H
      have kv6 : ∀ (y5 : Option Value), zEv (zXs Ls xs) (d + 4) zm_74 (84, [some (.ref 198), y1, some (.int x2), some (.int s.1), some (.int p4), y5], [], zhp v6) r := by
        intro y5
        refine zEv_k 2 (f' := (7, [some (.ref 198), y1, some (.int x2), some (.int (s.1 + 1)), some (.int p4), y5], [], zhp v6)) rfl ?_
        cases H
        exact K _ _ _
      clear H
      refine zEv_k 3 (f' := (if ¬ p4 = 0 then 36 else 28, [some (.ref 198), y1, some (.int x2), some (.int s.1), some (.int p4), y5], [], zhp p3.2)) rfl (zEv_if (fun c5 => ?_) (fun c5 => ?_))
      · replace hv6 := zif_t c5 hv6
        refine zEv_k 1 (f' := (37, [some (.ref 198), y1, some (.int x2), some (.int s.1), some (.int p4), y5], [.ref 198], zhp p3.2)) rfl ?_
        refine zRgc (by decide) rfl rfl rfl (by decide) ?_
        obtain ⟨a7, ea7, hv6⟩ := zlets hv6
        rw [ea7]
        obtain ⟨c8, hv6⟩ := zifn hv6
        rcases c8 with rfl | rfl
        · refine zEv_k 2 (f' := (if (gI p3.2 7 2) ≤ 0 then 84 else 46, [some (.ref 198), y1, some (.int x2), some (.int s.1), some (.int p4), y5], [], zhp p3.2)) rfl (zEv_if (fun c9 => ?_) (fun c9 => ?_))
          · replace hv6 := zif_t c9 hv6
            cases hv6
            exact kv6 _
          · replace hv6 := zif_f c9 hv6
            refine zEv_k 2 (f' := (48, [some (.ref 198), y1, some (.int x2), some (.int s.1), some (.int p4), y5], [.ref 198, .ref 198], zhp p3.2)) rfl ?_
            refine zRgc (by decide) rfl rfl rfl (by decide) ?_
            obtain ⟨a10, ea10, hv6⟩ := zlets hv6
            rw [ea10]
            obtain ⟨c11, hv6⟩ := zifn hv6
            rcases c11 with rfl | rfl
            · refine zEv_k 1 (f' := (54, [some (.ref 198), y1, some (.int x2), some (.int s.1), some (.int p4), y5], [.int (gI p3.2 7 2), .ref 198], zhp p3.2)) rfl ?_
              obtain ⟨p12, hp12, hv6⟩ := zbs hv6
              refine zEv_c (fun _ => rfl) rfl (t_qRu_below (oo := 198) (x1 := gI p3.2 7 2) (h := p3.2) (d := d + 3) (by decide) hp12) rfl rfl ?_
              obtain ⟨v14, hv14, hv6⟩ := zbs hv6
              have kv14 : zEv (zXs Ls xs) (d + 4) zm_74 (80, [some (.ref 198), y1, some (.int x2), some (.int s.1), some (.int p4), some (.int p12.1)], [.int v14.1, .int p12.1, .int p4, .ref 198], zhp v14.2) r := by
                obtain ⟨p16, hp16, hv6⟩ := zbs hv6
                refine zEv_c (fun _ => rfl) rfl (t_qRu_did (oo := 198) (x1 := p4) (x2 := p12.1) (x3 := v14.1) (h := v14.2) (d := d) (by decide) hp16) rfl rfl ?_
                refine zEv_k 1 (f' := (84, [some (.ref 198), y1, some (.int x2), some (.int s.1), some (.int p4), some (.int p12.1)], [], zhp p16.2)) rfl ?_
                cases hv6
                exact kv6 _
              clear hv6
              refine zEv_k 7 (f' := (if ¬ p4 = 4 then 79 else 70, [some (.ref 198), y1, some (.int x2), some (.int s.1), some (.int p4), some (.int p12.1)], [.int p12.1, .int p4, .ref 198], zhp p12.2)) rfl (zEv_if (fun c13 => ?_) (fun c13 => ?_))
              · replace hv14 := zif_t c13 hv14
                refine zEv_k 1 (f' := (80, [some (.ref 198), y1, some (.int x2), some (.int s.1), some (.int p4), some (.int p12.1)], [.int (-1), .int p12.1, .int p4, .ref 198], zhp p12.2)) rfl ?_
                cases hv14
                exact kv14
              · replace hv14 := zif_f c13 hv14
                refine zEv_k 2 (f' := (73, [some (.ref 198), y1, some (.int x2), some (.int s.1), some (.int p4), some (.int p12.1)], [.int 21, .ref 198, .int p12.1, .int p4, .ref 198], zhp p12.2)) rfl ?_
                obtain ⟨p15, hp15, hv14⟩ := zbs hv14
                refine zEv_c (fun _ => rfl) rfl (t_qRu_below (oo := 198) (x1 := 21) (h := p12.2) (d := d + 3) (by decide) hp15) rfl rfl ?_
                refine zEv_k 1 (f' := (80, [some (.ref 198), y1, some (.int x2), some (.int s.1), some (.int p4), some (.int p12.1)], [.int p15.1, .int p12.1, .int p4, .ref 198], zhp p15.2)) rfl ?_
                cases hv14
                exact kv14
            · refine zEv_k 1 (f' := (54, [some (.ref 198), y1, some (.int x2), some (.int s.1), some (.int p4), y5], [.int (gI p3.2 22 2), .ref 198], zhp p3.2)) rfl ?_
              obtain ⟨p12, hp12, hv6⟩ := zbs hv6
              refine zEv_c (fun _ => rfl) rfl (t_qRu_below (oo := 198) (x1 := gI p3.2 22 2) (h := p3.2) (d := d + 3) (by decide) hp12) rfl rfl ?_
              obtain ⟨v14, hv14, hv6⟩ := zbs hv6
              have kv14 : zEv (zXs Ls xs) (d + 4) zm_74 (80, [some (.ref 198), y1, some (.int x2), some (.int s.1), some (.int p4), some (.int p12.1)], [.int v14.1, .int p12.1, .int p4, .ref 198], zhp v14.2) r := by
                obtain ⟨p16, hp16, hv6⟩ := zbs hv6
                refine zEv_c (fun _ => rfl) rfl (t_qRu_did (oo := 198) (x1 := p4) (x2 := p12.1) (x3 := v14.1) (h := v14.2) (d := d) (by decide) hp16) rfl rfl ?_
                refine zEv_k 1 (f' := (84, [some (.ref 198), y1, some (.int x2), some (.int s.1), some (.int p4), some (.int p12.1)], [], zhp p16.2)) rfl ?_
                cases hv6
                exact kv6 _
              clear hv6
              refine zEv_k 7 (f' := (if ¬ p4 = 4 then 79 else 70, [some (.ref 198), y1, some (.int x2), some (.int s.1), some (.int p4), some (.int p12.1)], [.int p12.1, .int p4, .ref 198], zhp p12.2)) rfl (zEv_if (fun c13 => ?_) (fun c13 => ?_))
              · replace hv14 := zif_t c13 hv14
                refine zEv_k 1 (f' := (80, [some (.ref 198), y1, some (.int x2), some (.int s.1), some (.int p4), some (.int p12.1)], [.int (-1), .int p12.1, .int p4, .ref 198], zhp p12.2)) rfl ?_
                cases hv14
                exact kv14
              · replace hv14 := zif_f c13 hv14
                refine zEv_k 2 (f' := (73, [some (.ref 198), y1, some (.int x2), some (.int s.1), some (.int p4), some (.int p12.1)], [.int 21, .ref 198, .int p12.1, .int p4, .ref 198], zhp p12.2)) rfl ?_
                obtain ⟨p15, hp15, hv14⟩ := zbs hv14
                refine zEv_c (fun _ => rfl) rfl (t_qRu_below (oo := 198) (x1 := 21) (h := p12.2) (d := d + 3) (by decide) hp15) rfl rfl ?_
                refine zEv_k 1 (f' := (80, [some (.ref 198), y1, some (.int x2), some (.int s.1), some (.int p4), some (.int p12.1)], [.int p15.1, .int p12.1, .int p4, .ref 198], zhp p15.2)) rfl ?_
                cases hv14
                exact kv14
        · refine zEv_k 2 (f' := (if (gI p3.2 22 2) ≤ 0 then 84 else 46, [some (.ref 198), y1, some (.int x2), some (.int s.1), some (.int p4), y5], [], zhp p3.2)) rfl (zEv_if (fun c9 => ?_) (fun c9 => ?_))
          · replace hv6 := zif_t c9 hv6
            cases hv6
            exact kv6 _
          · replace hv6 := zif_f c9 hv6
            refine zEv_k 2 (f' := (48, [some (.ref 198), y1, some (.int x2), some (.int s.1), some (.int p4), y5], [.ref 198, .ref 198], zhp p3.2)) rfl ?_
            refine zRgc (by decide) rfl rfl rfl (by decide) ?_
            obtain ⟨a10, ea10, hv6⟩ := zlets hv6
            rw [ea10]
            obtain ⟨c11, hv6⟩ := zifn hv6
            rcases c11 with rfl | rfl
            · refine zEv_k 1 (f' := (54, [some (.ref 198), y1, some (.int x2), some (.int s.1), some (.int p4), y5], [.int (gI p3.2 7 2), .ref 198], zhp p3.2)) rfl ?_
              obtain ⟨p12, hp12, hv6⟩ := zbs hv6
              refine zEv_c (fun _ => rfl) rfl (t_qRu_below (oo := 198) (x1 := gI p3.2 7 2) (h := p3.2) (d := d + 3) (by decide) hp12) rfl rfl ?_
              obtain ⟨v14, hv14, hv6⟩ := zbs hv6
              have kv14 : zEv (zXs Ls xs) (d + 4) zm_74 (80, [some (.ref 198), y1, some (.int x2), some (.int s.1), some (.int p4), some (.int p12.1)], [.int v14.1, .int p12.1, .int p4, .ref 198], zhp v14.2) r := by
                obtain ⟨p16, hp16, hv6⟩ := zbs hv6
                refine zEv_c (fun _ => rfl) rfl (t_qRu_did (oo := 198) (x1 := p4) (x2 := p12.1) (x3 := v14.1) (h := v14.2) (d := d) (by decide) hp16) rfl rfl ?_
                refine zEv_k 1 (f' := (84, [some (.ref 198), y1, some (.int x2), some (.int s.1), some (.int p4), some (.int p12.1)], [], zhp p16.2)) rfl ?_
                cases hv6
                exact kv6 _
              clear hv6
              refine zEv_k 7 (f' := (if ¬ p4 = 4 then 79 else 70, [some (.ref 198), y1, some (.int x2), some (.int s.1), some (.int p4), some (.int p12.1)], [.int p12.1, .int p4, .ref 198], zhp p12.2)) rfl (zEv_if (fun c13 => ?_) (fun c13 => ?_))
              · replace hv14 := zif_t c13 hv14
                refine zEv_k 1 (f' := (80, [some (.ref 198), y1, some (.int x2), some (.int s.1), some (.int p4), some (.int p12.1)], [.int (-1), .int p12.1, .int p4, .ref 198], zhp p12.2)) rfl ?_
                cases hv14
                exact kv14
              · replace hv14 := zif_f c13 hv14
                refine zEv_k 2 (f' := (73, [some (.ref 198), y1, some (.int x2), some (.int s.1), some (.int p4), some (.int p12.1)], [.int 21, .ref 198, .int p12.1, .int p4, .ref 198], zhp p12.2)) rfl ?_
                obtain ⟨p15, hp15, hv14⟩ := zbs hv14
                refine zEv_c (fun _ => rfl) rfl (t_qRu_below (oo := 198) (x1 := 21) (h := p12.2) (d := d + 3) (by decide) hp15) rfl rfl ?_
                refine zEv_k 1 (f' := (80, [some (.ref 198), y1, some (.int x2), some (.int s.1), some (.int p4), some (.int p12.1)], [.int p15.1, .int p12.1, .int p4, .ref 198], zhp p15.2)) rfl ?_
                cases hv14
                exact kv14
            · refine zEv_k 1 (f' := (54, [some (.ref 198), y1, some (.int x2), some (.int s.1), some (.int p4), y5], [.int (gI p3.2 22 2), .ref 198], zhp p3.2)) rfl ?_
              obtain ⟨p12, hp12, hv6⟩ := zbs hv6
              refine zEv_c (fun _ => rfl) rfl (t_qRu_below (oo := 198) (x1 := gI p3.2 22 2) (h := p3.2) (d := d + 3) (by decide) hp12) rfl rfl ?_
              obtain ⟨v14, hv14, hv6⟩ := zbs hv6
              have kv14 : zEv (zXs Ls xs) (d + 4) zm_74 (80, [some (.ref 198), y1, some (.int x2), some (.int s.1), some (.int p4), some (.int p12.1)], [.int v14.1, .int p12.1, .int p4, .ref 198], zhp v14.2) r := by
                obtain ⟨p16, hp16, hv6⟩ := zbs hv6
                refine zEv_c (fun _ => rfl) rfl (t_qRu_did (oo := 198) (x1 := p4) (x2 := p12.1) (x3 := v14.1) (h := v14.2) (d := d) (by decide) hp16) rfl rfl ?_
                refine zEv_k 1 (f' := (84, [some (.ref 198), y1, some (.int x2), some (.int s.1), some (.int p4), some (.int p12.1)], [], zhp p16.2)) rfl ?_
                cases hv6
                exact kv6 _
              clear hv6
              refine zEv_k 7 (f' := (if ¬ p4 = 4 then 79 else 70, [some (.ref 198), y1, some (.int x2), some (.int s.1), some (.int p4), some (.int p12.1)], [.int p12.1, .int p4, .ref 198], zhp p12.2)) rfl (zEv_if (fun c13 => ?_) (fun c13 => ?_))
              · replace hv14 := zif_t c13 hv14
                refine zEv_k 1 (f' := (80, [some (.ref 198), y1, some (.int x2), some (.int s.1), some (.int p4), some (.int p12.1)], [.int (-1), .int p12.1, .int p4, .ref 198], zhp p12.2)) rfl ?_
                cases hv14
                exact kv14
              · replace hv14 := zif_f c13 hv14
                refine zEv_k 2 (f' := (73, [some (.ref 198), y1, some (.int x2), some (.int s.1), some (.int p4), some (.int p12.1)], [.int 21, .ref 198, .int p12.1, .int p4, .ref 198], zhp p12.2)) rfl ?_
                obtain ⟨p15, hp15, hv14⟩ := zbs hv14
                refine zEv_c (fun _ => rfl) rfl (t_qRu_below (oo := 198) (x1 := 21) (h := p12.2) (d := d + 3) (by decide) hp15) rfl rfl ?_
                refine zEv_k 1 (f' := (80, [some (.ref 198), y1, some (.int x2), some (.int s.1), some (.int p4), some (.int p12.1)], [.int p15.1, .int p12.1, .int p4, .ref 198], zhp p15.2)) rfl ?_
                cases hv14
                exact kv14
      · replace hv6 := zif_f c5 hv6
        refine zEv_k 1 (f' := (29, [some (.ref 198), y1, some (.int x2), some (.int s.1), some (.int p4), y5], [.ref 198], zhp p3.2)) rfl ?_
        obtain ⟨p17, hp17, hv6⟩ := zbs hv6
        refine zEv_c (fun _ => rfl) rfl (t_qRu_passedYear (oo := 198) (h := p3.2) (d := d + 1) (by decide) hp17) rfl rfl ?_
        refine zEv_k 2 (f' := (84, [some (.ref 198), y1, some (.int x2), some (.int s.1), some (.int p4), y5], [], zhp p17.2)) rfl ?_
        cases hv6
        exact kv6 _
theorem t_qRu_draw_b7 {Ls : Nat} {xs : Nat → Int32} {d : Nat} {oo : Nat} {x2 : Int32} {r : zA} (ho : oo = 166 ∨ oo = 198) {t : zK} (K : ∀ (z1 : Option Value) (z3 : Option Value) (z4 : Option Value) (z5 : Option Value), zEv (zXs Ls xs) (d + 4) zm_74 (90, [some (.ref oo), z1, some (.int x2), z3, z4, z5], [], zhp t) r) (n : Nat) (s : Int32 × zK) (H : zloop (qRu_draw_b7 oo x2) n s = some t) (y1 : Option Value) (y4 : Option Value) (y5 : Option Value) : zEv (zXs Ls xs) (d + 4) zm_74 (7, [some (.ref oo), y1, some (.int x2), some (.int s.1), y4, y5], [], zhp s.2) r := by
  have Z := zloop_P (P := fun s => ∀ (y1 : Option Value) (y4 : Option Value) (y5 : Option Value), zEv (zXs Ls xs) (d + 4) zm_74 (7, [some (.ref oo), y1, some (.int x2), some (.int s.1), y4, y5], [], zhp s.2) r) (b := qRu_draw_b7 oo x2) (t := t) (fun s s2 hb hk => by intro y1 y4 y5; exact t_qRu_draw_b7b ho hb hk y1 y4 y5) (fun s hb => by intro y1 y4 y5; exact t_qRu_draw_b7b ho hb K y1 y4 y5) n s H
  exact Z y1 y4 y5
def qRu_draw (oo : Nat) (x1 : Int32) (x2 : Int32) (h : zK) : Option (zK) :=
  zlet (sI h oo 15 x1) fun h1 =>
  (zloop (qRu_draw_b7 oo x2) zfu (0, h1)).bind fun t18 =>
  some t18
theorem t_qRu_draw {Ls : Nat} {xs : Nat → Int32} {d : Nat} {oo : Nat} {x1 : Int32} {x2 : Int32} {h : zK} {p : zK} (ho : oo = 166 ∨ oo = 198) (H : qRu_draw oo x1 x2 h = some p) : zEv (zXs Ls xs) (d + 4) zm_74 (0, [some (.ref oo), some (.int x1), some (.int x2), none, none, none], [], zhp h) (none, zhp p) := by
  unfold qRu_draw at H
  rcases ho with rfl | rfl
  · obtain ⟨h1, eh1, H⟩ := zlets H
    refine zEv_w (F := fun z => (5, [some (.ref 166), some (.int x1), some (.int x2), none, none, none], [], zhp z)) (h0 := sI h 166 15 x1) 3 rfl eh1 ?_
    refine zEv_k 2 (f' := (7, [some (.ref 166), some (.int x1), some (.int x2), some (.int 0), none, none], [], zhp h1)) rfl ?_
    obtain ⟨t18, ht18, H⟩ := zbs H
    refine t_qRu_draw_b7 (oo := 166) (x2 := x2) (by decide) ?_ zfu _ ht18 _ _ _
    intro y1 y3 y4 y5
    cases H
    exact zEv_r rfl
  · obtain ⟨h1, eh1, H⟩ := zlets H
    refine zEv_w (F := fun z => (5, [some (.ref 198), some (.int x1), some (.int x2), none, none, none], [], zhp z)) (h0 := sI h 198 15 x1) 3 rfl eh1 ?_
    refine zEv_k 2 (f' := (7, [some (.ref 198), some (.int x1), some (.int x2), some (.int 0), none, none], [], zhp h1)) rfl ?_
    obtain ⟨t18, ht18, H⟩ := zbs H
    refine t_qRu_draw_b7 (oo := 198) (x2 := x2) (by decide) ?_ zfu _ ht18 _ _ _
    intro y1 y3 y4 y5
    cases H
    exact zEv_r rfl
def qRu_look (oo : Nat) (x1 : Int32) (h : zK) : Option (Int32) :=
  if x1 = 0 then
    some (gI h oo 0)
  else if x1 = 1 then
    some (gI h oo 11)
  else if x1 = 2 then
    some (gI h oo 1)
  else if x1 = 3 then
    some (gI h oo 2)
  else if x1 = 4 then
    some (gI h oo 12)
  else if x1 = 5 then
    some (gI h oo 13)
  else
    if x1 < 0 then
      some (-1)
    else
      zlet (gR h oo) fun a2 =>
      if a2 = 7 ∨ a2 = 22 then
        if ¬ (qCe_has a2 (x1 - x1 / 10 * 10) h) = 0 then
          if (x1 / 10) = 1 then
            (zix (x1 - x1 / 10 * 10) 7).bind fun j5 =>
            some (gI h (oo + 10) j5)
          else if (x1 / 10) = 2 then
            (zix (x1 - x1 / 10 * 10) 7).bind fun j6 =>
            some (gI h (oo + 11) j6)
          else if (x1 / 10) = 3 then
            (zix (x1 - x1 / 10 * 10) 7).bind fun j7 =>
            some (gI h (oo + 12) j7)
          else if (x1 / 10) = 4 then
            (zix (x1 - x1 / 10 * 10) 7).bind fun j8 =>
            some (gI h (oo + 13) j8)
          else
            some (-1)
        else
          some (-1)
      else none
theorem t_qRu_look {Ls : Nat} {xs : Nat → Int32} {d : Nat} {oo : Nat} {x1 : Int32} {h : zK} {p : Int32} (ho : oo = 166 ∨ oo = 198) (H : qRu_look oo x1 h = some p) : zEv (zXs Ls xs) (d + 1) zm_75 (0, [some (.ref oo), some (.int x1), none], [], zhp h) (some (.int p), zhp h) := by
  unfold qRu_look at H
  rcases ho with rfl | rfl
  · refine zEv_k 1 (f' := (1, [some (.ref 166), some (.int x1), none], [.int x1], zhp h)) rfl ?_
    refine zEv_ts rfl (by decide) (by decide) (by decide) (fun hh => ?_) (fun j hj hh => ?_)
    · replace H := zif_f (fun e => (by rw [e] at hh; exact absurd hh (by decide))) H
      replace H := zif_f (fun e => (by rw [e] at hh; exact absurd hh (by decide))) H
      replace H := zif_f (fun e => (by rw [e] at hh; exact absurd hh (by decide))) H
      replace H := zif_f (fun e => (by rw [e] at hh; exact absurd hh (by decide))) H
      replace H := zif_f (fun e => (by rw [e] at hh; exact absurd hh (by decide))) H
      replace H := zif_f (fun e => (by rw [e] at hh; exact absurd hh (by decide))) H
      refine zEv_k 2 (f' := (73, [some (.ref 166), some (.int x1), none], [.int 10, .int x1], zhp h)) rfl ?_
      refine zEv_rem rfl (by decide) ?_
      refine zEv_k 3 (f' := (if x1 < 0 then 90 else 79, [some (.ref 166), some (.int x1), some (.int (x1 - x1 / 10 * 10))], [], zhp h)) rfl (zEv_if (fun c1 => ?_) (fun c1 => ?_))
      · replace H := zif_t c1 H
        refine zEv_k 1 (f' := (91, [some (.ref 166), some (.int x1), some (.int (x1 - x1 / 10 * 10))], [.int (-1)], zhp h)) rfl ?_
        cases H
        exact zEv_r rfl
      · replace H := zif_f c1 H
        refine zEv_k 1 (f' := (80, [some (.ref 166), some (.int x1), some (.int (x1 - x1 / 10 * 10))], [.ref 166], zhp h)) rfl ?_
        refine zRgc (by decide) rfl rfl rfl (by decide) ?_
        refine zEv_k 1 (f' := (84, [some (.ref 166), some (.int x1), some (.int (x1 - x1 / 10 * 10))], [.int (x1 - x1 / 10 * 10), .ref (gR h 166)], zhp h)) rfl ?_
        obtain ⟨a2, ea2, H⟩ := zlets H
        rw [ea2]
        obtain ⟨c3, H⟩ := zifn H
        rcases c3 with rfl | rfl
        · refine zEv_c (fun _ => rfl) rfl (t_qCe_has (oo := 7) (x1 := x1 - x1 / 10 * 10) (h := h) (d := d) (by decide) rfl) rfl rfl ?_
          refine zEv_k 1 (f' := (if ¬ (qCe_has 7 (x1 - x1 / 10 * 10) h) = 0 then 92 else 90, [some (.ref 166), some (.int x1), some (.int (x1 - x1 / 10 * 10))], [], zhp h)) rfl (zEv_if (fun c4 => ?_) (fun c4 => ?_))
          · replace H := zif_t c4 H
            refine zEv_k 2 (f' := (95, [some (.ref 166), some (.int x1), some (.int (x1 - x1 / 10 * 10))], [.int 10, .int x1], zhp h)) rfl ?_
            refine zEv_div rfl (by decide) ?_
            refine zEv_ts rfl (by decide) (by decide) (by decide) (fun hh => ?_) (fun j hj hh => ?_)
            · replace H := zif_f (fun e => (by rw [e] at hh; exact absurd hh (by decide))) H
              replace H := zif_f (fun e => (by rw [e] at hh; exact absurd hh (by decide))) H
              replace H := zif_f (fun e => (by rw [e] at hh; exact absurd hh (by decide))) H
              replace H := zif_f (fun e => (by rw [e] at hh; exact absurd hh (by decide))) H
              refine zEv_k 1 (f' := (157, [some (.ref 166), some (.int x1), some (.int (x1 - x1 / 10 * 10))], [.int (-1)], zhp h)) rfl ?_
              cases H
              exact zEv_r rfl
            · rcases (by have hj2 : j < 4 := hj; omega : j = 0 ∨ j = 1 ∨ j = 2 ∨ j = 3) with rfl | rfl | rfl | rfl
              · have ex : x1 / 10 = 1 := zeqI hh (by decide)
                replace H := zif_t ex H
                refine zEv_k 1 (f' := (129, [some (.ref 166), some (.int x1), some (.int (x1 - x1 / 10 * 10))], [.ref 166], zhp h)) rfl ?_
                refine zRgr rfl rfl rfl (by decide) (b := 166 + 10) rfl ?_
                refine zEv_k 1 (f' := (133, [some (.ref 166), some (.int x1), some (.int (x1 - x1 / 10 * 10))], [.int (x1 - x1 / 10 * 10), .ref (166 + 10)], zhp h)) rfl ?_
                obtain ⟨j5, hj5, H⟩ := zbs H
                refine zRia rfl rfl (by decide) hj5 ?_
                cases H
                exact zEv_r rfl
              · have ex : x1 / 10 = 2 := zeqI hh (by decide)
                replace H := zif_f (fun e => by rw [ex] at e; exact absurd e (by decide)) H
                replace H := zif_t ex H
                refine zEv_k 1 (f' := (136, [some (.ref 166), some (.int x1), some (.int (x1 - x1 / 10 * 10))], [.ref 166], zhp h)) rfl ?_
                refine zRgr rfl rfl rfl (by decide) (b := 166 + 11) rfl ?_
                refine zEv_k 1 (f' := (140, [some (.ref 166), some (.int x1), some (.int (x1 - x1 / 10 * 10))], [.int (x1 - x1 / 10 * 10), .ref (166 + 11)], zhp h)) rfl ?_
                obtain ⟨j6, hj6, H⟩ := zbs H
                refine zRia rfl rfl (by decide) hj6 ?_
                cases H
                exact zEv_r rfl
              · have ex : x1 / 10 = 3 := zeqI hh (by decide)
                replace H := zif_f (fun e => by rw [ex] at e; exact absurd e (by decide)) H
                replace H := zif_f (fun e => by rw [ex] at e; exact absurd e (by decide)) H
                replace H := zif_t ex H
                refine zEv_k 1 (f' := (143, [some (.ref 166), some (.int x1), some (.int (x1 - x1 / 10 * 10))], [.ref 166], zhp h)) rfl ?_
                refine zRgr rfl rfl rfl (by decide) (b := 166 + 12) rfl ?_
                refine zEv_k 1 (f' := (147, [some (.ref 166), some (.int x1), some (.int (x1 - x1 / 10 * 10))], [.int (x1 - x1 / 10 * 10), .ref (166 + 12)], zhp h)) rfl ?_
                obtain ⟨j7, hj7, H⟩ := zbs H
                refine zRia rfl rfl (by decide) hj7 ?_
                cases H
                exact zEv_r rfl
              · have ex : x1 / 10 = 4 := zeqI hh (by decide)
                replace H := zif_f (fun e => by rw [ex] at e; exact absurd e (by decide)) H
                replace H := zif_f (fun e => by rw [ex] at e; exact absurd e (by decide)) H
                replace H := zif_f (fun e => by rw [ex] at e; exact absurd e (by decide)) H
                replace H := zif_t ex H
                refine zEv_k 1 (f' := (150, [some (.ref 166), some (.int x1), some (.int (x1 - x1 / 10 * 10))], [.ref 166], zhp h)) rfl ?_
                refine zRgr rfl rfl rfl (by decide) (b := 166 + 13) rfl ?_
                refine zEv_k 1 (f' := (154, [some (.ref 166), some (.int x1), some (.int (x1 - x1 / 10 * 10))], [.int (x1 - x1 / 10 * 10), .ref (166 + 13)], zhp h)) rfl ?_
                obtain ⟨j8, hj8, H⟩ := zbs H
                refine zRia rfl rfl (by decide) hj8 ?_
                cases H
                exact zEv_r rfl
          · replace H := zif_f c4 H
            refine zEv_k 1 (f' := (91, [some (.ref 166), some (.int x1), some (.int (x1 - x1 / 10 * 10))], [.int (-1)], zhp h)) rfl ?_
            cases H
            exact zEv_r rfl
        · refine zEv_c (fun _ => rfl) rfl (t_qCe_has (oo := 22) (x1 := x1 - x1 / 10 * 10) (h := h) (d := d) (by decide) rfl) rfl rfl ?_
          refine zEv_k 1 (f' := (if ¬ (qCe_has 22 (x1 - x1 / 10 * 10) h) = 0 then 92 else 90, [some (.ref 166), some (.int x1), some (.int (x1 - x1 / 10 * 10))], [], zhp h)) rfl (zEv_if (fun c4 => ?_) (fun c4 => ?_))
          · replace H := zif_t c4 H
            refine zEv_k 2 (f' := (95, [some (.ref 166), some (.int x1), some (.int (x1 - x1 / 10 * 10))], [.int 10, .int x1], zhp h)) rfl ?_
            refine zEv_div rfl (by decide) ?_
            refine zEv_ts rfl (by decide) (by decide) (by decide) (fun hh => ?_) (fun j hj hh => ?_)
            · replace H := zif_f (fun e => (by rw [e] at hh; exact absurd hh (by decide))) H
              replace H := zif_f (fun e => (by rw [e] at hh; exact absurd hh (by decide))) H
              replace H := zif_f (fun e => (by rw [e] at hh; exact absurd hh (by decide))) H
              replace H := zif_f (fun e => (by rw [e] at hh; exact absurd hh (by decide))) H
              refine zEv_k 1 (f' := (157, [some (.ref 166), some (.int x1), some (.int (x1 - x1 / 10 * 10))], [.int (-1)], zhp h)) rfl ?_
              cases H
              exact zEv_r rfl
            · rcases (by have hj2 : j < 4 := hj; omega : j = 0 ∨ j = 1 ∨ j = 2 ∨ j = 3) with rfl | rfl | rfl | rfl
              · have ex : x1 / 10 = 1 := zeqI hh (by decide)
                replace H := zif_t ex H
                refine zEv_k 1 (f' := (129, [some (.ref 166), some (.int x1), some (.int (x1 - x1 / 10 * 10))], [.ref 166], zhp h)) rfl ?_
                refine zRgr rfl rfl rfl (by decide) (b := 166 + 10) rfl ?_
                refine zEv_k 1 (f' := (133, [some (.ref 166), some (.int x1), some (.int (x1 - x1 / 10 * 10))], [.int (x1 - x1 / 10 * 10), .ref (166 + 10)], zhp h)) rfl ?_
                obtain ⟨j5, hj5, H⟩ := zbs H
                refine zRia rfl rfl (by decide) hj5 ?_
                cases H
                exact zEv_r rfl
              · have ex : x1 / 10 = 2 := zeqI hh (by decide)
                replace H := zif_f (fun e => by rw [ex] at e; exact absurd e (by decide)) H
                replace H := zif_t ex H
                refine zEv_k 1 (f' := (136, [some (.ref 166), some (.int x1), some (.int (x1 - x1 / 10 * 10))], [.ref 166], zhp h)) rfl ?_
                refine zRgr rfl rfl rfl (by decide) (b := 166 + 11) rfl ?_
                refine zEv_k 1 (f' := (140, [some (.ref 166), some (.int x1), some (.int (x1 - x1 / 10 * 10))], [.int (x1 - x1 / 10 * 10), .ref (166 + 11)], zhp h)) rfl ?_
                obtain ⟨j6, hj6, H⟩ := zbs H
                refine zRia rfl rfl (by decide) hj6 ?_
                cases H
                exact zEv_r rfl
              · have ex : x1 / 10 = 3 := zeqI hh (by decide)
                replace H := zif_f (fun e => by rw [ex] at e; exact absurd e (by decide)) H
                replace H := zif_f (fun e => by rw [ex] at e; exact absurd e (by decide)) H
                replace H := zif_t ex H
                refine zEv_k 1 (f' := (143, [some (.ref 166), some (.int x1), some (.int (x1 - x1 / 10 * 10))], [.ref 166], zhp h)) rfl ?_
                refine zRgr rfl rfl rfl (by decide) (b := 166 + 12) rfl ?_
                refine zEv_k 1 (f' := (147, [some (.ref 166), some (.int x1), some (.int (x1 - x1 / 10 * 10))], [.int (x1 - x1 / 10 * 10), .ref (166 + 12)], zhp h)) rfl ?_
                obtain ⟨j7, hj7, H⟩ := zbs H
                refine zRia rfl rfl (by decide) hj7 ?_
                cases H
                exact zEv_r rfl
              · have ex : x1 / 10 = 4 := zeqI hh (by decide)
                replace H := zif_f (fun e => by rw [ex] at e; exact absurd e (by decide)) H
                replace H := zif_f (fun e => by rw [ex] at e; exact absurd e (by decide)) H
                replace H := zif_f (fun e => by rw [ex] at e; exact absurd e (by decide)) H
                replace H := zif_t ex H
                refine zEv_k 1 (f' := (150, [some (.ref 166), some (.int x1), some (.int (x1 - x1 / 10 * 10))], [.ref 166], zhp h)) rfl ?_
                refine zRgr rfl rfl rfl (by decide) (b := 166 + 13) rfl ?_
                refine zEv_k 1 (f' := (154, [some (.ref 166), some (.int x1), some (.int (x1 - x1 / 10 * 10))], [.int (x1 - x1 / 10 * 10), .ref (166 + 13)], zhp h)) rfl ?_
                obtain ⟨j8, hj8, H⟩ := zbs H
                refine zRia rfl rfl (by decide) hj8 ?_
                cases H
                exact zEv_r rfl
          · replace H := zif_f c4 H
            refine zEv_k 1 (f' := (91, [some (.ref 166), some (.int x1), some (.int (x1 - x1 / 10 * 10))], [.int (-1)], zhp h)) rfl ?_
            cases H
            exact zEv_r rfl
    · rcases (by have hj2 : j < 6 := hj; omega : j = 0 ∨ j = 1 ∨ j = 2 ∨ j = 3 ∨ j = 4 ∨ j = 5) with rfl | rfl | rfl | rfl | rfl | rfl
      · have ex : x1 = 0 := zeqI hh (by decide)
        replace H := zif_t ex H
        refine zEv_k 2 (f' := (44, [some (.ref 166), some (.int x1), none], [.int (gI h 166 0)], zhp h)) rfl ?_
        cases H
        exact zEv_r rfl
      · have ex : x1 = 1 := zeqI hh (by decide)
        replace H := zif_f (fun e => by rw [ex] at e; exact absurd e (by decide)) H
        replace H := zif_t ex H
        refine zEv_k 2 (f' := (49, [some (.ref 166), some (.int x1), none], [.int (gI h 166 11)], zhp h)) rfl ?_
        cases H
        exact zEv_r rfl
      · have ex : x1 = 2 := zeqI hh (by decide)
        replace H := zif_f (fun e => by rw [ex] at e; exact absurd e (by decide)) H
        replace H := zif_f (fun e => by rw [ex] at e; exact absurd e (by decide)) H
        replace H := zif_t ex H
        refine zEv_k 2 (f' := (54, [some (.ref 166), some (.int x1), none], [.int (gI h 166 1)], zhp h)) rfl ?_
        cases H
        exact zEv_r rfl
      · have ex : x1 = 3 := zeqI hh (by decide)
        replace H := zif_f (fun e => by rw [ex] at e; exact absurd e (by decide)) H
        replace H := zif_f (fun e => by rw [ex] at e; exact absurd e (by decide)) H
        replace H := zif_f (fun e => by rw [ex] at e; exact absurd e (by decide)) H
        replace H := zif_t ex H
        refine zEv_k 2 (f' := (59, [some (.ref 166), some (.int x1), none], [.int (gI h 166 2)], zhp h)) rfl ?_
        cases H
        exact zEv_r rfl
      · have ex : x1 = 4 := zeqI hh (by decide)
        replace H := zif_f (fun e => by rw [ex] at e; exact absurd e (by decide)) H
        replace H := zif_f (fun e => by rw [ex] at e; exact absurd e (by decide)) H
        replace H := zif_f (fun e => by rw [ex] at e; exact absurd e (by decide)) H
        replace H := zif_f (fun e => by rw [ex] at e; exact absurd e (by decide)) H
        replace H := zif_t ex H
        refine zEv_k 2 (f' := (64, [some (.ref 166), some (.int x1), none], [.int (gI h 166 12)], zhp h)) rfl ?_
        cases H
        exact zEv_r rfl
      · have ex : x1 = 5 := zeqI hh (by decide)
        replace H := zif_f (fun e => by rw [ex] at e; exact absurd e (by decide)) H
        replace H := zif_f (fun e => by rw [ex] at e; exact absurd e (by decide)) H
        replace H := zif_f (fun e => by rw [ex] at e; exact absurd e (by decide)) H
        replace H := zif_f (fun e => by rw [ex] at e; exact absurd e (by decide)) H
        replace H := zif_f (fun e => by rw [ex] at e; exact absurd e (by decide)) H
        replace H := zif_t ex H
        refine zEv_k 2 (f' := (69, [some (.ref 166), some (.int x1), none], [.int (gI h 166 13)], zhp h)) rfl ?_
        cases H
        exact zEv_r rfl
  · refine zEv_k 1 (f' := (1, [some (.ref 198), some (.int x1), none], [.int x1], zhp h)) rfl ?_
    refine zEv_ts rfl (by decide) (by decide) (by decide) (fun hh => ?_) (fun j hj hh => ?_)
    · replace H := zif_f (fun e => (by rw [e] at hh; exact absurd hh (by decide))) H
      replace H := zif_f (fun e => (by rw [e] at hh; exact absurd hh (by decide))) H
      replace H := zif_f (fun e => (by rw [e] at hh; exact absurd hh (by decide))) H
      replace H := zif_f (fun e => (by rw [e] at hh; exact absurd hh (by decide))) H
      replace H := zif_f (fun e => (by rw [e] at hh; exact absurd hh (by decide))) H
      replace H := zif_f (fun e => (by rw [e] at hh; exact absurd hh (by decide))) H
      refine zEv_k 2 (f' := (73, [some (.ref 198), some (.int x1), none], [.int 10, .int x1], zhp h)) rfl ?_
      refine zEv_rem rfl (by decide) ?_
      refine zEv_k 3 (f' := (if x1 < 0 then 90 else 79, [some (.ref 198), some (.int x1), some (.int (x1 - x1 / 10 * 10))], [], zhp h)) rfl (zEv_if (fun c1 => ?_) (fun c1 => ?_))
      · replace H := zif_t c1 H
        refine zEv_k 1 (f' := (91, [some (.ref 198), some (.int x1), some (.int (x1 - x1 / 10 * 10))], [.int (-1)], zhp h)) rfl ?_
        cases H
        exact zEv_r rfl
      · replace H := zif_f c1 H
        refine zEv_k 1 (f' := (80, [some (.ref 198), some (.int x1), some (.int (x1 - x1 / 10 * 10))], [.ref 198], zhp h)) rfl ?_
        refine zRgc (by decide) rfl rfl rfl (by decide) ?_
        refine zEv_k 1 (f' := (84, [some (.ref 198), some (.int x1), some (.int (x1 - x1 / 10 * 10))], [.int (x1 - x1 / 10 * 10), .ref (gR h 198)], zhp h)) rfl ?_
        obtain ⟨a2, ea2, H⟩ := zlets H
        rw [ea2]
        obtain ⟨c3, H⟩ := zifn H
        rcases c3 with rfl | rfl
        · refine zEv_c (fun _ => rfl) rfl (t_qCe_has (oo := 7) (x1 := x1 - x1 / 10 * 10) (h := h) (d := d) (by decide) rfl) rfl rfl ?_
          refine zEv_k 1 (f' := (if ¬ (qCe_has 7 (x1 - x1 / 10 * 10) h) = 0 then 92 else 90, [some (.ref 198), some (.int x1), some (.int (x1 - x1 / 10 * 10))], [], zhp h)) rfl (zEv_if (fun c4 => ?_) (fun c4 => ?_))
          · replace H := zif_t c4 H
            refine zEv_k 2 (f' := (95, [some (.ref 198), some (.int x1), some (.int (x1 - x1 / 10 * 10))], [.int 10, .int x1], zhp h)) rfl ?_
            refine zEv_div rfl (by decide) ?_
            refine zEv_ts rfl (by decide) (by decide) (by decide) (fun hh => ?_) (fun j hj hh => ?_)
            · replace H := zif_f (fun e => (by rw [e] at hh; exact absurd hh (by decide))) H
              replace H := zif_f (fun e => (by rw [e] at hh; exact absurd hh (by decide))) H
              replace H := zif_f (fun e => (by rw [e] at hh; exact absurd hh (by decide))) H
              replace H := zif_f (fun e => (by rw [e] at hh; exact absurd hh (by decide))) H
              refine zEv_k 1 (f' := (157, [some (.ref 198), some (.int x1), some (.int (x1 - x1 / 10 * 10))], [.int (-1)], zhp h)) rfl ?_
              cases H
              exact zEv_r rfl
            · rcases (by have hj2 : j < 4 := hj; omega : j = 0 ∨ j = 1 ∨ j = 2 ∨ j = 3) with rfl | rfl | rfl | rfl
              · have ex : x1 / 10 = 1 := zeqI hh (by decide)
                replace H := zif_t ex H
                refine zEv_k 1 (f' := (129, [some (.ref 198), some (.int x1), some (.int (x1 - x1 / 10 * 10))], [.ref 198], zhp h)) rfl ?_
                refine zRgr rfl rfl rfl (by decide) (b := 198 + 10) rfl ?_
                refine zEv_k 1 (f' := (133, [some (.ref 198), some (.int x1), some (.int (x1 - x1 / 10 * 10))], [.int (x1 - x1 / 10 * 10), .ref (198 + 10)], zhp h)) rfl ?_
                obtain ⟨j5, hj5, H⟩ := zbs H
                refine zRia rfl rfl (by decide) hj5 ?_
                cases H
                exact zEv_r rfl
              · have ex : x1 / 10 = 2 := zeqI hh (by decide)
                replace H := zif_f (fun e => by rw [ex] at e; exact absurd e (by decide)) H
                replace H := zif_t ex H
                refine zEv_k 1 (f' := (136, [some (.ref 198), some (.int x1), some (.int (x1 - x1 / 10 * 10))], [.ref 198], zhp h)) rfl ?_
                refine zRgr rfl rfl rfl (by decide) (b := 198 + 11) rfl ?_
                refine zEv_k 1 (f' := (140, [some (.ref 198), some (.int x1), some (.int (x1 - x1 / 10 * 10))], [.int (x1 - x1 / 10 * 10), .ref (198 + 11)], zhp h)) rfl ?_
                obtain ⟨j6, hj6, H⟩ := zbs H
                refine zRia rfl rfl (by decide) hj6 ?_
                cases H
                exact zEv_r rfl
              · have ex : x1 / 10 = 3 := zeqI hh (by decide)
                replace H := zif_f (fun e => by rw [ex] at e; exact absurd e (by decide)) H
                replace H := zif_f (fun e => by rw [ex] at e; exact absurd e (by decide)) H
                replace H := zif_t ex H
                refine zEv_k 1 (f' := (143, [some (.ref 198), some (.int x1), some (.int (x1 - x1 / 10 * 10))], [.ref 198], zhp h)) rfl ?_
                refine zRgr rfl rfl rfl (by decide) (b := 198 + 12) rfl ?_
                refine zEv_k 1 (f' := (147, [some (.ref 198), some (.int x1), some (.int (x1 - x1 / 10 * 10))], [.int (x1 - x1 / 10 * 10), .ref (198 + 12)], zhp h)) rfl ?_
                obtain ⟨j7, hj7, H⟩ := zbs H
                refine zRia rfl rfl (by decide) hj7 ?_
                cases H
                exact zEv_r rfl
              · have ex : x1 / 10 = 4 := zeqI hh (by decide)
                replace H := zif_f (fun e => by rw [ex] at e; exact absurd e (by decide)) H
                replace H := zif_f (fun e => by rw [ex] at e; exact absurd e (by decide)) H
                replace H := zif_f (fun e => by rw [ex] at e; exact absurd e (by decide)) H
                replace H := zif_t ex H
                refine zEv_k 1 (f' := (150, [some (.ref 198), some (.int x1), some (.int (x1 - x1 / 10 * 10))], [.ref 198], zhp h)) rfl ?_
                refine zRgr rfl rfl rfl (by decide) (b := 198 + 13) rfl ?_
                refine zEv_k 1 (f' := (154, [some (.ref 198), some (.int x1), some (.int (x1 - x1 / 10 * 10))], [.int (x1 - x1 / 10 * 10), .ref (198 + 13)], zhp h)) rfl ?_
                obtain ⟨j8, hj8, H⟩ := zbs H
                refine zRia rfl rfl (by decide) hj8 ?_
                cases H
                exact zEv_r rfl
          · replace H := zif_f c4 H
            refine zEv_k 1 (f' := (91, [some (.ref 198), some (.int x1), some (.int (x1 - x1 / 10 * 10))], [.int (-1)], zhp h)) rfl ?_
            cases H
            exact zEv_r rfl
        · refine zEv_c (fun _ => rfl) rfl (t_qCe_has (oo := 22) (x1 := x1 - x1 / 10 * 10) (h := h) (d := d) (by decide) rfl) rfl rfl ?_
          refine zEv_k 1 (f' := (if ¬ (qCe_has 22 (x1 - x1 / 10 * 10) h) = 0 then 92 else 90, [some (.ref 198), some (.int x1), some (.int (x1 - x1 / 10 * 10))], [], zhp h)) rfl (zEv_if (fun c4 => ?_) (fun c4 => ?_))
          · replace H := zif_t c4 H
            refine zEv_k 2 (f' := (95, [some (.ref 198), some (.int x1), some (.int (x1 - x1 / 10 * 10))], [.int 10, .int x1], zhp h)) rfl ?_
            refine zEv_div rfl (by decide) ?_
            refine zEv_ts rfl (by decide) (by decide) (by decide) (fun hh => ?_) (fun j hj hh => ?_)
            · replace H := zif_f (fun e => (by rw [e] at hh; exact absurd hh (by decide))) H
              replace H := zif_f (fun e => (by rw [e] at hh; exact absurd hh (by decide))) H
              replace H := zif_f (fun e => (by rw [e] at hh; exact absurd hh (by decide))) H
              replace H := zif_f (fun e => (by rw [e] at hh; exact absurd hh (by decide))) H
              refine zEv_k 1 (f' := (157, [some (.ref 198), some (.int x1), some (.int (x1 - x1 / 10 * 10))], [.int (-1)], zhp h)) rfl ?_
              cases H
              exact zEv_r rfl
            · rcases (by have hj2 : j < 4 := hj; omega : j = 0 ∨ j = 1 ∨ j = 2 ∨ j = 3) with rfl | rfl | rfl | rfl
              · have ex : x1 / 10 = 1 := zeqI hh (by decide)
                replace H := zif_t ex H
                refine zEv_k 1 (f' := (129, [some (.ref 198), some (.int x1), some (.int (x1 - x1 / 10 * 10))], [.ref 198], zhp h)) rfl ?_
                refine zRgr rfl rfl rfl (by decide) (b := 198 + 10) rfl ?_
                refine zEv_k 1 (f' := (133, [some (.ref 198), some (.int x1), some (.int (x1 - x1 / 10 * 10))], [.int (x1 - x1 / 10 * 10), .ref (198 + 10)], zhp h)) rfl ?_
                obtain ⟨j5, hj5, H⟩ := zbs H
                refine zRia rfl rfl (by decide) hj5 ?_
                cases H
                exact zEv_r rfl
              · have ex : x1 / 10 = 2 := zeqI hh (by decide)
                replace H := zif_f (fun e => by rw [ex] at e; exact absurd e (by decide)) H
                replace H := zif_t ex H
                refine zEv_k 1 (f' := (136, [some (.ref 198), some (.int x1), some (.int (x1 - x1 / 10 * 10))], [.ref 198], zhp h)) rfl ?_
                refine zRgr rfl rfl rfl (by decide) (b := 198 + 11) rfl ?_
                refine zEv_k 1 (f' := (140, [some (.ref 198), some (.int x1), some (.int (x1 - x1 / 10 * 10))], [.int (x1 - x1 / 10 * 10), .ref (198 + 11)], zhp h)) rfl ?_
                obtain ⟨j6, hj6, H⟩ := zbs H
                refine zRia rfl rfl (by decide) hj6 ?_
                cases H
                exact zEv_r rfl
              · have ex : x1 / 10 = 3 := zeqI hh (by decide)
                replace H := zif_f (fun e => by rw [ex] at e; exact absurd e (by decide)) H
                replace H := zif_f (fun e => by rw [ex] at e; exact absurd e (by decide)) H
                replace H := zif_t ex H
                refine zEv_k 1 (f' := (143, [some (.ref 198), some (.int x1), some (.int (x1 - x1 / 10 * 10))], [.ref 198], zhp h)) rfl ?_
                refine zRgr rfl rfl rfl (by decide) (b := 198 + 12) rfl ?_
                refine zEv_k 1 (f' := (147, [some (.ref 198), some (.int x1), some (.int (x1 - x1 / 10 * 10))], [.int (x1 - x1 / 10 * 10), .ref (198 + 12)], zhp h)) rfl ?_
                obtain ⟨j7, hj7, H⟩ := zbs H
                refine zRia rfl rfl (by decide) hj7 ?_
                cases H
                exact zEv_r rfl
              · have ex : x1 / 10 = 4 := zeqI hh (by decide)
                replace H := zif_f (fun e => by rw [ex] at e; exact absurd e (by decide)) H
                replace H := zif_f (fun e => by rw [ex] at e; exact absurd e (by decide)) H
                replace H := zif_f (fun e => by rw [ex] at e; exact absurd e (by decide)) H
                replace H := zif_t ex H
                refine zEv_k 1 (f' := (150, [some (.ref 198), some (.int x1), some (.int (x1 - x1 / 10 * 10))], [.ref 198], zhp h)) rfl ?_
                refine zRgr rfl rfl rfl (by decide) (b := 198 + 13) rfl ?_
                refine zEv_k 1 (f' := (154, [some (.ref 198), some (.int x1), some (.int (x1 - x1 / 10 * 10))], [.int (x1 - x1 / 10 * 10), .ref (198 + 13)], zhp h)) rfl ?_
                obtain ⟨j8, hj8, H⟩ := zbs H
                refine zRia rfl rfl (by decide) hj8 ?_
                cases H
                exact zEv_r rfl
          · replace H := zif_f c4 H
            refine zEv_k 1 (f' := (91, [some (.ref 198), some (.int x1), some (.int (x1 - x1 / 10 * 10))], [.int (-1)], zhp h)) rfl ?_
            cases H
            exact zEv_r rfl
    · rcases (by have hj2 : j < 6 := hj; omega : j = 0 ∨ j = 1 ∨ j = 2 ∨ j = 3 ∨ j = 4 ∨ j = 5) with rfl | rfl | rfl | rfl | rfl | rfl
      · have ex : x1 = 0 := zeqI hh (by decide)
        replace H := zif_t ex H
        refine zEv_k 2 (f' := (44, [some (.ref 198), some (.int x1), none], [.int (gI h 198 0)], zhp h)) rfl ?_
        cases H
        exact zEv_r rfl
      · have ex : x1 = 1 := zeqI hh (by decide)
        replace H := zif_f (fun e => by rw [ex] at e; exact absurd e (by decide)) H
        replace H := zif_t ex H
        refine zEv_k 2 (f' := (49, [some (.ref 198), some (.int x1), none], [.int (gI h 198 11)], zhp h)) rfl ?_
        cases H
        exact zEv_r rfl
      · have ex : x1 = 2 := zeqI hh (by decide)
        replace H := zif_f (fun e => by rw [ex] at e; exact absurd e (by decide)) H
        replace H := zif_f (fun e => by rw [ex] at e; exact absurd e (by decide)) H
        replace H := zif_t ex H
        refine zEv_k 2 (f' := (54, [some (.ref 198), some (.int x1), none], [.int (gI h 198 1)], zhp h)) rfl ?_
        cases H
        exact zEv_r rfl
      · have ex : x1 = 3 := zeqI hh (by decide)
        replace H := zif_f (fun e => by rw [ex] at e; exact absurd e (by decide)) H
        replace H := zif_f (fun e => by rw [ex] at e; exact absurd e (by decide)) H
        replace H := zif_f (fun e => by rw [ex] at e; exact absurd e (by decide)) H
        replace H := zif_t ex H
        refine zEv_k 2 (f' := (59, [some (.ref 198), some (.int x1), none], [.int (gI h 198 2)], zhp h)) rfl ?_
        cases H
        exact zEv_r rfl
      · have ex : x1 = 4 := zeqI hh (by decide)
        replace H := zif_f (fun e => by rw [ex] at e; exact absurd e (by decide)) H
        replace H := zif_f (fun e => by rw [ex] at e; exact absurd e (by decide)) H
        replace H := zif_f (fun e => by rw [ex] at e; exact absurd e (by decide)) H
        replace H := zif_f (fun e => by rw [ex] at e; exact absurd e (by decide)) H
        replace H := zif_t ex H
        refine zEv_k 2 (f' := (64, [some (.ref 198), some (.int x1), none], [.int (gI h 198 12)], zhp h)) rfl ?_
        cases H
        exact zEv_r rfl
      · have ex : x1 = 5 := zeqI hh (by decide)
        replace H := zif_f (fun e => by rw [ex] at e; exact absurd e (by decide)) H
        replace H := zif_f (fun e => by rw [ex] at e; exact absurd e (by decide)) H
        replace H := zif_f (fun e => by rw [ex] at e; exact absurd e (by decide)) H
        replace H := zif_f (fun e => by rw [ex] at e; exact absurd e (by decide)) H
        replace H := zif_f (fun e => by rw [ex] at e; exact absurd e (by decide)) H
        replace H := zif_t ex H
        refine zEv_k 2 (f' := (69, [some (.ref 198), some (.int x1), none], [.int (gI h 198 13)], zhp h)) rfl ?_
        cases H
        exact zEv_r rfl
