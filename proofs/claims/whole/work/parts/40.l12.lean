def qC_laying_j28 (v2 : Nat) (x1 : Int32) (x2 : Int32) (h : zK) : Option (Int32 × zK) :=
  (qLa_find x1 v2 h).bind fun p5 =>
  if ¬ x2 = (-1) then
    (zix x2 7).bind fun j7 =>
    some (gI p5 185 j7, p5)
  else
    some (gI p5 184 0, p5)
theorem t_qC_laying_j28 {Ls : Nat} {xs : Nat → Int32} {d : Nat} {v2 : Nat} {x1 : Int32} {x2 : Int32} {h : zK} {p : Int32 × zK} (ho : v2 = 7 ∨ v2 = 22) (H : qC_laying_j28 v2 x1 x2 h = some p)  : zEv (zXs Ls xs) (d + 13) zm_122 (28, [some (.ref 0), some (.int x1), some (.int x2), some (.ref v2)], [], zhp h) (some (.int p.1), zhp p.2) := by
  unfold qC_laying_j28 at H
  rcases ho with rfl | rfl
  · refine zEv_k 1 (f' := (29, [some (.ref 0), some (.int x1), some (.int x2), some (.ref 7)], [.ref 0], zhp h)) rfl ?_
    refine zRgr rfl rfl rfl (by decide) (b := 184) rfl ?_
    refine zEv_k 2 (f' := (34, [some (.ref 0), some (.int x1), some (.int x2), some (.ref 7)], [.ref 7, .int x1, .ref 184], zhp h)) rfl ?_
    obtain ⟨p5, hp5, H⟩ := zbs H
    refine zEv_c (fun _ => rfl) rfl (t_qLa_find (x1 := x1) (oc := 7) (h := h) (d := d) (by decide) hp5) rfl rfl ?_
    refine zEv_k 3 (f' := (if ¬ x2 = (-1) then 52 else 42, [some (.ref 0), some (.int x1), some (.int x2), some (.ref 7)], [], zhp p5)) rfl (zEv_if (fun c6 => ?_) (fun c6 => ?_))
    · replace H := zif_t c6 H
      refine zEv_k 1 (f' := (53, [some (.ref 0), some (.int x1), some (.int x2), some (.ref 7)], [.ref 0], zhp p5)) rfl ?_
      refine zRgr rfl rfl rfl (by decide) (b := 184) rfl ?_
      refine zRgr rfl rfl rfl (by decide) (b := 185) rfl ?_
      refine zEv_k 1 (f' := (60, [some (.ref 0), some (.int x1), some (.int x2), some (.ref 7)], [.int x2, .ref 185], zhp p5)) rfl ?_
      obtain ⟨j7, hj7, H⟩ := zbs H
      refine zRia rfl rfl (by decide) hj7 ?_
      cases H
      exact zEv_r rfl
    · replace H := zif_f c6 H
      refine zEv_k 1 (f' := (43, [some (.ref 0), some (.int x1), some (.int x2), some (.ref 7)], [.ref 0], zhp p5)) rfl ?_
      refine zRgr rfl rfl rfl (by decide) (b := 184) rfl ?_
      refine zEv_k 2 (f' := (61, [some (.ref 0), some (.int x1), some (.int x2), some (.ref 7)], [.int (gI p5 184 0)], zhp p5)) rfl ?_
      cases H
      exact zEv_r rfl
  · refine zEv_k 1 (f' := (29, [some (.ref 0), some (.int x1), some (.int x2), some (.ref 22)], [.ref 0], zhp h)) rfl ?_
    refine zRgr rfl rfl rfl (by decide) (b := 184) rfl ?_
    refine zEv_k 2 (f' := (34, [some (.ref 0), some (.int x1), some (.int x2), some (.ref 22)], [.ref 22, .int x1, .ref 184], zhp h)) rfl ?_
    obtain ⟨p5, hp5, H⟩ := zbs H
    refine zEv_c (fun _ => rfl) rfl (t_qLa_find (x1 := x1) (oc := 22) (h := h) (d := d) (by decide) hp5) rfl rfl ?_
    refine zEv_k 3 (f' := (if ¬ x2 = (-1) then 52 else 42, [some (.ref 0), some (.int x1), some (.int x2), some (.ref 22)], [], zhp p5)) rfl (zEv_if (fun c6 => ?_) (fun c6 => ?_))
    · replace H := zif_t c6 H
      refine zEv_k 1 (f' := (53, [some (.ref 0), some (.int x1), some (.int x2), some (.ref 22)], [.ref 0], zhp p5)) rfl ?_
      refine zRgr rfl rfl rfl (by decide) (b := 184) rfl ?_
      refine zRgr rfl rfl rfl (by decide) (b := 185) rfl ?_
      refine zEv_k 1 (f' := (60, [some (.ref 0), some (.int x1), some (.int x2), some (.ref 22)], [.int x2, .ref 185], zhp p5)) rfl ?_
      obtain ⟨j7, hj7, H⟩ := zbs H
      refine zRia rfl rfl (by decide) hj7 ?_
      cases H
      exact zEv_r rfl
    · replace H := zif_f c6 H
      refine zEv_k 1 (f' := (43, [some (.ref 0), some (.int x1), some (.int x2), some (.ref 22)], [.ref 0], zhp p5)) rfl ?_
      refine zRgr rfl rfl rfl (by decide) (b := 184) rfl ?_
      refine zEv_k 2 (f' := (61, [some (.ref 0), some (.int x1), some (.int x2), some (.ref 22)], [.int (gI p5 184 0)], zhp p5)) rfl ?_
      cases H
      exact zEv_r rfl
def qC_laying (x1 : Int32) (x2 : Int32) (h : zK) : Option (Int32 × zK) :=
  (qT_cellarAt x1 h).bind fun p1 => match p1 with
  | none =>
    some (-1, h)
  | some v2 =>
    if x2 = (-1) then
      if v2 = 7 ∨ v2 = 22 then
        qC_laying_j28 v2 x1 x2 h
      else none
    else
      if v2 = 7 ∨ v2 = 22 then
        if ¬ (qCe_has v2 x2 h) = 0 then
          qC_laying_j28 v2 x1 x2 h
        else
          some (-1, h)
      else none
theorem t_qC_laying {Ls : Nat} {xs : Nat → Int32} {d : Nat} {x1 : Int32} {x2 : Int32} {h : zK} {p : Int32 × zK} (H : qC_laying x1 x2 h = some p) : zEv (zXs Ls xs) (d + 13) zm_122 (0, [some (.ref 0), some (.int x1), some (.int x2), none], [], zhp h) (some (.int p.1), zhp p.2) := by
  unfold qC_laying at H
  refine zEv_k 1 (f' := (1, [some (.ref 0), some (.int x1), some (.int x2), none], [.ref 0], zhp h)) rfl ?_
  refine zRgr rfl rfl rfl (by decide) (b := 1) rfl ?_
  refine zEv_k 1 (f' := (5, [some (.ref 0), some (.int x1), some (.int x2), none], [.int x1, .ref 1], zhp h)) rfl ?_
  obtain ⟨p1, hp1, H⟩ := zbs H
  refine zEv_c (fun _ => rfl) rfl (t_qT_cellarAt (x1 := x1) (h := h) (d := d + 12) hp1) rfl rfl ?_
  rcases p1 with _ | v2
  · dsimp only at H
    refine zEv_k 4 (f' := (27, [some (.ref 0), some (.int x1), some (.int x2), some (.null)], [.int (-1)], zhp h)) rfl ?_
    cases H
    exact zEv_r rfl
  · dsimp only at H
    refine zEv_k 6 (f' := (if x2 = (-1) then 28 else 18, [some (.ref 0), some (.int x1), some (.int x2), some (.ref v2)], [], zhp h)) rfl (zEv_if (fun c3 => ?_) (fun c3 => ?_))
    · replace H := zif_t c3 H
      obtain ⟨c4, H⟩ := zifn H
      rcases c4 with rfl | rfl
      · exact t_qC_laying_j28 (v2 := 7) (x1 := x1) (x2 := x2) (h := h) (by decide) H
      · exact t_qC_laying_j28 (v2 := 22) (x1 := x1) (x2 := x2) (h := h) (by decide) H
    · replace H := zif_f c3 H
      refine zEv_k 2 (f' := (20, [some (.ref 0), some (.int x1), some (.int x2), some (.ref v2)], [.int x2, .ref v2], zhp h)) rfl ?_
      obtain ⟨c8, H⟩ := zifn H
      rcases c8 with rfl | rfl
      · refine zEv_c (fun _ => rfl) rfl (t_qCe_has (oo := 7) (x1 := x2) (h := h) (d := d + 12) (by decide) rfl) rfl rfl ?_
        refine zEv_k 1 (f' := (if ¬ (qCe_has 7 x2 h) = 0 then 28 else 26, [some (.ref 0), some (.int x1), some (.int x2), some (.ref 7)], [], zhp h)) rfl (zEv_if (fun c9 => ?_) (fun c9 => ?_))
        · replace H := zif_t c9 H
          exact t_qC_laying_j28 (v2 := 7) (x1 := x1) (x2 := x2) (h := h) (by decide) H
        · replace H := zif_f c9 H
          refine zEv_k 1 (f' := (27, [some (.ref 0), some (.int x1), some (.int x2), some (.ref 7)], [.int (-1)], zhp h)) rfl ?_
          cases H
          exact zEv_r rfl
      · refine zEv_c (fun _ => rfl) rfl (t_qCe_has (oo := 22) (x1 := x2) (h := h) (d := d + 12) (by decide) rfl) rfl rfl ?_
        refine zEv_k 1 (f' := (if ¬ (qCe_has 22 x2 h) = 0 then 28 else 26, [some (.ref 0), some (.int x1), some (.int x2), some (.ref 22)], [], zhp h)) rfl (zEv_if (fun c9 => ?_) (fun c9 => ?_))
        · replace H := zif_t c9 H
          exact t_qC_laying_j28 (v2 := 22) (x1 := x1) (x2 := x2) (h := h) (by decide) H
        · replace H := zif_f c9 H
          refine zEv_k 1 (f' := (27, [some (.ref 0), some (.int x1), some (.int x2), some (.ref 22)], [.int (-1)], zhp h)) rfl ?_
          cases H
          exact zEv_r rfl
def qC_life (x1 : Int32) (x2 : Int32) (h : zK) : Option (Int32) :=
  (qT_cellarAt x1 h).bind fun p1 => match p1 with
  | none =>
    some (-1)
  | some v2 =>
    if v2 = 7 ∨ v2 = 22 then
      if ¬ (qCe_has v2 x2 h) = 0 then
        (qCe_lifeOf v2 x2 h).bind fun p5 =>
        some p5
      else
        some (-1)
    else none
theorem t_qC_life {Ls : Nat} {xs : Nat → Int32} {d : Nat} {x1 : Int32} {x2 : Int32} {h : zK} {p : Int32} (H : qC_life x1 x2 h = some p) : zEv (zXs Ls xs) (d + 1) zm_123 (0, [some (.ref 0), some (.int x1), some (.int x2), none], [], zhp h) (some (.int p), zhp h) := by
  unfold qC_life at H
  refine zEv_k 1 (f' := (1, [some (.ref 0), some (.int x1), some (.int x2), none], [.ref 0], zhp h)) rfl ?_
  refine zRgr rfl rfl rfl (by decide) (b := 1) rfl ?_
  refine zEv_k 1 (f' := (5, [some (.ref 0), some (.int x1), some (.int x2), none], [.int x1, .ref 1], zhp h)) rfl ?_
  obtain ⟨p1, hp1, H⟩ := zbs H
  refine zEv_c (fun _ => rfl) rfl (t_qT_cellarAt (x1 := x1) (h := h) (d := d) hp1) rfl rfl ?_
  rcases p1 with _ | v2
  · dsimp only at H
    refine zEv_k 4 (f' := (22, [some (.ref 0), some (.int x1), some (.int x2), some (.null)], [.int (-1)], zhp h)) rfl ?_
    cases H
    exact zEv_r rfl
  · dsimp only at H
    refine zEv_k 5 (f' := (15, [some (.ref 0), some (.int x1), some (.int x2), some (.ref v2)], [.int x2, .ref v2], zhp h)) rfl ?_
    obtain ⟨c3, H⟩ := zifn H
    rcases c3 with rfl | rfl
    · refine zEv_c (fun _ => rfl) rfl (t_qCe_has (oo := 7) (x1 := x2) (h := h) (d := d) (by decide) rfl) rfl rfl ?_
      refine zEv_k 1 (f' := (if ¬ (qCe_has 7 x2 h) = 0 then 23 else 21, [some (.ref 0), some (.int x1), some (.int x2), some (.ref 7)], [], zhp h)) rfl (zEv_if (fun c4 => ?_) (fun c4 => ?_))
      · replace H := zif_t c4 H
        refine zEv_k 2 (f' := (25, [some (.ref 0), some (.int x1), some (.int x2), some (.ref 7)], [.int x2, .ref 7], zhp h)) rfl ?_
        obtain ⟨p5, hp5, H⟩ := zbs H
        refine zEv_c (fun _ => rfl) rfl (t_qCe_lifeOf (oo := 7) (x1 := x2) (h := h) (d := d) (by decide) hp5) rfl rfl ?_
        cases H
        exact zEv_r rfl
      · replace H := zif_f c4 H
        refine zEv_k 1 (f' := (22, [some (.ref 0), some (.int x1), some (.int x2), some (.ref 7)], [.int (-1)], zhp h)) rfl ?_
        cases H
        exact zEv_r rfl
    · refine zEv_c (fun _ => rfl) rfl (t_qCe_has (oo := 22) (x1 := x2) (h := h) (d := d) (by decide) rfl) rfl rfl ?_
      refine zEv_k 1 (f' := (if ¬ (qCe_has 22 x2 h) = 0 then 23 else 21, [some (.ref 0), some (.int x1), some (.int x2), some (.ref 22)], [], zhp h)) rfl (zEv_if (fun c4 => ?_) (fun c4 => ?_))
      · replace H := zif_t c4 H
        refine zEv_k 2 (f' := (25, [some (.ref 0), some (.int x1), some (.int x2), some (.ref 22)], [.int x2, .ref 22], zhp h)) rfl ?_
        obtain ⟨p5, hp5, H⟩ := zbs H
        refine zEv_c (fun _ => rfl) rfl (t_qCe_lifeOf (oo := 22) (x1 := x2) (h := h) (d := d) (by decide) hp5) rfl rfl ?_
        cases H
        exact zEv_r rfl
      · replace H := zif_f c4 H
        refine zEv_k 1 (f' := (22, [some (.ref 0), some (.int x1), some (.int x2), some (.ref 22)], [.int (-1)], zhp h)) rfl ?_
        cases H
        exact zEv_r rfl
def qC_plan (x1 : Int32) (x2 : Int32) (x3 : Int32) (h : zK) : Option (Int32 × zK) :=
  (qT_cellarAt x1 h).bind fun p1 => match p1 with
  | none =>
    some (-1, h)
  | some v2 =>
    if x2 < 0 then
      some (-1, h)
    else
      if 10 < x2 then
        some (-1, h)
      else
        if x3 < (-1) then
          some (-1, h)
        else
          if x3 < x2 then
            if v2 = 7 ∨ v2 = 22 then
              (qOr_bestPlan v2 x2 h).bind fun p8 =>
              if ¬ x3 = (-1) then
                (zix x3 10).bind fun j10 =>
                some (gI p8 193 j10, p8)
              else
                some (gI p8 192 0, p8)
            else none
          else
            some (-1, h)
theorem t_qC_plan {Ls : Nat} {xs : Nat → Int32} {d : Nat} {x1 : Int32} {x2 : Int32} {x3 : Int32} {h : zK} {p : Int32 × zK} (H : qC_plan x1 x2 x3 h = some p) : zEv (zXs Ls xs) (d + 4) zm_124 (0, [some (.ref 0), some (.int x1), some (.int x2), some (.int x3), none], [], zhp h) (some (.int p.1), zhp p.2) := by
  unfold qC_plan at H
  refine zEv_k 1 (f' := (1, [some (.ref 0), some (.int x1), some (.int x2), some (.int x3), none], [.ref 0], zhp h)) rfl ?_
  refine zRgr rfl rfl rfl (by decide) (b := 1) rfl ?_
  refine zEv_k 1 (f' := (5, [some (.ref 0), some (.int x1), some (.int x2), some (.int x3), none], [.int x1, .ref 1], zhp h)) rfl ?_
  obtain ⟨p1, hp1, H⟩ := zbs H
  refine zEv_c (fun _ => rfl) rfl (t_qT_cellarAt (x1 := x1) (h := h) (d := d + 3) hp1) rfl rfl ?_
  rcases p1 with _ | v2
  · dsimp only at H
    refine zEv_k 4 (f' := (36, [some (.ref 0), some (.int x1), some (.int x2), some (.int x3), some (.null)], [.int (-1)], zhp h)) rfl ?_
    cases H
    exact zEv_r rfl
  · dsimp only at H
    refine zEv_k 5 (f' := (if x2 < 0 then 35 else 19, [some (.ref 0), some (.int x1), some (.int x2), some (.int x3), some (.ref v2)], [], zhp h)) rfl (zEv_if (fun c3 => ?_) (fun c3 => ?_))
    · replace H := zif_t c3 H
      refine zEv_k 1 (f' := (36, [some (.ref 0), some (.int x1), some (.int x2), some (.int x3), some (.ref v2)], [.int (-1)], zhp h)) rfl ?_
      cases H
      exact zEv_r rfl
    · replace H := zif_f c3 H
      refine zEv_k 3 (f' := (if 10 < x2 then 35 else 25, [some (.ref 0), some (.int x1), some (.int x2), some (.int x3), some (.ref v2)], [], zhp h)) rfl (zEv_if (fun c4 => ?_) (fun c4 => ?_))
      · replace H := zif_t c4 H
        refine zEv_k 1 (f' := (36, [some (.ref 0), some (.int x1), some (.int x2), some (.int x3), some (.ref v2)], [.int (-1)], zhp h)) rfl ?_
        cases H
        exact zEv_r rfl
      · replace H := zif_f c4 H
        refine zEv_k 3 (f' := (if x3 < (-1) then 35 else 30, [some (.ref 0), some (.int x1), some (.int x2), some (.int x3), some (.ref v2)], [], zhp h)) rfl (zEv_if (fun c5 => ?_) (fun c5 => ?_))
        · replace H := zif_t c5 H
          refine zEv_k 1 (f' := (36, [some (.ref 0), some (.int x1), some (.int x2), some (.int x3), some (.ref v2)], [.int (-1)], zhp h)) rfl ?_
          cases H
          exact zEv_r rfl
        · replace H := zif_f c5 H
          refine zEv_k 3 (f' := (if x3 < x2 then 37 else 35, [some (.ref 0), some (.int x1), some (.int x2), some (.int x3), some (.ref v2)], [], zhp h)) rfl (zEv_if (fun c6 => ?_) (fun c6 => ?_))
          · replace H := zif_t c6 H
            refine zEv_k 1 (f' := (38, [some (.ref 0), some (.int x1), some (.int x2), some (.int x3), some (.ref v2)], [.ref 0], zhp h)) rfl ?_
            refine zRgr rfl rfl rfl (by decide) (b := 192) rfl ?_
            refine zEv_k 2 (f' := (44, [some (.ref 0), some (.int x1), some (.int x2), some (.int x3), some (.ref v2)], [.int x2, .ref v2, .ref 192], zhp h)) rfl ?_
            obtain ⟨c7, H⟩ := zifn H
            rcases c7 with rfl | rfl
            · obtain ⟨p8, hp8, H⟩ := zbs H
              refine zEv_c (fun _ => rfl) rfl (t_qOr_bestPlan (oc := 7) (x2 := x2) (h := h) (d := d) (by decide) hp8) rfl rfl ?_
              refine zEv_k 3 (f' := (if ¬ x3 = (-1) then 62 else 52, [some (.ref 0), some (.int x1), some (.int x2), some (.int x3), some (.ref 7)], [], zhp p8)) rfl (zEv_if (fun c9 => ?_) (fun c9 => ?_))
              · replace H := zif_t c9 H
                refine zEv_k 1 (f' := (63, [some (.ref 0), some (.int x1), some (.int x2), some (.int x3), some (.ref 7)], [.ref 0], zhp p8)) rfl ?_
                refine zRgr rfl rfl rfl (by decide) (b := 192) rfl ?_
                refine zRgr rfl rfl rfl (by decide) (b := 193) rfl ?_
                refine zEv_k 1 (f' := (70, [some (.ref 0), some (.int x1), some (.int x2), some (.int x3), some (.ref 7)], [.int x3, .ref 193], zhp p8)) rfl ?_
                obtain ⟨j10, hj10, H⟩ := zbs H
                refine zRia rfl rfl (by decide) hj10 ?_
                cases H
                exact zEv_r rfl
              · replace H := zif_f c9 H
                refine zEv_k 1 (f' := (53, [some (.ref 0), some (.int x1), some (.int x2), some (.int x3), some (.ref 7)], [.ref 0], zhp p8)) rfl ?_
                refine zRgr rfl rfl rfl (by decide) (b := 192) rfl ?_
                refine zEv_k 2 (f' := (71, [some (.ref 0), some (.int x1), some (.int x2), some (.int x3), some (.ref 7)], [.int (gI p8 192 0)], zhp p8)) rfl ?_
                cases H
                exact zEv_r rfl
            · obtain ⟨p8, hp8, H⟩ := zbs H
              refine zEv_c (fun _ => rfl) rfl (t_qOr_bestPlan (oc := 22) (x2 := x2) (h := h) (d := d) (by decide) hp8) rfl rfl ?_
              refine zEv_k 3 (f' := (if ¬ x3 = (-1) then 62 else 52, [some (.ref 0), some (.int x1), some (.int x2), some (.int x3), some (.ref 22)], [], zhp p8)) rfl (zEv_if (fun c9 => ?_) (fun c9 => ?_))
              · replace H := zif_t c9 H
                refine zEv_k 1 (f' := (63, [some (.ref 0), some (.int x1), some (.int x2), some (.int x3), some (.ref 22)], [.ref 0], zhp p8)) rfl ?_
                refine zRgr rfl rfl rfl (by decide) (b := 192) rfl ?_
                refine zRgr rfl rfl rfl (by decide) (b := 193) rfl ?_
                refine zEv_k 1 (f' := (70, [some (.ref 0), some (.int x1), some (.int x2), some (.int x3), some (.ref 22)], [.int x3, .ref 193], zhp p8)) rfl ?_
                obtain ⟨j10, hj10, H⟩ := zbs H
                refine zRia rfl rfl (by decide) hj10 ?_
                cases H
                exact zEv_r rfl
              · replace H := zif_f c9 H
                refine zEv_k 1 (f' := (53, [some (.ref 0), some (.int x1), some (.int x2), some (.int x3), some (.ref 22)], [.ref 0], zhp p8)) rfl ?_
                refine zRgr rfl rfl rfl (by decide) (b := 192) rfl ?_
                refine zEv_k 2 (f' := (71, [some (.ref 0), some (.int x1), some (.int x2), some (.int x3), some (.ref 22)], [.int (gI p8 192 0)], zhp p8)) rfl ?_
                cases H
                exact zEv_r rfl
          · replace H := zif_f c6 H
            refine zEv_k 1 (f' := (36, [some (.ref 0), some (.int x1), some (.int x2), some (.int x3), some (.ref v2)], [.int (-1)], zhp h)) rfl ?_
            cases H
            exact zEv_r rfl
def qC_talk (x1 : Int32) (x2 : Int32) (h : zK) : Option (Int32 × zK) :=
  (qT_cellarAt x1 h).bind fun p1 => match p1 with
  | none =>
    some (-1, h)
  | some v2 =>
    if v2 = 7 ∨ v2 = 22 then
      (qOr_bestRow v2 1 h).bind fun p4 =>
      (qOr_worthOrNumber x2 p4).bind fun p5 =>
      some (p5, p4)
    else none
theorem t_qC_talk {Ls : Nat} {xs : Nat → Int32} {d : Nat} {x1 : Int32} {x2 : Int32} {h : zK} {p : Int32 × zK} (H : qC_talk x1 x2 h = some p) : zEv (zXs Ls xs) (d + 5) zm_125 (0, [some (.ref 0), some (.int x1), some (.int x2), none], [], zhp h) (some (.int p.1), zhp p.2) := by
  unfold qC_talk at H
  refine zEv_k 1 (f' := (1, [some (.ref 0), some (.int x1), some (.int x2), none], [.ref 0], zhp h)) rfl ?_
  refine zRgr rfl rfl rfl (by decide) (b := 1) rfl ?_
  refine zEv_k 1 (f' := (5, [some (.ref 0), some (.int x1), some (.int x2), none], [.int x1, .ref 1], zhp h)) rfl ?_
  obtain ⟨p1, hp1, H⟩ := zbs H
  refine zEv_c (fun _ => rfl) rfl (t_qT_cellarAt (x1 := x1) (h := h) (d := d + 4) hp1) rfl rfl ?_
  rcases p1 with _ | v2
  · dsimp only at H
    refine zEv_k 4 (f' := (14, [some (.ref 0), some (.int x1), some (.int x2), some (.null)], [.int (-1)], zhp h)) rfl ?_
    cases H
    exact zEv_r rfl
  · dsimp only at H
    refine zEv_k 4 (f' := (16, [some (.ref 0), some (.int x1), some (.int x2), some (.ref v2)], [.ref 0], zhp h)) rfl ?_
    refine zRgr rfl rfl rfl (by decide) (b := 192) rfl ?_
    refine zEv_k 2 (f' := (21, [some (.ref 0), some (.int x1), some (.int x2), some (.ref v2)], [.int 1, .ref v2, .ref 192], zhp h)) rfl ?_
    obtain ⟨c3, H⟩ := zifn H
    rcases c3 with rfl | rfl
    · obtain ⟨p4, hp4, H⟩ := zbs H
      refine zEv_c (fun _ => rfl) rfl (t_qOr_bestRow (oc := 7) (x2 := 1) (h := h) (d := d) (by decide) hp4) rfl rfl ?_
      refine zEv_k 1 (f' := (25, [some (.ref 0), some (.int x1), some (.int x2), some (.ref 7)], [.ref 0], zhp p4)) rfl ?_
      refine zRgr rfl rfl rfl (by decide) (b := 192) rfl ?_
      refine zEv_k 1 (f' := (29, [some (.ref 0), some (.int x1), some (.int x2), some (.ref 7)], [.int x2, .ref 192], zhp p4)) rfl ?_
      obtain ⟨p5, hp5, H⟩ := zbs H
      refine zEv_c (fun _ => rfl) rfl (t_qOr_worthOrNumber (x1 := x2) (h := p4) (d := d + 4) hp5) rfl rfl ?_
      cases H
      exact zEv_r rfl
    · obtain ⟨p4, hp4, H⟩ := zbs H
      refine zEv_c (fun _ => rfl) rfl (t_qOr_bestRow (oc := 22) (x2 := 1) (h := h) (d := d) (by decide) hp4) rfl rfl ?_
      refine zEv_k 1 (f' := (25, [some (.ref 0), some (.int x1), some (.int x2), some (.ref 22)], [.ref 0], zhp p4)) rfl ?_
      refine zRgr rfl rfl rfl (by decide) (b := 192) rfl ?_
      refine zEv_k 1 (f' := (29, [some (.ref 0), some (.int x1), some (.int x2), some (.ref 22)], [.int x2, .ref 192], zhp p4)) rfl ?_
      obtain ⟨p5, hp5, H⟩ := zbs H
      refine zEv_c (fun _ => rfl) rfl (t_qOr_worthOrNumber (x1 := x2) (h := p4) (d := d + 4) hp5) rfl rfl ?_
      cases H
      exact zEv_r rfl
def qC_dinner (x1 : Int32) (x2 : Int32) (h : zK) : Option (Int32 × zK) :=
  (qT_cellarAt x1 h).bind fun p1 => match p1 with
  | none =>
    some (-1, h)
  | some v2 =>
    if v2 = 7 ∨ v2 = 22 then
      (qOr_bestRow v2 0 h).bind fun p4 =>
      (qOr_worthOrNumber x2 p4).bind fun p5 =>
      some (p5, p4)
    else none
theorem t_qC_dinner {Ls : Nat} {xs : Nat → Int32} {d : Nat} {x1 : Int32} {x2 : Int32} {h : zK} {p : Int32 × zK} (H : qC_dinner x1 x2 h = some p) : zEv (zXs Ls xs) (d + 5) zm_126 (0, [some (.ref 0), some (.int x1), some (.int x2), none], [], zhp h) (some (.int p.1), zhp p.2) := by
  unfold qC_dinner at H
  refine zEv_k 1 (f' := (1, [some (.ref 0), some (.int x1), some (.int x2), none], [.ref 0], zhp h)) rfl ?_
  refine zRgr rfl rfl rfl (by decide) (b := 1) rfl ?_
  refine zEv_k 1 (f' := (5, [some (.ref 0), some (.int x1), some (.int x2), none], [.int x1, .ref 1], zhp h)) rfl ?_
  obtain ⟨p1, hp1, H⟩ := zbs H
  refine zEv_c (fun _ => rfl) rfl (t_qT_cellarAt (x1 := x1) (h := h) (d := d + 4) hp1) rfl rfl ?_
  rcases p1 with _ | v2
  · dsimp only at H
    refine zEv_k 4 (f' := (14, [some (.ref 0), some (.int x1), some (.int x2), some (.null)], [.int (-1)], zhp h)) rfl ?_
    cases H
    exact zEv_r rfl
  · dsimp only at H
    refine zEv_k 4 (f' := (16, [some (.ref 0), some (.int x1), some (.int x2), some (.ref v2)], [.ref 0], zhp h)) rfl ?_
    refine zRgr rfl rfl rfl (by decide) (b := 192) rfl ?_
    refine zEv_k 2 (f' := (21, [some (.ref 0), some (.int x1), some (.int x2), some (.ref v2)], [.int 0, .ref v2, .ref 192], zhp h)) rfl ?_
    obtain ⟨c3, H⟩ := zifn H
    rcases c3 with rfl | rfl
    · obtain ⟨p4, hp4, H⟩ := zbs H
      refine zEv_c (fun _ => rfl) rfl (t_qOr_bestRow (oc := 7) (x2 := 0) (h := h) (d := d) (by decide) hp4) rfl rfl ?_
      refine zEv_k 1 (f' := (25, [some (.ref 0), some (.int x1), some (.int x2), some (.ref 7)], [.ref 0], zhp p4)) rfl ?_
      refine zRgr rfl rfl rfl (by decide) (b := 192) rfl ?_
      refine zEv_k 1 (f' := (29, [some (.ref 0), some (.int x1), some (.int x2), some (.ref 7)], [.int x2, .ref 192], zhp p4)) rfl ?_
      obtain ⟨p5, hp5, H⟩ := zbs H
      refine zEv_c (fun _ => rfl) rfl (t_qOr_worthOrNumber (x1 := x2) (h := p4) (d := d + 4) hp5) rfl rfl ?_
      cases H
      exact zEv_r rfl
    · obtain ⟨p4, hp4, H⟩ := zbs H
      refine zEv_c (fun _ => rfl) rfl (t_qOr_bestRow (oc := 22) (x2 := 0) (h := h) (d := d) (by decide) hp4) rfl rfl ?_
      refine zEv_k 1 (f' := (25, [some (.ref 0), some (.int x1), some (.int x2), some (.ref 22)], [.ref 0], zhp p4)) rfl ?_
      refine zRgr rfl rfl rfl (by decide) (b := 192) rfl ?_
      refine zEv_k 1 (f' := (29, [some (.ref 0), some (.int x1), some (.int x2), some (.ref 22)], [.int x2, .ref 192], zhp p4)) rfl ?_
      obtain ⟨p5, hp5, H⟩ := zbs H
      refine zEv_c (fun _ => rfl) rfl (t_qOr_worthOrNumber (x1 := x2) (h := p4) (d := d + 4) hp5) rfl rfl ?_
      cases H
      exact zEv_r rfl
def qLk_wiresFor_b4 (oc : Nat) (x1 : Int32) (h : zK) (s : Int32 × Int32) : Option ((Int32 × Int32) ⊕ ((Int32) ⊕ (Int32))) :=
  if (gI h oc 2) ≤ s.2 then
    some (.inr (.inl s.1))
  else
    if x1 ≤ 0 then
      some (.inr (.inl s.1))
    else
      (zix s.2 7).bind fun j3 =>
      if (((gI h (oc + 3) j3) + ((gI h (oc + 4) j3) * x1)) - (gI h (oc + 5) j3)) ≤ 5 then
        zlet (
            if (((gI h (oc + 3) j3) + ((gI h (oc + 4) j3) * x1)) - (gI h (oc + 5) j3)) ≤ 0 then
              s.1
            else
              s.1 ||| ((1 : Int32) <<< (s.2 &&& 31))
          ) fun (v6 : Int32) =>
        some (.inl (v6, s.2 + 1))
      else
        some (.inr (.inr (-1)))
theorem t_qLk_wiresFor_b4b {Ls : Nat} {xs : Nat → Int32} {d : Nat} {oc : Nat} {x1 : Int32} {h : zK} {r : zA} {s : Int32 × Int32} {e : (Int32 × Int32) ⊕ ((Int32) ⊕ (Int32))} (ho : oc = 7 ∨ oc = 22) (H : qLk_wiresFor_b4 oc x1 h s = some e) (K : match (generalizing := false) e with | .inl s' => ∀ (z4 : Option Value), zEv (zXs Ls xs) d zm_284 (4, [some (.ref oc), some (.int x1), some (.int s'.1), some (.int s'.2), z4], [], zhp h) r | .inr (.inl v) => ∀ (z3 : Option Value) (z4 : Option Value), zEv (zXs Ls xs) d zm_284 (65, [some (.ref oc), some (.int x1), some (.int v), z3, z4], [], zhp h) r | .inr (.inr p) => (some (.int p), zhp h) = r) (y4 : Option Value) : zEv (zXs Ls xs) d zm_284 (4, [some (.ref oc), some (.int x1), some (.int s.1), some (.int s.2), y4], [], zhp h) r := by
  unfold qLk_wiresFor_b4 at H
  rcases ho with rfl | rfl
  · refine zEv_k 4 (f' := (if (gI h 7 2) ≤ s.2 then 65 else 12, [some (.ref 7), some (.int x1), some (.int s.1), some (.int s.2), y4], [], zhp h)) rfl (zEv_if (fun c1 => ?_) (fun c1 => ?_))
    · replace H := zif_t c1 H
      cases H
      exact K _ _
    · replace H := zif_f c1 H
      refine zEv_k 2 (f' := (if x1 ≤ 0 then 65 else 16, [some (.ref 7), some (.int x1), some (.int s.1), some (.int s.2), y4], [], zhp h)) rfl (zEv_if (fun c2 => ?_) (fun c2 => ?_))
      · replace H := zif_t c2 H
        cases H
        exact K _ _
      · replace H := zif_f c2 H
        refine zEv_k 1 (f' := (17, [some (.ref 7), some (.int x1), some (.int s.1), some (.int s.2), y4], [.ref 7], zhp h)) rfl ?_
        refine zRgr rfl rfl rfl (by decide) (b := 7 + 3) rfl ?_
        refine zEv_k 1 (f' := (21, [some (.ref 7), some (.int x1), some (.int s.1), some (.int s.2), y4], [.int s.2, .ref (7 + 3)], zhp h)) rfl ?_
        obtain ⟨j3, hj3, H⟩ := zbs H
        refine zRia rfl rfl (by decide) hj3 ?_
        refine zEv_k 1 (f' := (23, [some (.ref 7), some (.int x1), some (.int s.1), some (.int s.2), y4], [.ref 7, .int (gI h (7 + 3) j3)], zhp h)) rfl ?_
        refine zRgr rfl rfl rfl (by decide) (b := 7 + 4) rfl ?_
        refine zEv_k 1 (f' := (27, [some (.ref 7), some (.int x1), some (.int s.1), some (.int s.2), y4], [.int s.2, .ref (7 + 4), .int (gI h (7 + 3) j3)], zhp h)) rfl ?_
        refine zRia rfl rfl (by decide) hj3 ?_
        refine zEv_k 4 (f' := (32, [some (.ref 7), some (.int x1), some (.int s.1), some (.int s.2), y4], [.ref 7, .int ((gI h (7 + 3) j3) + ((gI h (7 + 4) j3) * x1))], zhp h)) rfl ?_
        refine zRgr rfl rfl rfl (by decide) (b := 7 + 5) rfl ?_
        refine zEv_k 1 (f' := (36, [some (.ref 7), some (.int x1), some (.int s.1), some (.int s.2), y4], [.int s.2, .ref (7 + 5), .int ((gI h (7 + 3) j3) + ((gI h (7 + 4) j3) * x1))], zhp h)) rfl ?_
        refine zRia rfl rfl (by decide) hj3 ?_
        refine zEv_k 5 (f' := (if (((gI h (7 + 3) j3) + ((gI h (7 + 4) j3) * x1)) - (gI h (7 + 5) j3)) ≤ 5 then 48 else 46, [some (.ref 7), some (.int x1), some (.int s.1), some (.int s.2), some (.int (((gI h (7 + 3) j3) + ((gI h (7 + 4) j3) * x1)) - (gI h (7 + 5) j3)))], [], zhp h)) rfl (zEv_if (fun c4 => ?_) (fun c4 => ?_))
        · replace H := zif_t c4 H
          obtain ⟨v6, hv6, H⟩ := zlets H
          have kv6 : zEv (zXs Ls xs) d zm_284 (59, [some (.ref 7), some (.int x1), some (.int v6), some (.int s.2), some (.int (((gI h (7 + 3) j3) + ((gI h (7 + 4) j3) * x1)) - (gI h (7 + 5) j3)))], [], zhp h) r := by
            refine zEv_k 2 (f' := (4, [some (.ref 7), some (.int x1), some (.int v6), some (.int (s.2 + 1)), some (.int (((gI h (7 + 3) j3) + ((gI h (7 + 4) j3) * x1)) - (gI h (7 + 5) j3)))], [], zhp h)) rfl ?_
            cases H
            exact K _
          clear H
          refine zEv_k 2 (f' := (if (((gI h (7 + 3) j3) + ((gI h (7 + 4) j3) * x1)) - (gI h (7 + 5) j3)) ≤ 0 then 59 else 53, [some (.ref 7), some (.int x1), some (.int s.1), some (.int s.2), some (.int (((gI h (7 + 3) j3) + ((gI h (7 + 4) j3) * x1)) - (gI h (7 + 5) j3)))], [], zhp h)) rfl (zEv_if (fun c5 => ?_) (fun c5 => ?_))
          · replace hv6 := zif_t c5 hv6
            cases hv6
            exact kv6
          · replace hv6 := zif_f c5 hv6
            refine zEv_k 6 (f' := (59, [some (.ref 7), some (.int x1), some (.int (s.1 ||| ((1 : Int32) <<< (s.2 &&& 31)))), some (.int s.2), some (.int (((gI h (7 + 3) j3) + ((gI h (7 + 4) j3) * x1)) - (gI h (7 + 5) j3)))], [], zhp h)) rfl ?_
            cases hv6
            exact kv6
        · replace H := zif_f c4 H
          refine zEv_k 1 (f' := (47, [some (.ref 7), some (.int x1), some (.int s.1), some (.int s.2), some (.int (((gI h (7 + 3) j3) + ((gI h (7 + 4) j3) * x1)) - (gI h (7 + 5) j3)))], [.int (-1)], zhp h)) rfl ?_
          cases H
          exact zEv_re K rfl
  · refine zEv_k 4 (f' := (if (gI h 22 2) ≤ s.2 then 65 else 12, [some (.ref 22), some (.int x1), some (.int s.1), some (.int s.2), y4], [], zhp h)) rfl (zEv_if (fun c1 => ?_) (fun c1 => ?_))
    · replace H := zif_t c1 H
      cases H
      exact K _ _
    · replace H := zif_f c1 H
      refine zEv_k 2 (f' := (if x1 ≤ 0 then 65 else 16, [some (.ref 22), some (.int x1), some (.int s.1), some (.int s.2), y4], [], zhp h)) rfl (zEv_if (fun c2 => ?_) (fun c2 => ?_))
      · replace H := zif_t c2 H
        cases H
        exact K _ _
      · replace H := zif_f c2 H
        refine zEv_k 1 (f' := (17, [some (.ref 22), some (.int x1), some (.int s.1), some (.int s.2), y4], [.ref 22], zhp h)) rfl ?_
        refine zRgr rfl rfl rfl (by decide) (b := 22 + 3) rfl ?_
        refine zEv_k 1 (f' := (21, [some (.ref 22), some (.int x1), some (.int s.1), some (.int s.2), y4], [.int s.2, .ref (22 + 3)], zhp h)) rfl ?_
        obtain ⟨j3, hj3, H⟩ := zbs H
        refine zRia rfl rfl (by decide) hj3 ?_
        refine zEv_k 1 (f' := (23, [some (.ref 22), some (.int x1), some (.int s.1), some (.int s.2), y4], [.ref 22, .int (gI h (22 + 3) j3)], zhp h)) rfl ?_
        refine zRgr rfl rfl rfl (by decide) (b := 22 + 4) rfl ?_
        refine zEv_k 1 (f' := (27, [some (.ref 22), some (.int x1), some (.int s.1), some (.int s.2), y4], [.int s.2, .ref (22 + 4), .int (gI h (22 + 3) j3)], zhp h)) rfl ?_
        refine zRia rfl rfl (by decide) hj3 ?_
        refine zEv_k 4 (f' := (32, [some (.ref 22), some (.int x1), some (.int s.1), some (.int s.2), y4], [.ref 22, .int ((gI h (22 + 3) j3) + ((gI h (22 + 4) j3) * x1))], zhp h)) rfl ?_
        refine zRgr rfl rfl rfl (by decide) (b := 22 + 5) rfl ?_
        refine zEv_k 1 (f' := (36, [some (.ref 22), some (.int x1), some (.int s.1), some (.int s.2), y4], [.int s.2, .ref (22 + 5), .int ((gI h (22 + 3) j3) + ((gI h (22 + 4) j3) * x1))], zhp h)) rfl ?_
        refine zRia rfl rfl (by decide) hj3 ?_
        refine zEv_k 5 (f' := (if (((gI h (22 + 3) j3) + ((gI h (22 + 4) j3) * x1)) - (gI h (22 + 5) j3)) ≤ 5 then 48 else 46, [some (.ref 22), some (.int x1), some (.int s.1), some (.int s.2), some (.int (((gI h (22 + 3) j3) + ((gI h (22 + 4) j3) * x1)) - (gI h (22 + 5) j3)))], [], zhp h)) rfl (zEv_if (fun c4 => ?_) (fun c4 => ?_))
        · replace H := zif_t c4 H
          obtain ⟨v6, hv6, H⟩ := zlets H
          have kv6 : zEv (zXs Ls xs) d zm_284 (59, [some (.ref 22), some (.int x1), some (.int v6), some (.int s.2), some (.int (((gI h (22 + 3) j3) + ((gI h (22 + 4) j3) * x1)) - (gI h (22 + 5) j3)))], [], zhp h) r := by
            refine zEv_k 2 (f' := (4, [some (.ref 22), some (.int x1), some (.int v6), some (.int (s.2 + 1)), some (.int (((gI h (22 + 3) j3) + ((gI h (22 + 4) j3) * x1)) - (gI h (22 + 5) j3)))], [], zhp h)) rfl ?_
            cases H
            exact K _
          clear H
          refine zEv_k 2 (f' := (if (((gI h (22 + 3) j3) + ((gI h (22 + 4) j3) * x1)) - (gI h (22 + 5) j3)) ≤ 0 then 59 else 53, [some (.ref 22), some (.int x1), some (.int s.1), some (.int s.2), some (.int (((gI h (22 + 3) j3) + ((gI h (22 + 4) j3) * x1)) - (gI h (22 + 5) j3)))], [], zhp h)) rfl (zEv_if (fun c5 => ?_) (fun c5 => ?_))
          · replace hv6 := zif_t c5 hv6
            cases hv6
            exact kv6
          · replace hv6 := zif_f c5 hv6
            refine zEv_k 6 (f' := (59, [some (.ref 22), some (.int x1), some (.int (s.1 ||| ((1 : Int32) <<< (s.2 &&& 31)))), some (.int s.2), some (.int (((gI h (22 + 3) j3) + ((gI h (22 + 4) j3) * x1)) - (gI h (22 + 5) j3)))], [], zhp h)) rfl ?_
            cases hv6
            exact kv6
        · replace H := zif_f c4 H
          refine zEv_k 1 (f' := (47, [some (.ref 22), some (.int x1), some (.int s.1), some (.int s.2), some (.int (((gI h (22 + 3) j3) + ((gI h (22 + 4) j3) * x1)) - (gI h (22 + 5) j3)))], [.int (-1)], zhp h)) rfl ?_
          cases H
          exact zEv_re K rfl
theorem t_qLk_wiresFor_b4 {Ls : Nat} {xs : Nat → Int32} {d : Nat} {oc : Nat} {x1 : Int32} {h : zK} {r : zA} (ho : oc = 7 ∨ oc = 22) {t : (Int32) ⊕ (Int32)} (K : (match (generalizing := false) t with | .inl v => ∀ (z3 : Option Value) (z4 : Option Value), zEv (zXs Ls xs) d zm_284 (65, [some (.ref oc), some (.int x1), some (.int v), z3, z4], [], zhp h) r | .inr p => (some (.int p), zhp h) = r)) (n : Nat) (s : Int32 × Int32) (H : zloop (qLk_wiresFor_b4 oc x1 h) n s = some t) (y4 : Option Value) : zEv (zXs Ls xs) d zm_284 (4, [some (.ref oc), some (.int x1), some (.int s.1), some (.int s.2), y4], [], zhp h) r := by
  have Z := zloop_P (P := fun s => ∀ (y4 : Option Value), zEv (zXs Ls xs) d zm_284 (4, [some (.ref oc), some (.int x1), some (.int s.1), some (.int s.2), y4], [], zhp h) r) (b := qLk_wiresFor_b4 oc x1 h) (t := t) (fun s s2 hb hk => by intro y4; exact t_qLk_wiresFor_b4b ho hb hk y4) (fun s hb => by rcases t with v | p <;> (intro y4; exact t_qLk_wiresFor_b4b ho hb K y4)) n s H
  exact Z y4
def qLk_wiresFor (oc : Nat) (x1 : Int32) (h : zK) : Option (Int32) :=
  (zloop (qLk_wiresFor_b4 oc x1 h) zfu (0, 0)).bind fun t7 => match t7 with
  | .inr p => some p
  | .inl v8 =>
    some v8
theorem t_qLk_wiresFor {Ls : Nat} {xs : Nat → Int32} {d : Nat} {oc : Nat} {x1 : Int32} {h : zK} {p : Int32} (ho : oc = 7 ∨ oc = 22) (H : qLk_wiresFor oc x1 h = some p) : zEv (zXs Ls xs) d zm_284 (0, [some (.ref oc), some (.int x1), none, none, none], [], zhp h) (some (.int p), zhp h) := by
  unfold qLk_wiresFor at H
  rcases ho with rfl | rfl
  · refine zEv_k 4 (f' := (4, [some (.ref 7), some (.int x1), some (.int 0), some (.int 0), none], [], zhp h)) rfl ?_
    obtain ⟨t7, ht7, H⟩ := zbs H
    refine t_qLk_wiresFor_b4 (oc := 7) (x1 := x1) (h := h) (by decide) ?_ zfu _ ht7 _
    rcases t7 with v8 | p
    · intro y3 y4
      dsimp only at H
      refine zEv_k 1 (f' := (66, [some (.ref 7), some (.int x1), some (.int v8), y3, y4], [.int v8], zhp h)) rfl ?_
      cases H
      exact zEv_r rfl
    · cases H
      exact rfl
  · refine zEv_k 4 (f' := (4, [some (.ref 22), some (.int x1), some (.int 0), some (.int 0), none], [], zhp h)) rfl ?_
    obtain ⟨t7, ht7, H⟩ := zbs H
    refine t_qLk_wiresFor_b4 (oc := 22) (x1 := x1) (h := h) (by decide) ?_ zfu _ ht7 _
    rcases t7 with v8 | p
    · intro y3 y4
      dsimp only at H
      refine zEv_k 1 (f' := (66, [some (.ref 22), some (.int x1), some (.int v8), y3, y4], [.int v8], zhp h)) rfl ?_
      cases H
      exact zEv_r rfl
    · cases H
      exact rfl
def qC_wires (x1 : Int32) (x2 : Int32) (x3 : Int32) (h : zK) : Option (Int32) :=
  (qT_cellarAt x1 h).bind fun p1 => match p1 with
  | none =>
    some (-1)
  | some v2 =>
    if x2 < 0 then
      some (-1)
    else
      if x2 ≤ 20 then
        if v2 = 7 ∨ v2 = 22 then
          (qLk_wiresFor v2 x2 h).bind fun p6 =>
          if ¬ x3 = 0 then
            some p6
          else
            if ¬ p6 = (-1) then
              some (qIn_bitCount p6)
            else
              some p6
        else none
      else
        some (-1)
theorem t_qC_wires {Ls : Nat} {xs : Nat → Int32} {d : Nat} {x1 : Int32} {x2 : Int32} {x3 : Int32} {h : zK} {p : Int32} (H : qC_wires x1 x2 x3 h = some p) : zEv (zXs Ls xs) (d + 1) zm_127 (0, [some (.ref 0), some (.int x1), some (.int x2), some (.int x3), none, none], [], zhp h) (some (.int p), zhp h) := by
  unfold qC_wires at H
  refine zEv_k 1 (f' := (1, [some (.ref 0), some (.int x1), some (.int x2), some (.int x3), none, none], [.ref 0], zhp h)) rfl ?_
  refine zRgr rfl rfl rfl (by decide) (b := 1) rfl ?_
  refine zEv_k 1 (f' := (5, [some (.ref 0), some (.int x1), some (.int x2), some (.int x3), none, none], [.int x1, .ref 1], zhp h)) rfl ?_
  obtain ⟨p1, hp1, H⟩ := zbs H
  refine zEv_c (fun _ => rfl) rfl (t_qT_cellarAt (x1 := x1) (h := h) (d := d) hp1) rfl rfl ?_
  rcases p1 with _ | v2
  · dsimp only at H
    refine zEv_k 4 (f' := (26, [some (.ref 0), some (.int x1), some (.int x2), some (.int x3), some (.null), none], [.int (-1)], zhp h)) rfl ?_
    cases H
    exact zEv_r rfl
  · dsimp only at H
    refine zEv_k 5 (f' := (if x2 < 0 then 25 else 19, [some (.ref 0), some (.int x1), some (.int x2), some (.int x3), some (.ref v2), none], [], zhp h)) rfl (zEv_if (fun c3 => ?_) (fun c3 => ?_))
    · replace H := zif_t c3 H
      refine zEv_k 1 (f' := (26, [some (.ref 0), some (.int x1), some (.int x2), some (.int x3), some (.ref v2), none], [.int (-1)], zhp h)) rfl ?_
      cases H
      exact zEv_r rfl
    · replace H := zif_f c3 H
      refine zEv_k 3 (f' := (if x2 ≤ 20 then 27 else 25, [some (.ref 0), some (.int x1), some (.int x2), some (.int x3), some (.ref v2), none], [], zhp h)) rfl (zEv_if (fun c4 => ?_) (fun c4 => ?_))
      · replace H := zif_t c4 H
        refine zEv_k 2 (f' := (30, [some (.ref 0), some (.int x1), some (.int x2), some (.int x3), some (.ref v2), none], [.int x2, .ref v2], zhp h)) rfl ?_
        obtain ⟨c5, H⟩ := zifn H
        rcases c5 with rfl | rfl
        · obtain ⟨p6, hp6, H⟩ := zbs H
          refine zEv_c (fun _ => rfl) rfl (t_qLk_wiresFor (oc := 7) (x1 := x2) (h := h) (d := d) (by decide) hp6) rfl rfl ?_
          refine zEv_k 3 (f' := (if ¬ x3 = 0 then 45 else 39, [some (.ref 0), some (.int x1), some (.int x2), some (.int x3), some (.ref 7), some (.int p6)], [], zhp h)) rfl (zEv_if (fun c7 => ?_) (fun c7 => ?_))
          · replace H := zif_t c7 H
            refine zEv_k 2 (f' := (55, [some (.ref 0), some (.int x1), some (.int x2), some (.int x3), some (.ref 7), some (.int p6)], [.int p6], zhp h)) rfl ?_
            cases H
            exact zEv_r rfl
          · replace H := zif_f c7 H
            refine zEv_k 3 (f' := (if ¬ p6 = (-1) then 50 else 45, [some (.ref 0), some (.int x1), some (.int x2), some (.int x3), some (.ref 7), some (.int p6)], [], zhp h)) rfl (zEv_if (fun c8 => ?_) (fun c8 => ?_))
            · replace H := zif_t c8 H
              refine zEv_k 1 (f' := (52, [some (.ref 0), some (.int x1), some (.int x2), some (.int x3), some (.ref 7), some (.int p6)], [.int p6], zhp h)) rfl ?_
              refine zEv_c (fun _ => rfl) rfl (t_qIn_bitCount (x0 := p6) (h := h) (d := d) rfl) rfl rfl ?_
              cases H
              exact zEv_r rfl
            · replace H := zif_f c8 H
              refine zEv_k 2 (f' := (55, [some (.ref 0), some (.int x1), some (.int x2), some (.int x3), some (.ref 7), some (.int p6)], [.int p6], zhp h)) rfl ?_
              cases H
              exact zEv_r rfl
        · obtain ⟨p6, hp6, H⟩ := zbs H
          refine zEv_c (fun _ => rfl) rfl (t_qLk_wiresFor (oc := 22) (x1 := x2) (h := h) (d := d) (by decide) hp6) rfl rfl ?_
          refine zEv_k 3 (f' := (if ¬ x3 = 0 then 45 else 39, [some (.ref 0), some (.int x1), some (.int x2), some (.int x3), some (.ref 22), some (.int p6)], [], zhp h)) rfl (zEv_if (fun c7 => ?_) (fun c7 => ?_))
          · replace H := zif_t c7 H
            refine zEv_k 2 (f' := (55, [some (.ref 0), some (.int x1), some (.int x2), some (.int x3), some (.ref 22), some (.int p6)], [.int p6], zhp h)) rfl ?_
            cases H
            exact zEv_r rfl
          · replace H := zif_f c7 H
            refine zEv_k 3 (f' := (if ¬ p6 = (-1) then 50 else 45, [some (.ref 0), some (.int x1), some (.int x2), some (.int x3), some (.ref 22), some (.int p6)], [], zhp h)) rfl (zEv_if (fun c8 => ?_) (fun c8 => ?_))
            · replace H := zif_t c8 H
              refine zEv_k 1 (f' := (52, [some (.ref 0), some (.int x1), some (.int x2), some (.int x3), some (.ref 22), some (.int p6)], [.int p6], zhp h)) rfl ?_
              refine zEv_c (fun _ => rfl) rfl (t_qIn_bitCount (x0 := p6) (h := h) (d := d) rfl) rfl rfl ?_
              cases H
              exact zEv_r rfl
            · replace H := zif_f c8 H
              refine zEv_k 2 (f' := (55, [some (.ref 0), some (.int x1), some (.int x2), some (.int x3), some (.ref 22), some (.int p6)], [.int p6], zhp h)) rfl ?_
              cases H
              exact zEv_r rfl
      · replace H := zif_f c4 H
        refine zEv_k 1 (f' := (26, [some (.ref 0), some (.int x1), some (.int x2), some (.int x3), some (.ref v2), none], [.int (-1)], zhp h)) rfl ?_
        cases H
        exact zEv_r rfl
def qC_duel (x1 : Int32) (x2 : Int32) (x3 : Int32) (h : zK) : Option (Int32 × zK) :=
  (qT_cellarAt x1 h).bind fun p1 => match p1 with
  | none =>
    some (-999, h)
  | some v2 =>
    if x2 < 0 then
      some (-999, h)
    else
      if x2 ≤ 5 then
        if v2 = 7 ∨ v2 = 22 then
          (qOr_playOut v2 x2 h).bind fun p6 =>
          if x3 = 0 then
            some (gI p6 192 0, p6)
          else
            some (gI p6 192 1, p6)
        else none
      else
        some (-999, h)
theorem t_qC_duel {Ls : Nat} {xs : Nat → Int32} {d : Nat} {x1 : Int32} {x2 : Int32} {x3 : Int32} {h : zK} {p : Int32 × zK} (H : qC_duel x1 x2 x3 h = some p) : zEv (zXs Ls xs) (d + 6) zm_128 (0, [some (.ref 0), some (.int x1), some (.int x2), some (.int x3), none], [], zhp h) (some (.int p.1), zhp p.2) := by
  unfold qC_duel at H
  refine zEv_k 1 (f' := (1, [some (.ref 0), some (.int x1), some (.int x2), some (.int x3), none], [.ref 0], zhp h)) rfl ?_
  refine zRgr rfl rfl rfl (by decide) (b := 1) rfl ?_
  refine zEv_k 1 (f' := (5, [some (.ref 0), some (.int x1), some (.int x2), some (.int x3), none], [.int x1, .ref 1], zhp h)) rfl ?_
  obtain ⟨p1, hp1, H⟩ := zbs H
  refine zEv_c (fun _ => rfl) rfl (t_qT_cellarAt (x1 := x1) (h := h) (d := d + 5) hp1) rfl rfl ?_
  rcases p1 with _ | v2
  · dsimp only at H
    refine zEv_k 4 (f' := (27, [some (.ref 0), some (.int x1), some (.int x2), some (.int x3), some (.null)], [.int (-999)], zhp h)) rfl ?_
    cases H
    exact zEv_r rfl
  · dsimp only at H
    refine zEv_k 5 (f' := (if x2 < 0 then 24 else 19, [some (.ref 0), some (.int x1), some (.int x2), some (.int x3), some (.ref v2)], [], zhp h)) rfl (zEv_if (fun c3 => ?_) (fun c3 => ?_))
    · replace H := zif_t c3 H
      refine zEv_k 1 (f' := (27, [some (.ref 0), some (.int x1), some (.int x2), some (.int x3), some (.ref v2)], [.int (-999)], zhp h)) rfl ?_
      cases H
      exact zEv_r rfl
    · replace H := zif_f c3 H
      refine zEv_k 3 (f' := (if x2 ≤ 5 then 28 else 24, [some (.ref 0), some (.int x1), some (.int x2), some (.int x3), some (.ref v2)], [], zhp h)) rfl (zEv_if (fun c4 => ?_) (fun c4 => ?_))
      · replace H := zif_t c4 H
        refine zEv_k 1 (f' := (29, [some (.ref 0), some (.int x1), some (.int x2), some (.int x3), some (.ref v2)], [.ref 0], zhp h)) rfl ?_
        refine zRgr rfl rfl rfl (by decide) (b := 192) rfl ?_
        refine zEv_k 2 (f' := (35, [some (.ref 0), some (.int x1), some (.int x2), some (.int x3), some (.ref v2)], [.int x2, .ref v2, .ref 192], zhp h)) rfl ?_
        obtain ⟨c5, H⟩ := zifn H
        rcases c5 with rfl | rfl
        · obtain ⟨p6, hp6, H⟩ := zbs H
          refine zEv_c (fun _ => rfl) rfl (t_qOr_playOut (oc := 7) (x2 := x2) (h := h) (d := d) (by decide) hp6) rfl rfl ?_
          refine zEv_k 2 (f' := (if x3 = 0 then 52 else 42, [some (.ref 0), some (.int x1), some (.int x2), some (.int x3), some (.ref 7)], [], zhp p6)) rfl (zEv_if (fun c7 => ?_) (fun c7 => ?_))
          · replace H := zif_t c7 H
            refine zEv_k 1 (f' := (53, [some (.ref 0), some (.int x1), some (.int x2), some (.int x3), some (.ref 7)], [.ref 0], zhp p6)) rfl ?_
            refine zRgr rfl rfl rfl (by decide) (b := 192) rfl ?_
            refine zEv_k 1 (f' := (59, [some (.ref 0), some (.int x1), some (.int x2), some (.int x3), some (.ref 7)], [.int (gI p6 192 0)], zhp p6)) rfl ?_
            cases H
            exact zEv_r rfl
          · replace H := zif_f c7 H
            refine zEv_k 1 (f' := (43, [some (.ref 0), some (.int x1), some (.int x2), some (.int x3), some (.ref 7)], [.ref 0], zhp p6)) rfl ?_
            refine zRgr rfl rfl rfl (by decide) (b := 192) rfl ?_
            refine zEv_k 2 (f' := (59, [some (.ref 0), some (.int x1), some (.int x2), some (.int x3), some (.ref 7)], [.int (gI p6 192 1)], zhp p6)) rfl ?_
            cases H
            exact zEv_r rfl
        · obtain ⟨p6, hp6, H⟩ := zbs H
          refine zEv_c (fun _ => rfl) rfl (t_qOr_playOut (oc := 22) (x2 := x2) (h := h) (d := d) (by decide) hp6) rfl rfl ?_
          refine zEv_k 2 (f' := (if x3 = 0 then 52 else 42, [some (.ref 0), some (.int x1), some (.int x2), some (.int x3), some (.ref 22)], [], zhp p6)) rfl (zEv_if (fun c7 => ?_) (fun c7 => ?_))
          · replace H := zif_t c7 H
            refine zEv_k 1 (f' := (53, [some (.ref 0), some (.int x1), some (.int x2), some (.int x3), some (.ref 22)], [.ref 0], zhp p6)) rfl ?_
            refine zRgr rfl rfl rfl (by decide) (b := 192) rfl ?_
            refine zEv_k 1 (f' := (59, [some (.ref 0), some (.int x1), some (.int x2), some (.int x3), some (.ref 22)], [.int (gI p6 192 0)], zhp p6)) rfl ?_
            cases H
            exact zEv_r rfl
          · replace H := zif_f c7 H
            refine zEv_k 1 (f' := (43, [some (.ref 0), some (.int x1), some (.int x2), some (.int x3), some (.ref 22)], [.ref 0], zhp p6)) rfl ?_
            refine zRgr rfl rfl rfl (by decide) (b := 192) rfl ?_
            refine zEv_k 2 (f' := (59, [some (.ref 0), some (.int x1), some (.int x2), some (.int x3), some (.ref 22)], [.int (gI p6 192 1)], zhp p6)) rfl ?_
            cases H
            exact zEv_r rfl
      · replace H := zif_f c4 H
        refine zEv_k 1 (f' := (27, [some (.ref 0), some (.int x1), some (.int x2), some (.int x3), some (.ref v2)], [.int (-999)], zhp h)) rfl ?_
        cases H
        exact zEv_r rfl
def qC_power_b5 (x0 : Int64) (x2 : Int32) (s : Int64 × Int32) : Option ((Int64 × Int32) ⊕ (Int64)) :=
  if x2 ≤ s.2 then
    some (.inr s.1)
  else
    some (.inl (s.1 * x0, s.2 + 1))
theorem t_qC_power_b5b {Ls : Nat} {xs : Nat → Int32} {d : Nat} {x0 : Int64} {x2 : Int32} {h : zK} {r : zA} {s : Int64 × Int32} {e : (Int64 × Int32) ⊕ (Int64)} (H : qC_power_b5 x0 x2 s = some e) (K : match (generalizing := false) e with | .inl s' => zEv (zXs Ls xs) d zm_146 (5, [some (.long x0), none, some (.int x2), some (.long s'.1), none, some (.int s'.2)], [], zhp h) r | .inr v => ∀ (z5 : Option Value), zEv (zXs Ls xs) d zm_146 (21, [some (.long x0), none, some (.int x2), some (.long v), none, z5], [], zhp h) r) : zEv (zXs Ls xs) d zm_146 (5, [some (.long x0), none, some (.int x2), some (.long s.1), none, some (.int s.2)], [], zhp h) r := by
  unfold qC_power_b5 at H
  refine zEv_k 3 (f' := (if x2 ≤ s.2 then 21 else 11, [some (.long x0), none, some (.int x2), some (.long s.1), none, some (.int s.2)], [], zhp h)) rfl (zEv_if (fun c1 => ?_) (fun c1 => ?_))
  · replace H := zif_t c1 H
    cases H
    exact K _
  · replace H := zif_f c1 H
    refine zEv_k 6 (f' := (5, [some (.long x0), none, some (.int x2), some (.long (s.1 * x0)), none, some (.int (s.2 + 1))], [], zhp h)) rfl ?_
    cases H
    exact K
theorem t_qC_power_b5 {Ls : Nat} {xs : Nat → Int32} {d : Nat} {x0 : Int64} {x2 : Int32} {h : zK} {r : zA} {t : Int64} (K : ∀ (z5 : Option Value), zEv (zXs Ls xs) d zm_146 (21, [some (.long x0), none, some (.int x2), some (.long t), none, z5], [], zhp h) r) (n : Nat) (s : Int64 × Int32) (H : zloop (qC_power_b5 x0 x2) n s = some t) : zEv (zXs Ls xs) d zm_146 (5, [some (.long x0), none, some (.int x2), some (.long s.1), none, some (.int s.2)], [], zhp h) r := by
  have Z := zloop_P (P := fun s => zEv (zXs Ls xs) d zm_146 (5, [some (.long x0), none, some (.int x2), some (.long s.1), none, some (.int s.2)], [], zhp h) r) (b := qC_power_b5 x0 x2) (t := t) (fun s s2 hb hk => by exact t_qC_power_b5b hb hk) (fun s hb => by exact t_qC_power_b5b hb K) n s H
  exact Z
def qC_power (x0 : Int64) (x2 : Int32) : Option (Int64) :=
  (zloop (qC_power_b5 x0 x2) zfu (1, 0)).bind fun t2 =>
  some t2
theorem t_qC_power {Ls : Nat} {xs : Nat → Int32} {d : Nat} {x0 : Int64} {x2 : Int32} {h : zK} {p : Int64} (H : qC_power x0 x2 = some p) : zEv (zXs Ls xs) d zm_146 (0, [some (.long x0), none, some (.int x2), none, none, none], [], zhp h) (some (.long p), zhp h) := by
  unfold qC_power at H
  refine zEv_k 4 (f' := (5, [some (.long x0), none, some (.int x2), some (.long 1), none, some (.int 0)], [], zhp h)) rfl ?_
  obtain ⟨t2, ht2, H⟩ := zbs H
  refine t_qC_power_b5 (x0 := x0) (x2 := x2) (h := h) ?_ zfu _ ht2
  intro y5
  refine zEv_k 1 (f' := (22, [some (.long x0), none, some (.int x2), some (.long t2), none, y5], [.long t2], zhp h)) rfl ?_
  cases H
  exact zEv_r rfl
def qC_ways_b5 (x0 : Int32) (x1 : Int32) (s : Int64 × Int32) : Option ((Int64 × Int32) ⊕ (Int64)) :=
  if x1 < s.2 then
    some (.inr s.1)
  else
    if ¬ (Int32.toInt64 s.2) = 0 then
      some (.inl ((s.1 * (Int32.toInt64 ((x0 - s.2) + 1))) / (Int32.toInt64 s.2), s.2 + 1))
    else none
theorem t_qC_ways_b5b {Ls : Nat} {xs : Nat → Int32} {d : Nat} {x0 : Int32} {x1 : Int32} {h : zK} {r : zA} {s : Int64 × Int32} {e : (Int64 × Int32) ⊕ (Int64)} (H : qC_ways_b5 x0 x1 s = some e) (K : match (generalizing := false) e with | .inl s' => zEv (zXs Ls xs) d zm_147 (5, [some (.int x0), some (.int x1), some (.long s'.1), none, some (.int s'.2)], [], zhp h) r | .inr v => ∀ (z4 : Option Value), zEv (zXs Ls xs) d zm_147 (31, [some (.int x0), some (.int x1), some (.long v), none, z4], [], zhp h) r) : zEv (zXs Ls xs) d zm_147 (5, [some (.int x0), some (.int x1), some (.long s.1), none, some (.int s.2)], [], zhp h) r := by
  unfold qC_ways_b5 at H
  refine zEv_k 3 (f' := (if x1 < s.2 then 31 else 11, [some (.int x0), some (.int x1), some (.long s.1), none, some (.int s.2)], [], zhp h)) rfl (zEv_if (fun c1 => ?_) (fun c1 => ?_))
  · replace H := zif_t c1 H
    cases H
    exact K _
  · replace H := zif_f c1 H
    refine zEv_k 9 (f' := (22, [some (.int x0), some (.int x1), some (.long s.1), none, some (.int s.2)], [.int s.2, .long (s.1 * (Int32.toInt64 ((x0 - s.2) + 1)))], zhp h)) rfl ?_
    refine zEv_k 1 (f' := (23, [some (.int x0), some (.int x1), some (.long s.1), none, some (.int s.2)], [.long (Int32.toInt64 s.2), .long (s.1 * (Int32.toInt64 ((x0 - s.2) + 1)))], zhp h)) rfl ?_
    obtain ⟨c2, H⟩ := zifn H
    refine zEv_ldiv rfl c2 ?_
    refine zEv_k 3 (f' := (5, [some (.int x0), some (.int x1), some (.long ((s.1 * (Int32.toInt64 ((x0 - s.2) + 1))) / (Int32.toInt64 s.2))), none, some (.int (s.2 + 1))], [], zhp h)) rfl ?_
    cases H
    exact K
theorem t_qC_ways_b5 {Ls : Nat} {xs : Nat → Int32} {d : Nat} {x0 : Int32} {x1 : Int32} {h : zK} {r : zA} {t : Int64} (K : ∀ (z4 : Option Value), zEv (zXs Ls xs) d zm_147 (31, [some (.int x0), some (.int x1), some (.long t), none, z4], [], zhp h) r) (n : Nat) (s : Int64 × Int32) (H : zloop (qC_ways_b5 x0 x1) n s = some t) : zEv (zXs Ls xs) d zm_147 (5, [some (.int x0), some (.int x1), some (.long s.1), none, some (.int s.2)], [], zhp h) r := by
  have Z := zloop_P (P := fun s => zEv (zXs Ls xs) d zm_147 (5, [some (.int x0), some (.int x1), some (.long s.1), none, some (.int s.2)], [], zhp h) r) (b := qC_ways_b5 x0 x1) (t := t) (fun s s2 hb hk => by exact t_qC_ways_b5b hb hk) (fun s hb => by exact t_qC_ways_b5b hb K) n s H
  exact Z
def qC_ways (x0 : Int32) (x1 : Int32) : Option (Int64) :=
  (zloop (qC_ways_b5 x0 x1) zfu (1, 1)).bind fun t3 =>
  some t3
theorem t_qC_ways {Ls : Nat} {xs : Nat → Int32} {d : Nat} {x0 : Int32} {x1 : Int32} {h : zK} {p : Int64} (H : qC_ways x0 x1 = some p) : zEv (zXs Ls xs) d zm_147 (0, [some (.int x0), some (.int x1), none, none, none], [], zhp h) (some (.long p), zhp h) := by
  unfold qC_ways at H
  refine zEv_k 4 (f' := (5, [some (.int x0), some (.int x1), some (.long 1), none, some (.int 1)], [], zhp h)) rfl ?_
  obtain ⟨t3, ht3, H⟩ := zbs H
  refine t_qC_ways_b5 (x0 := x0) (x1 := x1) (h := h) ?_ zfu _ ht3
  intro y4
  refine zEv_k 1 (f' := (32, [some (.int x0), some (.int x1), some (.long t3), none, y4], [.long t3], zhp h)) rfl ?_
  cases H
  exact zEv_r rfl
def qC_sharedDivisor_b9 (s : Int64 × Int64 × Int32) : Option ((Int64 × Int64 × Int32) ⊕ (Int64)) :=
  if 100 ≤ s.2.2 then
    some (.inr s.1)
  else
    if (lg_cmp s.2.1 0) = 0 then
      some (.inr s.1)
    else
      if ¬ s.2.1 = 0 then
        some (.inl (s.2.1, s.1 - s.1 / s.2.1 * s.2.1, s.2.2 + 1))
      else none
theorem t_qC_sharedDivisor_b9b {Ls : Nat} {xs : Nat → Int32} {d : Nat} {h : zK} {r : zA} {s : Int64 × Int64 × Int32} {e : (Int64 × Int64 × Int32) ⊕ (Int64)} (H : qC_sharedDivisor_b9 s = some e) (K : match (generalizing := false) e with | .inl s' => ∀ (z0 : Option Value) (z2 : Option Value) (z9 : Option Value), zEv (zXs Ls xs) d zm_149 (9, [z0, none, z2, none, some (.long s'.1), none, some (.long s'.2.1), none, some (.int s'.2.2), z9, none], [], zhp h) r | .inr v => ∀ (z0 : Option Value) (z2 : Option Value) (z6 : Option Value) (z8 : Option Value) (z9 : Option Value), zEv (zXs Ls xs) d zm_149 (44, [z0, none, z2, none, some (.long v), none, z6, none, z8, z9, none], [], zhp h) r) (y0 : Option Value) (y2 : Option Value) (y9 : Option Value) : zEv (zXs Ls xs) d zm_149 (9, [y0, none, y2, none, some (.long s.1), none, some (.long s.2.1), none, some (.int s.2.2), y9, none], [], zhp h) r := by
  unfold qC_sharedDivisor_b9 at H
  refine zEv_k 3 (f' := (if 100 ≤ s.2.2 then 44 else 16, [y0, none, y2, none, some (.long s.1), none, some (.long s.2.1), none, some (.int s.2.2), y9, none], [], zhp h)) rfl (zEv_if (fun c1 => ?_) (fun c1 => ?_))
  · replace H := zif_t c1 H
    cases H
    exact K _ _ _ _ _
  · replace H := zif_f c1 H
    refine zEv_k 4 (f' := (if (lg_cmp s.2.1 0) = 0 then 44 else 23, [y0, none, y2, none, some (.long s.1), none, some (.long s.2.1), none, some (.int s.2.2), y9, none], [], zhp h)) rfl (zEv_if (fun c2 => ?_) (fun c2 => ?_))
    · replace H := zif_t c2 H
      cases H
      exact K _ _ _ _ _
    · replace H := zif_f c2 H
      refine zEv_k 2 (f' := (27, [y0, none, y2, none, some (.long s.1), none, some (.long s.2.1), none, some (.int s.2.2), y9, none], [.long s.2.1, .long s.1], zhp h)) rfl ?_
      obtain ⟨c3, H⟩ := zifn H
      refine zEv_lrem rfl c3 ?_
      refine zEv_k 7 (f' := (9, [y0, none, y2, none, some (.long s.2.1), none, some (.long (s.1 - s.1 / s.2.1 * s.2.1)), none, some (.int (s.2.2 + 1)), some (.long (s.1 - s.1 / s.2.1 * s.2.1)), none], [], zhp h)) rfl ?_
      cases H
      exact K _ _ _
theorem t_qC_sharedDivisor_b9 {Ls : Nat} {xs : Nat → Int32} {d : Nat} {h : zK} {r : zA} {t : Int64} (K : ∀ (z0 : Option Value) (z2 : Option Value) (z6 : Option Value) (z8 : Option Value) (z9 : Option Value), zEv (zXs Ls xs) d zm_149 (44, [z0, none, z2, none, some (.long t), none, z6, none, z8, z9, none], [], zhp h) r) (n : Nat) (s : Int64 × Int64 × Int32) (H : zloop (qC_sharedDivisor_b9) n s = some t) (y0 : Option Value) (y2 : Option Value) (y9 : Option Value) : zEv (zXs Ls xs) d zm_149 (9, [y0, none, y2, none, some (.long s.1), none, some (.long s.2.1), none, some (.int s.2.2), y9, none], [], zhp h) r := by
  have Z := zloop_P (P := fun s => ∀ (y0 : Option Value) (y2 : Option Value) (y9 : Option Value), zEv (zXs Ls xs) d zm_149 (9, [y0, none, y2, none, some (.long s.1), none, some (.long s.2.1), none, some (.int s.2.2), y9, none], [], zhp h) r) (b := qC_sharedDivisor_b9) (t := t) (fun s s2 hb hk => by intro y0 y2 y9; exact t_qC_sharedDivisor_b9b hb hk y0 y2 y9) (fun s hb => by intro y0 y2 y9; exact t_qC_sharedDivisor_b9b hb K y0 y2 y9) n s H
  exact Z y0 y2 y9
def qC_sharedDivisor (x0 : Int64) (x2 : Int64) : Option (Int64) :=
  (zloop (qC_sharedDivisor_b9) zfu (x0, x2, 0)).bind fun t4 =>
  some t4
theorem t_qC_sharedDivisor {Ls : Nat} {xs : Nat → Int32} {d : Nat} {x0 : Int64} {x2 : Int64} {h : zK} {p : Int64} (H : qC_sharedDivisor x0 x2 = some p) : zEv (zXs Ls xs) d zm_149 (0, [some (.long x0), none, some (.long x2), none, none, none, none, none, none, none, none], [], zhp h) (some (.long p), zhp h) := by
  unfold qC_sharedDivisor at H
  refine zEv_k 6 (f' := (9, [some (.long x0), none, some (.long x2), none, some (.long x0), none, some (.long x2), none, some (.int 0), none, none], [], zhp h)) rfl ?_
  obtain ⟨t4, ht4, H⟩ := zbs H
  refine t_qC_sharedDivisor_b9 (h := h) ?_ zfu _ ht4 _ _ _
  intro y0 y2 y6 y8 y9
  refine zEv_k 1 (f' := (46, [y0, none, y2, none, some (.long t4), none, y6, none, y8, y9, none], [.long t4], zhp h)) rfl ?_
  cases H
  exact zEv_r rfl
def qC_inLeastTerms (x0 : Int64) (x2 : Int64) (x4 : Int32) : Option (Int64) :=
  (qC_sharedDivisor x0 x2).bind fun p1 =>
  if (lg_cmp x2 0) ≤ 0 then
    some (-1)
  else
    if 0 < (lg_cmp p1 0) then
      zlet (
          if x4 = 0 then
            x0
          else
            x2
        ) fun (v5 : Int64) =>
      if ¬ p1 = 0 then
        some (v5 / p1)
      else none
    else
      some (-1)
theorem t_qC_inLeastTerms {Ls : Nat} {xs : Nat → Int32} {d : Nat} {x0 : Int64} {x2 : Int64} {x4 : Int32} {h : zK} {p : Int64} (H : qC_inLeastTerms x0 x2 x4 = some p) : zEv (zXs Ls xs) (d + 1) zm_148 (0, [some (.long x0), none, some (.long x2), none, some (.int x4), none, none], [], zhp h) (some (.long p), zhp h) := by
  unfold qC_inLeastTerms at H
  refine zEv_k 2 (f' := (2, [some (.long x0), none, some (.long x2), none, some (.int x4), none, none], [.long x2, .long x0], zhp h)) rfl ?_
  obtain ⟨p1, hp1, H⟩ := zbs H
  refine zEv_c (fun _ => rfl) rfl (t_qC_sharedDivisor (x0 := x0) (x2 := x2) (h := h) (d := d) hp1) rfl rfl ?_
  refine zEv_k 5 (f' := (if (lg_cmp x2 0) ≤ 0 then 20 else 13, [some (.long x0), none, some (.long x2), none, some (.int x4), some (.long p1), none], [], zhp h)) rfl (zEv_if (fun c2 => ?_) (fun c2 => ?_))
  · replace H := zif_t c2 H
    refine zEv_k 1 (f' := (23, [some (.long x0), none, some (.long x2), none, some (.int x4), some (.long p1), none], [.long (-1)], zhp h)) rfl ?_
    cases H
    exact zEv_r rfl
  · replace H := zif_f c2 H
    refine zEv_k 4 (f' := (if 0 < (lg_cmp p1 0) then 24 else 20, [some (.long x0), none, some (.long x2), none, some (.int x4), some (.long p1), none], [], zhp h)) rfl (zEv_if (fun c3 => ?_) (fun c3 => ?_))
    · replace H := zif_t c3 H
      obtain ⟨v5, hv5, H⟩ := zlets H
      have kv5 : zEv (zXs Ls xs) (d + 1) zm_148 (34, [some (.long x0), none, some (.long x2), none, some (.int x4), some (.long p1), none], [.long v5], zhp h) (some (.long p), zhp h) := by
        refine zEv_k 1 (f' := (36, [some (.long x0), none, some (.long x2), none, some (.int x4), some (.long p1), none], [.long p1, .long v5], zhp h)) rfl ?_
        obtain ⟨c6, H⟩ := zifn H
        refine zEv_ldiv rfl c6 ?_
        cases H
        exact zEv_r rfl
      clear H
      refine zEv_k 2 (f' := (if x4 = 0 then 33 else 29, [some (.long x0), none, some (.long x2), none, some (.int x4), some (.long p1), none], [], zhp h)) rfl (zEv_if (fun c4 => ?_) (fun c4 => ?_))
      · replace hv5 := zif_t c4 hv5
        refine zEv_k 1 (f' := (34, [some (.long x0), none, some (.long x2), none, some (.int x4), some (.long p1), none], [.long x0], zhp h)) rfl ?_
        cases hv5
        exact kv5
      · replace hv5 := zif_f c4 hv5
        refine zEv_k 2 (f' := (34, [some (.long x0), none, some (.long x2), none, some (.int x4), some (.long p1), none], [.long x2], zhp h)) rfl ?_
        cases hv5
        exact kv5
    · replace H := zif_f c3 H
      refine zEv_k 1 (f' := (23, [some (.long x0), none, some (.long x2), none, some (.int x4), some (.long p1), none], [.long (-1)], zhp h)) rfl ?_
      cases H
      exact zEv_r rfl
def qC_hold_b74 (v2 : Nat) (x5 : Int32) (x7 : Int64) (x9 : Int64) (h : zK) (s : Int64 × Int32) : Option ((Int64 × Int32) ⊕ (Int64)) :=
  if (gI h v2 2) < s.2 then
    some (.inr s.1)
  else
    (qC_ways (gI h v2 2) s.2).bind fun p13 =>
    (qC_power x7 s.2).bind fun p14 =>
    (qC_power (x9 - x7) ((gI h v2 2) - s.2)).bind fun p15 =>
    some (.inl (s.1 + ((p13 * p14) * p15), s.2 + 1))
theorem t_qC_hold_b74b {Ls : Nat} {xs : Nat → Int32} {d : Nat} {v2 : Nat} {x5 : Int32} {x7 : Int64} {x9 : Int64} {h : zK} {r : zA} {s : Int64 × Int32} {e : (Int64 × Int32) ⊕ (Int64)} (ho : v2 = 7 ∨ v2 = 22) (H : qC_hold_b74 v2 x5 x7 x9 h s = some e) (K : match (generalizing := false) e with | .inl s' => ∀ (z1 : Option Value) (z2 : Option Value) (z3 : Option Value) (z4 : Option Value), zEv (zXs Ls xs) (d + 2) zm_129 (74, [some (.ref 0), z1, z2, z3, z4, some (.int x5), some (.ref v2), some (.long x7), none, some (.long x9), none, some (.long s'.1), none, some (.int s'.2)], [], zhp h) r | .inr v => ∀ (z1 : Option Value) (z2 : Option Value) (z3 : Option Value) (z4 : Option Value) (z13 : Option Value), zEv (zXs Ls xs) (d + 2) zm_129 (130, [some (.ref 0), z1, z2, z3, z4, some (.int x5), some (.ref v2), some (.long x7), none, some (.long x9), none, some (.long v), none, z13], [], zhp h) r) (y1 : Option Value) (y2 : Option Value) (y3 : Option Value) (y4 : Option Value) : zEv (zXs Ls xs) (d + 2) zm_129 (74, [some (.ref 0), y1, y2, y3, y4, some (.int x5), some (.ref v2), some (.long x7), none, some (.long x9), none, some (.long s.1), none, some (.int s.2)], [], zhp h) r := by
  unfold qC_hold_b74 at H
  rcases ho with rfl | rfl
  · refine zEv_k 4 (f' := (if (gI h 7 2) < s.2 then 130 else 84, [some (.ref 0), y1, y2, y3, y4, some (.int x5), some (.ref 7), some (.long x7), none, some (.long x9), none, some (.long s.1), none, some (.int s.2)], [], zhp h)) rfl (zEv_if (fun c12 => ?_) (fun c12 => ?_))
    · replace H := zif_t c12 H
      cases H
      exact K _ _ _ _ _
    · replace H := zif_f c12 H
      refine zEv_k 4 (f' := (93, [some (.ref 0), y1, y2, y3, y4, some (.int x5), some (.ref 7), some (.long x7), none, some (.long x9), none, some (.long s.1), none, some (.int s.2)], [.int s.2, .int (gI h 7 2), .long s.1], zhp h)) rfl ?_
      obtain ⟨p13, hp13, H⟩ := zbs H
      refine zEv_c (fun _ => rfl) rfl (t_qC_ways (x0 := gI h 7 2) (x1 := s.2) (h := h) (d := d + 1) hp13) rfl rfl ?_
      refine zEv_k 2 (f' := (100, [some (.ref 0), y1, y2, y3, y4, some (.int x5), some (.ref 7), some (.long x7), none, some (.long x9), none, some (.long s.1), none, some (.int s.2)], [.int s.2, .long x7, .long p13, .long s.1], zhp h)) rfl ?_
      obtain ⟨p14, hp14, H⟩ := zbs H
      refine zEv_c (fun _ => rfl) rfl (t_qC_power (x0 := x7) (x2 := s.2) (h := h) (d := d + 1) hp14) rfl rfl ?_
      refine zEv_k 8 (f' := (117, [some (.ref 0), y1, y2, y3, y4, some (.int x5), some (.ref 7), some (.long x7), none, some (.long x9), none, some (.long s.1), none, some (.int s.2)], [.int ((gI h 7 2) - s.2), .long (x9 - x7), .long (p13 * p14), .long s.1], zhp h)) rfl ?_
      obtain ⟨p15, hp15, H⟩ := zbs H
      refine zEv_c (fun _ => rfl) rfl (t_qC_power (x0 := x9 - x7) (x2 := (gI h 7 2) - s.2) (h := h) (d := d + 1) hp15) rfl rfl ?_
      refine zEv_k 5 (f' := (74, [some (.ref 0), y1, y2, y3, y4, some (.int x5), some (.ref 7), some (.long x7), none, some (.long x9), none, some (.long (s.1 + ((p13 * p14) * p15))), none, some (.int (s.2 + 1))], [], zhp h)) rfl ?_
      cases H
      exact K _ _ _ _
  · refine zEv_k 4 (f' := (if (gI h 22 2) < s.2 then 130 else 84, [some (.ref 0), y1, y2, y3, y4, some (.int x5), some (.ref 22), some (.long x7), none, some (.long x9), none, some (.long s.1), none, some (.int s.2)], [], zhp h)) rfl (zEv_if (fun c12 => ?_) (fun c12 => ?_))
    · replace H := zif_t c12 H
      cases H
      exact K _ _ _ _ _
    · replace H := zif_f c12 H
      refine zEv_k 4 (f' := (93, [some (.ref 0), y1, y2, y3, y4, some (.int x5), some (.ref 22), some (.long x7), none, some (.long x9), none, some (.long s.1), none, some (.int s.2)], [.int s.2, .int (gI h 22 2), .long s.1], zhp h)) rfl ?_
      obtain ⟨p13, hp13, H⟩ := zbs H
      refine zEv_c (fun _ => rfl) rfl (t_qC_ways (x0 := gI h 22 2) (x1 := s.2) (h := h) (d := d + 1) hp13) rfl rfl ?_
      refine zEv_k 2 (f' := (100, [some (.ref 0), y1, y2, y3, y4, some (.int x5), some (.ref 22), some (.long x7), none, some (.long x9), none, some (.long s.1), none, some (.int s.2)], [.int s.2, .long x7, .long p13, .long s.1], zhp h)) rfl ?_
      obtain ⟨p14, hp14, H⟩ := zbs H
      refine zEv_c (fun _ => rfl) rfl (t_qC_power (x0 := x7) (x2 := s.2) (h := h) (d := d + 1) hp14) rfl rfl ?_
      refine zEv_k 8 (f' := (117, [some (.ref 0), y1, y2, y3, y4, some (.int x5), some (.ref 22), some (.long x7), none, some (.long x9), none, some (.long s.1), none, some (.int s.2)], [.int ((gI h 22 2) - s.2), .long (x9 - x7), .long (p13 * p14), .long s.1], zhp h)) rfl ?_
      obtain ⟨p15, hp15, H⟩ := zbs H
      refine zEv_c (fun _ => rfl) rfl (t_qC_power (x0 := x9 - x7) (x2 := (gI h 22 2) - s.2) (h := h) (d := d + 1) hp15) rfl rfl ?_
      refine zEv_k 5 (f' := (74, [some (.ref 0), y1, y2, y3, y4, some (.int x5), some (.ref 22), some (.long x7), none, some (.long x9), none, some (.long (s.1 + ((p13 * p14) * p15))), none, some (.int (s.2 + 1))], [], zhp h)) rfl ?_
      cases H
      exact K _ _ _ _
theorem t_qC_hold_b74 {Ls : Nat} {xs : Nat → Int32} {d : Nat} {v2 : Nat} {x5 : Int32} {x7 : Int64} {x9 : Int64} {h : zK} {r : zA} (ho : v2 = 7 ∨ v2 = 22) {t : Int64} (K : ∀ (z1 : Option Value) (z2 : Option Value) (z3 : Option Value) (z4 : Option Value) (z13 : Option Value), zEv (zXs Ls xs) (d + 2) zm_129 (130, [some (.ref 0), z1, z2, z3, z4, some (.int x5), some (.ref v2), some (.long x7), none, some (.long x9), none, some (.long t), none, z13], [], zhp h) r) (n : Nat) (s : Int64 × Int32) (H : zloop (qC_hold_b74 v2 x5 x7 x9 h) n s = some t) (y1 : Option Value) (y2 : Option Value) (y3 : Option Value) (y4 : Option Value) : zEv (zXs Ls xs) (d + 2) zm_129 (74, [some (.ref 0), y1, y2, y3, y4, some (.int x5), some (.ref v2), some (.long x7), none, some (.long x9), none, some (.long s.1), none, some (.int s.2)], [], zhp h) r := by
  have Z := zloop_P (P := fun s => ∀ (y1 : Option Value) (y2 : Option Value) (y3 : Option Value) (y4 : Option Value), zEv (zXs Ls xs) (d + 2) zm_129 (74, [some (.ref 0), y1, y2, y3, y4, some (.int x5), some (.ref v2), some (.long x7), none, some (.long x9), none, some (.long s.1), none, some (.int s.2)], [], zhp h) r) (b := qC_hold_b74 v2 x5 x7 x9 h) (t := t) (fun s s2 hb hk => by intro y1 y2 y3 y4; exact t_qC_hold_b74b ho hb hk y1 y2 y3 y4) (fun s hb => by intro y1 y2 y3 y4; exact t_qC_hold_b74b ho hb K y1 y2 y3 y4) n s H
  exact Z y1 y2 y3 y4
def qC_hold (x1 : Int32) (x2 : Int32) (x3 : Int32) (x4 : Int32) (x5 : Int32) (h : zK) : Option (Int64) :=
  (qT_cellarAt x1 h).bind fun p1 => match p1 with
  | none =>
    some (-1)
  | some v2 =>
    if x2 < 0 then
      some (-1)
    else
      if 10 < x2 then
        some (-1)
      else
        if x3 < 0 then
          some (-1)
        else
          if 2 < x3 then
            some (-1)
          else
            if x4 < 0 then
              some (-1)
            else
              if x4 ≤ 7 then
                (qC_power (Int32.toInt64 x2) x3).bind fun p9 =>
                (qC_power 10 x3).bind fun p10 =>
                if v2 = 7 ∨ v2 = 22 then
                  (zloop (qC_hold_b74 v2 x5 p9 p10 h) zfu (0, x4)).bind fun t16 =>
                  (qC_power p10 (gI h v2 2)).bind fun p18 =>
                  (qC_inLeastTerms t16 p18 x5).bind fun p19 =>
                  some p19
                else none
              else
                some (-1)
theorem t_qC_hold {Ls : Nat} {xs : Nat → Int32} {d : Nat} {x1 : Int32} {x2 : Int32} {x3 : Int32} {x4 : Int32} {x5 : Int32} {h : zK} {p : Int64} (H : qC_hold x1 x2 x3 x4 x5 h = some p) : zEv (zXs Ls xs) (d + 2) zm_129 (0, [some (.ref 0), some (.int x1), some (.int x2), some (.int x3), some (.int x4), some (.int x5), none, none, none, none, none, none, none, none], [], zhp h) (some (.long p), zhp h) := by
  unfold qC_hold at H
  refine zEv_k 1 (f' := (1, [some (.ref 0), some (.int x1), some (.int x2), some (.int x3), some (.int x4), some (.int x5), none, none, none, none, none, none, none, none], [.ref 0], zhp h)) rfl ?_
  refine zRgr rfl rfl rfl (by decide) (b := 1) rfl ?_
  refine zEv_k 1 (f' := (5, [some (.ref 0), some (.int x1), some (.int x2), some (.int x3), some (.int x4), some (.int x5), none, none, none, none, none, none, none, none], [.int x1, .ref 1], zhp h)) rfl ?_
  obtain ⟨p1, hp1, H⟩ := zbs H
  refine zEv_c (fun _ => rfl) rfl (t_qT_cellarAt (x1 := x1) (h := h) (d := d + 1) hp1) rfl rfl ?_
  rcases p1 with _ | v2
  · dsimp only at H
    refine zEv_k 4 (f' := (49, [some (.ref 0), some (.int x1), some (.int x2), some (.int x3), some (.int x4), some (.int x5), some (.null), none, none, none, none, none, none, none], [.long (-1)], zhp h)) rfl ?_
    cases H
    exact zEv_r rfl
  · dsimp only at H
    refine zEv_k 5 (f' := (if x2 < 0 then 46 else 19, [some (.ref 0), some (.int x1), some (.int x2), some (.int x3), some (.int x4), some (.int x5), some (.ref v2), none, none, none, none, none, none, none], [], zhp h)) rfl (zEv_if (fun c3 => ?_) (fun c3 => ?_))
    · replace H := zif_t c3 H
      refine zEv_k 1 (f' := (49, [some (.ref 0), some (.int x1), some (.int x2), some (.int x3), some (.int x4), some (.int x5), some (.ref v2), none, none, none, none, none, none, none], [.long (-1)], zhp h)) rfl ?_
      cases H
      exact zEv_r rfl
    · replace H := zif_f c3 H
      refine zEv_k 3 (f' := (if 10 < x2 then 46 else 25, [some (.ref 0), some (.int x1), some (.int x2), some (.int x3), some (.int x4), some (.int x5), some (.ref v2), none, none, none, none, none, none, none], [], zhp h)) rfl (zEv_if (fun c4 => ?_) (fun c4 => ?_))
      · replace H := zif_t c4 H
        refine zEv_k 1 (f' := (49, [some (.ref 0), some (.int x1), some (.int x2), some (.int x3), some (.int x4), some (.int x5), some (.ref v2), none, none, none, none, none, none, none], [.long (-1)], zhp h)) rfl ?_
        cases H
        exact zEv_r rfl
      · replace H := zif_f c4 H
        refine zEv_k 2 (f' := (if x3 < 0 then 46 else 29, [some (.ref 0), some (.int x1), some (.int x2), some (.int x3), some (.int x4), some (.int x5), some (.ref v2), none, none, none, none, none, none, none], [], zhp h)) rfl (zEv_if (fun c5 => ?_) (fun c5 => ?_))
        · replace H := zif_t c5 H
          refine zEv_k 1 (f' := (49, [some (.ref 0), some (.int x1), some (.int x2), some (.int x3), some (.int x4), some (.int x5), some (.ref v2), none, none, none, none, none, none, none], [.long (-1)], zhp h)) rfl ?_
          cases H
          exact zEv_r rfl
        · replace H := zif_f c5 H
          refine zEv_k 3 (f' := (if 2 < x3 then 46 else 34, [some (.ref 0), some (.int x1), some (.int x2), some (.int x3), some (.int x4), some (.int x5), some (.ref v2), none, none, none, none, none, none, none], [], zhp h)) rfl (zEv_if (fun c6 => ?_) (fun c6 => ?_))
          · replace H := zif_t c6 H
            refine zEv_k 1 (f' := (49, [some (.ref 0), some (.int x1), some (.int x2), some (.int x3), some (.int x4), some (.int x5), some (.ref v2), none, none, none, none, none, none, none], [.long (-1)], zhp h)) rfl ?_
            cases H
            exact zEv_r rfl
          · replace H := zif_f c6 H
            refine zEv_k 2 (f' := (if x4 < 0 then 46 else 39, [some (.ref 0), some (.int x1), some (.int x2), some (.int x3), some (.int x4), some (.int x5), some (.ref v2), none, none, none, none, none, none, none], [], zhp h)) rfl (zEv_if (fun c7 => ?_) (fun c7 => ?_))
            · replace H := zif_t c7 H
              refine zEv_k 1 (f' := (49, [some (.ref 0), some (.int x1), some (.int x2), some (.int x3), some (.int x4), some (.int x5), some (.ref v2), none, none, none, none, none, none, none], [.long (-1)], zhp h)) rfl ?_
              cases H
              exact zEv_r rfl
            · replace H := zif_f c7 H
              refine zEv_k 3 (f' := (if x4 ≤ 7 then 50 else 46, [some (.ref 0), some (.int x1), some (.int x2), some (.int x3), some (.int x4), some (.int x5), some (.ref v2), none, none, none, none, none, none, none], [], zhp h)) rfl (zEv_if (fun c8 => ?_) (fun c8 => ?_))
              · replace H := zif_t c8 H
                refine zEv_k 3 (f' := (53, [some (.ref 0), some (.int x1), some (.int x2), some (.int x3), some (.int x4), some (.int x5), some (.ref v2), none, none, none, none, none, none, none], [.int x3, .long (Int32.toInt64 x2)], zhp h)) rfl ?_
                obtain ⟨p9, hp9, H⟩ := zbs H
                refine zEv_c (fun _ => rfl) rfl (t_qC_power (x0 := Int32.toInt64 x2) (x2 := x3) (h := h) (d := d + 1) hp9) rfl rfl ?_
                refine zEv_k 3 (f' := (62, [some (.ref 0), some (.int x1), some (.int x2), some (.int x3), some (.int x4), some (.int x5), some (.ref v2), some (.long p9), none, none, none, none, none, none], [.int x3, .long 10], zhp h)) rfl ?_
                obtain ⟨p10, hp10, H⟩ := zbs H
                refine zEv_c (fun _ => rfl) rfl (t_qC_power (x0 := 10) (x2 := x3) (h := h) (d := d + 1) hp10) rfl rfl ?_
                refine zEv_k 5 (f' := (74, [some (.ref 0), some (.int x1), some (.int x2), some (.int x3), some (.int x4), some (.int x5), some (.ref v2), some (.long p9), none, some (.long p10), none, some (.long 0), none, some (.int x4)], [], zhp h)) rfl ?_
                obtain ⟨c11, H⟩ := zifn H
                rcases c11 with rfl | rfl
                · obtain ⟨t16, ht16, H⟩ := zbs H
                  refine t_qC_hold_b74 (v2 := 7) (x5 := x5) (x7 := p9) (x9 := p10) (h := h) (by decide) ?_ zfu _ ht16 _ _ _ _
                  intro y1 y2 y3 y4 y13
                  refine zEv_k 4 (f' := (139, [some (.ref 0), y1, y2, y3, y4, some (.int x5), some (.ref 7), some (.long p9), none, some (.long p10), none, some (.long t16), none, y13], [.int (gI h 7 2), .long p10, .long t16], zhp h)) rfl ?_
                  obtain ⟨p18, hp18, H⟩ := zbs H
                  refine zEv_c (fun _ => rfl) rfl (t_qC_power (x0 := p10) (x2 := gI h 7 2) (h := h) (d := d + 1) hp18) rfl rfl ?_
                  refine zEv_k 1 (f' := (144, [some (.ref 0), y1, y2, y3, y4, some (.int x5), some (.ref 7), some (.long p9), none, some (.long p10), none, some (.long t16), none, y13], [.int x5, .long p18, .long t16], zhp h)) rfl ?_
                  obtain ⟨p19, hp19, H⟩ := zbs H
                  refine zEv_c (fun _ => rfl) rfl (t_qC_inLeastTerms (x0 := t16) (x2 := p18) (x4 := x5) (h := h) (d := d) hp19) rfl rfl ?_
                  cases H
                  exact zEv_r rfl
                · obtain ⟨t16, ht16, H⟩ := zbs H
                  refine t_qC_hold_b74 (v2 := 22) (x5 := x5) (x7 := p9) (x9 := p10) (h := h) (by decide) ?_ zfu _ ht16 _ _ _ _
                  intro y1 y2 y3 y4 y13
                  refine zEv_k 4 (f' := (139, [some (.ref 0), y1, y2, y3, y4, some (.int x5), some (.ref 22), some (.long p9), none, some (.long p10), none, some (.long t16), none, y13], [.int (gI h 22 2), .long p10, .long t16], zhp h)) rfl ?_
                  obtain ⟨p18, hp18, H⟩ := zbs H
                  refine zEv_c (fun _ => rfl) rfl (t_qC_power (x0 := p10) (x2 := gI h 22 2) (h := h) (d := d + 1) hp18) rfl rfl ?_
                  refine zEv_k 1 (f' := (144, [some (.ref 0), y1, y2, y3, y4, some (.int x5), some (.ref 22), some (.long p9), none, some (.long p10), none, some (.long t16), none, y13], [.int x5, .long p18, .long t16], zhp h)) rfl ?_
                  obtain ⟨p19, hp19, H⟩ := zbs H
                  refine zEv_c (fun _ => rfl) rfl (t_qC_inLeastTerms (x0 := t16) (x2 := p18) (x4 := x5) (h := h) (d := d) hp19) rfl rfl ?_
                  cases H
                  exact zEv_r rfl
              · replace H := zif_f c8 H
                refine zEv_k 1 (f' := (49, [some (.ref 0), some (.int x1), some (.int x2), some (.int x3), some (.int x4), some (.int x5), some (.ref v2), none, none, none, none, none, none, none], [.long (-1)], zhp h)) rfl ?_
                cases H
                exact zEv_r rfl
def qC_fact_j33 (v2 : Nat) (x2 : Int32) (x3 : Int32) (h : zK) : Option (Int32) :=
  if x2 < 0 then
    some (-2)
  else
    if x2 < (gI h v2 0) then
      if x3 = 0 then
        (zix x2 8).bind fun j7 =>
        some (gI h (v2 + 1) j7)
      else if x3 = 1 then
        (zix x2 8).bind fun j8 =>
        some (gI h (v2 + 2) j8)
      else
        some (-2)
    else
      some (-2)
theorem t_qC_fact_j33 {Ls : Nat} {xs : Nat → Int32} {d : Nat} {v2 : Nat} {x2 : Int32} {x3 : Int32} {h : zK} {p : Int32} (ho : v2 = 19 ∨ v2 = 34) (H : qC_fact_j33 v2 x2 x3 h = some p)  (y1 : Option Value) : zEv (zXs Ls xs) (d + 1) zm_130 (33, [some (.ref 0), y1, some (.int x2), some (.int x3), some (.ref v2)], [], zhp h) (some (.int p), zhp h) := by
  unfold qC_fact_j33 at H
  rcases ho with rfl | rfl
  · refine zEv_k 2 (f' := (if x2 < 0 then 46 else 37, [some (.ref 0), y1, some (.int x2), some (.int x3), some (.ref 19)], [], zhp h)) rfl (zEv_if (fun c5 => ?_) (fun c5 => ?_))
    · replace H := zif_t c5 H
      refine zEv_k 1 (f' := (48, [some (.ref 0), y1, some (.int x2), some (.int x3), some (.ref 19)], [.int (-2)], zhp h)) rfl ?_
      cases H
      exact zEv_r rfl
    · replace H := zif_f c5 H
      refine zEv_k 4 (f' := (if x2 < (gI h 19 0) then 49 else 46, [some (.ref 0), y1, some (.int x2), some (.int x3), some (.ref 19)], [], zhp h)) rfl (zEv_if (fun c6 => ?_) (fun c6 => ?_))
      · replace H := zif_t c6 H
        refine zEv_k 1 (f' := (50, [some (.ref 0), y1, some (.int x2), some (.int x3), some (.ref 19)], [.int x3], zhp h)) rfl ?_
        by_cases c9 : x3 = 0
        · replace H := zif_t c9 H
          refine zEv_ls (y := 0) rfl c9 rfl (by decide) (by decide) ?_
          refine zEv_k 1 (f' := (78, [some (.ref 0), y1, some (.int x2), some (.int x3), some (.ref 19)], [.ref 19], zhp h)) rfl ?_
          refine zRgr rfl rfl rfl (by decide) (b := 19 + 1) rfl ?_
          refine zEv_k 1 (f' := (82, [some (.ref 0), y1, some (.int x2), some (.int x3), some (.ref 19)], [.int x2, .ref (19 + 1)], zhp h)) rfl ?_
          obtain ⟨j7, hj7, H⟩ := zbs H
          refine zRia rfl rfl (by decide) hj7 ?_
          cases H
          exact zEv_r rfl
        replace H := zif_f c9 H
        by_cases c10 : x3 = 1
        · replace H := zif_t c10 H
          refine zEv_ls (y := 1) rfl c10 rfl (by decide) (by decide) ?_
          refine zEv_k 1 (f' := (86, [some (.ref 0), y1, some (.int x2), some (.int x3), some (.ref 19)], [.ref 19], zhp h)) rfl ?_
          refine zRgr rfl rfl rfl (by decide) (b := 19 + 2) rfl ?_
          refine zEv_k 1 (f' := (90, [some (.ref 0), y1, some (.int x2), some (.int x3), some (.ref 19)], [.int x2, .ref (19 + 2)], zhp h)) rfl ?_
          obtain ⟨j8, hj8, H⟩ := zbs H
          refine zRia rfl rfl (by decide) hj8 ?_
          cases H
          exact zEv_r rfl
        replace H := zif_f c10 H
        refine zEv_lsd rfl rfl (by decide) (by decide) ?_ ?_
        · intro q hq; have hq2 : q ∈ [(0 : Int), (1 : Int)] := hq; simp only [List.mem_cons, List.not_mem_nil, or_false] at hq2; rcases hq2 with rfl | rfl <;> intro e <;> first | exact c9 (zeqI e (by decide)) | exact c10 (zeqI e (by decide))
        · refine zEv_k 1 (f' := (94, [some (.ref 0), y1, some (.int x2), some (.int x3), some (.ref 19)], [.int (-2)], zhp h)) rfl ?_
          cases H
          exact zEv_r rfl
      · replace H := zif_f c6 H
        refine zEv_k 1 (f' := (48, [some (.ref 0), y1, some (.int x2), some (.int x3), some (.ref 19)], [.int (-2)], zhp h)) rfl ?_
        cases H
        exact zEv_r rfl
  · refine zEv_k 2 (f' := (if x2 < 0 then 46 else 37, [some (.ref 0), y1, some (.int x2), some (.int x3), some (.ref 34)], [], zhp h)) rfl (zEv_if (fun c5 => ?_) (fun c5 => ?_))
    · replace H := zif_t c5 H
      refine zEv_k 1 (f' := (48, [some (.ref 0), y1, some (.int x2), some (.int x3), some (.ref 34)], [.int (-2)], zhp h)) rfl ?_
      cases H
      exact zEv_r rfl
    · replace H := zif_f c5 H
      refine zEv_k 4 (f' := (if x2 < (gI h 34 0) then 49 else 46, [some (.ref 0), y1, some (.int x2), some (.int x3), some (.ref 34)], [], zhp h)) rfl (zEv_if (fun c6 => ?_) (fun c6 => ?_))
      · replace H := zif_t c6 H
        refine zEv_k 1 (f' := (50, [some (.ref 0), y1, some (.int x2), some (.int x3), some (.ref 34)], [.int x3], zhp h)) rfl ?_
        by_cases c9 : x3 = 0
        · replace H := zif_t c9 H
          refine zEv_ls (y := 0) rfl c9 rfl (by decide) (by decide) ?_
          refine zEv_k 1 (f' := (78, [some (.ref 0), y1, some (.int x2), some (.int x3), some (.ref 34)], [.ref 34], zhp h)) rfl ?_
          refine zRgr rfl rfl rfl (by decide) (b := 34 + 1) rfl ?_
          refine zEv_k 1 (f' := (82, [some (.ref 0), y1, some (.int x2), some (.int x3), some (.ref 34)], [.int x2, .ref (34 + 1)], zhp h)) rfl ?_
          obtain ⟨j7, hj7, H⟩ := zbs H
          refine zRia rfl rfl (by decide) hj7 ?_
          cases H
          exact zEv_r rfl
        replace H := zif_f c9 H
        by_cases c10 : x3 = 1
        · replace H := zif_t c10 H
          refine zEv_ls (y := 1) rfl c10 rfl (by decide) (by decide) ?_
          refine zEv_k 1 (f' := (86, [some (.ref 0), y1, some (.int x2), some (.int x3), some (.ref 34)], [.ref 34], zhp h)) rfl ?_
          refine zRgr rfl rfl rfl (by decide) (b := 34 + 2) rfl ?_
          refine zEv_k 1 (f' := (90, [some (.ref 0), y1, some (.int x2), some (.int x3), some (.ref 34)], [.int x2, .ref (34 + 2)], zhp h)) rfl ?_
          obtain ⟨j8, hj8, H⟩ := zbs H
          refine zRia rfl rfl (by decide) hj8 ?_
          cases H
          exact zEv_r rfl
        replace H := zif_f c10 H
        refine zEv_lsd rfl rfl (by decide) (by decide) ?_ ?_
        · intro q hq; have hq2 : q ∈ [(0 : Int), (1 : Int)] := hq; simp only [List.mem_cons, List.not_mem_nil, or_false] at hq2; rcases hq2 with rfl | rfl <;> intro e <;> first | exact c9 (zeqI e (by decide)) | exact c10 (zeqI e (by decide))
        · refine zEv_k 1 (f' := (94, [some (.ref 0), y1, some (.int x2), some (.int x3), some (.ref 34)], [.int (-2)], zhp h)) rfl ?_
          cases H
          exact zEv_r rfl
      · replace H := zif_f c6 H
        refine zEv_k 1 (f' := (48, [some (.ref 0), y1, some (.int x2), some (.int x3), some (.ref 34)], [.int (-2)], zhp h)) rfl ?_
        cases H
        exact zEv_r rfl
def qC_fact (x1 : Int32) (x2 : Int32) (x3 : Int32) (h : zK) : Option (Int32) :=
  (qT_logAt x1 h).bind fun p1 => match p1 with
  | none =>
    some (-2)
  | some v2 =>
    if ¬ x2 = (-1) then
      if v2 = 19 ∨ v2 = 34 then
        qC_fact_j33 v2 x2 x3 h
      else none
    else
      if ¬ x3 = 0 then
        if v2 = 19 ∨ v2 = 34 then
          qC_fact_j33 v2 x2 x3 h
        else none
      else
        if v2 = 19 ∨ v2 = 34 then
          some (gI h v2 0)
        else none
theorem t_qC_fact {Ls : Nat} {xs : Nat → Int32} {d : Nat} {x1 : Int32} {x2 : Int32} {x3 : Int32} {h : zK} {p : Int32} (H : qC_fact x1 x2 x3 h = some p) : zEv (zXs Ls xs) (d + 1) zm_130 (0, [some (.ref 0), some (.int x1), some (.int x2), some (.int x3), none], [], zhp h) (some (.int p), zhp h) := by
  unfold qC_fact at H
  refine zEv_k 1 (f' := (1, [some (.ref 0), some (.int x1), some (.int x2), some (.int x3), none], [.ref 0], zhp h)) rfl ?_
  refine zRgr rfl rfl rfl (by decide) (b := 1) rfl ?_
  refine zEv_k 1 (f' := (5, [some (.ref 0), some (.int x1), some (.int x2), some (.int x3), none], [.int x1, .ref 1], zhp h)) rfl ?_
  obtain ⟨p1, hp1, H⟩ := zbs H
  refine zEv_c (fun _ => rfl) rfl (t_qT_logAt (x1 := x1) (h := h) (d := d) hp1) rfl rfl ?_
  rcases p1 with _ | v2
  · dsimp only at H
    refine zEv_k 4 (f' := (17, [some (.ref 0), some (.int x1), some (.int x2), some (.int x3), some (.null)], [.int (-2)], zhp h)) rfl ?_
    cases H
    exact zEv_r rfl
  · dsimp only at H
    refine zEv_k 6 (f' := (if ¬ x2 = (-1) then 33 else 23, [some (.ref 0), some (.int x1), some (.int x2), some (.int x3), some (.ref v2)], [], zhp h)) rfl (zEv_if (fun c3 => ?_) (fun c3 => ?_))
    · replace H := zif_t c3 H
      obtain ⟨c4, H⟩ := zifn H
      rcases c4 with rfl | rfl
      · exact t_qC_fact_j33 (v2 := 19) (x2 := x2) (x3 := x3) (h := h) (by decide) H _
      · exact t_qC_fact_j33 (v2 := 34) (x2 := x2) (x3 := x3) (h := h) (by decide) H _
    · replace H := zif_f c3 H
      refine zEv_k 2 (f' := (if ¬ x3 = 0 then 33 else 27, [some (.ref 0), some (.int x1), some (.int x2), some (.int x3), some (.ref v2)], [], zhp h)) rfl (zEv_if (fun c11 => ?_) (fun c11 => ?_))
      · replace H := zif_t c11 H
        obtain ⟨c12, H⟩ := zifn H
        rcases c12 with rfl | rfl
        · exact t_qC_fact_j33 (v2 := 19) (x2 := x2) (x3 := x3) (h := h) (by decide) H _
        · exact t_qC_fact_j33 (v2 := 34) (x2 := x2) (x3 := x3) (h := h) (by decide) H _
      · replace H := zif_f c11 H
        refine zEv_k 1 (f' := (29, [some (.ref 0), some (.int x1), some (.int x2), some (.int x3), some (.ref v2)], [.ref v2], zhp h)) rfl ?_
        obtain ⟨c13, H⟩ := zifn H
        rcases c13 with rfl | rfl
        · refine zEv_k 1 (f' := (32, [some (.ref 0), some (.int x1), some (.int x2), some (.int x3), some (.ref 19)], [.int (gI h 19 0)], zhp h)) rfl ?_
          cases H
          exact zEv_r rfl
        · refine zEv_k 1 (f' := (32, [some (.ref 0), some (.int x1), some (.int x2), some (.int x3), some (.ref 34)], [.int (gI h 34 0)], zhp h)) rfl ?_
          cases H
          exact zEv_r rfl
