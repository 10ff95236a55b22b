def qM_after_b53 (x3 : Int32) (s : Int32 × Int32 × Int32 × Int32 × Int32 × Int32 × Int32 × Int32 × Int32 × zK) : Option ((Int32 × Int32 × Int32 × Int32 × Int32 × Int32 × Int32 × Int32 × Int32 × zK) ⊕ (Int32 × Int32 × Int32 × Int32 × Int32 × zK)) :=
  if s.2.2.2.2.2.2.2.1 = 0 then
    some (.inr (s.1, s.2.1, s.2.2.2.1, s.2.2.2.2.2.1, s.2.2.2.2.2.2.1, s.2.2.2.2.2.2.2.2.2))
  else
    (qM_deeds s.2.2.2.2.2.2.2.2.2).bind fun p6 =>
    if p6 ≤ s.2.2.2.2.2.2.2.2.1 then
      some (.inr (s.1, s.2.1, s.2.2.2.1, s.2.2.2.2.2.1, s.2.2.2.2.2.2.1, s.2.2.2.2.2.2.2.2.2))
    else
      (qM_doesDeed s.2.2.2.2.2.2.2.2.1 s.2.2.2.2.2.2.2.2.2).bind fun p8 =>
      Option.bind (
          if p8.1 = 0 then
            some (-1)
          else
            (qM_deedOf s.2.2.2.2.2.2.2.2.1 0 p8.2).bind fun p11 =>
            some p11
        ) fun (v10 : Int32) =>
      (qM_deedOf s.2.2.2.2.2.2.2.2.1 1 p8.2).bind fun p12 =>
      zlet (
          if ¬ s.1 = (-1) then
            s.1
          else
            if (gI p8.2 215 28) ≤ (gI s.2.2.2.2.2.2.2.2.2 215 28) then
              s.1
            else
              gI p8.2 215 26
        ) fun (v14 : Int32) =>
      zlet (
          if ((gI p8.2 215 28) - (gI s.2.2.2.2.2.2.2.2.2 215 28)) ≤ s.2.2.1 then
            s.2.1
          else
            gI p8.2 215 26
        ) fun (v17 : Int32) =>
      zlet (
          if ¬ v10 = 4 then
            0
          else
            1
        ) fun (v19 : Int32) =>
      Option.bind (
          if ¬ v10 = 1 then
            if ¬ v10 = 1 then
              some (s.2.2.2.1, s.2.2.2.2.1, s.2.2.2.2.2.1)
            else
              (zix p12 7).bind fun j23 =>
              zlet (
                  if s.2.2.2.2.1 < (gI p8.2 226 j23) then
                    1
                  else
                    if ¬ (gI p8.2 226 j23) = s.2.2.2.2.1 then
                      0
                    else
                      if s.2.2.2.1 ≤ p12 then
                        0
                      else
                        1
                ) fun (v25 : Int32) =>
              zlet (
                  if v25 = 0 then
                    s.2.2.2.1
                  else
                    p12
                ) fun (v29 : Int32) =>
              some (v29, zf_greater s.2.2.2.2.1 (gI p8.2 226 j23), s.2.2.2.2.2.1)
          else
            if (zf_has (gI p8.2 215 31) p12) = 0 then
              if ¬ v10 = 1 then
                some (s.2.2.2.1, s.2.2.2.2.1, s.2.2.2.2.2.1)
              else
                (zix p12 7).bind fun j32 =>
                zlet (
                    if s.2.2.2.2.1 < (gI p8.2 226 j32) then
                      1
                    else
                      if ¬ (gI p8.2 226 j32) = s.2.2.2.2.1 then
                        0
                      else
                        if s.2.2.2.1 ≤ p12 then
                          0
                        else
                          1
                  ) fun (v34 : Int32) =>
                zlet (
                    if v34 = 0 then
                      s.2.2.2.1
                    else
                      p12
                  ) fun (v38 : Int32) =>
                some (v38, zf_greater s.2.2.2.2.1 (gI p8.2 226 j32), s.2.2.2.2.2.1)
            else
              some (s.2.2.2.1, s.2.2.2.2.1, s.2.2.2.2.2.1 + 1)
        ) fun (v21 : Int32 × Int32 × Int32) =>
      some (.inl (v14, v17, zf_greater s.2.2.1 ((gI p8.2 215 28) - (gI s.2.2.2.2.2.2.2.2.2 215 28)), v21.1, v21.2.1, v21.2.2, s.2.2.2.2.2.2.1 + v19, p8.1, s.2.2.2.2.2.2.2.2.1 + 1, p8.2))
theorem t_qM_after_b53b {Ls : Nat} {xs : Nat → Int32} {d : Nat} {x3 : Int32} {r : zA} {s : Int32 × Int32 × Int32 × Int32 × Int32 × Int32 × Int32 × Int32 × Int32 × zK} {e : (Int32 × Int32 × Int32 × Int32 × Int32 × Int32 × Int32 × Int32 × Int32 × zK) ⊕ (Int32 × Int32 × Int32 × Int32 × Int32 × zK)} (H : qM_after_b53 x3 s = some e) (K : match (generalizing := false) e with | .inl s' => ∀ (z1 : Option Value) (z2 : Option Value) (z13 : Option Value) (z14 : Option Value) (z15 : Option Value) (z16 : Option Value), zEv (zXs Ls xs) (d + 6) zm_264 (53, [some (.ref 215), z1, z2, some (.int x3), some (.int s'.1), some (.int s'.2.1), some (.int s'.2.2.1), some (.int s'.2.2.2.1), some (.int s'.2.2.2.2.1), some (.int s'.2.2.2.2.2.1), some (.int s'.2.2.2.2.2.2.1), some (.int s'.2.2.2.2.2.2.2.1), some (.int s'.2.2.2.2.2.2.2.2.1), z13, z14, z15, z16], [], zhp s'.2.2.2.2.2.2.2.2.2) r | .inr v => ∀ (z1 : Option Value) (z2 : Option Value) (z6 : Option Value) (z8 : Option Value) (z11 : Option Value) (z12 : Option Value) (z13 : Option Value) (z14 : Option Value) (z15 : Option Value) (z16 : Option Value), zEv (zXs Ls xs) (d + 6) zm_264 (289, [some (.ref 215), z1, z2, some (.int x3), some (.int v.1), some (.int v.2.1), z6, some (.int v.2.2.1), z8, some (.int v.2.2.2.1), some (.int v.2.2.2.2.1), z11, z12, z13, z14, z15, z16], [], zhp v.2.2.2.2.2) r) (y1 : Option Value) (y2 : Option Value) (y13 : Option Value) (y14 : Option Value) (y15 : Option Value) (y16 : Option Value) : zEv (zXs Ls xs) (d + 6) zm_264 (53, [some (.ref 215), y1, y2, some (.int x3), some (.int s.1), some (.int s.2.1), some (.int s.2.2.1), some (.int s.2.2.2.1), some (.int s.2.2.2.2.1), some (.int s.2.2.2.2.2.1), some (.int s.2.2.2.2.2.2.1), some (.int s.2.2.2.2.2.2.2.1), some (.int s.2.2.2.2.2.2.2.2.1), y13, y14, y15, y16], [], zhp s.2.2.2.2.2.2.2.2.2) r := by
  unfold qM_after_b53 at H
  refine zEv_k 2 (f' := (if s.2.2.2.2.2.2.2.1 = 0 then 289 else 58, [some (.ref 215), y1, y2, some (.int x3), some (.int s.1), some (.int s.2.1), some (.int s.2.2.1), some (.int s.2.2.2.1), some (.int s.2.2.2.2.1), some (.int s.2.2.2.2.2.1), some (.int s.2.2.2.2.2.2.1), some (.int s.2.2.2.2.2.2.2.1), some (.int s.2.2.2.2.2.2.2.2.1), y13, y14, y15, y16], [], zhp s.2.2.2.2.2.2.2.2.2)) rfl (zEv_if (fun c5 => ?_) (fun c5 => ?_))
  · replace H := zif_t c5 H
    cases H
    exact K _ _ _ _ _ _ _ _ _ _
  · replace H := zif_f c5 H
    refine zEv_k 2 (f' := (61, [some (.ref 215), y1, y2, some (.int x3), some (.int s.1), some (.int s.2.1), some (.int s.2.2.1), some (.int s.2.2.2.1), some (.int s.2.2.2.2.1), some (.int s.2.2.2.2.2.1), some (.int s.2.2.2.2.2.2.1), some (.int s.2.2.2.2.2.2.2.1), some (.int s.2.2.2.2.2.2.2.2.1), y13, y14, y15, y16], [.ref 215, .int s.2.2.2.2.2.2.2.2.1], zhp s.2.2.2.2.2.2.2.2.2)) rfl ?_
    obtain ⟨p6, hp6, H⟩ := zbs H
    refine zEv_c (fun _ => rfl) rfl (t_qM_deeds (h := s.2.2.2.2.2.2.2.2.2) (d := d + 5) hp6) rfl rfl ?_
    refine zEv_k 1 (f' := (if p6 ≤ s.2.2.2.2.2.2.2.2.1 then 289 else 67, [some (.ref 215), y1, y2, some (.int x3), some (.int s.1), some (.int s.2.1), some (.int s.2.2.1), some (.int s.2.2.2.1), some (.int s.2.2.2.2.1), some (.int s.2.2.2.2.2.1), some (.int s.2.2.2.2.2.2.1), some (.int s.2.2.2.2.2.2.2.1), some (.int s.2.2.2.2.2.2.2.2.1), y13, y14, y15, y16], [], zhp s.2.2.2.2.2.2.2.2.2)) rfl (zEv_if (fun c7 => ?_) (fun c7 => ?_))
    · replace H := zif_t c7 H
      cases H
      exact K _ _ _ _ _ _ _ _ _ _
    · replace H := zif_f c7 H
      refine zEv_k 5 (f' := (76, [some (.ref 215), y1, y2, some (.int x3), some (.int s.1), some (.int s.2.1), some (.int s.2.2.1), some (.int s.2.2.2.1), some (.int s.2.2.2.2.1), some (.int s.2.2.2.2.2.1), some (.int s.2.2.2.2.2.2.1), some (.int s.2.2.2.2.2.2.2.1), some (.int s.2.2.2.2.2.2.2.2.1), some (.int (gI s.2.2.2.2.2.2.2.2.2 215 28)), y14, y15, y16], [.int s.2.2.2.2.2.2.2.2.1, .ref 215], zhp s.2.2.2.2.2.2.2.2.2)) rfl ?_
      obtain ⟨p8, hp8, H⟩ := zbs H
      refine zEv_c (fun _ => rfl) rfl (t_qM_doesDeed (x1 := s.2.2.2.2.2.2.2.2.1) (h := s.2.2.2.2.2.2.2.2.2) (d := d) hp8) rfl rfl ?_
      obtain ⟨v10, hv10, H⟩ := zbs H
      have kv10 : zEv (zXs Ls xs) (d + 6) zm_264 (97, [some (.ref 215), y1, y2, some (.int x3), some (.int s.1), some (.int s.2.1), some (.int s.2.2.1), some (.int s.2.2.2.1), some (.int s.2.2.2.2.1), some (.int s.2.2.2.2.2.1), some (.int s.2.2.2.2.2.2.1), some (.int p8.1), some (.int s.2.2.2.2.2.2.2.2.1), some (.int (gI s.2.2.2.2.2.2.2.2.2 215 28)), y14, y15, y16], [.int v10], zhp p8.2) r := by
        refine zEv_k 4 (f' := (103, [some (.ref 215), y1, y2, some (.int x3), some (.int s.1), some (.int s.2.1), some (.int s.2.2.1), some (.int s.2.2.2.1), some (.int s.2.2.2.2.1), some (.int s.2.2.2.2.2.1), some (.int s.2.2.2.2.2.2.1), some (.int p8.1), some (.int s.2.2.2.2.2.2.2.2.1), some (.int (gI s.2.2.2.2.2.2.2.2.2 215 28)), some (.int v10), y15, y16], [.int 1, .int s.2.2.2.2.2.2.2.2.1, .ref 215], zhp p8.2)) rfl ?_
        obtain ⟨p12, hp12, H⟩ := zbs H
        refine zEv_c (fun _ => rfl) rfl (t_qM_deedOf (x1 := s.2.2.2.2.2.2.2.2.1) (x2 := 1) (h := p8.2) (d := d + 5) hp12) rfl rfl ?_
        obtain ⟨v14, hv14, H⟩ := zlets H
        have kv14 : zEv (zXs Ls xs) (d + 6) zm_264 (132, [some (.ref 215), y1, y2, some (.int x3), some (.int s.1), some (.int s.2.1), some (.int s.2.2.1), some (.int s.2.2.2.1), some (.int s.2.2.2.2.1), some (.int s.2.2.2.2.2.1), some (.int s.2.2.2.2.2.2.1), some (.int p8.1), some (.int s.2.2.2.2.2.2.2.2.1), some (.int (gI s.2.2.2.2.2.2.2.2.2 215 28)), some (.int v10), some (.int p12), y16], [.int v14], zhp p8.2) r := by
          obtain ⟨v17, hv17, H⟩ := zlets H
          have kv17 : zEv (zXs Ls xs) (d + 6) zm_264 (155, [some (.ref 215), y1, y2, some (.int x3), some (.int v14), some (.int s.2.1), some (.int s.2.2.1), some (.int s.2.2.2.1), some (.int s.2.2.2.2.1), some (.int s.2.2.2.2.2.1), some (.int s.2.2.2.2.2.2.1), some (.int p8.1), some (.int s.2.2.2.2.2.2.2.2.1), some (.int (gI s.2.2.2.2.2.2.2.2.2 215 28)), some (.int v10), some (.int p12), y16], [.int v17], zhp p8.2) r := by
            obtain ⟨v19, hv19, H⟩ := zlets H
            have kv19 : zEv (zXs Ls xs) (d + 6) zm_264 (184, [some (.ref 215), y1, y2, some (.int x3), some (.int v14), some (.int v17), some (.int (zf_greater s.2.2.1 ((gI p8.2 215 28) - (gI s.2.2.2.2.2.2.2.2.2 215 28)))), some (.int s.2.2.2.1), some (.int s.2.2.2.2.1), some (.int s.2.2.2.2.2.1), some (.int s.2.2.2.2.2.2.1), some (.int p8.1), some (.int s.2.2.2.2.2.2.2.2.1), some (.int (gI s.2.2.2.2.2.2.2.2.2 215 28)), some (.int v10), some (.int p12), y16], [.int v19, .int s.2.2.2.2.2.2.1], zhp p8.2) r := by
              obtain ⟨v21, hv21, H⟩ := zbs H
              have kv21 : ∀ (y16 : Option Value), zEv (zXs Ls xs) (d + 6) zm_264 (283, [some (.ref 215), y1, y2, some (.int x3), some (.int v14), some (.int v17), some (.int (zf_greater s.2.2.1 ((gI p8.2 215 28) - (gI s.2.2.2.2.2.2.2.2.2 215 28)))), some (.int v21.1), some (.int v21.2.1), some (.int v21.2.2), some (.int (s.2.2.2.2.2.2.1 + v19)), some (.int p8.1), some (.int s.2.2.2.2.2.2.2.2.1), some (.int (gI s.2.2.2.2.2.2.2.2.2 215 28)), some (.int v10), some (.int p12), y16], [], zhp p8.2) r := by
                intro y16
                refine zEv_k 2 (f' := (53, [some (.ref 215), y1, y2, some (.int x3), some (.int v14), some (.int v17), some (.int (zf_greater s.2.2.1 ((gI p8.2 215 28) - (gI s.2.2.2.2.2.2.2.2.2 215 28)))), some (.int v21.1), some (.int v21.2.1), some (.int v21.2.2), some (.int (s.2.2.2.2.2.2.1 + v19)), some (.int p8.1), some (.int (s.2.2.2.2.2.2.2.2.1 + 1)), some (.int (gI s.2.2.2.2.2.2.2.2.2 215 28)), some (.int v10), some (.int p12), y16], [], zhp p8.2)) rfl ?_
                cases H
                exact K _ _ _ _ _ _
              clear H
              refine zEv_k 5 (f' := (if ¬ v10 = 1 then 211 else 193, [some (.ref 215), y1, y2, some (.int x3), some (.int v14), some (.int v17), some (.int (zf_greater s.2.2.1 ((gI p8.2 215 28) - (gI s.2.2.2.2.2.2.2.2.2 215 28)))), some (.int s.2.2.2.1), some (.int s.2.2.2.2.1), some (.int s.2.2.2.2.2.1), some (.int (s.2.2.2.2.2.2.1 + v19)), some (.int p8.1), some (.int s.2.2.2.2.2.2.2.2.1), some (.int (gI s.2.2.2.2.2.2.2.2.2 215 28)), some (.int v10), some (.int p12), y16], [], zhp p8.2)) rfl (zEv_if (fun c20 => ?_) (fun c20 => ?_))
              · replace hv21 := zif_t c20 hv21
                refine zEv_k 3 (f' := (if ¬ v10 = 1 then 283 else 217, [some (.ref 215), y1, y2, some (.int x3), some (.int v14), some (.int v17), some (.int (zf_greater s.2.2.1 ((gI p8.2 215 28) - (gI s.2.2.2.2.2.2.2.2.2 215 28)))), some (.int s.2.2.2.1), some (.int s.2.2.2.2.1), some (.int s.2.2.2.2.2.1), some (.int (s.2.2.2.2.2.2.1 + v19)), some (.int p8.1), some (.int s.2.2.2.2.2.2.2.2.1), some (.int (gI s.2.2.2.2.2.2.2.2.2 215 28)), some (.int v10), some (.int p12), y16], [], zhp p8.2)) rfl (zEv_if (fun c22 => ?_) (fun c22 => ?_))
                · replace hv21 := zif_t c22 hv21
                  cases hv21
                  exact kv21 _
                · replace hv21 := zif_f c22 hv21
                  refine zEv_k 1 (f' := (218, [some (.ref 215), y1, y2, some (.int x3), some (.int v14), some (.int v17), some (.int (zf_greater s.2.2.1 ((gI p8.2 215 28) - (gI s.2.2.2.2.2.2.2.2.2 215 28)))), some (.int s.2.2.2.1), some (.int s.2.2.2.2.1), some (.int s.2.2.2.2.2.1), some (.int (s.2.2.2.2.2.2.1 + v19)), some (.int p8.1), some (.int s.2.2.2.2.2.2.2.2.1), some (.int (gI s.2.2.2.2.2.2.2.2.2 215 28)), some (.int v10), some (.int p12), y16], [.ref 215], zhp p8.2)) rfl ?_
                  refine zRgr rfl rfl rfl (by decide) (b := 226) rfl ?_
                  refine zEv_k 1 (f' := (223, [some (.ref 215), y1, y2, some (.int x3), some (.int v14), some (.int v17), some (.int (zf_greater s.2.2.1 ((gI p8.2 215 28) - (gI s.2.2.2.2.2.2.2.2.2 215 28)))), some (.int s.2.2.2.1), some (.int s.2.2.2.2.1), some (.int s.2.2.2.2.2.1), some (.int (s.2.2.2.2.2.2.1 + v19)), some (.int p8.1), some (.int s.2.2.2.2.2.2.2.2.1), some (.int (gI s.2.2.2.2.2.2.2.2.2 215 28)), some (.int v10), some (.int p12), y16], [.int p12, .ref 226], zhp p8.2)) rfl ?_
                  obtain ⟨j23, hj23, hv21⟩ := zbs hv21
                  refine zRia rfl rfl (by decide) hj23 ?_
                  obtain ⟨v25, hv25, hv21⟩ := zlets hv21
                  have kv25 : zEv (zXs Ls xs) (d + 6) zm_264 (253, [some (.ref 215), y1, y2, some (.int x3), some (.int v14), some (.int v17), some (.int (zf_greater s.2.2.1 ((gI p8.2 215 28) - (gI s.2.2.2.2.2.2.2.2.2 215 28)))), some (.int s.2.2.2.1), some (.int s.2.2.2.2.1), some (.int s.2.2.2.2.2.1), some (.int (s.2.2.2.2.2.2.1 + v19)), some (.int p8.1), some (.int s.2.2.2.2.2.2.2.2.1), some (.int (gI s.2.2.2.2.2.2.2.2.2 215 28)), some (.int v10), some (.int p12), y16], [.int v25], zhp p8.2) r := by
                    obtain ⟨v29, hv29, hv21⟩ := zlets hv21
                    have kv29 : zEv (zXs Ls xs) (d + 6) zm_264 (267, [some (.ref 215), y1, y2, some (.int x3), some (.int v14), some (.int v17), some (.int (zf_greater s.2.2.1 ((gI p8.2 215 28) - (gI s.2.2.2.2.2.2.2.2.2 215 28)))), some (.int s.2.2.2.1), some (.int s.2.2.2.2.1), some (.int s.2.2.2.2.2.1), some (.int (s.2.2.2.2.2.2.1 + v19)), some (.int p8.1), some (.int s.2.2.2.2.2.2.2.2.1), some (.int (gI s.2.2.2.2.2.2.2.2.2 215 28)), some (.int v10), some (.int p12), some (.int v25)], [.int v29], zhp p8.2) r := by
                      refine zEv_k 3 (f' := (272, [some (.ref 215), y1, y2, some (.int x3), some (.int v14), some (.int v17), some (.int (zf_greater s.2.2.1 ((gI p8.2 215 28) - (gI s.2.2.2.2.2.2.2.2.2 215 28)))), some (.int v29), some (.int s.2.2.2.2.1), some (.int s.2.2.2.2.2.1), some (.int (s.2.2.2.2.2.2.1 + v19)), some (.int p8.1), some (.int s.2.2.2.2.2.2.2.2.1), some (.int (gI s.2.2.2.2.2.2.2.2.2 215 28)), some (.int v10), some (.int p12), some (.int v25)], [.ref 215, .int s.2.2.2.2.1], zhp p8.2)) rfl ?_
                      refine zRgr rfl rfl rfl (by decide) (b := 226) rfl ?_
                      refine zEv_k 1 (f' := (277, [some (.ref 215), y1, y2, some (.int x3), some (.int v14), some (.int v17), some (.int (zf_greater s.2.2.1 ((gI p8.2 215 28) - (gI s.2.2.2.2.2.2.2.2.2 215 28)))), some (.int v29), some (.int s.2.2.2.2.1), some (.int s.2.2.2.2.2.1), some (.int (s.2.2.2.2.2.2.1 + v19)), some (.int p8.1), some (.int s.2.2.2.2.2.2.2.2.1), some (.int (gI s.2.2.2.2.2.2.2.2.2 215 28)), some (.int v10), some (.int p12), some (.int v25)], [.int p12, .ref 226, .int s.2.2.2.2.1], zhp p8.2)) rfl ?_
                      refine zRia rfl rfl (by decide) hj23 ?_
                      refine zEv_c (fun _ => rfl) rfl ev_zf_greater rfl rfl ?_
                      refine zEv_k 1 (f' := (283, [some (.ref 215), y1, y2, some (.int x3), some (.int v14), some (.int v17), some (.int (zf_greater s.2.2.1 ((gI p8.2 215 28) - (gI s.2.2.2.2.2.2.2.2.2 215 28)))), some (.int v29), some (.int (zf_greater s.2.2.2.2.1 (gI p8.2 226 j23))), some (.int s.2.2.2.2.2.1), some (.int (s.2.2.2.2.2.2.1 + v19)), some (.int p8.1), some (.int s.2.2.2.2.2.2.2.2.1), some (.int (gI s.2.2.2.2.2.2.2.2.2 215 28)), some (.int v10), some (.int p12), some (.int v25)], [], zhp p8.2)) rfl ?_
                      cases hv21
                      exact kv21 _
                    clear hv21
                    refine zEv_k 3 (f' := (if v25 = 0 then 265 else 260, [some (.ref 215), y1, y2, some (.int x3), some (.int v14), some (.int v17), some (.int (zf_greater s.2.2.1 ((gI p8.2 215 28) - (gI s.2.2.2.2.2.2.2.2.2 215 28)))), some (.int s.2.2.2.1), some (.int s.2.2.2.2.1), some (.int s.2.2.2.2.2.1), some (.int (s.2.2.2.2.2.2.1 + v19)), some (.int p8.1), some (.int s.2.2.2.2.2.2.2.2.1), some (.int (gI s.2.2.2.2.2.2.2.2.2 215 28)), some (.int v10), some (.int p12), some (.int v25)], [], zhp p8.2)) rfl (zEv_if (fun c28 => ?_) (fun c28 => ?_))
                    · replace hv29 := zif_t c28 hv29
                      refine zEv_k 1 (f' := (267, [some (.ref 215), y1, y2, some (.int x3), some (.int v14), some (.int v17), some (.int (zf_greater s.2.2.1 ((gI p8.2 215 28) - (gI s.2.2.2.2.2.2.2.2.2 215 28)))), some (.int s.2.2.2.1), some (.int s.2.2.2.2.1), some (.int s.2.2.2.2.2.1), some (.int (s.2.2.2.2.2.2.1 + v19)), some (.int p8.1), some (.int s.2.2.2.2.2.2.2.2.1), some (.int (gI s.2.2.2.2.2.2.2.2.2 215 28)), some (.int v10), some (.int p12), some (.int v25)], [.int s.2.2.2.1], zhp p8.2)) rfl ?_
                      cases hv29
                      exact kv29
                    · replace hv29 := zif_f c28 hv29
                      refine zEv_k 2 (f' := (267, [some (.ref 215), y1, y2, some (.int x3), some (.int v14), some (.int v17), some (.int (zf_greater s.2.2.1 ((gI p8.2 215 28) - (gI s.2.2.2.2.2.2.2.2.2 215 28)))), some (.int s.2.2.2.1), some (.int s.2.2.2.2.1), some (.int s.2.2.2.2.2.1), some (.int (s.2.2.2.2.2.2.1 + v19)), some (.int p8.1), some (.int s.2.2.2.2.2.2.2.2.1), some (.int (gI s.2.2.2.2.2.2.2.2.2 215 28)), some (.int v10), some (.int p12), some (.int v25)], [.int p12], zhp p8.2)) rfl ?_
                      cases hv29
                      exact kv29
                  clear hv21
                  refine zEv_k 2 (f' := (if s.2.2.2.2.1 < (gI p8.2 226 j23) then 248 else 229, [some (.ref 215), y1, y2, some (.int x3), some (.int v14), some (.int v17), some (.int (zf_greater s.2.2.1 ((gI p8.2 215 28) - (gI s.2.2.2.2.2.2.2.2.2 215 28)))), some (.int s.2.2.2.1), some (.int s.2.2.2.2.1), some (.int s.2.2.2.2.2.1), some (.int (s.2.2.2.2.2.2.1 + v19)), some (.int p8.1), some (.int s.2.2.2.2.2.2.2.2.1), some (.int (gI s.2.2.2.2.2.2.2.2.2 215 28)), some (.int v10), some (.int p12), y16], [], zhp p8.2)) rfl (zEv_if (fun c24 => ?_) (fun c24 => ?_))
                  · replace hv25 := zif_t c24 hv25
                    refine zEv_k 2 (f' := (253, [some (.ref 215), y1, y2, some (.int x3), some (.int v14), some (.int v17), some (.int (zf_greater s.2.2.1 ((gI p8.2 215 28) - (gI s.2.2.2.2.2.2.2.2.2 215 28)))), some (.int s.2.2.2.1), some (.int s.2.2.2.2.1), some (.int s.2.2.2.2.2.1), some (.int (s.2.2.2.2.2.2.1 + v19)), some (.int p8.1), some (.int s.2.2.2.2.2.2.2.2.1), some (.int (gI s.2.2.2.2.2.2.2.2.2 215 28)), some (.int v10), some (.int p12), y16], [.int 1], zhp p8.2)) rfl ?_
                    cases hv25
                    exact kv25
                  · replace hv25 := zif_f c24 hv25
                    refine zEv_k 1 (f' := (230, [some (.ref 215), y1, y2, some (.int x3), some (.int v14), some (.int v17), some (.int (zf_greater s.2.2.1 ((gI p8.2 215 28) - (gI s.2.2.2.2.2.2.2.2.2 215 28)))), some (.int s.2.2.2.1), some (.int s.2.2.2.2.1), some (.int s.2.2.2.2.2.1), some (.int (s.2.2.2.2.2.2.1 + v19)), some (.int p8.1), some (.int s.2.2.2.2.2.2.2.2.1), some (.int (gI s.2.2.2.2.2.2.2.2.2 215 28)), some (.int v10), some (.int p12), y16], [.ref 215], zhp p8.2)) rfl ?_
                    refine zRgr rfl rfl rfl (by decide) (b := 226) rfl ?_
                    refine zEv_k 1 (f' := (235, [some (.ref 215), y1, y2, some (.int x3), some (.int v14), some (.int v17), some (.int (zf_greater s.2.2.1 ((gI p8.2 215 28) - (gI s.2.2.2.2.2.2.2.2.2 215 28)))), some (.int s.2.2.2.1), some (.int s.2.2.2.2.1), some (.int s.2.2.2.2.2.1), some (.int (s.2.2.2.2.2.2.1 + v19)), some (.int p8.1), some (.int s.2.2.2.2.2.2.2.2.1), some (.int (gI s.2.2.2.2.2.2.2.2.2 215 28)), some (.int v10), some (.int p12), y16], [.int p12, .ref 226], zhp p8.2)) rfl ?_
                    refine zRia rfl rfl (by decide) hj23 ?_
                    refine zEv_k 2 (f' := (if ¬ (gI p8.2 226 j23) = s.2.2.2.2.1 then 252 else 241, [some (.ref 215), y1, y2, some (.int x3), some (.int v14), some (.int v17), some (.int (zf_greater s.2.2.1 ((gI p8.2 215 28) - (gI s.2.2.2.2.2.2.2.2.2 215 28)))), some (.int s.2.2.2.1), some (.int s.2.2.2.2.1), some (.int s.2.2.2.2.2.1), some (.int (s.2.2.2.2.2.2.1 + v19)), some (.int p8.1), some (.int s.2.2.2.2.2.2.2.2.1), some (.int (gI s.2.2.2.2.2.2.2.2.2 215 28)), some (.int v10), some (.int p12), y16], [], zhp p8.2)) rfl (zEv_if (fun c26 => ?_) (fun c26 => ?_))
                    · replace hv25 := zif_t c26 hv25
                      refine zEv_k 1 (f' := (253, [some (.ref 215), y1, y2, some (.int x3), some (.int v14), some (.int v17), some (.int (zf_greater s.2.2.1 ((gI p8.2 215 28) - (gI s.2.2.2.2.2.2.2.2.2 215 28)))), some (.int s.2.2.2.1), some (.int s.2.2.2.2.1), some (.int s.2.2.2.2.2.1), some (.int (s.2.2.2.2.2.2.1 + v19)), some (.int p8.1), some (.int s.2.2.2.2.2.2.2.2.1), some (.int (gI s.2.2.2.2.2.2.2.2.2 215 28)), some (.int v10), some (.int p12), y16], [.int 0], zhp p8.2)) rfl ?_
                      cases hv25
                      exact kv25
                    · replace hv25 := zif_f c26 hv25
                      refine zEv_k 3 (f' := (if s.2.2.2.1 ≤ p12 then 252 else 248, [some (.ref 215), y1, y2, some (.int x3), some (.int v14), some (.int v17), some (.int (zf_greater s.2.2.1 ((gI p8.2 215 28) - (gI s.2.2.2.2.2.2.2.2.2 215 28)))), some (.int s.2.2.2.1), some (.int s.2.2.2.2.1), some (.int s.2.2.2.2.2.1), some (.int (s.2.2.2.2.2.2.1 + v19)), some (.int p8.1), some (.int s.2.2.2.2.2.2.2.2.1), some (.int (gI s.2.2.2.2.2.2.2.2.2 215 28)), some (.int v10), some (.int p12), y16], [], zhp p8.2)) rfl (zEv_if (fun c27 => ?_) (fun c27 => ?_))
                      · replace hv25 := zif_t c27 hv25
                        refine zEv_k 1 (f' := (253, [some (.ref 215), y1, y2, some (.int x3), some (.int v14), some (.int v17), some (.int (zf_greater s.2.2.1 ((gI p8.2 215 28) - (gI s.2.2.2.2.2.2.2.2.2 215 28)))), some (.int s.2.2.2.1), some (.int s.2.2.2.2.1), some (.int s.2.2.2.2.2.1), some (.int (s.2.2.2.2.2.2.1 + v19)), some (.int p8.1), some (.int s.2.2.2.2.2.2.2.2.1), some (.int (gI s.2.2.2.2.2.2.2.2.2 215 28)), some (.int v10), some (.int p12), y16], [.int 0], zhp p8.2)) rfl ?_
                        cases hv25
                        exact kv25
                      · replace hv25 := zif_f c27 hv25
                        refine zEv_k 2 (f' := (253, [some (.ref 215), y1, y2, some (.int x3), some (.int v14), some (.int v17), some (.int (zf_greater s.2.2.1 ((gI p8.2 215 28) - (gI s.2.2.2.2.2.2.2.2.2 215 28)))), some (.int s.2.2.2.1), some (.int s.2.2.2.2.1), some (.int s.2.2.2.2.2.1), some (.int (s.2.2.2.2.2.2.1 + v19)), some (.int p8.1), some (.int s.2.2.2.2.2.2.2.2.1), some (.int (gI s.2.2.2.2.2.2.2.2.2 215 28)), some (.int v10), some (.int p12), y16], [.int 1], zhp p8.2)) rfl ?_
                        cases hv25
                        exact kv25
              · replace hv21 := zif_f c20 hv21
                refine zEv_k 3 (f' := (199, [some (.ref 215), y1, y2, some (.int x3), some (.int v14), some (.int v17), some (.int (zf_greater s.2.2.1 ((gI p8.2 215 28) - (gI s.2.2.2.2.2.2.2.2.2 215 28)))), some (.int s.2.2.2.1), some (.int s.2.2.2.2.1), some (.int s.2.2.2.2.2.1), some (.int (s.2.2.2.2.2.2.1 + v19)), some (.int p8.1), some (.int s.2.2.2.2.2.2.2.2.1), some (.int (gI s.2.2.2.2.2.2.2.2.2 215 28)), some (.int v10), some (.int p12), y16], [.int p12, .int (gI p8.2 215 31)], zhp p8.2)) rfl ?_
                refine zEv_c (fun _ => rfl) rfl ev_zf_has rfl rfl ?_
                refine zEv_k 1 (f' := (if (zf_has (gI p8.2 215 31) p12) = 0 then 211 else 205, [some (.ref 215), y1, y2, some (.int x3), some (.int v14), some (.int v17), some (.int (zf_greater s.2.2.1 ((gI p8.2 215 28) - (gI s.2.2.2.2.2.2.2.2.2 215 28)))), some (.int s.2.2.2.1), some (.int s.2.2.2.2.1), some (.int s.2.2.2.2.2.1), some (.int (s.2.2.2.2.2.2.1 + v19)), some (.int p8.1), some (.int s.2.2.2.2.2.2.2.2.1), some (.int (gI s.2.2.2.2.2.2.2.2.2 215 28)), some (.int v10), some (.int p12), y16], [], zhp p8.2)) rfl (zEv_if (fun c30 => ?_) (fun c30 => ?_))
                · replace hv21 := zif_t c30 hv21
                  refine zEv_k 3 (f' := (if ¬ v10 = 1 then 283 else 217, [some (.ref 215), y1, y2, some (.int x3), some (.int v14), some (.int v17), some (.int (zf_greater s.2.2.1 ((gI p8.2 215 28) - (gI s.2.2.2.2.2.2.2.2.2 215 28)))), some (.int s.2.2.2.1), some (.int s.2.2.2.2.1), some (.int s.2.2.2.2.2.1), some (.int (s.2.2.2.2.2.2.1 + v19)), some (.int p8.1), some (.int s.2.2.2.2.2.2.2.2.1), some (.int (gI s.2.2.2.2.2.2.2.2.2 215 28)), some (.int v10), some (.int p12), y16], [], zhp p8.2)) rfl (zEv_if (fun c31 => ?_) (fun c31 => ?_))
                  · replace hv21 := zif_t c31 hv21
                    cases hv21
                    exact kv21 _
                  · replace hv21 := zif_f c31 hv21
                    refine zEv_k 1 (f' := (218, [some (.ref 215), y1, y2, some (.int x3), some (.int v14), some (.int v17), some (.int (zf_greater s.2.2.1 ((gI p8.2 215 28) - (gI s.2.2.2.2.2.2.2.2.2 215 28)))), some (.int s.2.2.2.1), some (.int s.2.2.2.2.1), some (.int s.2.2.2.2.2.1), some (.int (s.2.2.2.2.2.2.1 + v19)), some (.int p8.1), some (.int s.2.2.2.2.2.2.2.2.1), some (.int (gI s.2.2.2.2.2.2.2.2.2 215 28)), some (.int v10), some (.int p12), y16], [.ref 215], zhp p8.2)) rfl ?_
                    refine zRgr rfl rfl rfl (by decide) (b := 226) rfl ?_
                    refine zEv_k 1 (f' := (223, [some (.ref 215), y1, y2, some (.int x3), some (.int v14), some (.int v17), some (.int (zf_greater s.2.2.1 ((gI p8.2 215 28) - (gI s.2.2.2.2.2.2.2.2.2 215 28)))), some (.int s.2.2.2.1), some (.int s.2.2.2.2.1), some (.int s.2.2.2.2.2.1), some (.int (s.2.2.2.2.2.2.1 + v19)), some (.int p8.1), some (.int s.2.2.2.2.2.2.2.2.1), some (.int (gI s.2.2.2.2.2.2.2.2.2 215 28)), some (.int v10), some (.int p12), y16], [.int p12, .ref 226], zhp p8.2)) rfl ?_
                    obtain ⟨j32, hj32, hv21⟩ := zbs hv21
                    refine zRia rfl rfl (by decide) hj32 ?_
                    obtain ⟨v34, hv34, hv21⟩ := zlets hv21
                    have kv34 : zEv (zXs Ls xs) (d + 6) zm_264 (253, [some (.ref 215), y1, y2, some (.int x3), some (.int v14), some (.int v17), some (.int (zf_greater s.2.2.1 ((gI p8.2 215 28) - (gI s.2.2.2.2.2.2.2.2.2 215 28)))), some (.int s.2.2.2.1), some (.int s.2.2.2.2.1), some (.int s.2.2.2.2.2.1), some (.int (s.2.2.2.2.2.2.1 + v19)), some (.int p8.1), some (.int s.2.2.2.2.2.2.2.2.1), some (.int (gI s.2.2.2.2.2.2.2.2.2 215 28)), some (.int v10), some (.int p12), y16], [.int v34], zhp p8.2) r := by
                      obtain ⟨v38, hv38, hv21⟩ := zlets hv21
                      have kv38 : zEv (zXs Ls xs) (d + 6) zm_264 (267, [some (.ref 215), y1, y2, some (.int x3), some (.int v14), some (.int v17), some (.int (zf_greater s.2.2.1 ((gI p8.2 215 28) - (gI s.2.2.2.2.2.2.2.2.2 215 28)))), some (.int s.2.2.2.1), some (.int s.2.2.2.2.1), some (.int s.2.2.2.2.2.1), some (.int (s.2.2.2.2.2.2.1 + v19)), some (.int p8.1), some (.int s.2.2.2.2.2.2.2.2.1), some (.int (gI s.2.2.2.2.2.2.2.2.2 215 28)), some (.int v10), some (.int p12), some (.int v34)], [.int v38], zhp p8.2) r := by
                        refine zEv_k 3 (f' := (272, [some (.ref 215), y1, y2, some (.int x3), some (.int v14), some (.int v17), some (.int (zf_greater s.2.2.1 ((gI p8.2 215 28) - (gI s.2.2.2.2.2.2.2.2.2 215 28)))), some (.int v38), some (.int s.2.2.2.2.1), some (.int s.2.2.2.2.2.1), some (.int (s.2.2.2.2.2.2.1 + v19)), some (.int p8.1), some (.int s.2.2.2.2.2.2.2.2.1), some (.int (gI s.2.2.2.2.2.2.2.2.2 215 28)), some (.int v10), some (.int p12), some (.int v34)], [.ref 215, .int s.2.2.2.2.1], zhp p8.2)) rfl ?_
                        refine zRgr rfl rfl rfl (by decide) (b := 226) rfl ?_
                        refine zEv_k 1 (f' := (277, [some (.ref 215), y1, y2, some (.int x3), some (.int v14), some (.int v17), some (.int (zf_greater s.2.2.1 ((gI p8.2 215 28) - (gI s.2.2.2.2.2.2.2.2.2 215 28)))), some (.int v38), some (.int s.2.2.2.2.1), some (.int s.2.2.2.2.2.1), some (.int (s.2.2.2.2.2.2.1 + v19)), some (.int p8.1), some (.int s.2.2.2.2.2.2.2.2.1), some (.int (gI s.2.2.2.2.2.2.2.2.2 215 28)), some (.int v10), some (.int p12), some (.int v34)], [.int p12, .ref 226, .int s.2.2.2.2.1], zhp p8.2)) rfl ?_
                        refine zRia rfl rfl (by decide) hj32 ?_
                        refine zEv_c (fun _ => rfl) rfl ev_zf_greater rfl rfl ?_
                        refine zEv_k 1 (f' := (283, [some (.ref 215), y1, y2, some (.int x3), some (.int v14), some (.int v17), some (.int (zf_greater s.2.2.1 ((gI p8.2 215 28) - (gI s.2.2.2.2.2.2.2.2.2 215 28)))), some (.int v38), some (.int (zf_greater s.2.2.2.2.1 (gI p8.2 226 j32))), some (.int s.2.2.2.2.2.1), some (.int (s.2.2.2.2.2.2.1 + v19)), some (.int p8.1), some (.int s.2.2.2.2.2.2.2.2.1), some (.int (gI s.2.2.2.2.2.2.2.2.2 215 28)), some (.int v10), some (.int p12), some (.int v34)], [], zhp p8.2)) rfl ?_
                        cases hv21
                        exact kv21 _
                      clear hv21
                      refine zEv_k 3 (f' := (if v34 = 0 then 265 else 260, [some (.ref 215), y1, y2, some (.int x3), some (.int v14), some (.int v17), some (.int (zf_greater s.2.2.1 ((gI p8.2 215 28) - (gI s.2.2.2.2.2.2.2.2.2 215 28)))), some (.int s.2.2.2.1), some (.int s.2.2.2.2.1), some (.int s.2.2.2.2.2.1), some (.int (s.2.2.2.2.2.2.1 + v19)), some (.int p8.1), some (.int s.2.2.2.2.2.2.2.2.1), some (.int (gI s.2.2.2.2.2.2.2.2.2 215 28)), some (.int v10), some (.int p12), some (.int v34)], [], zhp p8.2)) rfl (zEv_if (fun c37 => ?_) (fun c37 => ?_))
                      · replace hv38 := zif_t c37 hv38
                        refine zEv_k 1 (f' := (267, [some (.ref 215), y1, y2, some (.int x3), some (.int v14), some (.int v17), some (.int (zf_greater s.2.2.1 ((gI p8.2 215 28) - (gI s.2.2.2.2.2.2.2.2.2 215 28)))), some (.int s.2.2.2.1), some (.int s.2.2.2.2.1), some (.int s.2.2.2.2.2.1), some (.int (s.2.2.2.2.2.2.1 + v19)), some (.int p8.1), some (.int s.2.2.2.2.2.2.2.2.1), some (.int (gI s.2.2.2.2.2.2.2.2.2 215 28)), some (.int v10), some (.int p12), some (.int v34)], [.int s.2.2.2.1], zhp p8.2)) rfl ?_
                        cases hv38
                        exact kv38
                      · replace hv38 := zif_f c37 hv38
                        refine zEv_k 2 (f' := (267, [some (.ref 215), y1, y2, some (.int x3), some (.int v14), some (.int v17), some (.int (zf_greater s.2.2.1 ((gI p8.2 215 28) - (gI s.2.2.2.2.2.2.2.2.2 215 28)))), some (.int s.2.2.2.1), some (.int s.2.2.2.2.1), some (.int s.2.2.2.2.2.1), some (.int (s.2.2.2.2.2.2.1 + v19)), some (.int p8.1), some (.int s.2.2.2.2.2.2.2.2.1), some (.int (gI s.2.2.2.2.2.2.2.2.2 215 28)), some (.int v10), some (.int p12), some (.int v34)], [.int p12], zhp p8.2)) rfl ?_
                        cases hv38
                        exact kv38
                    clear hv21
                    refine zEv_k 2 (f' := (if s.2.2.2.2.1 < (gI p8.2 226 j32) then 248 else 229, [some (.ref 215), y1, y2, some (.int x3), some (.int v14), some (.int v17), some (.int (zf_greater s.2.2.1 ((gI p8.2 215 28) - (gI s.2.2.2.2.2.2.2.2.2 215 28)))), some (.int s.2.2.2.1), some (.int s.2.2.2.2.1), some (.int s.2.2.2.2.2.1), some (.int (s.2.2.2.2.2.2.1 + v19)), some (.int p8.1), some (.int s.2.2.2.2.2.2.2.2.1), some (.int (gI s.2.2.2.2.2.2.2.2.2 215 28)), some (.int v10), some (.int p12), y16], [], zhp p8.2)) rfl (zEv_if (fun c33 => ?_) (fun c33 => ?_))
                    · replace hv34 := zif_t c33 hv34
                      refine zEv_k 2 (f' := (253, [some (.ref 215), y1, y2, some (.int x3), some (.int v14), some (.int v17), some (.int (zf_greater s.2.2.1 ((gI p8.2 215 28) - (gI s.2.2.2.2.2.2.2.2.2 215 28)))), some (.int s.2.2.2.1), some (.int s.2.2.2.2.1), some (.int s.2.2.2.2.2.1), some (.int (s.2.2.2.2.2.2.1 + v19)), some (.int p8.1), some (.int s.2.2.2.2.2.2.2.2.1), some (.int (gI s.2.2.2.2.2.2.2.2.2 215 28)), some (.int v10), some (.int p12), y16], [.int 1], zhp p8.2)) rfl ?_
                      cases hv34
                      exact kv34
                    · replace hv34 := zif_f c33 hv34
                      refine zEv_k 1 (f' := (230, [some (.ref 215), y1, y2, some (.int x3), some (.int v14), some (.int v17), some (.int (zf_greater s.2.2.1 ((gI p8.2 215 28) - (gI s.2.2.2.2.2.2.2.2.2 215 28)))), some (.int s.2.2.2.1), some (.int s.2.2.2.2.1), some (.int s.2.2.2.2.2.1), some (.int (s.2.2.2.2.2.2.1 + v19)), some (.int p8.1), some (.int s.2.2.2.2.2.2.2.2.1), some (.int (gI s.2.2.2.2.2.2.2.2.2 215 28)), some (.int v10), some (.int p12), y16], [.ref 215], zhp p8.2)) rfl ?_
                      refine zRgr rfl rfl rfl (by decide) (b := 226) rfl ?_
                      refine zEv_k 1 (f' := (235, [some (.ref 215), y1, y2, some (.int x3), some (.int v14), some (.int v17), some (.int (zf_greater s.2.2.1 ((gI p8.2 215 28) - (gI s.2.2.2.2.2.2.2.2.2 215 28)))), some (.int s.2.2.2.1), some (.int s.2.2.2.2.1), some (.int s.2.2.2.2.2.1), some (.int (s.2.2.2.2.2.2.1 + v19)), some (.int p8.1), some (.int s.2.2.2.2.2.2.2.2.1), some (.int (gI s.2.2.2.2.2.2.2.2.2 215 28)), some (.int v10), some (.int p12), y16], [.int p12, .ref 226], zhp p8.2)) rfl ?_
                      refine zRia rfl rfl (by decide) hj32 ?_
                      refine zEv_k 2 (f' := (if ¬ (gI p8.2 226 j32) = s.2.2.2.2.1 then 252 else 241, [some (.ref 215), y1, y2, some (.int x3), some (.int v14), some (.int v17), some (.int (zf_greater s.2.2.1 ((gI p8.2 215 28) - (gI s.2.2.2.2.2.2.2.2.2 215 28)))), some (.int s.2.2.2.1), some (.int s.2.2.2.2.1), some (.int s.2.2.2.2.2.1), some (.int (s.2.2.2.2.2.2.1 + v19)), some (.int p8.1), some (.int s.2.2.2.2.2.2.2.2.1), some (.int (gI s.2.2.2.2.2.2.2.2.2 215 28)), some (.int v10), some (.int p12), y16], [], zhp p8.2)) rfl (zEv_if (fun c35 => ?_) (fun c35 => ?_))
                      · replace hv34 := zif_t c35 hv34
                        refine zEv_k 1 (f' := (253, [some (.ref 215), y1, y2, some (.int x3), some (.int v14), some (.int v17), some (.int (zf_greater s.2.2.1 ((gI p8.2 215 28) - (gI s.2.2.2.2.2.2.2.2.2 215 28)))), some (.int s.2.2.2.1), some (.int s.2.2.2.2.1), some (.int s.2.2.2.2.2.1), some (.int (s.2.2.2.2.2.2.1 + v19)), some (.int p8.1), some (.int s.2.2.2.2.2.2.2.2.1), some (.int (gI s.2.2.2.2.2.2.2.2.2 215 28)), some (.int v10), some (.int p12), y16], [.int 0], zhp p8.2)) rfl ?_
                        cases hv34
                        exact kv34
                      · replace hv34 := zif_f c35 hv34
                        refine zEv_k 3 (f' := (if s.2.2.2.1 ≤ p12 then 252 else 248, [some (.ref 215), y1, y2, some (.int x3), some (.int v14), some (.int v17), some (.int (zf_greater s.2.2.1 ((gI p8.2 215 28) - (gI s.2.2.2.2.2.2.2.2.2 215 28)))), some (.int s.2.2.2.1), some (.int s.2.2.2.2.1), some (.int s.2.2.2.2.2.1), some (.int (s.2.2.2.2.2.2.1 + v19)), some (.int p8.1), some (.int s.2.2.2.2.2.2.2.2.1), some (.int (gI s.2.2.2.2.2.2.2.2.2 215 28)), some (.int v10), some (.int p12), y16], [], zhp p8.2)) rfl (zEv_if (fun c36 => ?_) (fun c36 => ?_))
                        · replace hv34 := zif_t c36 hv34
                          refine zEv_k 1 (f' := (253, [some (.ref 215), y1, y2, some (.int x3), some (.int v14), some (.int v17), some (.int (zf_greater s.2.2.1 ((gI p8.2 215 28) - (gI s.2.2.2.2.2.2.2.2.2 215 28)))), some (.int s.2.2.2.1), some (.int s.2.2.2.2.1), some (.int s.2.2.2.2.2.1), some (.int (s.2.2.2.2.2.2.1 + v19)), some (.int p8.1), some (.int s.2.2.2.2.2.2.2.2.1), some (.int (gI s.2.2.2.2.2.2.2.2.2 215 28)), some (.int v10), some (.int p12), y16], [.int 0], zhp p8.2)) rfl ?_
                          cases hv34
                          exact kv34
                        · replace hv34 := zif_f c36 hv34
                          refine zEv_k 2 (f' := (253, [some (.ref 215), y1, y2, some (.int x3), some (.int v14), some (.int v17), some (.int (zf_greater s.2.2.1 ((gI p8.2 215 28) - (gI s.2.2.2.2.2.2.2.2.2 215 28)))), some (.int s.2.2.2.1), some (.int s.2.2.2.2.1), some (.int s.2.2.2.2.2.1), some (.int (s.2.2.2.2.2.2.1 + v19)), some (.int p8.1), some (.int s.2.2.2.2.2.2.2.2.1), some (.int (gI s.2.2.2.2.2.2.2.2.2 215 28)), some (.int v10), some (.int p12), y16], [.int 1], zhp p8.2)) rfl ?_
                          cases hv34
                          exact kv34
                · replace hv21 := zif_f c30 hv21
                  refine zEv_k 2 (f' := (283, [some (.ref 215), y1, y2, some (.int x3), some (.int v14), some (.int v17), some (.int (zf_greater s.2.2.1 ((gI p8.2 215 28) - (gI s.2.2.2.2.2.2.2.2.2 215 28)))), some (.int s.2.2.2.1), some (.int s.2.2.2.2.1), some (.int (s.2.2.2.2.2.1 + 1)), some (.int (s.2.2.2.2.2.2.1 + v19)), some (.int p8.1), some (.int s.2.2.2.2.2.2.2.2.1), some (.int (gI s.2.2.2.2.2.2.2.2.2 215 28)), some (.int v10), some (.int p12), y16], [], zhp p8.2)) rfl ?_
                  cases hv21
                  exact kv21 _
            clear H
            refine zEv_k 6 (f' := (166, [some (.ref 215), y1, y2, some (.int x3), some (.int v14), some (.int v17), some (.int s.2.2.1), some (.int s.2.2.2.1), some (.int s.2.2.2.2.1), some (.int s.2.2.2.2.2.1), some (.int s.2.2.2.2.2.2.1), some (.int p8.1), some (.int s.2.2.2.2.2.2.2.2.1), some (.int (gI s.2.2.2.2.2.2.2.2.2 215 28)), some (.int v10), some (.int p12), y16], [.int ((gI p8.2 215 28) - (gI s.2.2.2.2.2.2.2.2.2 215 28)), .int s.2.2.1], zhp p8.2)) rfl ?_
            refine zEv_c (fun _ => rfl) rfl ev_zf_greater rfl rfl ?_
            refine zEv_k 5 (f' := (if ¬ v10 = 4 then 183 else 179, [some (.ref 215), y1, y2, some (.int x3), some (.int v14), some (.int v17), some (.int (zf_greater s.2.2.1 ((gI p8.2 215 28) - (gI s.2.2.2.2.2.2.2.2.2 215 28)))), some (.int s.2.2.2.1), some (.int s.2.2.2.2.1), some (.int s.2.2.2.2.2.1), some (.int s.2.2.2.2.2.2.1), some (.int p8.1), some (.int s.2.2.2.2.2.2.2.2.1), some (.int (gI s.2.2.2.2.2.2.2.2.2 215 28)), some (.int v10), some (.int p12), y16], [.int s.2.2.2.2.2.2.1], zhp p8.2)) rfl (zEv_if (fun c18 => ?_) (fun c18 => ?_))
            · replace hv19 := zif_t c18 hv19
              refine zEv_k 1 (f' := (184, [some (.ref 215), y1, y2, some (.int x3), some (.int v14), some (.int v17), some (.int (zf_greater s.2.2.1 ((gI p8.2 215 28) - (gI s.2.2.2.2.2.2.2.2.2 215 28)))), some (.int s.2.2.2.1), some (.int s.2.2.2.2.1), some (.int s.2.2.2.2.2.1), some (.int s.2.2.2.2.2.2.1), some (.int p8.1), some (.int s.2.2.2.2.2.2.2.2.1), some (.int (gI s.2.2.2.2.2.2.2.2.2 215 28)), some (.int v10), some (.int p12), y16], [.int 0, .int s.2.2.2.2.2.2.1], zhp p8.2)) rfl ?_
              cases hv19
              exact kv19
            · replace hv19 := zif_f c18 hv19
              refine zEv_k 2 (f' := (184, [some (.ref 215), y1, y2, some (.int x3), some (.int v14), some (.int v17), some (.int (zf_greater s.2.2.1 ((gI p8.2 215 28) - (gI s.2.2.2.2.2.2.2.2.2 215 28)))), some (.int s.2.2.2.1), some (.int s.2.2.2.2.1), some (.int s.2.2.2.2.2.1), some (.int s.2.2.2.2.2.2.1), some (.int p8.1), some (.int s.2.2.2.2.2.2.2.2.1), some (.int (gI s.2.2.2.2.2.2.2.2.2 215 28)), some (.int v10), some (.int p12), y16], [.int 1, .int s.2.2.2.2.2.2.1], zhp p8.2)) rfl ?_
              cases hv19
              exact kv19
          clear H
          refine zEv_k 7 (f' := (if ((gI p8.2 215 28) - (gI s.2.2.2.2.2.2.2.2.2 215 28)) ≤ s.2.2.1 then 153 else 146, [some (.ref 215), y1, y2, some (.int x3), some (.int v14), some (.int s.2.1), some (.int s.2.2.1), some (.int s.2.2.2.1), some (.int s.2.2.2.2.1), some (.int s.2.2.2.2.2.1), some (.int s.2.2.2.2.2.2.1), some (.int p8.1), some (.int s.2.2.2.2.2.2.2.2.1), some (.int (gI s.2.2.2.2.2.2.2.2.2 215 28)), some (.int v10), some (.int p12), y16], [], zhp p8.2)) rfl (zEv_if (fun c16 => ?_) (fun c16 => ?_))
          · replace hv17 := zif_t c16 hv17
            refine zEv_k 1 (f' := (155, [some (.ref 215), y1, y2, some (.int x3), some (.int v14), some (.int s.2.1), some (.int s.2.2.1), some (.int s.2.2.2.1), some (.int s.2.2.2.2.1), some (.int s.2.2.2.2.2.1), some (.int s.2.2.2.2.2.2.1), some (.int p8.1), some (.int s.2.2.2.2.2.2.2.2.1), some (.int (gI s.2.2.2.2.2.2.2.2.2 215 28)), some (.int v10), some (.int p12), y16], [.int s.2.1], zhp p8.2)) rfl ?_
            cases hv17
            exact kv17
          · replace hv17 := zif_f c16 hv17
            refine zEv_k 3 (f' := (155, [some (.ref 215), y1, y2, some (.int x3), some (.int v14), some (.int s.2.1), some (.int s.2.2.1), some (.int s.2.2.2.1), some (.int s.2.2.2.2.1), some (.int s.2.2.2.2.2.1), some (.int s.2.2.2.2.2.2.1), some (.int p8.1), some (.int s.2.2.2.2.2.2.2.2.1), some (.int (gI s.2.2.2.2.2.2.2.2.2 215 28)), some (.int v10), some (.int p12), y16], [.int (gI p8.2 215 26)], zhp p8.2)) rfl ?_
            cases hv17
            exact kv17
        clear H
        refine zEv_k 4 (f' := (if ¬ s.1 = (-1) then 130 else 114, [some (.ref 215), y1, y2, some (.int x3), some (.int s.1), some (.int s.2.1), some (.int s.2.2.1), some (.int s.2.2.2.1), some (.int s.2.2.2.2.1), some (.int s.2.2.2.2.2.1), some (.int s.2.2.2.2.2.2.1), some (.int p8.1), some (.int s.2.2.2.2.2.2.2.2.1), some (.int (gI s.2.2.2.2.2.2.2.2.2 215 28)), some (.int v10), some (.int p12), y16], [], zhp p8.2)) rfl (zEv_if (fun c13 => ?_) (fun c13 => ?_))
        · replace hv14 := zif_t c13 hv14
          refine zEv_k 1 (f' := (132, [some (.ref 215), y1, y2, some (.int x3), some (.int s.1), some (.int s.2.1), some (.int s.2.2.1), some (.int s.2.2.2.1), some (.int s.2.2.2.2.1), some (.int s.2.2.2.2.2.1), some (.int s.2.2.2.2.2.2.1), some (.int p8.1), some (.int s.2.2.2.2.2.2.2.2.1), some (.int (gI s.2.2.2.2.2.2.2.2.2 215 28)), some (.int v10), some (.int p12), y16], [.int s.1], zhp p8.2)) rfl ?_
          cases hv14
          exact kv14
        · replace hv14 := zif_f c13 hv14
          refine zEv_k 4 (f' := (if (gI p8.2 215 28) ≤ (gI s.2.2.2.2.2.2.2.2.2 215 28) then 130 else 123, [some (.ref 215), y1, y2, some (.int x3), some (.int s.1), some (.int s.2.1), some (.int s.2.2.1), some (.int s.2.2.2.1), some (.int s.2.2.2.2.1), some (.int s.2.2.2.2.2.1), some (.int s.2.2.2.2.2.2.1), some (.int p8.1), some (.int s.2.2.2.2.2.2.2.2.1), some (.int (gI s.2.2.2.2.2.2.2.2.2 215 28)), some (.int v10), some (.int p12), y16], [], zhp p8.2)) rfl (zEv_if (fun c15 => ?_) (fun c15 => ?_))
          · replace hv14 := zif_t c15 hv14
            refine zEv_k 1 (f' := (132, [some (.ref 215), y1, y2, some (.int x3), some (.int s.1), some (.int s.2.1), some (.int s.2.2.1), some (.int s.2.2.2.1), some (.int s.2.2.2.2.1), some (.int s.2.2.2.2.2.1), some (.int s.2.2.2.2.2.2.1), some (.int p8.1), some (.int s.2.2.2.2.2.2.2.2.1), some (.int (gI s.2.2.2.2.2.2.2.2.2 215 28)), some (.int v10), some (.int p12), y16], [.int s.1], zhp p8.2)) rfl ?_
            cases hv14
            exact kv14
          · replace hv14 := zif_f c15 hv14
            refine zEv_k 3 (f' := (132, [some (.ref 215), y1, y2, some (.int x3), some (.int s.1), some (.int s.2.1), some (.int s.2.2.1), some (.int s.2.2.2.1), some (.int s.2.2.2.2.1), some (.int s.2.2.2.2.2.1), some (.int s.2.2.2.2.2.2.1), some (.int p8.1), some (.int s.2.2.2.2.2.2.2.2.1), some (.int (gI s.2.2.2.2.2.2.2.2.2 215 28)), some (.int v10), some (.int p12), y16], [.int (gI p8.2 215 26)], zhp p8.2)) rfl ?_
            cases hv14
            exact kv14
      clear H
      refine zEv_k 3 (f' := (if p8.1 = 0 then 96 else 86, [some (.ref 215), y1, y2, some (.int x3), some (.int s.1), some (.int s.2.1), some (.int s.2.2.1), some (.int s.2.2.2.1), some (.int s.2.2.2.2.1), some (.int s.2.2.2.2.2.1), some (.int s.2.2.2.2.2.2.1), some (.int p8.1), some (.int s.2.2.2.2.2.2.2.2.1), some (.int (gI s.2.2.2.2.2.2.2.2.2 215 28)), y14, y15, y16], [], zhp p8.2)) rfl (zEv_if (fun c9 => ?_) (fun c9 => ?_))
      · replace hv10 := zif_t c9 hv10
        refine zEv_k 1 (f' := (97, [some (.ref 215), y1, y2, some (.int x3), some (.int s.1), some (.int s.2.1), some (.int s.2.2.1), some (.int s.2.2.2.1), some (.int s.2.2.2.2.1), some (.int s.2.2.2.2.2.1), some (.int s.2.2.2.2.2.2.1), some (.int p8.1), some (.int s.2.2.2.2.2.2.2.2.1), some (.int (gI s.2.2.2.2.2.2.2.2.2 215 28)), y14, y15, y16], [.int (-1)], zhp p8.2)) rfl ?_
        cases hv10
        exact kv10
      · replace hv10 := zif_f c9 hv10
        refine zEv_k 3 (f' := (90, [some (.ref 215), y1, y2, some (.int x3), some (.int s.1), some (.int s.2.1), some (.int s.2.2.1), some (.int s.2.2.2.1), some (.int s.2.2.2.2.1), some (.int s.2.2.2.2.2.1), some (.int s.2.2.2.2.2.2.1), some (.int p8.1), some (.int s.2.2.2.2.2.2.2.2.1), some (.int (gI s.2.2.2.2.2.2.2.2.2 215 28)), y14, y15, y16], [.int 0, .int s.2.2.2.2.2.2.2.2.1, .ref 215], zhp p8.2)) rfl ?_
        obtain ⟨p11, hp11, hv10⟩ := zbs hv10
        refine zEv_c (fun _ => rfl) rfl (t_qM_deedOf (x1 := s.2.2.2.2.2.2.2.2.1) (x2 := 0) (h := p8.2) (d := d + 5) hp11) rfl rfl ?_
        refine zEv_k 1 (f' := (97, [some (.ref 215), y1, y2, some (.int x3), some (.int s.1), some (.int s.2.1), some (.int s.2.2.1), some (.int s.2.2.2.1), some (.int s.2.2.2.2.1), some (.int s.2.2.2.2.2.1), some (.int s.2.2.2.2.2.2.1), some (.int p8.1), some (.int s.2.2.2.2.2.2.2.2.1), some (.int (gI s.2.2.2.2.2.2.2.2.2 215 28)), y14, y15, y16], [.int p11], zhp p8.2)) rfl ?_
        cases hv10
        exact kv10
theorem t_qM_after_b53 {Ls : Nat} {xs : Nat → Int32} {d : Nat} {x3 : Int32} {r : zA} {t : Int32 × Int32 × Int32 × Int32 × Int32 × zK} (K : ∀ (z1 : Option Value) (z2 : Option Value) (z6 : Option Value) (z8 : Option Value) (z11 : Option Value) (z12 : Option Value) (z13 : Option Value) (z14 : Option Value) (z15 : Option Value) (z16 : Option Value), zEv (zXs Ls xs) (d + 6) zm_264 (289, [some (.ref 215), z1, z2, some (.int x3), some (.int t.1), some (.int t.2.1), z6, some (.int t.2.2.1), z8, some (.int t.2.2.2.1), some (.int t.2.2.2.2.1), z11, z12, z13, z14, z15, z16], [], zhp t.2.2.2.2.2) r) (n : Nat) (s : Int32 × Int32 × Int32 × Int32 × Int32 × Int32 × Int32 × Int32 × Int32 × zK) (H : zloop (qM_after_b53 x3) n s = some t) (y1 : Option Value) (y2 : Option Value) (y13 : Option Value) (y14 : Option Value) (y15 : Option Value) (y16 : Option Value) : zEv (zXs Ls xs) (d + 6) zm_264 (53, [some (.ref 215), y1, y2, some (.int x3), some (.int s.1), some (.int s.2.1), some (.int s.2.2.1), some (.int s.2.2.2.1), some (.int s.2.2.2.2.1), some (.int s.2.2.2.2.2.1), some (.int s.2.2.2.2.2.2.1), some (.int s.2.2.2.2.2.2.2.1), some (.int s.2.2.2.2.2.2.2.2.1), y13, y14, y15, y16], [], zhp s.2.2.2.2.2.2.2.2.2) r := by
  have Z := zloop_P (P := fun s => ∀ (y1 : Option Value) (y2 : Option Value) (y13 : Option Value) (y14 : Option Value) (y15 : Option Value) (y16 : Option Value), zEv (zXs Ls xs) (d + 6) zm_264 (53, [some (.ref 215), y1, y2, some (.int x3), some (.int s.1), some (.int s.2.1), some (.int s.2.2.1), some (.int s.2.2.2.1), some (.int s.2.2.2.2.1), some (.int s.2.2.2.2.2.1), some (.int s.2.2.2.2.2.2.1), some (.int s.2.2.2.2.2.2.2.1), some (.int s.2.2.2.2.2.2.2.2.1), y13, y14, y15, y16], [], zhp s.2.2.2.2.2.2.2.2.2) r) (b := qM_after_b53 x3) (t := t) (fun s s2 hb hk => by intro y1 y2 y13 y14 y15 y16; exact t_qM_after_b53b hb hk y1 y2 y13 y14 y15 y16) (fun s hb => by intro y1 y2 y13 y14 y15 y16; exact t_qM_after_b53b hb K y1 y2 y13 y14 y15 y16) n s H
  exact Z y1 y2 y13 y14 y15 y16
def qM_after (x1 : Int32) (x2 : Int32) (x3 : Int32) (h : zK) : Option (Int32 × zK) :=
  zlet (sI h 215 0 0) fun h1 =>
  (qM_layAll x1 x2 h1).bind fun p2 =>
  if p2.1 = 0 then
    some (-2, p2.2)
  else
    if ¬ (zf_in x3 0 5) = 0 then
      (zloop (qM_after_b53 x3) zfu (-1, -1, 0, -1, -1, 0, 0, 1, 0, p2.2)).bind fun t39 =>
      if x3 = 0 then
        some (t39.1, t39.2.2.2.2.2)
      else if x3 = 1 then
        some (t39.2.1, t39.2.2.2.2.2)
      else if x3 = 2 then
        some (t39.2.2.1, t39.2.2.2.2.2)
      else if x3 = 3 then
        some (gI t39.2.2.2.2.2 215 32, t39.2.2.2.2.2)
      else if x3 = 4 then
        some (t39.2.2.2.1, t39.2.2.2.2.2)
      else
        some (t39.2.2.2.2.1, t39.2.2.2.2.2)
    else
      some (-2, p2.2)
theorem t_qM_after {Ls : Nat} {xs : Nat → Int32} {d : Nat} {x1 : Int32} {x2 : Int32} {x3 : Int32} {h : zK} {p : Int32 × zK} (H : qM_after x1 x2 x3 h = some p) : zEv (zXs Ls xs) (d + 6) zm_264 (0, [some (.ref 215), some (.int x1), some (.int x2), some (.int x3), none, none, none, none, none, none, none, none, none, none, none, none, none], [], zhp h) (some (.int p.1), zhp p.2) := by
  unfold qM_after at H
  obtain ⟨h1, eh1, H⟩ := zlets H
  refine zEv_w (F := fun z => (5, [some (.ref 215), some (.int x1), some (.int x2), some (.int x3), none, none, none, none, none, none, none, none, none, none, none, none, none], [], zhp z)) (h0 := sI h 215 0 0) 3 rfl eh1 ?_
  refine zEv_k 3 (f' := (8, [some (.ref 215), some (.int x1), some (.int x2), some (.int x3), none, none, none, none, none, none, none, none, none, none, none, none, none], [.int x2, .int x1, .ref 215], zhp h1)) rfl ?_
  obtain ⟨p2, hp2, H⟩ := zbs H
  refine zEv_c (fun _ => rfl) rfl (t_qM_layAll (x1 := x1) (x2 := x2) (h := h1) (d := d + 2) hp2) rfl rfl ?_
  refine zEv_k 1 (f' := (if p2.1 = 0 then 23 else 14, [some (.ref 215), some (.int x1), some (.int x2), some (.int x3), none, none, none, none, none, none, none, none, none, none, none, none, none], [], zhp p2.2)) rfl (zEv_if (fun c3 => ?_) (fun c3 => ?_))
  · replace H := zif_t c3 H
    refine zEv_k 1 (f' := (25, [some (.ref 215), some (.int x1), some (.int x2), some (.int x3), none, none, none, none, none, none, none, none, none, none, none, none, none], [.int (-2)], zhp p2.2)) rfl ?_
    cases H
    exact zEv_r rfl
  · replace H := zif_f c3 H
    refine zEv_k 3 (f' := (17, [some (.ref 215), some (.int x1), some (.int x2), some (.int x3), none, none, none, none, none, none, none, none, none, none, none, none, none], [.int 5, .int 0, .int x3], zhp p2.2)) rfl ?_
    refine zEv_c (fun _ => rfl) rfl ev_zf_in rfl rfl ?_
    refine zEv_k 1 (f' := (if ¬ (zf_in x3 0 5) = 0 then 26 else 23, [some (.ref 215), some (.int x1), some (.int x2), some (.int x3), none, none, none, none, none, none, none, none, none, none, none, none, none], [], zhp p2.2)) rfl (zEv_if (fun c4 => ?_) (fun c4 => ?_))
    · replace H := zif_t c4 H
      refine zEv_k 9 (f' := (39, [some (.ref 215), some (.int x1), some (.int x2), some (.int x3), some (.int (-1)), some (.int (-1)), some (.int 0), some (.int (-1)), none, none, none, none, none, none, none, none, none], [.int (-1)], zhp p2.2)) rfl ?_
      refine zEv_k 9 (f' := (53, [some (.ref 215), some (.int x1), some (.int x2), some (.int x3), some (.int (-1)), some (.int (-1)), some (.int 0), some (.int (-1)), some (.int (-1)), some (.int 0), some (.int 0), some (.int 1), some (.int 0), none, none, none, none], [], zhp p2.2)) rfl ?_
      obtain ⟨t39, ht39, H⟩ := zbs H
      refine t_qM_after_b53 (x3 := x3) ?_ zfu _ ht39 _ _ _ _ _ _
      intro y1 y2 y6 y8 y11 y12 y13 y14 y15 y16
      refine zEv_k 1 (f' := (290, [some (.ref 215), y1, y2, some (.int x3), some (.int t39.1), some (.int t39.2.1), y6, some (.int t39.2.2.1), y8, some (.int t39.2.2.2.1), some (.int t39.2.2.2.2.1), y11, y12, y13, y14, y15, y16], [.int x3], zhp t39.2.2.2.2.2)) rfl ?_
      refine zEv_ts rfl (by decide) (by decide) (by decide) (fun hh => ?_) (fun j hj hh => ?_)
      · replace H := zif_f (fun e => (by rw [e] at hh; exact absurd hh (by decide))) H
        replace H := zif_f (fun e => (by rw [e] at hh; exact absurd hh (by decide))) H
        replace H := zif_f (fun e => (by rw [e] at hh; exact absurd hh (by decide))) H
        replace H := zif_f (fun e => (by rw [e] at hh; exact absurd hh (by decide))) H
        replace H := zif_f (fun e => (by rw [e] at hh; exact absurd hh (by decide))) H
        refine zEv_k 1 (f' := (343, [some (.ref 215), y1, y2, some (.int x3), some (.int t39.1), some (.int t39.2.1), y6, some (.int t39.2.2.1), y8, some (.int t39.2.2.2.1), some (.int t39.2.2.2.2.1), y11, y12, y13, y14, y15, y16], [.int t39.2.2.2.2.1], zhp t39.2.2.2.2.2)) rfl ?_
        cases H
        exact zEv_r rfl
      · rcases (by have hj2 : j < 5 := hj; omega : j = 0 ∨ j = 1 ∨ j = 2 ∨ j = 3 ∨ j = 4) with rfl | rfl | rfl | rfl | rfl
        · have ex : x3 = 0 := zeqI hh (by decide)
          replace H := zif_t ex H
          refine zEv_k 1 (f' := (326, [some (.ref 215), y1, y2, some (.int x3), some (.int t39.1), some (.int t39.2.1), y6, some (.int t39.2.2.1), y8, some (.int t39.2.2.2.1), some (.int t39.2.2.2.2.1), y11, y12, y13, y14, y15, y16], [.int t39.1], zhp t39.2.2.2.2.2)) rfl ?_
          cases H
          exact zEv_r rfl
        · have ex : x3 = 1 := zeqI hh (by decide)
          replace H := zif_f (fun e => by rw [ex] at e; exact absurd e (by decide)) H
          replace H := zif_t ex H
          refine zEv_k 1 (f' := (329, [some (.ref 215), y1, y2, some (.int x3), some (.int t39.1), some (.int t39.2.1), y6, some (.int t39.2.2.1), y8, some (.int t39.2.2.2.1), some (.int t39.2.2.2.2.1), y11, y12, y13, y14, y15, y16], [.int t39.2.1], zhp t39.2.2.2.2.2)) rfl ?_
          cases H
          exact zEv_r rfl
        · have ex : x3 = 2 := zeqI hh (by decide)
          replace H := zif_f (fun e => by rw [ex] at e; exact absurd e (by decide)) H
          replace H := zif_f (fun e => by rw [ex] at e; exact absurd e (by decide)) H
          replace H := zif_t ex H
          refine zEv_k 1 (f' := (332, [some (.ref 215), y1, y2, some (.int x3), some (.int t39.1), some (.int t39.2.1), y6, some (.int t39.2.2.1), y8, some (.int t39.2.2.2.1), some (.int t39.2.2.2.2.1), y11, y12, y13, y14, y15, y16], [.int t39.2.2.1], zhp t39.2.2.2.2.2)) rfl ?_
          cases H
          exact zEv_r rfl
        · have ex : x3 = 3 := zeqI hh (by decide)
          replace H := zif_f (fun e => by rw [ex] at e; exact absurd e (by decide)) H
          replace H := zif_f (fun e => by rw [ex] at e; exact absurd e (by decide)) H
          replace H := zif_f (fun e => by rw [ex] at e; exact absurd e (by decide)) H
          replace H := zif_t ex H
          refine zEv_k 2 (f' := (337, [some (.ref 215), y1, y2, some (.int x3), some (.int t39.1), some (.int t39.2.1), y6, some (.int t39.2.2.1), y8, some (.int t39.2.2.2.1), some (.int t39.2.2.2.2.1), y11, y12, y13, y14, y15, y16], [.int (gI t39.2.2.2.2.2 215 32)], zhp t39.2.2.2.2.2)) rfl ?_
          cases H
          exact zEv_r rfl
        · have ex : x3 = 4 := zeqI hh (by decide)
          replace H := zif_f (fun e => by rw [ex] at e; exact absurd e (by decide)) H
          replace H := zif_f (fun e => by rw [ex] at e; exact absurd e (by decide)) H
          replace H := zif_f (fun e => by rw [ex] at e; exact absurd e (by decide)) H
          replace H := zif_f (fun e => by rw [ex] at e; exact absurd e (by decide)) H
          replace H := zif_t ex H
          refine zEv_k 1 (f' := (340, [some (.ref 215), y1, y2, some (.int x3), some (.int t39.1), some (.int t39.2.1), y6, some (.int t39.2.2.1), y8, some (.int t39.2.2.2.1), some (.int t39.2.2.2.2.1), y11, y12, y13, y14, y15, y16], [.int t39.2.2.2.1], zhp t39.2.2.2.2.2)) rfl ?_
          cases H
          exact zEv_r rfl
    · replace H := zif_f c4 H
      refine zEv_k 1 (f' := (25, [some (.ref 215), some (.int x1), some (.int x2), some (.int x3), none, none, none, none, none, none, none, none, none, none, none, none, none], [.int (-2)], zhp p2.2)) rfl ?_
      cases H
      exact zEv_r rfl
def qM_common_b4 (s : Int32 × Int32) : Option ((Int32 × Int32) ⊕ (Int32)) :=
  if s.2 = 0 then
    some (.inr s.1)
  else
    if ¬ s.2 = 0 then
      some (.inl (s.2, s.1 - s.1 / s.2 * s.2))
    else none
theorem t_qM_common_b4b {Ls : Nat} {xs : Nat → Int32} {d : Nat} {h : zK} {r : zA} {s : Int32 × Int32} {e : (Int32 × Int32) ⊕ (Int32)} (H : qM_common_b4 s = some e) (K : match (generalizing := false) e with | .inl s' => ∀ (z0 : Option Value) (z1 : Option Value) (z4 : Option Value), zEv (zXs Ls xs) d zm_265 (4, [z0, z1, some (.int s'.1), some (.int s'.2), z4], [], zhp h) r | .inr v => ∀ (z0 : Option Value) (z1 : Option Value) (z3 : Option Value) (z4 : Option Value), zEv (zXs Ls xs) d zm_265 (21, [z0, z1, some (.int v), z3, z4], [], zhp h) r) (y0 : Option Value) (y1 : Option Value) (y4 : Option Value) : zEv (zXs Ls xs) d zm_265 (4, [y0, y1, some (.int s.1), some (.int s.2), y4], [], zhp h) r := by
  unfold qM_common_b4 at H
  refine zEv_k 2 (f' := (if s.2 = 0 then 21 else 8, [y0, y1, some (.int s.1), some (.int s.2), y4], [], zhp h)) rfl (zEv_if (fun c1 => ?_) (fun c1 => ?_))
  · replace H := zif_t c1 H
    cases H
    exact K _ _ _ _
  · replace H := zif_f c1 H
    refine zEv_k 2 (f' := (10, [y0, y1, some (.int s.1), some (.int s.2), y4], [.int s.2, .int s.1], zhp h)) rfl ?_
    obtain ⟨c2, H⟩ := zifn H
    refine zEv_rem rfl c2 ?_
    refine zEv_k 6 (f' := (4, [y0, zlost y1, some (.int s.2), some (.int (s.1 - s.1 / s.2 * s.2)), some (.int (s.1 - s.1 / s.2 * s.2))], [], zhp h)) rfl ?_
    cases H
    exact K _ _ _
theorem t_qM_common_b4 {Ls : Nat} {xs : Nat → Int32} {d : Nat} {h : zK} {r : zA} {t : Int32} (K : ∀ (z0 : Option Value) (z1 : Option Value) (z3 : Option Value) (z4 : Option Value), zEv (zXs Ls xs) d zm_265 (21, [z0, z1, some (.int t), z3, z4], [], zhp h) r) (n : Nat) (s : Int32 × Int32) (H : zloop (qM_common_b4) n s = some t) (y0 : Option Value) (y1 : Option Value) (y4 : Option Value) : zEv (zXs Ls xs) d zm_265 (4, [y0, y1, some (.int s.1), some (.int s.2), y4], [], zhp h) r := by
  have Z := zloop_P (P := fun s => ∀ (y0 : Option Value) (y1 : Option Value) (y4 : Option Value), zEv (zXs Ls xs) d zm_265 (4, [y0, y1, some (.int s.1), some (.int s.2), y4], [], zhp h) r) (b := qM_common_b4) (t := t) (fun s s2 hb hk => by intro y0 y1 y4; exact t_qM_common_b4b hb hk y0 y1 y4) (fun s hb => by intro y0 y1 y4; exact t_qM_common_b4b hb K y0 y1 y4) n s H
  exact Z y0 y1 y4
def qM_common (x0 : Int32) (x1 : Int32) : Option (Int32) :=
  (zloop (qM_common_b4) zfu (x0, x1)).bind fun t3 =>
  some t3
theorem t_qM_common {Ls : Nat} {xs : Nat → Int32} {d : Nat} {x0 : Int32} {x1 : Int32} {h : zK} {p : Int32} (H : qM_common x0 x1 = some p) : zEv (zXs Ls xs) d zm_265 (0, [some (.int x0), some (.int x1), none, none, none], [], zhp h) (some (.int p), zhp h) := by
  unfold qM_common at H
  refine zEv_k 4 (f' := (4, [some (.int x0), some (.int x1), some (.int x0), some (.int x1), none], [], zhp h)) rfl ?_
  obtain ⟨t3, ht3, H⟩ := zbs H
  refine t_qM_common_b4 (h := h) ?_ zfu _ ht3 _ _ _
  intro y0 y1 y3 y4
  refine zEv_k 1 (f' := (22, [y0, y1, some (.int t3), y3, y4], [.int t3], zhp h)) rfl ?_
  cases H
  exact zEv_r rfl
def qM_odds_b39 (x3 : Int32) (x4 : Int32) (h : zK) (s : Int32 × Int32) : Option ((Int32 × Int32) ⊕ (Int32)) :=
  if (gI h 215 46) ≤ s.2 then
    some (.inr s.1)
  else
    (zix s.2 100).bind fun j7 =>
    zlet (
        if ¬ ((gI h 234 j7) / 10) = x3 then
          0
        else
          1
      ) fun (v9 : Int32) =>
    some (.inl (s.1 + v9, s.2 + 1))
theorem t_qM_odds_b39b {Ls : Nat} {xs : Nat → Int32} {d : Nat} {x3 : Int32} {x4 : Int32} {h : zK} {r : zA} {s : Int32 × Int32} {e : (Int32 × Int32) ⊕ (Int32)} (H : qM_odds_b39 x3 x4 h s = some e) (K : match (generalizing := false) e with | .inl s' => ∀ (z1 : Option Value) (z2 : Option Value), zEv (zXs Ls xs) (d + 6) zm_266 (39, [some (.ref 215), z1, z2, some (.int x3), some (.int x4), some (.int s'.1), some (.int s'.2)], [], zhp h) r | .inr v => ∀ (z1 : Option Value) (z2 : Option Value) (z6 : Option Value), zEv (zXs Ls xs) (d + 6) zm_266 (78, [some (.ref 215), z1, z2, some (.int x3), some (.int x4), some (.int v), z6], [], zhp h) r) (y1 : Option Value) (y2 : Option Value) : zEv (zXs Ls xs) (d + 6) zm_266 (39, [some (.ref 215), y1, y2, some (.int x3), some (.int x4), some (.int s.1), some (.int s.2)], [], zhp h) r := by
  unfold qM_odds_b39 at H
  refine zEv_k 4 (f' := (if (gI h 215 46) ≤ s.2 then 78 else 48, [some (.ref 215), y1, y2, some (.int x3), some (.int x4), some (.int s.1), some (.int s.2)], [], zhp h)) rfl (zEv_if (fun c6 => ?_) (fun c6 => ?_))
  · replace H := zif_t c6 H
    cases H
    exact K _ _ _
  · replace H := zif_f c6 H
    refine zEv_k 2 (f' := (51, [some (.ref 215), y1, y2, some (.int x3), some (.int x4), some (.int s.1), some (.int s.2)], [.ref 215, .int s.1], zhp h)) rfl ?_
    refine zRgr rfl rfl rfl (by decide) (b := 234) rfl ?_
    refine zEv_k 1 (f' := (56, [some (.ref 215), y1, y2, some (.int x3), some (.int x4), some (.int s.1), some (.int s.2)], [.int s.2, .ref 234, .int s.1], zhp h)) rfl ?_
    obtain ⟨j7, hj7, H⟩ := zbs H
    refine zRia rfl rfl (by decide) hj7 ?_
    obtain ⟨v9, hv9, H⟩ := zlets H
    have kv9 : zEv (zXs Ls xs) (d + 6) zm_266 (69, [some (.ref 215), y1, y2, some (.int x3), some (.int x4), some (.int s.1), some (.int s.2)], [.int v9, .int s.1], zhp h) r := by
      refine zEv_k 4 (f' := (39, [some (.ref 215), y1, y2, some (.int x3), some (.int x4), some (.int (s.1 + v9)), some (.int (s.2 + 1))], [], zhp h)) rfl ?_
      cases H
      exact K _ _
    clear H
    refine zEv_k 1 (f' := (59, [some (.ref 215), y1, y2, some (.int x3), some (.int x4), some (.int s.1), some (.int s.2)], [.int 10, .int (gI h 234 j7), .int s.1], zhp h)) rfl ?_
    refine zEv_div rfl (by decide) ?_
    refine zEv_k 2 (f' := (if ¬ ((gI h 234 j7) / 10) = x3 then 68 else 64, [some (.ref 215), y1, y2, some (.int x3), some (.int x4), some (.int s.1), some (.int s.2)], [.int s.1], zhp h)) rfl (zEv_if (fun c8 => ?_) (fun c8 => ?_))
    · replace hv9 := zif_t c8 hv9
      refine zEv_k 1 (f' := (69, [some (.ref 215), y1, y2, some (.int x3), some (.int x4), some (.int s.1), some (.int s.2)], [.int 0, .int s.1], zhp h)) rfl ?_
      cases hv9
      exact kv9
    · replace hv9 := zif_f c8 hv9
      refine zEv_k 2 (f' := (69, [some (.ref 215), y1, y2, some (.int x3), some (.int x4), some (.int s.1), some (.int s.2)], [.int 1, .int s.1], zhp h)) rfl ?_
      cases hv9
      exact kv9
theorem t_qM_odds_b39 {Ls : Nat} {xs : Nat → Int32} {d : Nat} {x3 : Int32} {x4 : Int32} {h : zK} {r : zA} {t : Int32} (K : ∀ (z1 : Option Value) (z2 : Option Value) (z6 : Option Value), zEv (zXs Ls xs) (d + 6) zm_266 (78, [some (.ref 215), z1, z2, some (.int x3), some (.int x4), some (.int t), z6], [], zhp h) r) (n : Nat) (s : Int32 × Int32) (H : zloop (qM_odds_b39 x3 x4 h) n s = some t) (y1 : Option Value) (y2 : Option Value) : zEv (zXs Ls xs) (d + 6) zm_266 (39, [some (.ref 215), y1, y2, some (.int x3), some (.int x4), some (.int s.1), some (.int s.2)], [], zhp h) r := by
  have Z := zloop_P (P := fun s => ∀ (y1 : Option Value) (y2 : Option Value), zEv (zXs Ls xs) (d + 6) zm_266 (39, [some (.ref 215), y1, y2, some (.int x3), some (.int x4), some (.int s.1), some (.int s.2)], [], zhp h) r) (b := qM_odds_b39 x3 x4 h) (t := t) (fun s s2 hb hk => by intro y1 y2; exact t_qM_odds_b39b hb hk y1 y2) (fun s hb => by intro y1 y2; exact t_qM_odds_b39b hb K y1 y2) n s H
  exact Z y1 y2
def qM_odds (x1 : Int32) (x2 : Int32) (x3 : Int32) (x4 : Int32) (h : zK) : Option (Int32 × zK) :=
  zlet (sI h 215 0 0) fun h1 =>
  if (zf_in x3 0 9) = 0 then
    some (-1, h1)
  else
    (qM_layLog x1 x2 h1).bind fun p3 =>
    if p3.1 = 0 then
      some (-1, p3.2)
    else
      if ¬ (gI p3.2 215 46) = 0 then
        (zloop (qM_odds_b39 x3 x4 p3.2) zfu (0, 0)).bind fun t10 =>
        zlet (
            if x4 = 0 then
              t10
            else
              gI p3.2 215 46
          ) fun (v13 : Int32) =>
        (qM_common (gI p3.2 215 46) t10).bind fun p14 =>
        if ¬ p14 = 0 then
          some (v13 / p14, p3.2)
        else none
      else
        some (-1, p3.2)
theorem t_qM_odds {Ls : Nat} {xs : Nat → Int32} {d : Nat} {x1 : Int32} {x2 : Int32} {x3 : Int32} {x4 : Int32} {h : zK} {p : Int32 × zK} (H : qM_odds x1 x2 x3 x4 h = some p) : zEv (zXs Ls xs) (d + 6) zm_266 (0, [some (.ref 215), some (.int x1), some (.int x2), some (.int x3), some (.int x4), none, none], [], zhp h) (some (.int p.1), zhp p.2) := by
  unfold qM_odds at H
  obtain ⟨h1, eh1, H⟩ := zlets H
  refine zEv_w (F := fun z => (5, [some (.ref 215), some (.int x1), some (.int x2), some (.int x3), some (.int x4), none, none], [], zhp z)) (h0 := sI h 215 0 0) 3 rfl eh1 ?_
  refine zEv_k 3 (f' := (9, [some (.ref 215), some (.int x1), some (.int x2), some (.int x3), some (.int x4), none, none], [.int 9, .int 0, .int x3], zhp h1)) rfl ?_
  refine zEv_c (fun _ => rfl) rfl ev_zf_in rfl rfl ?_
  refine zEv_k 1 (f' := (if (zf_in x3 0 9) = 0 then 31 else 15, [some (.ref 215), some (.int x1), some (.int x2), some (.int x3), some (.int x4), none, none], [], zhp h1)) rfl (zEv_if (fun c2 => ?_) (fun c2 => ?_))
  · replace H := zif_t c2 H
    refine zEv_k 1 (f' := (32, [some (.ref 215), some (.int x1), some (.int x2), some (.int x3), some (.int x4), none, none], [.int (-1)], zhp h1)) rfl ?_
    cases H
    exact zEv_r rfl
  · replace H := zif_f c2 H
    refine zEv_k 3 (f' := (18, [some (.ref 215), some (.int x1), some (.int x2), some (.int x3), some (.int x4), none, none], [.int x2, .int x1, .ref 215], zhp h1)) rfl ?_
    obtain ⟨p3, hp3, H⟩ := zbs H
    refine zEv_c (fun _ => rfl) rfl (t_qM_layLog (x1 := x1) (x2 := x2) (h := h1) (d := d) hp3) rfl rfl ?_
    refine zEv_k 1 (f' := (if p3.1 = 0 then 31 else 24, [some (.ref 215), some (.int x1), some (.int x2), some (.int x3), some (.int x4), none, none], [], zhp p3.2)) rfl (zEv_if (fun c4 => ?_) (fun c4 => ?_))
    · replace H := zif_t c4 H
      refine zEv_k 1 (f' := (32, [some (.ref 215), some (.int x1), some (.int x2), some (.int x3), some (.int x4), none, none], [.int (-1)], zhp p3.2)) rfl ?_
      cases H
      exact zEv_r rfl
    · replace H := zif_f c4 H
      refine zEv_k 3 (f' := (if ¬ (gI p3.2 215 46) = 0 then 33 else 31, [some (.ref 215), some (.int x1), some (.int x2), some (.int x3), some (.int x4), none, none], [], zhp p3.2)) rfl (zEv_if (fun c5 => ?_) (fun c5 => ?_))
      · replace H := zif_t c5 H
        refine zEv_k 4 (f' := (39, [some (.ref 215), some (.int x1), some (.int x2), some (.int x3), some (.int x4), some (.int 0), some (.int 0)], [], zhp p3.2)) rfl ?_
        obtain ⟨t10, ht10, H⟩ := zbs H
        refine t_qM_odds_b39 (x3 := x3) (x4 := x4) (h := p3.2) ?_ zfu _ ht10 _ _
        intro y1 y2 y6
        obtain ⟨v13, hv13, H⟩ := zlets H
        have kv13 : zEv (zXs Ls xs) (d + 6) zm_266 (92, [some (.ref 215), y1, y2, some (.int x3), some (.int x4), some (.int t10), y6], [.int v13], zhp p3.2) (some (.int p.1), zhp p.2) := by
          refine zEv_k 3 (f' := (98, [some (.ref 215), y1, y2, some (.int x3), some (.int x4), some (.int t10), y6], [.int t10, .int (gI p3.2 215 46), .int v13], zhp p3.2)) rfl ?_
          obtain ⟨p14, hp14, H⟩ := zbs H
          refine zEv_c (fun _ => rfl) rfl (t_qM_common (x0 := gI p3.2 215 46) (x1 := t10) (h := p3.2) (d := d + 5) hp14) rfl rfl ?_
          obtain ⟨c15, H⟩ := zifn H
          refine zEv_div rfl c15 ?_
          cases H
          exact zEv_r rfl
        clear H
        refine zEv_k 2 (f' := (if x4 = 0 then 90 else 83, [some (.ref 215), y1, y2, some (.int x3), some (.int x4), some (.int t10), y6], [], zhp p3.2)) rfl (zEv_if (fun c12 => ?_) (fun c12 => ?_))
        · replace hv13 := zif_t c12 hv13
          refine zEv_k 1 (f' := (92, [some (.ref 215), y1, y2, some (.int x3), some (.int x4), some (.int t10), y6], [.int t10], zhp p3.2)) rfl ?_
          cases hv13
          exact kv13
        · replace hv13 := zif_f c12 hv13
          refine zEv_k 3 (f' := (92, [some (.ref 215), y1, y2, some (.int x3), some (.int x4), some (.int t10), y6], [.int (gI p3.2 215 46)], zhp p3.2)) rfl ?_
          cases hv13
          exact kv13
      · replace H := zif_f c5 H
        refine zEv_k 1 (f' := (32, [some (.ref 215), some (.int x1), some (.int x2), some (.int x3), some (.int x4), none, none], [.int (-1)], zhp p3.2)) rfl ?_
        cases H
        exact zEv_r rfl
def qM_shock_b37 (x3 : Int32) (h : zK) (s : Int32 × Int32) : Option ((Int32 × Int32) ⊕ (Int32)) :=
  if (gI h 215 46) ≤ s.2 then
    some (.inr s.1)
  else
    Option.bind (
        if x3 = 0 then
          (zix s.2 100).bind fun j8 =>
          some (zf_lesser s.1 ((gI h 234 j8) - (gI h 234 j8) / 10 * 10))
        else
          (zix s.2 100).bind fun j9 =>
          some (zf_greater s.1 ((gI h 234 j9) - (gI h 234 j9) / 10 * 10))
      ) fun (v7 : Int32) =>
    some (.inl (v7, s.2 + 1))
theorem t_qM_shock_b37b {Ls : Nat} {xs : Nat → Int32} {d : Nat} {x3 : Int32} {h : zK} {r : zA} {s : Int32 × Int32} {e : (Int32 × Int32) ⊕ (Int32)} (H : qM_shock_b37 x3 h s = some e) (K : match (generalizing := false) e with | .inl s' => ∀ (z1 : Option Value) (z2 : Option Value), zEv (zXs Ls xs) (d + 6) zm_267 (37, [some (.ref 215), z1, z2, some (.int x3), some (.int s'.1), some (.int s'.2)], [], zhp h) r | .inr v => ∀ (z1 : Option Value) (z2 : Option Value) (z5 : Option Value), zEv (zXs Ls xs) (d + 6) zm_267 (91, [some (.ref 215), z1, z2, some (.int x3), some (.int v), z5], [], zhp h) r) (y1 : Option Value) (y2 : Option Value) : zEv (zXs Ls xs) (d + 6) zm_267 (37, [some (.ref 215), y1, y2, some (.int x3), some (.int s.1), some (.int s.2)], [], zhp h) r := by
  unfold qM_shock_b37 at H
  refine zEv_k 4 (f' := (if (gI h 215 46) ≤ s.2 then 91 else 46, [some (.ref 215), y1, y2, some (.int x3), some (.int s.1), some (.int s.2)], [], zhp h)) rfl (zEv_if (fun c5 => ?_) (fun c5 => ?_))
  · replace H := zif_t c5 H
    cases H
    exact K _ _ _
  · replace H := zif_f c5 H
    obtain ⟨v7, hv7, H⟩ := zbs H
    have kv7 : zEv (zXs Ls xs) (d + 6) zm_267 (83, [some (.ref 215), y1, y2, some (.int x3), some (.int s.1), some (.int s.2)], [.int v7], zhp h) r := by
      refine zEv_k 3 (f' := (37, [some (.ref 215), y1, y2, some (.int x3), some (.int v7), some (.int (s.2 + 1))], [], zhp h)) rfl ?_
      cases H
      exact K _ _
    clear H
    refine zEv_k 2 (f' := (if x3 = 0 then 68 else 50, [some (.ref 215), y1, y2, some (.int x3), some (.int s.1), some (.int s.2)], [], zhp h)) rfl (zEv_if (fun c6 => ?_) (fun c6 => ?_))
    · replace hv7 := zif_t c6 hv7
      refine zEv_k 2 (f' := (71, [some (.ref 215), y1, y2, some (.int x3), some (.int s.1), some (.int s.2)], [.ref 215, .int s.1], zhp h)) rfl ?_
      refine zRgr rfl rfl rfl (by decide) (b := 234) rfl ?_
      refine zEv_k 1 (f' := (76, [some (.ref 215), y1, y2, some (.int x3), some (.int s.1), some (.int s.2)], [.int s.2, .ref 234, .int s.1], zhp h)) rfl ?_
      obtain ⟨j8, hj8, hv7⟩ := zbs hv7
      refine zRia rfl rfl (by decide) hj8 ?_
      refine zEv_k 1 (f' := (79, [some (.ref 215), y1, y2, some (.int x3), some (.int s.1), some (.int s.2)], [.int 10, .int (gI h 234 j8), .int s.1], zhp h)) rfl ?_
      refine zEv_rem rfl (by decide) ?_
      refine zEv_c (fun _ => rfl) rfl ev_zf_lesser rfl rfl ?_
      cases hv7
      exact kv7
    · replace hv7 := zif_f c6 hv7
      refine zEv_k 2 (f' := (53, [some (.ref 215), y1, y2, some (.int x3), some (.int s.1), some (.int s.2)], [.ref 215, .int s.1], zhp h)) rfl ?_
      refine zRgr rfl rfl rfl (by decide) (b := 234) rfl ?_
      refine zEv_k 1 (f' := (58, [some (.ref 215), y1, y2, some (.int x3), some (.int s.1), some (.int s.2)], [.int s.2, .ref 234, .int s.1], zhp h)) rfl ?_
      obtain ⟨j9, hj9, hv7⟩ := zbs hv7
      refine zRia rfl rfl (by decide) hj9 ?_
      refine zEv_k 1 (f' := (61, [some (.ref 215), y1, y2, some (.int x3), some (.int s.1), some (.int s.2)], [.int 10, .int (gI h 234 j9), .int s.1], zhp h)) rfl ?_
      refine zEv_rem rfl (by decide) ?_
      refine zEv_c (fun _ => rfl) rfl ev_zf_greater rfl rfl ?_
      refine zEv_k 1 (f' := (83, [some (.ref 215), y1, y2, some (.int x3), some (.int s.1), some (.int s.2)], [.int (zf_greater s.1 ((gI h 234 j9) - (gI h 234 j9) / 10 * 10))], zhp h)) rfl ?_
      cases hv7
      exact kv7
theorem t_qM_shock_b37 {Ls : Nat} {xs : Nat → Int32} {d : Nat} {x3 : Int32} {h : zK} {r : zA} {t : Int32} (K : ∀ (z1 : Option Value) (z2 : Option Value) (z5 : Option Value), zEv (zXs Ls xs) (d + 6) zm_267 (91, [some (.ref 215), z1, z2, some (.int x3), some (.int t), z5], [], zhp h) r) (n : Nat) (s : Int32 × Int32) (H : zloop (qM_shock_b37 x3 h) n s = some t) (y1 : Option Value) (y2 : Option Value) : zEv (zXs Ls xs) (d + 6) zm_267 (37, [some (.ref 215), y1, y2, some (.int x3), some (.int s.1), some (.int s.2)], [], zhp h) r := by
  have Z := zloop_P (P := fun s => ∀ (y1 : Option Value) (y2 : Option Value), zEv (zXs Ls xs) (d + 6) zm_267 (37, [some (.ref 215), y1, y2, some (.int x3), some (.int s.1), some (.int s.2)], [], zhp h) r) (b := qM_shock_b37 x3 h) (t := t) (fun s s2 hb hk => by intro y1 y2; exact t_qM_shock_b37b hb hk y1 y2) (fun s hb => by intro y1 y2; exact t_qM_shock_b37b hb K y1 y2) n s H
  exact Z y1 y2
def qM_shock (x1 : Int32) (x2 : Int32) (x3 : Int32) (h : zK) : Option (Int32 × zK) :=
  zlet (sI h 215 0 0) fun h1 =>
  (qM_layLog x1 x2 h1).bind fun p2 =>
  if p2.1 = 0 then
    some (-1, p2.2)
  else
    if ¬ (gI p2.2 215 46) = 0 then
      (zloop (qM_shock_b37 x3 p2.2) zfu ((gI p2.2 234 0) - (gI p2.2 234 0) / 10 * 10, 0)).bind fun t10 =>
      some (t10, p2.2)
    else
      some (-1, p2.2)
theorem t_qM_shock {Ls : Nat} {xs : Nat → Int32} {d : Nat} {x1 : Int32} {x2 : Int32} {x3 : Int32} {h : zK} {p : Int32 × zK} (H : qM_shock x1 x2 x3 h = some p) : zEv (zXs Ls xs) (d + 6) zm_267 (0, [some (.ref 215), some (.int x1), some (.int x2), some (.int x3), none, none], [], zhp h) (some (.int p.1), zhp p.2) := by
  unfold qM_shock at H
  obtain ⟨h1, eh1, H⟩ := zlets H
  refine zEv_w (F := fun z => (5, [some (.ref 215), some (.int x1), some (.int x2), some (.int x3), none, none], [], zhp z)) (h0 := sI h 215 0 0) 3 rfl eh1 ?_
  refine zEv_k 3 (f' := (8, [some (.ref 215), some (.int x1), some (.int x2), some (.int x3), none, none], [.int x2, .int x1, .ref 215], zhp h1)) rfl ?_
  obtain ⟨p2, hp2, H⟩ := zbs H
  refine zEv_c (fun _ => rfl) rfl (t_qM_layLog (x1 := x1) (x2 := x2) (h := h1) (d := d) hp2) rfl rfl ?_
  refine zEv_k 1 (f' := (if p2.1 = 0 then 21 else 14, [some (.ref 215), some (.int x1), some (.int x2), some (.int x3), none, none], [], zhp p2.2)) rfl (zEv_if (fun c3 => ?_) (fun c3 => ?_))
  · replace H := zif_t c3 H
    refine zEv_k 1 (f' := (22, [some (.ref 215), some (.int x1), some (.int x2), some (.int x3), none, none], [.int (-1)], zhp p2.2)) rfl ?_
    cases H
    exact zEv_r rfl
  · replace H := zif_f c3 H
    refine zEv_k 3 (f' := (if ¬ (gI p2.2 215 46) = 0 then 23 else 21, [some (.ref 215), some (.int x1), some (.int x2), some (.int x3), none, none], [], zhp p2.2)) rfl (zEv_if (fun c4 => ?_) (fun c4 => ?_))
    · replace H := zif_t c4 H
      refine zEv_k 1 (f' := (24, [some (.ref 215), some (.int x1), some (.int x2), some (.int x3), none, none], [.ref 215], zhp p2.2)) rfl ?_
      refine zRgr rfl rfl rfl (by decide) (b := 234) rfl ?_
      refine zEv_k 1 (f' := (28, [some (.ref 215), some (.int x1), some (.int x2), some (.int x3), none, none], [.int 0, .ref 234], zhp p2.2)) rfl ?_
      refine zRia (j := 0) rfl rfl (by decide) (by decide) ?_
      refine zEv_k 1 (f' := (31, [some (.ref 215), some (.int x1), some (.int x2), some (.int x3), none, none], [.int 10, .int (gI p2.2 234 0)], zhp p2.2)) rfl ?_
      refine zEv_rem rfl (by decide) ?_
      refine zEv_k 3 (f' := (37, [some (.ref 215), some (.int x1), some (.int x2), some (.int x3), some (.int ((gI p2.2 234 0) - (gI p2.2 234 0) / 10 * 10)), some (.int 0)], [], zhp p2.2)) rfl ?_
      obtain ⟨t10, ht10, H⟩ := zbs H
      refine t_qM_shock_b37 (x3 := x3) (h := p2.2) ?_ zfu _ ht10 _ _
      intro y1 y2 y5
      refine zEv_k 1 (f' := (93, [some (.ref 215), y1, y2, some (.int x3), some (.int t10), y5], [.int t10], zhp p2.2)) rfl ?_
      cases H
      exact zEv_r rfl
    · replace H := zif_f c4 H
      refine zEv_k 1 (f' := (22, [some (.ref 215), some (.int x1), some (.int x2), some (.int x3), none, none], [.int (-1)], zhp p2.2)) rfl ?_
      cases H
      exact zEv_r rfl
def qM_count (x1 : Int32) (h : zK) : Option (Int32 × zK) :=
  zlet (sI h 215 0 0) fun h1 =>
  if (zf_in x1 0 2) = 0 then
    some (-2, h1)
  else
    (zix x1 12).bind fun j3 =>
    some (gI h1 220 j3, h1)
theorem t_qM_count {Ls : Nat} {xs : Nat → Int32} {d : Nat} {x1 : Int32} {h : zK} {p : Int32 × zK} (H : qM_count x1 h = some p) : zEv (zXs Ls xs) (d + 1) zm_268 (0, [some (.ref 215), some (.int x1)], [], zhp h) (some (.int p.1), zhp p.2) := by
  unfold qM_count at H
  obtain ⟨h1, eh1, H⟩ := zlets H
  refine zEv_w (F := fun z => (5, [some (.ref 215), some (.int x1)], [], zhp z)) (h0 := sI h 215 0 0) 3 rfl eh1 ?_
  refine zEv_k 3 (f' := (8, [some (.ref 215), some (.int x1)], [.int 2, .int 0, .int x1], zhp h1)) rfl ?_
  refine zEv_c (fun _ => rfl) rfl ev_zf_in rfl rfl ?_
  refine zEv_k 1 (f' := (if (zf_in x1 0 2) = 0 then 23 else 14, [some (.ref 215), some (.int x1)], [], zhp h1)) rfl (zEv_if (fun c2 => ?_) (fun c2 => ?_))
  · replace H := zif_t c2 H
    refine zEv_k 1 (f' := (25, [some (.ref 215), some (.int x1)], [.int (-2)], zhp h1)) rfl ?_
    cases H
    exact zEv_r rfl
  · replace H := zif_f c2 H
    refine zEv_k 1 (f' := (15, [some (.ref 215), some (.int x1)], [.ref 215], zhp h1)) rfl ?_
    refine zRgr rfl rfl rfl (by decide) (b := 220) rfl ?_
    refine zEv_k 1 (f' := (19, [some (.ref 215), some (.int x1)], [.int x1, .ref 220], zhp h1)) rfl ?_
    obtain ⟨j3, hj3, H⟩ := zbs H
    refine zRia rfl rfl (by decide) hj3 ?_
    refine zEv_k 1 (f' := (25, [some (.ref 215), some (.int x1)], [.int (gI h1 220 j3)], zhp h1)) rfl ?_
    cases H
    exact zEv_r rfl
def qM_image (x1 : Int32) (h : zK) : Option (Int32 × zK) :=
  zlet (sI h 215 0 0) fun h1 =>
  if ¬ (zf_in x1 0 2) = 0 then
    (qM_copyAll 0 (x1 + 1) h1).bind fun p3 =>
    (zix x1 3).bind fun j4 =>
    zlet (sI p3 236 j4 (vp_nar .boolean 1)) fun h5 =>
    some (1, h5)
  else
    some (0, h1)
theorem t_qM_image {Ls : Nat} {xs : Nat → Int32} {d : Nat} {x1 : Int32} {h : zK} {p : Int32 × zK} (H : qM_image x1 h = some p) : zEv (zXs Ls xs) (d + 2) zm_269 (0, [some (.ref 215), some (.int x1)], [], zhp h) (some (.int p.1), zhp p.2) := by
  unfold qM_image at H
  obtain ⟨h1, eh1, H⟩ := zlets H
  refine zEv_w (F := fun z => (5, [some (.ref 215), some (.int x1)], [], zhp z)) (h0 := sI h 215 0 0) 3 rfl eh1 ?_
  refine zEv_k 3 (f' := (8, [some (.ref 215), some (.int x1)], [.int 2, .int 0, .int x1], zhp h1)) rfl ?_
  refine zEv_c (fun _ => rfl) rfl ev_zf_in rfl rfl ?_
  refine zEv_k 1 (f' := (if ¬ (zf_in x1 0 2) = 0 then 16 else 14, [some (.ref 215), some (.int x1)], [], zhp h1)) rfl (zEv_if (fun c2 => ?_) (fun c2 => ?_))
  · replace H := zif_t c2 H
    refine zEv_k 5 (f' := (21, [some (.ref 215), some (.int x1)], [.int (x1 + 1), .int 0, .ref 215], zhp h1)) rfl ?_
    obtain ⟨p3, hp3, H⟩ := zbs H
    refine zEv_c (fun _ => rfl) rfl (t_qM_copyAll (x1 := 0) (x2 := x1 + 1) (h := h1) (d := d) hp3) rfl rfl ?_
    refine zEv_k 1 (f' := (25, [some (.ref 215), some (.int x1)], [.ref 215], zhp p3)) rfl ?_
    refine zRgr rfl rfl rfl (by decide) (b := 236) rfl ?_
    refine zEv_k 2 (f' := (30, [some (.ref 215), some (.int x1)], [.int 1, .int x1, .ref 236], zhp p3)) rfl ?_
    obtain ⟨j4, hj4, H⟩ := zbs H
    obtain ⟨h5, eh5, H⟩ := zlets H
    refine zRzs rfl rfl (by decide) hj4 eh5 ?_
    refine zEv_k 1 (f' := (32, [some (.ref 215), some (.int x1)], [.int 1], zhp h5)) rfl ?_
    cases H
    exact zEv_r rfl
  · replace H := zif_f c2 H
    refine zEv_k 1 (f' := (15, [some (.ref 215), some (.int x1)], [.int 0], zhp h1)) rfl ?_
    cases H
    exact zEv_r rfl
def qM_again (x1 : Int32) (h : zK) : Option (Int32 × zK) :=
  zlet (sI h 215 0 0) fun h1 =>
  if (zf_in x1 0 2) = 0 then
    some (0, h1)
  else
    (zix x1 3).bind fun j3 =>
    if ¬ (gI h1 236 j3) = 0 then
      (qM_copyAll (x1 + 1) 0 h1).bind fun p5 =>
      some (1, p5)
    else
      some (0, h1)
theorem t_qM_again {Ls : Nat} {xs : Nat → Int32} {d : Nat} {x1 : Int32} {h : zK} {p : Int32 × zK} (H : qM_again x1 h = some p) : zEv (zXs Ls xs) (d + 2) zm_270 (0, [some (.ref 215), some (.int x1)], [], zhp h) (some (.int p.1), zhp p.2) := by
  unfold qM_again at H
  obtain ⟨h1, eh1, H⟩ := zlets H
  refine zEv_w (F := fun z => (5, [some (.ref 215), some (.int x1)], [], zhp z)) (h0 := sI h 215 0 0) 3 rfl eh1 ?_
  refine zEv_k 3 (f' := (8, [some (.ref 215), some (.int x1)], [.int 2, .int 0, .int x1], zhp h1)) rfl ?_
  refine zEv_c (fun _ => rfl) rfl ev_zf_in rfl rfl ?_
  refine zEv_k 1 (f' := (if (zf_in x1 0 2) = 0 then 23 else 14, [some (.ref 215), some (.int x1)], [], zhp h1)) rfl (zEv_if (fun c2 => ?_) (fun c2 => ?_))
  · replace H := zif_t c2 H
    refine zEv_k 1 (f' := (24, [some (.ref 215), some (.int x1)], [.int 0], zhp h1)) rfl ?_
    cases H
    exact zEv_r rfl
  · replace H := zif_f c2 H
    refine zEv_k 1 (f' := (15, [some (.ref 215), some (.int x1)], [.ref 215], zhp h1)) rfl ?_
    refine zRgr rfl rfl rfl (by decide) (b := 236) rfl ?_
    refine zEv_k 1 (f' := (19, [some (.ref 215), some (.int x1)], [.int x1, .ref 236], zhp h1)) rfl ?_
    obtain ⟨j3, hj3, H⟩ := zbs H
    refine zRza rfl rfl (by decide) hj3 ?_
    refine zEv_k 1 (f' := (if ¬ (gI h1 236 j3) = 0 then 25 else 23, [some (.ref 215), some (.int x1)], [], zhp h1)) rfl (zEv_if (fun c4 => ?_) (fun c4 => ?_))
    · replace H := zif_t c4 H
      refine zEv_k 5 (f' := (30, [some (.ref 215), some (.int x1)], [.int 0, .int (x1 + 1), .ref 215], zhp h1)) rfl ?_
      obtain ⟨p5, hp5, H⟩ := zbs H
      refine zEv_c (fun _ => rfl) rfl (t_qM_copyAll (x1 := x1 + 1) (x2 := 0) (h := h1) (d := d) hp5) rfl rfl ?_
      refine zEv_k 1 (f' := (34, [some (.ref 215), some (.int x1)], [.int 1], zhp p5)) rfl ?_
      cases H
      exact zEv_r rfl
    · replace H := zif_f c4 H
      refine zEv_k 1 (f' := (24, [some (.ref 215), some (.int x1)], [.int 0], zhp h1)) rfl ?_
      cases H
      exact zEv_r rfl
