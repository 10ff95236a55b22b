def qRu_passedYear_b13 (oo : Nat) (s : Int32 × zK) : Option ((Int32 × zK) ⊕ (zK)) :=
  zlet (gR s.2 oo) fun a2 =>
  if a2 = 7 ∨ a2 = 22 then
    if (gI s.2 a2 2) ≤ s.1 then
      some (.inr s.2)
    else
      Option.bind (
          if ¬ (zf_cin (gI s.2 oo 2) s.1) = 0 then
            some s.2
          else
            (zix s.1 7).bind fun j7 =>
            zlet (gR s.2 oo) fun a8 =>
            if a8 = 7 ∨ a8 = 22 then
              zlet (sI s.2 (oo + 10) j7 (zf_max 0 ((gI s.2 (oo + 10) j7) - (gI s.2 (a8 + 2) j7)))) fun h10 =>
              zlet (gR h10 oo) fun a11 =>
              if a11 = 7 ∨ a11 = 22 then
                zlet (sI h10 (oo + 11) j7 ((gI h10 (oo + 11) j7) + (gI h10 (a11 + 4) j7))) fun h13 =>
                some h13
              else none
            else none
        ) fun (v6 : zK) =>
      some (.inl (s.1 + 1, v6))
  else none
theorem t_qRu_passedYear_b13b {Ls : Nat} {xs : Nat → Int32} {d : Nat} {oo : Nat} {r : zA} {s : Int32 × zK} {e : (Int32 × zK) ⊕ (zK)} (ho : oo = 166 ∨ oo = 198) (H : qRu_passedYear_b13 oo s = some e) (K : match (generalizing := false) e with | .inl s' => zEv (zXs Ls xs) (d + 2) zm_79 (13, [some (.ref oo), some (.int s'.1), none], [], zhp s'.2) r | .inr v => ∀ (z1 : Option Value), zEv (zXs Ls xs) (d + 2) zm_79 (85, [some (.ref oo), z1, none], [], zhp v) r) : zEv (zXs Ls xs) (d + 2) zm_79 (13, [some (.ref oo), some (.int s.1), none], [], zhp s.2) r := by
  unfold qRu_passedYear_b13 at H
  rcases ho with rfl | rfl
  · refine zEv_k 2 (f' := (15, [some (.ref 166), some (.int s.1), none], [.ref 166, .int s.1], zhp s.2)) rfl ?_
    refine zRgc (by decide) rfl rfl rfl (by decide) ?_
    obtain ⟨a2, ea2, H⟩ := zlets H
    rw [ea2]
    obtain ⟨c3, H⟩ := zifn H
    rcases c3 with rfl | rfl
    · refine zEv_k 2 (f' := (if (gI s.2 7 2) ≤ s.1 then 85 else 24, [some (.ref 166), some (.int s.1), none], [], zhp s.2)) rfl (zEv_if (fun c4 => ?_) (fun c4 => ?_))
      · replace H := zif_t c4 H
        cases H
        exact K _
      · replace H := zif_f c4 H
        obtain ⟨v6, hv6, H⟩ := zbs H
        have kv6 : zEv (zXs Ls xs) (d + 2) zm_79 (79, [some (.ref 166), some (.int s.1), none], [], zhp v6) r := by
          refine zEv_k 2 (f' := (13, [some (.ref 166), some (.int (s.1 + 1)), none], [], zhp v6)) rfl ?_
          cases H
          exact K
        clear H
        refine zEv_k 3 (f' := (29, [some (.ref 166), some (.int s.1), none], [.int s.1, .int (gI s.2 166 2)], zhp s.2)) rfl ?_
        refine zEv_c (fun _ => rfl) rfl ev_zf_cin rfl rfl ?_
        refine zEv_k 1 (f' := (if ¬ (zf_cin (gI s.2 166 2) s.1) = 0 then 79 else 35, [some (.ref 166), some (.int s.1), none], [], zhp s.2)) rfl (zEv_if (fun c5 => ?_) (fun c5 => ?_))
        · replace hv6 := zif_t c5 hv6
          cases hv6
          exact kv6
        · replace hv6 := zif_f c5 hv6
          refine zEv_k 1 (f' := (36, [some (.ref 166), some (.int s.1), none], [.ref 166], zhp s.2)) rfl ?_
          refine zRgr rfl rfl rfl (by decide) (b := 166 + 10) rfl ?_
          refine zEv_k 3 (f' := (42, [some (.ref 166), some (.int s.1), none], [.ref 166, .int 0, .int s.1, .ref (166 + 10)], zhp s.2)) rfl ?_
          refine zRgr rfl rfl rfl (by decide) (b := 166 + 10) rfl ?_
          refine zEv_k 1 (f' := (46, [some (.ref 166), some (.int s.1), none], [.int s.1, .ref (166 + 10), .int 0, .int s.1, .ref (166 + 10)], zhp s.2)) rfl ?_
          obtain ⟨j7, hj7, hv6⟩ := zbs hv6
          refine zRia rfl rfl (by decide) hj7 ?_
          refine zEv_k 1 (f' := (48, [some (.ref 166), some (.int s.1), none], [.ref 166, .int (gI s.2 (166 + 10) j7), .int 0, .int s.1, .ref (166 + 10)], zhp s.2)) rfl ?_
          refine zRgc (by decide) rfl rfl rfl (by decide) ?_
          obtain ⟨a8, ea8, hv6⟩ := zlets hv6
          rw [ea8]
          obtain ⟨c9, hv6⟩ := zifn hv6
          rcases c9 with rfl | rfl
          · refine zRgr rfl rfl rfl (by decide) (b := 7 + 2) rfl ?_
            refine zEv_k 1 (f' := (55, [some (.ref 166), some (.int s.1), none], [.int s.1, .ref (7 + 2), .int (gI s.2 (166 + 10) j7), .int 0, .int s.1, .ref (166 + 10)], zhp s.2)) rfl ?_
            refine zRia rfl rfl (by decide) hj7 ?_
            refine zEv_k 2 (f' := (60, [some (.ref 166), some (.int s.1), none], [.int (zf_max 0 ((gI s.2 (166 + 10) j7) - (gI s.2 (7 + 2) j7))), .int s.1, .ref (166 + 10)], zhp s.2)) rfl ?_
            obtain ⟨h10, eh10, hv6⟩ := zlets hv6
            refine zRis rfl rfl (by decide) hj7 eh10 ?_
            refine zEv_k 1 (f' := (62, [some (.ref 166), some (.int s.1), none], [.ref 166], zhp h10)) rfl ?_
            refine zRgr rfl rfl rfl (by decide) (b := 166 + 11) rfl ?_
            refine zEv_k 2 (f' := (67, [some (.ref 166), some (.int s.1), none], [.int s.1, .ref (166 + 11), .int s.1, .ref (166 + 11)], zhp h10)) rfl ?_
            refine zRia rfl rfl (by decide) hj7 ?_
            refine zEv_k 1 (f' := (69, [some (.ref 166), some (.int s.1), none], [.ref 166, .int (gI h10 (166 + 11) j7), .int s.1, .ref (166 + 11)], zhp h10)) rfl ?_
            refine zRgc (by decide) rfl rfl rfl (by decide) ?_
            obtain ⟨a11, ea11, hv6⟩ := zlets hv6
            rw [ea11]
            obtain ⟨c12, hv6⟩ := zifn hv6
            rcases c12 with rfl | rfl
            · refine zRgr rfl rfl rfl (by decide) (b := 7 + 4) rfl ?_
              refine zEv_k 1 (f' := (76, [some (.ref 166), some (.int s.1), none], [.int s.1, .ref (7 + 4), .int (gI h10 (166 + 11) j7), .int s.1, .ref (166 + 11)], zhp h10)) rfl ?_
              refine zRia rfl rfl (by decide) hj7 ?_
              refine zEv_k 1 (f' := (78, [some (.ref 166), some (.int s.1), none], [.int ((gI h10 (166 + 11) j7) + (gI h10 (7 + 4) j7)), .int s.1, .ref (166 + 11)], zhp h10)) rfl ?_
              obtain ⟨h13, eh13, hv6⟩ := zlets hv6
              refine zRis rfl rfl (by decide) hj7 eh13 ?_
              cases hv6
              exact kv6
            · refine zRgr rfl rfl rfl (by decide) (b := 22 + 4) rfl ?_
              refine zEv_k 1 (f' := (76, [some (.ref 166), some (.int s.1), none], [.int s.1, .ref (22 + 4), .int (gI h10 (166 + 11) j7), .int s.1, .ref (166 + 11)], zhp h10)) rfl ?_
              refine zRia rfl rfl (by decide) hj7 ?_
              refine zEv_k 1 (f' := (78, [some (.ref 166), some (.int s.1), none], [.int ((gI h10 (166 + 11) j7) + (gI h10 (22 + 4) j7)), .int s.1, .ref (166 + 11)], zhp h10)) rfl ?_
              obtain ⟨h13, eh13, hv6⟩ := zlets hv6
              refine zRis rfl rfl (by decide) hj7 eh13 ?_
              cases hv6
              exact kv6
          · refine zRgr rfl rfl rfl (by decide) (b := 22 + 2) rfl ?_
            refine zEv_k 1 (f' := (55, [some (.ref 166), some (.int s.1), none], [.int s.1, .ref (22 + 2), .int (gI s.2 (166 + 10) j7), .int 0, .int s.1, .ref (166 + 10)], zhp s.2)) rfl ?_
            refine zRia rfl rfl (by decide) hj7 ?_
            refine zEv_k 2 (f' := (60, [some (.ref 166), some (.int s.1), none], [.int (zf_max 0 ((gI s.2 (166 + 10) j7) - (gI s.2 (22 + 2) j7))), .int s.1, .ref (166 + 10)], zhp s.2)) rfl ?_
            obtain ⟨h10, eh10, hv6⟩ := zlets hv6
            refine zRis rfl rfl (by decide) hj7 eh10 ?_
            refine zEv_k 1 (f' := (62, [some (.ref 166), some (.int s.1), none], [.ref 166], zhp h10)) rfl ?_
            refine zRgr rfl rfl rfl (by decide) (b := 166 + 11) rfl ?_
            refine zEv_k 2 (f' := (67, [some (.ref 166), some (.int s.1), none], [.int s.1, .ref (166 + 11), .int s.1, .ref (166 + 11)], zhp h10)) rfl ?_
            refine zRia rfl rfl (by decide) hj7 ?_
            refine zEv_k 1 (f' := (69, [some (.ref 166), some (.int s.1), none], [.ref 166, .int (gI h10 (166 + 11) j7), .int s.1, .ref (166 + 11)], zhp h10)) rfl ?_
            refine zRgc (by decide) rfl rfl rfl (by decide) ?_
            obtain ⟨a11, ea11, hv6⟩ := zlets hv6
            rw [ea11]
            obtain ⟨c12, hv6⟩ := zifn hv6
            rcases c12 with rfl | rfl
            · refine zRgr rfl rfl rfl (by decide) (b := 7 + 4) rfl ?_
              refine zEv_k 1 (f' := (76, [some (.ref 166), some (.int s.1), none], [.int s.1, .ref (7 + 4), .int (gI h10 (166 + 11) j7), .int s.1, .ref (166 + 11)], zhp h10)) rfl ?_
              refine zRia rfl rfl (by decide) hj7 ?_
              refine zEv_k 1 (f' := (78, [some (.ref 166), some (.int s.1), none], [.int ((gI h10 (166 + 11) j7) + (gI h10 (7 + 4) j7)), .int s.1, .ref (166 + 11)], zhp h10)) rfl ?_
              obtain ⟨h13, eh13, hv6⟩ := zlets hv6
              refine zRis rfl rfl (by decide) hj7 eh13 ?_
              cases hv6
              exact kv6
            · refine zRgr rfl rfl rfl (by decide) (b := 22 + 4) rfl ?_
              refine zEv_k 1 (f' := (76, [some (.ref 166), some (.int s.1), none], [.int s.1, .ref (22 + 4), .int (gI h10 (166 + 11) j7), .int s.1, .ref (166 + 11)], zhp h10)) rfl ?_
              refine zRia rfl rfl (by decide) hj7 ?_
              refine zEv_k 1 (f' := (78, [some (.ref 166), some (.int s.1), none], [.int ((gI h10 (166 + 11) j7) + (gI h10 (22 + 4) j7)), .int s.1, .ref (166 + 11)], zhp h10)) rfl ?_
              obtain ⟨h13, eh13, hv6⟩ := zlets hv6
              refine zRis rfl rfl (by decide) hj7 eh13 ?_
              cases hv6
              exact kv6
    · refine zEv_k 2 (f' := (if (gI s.2 22 2) ≤ s.1 then 85 else 24, [some (.ref 166), some (.int s.1), none], [], zhp s.2)) rfl (zEv_if (fun c4 => ?_) (fun c4 => ?_))
      · replace H := zif_t c4 H
        cases H
        exact K _
      · replace H := zif_f c4 H
        obtain ⟨v6, hv6, H⟩ := zbs H
        have kv6 : zEv (zXs Ls xs) (d + 2) zm_79 (79, [some (.ref 166), some (.int s.1), none], [], zhp v6) r := by
          refine zEv_k 2 (f' := (13, [some (.ref 166), some (.int (s.1 + 1)), none], [], zhp v6)) rfl ?_
          cases H
          exact K
        clear H
        refine zEv_k 3 (f' := (29, [some (.ref 166), some (.int s.1), none], [.int s.1, .int (gI s.2 166 2)], zhp s.2)) rfl ?_
        refine zEv_c (fun _ => rfl) rfl ev_zf_cin rfl rfl ?_
        refine zEv_k 1 (f' := (if ¬ (zf_cin (gI s.2 166 2) s.1) = 0 then 79 else 35, [some (.ref 166), some (.int s.1), none], [], zhp s.2)) rfl (zEv_if (fun c5 => ?_) (fun c5 => ?_))
        · replace hv6 := zif_t c5 hv6
          cases hv6
          exact kv6
        · replace hv6 := zif_f c5 hv6
          refine zEv_k 1 (f' := (36, [some (.ref 166), some (.int s.1), none], [.ref 166], zhp s.2)) rfl ?_
          refine zRgr rfl rfl rfl (by decide) (b := 166 + 10) rfl ?_
          refine zEv_k 3 (f' := (42, [some (.ref 166), some (.int s.1), none], [.ref 166, .int 0, .int s.1, .ref (166 + 10)], zhp s.2)) rfl ?_
          refine zRgr rfl rfl rfl (by decide) (b := 166 + 10) rfl ?_
          refine zEv_k 1 (f' := (46, [some (.ref 166), some (.int s.1), none], [.int s.1, .ref (166 + 10), .int 0, .int s.1, .ref (166 + 10)], zhp s.2)) rfl ?_
          obtain ⟨j7, hj7, hv6⟩ := zbs hv6
          refine zRia rfl rfl (by decide) hj7 ?_
          refine zEv_k 1 (f' := (48, [some (.ref 166), some (.int s.1), none], [.ref 166, .int (gI s.2 (166 + 10) j7), .int 0, .int s.1, .ref (166 + 10)], zhp s.2)) rfl ?_
          refine zRgc (by decide) rfl rfl rfl (by decide) ?_
          obtain ⟨a8, ea8, hv6⟩ := zlets hv6
          rw [ea8]
          obtain ⟨c9, hv6⟩ := zifn hv6
          rcases c9 with rfl | rfl
          · refine zRgr rfl rfl rfl (by decide) (b := 7 + 2) rfl ?_
            refine zEv_k 1 (f' := (55, [some (.ref 166), some (.int s.1), none], [.int s.1, .ref (7 + 2), .int (gI s.2 (166 + 10) j7), .int 0, .int s.1, .ref (166 + 10)], zhp s.2)) rfl ?_
            refine zRia rfl rfl (by decide) hj7 ?_
            refine zEv_k 2 (f' := (60, [some (.ref 166), some (.int s.1), none], [.int (zf_max 0 ((gI s.2 (166 + 10) j7) - (gI s.2 (7 + 2) j7))), .int s.1, .ref (166 + 10)], zhp s.2)) rfl ?_
            obtain ⟨h10, eh10, hv6⟩ := zlets hv6
            refine zRis rfl rfl (by decide) hj7 eh10 ?_
            refine zEv_k 1 (f' := (62, [some (.ref 166), some (.int s.1), none], [.ref 166], zhp h10)) rfl ?_
            refine zRgr rfl rfl rfl (by decide) (b := 166 + 11) rfl ?_
            refine zEv_k 2 (f' := (67, [some (.ref 166), some (.int s.1), none], [.int s.1, .ref (166 + 11), .int s.1, .ref (166 + 11)], zhp h10)) rfl ?_
            refine zRia rfl rfl (by decide) hj7 ?_
            refine zEv_k 1 (f' := (69, [some (.ref 166), some (.int s.1), none], [.ref 166, .int (gI h10 (166 + 11) j7), .int s.1, .ref (166 + 11)], zhp h10)) rfl ?_
            refine zRgc (by decide) rfl rfl rfl (by decide) ?_
            obtain ⟨a11, ea11, hv6⟩ := zlets hv6
            rw [ea11]
            obtain ⟨c12, hv6⟩ := zifn hv6
            rcases c12 with rfl | rfl
            · refine zRgr rfl rfl rfl (by decide) (b := 7 + 4) rfl ?_
              refine zEv_k 1 (f' := (76, [some (.ref 166), some (.int s.1), none], [.int s.1, .ref (7 + 4), .int (gI h10 (166 + 11) j7), .int s.1, .ref (166 + 11)], zhp h10)) rfl ?_
              refine zRia rfl rfl (by decide) hj7 ?_
              refine zEv_k 1 (f' := (78, [some (.ref 166), some (.int s.1), none], [.int ((gI h10 (166 + 11) j7) + (gI h10 (7 + 4) j7)), .int s.1, .ref (166 + 11)], zhp h10)) rfl ?_
              obtain ⟨h13, eh13, hv6⟩ := zlets hv6
              refine zRis rfl rfl (by decide) hj7 eh13 ?_
              cases hv6
              exact kv6
            · refine zRgr rfl rfl rfl (by decide) (b := 22 + 4) rfl ?_
              refine zEv_k 1 (f' := (76, [some (.ref 166), some (.int s.1), none], [.int s.1, .ref (22 + 4), .int (gI h10 (166 + 11) j7), .int s.1, .ref (166 + 11)], zhp h10)) rfl ?_
              refine zRia rfl rfl (by decide) hj7 ?_
              refine zEv_k 1 (f' := (78, [some (.ref 166), some (.int s.1), none], [.int ((gI h10 (166 + 11) j7) + (gI h10 (22 + 4) j7)), .int s.1, .ref (166 + 11)], zhp h10)) rfl ?_
              obtain ⟨h13, eh13, hv6⟩ := zlets hv6
              refine zRis rfl rfl (by decide) hj7 eh13 ?_
              cases hv6
              exact kv6
          · refine zRgr rfl rfl rfl (by decide) (b := 22 + 2) rfl ?_
            refine zEv_k 1 (f' := (55, [some (.ref 166), some (.int s.1), none], [.int s.1, .ref (22 + 2), .int (gI s.2 (166 + 10) j7), .int 0, .int s.1, .ref (166 + 10)], zhp s.2)) rfl ?_
            refine zRia rfl rfl (by decide) hj7 ?_
            refine zEv_k 2 (f' := (60, [some (.ref 166), some (.int s.1), none], [.int (zf_max 0 ((gI s.2 (166 + 10) j7) - (gI s.2 (22 + 2) j7))), .int s.1, .ref (166 + 10)], zhp s.2)) rfl ?_
            obtain ⟨h10, eh10, hv6⟩ := zlets hv6
            refine zRis rfl rfl (by decide) hj7 eh10 ?_
            refine zEv_k 1 (f' := (62, [some (.ref 166), some (.int s.1), none], [.ref 166], zhp h10)) rfl ?_
            refine zRgr rfl rfl rfl (by decide) (b := 166 + 11) rfl ?_
            refine zEv_k 2 (f' := (67, [some (.ref 166), some (.int s.1), none], [.int s.1, .ref (166 + 11), .int s.1, .ref (166 + 11)], zhp h10)) rfl ?_
            refine zRia rfl rfl (by decide) hj7 ?_
            refine zEv_k 1 (f' := (69, [some (.ref 166), some (.int s.1), none], [.ref 166, .int (gI h10 (166 + 11) j7), .int s.1, .ref (166 + 11)], zhp h10)) rfl ?_
            refine zRgc (by decide) rfl rfl rfl (by decide) ?_
            obtain ⟨a11, ea11, hv6⟩ := zlets hv6
            rw [ea11]
            obtain ⟨c12, hv6⟩ := zifn hv6
            rcases c12 with rfl | rfl
            · refine zRgr rfl rfl rfl (by decide) (b := 7 + 4) rfl ?_
              refine zEv_k 1 (f' := (76, [some (.ref 166), some (.int s.1), none], [.int s.1, .ref (7 + 4), .int (gI h10 (166 + 11) j7), .int s.1, .ref (166 + 11)], zhp h10)) rfl ?_
              refine zRia rfl rfl (by decide) hj7 ?_
              refine zEv_k 1 (f' := (78, [some (.ref 166), some (.int s.1), none], [.int ((gI h10 (166 + 11) j7) + (gI h10 (7 + 4) j7)), .int s.1, .ref (166 + 11)], zhp h10)) rfl ?_
              obtain ⟨h13, eh13, hv6⟩ := zlets hv6
              refine zRis rfl rfl (by decide) hj7 eh13 ?_
              cases hv6
              exact kv6
            · refine zRgr rfl rfl rfl (by decide) (b := 22 + 4) rfl ?_
              refine zEv_k 1 (f' := (76, [some (.ref 166), some (.int s.1), none], [.int s.1, .ref (22 + 4), .int (gI h10 (166 + 11) j7), .int s.1, .ref (166 + 11)], zhp h10)) rfl ?_
              refine zRia rfl rfl (by decide) hj7 ?_
              refine zEv_k 1 (f' := (78, [some (.ref 166), some (.int s.1), none], [.int ((gI h10 (166 + 11) j7) + (gI h10 (22 + 4) j7)), .int s.1, .ref (166 + 11)], zhp h10)) rfl ?_
              obtain ⟨h13, eh13, hv6⟩ := zlets hv6
              refine zRis rfl rfl (by decide) hj7 eh13 ?_
              cases hv6
              exact kv6
  · refine zEv_k 2 (f' := (15, [some (.ref 198), some (.int s.1), none], [.ref 198, .int s.1], zhp s.2)) rfl ?_
    refine zRgc (by decide) rfl rfl rfl (by decide) ?_
    obtain ⟨a2, ea2, H⟩ := zlets H
    rw [ea2]
    obtain ⟨c3, H⟩ := zifn H
    rcases c3 with rfl | rfl
    · refine zEv_k 2 (f' := (if (gI s.2 7 2) ≤ s.1 then 85 else 24, [some (.ref 198), some (.int s.1), none], [], zhp s.2)) rfl (zEv_if (fun c4 => ?_) (fun c4 => ?_))
      · replace H := zif_t c4 H
        cases H
        exact K _
      · replace H := zif_f c4 H
        obtain ⟨v6, hv6, H⟩ := zbs H
        have kv6 : zEv (zXs Ls xs) (d + 2) zm_79 (79, [some (.ref 198), some (.int s.1), none], [], zhp v6) r := by
          refine zEv_k 2 (f' := (13, [some (.ref 198), some (.int (s.1 + 1)), none], [], zhp v6)) rfl ?_
          cases H
          exact K
        clear H
        refine zEv_k 3 (f' := (29, [some (.ref 198), some (.int s.1), none], [.int s.1, .int (gI s.2 198 2)], zhp s.2)) rfl ?_
        refine zEv_c (fun _ => rfl) rfl ev_zf_cin rfl rfl ?_
        refine zEv_k 1 (f' := (if ¬ (zf_cin (gI s.2 198 2) s.1) = 0 then 79 else 35, [some (.ref 198), some (.int s.1), none], [], zhp s.2)) rfl (zEv_if (fun c5 => ?_) (fun c5 => ?_))
        · replace hv6 := zif_t c5 hv6
          cases hv6
          exact kv6
        · replace hv6 := zif_f c5 hv6
          refine zEv_k 1 (f' := (36, [some (.ref 198), some (.int s.1), none], [.ref 198], zhp s.2)) rfl ?_
          refine zRgr rfl rfl rfl (by decide) (b := 198 + 10) rfl ?_
          refine zEv_k 3 (f' := (42, [some (.ref 198), some (.int s.1), none], [.ref 198, .int 0, .int s.1, .ref (198 + 10)], zhp s.2)) rfl ?_
          refine zRgr rfl rfl rfl (by decide) (b := 198 + 10) rfl ?_
          refine zEv_k 1 (f' := (46, [some (.ref 198), some (.int s.1), none], [.int s.1, .ref (198 + 10), .int 0, .int s.1, .ref (198 + 10)], zhp s.2)) rfl ?_
          obtain ⟨j7, hj7, hv6⟩ := zbs hv6
          refine zRia rfl rfl (by decide) hj7 ?_
          refine zEv_k 1 (f' := (48, [some (.ref 198), some (.int s.1), none], [.ref 198, .int (gI s.2 (198 + 10) j7), .int 0, .int s.1, .ref (198 + 10)], zhp s.2)) rfl ?_
          refine zRgc (by decide) rfl rfl rfl (by decide) ?_
          obtain ⟨a8, ea8, hv6⟩ := zlets hv6
          rw [ea8]
          obtain ⟨c9, hv6⟩ := zifn hv6
          rcases c9 with rfl | rfl
          · refine zRgr rfl rfl rfl (by decide) (b := 7 + 2) rfl ?_
            refine zEv_k 1 (f' := (55, [some (.ref 198), some (.int s.1), none], [.int s.1, .ref (7 + 2), .int (gI s.2 (198 + 10) j7), .int 0, .int s.1, .ref (198 + 10)], zhp s.2)) rfl ?_
            refine zRia rfl rfl (by decide) hj7 ?_
            refine zEv_k 2 (f' := (60, [some (.ref 198), some (.int s.1), none], [.int (zf_max 0 ((gI s.2 (198 + 10) j7) - (gI s.2 (7 + 2) j7))), .int s.1, .ref (198 + 10)], zhp s.2)) rfl ?_
            obtain ⟨h10, eh10, hv6⟩ := zlets hv6
            refine zRis rfl rfl (by decide) hj7 eh10 ?_
            refine zEv_k 1 (f' := (62, [some (.ref 198), some (.int s.1), none], [.ref 198], zhp h10)) rfl ?_
            refine zRgr rfl rfl rfl (by decide) (b := 198 + 11) rfl ?_
            refine zEv_k 2 (f' := (67, [some (.ref 198), some (.int s.1), none], [.int s.1, .ref (198 + 11), .int s.1, .ref (198 + 11)], zhp h10)) rfl ?_
            refine zRia rfl rfl (by decide) hj7 ?_
            refine zEv_k 1 (f' := (69, [some (.ref 198), some (.int s.1), none], [.ref 198, .int (gI h10 (198 + 11) j7), .int s.1, .ref (198 + 11)], zhp h10)) rfl ?_
            refine zRgc (by decide) rfl rfl rfl (by decide) ?_
            obtain ⟨a11, ea11, hv6⟩ := zlets hv6
            rw [ea11]
            obtain ⟨c12, hv6⟩ := zifn hv6
            rcases c12 with rfl | rfl
            · refine zRgr rfl rfl rfl (by decide) (b := 7 + 4) rfl ?_
              refine zEv_k 1 (f' := (76, [some (.ref 198), some (.int s.1), none], [.int s.1, .ref (7 + 4), .int (gI h10 (198 + 11) j7), .int s.1, .ref (198 + 11)], zhp h10)) rfl ?_
              refine zRia rfl rfl (by decide) hj7 ?_
              refine zEv_k 1 (f' := (78, [some (.ref 198), some (.int s.1), none], [.int ((gI h10 (198 + 11) j7) + (gI h10 (7 + 4) j7)), .int s.1, .ref (198 + 11)], zhp h10)) rfl ?_
              obtain ⟨h13, eh13, hv6⟩ := zlets hv6
              refine zRis rfl rfl (by decide) hj7 eh13 ?_
              cases hv6
              exact kv6
            · refine zRgr rfl rfl rfl (by decide) (b := 22 + 4) rfl ?_
              refine zEv_k 1 (f' := (76, [some (.ref 198), some (.int s.1), none], [.int s.1, .ref (22 + 4), .int (gI h10 (198 + 11) j7), .int s.1, .ref (198 + 11)], zhp h10)) rfl ?_
              refine zRia rfl rfl (by decide) hj7 ?_
              refine zEv_k 1 (f' := (78, [some (.ref 198), some (.int s.1), none], [.int ((gI h10 (198 + 11) j7) + (gI h10 (22 + 4) j7)), .int s.1, .ref (198 + 11)], zhp h10)) rfl ?_
              obtain ⟨h13, eh13, hv6⟩ := zlets hv6
              refine zRis rfl rfl (by decide) hj7 eh13 ?_
              cases hv6
              exact kv6
          · refine zRgr rfl rfl rfl (by decide) (b := 22 + 2) rfl ?_
            refine zEv_k 1 (f' := (55, [some (.ref 198), some (.int s.1), none], [.int s.1, .ref (22 + 2), .int (gI s.2 (198 + 10) j7), .int 0, .int s.1, .ref (198 + 10)], zhp s.2)) rfl ?_
            refine zRia rfl rfl (by decide) hj7 ?_
            refine zEv_k 2 (f' := (60, [some (.ref 198), some (.int s.1), none], [.int (zf_max 0 ((gI s.2 (198 + 10) j7) - (gI s.2 (22 + 2) j7))), .int s.1, .ref (198 + 10)], zhp s.2)) rfl ?_
            obtain ⟨h10, eh10, hv6⟩ := zlets hv6
            refine zRis rfl rfl (by decide) hj7 eh10 ?_
            refine zEv_k 1 (f' := (62, [some (.ref 198), some (.int s.1), none], [.ref 198], zhp h10)) rfl ?_
            refine zRgr rfl rfl rfl (by decide) (b := 198 + 11) rfl ?_
            refine zEv_k 2 (f' := (67, [some (.ref 198), some (.int s.1), none], [.int s.1, .ref (198 + 11), .int s.1, .ref (198 + 11)], zhp h10)) rfl ?_
            refine zRia rfl rfl (by decide) hj7 ?_
            refine zEv_k 1 (f' := (69, [some (.ref 198), some (.int s.1), none], [.ref 198, .int (gI h10 (198 + 11) j7), .int s.1, .ref (198 + 11)], zhp h10)) rfl ?_
            refine zRgc (by decide) rfl rfl rfl (by decide) ?_
            obtain ⟨a11, ea11, hv6⟩ := zlets hv6
            rw [ea11]
            obtain ⟨c12, hv6⟩ := zifn hv6
            rcases c12 with rfl | rfl
            · refine zRgr rfl rfl rfl (by decide) (b := 7 + 4) rfl ?_
              refine zEv_k 1 (f' := (76, [some (.ref 198), some (.int s.1), none], [.int s.1, .ref (7 + 4), .int (gI h10 (198 + 11) j7), .int s.1, .ref (198 + 11)], zhp h10)) rfl ?_
              refine zRia rfl rfl (by decide) hj7 ?_
              refine zEv_k 1 (f' := (78, [some (.ref 198), some (.int s.1), none], [.int ((gI h10 (198 + 11) j7) + (gI h10 (7 + 4) j7)), .int s.1, .ref (198 + 11)], zhp h10)) rfl ?_
              obtain ⟨h13, eh13, hv6⟩ := zlets hv6
              refine zRis rfl rfl (by decide) hj7 eh13 ?_
              cases hv6
              exact kv6
            · refine zRgr rfl rfl rfl (by decide) (b := 22 + 4) rfl ?_
              refine zEv_k 1 (f' := (76, [some (.ref 198), some (.int s.1), none], [.int s.1, .ref (22 + 4), .int (gI h10 (198 + 11) j7), .int s.1, .ref (198 + 11)], zhp h10)) rfl ?_
              refine zRia rfl rfl (by decide) hj7 ?_
              refine zEv_k 1 (f' := (78, [some (.ref 198), some (.int s.1), none], [.int ((gI h10 (198 + 11) j7) + (gI h10 (22 + 4) j7)), .int s.1, .ref (198 + 11)], zhp h10)) rfl ?_
              obtain ⟨h13, eh13, hv6⟩ := zlets hv6
              refine zRis rfl rfl (by decide) hj7 eh13 ?_
              cases hv6
              exact kv6
    · refine zEv_k 2 (f' := (if (gI s.2 22 2) ≤ s.1 then 85 else 24, [some (.ref 198), some (.int s.1), none], [], zhp s.2)) rfl (zEv_if (fun c4 => ?_) (fun c4 => ?_))
      · replace H := zif_t c4 H
        cases H
        exact K _
      · replace H := zif_f c4 H
        obtain ⟨v6, hv6, H⟩ := zbs H
        have kv6 : zEv (zXs Ls xs) (d + 2) zm_79 (79, [some (.ref 198), some (.int s.1), none], [], zhp v6) r := by
          refine zEv_k 2 (f' := (13, [some (.ref 198), some (.int (s.1 + 1)), none], [], zhp v6)) rfl ?_
          cases H
          exact K
        clear H
        refine zEv_k 3 (f' := (29, [some (.ref 198), some (.int s.1), none], [.int s.1, .int (gI s.2 198 2)], zhp s.2)) rfl ?_
        refine zEv_c (fun _ => rfl) rfl ev_zf_cin rfl rfl ?_
        refine zEv_k 1 (f' := (if ¬ (zf_cin (gI s.2 198 2) s.1) = 0 then 79 else 35, [some (.ref 198), some (.int s.1), none], [], zhp s.2)) rfl (zEv_if (fun c5 => ?_) (fun c5 => ?_))
        · replace hv6 := zif_t c5 hv6
          cases hv6
          exact kv6
        · replace hv6 := zif_f c5 hv6
          refine zEv_k 1 (f' := (36, [some (.ref 198), some (.int s.1), none], [.ref 198], zhp s.2)) rfl ?_
          refine zRgr rfl rfl rfl (by decide) (b := 198 + 10) rfl ?_
          refine zEv_k 3 (f' := (42, [some (.ref 198), some (.int s.1), none], [.ref 198, .int 0, .int s.1, .ref (198 + 10)], zhp s.2)) rfl ?_
          refine zRgr rfl rfl rfl (by decide) (b := 198 + 10) rfl ?_
          refine zEv_k 1 (f' := (46, [some (.ref 198), some (.int s.1), none], [.int s.1, .ref (198 + 10), .int 0, .int s.1, .ref (198 + 10)], zhp s.2)) rfl ?_
          obtain ⟨j7, hj7, hv6⟩ := zbs hv6
          refine zRia rfl rfl (by decide) hj7 ?_
          refine zEv_k 1 (f' := (48, [some (.ref 198), some (.int s.1), none], [.ref 198, .int (gI s.2 (198 + 10) j7), .int 0, .int s.1, .ref (198 + 10)], zhp s.2)) rfl ?_
          refine zRgc (by decide) rfl rfl rfl (by decide) ?_
          obtain ⟨a8, ea8, hv6⟩ := zlets hv6
          rw [ea8]
          obtain ⟨c9, hv6⟩ := zifn hv6
          rcases c9 with rfl | rfl
          · refine zRgr rfl rfl rfl (by decide) (b := 7 + 2) rfl ?_
            refine zEv_k 1 (f' := (55, [some (.ref 198), some (.int s.1), none], [.int s.1, .ref (7 + 2), .int (gI s.2 (198 + 10) j7), .int 0, .int s.1, .ref (198 + 10)], zhp s.2)) rfl ?_
            refine zRia rfl rfl (by decide) hj7 ?_
            refine zEv_k 2 (f' := (60, [some (.ref 198), some (.int s.1), none], [.int (zf_max 0 ((gI s.2 (198 + 10) j7) - (gI s.2 (7 + 2) j7))), .int s.1, .ref (198 + 10)], zhp s.2)) rfl ?_
            obtain ⟨h10, eh10, hv6⟩ := zlets hv6
            refine zRis rfl rfl (by decide) hj7 eh10 ?_
            refine zEv_k 1 (f' := (62, [some (.ref 198), some (.int s.1), none], [.ref 198], zhp h10)) rfl ?_
            refine zRgr rfl rfl rfl (by decide) (b := 198 + 11) rfl ?_
            refine zEv_k 2 (f' := (67, [some (.ref 198), some (.int s.1), none], [.int s.1, .ref (198 + 11), .int s.1, .ref (198 + 11)], zhp h10)) rfl ?_
            refine zRia rfl rfl (by decide) hj7 ?_
            refine zEv_k 1 (f' := (69, [some (.ref 198), some (.int s.1), none], [.ref 198, .int (gI h10 (198 + 11) j7), .int s.1, .ref (198 + 11)], zhp h10)) rfl ?_
            refine zRgc (by decide) rfl rfl rfl (by decide) ?_
            obtain ⟨a11, ea11, hv6⟩ := zlets hv6
            rw [ea11]
            obtain ⟨c12, hv6⟩ := zifn hv6
            rcases c12 with rfl | rfl
            · refine zRgr rfl rfl rfl (by decide) (b := 7 + 4) rfl ?_
              refine zEv_k 1 (f' := (76, [some (.ref 198), some (.int s.1), none], [.int s.1, .ref (7 + 4), .int (gI h10 (198 + 11) j7), .int s.1, .ref (198 + 11)], zhp h10)) rfl ?_
              refine zRia rfl rfl (by decide) hj7 ?_
              refine zEv_k 1 (f' := (78, [some (.ref 198), some (.int s.1), none], [.int ((gI h10 (198 + 11) j7) + (gI h10 (7 + 4) j7)), .int s.1, .ref (198 + 11)], zhp h10)) rfl ?_
              obtain ⟨h13, eh13, hv6⟩ := zlets hv6
              refine zRis rfl rfl (by decide) hj7 eh13 ?_
              cases hv6
              exact kv6
            · refine zRgr rfl rfl rfl (by decide) (b := 22 + 4) rfl ?_
              refine zEv_k 1 (f' := (76, [some (.ref 198), some (.int s.1), none], [.int s.1, .ref (22 + 4), .int (gI h10 (198 + 11) j7), .int s.1, .ref (198 + 11)], zhp h10)) rfl ?_
              refine zRia rfl rfl (by decide) hj7 ?_
              refine zEv_k 1 (f' := (78, [some (.ref 198), some (.int s.1), none], [.int ((gI h10 (198 + 11) j7) + (gI h10 (22 + 4) j7)), .int s.1, .ref (198 + 11)], zhp h10)) rfl ?_
              obtain ⟨h13, eh13, hv6⟩ := zlets hv6
              refine zRis rfl rfl (by decide) hj7 eh13 ?_
              cases hv6
              exact kv6
          · refine zRgr rfl rfl rfl (by decide) (b := 22 + 2) rfl ?_
            refine zEv_k 1 (f' := (55, [some (.ref 198), some (.int s.1), none], [.int s.1, .ref (22 + 2), .int (gI s.2 (198 + 10) j7), .int 0, .int s.1, .ref (198 + 10)], zhp s.2)) rfl ?_
            refine zRia rfl rfl (by decide) hj7 ?_
            refine zEv_k 2 (f' := (60, [some (.ref 198), some (.int s.1), none], [.int (zf_max 0 ((gI s.2 (198 + 10) j7) - (gI s.2 (22 + 2) j7))), .int s.1, .ref (198 + 10)], zhp s.2)) rfl ?_
            obtain ⟨h10, eh10, hv6⟩ := zlets hv6
            refine zRis rfl rfl (by decide) hj7 eh10 ?_
            refine zEv_k 1 (f' := (62, [some (.ref 198), some (.int s.1), none], [.ref 198], zhp h10)) rfl ?_
            refine zRgr rfl rfl rfl (by decide) (b := 198 + 11) rfl ?_
            refine zEv_k 2 (f' := (67, [some (.ref 198), some (.int s.1), none], [.int s.1, .ref (198 + 11), .int s.1, .ref (198 + 11)], zhp h10)) rfl ?_
            refine zRia rfl rfl (by decide) hj7 ?_
            refine zEv_k 1 (f' := (69, [some (.ref 198), some (.int s.1), none], [.ref 198, .int (gI h10 (198 + 11) j7), .int s.1, .ref (198 + 11)], zhp h10)) rfl ?_
            refine zRgc (by decide) rfl rfl rfl (by decide) ?_
            obtain ⟨a11, ea11, hv6⟩ := zlets hv6
            rw [ea11]
            obtain ⟨c12, hv6⟩ := zifn hv6
            rcases c12 with rfl | rfl
            · refine zRgr rfl rfl rfl (by decide) (b := 7 + 4) rfl ?_
              refine zEv_k 1 (f' := (76, [some (.ref 198), some (.int s.1), none], [.int s.1, .ref (7 + 4), .int (gI h10 (198 + 11) j7), .int s.1, .ref (198 + 11)], zhp h10)) rfl ?_
              refine zRia rfl rfl (by decide) hj7 ?_
              refine zEv_k 1 (f' := (78, [some (.ref 198), some (.int s.1), none], [.int ((gI h10 (198 + 11) j7) + (gI h10 (7 + 4) j7)), .int s.1, .ref (198 + 11)], zhp h10)) rfl ?_
              obtain ⟨h13, eh13, hv6⟩ := zlets hv6
              refine zRis rfl rfl (by decide) hj7 eh13 ?_
              cases hv6
              exact kv6
            · refine zRgr rfl rfl rfl (by decide) (b := 22 + 4) rfl ?_
              refine zEv_k 1 (f' := (76, [some (.ref 198), some (.int s.1), none], [.int s.1, .ref (22 + 4), .int (gI h10 (198 + 11) j7), .int s.1, .ref (198 + 11)], zhp h10)) rfl ?_
              refine zRia rfl rfl (by decide) hj7 ?_
              refine zEv_k 1 (f' := (78, [some (.ref 198), some (.int s.1), none], [.int ((gI h10 (198 + 11) j7) + (gI h10 (22 + 4) j7)), .int s.1, .ref (198 + 11)], zhp h10)) rfl ?_
              obtain ⟨h13, eh13, hv6⟩ := zlets hv6
              refine zRis rfl rfl (by decide) hj7 eh13 ?_
              cases hv6
              exact kv6
theorem t_qRu_passedYear_b13 {Ls : Nat} {xs : Nat → Int32} {d : Nat} {oo : Nat} {r : zA} (ho : oo = 166 ∨ oo = 198) {t : zK} (K : ∀ (z1 : Option Value), zEv (zXs Ls xs) (d + 2) zm_79 (85, [some (.ref oo), z1, none], [], zhp t) r) (n : Nat) (s : Int32 × zK) (H : zloop (qRu_passedYear_b13 oo) n s = some t) : zEv (zXs Ls xs) (d + 2) zm_79 (13, [some (.ref oo), some (.int s.1), none], [], zhp s.2) r := by
  have Z := zloop_P (P := fun s => zEv (zXs Ls xs) (d + 2) zm_79 (13, [some (.ref oo), some (.int s.1), none], [], zhp s.2) r) (b := qRu_passedYear_b13 oo) (t := t) (fun s s2 hb hk => by exact t_qRu_passedYear_b13b ho hb hk) (fun s hb => by exact t_qRu_passedYear_b13b ho hb K) n s H
  exact Z
def qRu_passedYear_b102 (oo : Nat) (s : Int32 × Int32 × zK) : Option ((Int32 × Int32 × zK) ⊕ (zK)) :=
  if 7 ≤ s.2.1 then
    some (.inr s.2.2)
  else
    if s.1 = (-1) then
      some (.inr s.2.2)
    else
      (qRu_burst oo s.1 s.2.2).bind fun p20 =>
      (qRu_firstToBurst oo p20).bind fun p21 =>
      some (.inl (p21, s.2.1 + 1, p20))
theorem t_qRu_passedYear_b102b {Ls : Nat} {xs : Nat → Int32} {d : Nat} {oo : Nat} {r : zA} {s : Int32 × Int32 × zK} {e : (Int32 × Int32 × zK) ⊕ (zK)} (ho : oo = 166 ∨ oo = 198) (H : qRu_passedYear_b102 oo s = some e) (K : match (generalizing := false) e with | .inl s' => zEv (zXs Ls xs) (d + 2) zm_79 (102, [some (.ref oo), some (.int s'.1), some (.int s'.2.1)], [], zhp s'.2.2) r | .inr v => ∀ (z1 : Option Value) (z2 : Option Value), zEv (zXs Ls xs) (d + 2) zm_79 (129, [some (.ref oo), z1, z2], [], zhp v) r) : zEv (zXs Ls xs) (d + 2) zm_79 (102, [some (.ref oo), some (.int s.1), some (.int s.2.1)], [], zhp s.2.2) r := by
  unfold qRu_passedYear_b102 at H
  rcases ho with rfl | rfl
  · refine zEv_k 3 (f' := (if 7 ≤ s.2.1 then 129 else 108, [some (.ref 166), some (.int s.1), some (.int s.2.1)], [], zhp s.2.2)) rfl (zEv_if (fun c18 => ?_) (fun c18 => ?_))
    · replace H := zif_t c18 H
      cases H
      exact K _ _
    · replace H := zif_f c18 H
      refine zEv_k 3 (f' := (if s.1 = (-1) then 129 else 113, [some (.ref 166), some (.int s.1), some (.int s.2.1)], [], zhp s.2.2)) rfl (zEv_if (fun c19 => ?_) (fun c19 => ?_))
      · replace H := zif_t c19 H
        cases H
        exact K _ _
      · replace H := zif_f c19 H
        refine zEv_k 2 (f' := (115, [some (.ref 166), some (.int s.1), some (.int s.2.1)], [.int s.1, .ref 166], zhp s.2.2)) rfl ?_
        obtain ⟨p20, hp20, H⟩ := zbs H
        refine zEv_c (fun _ => rfl) rfl (t_qRu_burst (oo := 166) (x1 := s.1) (h := s.2.2) (d := d) (by decide) hp20) rfl rfl ?_
        refine zEv_k 1 (f' := (119, [some (.ref 166), some (.int s.1), some (.int s.2.1)], [.ref 166], zhp p20)) rfl ?_
        obtain ⟨p21, hp21, H⟩ := zbs H
        refine zEv_c (fun _ => rfl) rfl (t_qRu_firstToBurst (oo := 166) (h := p20) (d := d) (by decide) hp21) rfl rfl ?_
        refine zEv_k 3 (f' := (102, [some (.ref 166), some (.int p21), some (.int (s.2.1 + 1))], [], zhp p20)) rfl ?_
        cases H
        exact K
  · refine zEv_k 3 (f' := (if 7 ≤ s.2.1 then 129 else 108, [some (.ref 198), some (.int s.1), some (.int s.2.1)], [], zhp s.2.2)) rfl (zEv_if (fun c18 => ?_) (fun c18 => ?_))
    · replace H := zif_t c18 H
      cases H
      exact K _ _
    · replace H := zif_f c18 H
      refine zEv_k 3 (f' := (if s.1 = (-1) then 129 else 113, [some (.ref 198), some (.int s.1), some (.int s.2.1)], [], zhp s.2.2)) rfl (zEv_if (fun c19 => ?_) (fun c19 => ?_))
      · replace H := zif_t c19 H
        cases H
        exact K _ _
      · replace H := zif_f c19 H
        refine zEv_k 2 (f' := (115, [some (.ref 198), some (.int s.1), some (.int s.2.1)], [.int s.1, .ref 198], zhp s.2.2)) rfl ?_
        obtain ⟨p20, hp20, H⟩ := zbs H
        refine zEv_c (fun _ => rfl) rfl (t_qRu_burst (oo := 198) (x1 := s.1) (h := s.2.2) (d := d) (by decide) hp20) rfl rfl ?_
        refine zEv_k 1 (f' := (119, [some (.ref 198), some (.int s.1), some (.int s.2.1)], [.ref 198], zhp p20)) rfl ?_
        obtain ⟨p21, hp21, H⟩ := zbs H
        refine zEv_c (fun _ => rfl) rfl (t_qRu_firstToBurst (oo := 198) (h := p20) (d := d) (by decide) hp21) rfl rfl ?_
        refine zEv_k 3 (f' := (102, [some (.ref 198), some (.int p21), some (.int (s.2.1 + 1))], [], zhp p20)) rfl ?_
        cases H
        exact K
theorem t_qRu_passedYear_b102 {Ls : Nat} {xs : Nat → Int32} {d : Nat} {oo : Nat} {r : zA} (ho : oo = 166 ∨ oo = 198) {t : zK} (K : ∀ (z1 : Option Value) (z2 : Option Value), zEv (zXs Ls xs) (d + 2) zm_79 (129, [some (.ref oo), z1, z2], [], zhp t) r) (n : Nat) (s : Int32 × Int32 × zK) (H : zloop (qRu_passedYear_b102 oo) n s = some t) : zEv (zXs Ls xs) (d + 2) zm_79 (102, [some (.ref oo), some (.int s.1), some (.int s.2.1)], [], zhp s.2.2) r := by
  have Z := zloop_P (P := fun s => zEv (zXs Ls xs) (d + 2) zm_79 (102, [some (.ref oo), some (.int s.1), some (.int s.2.1)], [], zhp s.2.2) r) (b := qRu_passedYear_b102 oo) (t := t) (fun s s2 hb hk => by exact t_qRu_passedYear_b102b ho hb hk) (fun s hb => by exact t_qRu_passedYear_b102b ho hb K) n s H
  exact Z
def qRu_passedYear (oo : Nat) (h : zK) : Option (Int32 × zK) :=
  if (gI h oo 0) < 50 then
    (zloop (qRu_passedYear_b13 oo) zfu (0, h)).bind fun t14 =>
    zlet (sI t14 oo 0 ((gI t14 oo 0) + 1)) fun h16 =>
    (qRu_firstToBurst oo h16).bind fun p17 =>
    (zloop (qRu_passedYear_b102 oo) zfu (p17, 0, h16)).bind fun t22 =>
    some (1, t22)
  else
    some (0, h)
theorem t_qRu_passedYear {Ls : Nat} {xs : Nat → Int32} {d : Nat} {oo : Nat} {h : zK} {p : Int32 × zK} (ho : oo = 166 ∨ oo = 198) (H : qRu_passedYear oo h = some p) : zEv (zXs Ls xs) (d + 2) zm_79 (0, [some (.ref oo), none, none], [], zhp h) (some (.int p.1), zhp p.2) := by
  unfold qRu_passedYear at H
  rcases ho with rfl | rfl
  · refine zEv_k 4 (f' := (if (gI h 166 0) < 50 then 11 else 9, [some (.ref 166), none, none], [], zhp h)) rfl (zEv_if (fun c1 => ?_) (fun c1 => ?_))
    · replace H := zif_t c1 H
      refine zEv_k 2 (f' := (13, [some (.ref 166), some (.int 0), none], [], zhp h)) rfl ?_
      obtain ⟨t14, ht14, H⟩ := zbs H
      refine t_qRu_passedYear_b13 (oo := 166) (by decide) ?_ zfu _ ht14
      intro y1
      obtain ⟨h16, eh16, H⟩ := zlets H
      refine zEv_w (F := fun z => (95, [some (.ref 166), y1, none], [], zhp z)) (h0 := sI t14 166 0 ((gI t14 166 0) + 1)) 6 rfl eh16 ?_
      refine zEv_k 1 (f' := (96, [some (.ref 166), y1, none], [.ref 166], zhp h16)) rfl ?_
      obtain ⟨p17, hp17, H⟩ := zbs H
      refine zEv_c (fun _ => rfl) rfl (t_qRu_firstToBurst (oo := 166) (h := h16) (d := d) (by decide) hp17) rfl rfl ?_
      refine zEv_k 3 (f' := (102, [some (.ref 166), some (.int p17), some (.int 0)], [], zhp h16)) rfl ?_
      obtain ⟨t22, ht22, H⟩ := zbs H
      refine t_qRu_passedYear_b102 (oo := 166) (by decide) ?_ zfu _ ht22
      intro y1 y2
      refine zEv_k 1 (f' := (130, [some (.ref 166), y1, y2], [.int 1], zhp t22)) rfl ?_
      cases H
      exact zEv_r rfl
    · replace H := zif_f c1 H
      refine zEv_k 1 (f' := (10, [some (.ref 166), none, none], [.int 0], zhp h)) rfl ?_
      cases H
      exact zEv_r rfl
  · refine zEv_k 4 (f' := (if (gI h 198 0) < 50 then 11 else 9, [some (.ref 198), none, none], [], zhp h)) rfl (zEv_if (fun c1 => ?_) (fun c1 => ?_))
    · replace H := zif_t c1 H
      refine zEv_k 2 (f' := (13, [some (.ref 198), some (.int 0), none], [], zhp h)) rfl ?_
      obtain ⟨t14, ht14, H⟩ := zbs H
      refine t_qRu_passedYear_b13 (oo := 198) (by decide) ?_ zfu _ ht14
      intro y1
      obtain ⟨h16, eh16, H⟩ := zlets H
      refine zEv_w (F := fun z => (95, [some (.ref 198), y1, none], [], zhp z)) (h0 := sI t14 198 0 ((gI t14 198 0) + 1)) 6 rfl eh16 ?_
      refine zEv_k 1 (f' := (96, [some (.ref 198), y1, none], [.ref 198], zhp h16)) rfl ?_
      obtain ⟨p17, hp17, H⟩ := zbs H
      refine zEv_c (fun _ => rfl) rfl (t_qRu_firstToBurst (oo := 198) (h := h16) (d := d) (by decide) hp17) rfl rfl ?_
      refine zEv_k 3 (f' := (102, [some (.ref 198), some (.int p17), some (.int 0)], [], zhp h16)) rfl ?_
      obtain ⟨t22, ht22, H⟩ := zbs H
      refine t_qRu_passedYear_b102 (oo := 198) (by decide) ?_ zfu _ ht22
      intro y1 y2
      refine zEv_k 1 (f' := (130, [some (.ref 198), y1, y2], [.int 1], zhp t22)) rfl ?_
      cases H
      exact zEv_r rfl
    · replace H := zif_f c1 H
      refine zEv_k 1 (f' := (10, [some (.ref 198), none, none], [.int 0], zhp h)) rfl ?_
      cases H
      exact zEv_r rfl
def qRu_passYears_b2 (oo : Nat) (x1 : Int32) (s : Int32 × zK) : Option ((Int32 × zK) ⊕ (zK)) :=
  if x1 ≤ s.1 then
    some (.inr s.2)
  else
    (qRu_passedYear oo s.2).bind fun p2 =>
    some (.inl (s.1 + 1, p2.2))
theorem t_qRu_passYears_b2b {Ls : Nat} {xs : Nat → Int32} {d : Nat} {oo : Nat} {x1 : Int32} {r : zA} {s : Int32 × zK} {e : (Int32 × zK) ⊕ (zK)} (ho : oo = 166 ∨ oo = 198) (H : qRu_passYears_b2 oo x1 s = some e) (K : match (generalizing := false) e with | .inl s' => zEv (zXs Ls xs) (d + 3) zm_74 (2, [some (.ref oo), some (.int x1), some (.int s'.1)], [], zhp s'.2) r | .inr v => ∀ (z2 : Option Value), zEv (zXs Ls xs) (d + 3) zm_74 (18, [some (.ref oo), some (.int x1), z2], [], zhp v) r) : zEv (zXs Ls xs) (d + 3) zm_74 (2, [some (.ref oo), some (.int x1), some (.int s.1)], [], zhp s.2) r := by
  unfold qRu_passYears_b2 at H
  rcases ho with rfl | rfl
  · refine zEv_k 3 (f' := (if x1 ≤ s.1 then 18 else 7, [some (.ref 166), some (.int x1), some (.int s.1)], [], zhp s.2)) rfl (zEv_if (fun c1 => ?_) (fun c1 => ?_))
    · replace H := zif_t c1 H
      cases H
      exact K _
    · replace H := zif_f c1 H
      refine zEv_k 1 (f' := (8, [some (.ref 166), some (.int x1), some (.int s.1)], [.ref 166], zhp s.2)) rfl ?_
      obtain ⟨p2, hp2, H⟩ := zbs H
      refine zEv_c (fun _ => rfl) rfl (t_qRu_passedYear (oo := 166) (h := s.2) (d := d) (by decide) hp2) rfl rfl ?_
      refine zEv_k 3 (f' := (2, [some (.ref 166), some (.int x1), some (.int (s.1 + 1))], [], zhp p2.2)) rfl ?_
      cases H
      exact K
  · refine zEv_k 3 (f' := (if x1 ≤ s.1 then 18 else 7, [some (.ref 198), some (.int x1), some (.int s.1)], [], zhp s.2)) rfl (zEv_if (fun c1 => ?_) (fun c1 => ?_))
    · replace H := zif_t c1 H
      cases H
      exact K _
    · replace H := zif_f c1 H
      refine zEv_k 1 (f' := (8, [some (.ref 198), some (.int x1), some (.int s.1)], [.ref 198], zhp s.2)) rfl ?_
      obtain ⟨p2, hp2, H⟩ := zbs H
      refine zEv_c (fun _ => rfl) rfl (t_qRu_passedYear (oo := 198) (h := s.2) (d := d) (by decide) hp2) rfl rfl ?_
      refine zEv_k 3 (f' := (2, [some (.ref 198), some (.int x1), some (.int (s.1 + 1))], [], zhp p2.2)) rfl ?_
      cases H
      exact K
theorem t_qRu_passYears_b2 {Ls : Nat} {xs : Nat → Int32} {d : Nat} {oo : Nat} {x1 : Int32} {r : zA} (ho : oo = 166 ∨ oo = 198) {t : zK} (K : ∀ (z2 : Option Value), zEv (zXs Ls xs) (d + 3) zm_74 (18, [some (.ref oo), some (.int x1), z2], [], zhp t) r) (n : Nat) (s : Int32 × zK) (H : zloop (qRu_passYears_b2 oo x1) n s = some t) : zEv (zXs Ls xs) (d + 3) zm_74 (2, [some (.ref oo), some (.int x1), some (.int s.1)], [], zhp s.2) r := by
  have Z := zloop_P (P := fun s => zEv (zXs Ls xs) (d + 3) zm_74 (2, [some (.ref oo), some (.int x1), some (.int s.1)], [], zhp s.2) r) (b := qRu_passYears_b2 oo x1) (t := t) (fun s s2 hb hk => by exact t_qRu_passYears_b2b ho hb hk) (fun s hb => by exact t_qRu_passYears_b2b ho hb K) n s H
  exact Z
def qRu_passYears (oo : Nat) (x1 : Int32) (h : zK) : Option (zK) :=
  (zloop (qRu_passYears_b2 oo x1) zfu (0, h)).bind fun t3 =>
  some t3
theorem t_qRu_passYears {Ls : Nat} {xs : Nat → Int32} {d : Nat} {oo : Nat} {x1 : Int32} {h : zK} {p : zK} (ho : oo = 166 ∨ oo = 198) (H : qRu_passYears oo x1 h = some p) : zEv (zXs Ls xs) (d + 3) zm_74 (0, [some (.ref oo), some (.int x1), none], [], zhp h) (none, zhp p) := by
  unfold qRu_passYears at H
  rcases ho with rfl | rfl
  · refine zEv_k 2 (f' := (2, [some (.ref 166), some (.int x1), some (.int 0)], [], zhp h)) rfl ?_
    obtain ⟨t3, ht3, H⟩ := zbs H
    refine t_qRu_passYears_b2 (oo := 166) (x1 := x1) (by decide) ?_ zfu _ ht3
    intro y2
    cases H
    exact zEv_r rfl
  · refine zEv_k 2 (f' := (2, [some (.ref 198), some (.int x1), some (.int 0)], [], zhp h)) rfl ?_
    obtain ⟨t3, ht3, H⟩ := zbs H
    refine t_qRu_passYears_b2 (oo := 198) (x1 := x1) (by decide) ?_ zfu _ ht3
    intro y2
    cases H
    exact zEv_r rfl
def qLw_learn_b52 (oc : Nat) (x2 : Int32) (h : zK) (s : Int64 × Int32) : Option ((Int64 × Int32) ⊕ (Int64)) :=
  if 20 < s.2 then
    some (.inr s.1)
  else
    (zix s.2 51).bind fun j7 =>
    some (.inl (s.1 ||| ((Int32.toInt64 (gI h 199 j7)) <<< (Int32.toInt64 (3 * s.2) &&& 63)), s.2 + 1))
theorem t_qLw_learn_b52b {Ls : Nat} {xs : Nat → Int32} {d : Nat} {oc : Nat} {x2 : Int32} {h : zK} {r : zA} {s : Int64 × Int32} {e : (Int64 × Int32) ⊕ (Int64)} (ho : oc = 7 ∨ oc = 22) (H : qLw_learn_b52 oc x2 h s = some e) (K : match (generalizing := false) e with | .inl s' => zEv (zXs Ls xs) (d + 4) zm_17 (52, [some (.ref 196), some (.ref oc), some (.int x2), some (.long s'.1), none, some (.int s'.2)], [], zhp h) r | .inr v => ∀ (z5 : Option Value), zEv (zXs Ls xs) (d + 4) zm_17 (84, [some (.ref 196), some (.ref oc), some (.int x2), some (.long v), none, z5], [], zhp h) r) : zEv (zXs Ls xs) (d + 4) zm_17 (52, [some (.ref 196), some (.ref oc), some (.int x2), some (.long s.1), none, some (.int s.2)], [], zhp h) r := by
  unfold qLw_learn_b52 at H
  rcases ho with rfl | rfl
  · refine zEv_k 3 (f' := (if 20 < s.2 then 84 else 59, [some (.ref 196), some (.ref 7), some (.int x2), some (.long s.1), none, some (.int s.2)], [], zhp h)) rfl (zEv_if (fun c6 => ?_) (fun c6 => ?_))
    · replace H := zif_t c6 H
      cases H
      exact K _
    · replace H := zif_f c6 H
      refine zEv_k 2 (f' := (61, [some (.ref 196), some (.ref 7), some (.int x2), some (.long s.1), none, some (.int s.2)], [.ref 196, .long s.1], zhp h)) rfl ?_
      refine zRgr rfl rfl rfl (by decide) (b := 198) rfl ?_
      refine zRgr rfl rfl rfl (by decide) (b := 199) rfl ?_
      refine zEv_k 1 (f' := (69, [some (.ref 196), some (.ref 7), some (.int x2), some (.long s.1), none, some (.int s.2)], [.int s.2, .ref 199, .long s.1], zhp h)) rfl ?_
      obtain ⟨j7, hj7, H⟩ := zbs H
      refine zRia rfl rfl (by decide) hj7 ?_
      refine zEv_k 9 (f' := (52, [some (.ref 196), some (.ref 7), some (.int x2), some (.long (s.1 ||| ((Int32.toInt64 (gI h 199 j7)) <<< (Int32.toInt64 (3 * s.2) &&& 63)))), none, some (.int (s.2 + 1))], [], zhp h)) rfl ?_
      cases H
      exact K
  · refine zEv_k 3 (f' := (if 20 < s.2 then 84 else 59, [some (.ref 196), some (.ref 22), some (.int x2), some (.long s.1), none, some (.int s.2)], [], zhp h)) rfl (zEv_if (fun c6 => ?_) (fun c6 => ?_))
    · replace H := zif_t c6 H
      cases H
      exact K _
    · replace H := zif_f c6 H
      refine zEv_k 2 (f' := (61, [some (.ref 196), some (.ref 22), some (.int x2), some (.long s.1), none, some (.int s.2)], [.ref 196, .long s.1], zhp h)) rfl ?_
      refine zRgr rfl rfl rfl (by decide) (b := 198) rfl ?_
      refine zRgr rfl rfl rfl (by decide) (b := 199) rfl ?_
      refine zEv_k 1 (f' := (69, [some (.ref 196), some (.ref 22), some (.int x2), some (.long s.1), none, some (.int s.2)], [.int s.2, .ref 199, .long s.1], zhp h)) rfl ?_
      obtain ⟨j7, hj7, H⟩ := zbs H
      refine zRia rfl rfl (by decide) hj7 ?_
      refine zEv_k 9 (f' := (52, [some (.ref 196), some (.ref 22), some (.int x2), some (.long (s.1 ||| ((Int32.toInt64 (gI h 199 j7)) <<< (Int32.toInt64 (3 * s.2) &&& 63)))), none, some (.int (s.2 + 1))], [], zhp h)) rfl ?_
      cases H
      exact K
theorem t_qLw_learn_b52 {Ls : Nat} {xs : Nat → Int32} {d : Nat} {oc : Nat} {x2 : Int32} {h : zK} {r : zA} (ho : oc = 7 ∨ oc = 22) {t : Int64} (K : ∀ (z5 : Option Value), zEv (zXs Ls xs) (d + 4) zm_17 (84, [some (.ref 196), some (.ref oc), some (.int x2), some (.long t), none, z5], [], zhp h) r) (n : Nat) (s : Int64 × Int32) (H : zloop (qLw_learn_b52 oc x2 h) n s = some t) : zEv (zXs Ls xs) (d + 4) zm_17 (52, [some (.ref 196), some (.ref oc), some (.int x2), some (.long s.1), none, some (.int s.2)], [], zhp h) r := by
  have Z := zloop_P (P := fun s => zEv (zXs Ls xs) (d + 4) zm_17 (52, [some (.ref 196), some (.ref oc), some (.int x2), some (.long s.1), none, some (.int s.2)], [], zhp h) r) (b := qLw_learn_b52 oc x2 h) (t := t) (fun s s2 hb hk => by exact t_qLw_learn_b52b ho hb hk) (fun s hb => by exact t_qLw_learn_b52b ho hb K) n s H
  exact Z
def qLw_learn_b2 (oc : Nat) (s : Int32 × zK) : Option ((Int32 × zK) ⊕ (zK)) :=
  if 100 ≤ s.1 then
    some (.inr s.2)
  else
    (qRu_begin 198 oc s.2).bind fun p2 =>
    zlet (sI p2 198 3 (s.1 / 10)) fun h3 =>
    zlet (sI h3 198 4 (s.1 - s.1 / 10 * 10)) fun h4 =>
    (qRu_passYears 198 20 h4).bind fun p5 =>
    (zloop (qLw_learn_b52 oc s.1 p5) zfu (0, 1)).bind fun t8 =>
    (zix ((gI p5 196 6) + s.1) 200).bind fun j10 =>
    zlet (sJ p5 212 j10 t8) fun h11 =>
    some (.inl (s.1 + 1, h11))
theorem t_qLw_learn_b2b {Ls : Nat} {xs : Nat → Int32} {d : Nat} {oc : Nat} {r : zA} {s : Int32 × zK} {e : (Int32 × zK) ⊕ (zK)} (ho : oc = 7 ∨ oc = 22) (H : qLw_learn_b2 oc s = some e) (K : match (generalizing := false) e with | .inl s' => ∀ (z3 : Option Value) (z5 : Option Value), zEv (zXs Ls xs) (d + 4) zm_17 (2, [some (.ref 196), some (.ref oc), some (.int s'.1), z3, none, z5], [], zhp s'.2) r | .inr v => ∀ (z2 : Option Value) (z3 : Option Value) (z5 : Option Value), zEv (zXs Ls xs) (d + 4) zm_17 (102, [some (.ref 196), some (.ref oc), z2, z3, none, z5], [], zhp v) r) (y3 : Option Value) (y5 : Option Value) : zEv (zXs Ls xs) (d + 4) zm_17 (2, [some (.ref 196), some (.ref oc), some (.int s.1), y3, none, y5], [], zhp s.2) r := by
  unfold qLw_learn_b2 at H
  rcases ho with rfl | rfl
  · refine zEv_k 3 (f' := (if 100 ≤ s.1 then 102 else 8, [some (.ref 196), some (.ref 7), some (.int s.1), y3, none, y5], [], zhp s.2)) rfl (zEv_if (fun c1 => ?_) (fun c1 => ?_))
    · replace H := zif_t c1 H
      cases H
      exact K _ _ _
    · replace H := zif_f c1 H
      refine zEv_k 1 (f' := (9, [some (.ref 196), some (.ref 7), some (.int s.1), y3, none, y5], [.ref 196], zhp s.2)) rfl ?_
      refine zRgr rfl rfl rfl (by decide) (b := 198) rfl ?_
      refine zEv_k 1 (f' := (13, [some (.ref 196), some (.ref 7), some (.int s.1), y3, none, y5], [.ref 7, .ref 198], zhp s.2)) rfl ?_
      obtain ⟨p2, hp2, H⟩ := zbs H
      refine zEv_c (fun _ => rfl) rfl (t_qRu_begin (oo := 198) (oc := 7) (h := s.2) (d := d + 3) (by decide) hp2) rfl rfl ?_
      refine zEv_k 1 (f' := (17, [some (.ref 196), some (.ref 7), some (.int s.1), y3, none, y5], [.ref 196], zhp p2)) rfl ?_
      refine zRgr rfl rfl rfl (by decide) (b := 198) rfl ?_
      refine zEv_k 2 (f' := (23, [some (.ref 196), some (.ref 7), some (.int s.1), y3, none, y5], [.int 10, .int s.1, .ref 198], zhp p2)) rfl ?_
      refine zEv_div rfl (by decide) ?_
      obtain ⟨h3, eh3, H⟩ := zlets H
      refine zEv_w (F := fun z => (27, [some (.ref 196), some (.ref 7), some (.int s.1), y3, none, y5], [], zhp z)) (h0 := sI p2 198 3 (s.1 / 10)) 1 rfl eh3 ?_
      refine zEv_k 1 (f' := (28, [some (.ref 196), some (.ref 7), some (.int s.1), y3, none, y5], [.ref 196], zhp h3)) rfl ?_
      refine zRgr rfl rfl rfl (by decide) (b := 198) rfl ?_
      refine zEv_k 2 (f' := (34, [some (.ref 196), some (.ref 7), some (.int s.1), y3, none, y5], [.int 10, .int s.1, .ref 198], zhp h3)) rfl ?_
      refine zEv_rem rfl (by decide) ?_
      obtain ⟨h4, eh4, H⟩ := zlets H
      refine zEv_w (F := fun z => (38, [some (.ref 196), some (.ref 7), some (.int s.1), y3, none, y5], [], zhp z)) (h0 := sI h3 198 4 (s.1 - s.1 / 10 * 10)) 1 rfl eh4 ?_
      refine zEv_k 3 (f' := (41, [some (.ref 196), some (.ref 7), some (.int s.1), some (.long 0), none, y5], [.ref 196], zhp h4)) rfl ?_
      refine zRgr rfl rfl rfl (by decide) (b := 198) rfl ?_
      refine zEv_k 1 (f' := (46, [some (.ref 196), some (.ref 7), some (.int s.1), some (.long 0), none, y5], [.int 20, .ref 198], zhp h4)) rfl ?_
      obtain ⟨p5, hp5, H⟩ := zbs H
      refine zEv_c (fun _ => rfl) rfl (t_qRu_passYears (oo := 198) (x1 := 20) (h := h4) (d := d) (by decide) hp5) rfl rfl ?_
      refine zEv_k 2 (f' := (52, [some (.ref 196), some (.ref 7), some (.int s.1), some (.long 0), none, some (.int 1)], [], zhp p5)) rfl ?_
      obtain ⟨t8, ht8, H⟩ := zbs H
      refine t_qLw_learn_b52 (oc := 7) (x2 := s.1) (h := p5) (by decide) ?_ zfu _ ht8
      intro y5
      refine zEv_k 1 (f' := (85, [some (.ref 196), some (.ref 7), some (.int s.1), some (.long t8), none, y5], [.ref 196], zhp p5)) rfl ?_
      refine zRgr rfl rfl rfl (by decide) (b := 212) rfl ?_
      refine zEv_k 5 (f' := (95, [some (.ref 196), some (.ref 7), some (.int s.1), some (.long t8), none, y5], [.long t8, .int ((gI p5 196 6) + s.1), .ref 212], zhp p5)) rfl ?_
      obtain ⟨j10, hj10, H⟩ := zbs H
      obtain ⟨h11, eh11, H⟩ := zlets H
      refine zRls rfl rfl (by decide) hj10 eh11 ?_
      refine zEv_k 2 (f' := (2, [some (.ref 196), some (.ref 7), some (.int (s.1 + 1)), some (.long t8), none, y5], [], zhp h11)) rfl ?_
      cases H
      exact K _ _
  · refine zEv_k 3 (f' := (if 100 ≤ s.1 then 102 else 8, [some (.ref 196), some (.ref 22), some (.int s.1), y3, none, y5], [], zhp s.2)) rfl (zEv_if (fun c1 => ?_) (fun c1 => ?_))
    · replace H := zif_t c1 H
      cases H
      exact K _ _ _
    · replace H := zif_f c1 H
      refine zEv_k 1 (f' := (9, [some (.ref 196), some (.ref 22), some (.int s.1), y3, none, y5], [.ref 196], zhp s.2)) rfl ?_
      refine zRgr rfl rfl rfl (by decide) (b := 198) rfl ?_
      refine zEv_k 1 (f' := (13, [some (.ref 196), some (.ref 22), some (.int s.1), y3, none, y5], [.ref 22, .ref 198], zhp s.2)) rfl ?_
      obtain ⟨p2, hp2, H⟩ := zbs H
      refine zEv_c (fun _ => rfl) rfl (t_qRu_begin (oo := 198) (oc := 22) (h := s.2) (d := d + 3) (by decide) hp2) rfl rfl ?_
      refine zEv_k 1 (f' := (17, [some (.ref 196), some (.ref 22), some (.int s.1), y3, none, y5], [.ref 196], zhp p2)) rfl ?_
      refine zRgr rfl rfl rfl (by decide) (b := 198) rfl ?_
      refine zEv_k 2 (f' := (23, [some (.ref 196), some (.ref 22), some (.int s.1), y3, none, y5], [.int 10, .int s.1, .ref 198], zhp p2)) rfl ?_
      refine zEv_div rfl (by decide) ?_
      obtain ⟨h3, eh3, H⟩ := zlets H
      refine zEv_w (F := fun z => (27, [some (.ref 196), some (.ref 22), some (.int s.1), y3, none, y5], [], zhp z)) (h0 := sI p2 198 3 (s.1 / 10)) 1 rfl eh3 ?_
      refine zEv_k 1 (f' := (28, [some (.ref 196), some (.ref 22), some (.int s.1), y3, none, y5], [.ref 196], zhp h3)) rfl ?_
      refine zRgr rfl rfl rfl (by decide) (b := 198) rfl ?_
      refine zEv_k 2 (f' := (34, [some (.ref 196), some (.ref 22), some (.int s.1), y3, none, y5], [.int 10, .int s.1, .ref 198], zhp h3)) rfl ?_
      refine zEv_rem rfl (by decide) ?_
      obtain ⟨h4, eh4, H⟩ := zlets H
      refine zEv_w (F := fun z => (38, [some (.ref 196), some (.ref 22), some (.int s.1), y3, none, y5], [], zhp z)) (h0 := sI h3 198 4 (s.1 - s.1 / 10 * 10)) 1 rfl eh4 ?_
      refine zEv_k 3 (f' := (41, [some (.ref 196), some (.ref 22), some (.int s.1), some (.long 0), none, y5], [.ref 196], zhp h4)) rfl ?_
      refine zRgr rfl rfl rfl (by decide) (b := 198) rfl ?_
      refine zEv_k 1 (f' := (46, [some (.ref 196), some (.ref 22), some (.int s.1), some (.long 0), none, y5], [.int 20, .ref 198], zhp h4)) rfl ?_
      obtain ⟨p5, hp5, H⟩ := zbs H
      refine zEv_c (fun _ => rfl) rfl (t_qRu_passYears (oo := 198) (x1 := 20) (h := h4) (d := d) (by decide) hp5) rfl rfl ?_
      refine zEv_k 2 (f' := (52, [some (.ref 196), some (.ref 22), some (.int s.1), some (.long 0), none, some (.int 1)], [], zhp p5)) rfl ?_
      obtain ⟨t8, ht8, H⟩ := zbs H
      refine t_qLw_learn_b52 (oc := 22) (x2 := s.1) (h := p5) (by decide) ?_ zfu _ ht8
      intro y5
      refine zEv_k 1 (f' := (85, [some (.ref 196), some (.ref 22), some (.int s.1), some (.long t8), none, y5], [.ref 196], zhp p5)) rfl ?_
      refine zRgr rfl rfl rfl (by decide) (b := 212) rfl ?_
      refine zEv_k 5 (f' := (95, [some (.ref 196), some (.ref 22), some (.int s.1), some (.long t8), none, y5], [.long t8, .int ((gI p5 196 6) + s.1), .ref 212], zhp p5)) rfl ?_
      obtain ⟨j10, hj10, H⟩ := zbs H
      obtain ⟨h11, eh11, H⟩ := zlets H
      refine zRls rfl rfl (by decide) hj10 eh11 ?_
      refine zEv_k 2 (f' := (2, [some (.ref 196), some (.ref 22), some (.int (s.1 + 1)), some (.long t8), none, y5], [], zhp h11)) rfl ?_
      cases H
      exact K _ _
theorem t_qLw_learn_b2 {Ls : Nat} {xs : Nat → Int32} {d : Nat} {oc : Nat} {r : zA} (ho : oc = 7 ∨ oc = 22) {t : zK} (K : ∀ (z2 : Option Value) (z3 : Option Value) (z5 : Option Value), zEv (zXs Ls xs) (d + 4) zm_17 (102, [some (.ref 196), some (.ref oc), z2, z3, none, z5], [], zhp t) r) (n : Nat) (s : Int32 × zK) (H : zloop (qLw_learn_b2 oc) n s = some t) (y3 : Option Value) (y5 : Option Value) : zEv (zXs Ls xs) (d + 4) zm_17 (2, [some (.ref 196), some (.ref oc), some (.int s.1), y3, none, y5], [], zhp s.2) r := by
  have Z := zloop_P (P := fun s => ∀ (y3 : Option Value) (y5 : Option Value), zEv (zXs Ls xs) (d + 4) zm_17 (2, [some (.ref 196), some (.ref oc), some (.int s.1), y3, none, y5], [], zhp s.2) r) (b := qLw_learn_b2 oc) (t := t) (fun s s2 hb hk => by intro y3 y5; exact t_qLw_learn_b2b ho hb hk y3 y5) (fun s hb => by intro y3 y5; exact t_qLw_learn_b2b ho hb K y3 y5) n s H
  exact Z y3 y5
def qLw_learn (oc : Nat) (h : zK) : Option (zK) :=
  (zloop (qLw_learn_b2 oc) zfu (0, h)).bind fun t12 =>
  some t12
theorem t_qLw_learn {Ls : Nat} {xs : Nat → Int32} {d : Nat} {oc : Nat} {h : zK} {p : zK} (ho : oc = 7 ∨ oc = 22) (H : qLw_learn oc h = some p) : zEv (zXs Ls xs) (d + 4) zm_17 (0, [some (.ref 196), some (.ref oc), none, none, none, none], [], zhp h) (none, zhp p) := by
  unfold qLw_learn at H
  rcases ho with rfl | rfl
  · refine zEv_k 2 (f' := (2, [some (.ref 196), some (.ref 7), some (.int 0), none, none, none], [], zhp h)) rfl ?_
    obtain ⟨t12, ht12, H⟩ := zbs H
    refine t_qLw_learn_b2 (oc := 7) (by decide) ?_ zfu _ ht12 _ _
    intro y2 y3 y5
    cases H
    exact zEv_r rfl
  · refine zEv_k 2 (f' := (2, [some (.ref 196), some (.ref 22), some (.int 0), none, none, none], [], zhp h)) rfl ?_
    obtain ⟨t12, ht12, H⟩ := zbs H
    refine t_qLw_learn_b2 (oc := 22) (by decide) ?_ zfu _ ht12 _ _
    intro y2 y3 y5
    cases H
    exact zEv_r rfl
def qLw_burstsBy (x1 : Int32) (x2 : Int32) (h : zK) : Option (Int32) :=
  (zix ((gI h 196 6) + x1) 200).bind fun j1 =>
  some ((Int64.toInt32 ((Int64.toUInt64 (gJ h 212 j1) >>> ((Int32.toInt64 (3 * x2)).toUInt64 &&& Int64.toUInt64 63)).toInt64)) &&& 7)
theorem t_qLw_burstsBy {Ls : Nat} {xs : Nat → Int32} {d : Nat} {x1 : Int32} {x2 : Int32} {h : zK} {p : Int32} (H : qLw_burstsBy x1 x2 h = some p) : zEv (zXs Ls xs) d zm_18 (0, [some (.ref 196), some (.int x1), some (.int x2)], [], zhp h) (some (.int p), zhp h) := by
  unfold qLw_burstsBy at H
  refine zEv_k 1 (f' := (1, [some (.ref 196), some (.int x1), some (.int x2)], [.ref 196], zhp h)) rfl ?_
  refine zRgr rfl rfl rfl (by decide) (b := 212) rfl ?_
  refine zEv_k 4 (f' := (10, [some (.ref 196), some (.int x1), some (.int x2)], [.int ((gI h 196 6) + x1), .ref 212], zhp h)) rfl ?_
  obtain ⟨j1, hj1, H⟩ := zbs H
  refine zRla rfl rfl (by decide) hj1 ?_
  refine zEv_k 7 (f' := (19, [some (.ref 196), some (.int x1), some (.int x2)], [.int ((Int64.toInt32 ((Int64.toUInt64 (gJ h 212 j1) >>> ((Int32.toInt64 (3 * x2)).toUInt64 &&& Int64.toUInt64 63)).toInt64)) &&& 7)], zhp h)) rfl ?_
  cases H
  exact zEv_r rfl
def qLw_doesFit_b2 (og : Nat) (x1 : Int32) (h : zK) (s : Int32) : Option ((Int32) ⊕ ((Unit) ⊕ (Int32))) :=
  if (gI h og 0) ≤ s then
    some (.inr (.inl ()))
  else
    (zix s 8).bind fun j2 =>
    (qLw_burstsBy x1 (gI h (og + 1) j2) h).bind fun p3 =>
    if p3 = (gI h (og + 2) j2) then
      some (.inl (s + 1))
    else
      some (.inr (.inr 0))
theorem t_qLw_doesFit_b2b {Ls : Nat} {xs : Nat → Int32} {d : Nat} {og : Nat} {x1 : Int32} {h : zK} {r : zA} {s : Int32} {e : (Int32) ⊕ ((Unit) ⊕ (Int32))} (ho : og = 19 ∨ og = 34) (H : qLw_doesFit_b2 og x1 h s = some e) (K : match (generalizing := false) e with | .inl s' => zEv (zXs Ls xs) (d + 1) zm_19 (2, [some (.ref 196), some (.int x1), some (.ref og), some (.int s')], [], zhp h) r | .inr (.inl v) => ∀ (z3 : Option Value), zEv (zXs Ls xs) (d + 1) zm_19 (38, [some (.ref 196), some (.int x1), some (.ref og), z3], [], zhp h) r | .inr (.inr p) => (some (.int p), zhp h) = r) : zEv (zXs Ls xs) (d + 1) zm_19 (2, [some (.ref 196), some (.int x1), some (.ref og), some (.int s)], [], zhp h) r := by
  unfold qLw_doesFit_b2 at H
  rcases ho with rfl | rfl
  · refine zEv_k 4 (f' := (if (gI h 19 0) ≤ s then 38 else 10, [some (.ref 196), some (.int x1), some (.ref 19), some (.int s)], [], zhp h)) rfl (zEv_if (fun c1 => ?_) (fun c1 => ?_))
    · replace H := zif_t c1 H
      cases H
      exact K _
    · replace H := zif_f c1 H
      refine zEv_k 3 (f' := (13, [some (.ref 196), some (.int x1), some (.ref 19), some (.int s)], [.ref 19, .int x1, .ref 196], zhp h)) rfl ?_
      refine zRgr rfl rfl rfl (by decide) (b := 19 + 1) rfl ?_
      refine zEv_k 1 (f' := (17, [some (.ref 196), some (.int x1), some (.ref 19), some (.int s)], [.int s, .ref (19 + 1), .int x1, .ref 196], zhp h)) rfl ?_
      obtain ⟨j2, hj2, H⟩ := zbs H
      refine zRia rfl rfl (by decide) hj2 ?_
      obtain ⟨p3, hp3, H⟩ := zbs H
      refine zEv_c (fun _ => rfl) rfl (t_qLw_burstsBy (x1 := x1) (x2 := gI h (19 + 1) j2) (h := h) (d := d) hp3) rfl rfl ?_
      refine zEv_k 1 (f' := (22, [some (.ref 196), some (.int x1), some (.ref 19), some (.int s)], [.ref 19, .int p3], zhp h)) rfl ?_
      refine zRgr rfl rfl rfl (by decide) (b := 19 + 2) rfl ?_
      refine zEv_k 1 (f' := (26, [some (.ref 196), some (.int x1), some (.ref 19), some (.int s)], [.int s, .ref (19 + 2), .int p3], zhp h)) rfl ?_
      refine zRia rfl rfl (by decide) hj2 ?_
      refine zEv_k 1 (f' := (if p3 = (gI h (19 + 2) j2) then 32 else 30, [some (.ref 196), some (.int x1), some (.ref 19), some (.int s)], [], zhp h)) rfl (zEv_if (fun c4 => ?_) (fun c4 => ?_))
      · replace H := zif_t c4 H
        refine zEv_k 2 (f' := (2, [some (.ref 196), some (.int x1), some (.ref 19), some (.int (s + 1))], [], zhp h)) rfl ?_
        cases H
        exact K
      · replace H := zif_f c4 H
        refine zEv_k 1 (f' := (31, [some (.ref 196), some (.int x1), some (.ref 19), some (.int s)], [.int 0], zhp h)) rfl ?_
        cases H
        exact zEv_re K rfl
  · refine zEv_k 4 (f' := (if (gI h 34 0) ≤ s then 38 else 10, [some (.ref 196), some (.int x1), some (.ref 34), some (.int s)], [], zhp h)) rfl (zEv_if (fun c1 => ?_) (fun c1 => ?_))
    · replace H := zif_t c1 H
      cases H
      exact K _
    · replace H := zif_f c1 H
      refine zEv_k 3 (f' := (13, [some (.ref 196), some (.int x1), some (.ref 34), some (.int s)], [.ref 34, .int x1, .ref 196], zhp h)) rfl ?_
      refine zRgr rfl rfl rfl (by decide) (b := 34 + 1) rfl ?_
      refine zEv_k 1 (f' := (17, [some (.ref 196), some (.int x1), some (.ref 34), some (.int s)], [.int s, .ref (34 + 1), .int x1, .ref 196], zhp h)) rfl ?_
      obtain ⟨j2, hj2, H⟩ := zbs H
      refine zRia rfl rfl (by decide) hj2 ?_
      obtain ⟨p3, hp3, H⟩ := zbs H
      refine zEv_c (fun _ => rfl) rfl (t_qLw_burstsBy (x1 := x1) (x2 := gI h (34 + 1) j2) (h := h) (d := d) hp3) rfl rfl ?_
      refine zEv_k 1 (f' := (22, [some (.ref 196), some (.int x1), some (.ref 34), some (.int s)], [.ref 34, .int p3], zhp h)) rfl ?_
      refine zRgr rfl rfl rfl (by decide) (b := 34 + 2) rfl ?_
      refine zEv_k 1 (f' := (26, [some (.ref 196), some (.int x1), some (.ref 34), some (.int s)], [.int s, .ref (34 + 2), .int p3], zhp h)) rfl ?_
      refine zRia rfl rfl (by decide) hj2 ?_
      refine zEv_k 1 (f' := (if p3 = (gI h (34 + 2) j2) then 32 else 30, [some (.ref 196), some (.int x1), some (.ref 34), some (.int s)], [], zhp h)) rfl (zEv_if (fun c4 => ?_) (fun c4 => ?_))
      · replace H := zif_t c4 H
        refine zEv_k 2 (f' := (2, [some (.ref 196), some (.int x1), some (.ref 34), some (.int (s + 1))], [], zhp h)) rfl ?_
        cases H
        exact K
      · replace H := zif_f c4 H
        refine zEv_k 1 (f' := (31, [some (.ref 196), some (.int x1), some (.ref 34), some (.int s)], [.int 0], zhp h)) rfl ?_
        cases H
        exact zEv_re K rfl
theorem t_qLw_doesFit_b2 {Ls : Nat} {xs : Nat → Int32} {d : Nat} {og : Nat} {x1 : Int32} {h : zK} {r : zA} (ho : og = 19 ∨ og = 34) {t : (Unit) ⊕ (Int32)} (K : (match (generalizing := false) t with | .inl v => ∀ (z3 : Option Value), zEv (zXs Ls xs) (d + 1) zm_19 (38, [some (.ref 196), some (.int x1), some (.ref og), z3], [], zhp h) r | .inr p => (some (.int p), zhp h) = r)) (n : Nat) (s : Int32) (H : zloop (qLw_doesFit_b2 og x1 h) n s = some t) : zEv (zXs Ls xs) (d + 1) zm_19 (2, [some (.ref 196), some (.int x1), some (.ref og), some (.int s)], [], zhp h) r := by
  have Z := zloop_P (P := fun s => zEv (zXs Ls xs) (d + 1) zm_19 (2, [some (.ref 196), some (.int x1), some (.ref og), some (.int s)], [], zhp h) r) (b := qLw_doesFit_b2 og x1 h) (t := t) (fun s s2 hb hk => by exact t_qLw_doesFit_b2b ho hb hk) (fun s hb => by rcases t with v | p <;> (exact t_qLw_doesFit_b2b ho hb K)) n s H
  exact Z
def qLw_doesFit (x1 : Int32) (og : Nat) (h : zK) : Option (Int32) :=
  (zloop (qLw_doesFit_b2 og x1 h) zfu 0).bind fun t5 => match t5 with
  | .inr p => some p
  | .inl v6 =>
    some 1
theorem t_qLw_doesFit {Ls : Nat} {xs : Nat → Int32} {d : Nat} {x1 : Int32} {og : Nat} {h : zK} {p : Int32} (ho : og = 19 ∨ og = 34) (H : qLw_doesFit x1 og h = some p) : zEv (zXs Ls xs) (d + 1) zm_19 (0, [some (.ref 196), some (.int x1), some (.ref og), none], [], zhp h) (some (.int p), zhp h) := by
  unfold qLw_doesFit at H
  rcases ho with rfl | rfl
  · refine zEv_k 2 (f' := (2, [some (.ref 196), some (.int x1), some (.ref 19), some (.int 0)], [], zhp h)) rfl ?_
    obtain ⟨t5, ht5, H⟩ := zbs H
    refine t_qLw_doesFit_b2 (og := 19) (x1 := x1) (h := h) (by decide) ?_ zfu _ ht5
    rcases t5 with v6 | p
    · intro y3
      dsimp only at H
      refine zEv_k 1 (f' := (39, [some (.ref 196), some (.int x1), some (.ref 19), y3], [.int 1], zhp h)) rfl ?_
      cases H
      exact zEv_r rfl
    · cases H
      exact rfl
  · refine zEv_k 2 (f' := (2, [some (.ref 196), some (.int x1), some (.ref 34), some (.int 0)], [], zhp h)) rfl ?_
    obtain ⟨t5, ht5, H⟩ := zbs H
    refine t_qLw_doesFit_b2 (og := 34) (x1 := x1) (h := h) (by decide) ?_ zfu _ ht5
    rcases t5 with v6 | p
    · intro y3
      dsimp only at H
      refine zEv_k 1 (f' := (39, [some (.ref 196), some (.int x1), some (.ref 34), y3], [.int 1], zhp h)) rfl ?_
      cases H
      exact zEv_r rfl
    · cases H
      exact rfl
def qLw_find_b47 (oc : Nat) (og : Nat) (s : Int32 × zK) : Option ((Int32 × zK) ⊕ (zK)) :=
  if 100 ≤ s.1 then
    some (.inr s.2)
  else
    (qLw_doesFit s.1 og s.2).bind fun p11 =>
    Option.bind (
        if p11 = 0 then
          some s.2
        else
          (zix (gI s.2 196 0) 100).bind fun j14 =>
          zlet (sI s.2 197 j14 s.1) fun h15 =>
          zlet (sI h15 196 0 ((gI h15 196 0) + 1)) fun h16 =>
          some h16
      ) fun (v13 : zK) =>
    some (.inl (s.1 + 1, v13))
theorem t_qLw_find_b47b {Ls : Nat} {xs : Nat → Int32} {d : Nat} {oc : Nat} {og : Nat} {r : zA} {s : Int32 × zK} {e : (Int32 × zK) ⊕ (zK)} (ho : (oc = 7 ∧ og = 19) ∨ (oc = 7 ∧ og = 34) ∨ (oc = 22 ∧ og = 19) ∨ (oc = 22 ∧ og = 34)) (H : qLw_find_b47 oc og s = some e) (K : match (generalizing := false) e with | .inl s' => ∀ (z1 : Option Value), zEv (zXs Ls xs) (d + 5) zm_16 (47, [some (.ref 196), z1, some (.ref oc), some (.ref og), some (.int s'.1)], [], zhp s'.2) r | .inr v => ∀ (z1 : Option Value) (z4 : Option Value), zEv (zXs Ls xs) (d + 5) zm_16 (91, [some (.ref 196), z1, some (.ref oc), some (.ref og), z4], [], zhp v) r) (y1 : Option Value) : zEv (zXs Ls xs) (d + 5) zm_16 (47, [some (.ref 196), y1, some (.ref oc), some (.ref og), some (.int s.1)], [], zhp s.2) r := by
  unfold qLw_find_b47 at H
  rcases ho with ⟨rfl, rfl⟩ | ⟨rfl, rfl⟩ | ⟨rfl, rfl⟩ | ⟨rfl, rfl⟩
  · refine zEv_k 3 (f' := (if 100 ≤ s.1 then 91 else 54, [some (.ref 196), y1, some (.ref 7), some (.ref 19), some (.int s.1)], [], zhp s.2)) rfl (zEv_if (fun c10 => ?_) (fun c10 => ?_))
    · replace H := zif_t c10 H
      cases H
      exact K _ _
    · replace H := zif_f c10 H
      refine zEv_k 3 (f' := (58, [some (.ref 196), y1, some (.ref 7), some (.ref 19), some (.int s.1)], [.ref 19, .int s.1, .ref 196], zhp s.2)) rfl ?_
      obtain ⟨p11, hp11, H⟩ := zbs H
      refine zEv_c (fun _ => rfl) rfl (t_qLw_doesFit (x1 := s.1) (og := 19) (h := s.2) (d := d + 3) (by decide) hp11) rfl rfl ?_
      obtain ⟨v13, hv13, H⟩ := zbs H
      have kv13 : zEv (zXs Ls xs) (d + 5) zm_16 (85, [some (.ref 196), y1, some (.ref 7), some (.ref 19), some (.int s.1)], [], zhp v13) r := by
        refine zEv_k 2 (f' := (47, [some (.ref 196), y1, some (.ref 7), some (.ref 19), some (.int (s.1 + 1))], [], zhp v13)) rfl ?_
        cases H
        exact K _
      clear H
      refine zEv_k 1 (f' := (if p11 = 0 then 85 else 64, [some (.ref 196), y1, some (.ref 7), some (.ref 19), some (.int s.1)], [], zhp s.2)) rfl (zEv_if (fun c12 => ?_) (fun c12 => ?_))
      · replace hv13 := zif_t c12 hv13
        cases hv13
        exact kv13
      · replace hv13 := zif_f c12 hv13
        refine zEv_k 1 (f' := (65, [some (.ref 196), y1, some (.ref 7), some (.ref 19), some (.int s.1)], [.ref 196], zhp s.2)) rfl ?_
        refine zRgr rfl rfl rfl (by decide) (b := 197) rfl ?_
        refine zEv_k 3 (f' := (74, [some (.ref 196), y1, some (.ref 7), some (.ref 19), some (.int s.1)], [.int s.1, .int (gI s.2 196 0), .ref 197], zhp s.2)) rfl ?_
        obtain ⟨j14, hj14, hv13⟩ := zbs hv13
        obtain ⟨h15, eh15, hv13⟩ := zlets hv13
        refine zRis rfl rfl (by decide) hj14 eh15 ?_
        obtain ⟨h16, eh16, hv13⟩ := zlets hv13
        refine zEv_w (F := fun z => (85, [some (.ref 196), y1, some (.ref 7), some (.ref 19), some (.int s.1)], [], zhp z)) (h0 := sI h15 196 0 ((gI h15 196 0) + 1)) 6 rfl eh16 ?_
        cases hv13
        exact kv13
  · refine zEv_k 3 (f' := (if 100 ≤ s.1 then 91 else 54, [some (.ref 196), y1, some (.ref 7), some (.ref 34), some (.int s.1)], [], zhp s.2)) rfl (zEv_if (fun c10 => ?_) (fun c10 => ?_))
    · replace H := zif_t c10 H
      cases H
      exact K _ _
    · replace H := zif_f c10 H
      refine zEv_k 3 (f' := (58, [some (.ref 196), y1, some (.ref 7), some (.ref 34), some (.int s.1)], [.ref 34, .int s.1, .ref 196], zhp s.2)) rfl ?_
      obtain ⟨p11, hp11, H⟩ := zbs H
      refine zEv_c (fun _ => rfl) rfl (t_qLw_doesFit (x1 := s.1) (og := 34) (h := s.2) (d := d + 3) (by decide) hp11) rfl rfl ?_
      obtain ⟨v13, hv13, H⟩ := zbs H
      have kv13 : zEv (zXs Ls xs) (d + 5) zm_16 (85, [some (.ref 196), y1, some (.ref 7), some (.ref 34), some (.int s.1)], [], zhp v13) r := by
        refine zEv_k 2 (f' := (47, [some (.ref 196), y1, some (.ref 7), some (.ref 34), some (.int (s.1 + 1))], [], zhp v13)) rfl ?_
        cases H
        exact K _
      clear H
      refine zEv_k 1 (f' := (if p11 = 0 then 85 else 64, [some (.ref 196), y1, some (.ref 7), some (.ref 34), some (.int s.1)], [], zhp s.2)) rfl (zEv_if (fun c12 => ?_) (fun c12 => ?_))
      · replace hv13 := zif_t c12 hv13
        cases hv13
        exact kv13
      · replace hv13 := zif_f c12 hv13
        refine zEv_k 1 (f' := (65, [some (.ref 196), y1, some (.ref 7), some (.ref 34), some (.int s.1)], [.ref 196], zhp s.2)) rfl ?_
        refine zRgr rfl rfl rfl (by decide) (b := 197) rfl ?_
        refine zEv_k 3 (f' := (74, [some (.ref 196), y1, some (.ref 7), some (.ref 34), some (.int s.1)], [.int s.1, .int (gI s.2 196 0), .ref 197], zhp s.2)) rfl ?_
        obtain ⟨j14, hj14, hv13⟩ := zbs hv13
        obtain ⟨h15, eh15, hv13⟩ := zlets hv13
        refine zRis rfl rfl (by decide) hj14 eh15 ?_
        obtain ⟨h16, eh16, hv13⟩ := zlets hv13
        refine zEv_w (F := fun z => (85, [some (.ref 196), y1, some (.ref 7), some (.ref 34), some (.int s.1)], [], zhp z)) (h0 := sI h15 196 0 ((gI h15 196 0) + 1)) 6 rfl eh16 ?_
        cases hv13
        exact kv13
  · refine zEv_k 3 (f' := (if 100 ≤ s.1 then 91 else 54, [some (.ref 196), y1, some (.ref 22), some (.ref 19), some (.int s.1)], [], zhp s.2)) rfl (zEv_if (fun c10 => ?_) (fun c10 => ?_))
    · replace H := zif_t c10 H
      cases H
      exact K _ _
    · replace H := zif_f c10 H
      refine zEv_k 3 (f' := (58, [some (.ref 196), y1, some (.ref 22), some (.ref 19), some (.int s.1)], [.ref 19, .int s.1, .ref 196], zhp s.2)) rfl ?_
      obtain ⟨p11, hp11, H⟩ := zbs H
      refine zEv_c (fun _ => rfl) rfl (t_qLw_doesFit (x1 := s.1) (og := 19) (h := s.2) (d := d + 3) (by decide) hp11) rfl rfl ?_
      obtain ⟨v13, hv13, H⟩ := zbs H
      have kv13 : zEv (zXs Ls xs) (d + 5) zm_16 (85, [some (.ref 196), y1, some (.ref 22), some (.ref 19), some (.int s.1)], [], zhp v13) r := by
        refine zEv_k 2 (f' := (47, [some (.ref 196), y1, some (.ref 22), some (.ref 19), some (.int (s.1 + 1))], [], zhp v13)) rfl ?_
        cases H
        exact K _
      clear H
      refine zEv_k 1 (f' := (if p11 = 0 then 85 else 64, [some (.ref 196), y1, some (.ref 22), some (.ref 19), some (.int s.1)], [], zhp s.2)) rfl (zEv_if (fun c12 => ?_) (fun c12 => ?_))
      · replace hv13 := zif_t c12 hv13
        cases hv13
        exact kv13
      · replace hv13 := zif_f c12 hv13
        refine zEv_k 1 (f' := (65, [some (.ref 196), y1, some (.ref 22), some (.ref 19), some (.int s.1)], [.ref 196], zhp s.2)) rfl ?_
        refine zRgr rfl rfl rfl (by decide) (b := 197) rfl ?_
        refine zEv_k 3 (f' := (74, [some (.ref 196), y1, some (.ref 22), some (.ref 19), some (.int s.1)], [.int s.1, .int (gI s.2 196 0), .ref 197], zhp s.2)) rfl ?_
        obtain ⟨j14, hj14, hv13⟩ := zbs hv13
        obtain ⟨h15, eh15, hv13⟩ := zlets hv13
        refine zRis rfl rfl (by decide) hj14 eh15 ?_
        obtain ⟨h16, eh16, hv13⟩ := zlets hv13
        refine zEv_w (F := fun z => (85, [some (.ref 196), y1, some (.ref 22), some (.ref 19), some (.int s.1)], [], zhp z)) (h0 := sI h15 196 0 ((gI h15 196 0) + 1)) 6 rfl eh16 ?_
        cases hv13
        exact kv13
  · refine zEv_k 3 (f' := (if 100 ≤ s.1 then 91 else 54, [some (.ref 196), y1, some (.ref 22), some (.ref 34), some (.int s.1)], [], zhp s.2)) rfl (zEv_if (fun c10 => ?_) (fun c10 => ?_))
    · replace H := zif_t c10 H
      cases H
      exact K _ _
    · replace H := zif_f c10 H
      refine zEv_k 3 (f' := (58, [some (.ref 196), y1, some (.ref 22), some (.ref 34), some (.int s.1)], [.ref 34, .int s.1, .ref 196], zhp s.2)) rfl ?_
      obtain ⟨p11, hp11, H⟩ := zbs H
      refine zEv_c (fun _ => rfl) rfl (t_qLw_doesFit (x1 := s.1) (og := 34) (h := s.2) (d := d + 3) (by decide) hp11) rfl rfl ?_
      obtain ⟨v13, hv13, H⟩ := zbs H
      have kv13 : zEv (zXs Ls xs) (d + 5) zm_16 (85, [some (.ref 196), y1, some (.ref 22), some (.ref 34), some (.int s.1)], [], zhp v13) r := by
        refine zEv_k 2 (f' := (47, [some (.ref 196), y1, some (.ref 22), some (.ref 34), some (.int (s.1 + 1))], [], zhp v13)) rfl ?_
        cases H
        exact K _
      clear H
      refine zEv_k 1 (f' := (if p11 = 0 then 85 else 64, [some (.ref 196), y1, some (.ref 22), some (.ref 34), some (.int s.1)], [], zhp s.2)) rfl (zEv_if (fun c12 => ?_) (fun c12 => ?_))
      · replace hv13 := zif_t c12 hv13
        cases hv13
        exact kv13
      · replace hv13 := zif_f c12 hv13
        refine zEv_k 1 (f' := (65, [some (.ref 196), y1, some (.ref 22), some (.ref 34), some (.int s.1)], [.ref 196], zhp s.2)) rfl ?_
        refine zRgr rfl rfl rfl (by decide) (b := 197) rfl ?_
        refine zEv_k 3 (f' := (74, [some (.ref 196), y1, some (.ref 22), some (.ref 34), some (.int s.1)], [.int s.1, .int (gI s.2 196 0), .ref 197], zhp s.2)) rfl ?_
        obtain ⟨j14, hj14, hv13⟩ := zbs hv13
        obtain ⟨h15, eh15, hv13⟩ := zlets hv13
        refine zRis rfl rfl (by decide) hj14 eh15 ?_
        obtain ⟨h16, eh16, hv13⟩ := zlets hv13
        refine zEv_w (F := fun z => (85, [some (.ref 196), y1, some (.ref 22), some (.ref 34), some (.int s.1)], [], zhp z)) (h0 := sI h15 196 0 ((gI h15 196 0) + 1)) 6 rfl eh16 ?_
        cases hv13
        exact kv13
theorem t_qLw_find_b47 {Ls : Nat} {xs : Nat → Int32} {d : Nat} {oc : Nat} {og : Nat} {r : zA} (ho : (oc = 7 ∧ og = 19) ∨ (oc = 7 ∧ og = 34) ∨ (oc = 22 ∧ og = 19) ∨ (oc = 22 ∧ og = 34)) {t : zK} (K : ∀ (z1 : Option Value) (z4 : Option Value), zEv (zXs Ls xs) (d + 5) zm_16 (91, [some (.ref 196), z1, some (.ref oc), some (.ref og), z4], [], zhp t) r) (n : Nat) (s : Int32 × zK) (H : zloop (qLw_find_b47 oc og) n s = some t) (y1 : Option Value) : zEv (zXs Ls xs) (d + 5) zm_16 (47, [some (.ref 196), y1, some (.ref oc), some (.ref og), some (.int s.1)], [], zhp s.2) r := by
  have Z := zloop_P (P := fun s => ∀ (y1 : Option Value), zEv (zXs Ls xs) (d + 5) zm_16 (47, [some (.ref 196), y1, some (.ref oc), some (.ref og), some (.int s.1)], [], zhp s.2) r) (b := qLw_find_b47 oc og) (t := t) (fun s s2 hb hk => by intro y1; exact t_qLw_find_b47b ho hb hk y1) (fun s hb => by intro y1; exact t_qLw_find_b47b ho hb K y1) n s H
  exact Z y1
def qLw_find (x1 : Int32) (oc : Nat) (og : Nat) (h : zK) : Option (zK) :=
  zlet (sI h 196 0 0) fun h1 =>
  if x1 < 0 then
    some h1
  else
    if x1 < 2 then
      zlet (sI h1 196 6 (x1 * 100)) fun h4 =>
      (zix x1 2).bind fun j5 =>
      Option.bind (
          if ¬ (gI h4 213 j5) = 0 then
            some h4
          else
            (qLw_learn oc h4).bind fun p8 =>
            zlet (sI p8 213 j5 (vp_nar .boolean 1)) fun h9 =>
            some h9
        ) fun (v7 : zK) =>
      (zloop (qLw_find_b47 oc og) zfu (0, v7)).bind fun t17 =>
      some t17
    else
      some h1
theorem t_qLw_find {Ls : Nat} {xs : Nat → Int32} {d : Nat} {x1 : Int32} {oc : Nat} {og : Nat} {h : zK} {p : zK} (ho : (oc = 7 ∧ og = 19) ∨ (oc = 7 ∧ og = 34) ∨ (oc = 22 ∧ og = 19) ∨ (oc = 22 ∧ og = 34)) (H : qLw_find x1 oc og h = some p) : zEv (zXs Ls xs) (d + 5) zm_16 (0, [some (.ref 196), some (.int x1), some (.ref oc), some (.ref og), none], [], zhp h) (none, zhp p) := by
  unfold qLw_find at H
  rcases ho with ⟨rfl, rfl⟩ | ⟨rfl, rfl⟩ | ⟨rfl, rfl⟩ | ⟨rfl, rfl⟩
  · obtain ⟨h1, eh1, H⟩ := zlets H
    refine zEv_w (F := fun z => (5, [some (.ref 196), some (.int x1), some (.ref 7), some (.ref 19), none], [], zhp z)) (h0 := sI h 196 0 0) 3 rfl eh1 ?_
    refine zEv_k 2 (f' := (if x1 < 0 then 14 else 9, [some (.ref 196), some (.int x1), some (.ref 7), some (.ref 19), none], [], zhp h1)) rfl (zEv_if (fun c2 => ?_) (fun c2 => ?_))
    · replace H := zif_t c2 H
      cases H
      exact zEv_r rfl
    · replace H := zif_f c2 H
      refine zEv_k 3 (f' := (if x1 < 2 then 15 else 14, [some (.ref 196), some (.int x1), some (.ref 7), some (.ref 19), none], [], zhp h1)) rfl (zEv_if (fun c3 => ?_) (fun c3 => ?_))
      · replace H := zif_t c3 H
        obtain ⟨h4, eh4, H⟩ := zlets H
        refine zEv_w (F := fun z => (23, [some (.ref 196), some (.int x1), some (.ref 7), some (.ref 19), none], [], zhp z)) (h0 := sI h1 196 6 (x1 * 100)) 5 rfl eh4 ?_
        refine zEv_k 1 (f' := (24, [some (.ref 196), some (.int x1), some (.ref 7), some (.ref 19), none], [.ref 196], zhp h4)) rfl ?_
        refine zRgr rfl rfl rfl (by decide) (b := 213) rfl ?_
        refine zEv_k 1 (f' := (28, [some (.ref 196), some (.int x1), some (.ref 7), some (.ref 19), none], [.int x1, .ref 213], zhp h4)) rfl ?_
        obtain ⟨j5, hj5, H⟩ := zbs H
        refine zRza rfl rfl (by decide) hj5 ?_
        obtain ⟨v7, hv7, H⟩ := zbs H
        have kv7 : zEv (zXs Ls xs) (d + 5) zm_16 (44, [some (.ref 196), some (.int x1), some (.ref 7), some (.ref 19), none], [], zhp v7) (none, zhp p) := by
          refine zEv_k 2 (f' := (47, [some (.ref 196), some (.int x1), some (.ref 7), some (.ref 19), some (.int 0)], [], zhp v7)) rfl ?_
          obtain ⟨t17, ht17, H⟩ := zbs H
          refine t_qLw_find_b47 (oc := 7) (og := 19) (by decide) ?_ zfu _ ht17 _
          intro y1 y4
          cases H
          exact zEv_r rfl
        clear H
        refine zEv_k 1 (f' := (if ¬ (gI h4 213 j5) = 0 then 44 else 32, [some (.ref 196), some (.int x1), some (.ref 7), some (.ref 19), none], [], zhp h4)) rfl (zEv_if (fun c6 => ?_) (fun c6 => ?_))
        · replace hv7 := zif_t c6 hv7
          cases hv7
          exact kv7
        · replace hv7 := zif_f c6 hv7
          refine zEv_k 2 (f' := (34, [some (.ref 196), some (.int x1), some (.ref 7), some (.ref 19), none], [.ref 7, .ref 196], zhp h4)) rfl ?_
          obtain ⟨p8, hp8, hv7⟩ := zbs hv7
          refine zEv_c (fun _ => rfl) rfl (t_qLw_learn (oc := 7) (h := h4) (d := d) (by decide) hp8) rfl rfl ?_
          refine zEv_k 1 (f' := (38, [some (.ref 196), some (.int x1), some (.ref 7), some (.ref 19), none], [.ref 196], zhp p8)) rfl ?_
          refine zRgr rfl rfl rfl (by decide) (b := 213) rfl ?_
          refine zEv_k 2 (f' := (43, [some (.ref 196), some (.int x1), some (.ref 7), some (.ref 19), none], [.int 1, .int x1, .ref 213], zhp p8)) rfl ?_
          obtain ⟨h9, eh9, hv7⟩ := zlets hv7
          refine zRzs rfl rfl (by decide) hj5 eh9 ?_
          cases hv7
          exact kv7
      · replace H := zif_f c3 H
        cases H
        exact zEv_r rfl
  · obtain ⟨h1, eh1, H⟩ := zlets H
    refine zEv_w (F := fun z => (5, [some (.ref 196), some (.int x1), some (.ref 7), some (.ref 34), none], [], zhp z)) (h0 := sI h 196 0 0) 3 rfl eh1 ?_
    refine zEv_k 2 (f' := (if x1 < 0 then 14 else 9, [some (.ref 196), some (.int x1), some (.ref 7), some (.ref 34), none], [], zhp h1)) rfl (zEv_if (fun c2 => ?_) (fun c2 => ?_))
    · replace H := zif_t c2 H
      cases H
      exact zEv_r rfl
    · replace H := zif_f c2 H
      refine zEv_k 3 (f' := (if x1 < 2 then 15 else 14, [some (.ref 196), some (.int x1), some (.ref 7), some (.ref 34), none], [], zhp h1)) rfl (zEv_if (fun c3 => ?_) (fun c3 => ?_))
      · replace H := zif_t c3 H
        obtain ⟨h4, eh4, H⟩ := zlets H
        refine zEv_w (F := fun z => (23, [some (.ref 196), some (.int x1), some (.ref 7), some (.ref 34), none], [], zhp z)) (h0 := sI h1 196 6 (x1 * 100)) 5 rfl eh4 ?_
        refine zEv_k 1 (f' := (24, [some (.ref 196), some (.int x1), some (.ref 7), some (.ref 34), none], [.ref 196], zhp h4)) rfl ?_
        refine zRgr rfl rfl rfl (by decide) (b := 213) rfl ?_
        refine zEv_k 1 (f' := (28, [some (.ref 196), some (.int x1), some (.ref 7), some (.ref 34), none], [.int x1, .ref 213], zhp h4)) rfl ?_
        obtain ⟨j5, hj5, H⟩ := zbs H
        refine zRza rfl rfl (by decide) hj5 ?_
        obtain ⟨v7, hv7, H⟩ := zbs H
        have kv7 : zEv (zXs Ls xs) (d + 5) zm_16 (44, [some (.ref 196), some (.int x1), some (.ref 7), some (.ref 34), none], [], zhp v7) (none, zhp p) := by
          refine zEv_k 2 (f' := (47, [some (.ref 196), some (.int x1), some (.ref 7), some (.ref 34), some (.int 0)], [], zhp v7)) rfl ?_
          obtain ⟨t17, ht17, H⟩ := zbs H
          refine t_qLw_find_b47 (oc := 7) (og := 34) (by decide) ?_ zfu _ ht17 _
          intro y1 y4
          cases H
          exact zEv_r rfl
        clear H
        refine zEv_k 1 (f' := (if ¬ (gI h4 213 j5) = 0 then 44 else 32, [some (.ref 196), some (.int x1), some (.ref 7), some (.ref 34), none], [], zhp h4)) rfl (zEv_if (fun c6 => ?_) (fun c6 => ?_))
        · replace hv7 := zif_t c6 hv7
          cases hv7
          exact kv7
        · replace hv7 := zif_f c6 hv7
          refine zEv_k 2 (f' := (34, [some (.ref 196), some (.int x1), some (.ref 7), some (.ref 34), none], [.ref 7, .ref 196], zhp h4)) rfl ?_
          obtain ⟨p8, hp8, hv7⟩ := zbs hv7
          refine zEv_c (fun _ => rfl) rfl (t_qLw_learn (oc := 7) (h := h4) (d := d) (by decide) hp8) rfl rfl ?_
          refine zEv_k 1 (f' := (38, [some (.ref 196), some (.int x1), some (.ref 7), some (.ref 34), none], [.ref 196], zhp p8)) rfl ?_
          refine zRgr rfl rfl rfl (by decide) (b := 213) rfl ?_
          refine zEv_k 2 (f' := (43, [some (.ref 196), some (.int x1), some (.ref 7), some (.ref 34), none], [.int 1, .int x1, .ref 213], zhp p8)) rfl ?_
          obtain ⟨h9, eh9, hv7⟩ := zlets hv7
          refine zRzs rfl rfl (by decide) hj5 eh9 ?_
          cases hv7
          exact kv7
      · replace H := zif_f c3 H
        cases H
        exact zEv_r rfl
  · obtain ⟨h1, eh1, H⟩ := zlets H
    refine zEv_w (F := fun z => (5, [some (.ref 196), some (.int x1), some (.ref 22), some (.ref 19), none], [], zhp z)) (h0 := sI h 196 0 0) 3 rfl eh1 ?_
    refine zEv_k 2 (f' := (if x1 < 0 then 14 else 9, [some (.ref 196), some (.int x1), some (.ref 22), some (.ref 19), none], [], zhp h1)) rfl (zEv_if (fun c2 => ?_) (fun c2 => ?_))
    · replace H := zif_t c2 H
      cases H
      exact zEv_r rfl
    · replace H := zif_f c2 H
      refine zEv_k 3 (f' := (if x1 < 2 then 15 else 14, [some (.ref 196), some (.int x1), some (.ref 22), some (.ref 19), none], [], zhp h1)) rfl (zEv_if (fun c3 => ?_) (fun c3 => ?_))
      · replace H := zif_t c3 H
        obtain ⟨h4, eh4, H⟩ := zlets H
        refine zEv_w (F := fun z => (23, [some (.ref 196), some (.int x1), some (.ref 22), some (.ref 19), none], [], zhp z)) (h0 := sI h1 196 6 (x1 * 100)) 5 rfl eh4 ?_
        refine zEv_k 1 (f' := (24, [some (.ref 196), some (.int x1), some (.ref 22), some (.ref 19), none], [.ref 196], zhp h4)) rfl ?_
        refine zRgr rfl rfl rfl (by decide) (b := 213) rfl ?_
        refine zEv_k 1 (f' := (28, [some (.ref 196), some (.int x1), some (.ref 22), some (.ref 19), none], [.int x1, .ref 213], zhp h4)) rfl ?_
        obtain ⟨j5, hj5, H⟩ := zbs H
        refine zRza rfl rfl (by decide) hj5 ?_
        obtain ⟨v7, hv7, H⟩ := zbs H
        have kv7 : zEv (zXs Ls xs) (d + 5) zm_16 (44, [some (.ref 196), some (.int x1), some (.ref 22), some (.ref 19), none], [], zhp v7) (none, zhp p) := by
          refine zEv_k 2 (f' := (47, [some (.ref 196), some (.int x1), some (.ref 22), some (.ref 19), some (.int 0)], [], zhp v7)) rfl ?_
          obtain ⟨t17, ht17, H⟩ := zbs H
          refine t_qLw_find_b47 (oc := 22) (og := 19) (by decide) ?_ zfu _ ht17 _
          intro y1 y4
          cases H
          exact zEv_r rfl
        clear H
        refine zEv_k 1 (f' := (if ¬ (gI h4 213 j5) = 0 then 44 else 32, [some (.ref 196), some (.int x1), some (.ref 22), some (.ref 19), none], [], zhp h4)) rfl (zEv_if (fun c6 => ?_) (fun c6 => ?_))
        · replace hv7 := zif_t c6 hv7
          cases hv7
          exact kv7
        · replace hv7 := zif_f c6 hv7
          refine zEv_k 2 (f' := (34, [some (.ref 196), some (.int x1), some (.ref 22), some (.ref 19), none], [.ref 22, .ref 196], zhp h4)) rfl ?_
          obtain ⟨p8, hp8, hv7⟩ := zbs hv7
          refine zEv_c (fun _ => rfl) rfl (t_qLw_learn (oc := 22) (h := h4) (d := d) (by decide) hp8) rfl rfl ?_
          refine zEv_k 1 (f' := (38, [some (.ref 196), some (.int x1), some (.ref 22), some (.ref 19), none], [.ref 196], zhp p8)) rfl ?_
          refine zRgr rfl rfl rfl (by decide) (b := 213) rfl ?_
          refine zEv_k 2 (f' := (43, [some (.ref 196), some (.int x1), some (.ref 22), some (.ref 19), none], [.int 1, .int x1, .ref 213], zhp p8)) rfl ?_
          obtain ⟨h9, eh9, hv7⟩ := zlets hv7
          refine zRzs rfl rfl (by decide) hj5 eh9 ?_
          cases hv7
          exact kv7
      · replace H := zif_f c3 H
        cases H
        exact zEv_r rfl
  · obtain ⟨h1, eh1, H⟩ := zlets H
    refine zEv_w (F := fun z => (5, [some (.ref 196), some (.int x1), some (.ref 22), some (.ref 34), none], [], zhp z)) (h0 := sI h 196 0 0) 3 rfl eh1 ?_
    refine zEv_k 2 (f' := (if x1 < 0 then 14 else 9, [some (.ref 196), some (.int x1), some (.ref 22), some (.ref 34), none], [], zhp h1)) rfl (zEv_if (fun c2 => ?_) (fun c2 => ?_))
    · replace H := zif_t c2 H
      cases H
      exact zEv_r rfl
    · replace H := zif_f c2 H
      refine zEv_k 3 (f' := (if x1 < 2 then 15 else 14, [some (.ref 196), some (.int x1), some (.ref 22), some (.ref 34), none], [], zhp h1)) rfl (zEv_if (fun c3 => ?_) (fun c3 => ?_))
      · replace H := zif_t c3 H
        obtain ⟨h4, eh4, H⟩ := zlets H
        refine zEv_w (F := fun z => (23, [some (.ref 196), some (.int x1), some (.ref 22), some (.ref 34), none], [], zhp z)) (h0 := sI h1 196 6 (x1 * 100)) 5 rfl eh4 ?_
        refine zEv_k 1 (f' := (24, [some (.ref 196), some (.int x1), some (.ref 22), some (.ref 34), none], [.ref 196], zhp h4)) rfl ?_
        refine zRgr rfl rfl rfl (by decide) (b := 213) rfl ?_
        refine zEv_k 1 (f' := (28, [some (.ref 196), some (.int x1), some (.ref 22), some (.ref 34), none], [.int x1, .ref 213], zhp h4)) rfl ?_
        obtain ⟨j5, hj5, H⟩ := zbs H
        refine zRza rfl rfl (by decide) hj5 ?_
        obtain ⟨v7, hv7, H⟩ := zbs H
        have kv7 : zEv (zXs Ls xs) (d + 5) zm_16 (44, [some (.ref 196), some (.int x1), some (.ref 22), some (.ref 34), none], [], zhp v7) (none, zhp p) := by
          refine zEv_k 2 (f' := (47, [some (.ref 196), some (.int x1), some (.ref 22), some (.ref 34), some (.int 0)], [], zhp v7)) rfl ?_
          obtain ⟨t17, ht17, H⟩ := zbs H
          refine t_qLw_find_b47 (oc := 22) (og := 34) (by decide) ?_ zfu _ ht17 _
          intro y1 y4
          cases H
          exact zEv_r rfl
        clear H
        refine zEv_k 1 (f' := (if ¬ (gI h4 213 j5) = 0 then 44 else 32, [some (.ref 196), some (.int x1), some (.ref 22), some (.ref 34), none], [], zhp h4)) rfl (zEv_if (fun c6 => ?_) (fun c6 => ?_))
        · replace hv7 := zif_t c6 hv7
          cases hv7
          exact kv7
        · replace hv7 := zif_f c6 hv7
          refine zEv_k 2 (f' := (34, [some (.ref 196), some (.int x1), some (.ref 22), some (.ref 34), none], [.ref 22, .ref 196], zhp h4)) rfl ?_
          obtain ⟨p8, hp8, hv7⟩ := zbs hv7
          refine zEv_c (fun _ => rfl) rfl (t_qLw_learn (oc := 22) (h := h4) (d := d) (by decide) hp8) rfl rfl ?_
          refine zEv_k 1 (f' := (38, [some (.ref 196), some (.int x1), some (.ref 22), some (.ref 34), none], [.ref 196], zhp p8)) rfl ?_
          refine zRgr rfl rfl rfl (by decide) (b := 213) rfl ?_
          refine zEv_k 2 (f' := (43, [some (.ref 196), some (.int x1), some (.ref 22), some (.ref 34), none], [.int 1, .int x1, .ref 213], zhp p8)) rfl ?_
          obtain ⟨h9, eh9, hv7⟩ := zlets hv7
          refine zRzs rfl rfl (by decide) hj5 eh9 ?_
          cases hv7
          exact kv7
      · replace H := zif_f c3 H
        cases H
        exact zEv_r rfl
def qLw_sureReach (h : zK) : Option (Int32) :=
  Option.bind (
      if (gI h 196 0) ≤ 0 then
        some 0
      else
        (zix ((gI h 196 0) - 1) 100).bind fun j3 =>
        if ¬ ((gI h 197 0) / 10) = ((gI h 197 j3) / 10) then
          some 0
        else
          some 1
    ) fun (v2 : Int32) =>
  if v2 = 0 then
    some (-1)
  else
    some ((gI h 197 0) / 10)
theorem t_qLw_sureReach {Ls : Nat} {xs : Nat → Int32} {d : Nat} {h : zK} {p : Int32} (H : qLw_sureReach h = some p) : zEv (zXs Ls xs) d zm_20 (0, [some (.ref 196), none], [], zhp h) (some (.int p), zhp h) := by
  unfold qLw_sureReach at H
  obtain ⟨v2, hv2, H⟩ := zbs H
  have kv2 : zEv (zXs Ls xs) d zm_20 (38, [some (.ref 196), none], [.int v2], zhp h) (some (.int p), zhp h) := by
    refine zEv_k 3 (f' := (if v2 = 0 then 55 else 43, [some (.ref 196), some (.int v2)], [], zhp h)) rfl (zEv_if (fun c5 => ?_) (fun c5 => ?_))
    · replace H := zif_t c5 H
      refine zEv_k 1 (f' := (56, [some (.ref 196), some (.int v2)], [.int (-1)], zhp h)) rfl ?_
      cases H
      exact zEv_r rfl
    · replace H := zif_f c5 H
      refine zEv_k 1 (f' := (44, [some (.ref 196), some (.int v2)], [.ref 196], zhp h)) rfl ?_
      refine zRgr rfl rfl rfl (by decide) (b := 197) rfl ?_
      refine zEv_k 1 (f' := (48, [some (.ref 196), some (.int v2)], [.int 0, .ref 197], zhp h)) rfl ?_
      refine zRia (j := 0) rfl rfl (by decide) (by decide) ?_
      refine zEv_k 1 (f' := (51, [some (.ref 196), some (.int v2)], [.int 10, .int (gI h 197 0)], zhp h)) rfl ?_
      refine zEv_div rfl (by decide) ?_
      refine zEv_k 1 (f' := (56, [some (.ref 196), some (.int v2)], [.int ((gI h 197 0) / 10)], zhp h)) rfl ?_
      cases H
      exact zEv_r rfl
  clear H
  refine zEv_k 3 (f' := (if (gI h 196 0) ≤ 0 then 37 else 7, [some (.ref 196), none], [], zhp h)) rfl (zEv_if (fun c1 => ?_) (fun c1 => ?_))
  · replace hv2 := zif_t c1 hv2
    refine zEv_k 1 (f' := (38, [some (.ref 196), none], [.int 0], zhp h)) rfl ?_
    cases hv2
    exact kv2
  · replace hv2 := zif_f c1 hv2
    refine zEv_k 1 (f' := (8, [some (.ref 196), none], [.ref 196], zhp h)) rfl ?_
    refine zRgr rfl rfl rfl (by decide) (b := 197) rfl ?_
    refine zEv_k 1 (f' := (12, [some (.ref 196), none], [.int 0, .ref 197], zhp h)) rfl ?_
    refine zRia (j := 0) rfl rfl (by decide) (by decide) ?_
    refine zEv_k 1 (f' := (15, [some (.ref 196), none], [.int 10, .int (gI h 197 0)], zhp h)) rfl ?_
    refine zEv_div rfl (by decide) ?_
    refine zEv_k 1 (f' := (17, [some (.ref 196), none], [.ref 196, .int ((gI h 197 0) / 10)], zhp h)) rfl ?_
    refine zRgr rfl rfl rfl (by decide) (b := 197) rfl ?_
    refine zEv_k 4 (f' := (26, [some (.ref 196), none], [.int ((gI h 196 0) - 1), .ref 197, .int ((gI h 197 0) / 10)], zhp h)) rfl ?_
    obtain ⟨j3, hj3, hv2⟩ := zbs hv2
    refine zRia rfl rfl (by decide) hj3 ?_
    refine zEv_k 1 (f' := (29, [some (.ref 196), none], [.int 10, .int (gI h 197 j3), .int ((gI h 197 0) / 10)], zhp h)) rfl ?_
    refine zEv_div rfl (by decide) ?_
    refine zEv_k 1 (f' := (if ¬ ((gI h 197 0) / 10) = ((gI h 197 j3) / 10) then 37 else 33, [some (.ref 196), none], [], zhp h)) rfl (zEv_if (fun c4 => ?_) (fun c4 => ?_))
    · replace hv2 := zif_t c4 hv2
      refine zEv_k 1 (f' := (38, [some (.ref 196), none], [.int 0], zhp h)) rfl ?_
      cases hv2
      exact kv2
    · replace hv2 := zif_f c4 hv2
      refine zEv_k 2 (f' := (38, [some (.ref 196), none], [.int 1], zhp h)) rfl ?_
      cases hv2
      exact kv2
def qLw_leastShock_b23 (h : zK) (s : Int32 × Int32) : Option ((Int32 × Int32) ⊕ (Int32)) :=
  if (gI h 196 0) ≤ s.2 then
    some (.inr s.1)
  else
    (zix s.2 100).bind fun j4 =>
    some (.inl (zf_min s.1 ((gI h 197 j4) - (gI h 197 j4) / 10 * 10), s.2 + 1))
theorem t_qLw_leastShock_b23b {Ls : Nat} {xs : Nat → Int32} {d : Nat} {h : zK} {r : zA} {s : Int32 × Int32} {e : (Int32 × Int32) ⊕ (Int32)} (H : qLw_leastShock_b23 h s = some e) (K : match (generalizing := false) e with | .inl s' => zEv (zXs Ls xs) d zm_22 (23, [some (.ref 196), some (.int s'.1), some (.int s'.2)], [], zhp h) r | .inr v => ∀ (z2 : Option Value), zEv (zXs Ls xs) d zm_22 (51, [some (.ref 196), some (.int v), z2], [], zhp h) r) : zEv (zXs Ls xs) d zm_22 (23, [some (.ref 196), some (.int s.1), some (.int s.2)], [], zhp h) r := by
  unfold qLw_leastShock_b23 at H
  refine zEv_k 4 (f' := (if (gI h 196 0) ≤ s.2 then 51 else 31, [some (.ref 196), some (.int s.1), some (.int s.2)], [], zhp h)) rfl (zEv_if (fun c3 => ?_) (fun c3 => ?_))
  · replace H := zif_t c3 H
    cases H
    exact K _
  · replace H := zif_f c3 H
    refine zEv_k 2 (f' := (33, [some (.ref 196), some (.int s.1), some (.int s.2)], [.ref 196, .int s.1], zhp h)) rfl ?_
    refine zRgr rfl rfl rfl (by decide) (b := 197) rfl ?_
    refine zEv_k 1 (f' := (37, [some (.ref 196), some (.int s.1), some (.int s.2)], [.int s.2, .ref 197, .int s.1], zhp h)) rfl ?_
    obtain ⟨j4, hj4, H⟩ := zbs H
    refine zRia rfl rfl (by decide) hj4 ?_
    refine zEv_k 1 (f' := (40, [some (.ref 196), some (.int s.1), some (.int s.2)], [.int 10, .int (gI h 197 j4), .int s.1], zhp h)) rfl ?_
    refine zEv_rem rfl (by decide) ?_
    refine zEv_k 4 (f' := (23, [some (.ref 196), some (.int (zf_min s.1 ((gI h 197 j4) - (gI h 197 j4) / 10 * 10))), some (.int (s.2 + 1))], [], zhp h)) rfl ?_
    cases H
    exact K
theorem t_qLw_leastShock_b23 {Ls : Nat} {xs : Nat → Int32} {d : Nat} {h : zK} {r : zA} {t : Int32} (K : ∀ (z2 : Option Value), zEv (zXs Ls xs) d zm_22 (51, [some (.ref 196), some (.int t), z2], [], zhp h) r) (n : Nat) (s : Int32 × Int32) (H : zloop (qLw_leastShock_b23 h) n s = some t) : zEv (zXs Ls xs) d zm_22 (23, [some (.ref 196), some (.int s.1), some (.int s.2)], [], zhp h) r := by
  have Z := zloop_P (P := fun s => zEv (zXs Ls xs) d zm_22 (23, [some (.ref 196), some (.int s.1), some (.int s.2)], [], zhp h) r) (b := qLw_leastShock_b23 h) (t := t) (fun s s2 hb hk => by exact t_qLw_leastShock_b23b hb hk) (fun s hb => by exact t_qLw_leastShock_b23b hb K) n s H
  exact Z
def qLw_leastShock (h : zK) : Option (Int32) :=
  zlet (
      if (gI h 196 0) ≤ 0 then
        -1
      else
        (gI h 197 0) - (gI h 197 0) / 10 * 10
    ) fun (v2 : Int32) =>
  (zloop (qLw_leastShock_b23 h) zfu (v2, 0)).bind fun t5 =>
  some t5
theorem t_qLw_leastShock {Ls : Nat} {xs : Nat → Int32} {d : Nat} {h : zK} {p : Int32} (H : qLw_leastShock h = some p) : zEv (zXs Ls xs) d zm_22 (0, [some (.ref 196), none, none], [], zhp h) (some (.int p), zhp h) := by
  unfold qLw_leastShock at H
  obtain ⟨v2, hv2, H⟩ := zlets H
  have kv2 : zEv (zXs Ls xs) d zm_22 (20, [some (.ref 196), none, none], [.int v2], zhp h) (some (.int p), zhp h) := by
    refine zEv_k 3 (f' := (23, [some (.ref 196), some (.int v2), some (.int 0)], [], zhp h)) rfl ?_
    obtain ⟨t5, ht5, H⟩ := zbs H
    refine t_qLw_leastShock_b23 (h := h) ?_ zfu _ ht5
    intro y2
    refine zEv_k 1 (f' := (52, [some (.ref 196), some (.int t5), y2], [.int t5], zhp h)) rfl ?_
    cases H
    exact zEv_r rfl
  clear H
  refine zEv_k 3 (f' := (if (gI h 196 0) ≤ 0 then 19 else 7, [some (.ref 196), none, none], [], zhp h)) rfl (zEv_if (fun c1 => ?_) (fun c1 => ?_))
  · replace hv2 := zif_t c1 hv2
    refine zEv_k 1 (f' := (20, [some (.ref 196), none, none], [.int (-1)], zhp h)) rfl ?_
    cases hv2
    exact kv2
  · replace hv2 := zif_f c1 hv2
    refine zEv_k 1 (f' := (8, [some (.ref 196), none, none], [.ref 196], zhp h)) rfl ?_
    refine zRgr rfl rfl rfl (by decide) (b := 197) rfl ?_
    refine zEv_k 1 (f' := (12, [some (.ref 196), none, none], [.int 0, .ref 197], zhp h)) rfl ?_
    refine zRia (j := 0) rfl rfl (by decide) (by decide) ?_
    refine zEv_k 1 (f' := (15, [some (.ref 196), none, none], [.int 10, .int (gI h 197 0)], zhp h)) rfl ?_
    refine zEv_rem rfl (by decide) ?_
    refine zEv_k 1 (f' := (20, [some (.ref 196), none, none], [.int ((gI h 197 0) - (gI h 197 0) / 10 * 10)], zhp h)) rfl ?_
    cases hv2
    exact kv2
def qLw_greatestShock_b4 (h : zK) (s : Int32 × Int32) : Option ((Int32 × Int32) ⊕ (Int32)) :=
  if (gI h 196 0) ≤ s.2 then
    some (.inr s.1)
  else
    (zix s.2 100).bind fun j2 =>
    some (.inl (zf_max s.1 ((gI h 197 j2) - (gI h 197 j2) / 10 * 10), s.2 + 1))
theorem t_qLw_greatestShock_b4b {Ls : Nat} {xs : Nat → Int32} {d : Nat} {h : zK} {r : zA} {s : Int32 × Int32} {e : (Int32 × Int32) ⊕ (Int32)} (H : qLw_greatestShock_b4 h s = some e) (K : match (generalizing := false) e with | .inl s' => zEv (zXs Ls xs) d zm_23 (4, [some (.ref 196), some (.int s'.1), some (.int s'.2)], [], zhp h) r | .inr v => ∀ (z2 : Option Value), zEv (zXs Ls xs) d zm_23 (32, [some (.ref 196), some (.int v), z2], [], zhp h) r) : zEv (zXs Ls xs) d zm_23 (4, [some (.ref 196), some (.int s.1), some (.int s.2)], [], zhp h) r := by
  unfold qLw_greatestShock_b4 at H
  refine zEv_k 4 (f' := (if (gI h 196 0) ≤ s.2 then 32 else 12, [some (.ref 196), some (.int s.1), some (.int s.2)], [], zhp h)) rfl (zEv_if (fun c1 => ?_) (fun c1 => ?_))
  · replace H := zif_t c1 H
    cases H
    exact K _
  · replace H := zif_f c1 H
    refine zEv_k 2 (f' := (14, [some (.ref 196), some (.int s.1), some (.int s.2)], [.ref 196, .int s.1], zhp h)) rfl ?_
    refine zRgr rfl rfl rfl (by decide) (b := 197) rfl ?_
    refine zEv_k 1 (f' := (18, [some (.ref 196), some (.int s.1), some (.int s.2)], [.int s.2, .ref 197, .int s.1], zhp h)) rfl ?_
    obtain ⟨j2, hj2, H⟩ := zbs H
    refine zRia rfl rfl (by decide) hj2 ?_
    refine zEv_k 1 (f' := (21, [some (.ref 196), some (.int s.1), some (.int s.2)], [.int 10, .int (gI h 197 j2), .int s.1], zhp h)) rfl ?_
    refine zEv_rem rfl (by decide) ?_
    refine zEv_k 4 (f' := (4, [some (.ref 196), some (.int (zf_max s.1 ((gI h 197 j2) - (gI h 197 j2) / 10 * 10))), some (.int (s.2 + 1))], [], zhp h)) rfl ?_
    cases H
    exact K
theorem t_qLw_greatestShock_b4 {Ls : Nat} {xs : Nat → Int32} {d : Nat} {h : zK} {r : zA} {t : Int32} (K : ∀ (z2 : Option Value), zEv (zXs Ls xs) d zm_23 (32, [some (.ref 196), some (.int t), z2], [], zhp h) r) (n : Nat) (s : Int32 × Int32) (H : zloop (qLw_greatestShock_b4 h) n s = some t) : zEv (zXs Ls xs) d zm_23 (4, [some (.ref 196), some (.int s.1), some (.int s.2)], [], zhp h) r := by
  have Z := zloop_P (P := fun s => zEv (zXs Ls xs) d zm_23 (4, [some (.ref 196), some (.int s.1), some (.int s.2)], [], zhp h) r) (b := qLw_greatestShock_b4 h) (t := t) (fun s s2 hb hk => by exact t_qLw_greatestShock_b4b hb hk) (fun s hb => by exact t_qLw_greatestShock_b4b hb K) n s H
  exact Z
def qLw_greatestShock (h : zK) : Option (Int32) :=
  (zloop (qLw_greatestShock_b4 h) zfu (-1, 0)).bind fun t3 =>
  some t3
theorem t_qLw_greatestShock {Ls : Nat} {xs : Nat → Int32} {d : Nat} {h : zK} {p : Int32} (H : qLw_greatestShock h = some p) : zEv (zXs Ls xs) d zm_23 (0, [some (.ref 196), none, none], [], zhp h) (some (.int p), zhp h) := by
  unfold qLw_greatestShock at H
  refine zEv_k 4 (f' := (4, [some (.ref 196), some (.int (-1)), some (.int 0)], [], zhp h)) rfl ?_
  obtain ⟨t3, ht3, H⟩ := zbs H
  refine t_qLw_greatestShock_b4 (h := h) ?_ zfu _ ht3
  intro y2
  refine zEv_k 1 (f' := (33, [some (.ref 196), some (.int t3), y2], [.int t3], zhp h)) rfl ?_
  cases H
  exact zEv_r rfl
def qLw_sureShock (h : zK) : Option (Int32) :=
  (qLw_leastShock h).bind fun p1 =>
  (qLw_greatestShock h).bind fun p2 =>
  if ¬ p1 = p2 then
    some (-1)
  else
    (qLw_leastShock h).bind fun p4 =>
    some p4
theorem t_qLw_sureShock {Ls : Nat} {xs : Nat → Int32} {d : Nat} {h : zK} {p : Int32} (H : qLw_sureShock h = some p) : zEv (zXs Ls xs) (d + 1) zm_21 (0, [some (.ref 196)], [], zhp h) (some (.int p), zhp h) := by
  unfold qLw_sureShock at H
  refine zEv_k 1 (f' := (1, [some (.ref 196)], [.ref 196], zhp h)) rfl ?_
  obtain ⟨p1, hp1, H⟩ := zbs H
  refine zEv_c (fun _ => rfl) rfl (t_qLw_leastShock (h := h) (d := d) hp1) rfl rfl ?_
  refine zEv_k 1 (f' := (5, [some (.ref 196)], [.ref 196, .int p1], zhp h)) rfl ?_
  obtain ⟨p2, hp2, H⟩ := zbs H
  refine zEv_c (fun _ => rfl) rfl (t_qLw_greatestShock (h := h) (d := d) hp2) rfl rfl ?_
  refine zEv_k 1 (f' := (if ¬ p1 = p2 then 18 else 11, [some (.ref 196)], [], zhp h)) rfl (zEv_if (fun c3 => ?_) (fun c3 => ?_))
  · replace H := zif_t c3 H
    refine zEv_k 1 (f' := (19, [some (.ref 196)], [.int (-1)], zhp h)) rfl ?_
    cases H
    exact zEv_r rfl
  · replace H := zif_f c3 H
    refine zEv_k 1 (f' := (12, [some (.ref 196)], [.ref 196], zhp h)) rfl ?_
    obtain ⟨p4, hp4, H⟩ := zbs H
    refine zEv_c (fun _ => rfl) rfl (t_qLw_leastShock (h := h) (d := d) hp4) rfl rfl ?_
    refine zEv_k 1 (f' := (19, [some (.ref 196)], [.int p4], zhp h)) rfl ?_
    cases H
    exact zEv_r rfl
def qLw_sizeOfReach_b4 (x1 : Int32) (h : zK) (s : Int32 × Int32) : Option ((Int32 × Int32) ⊕ (Int32)) :=
  if (gI h 196 0) ≤ s.2 then
    some (.inr s.1)
  else
    (zix s.2 100).bind fun j2 =>
    zlet (
        if ¬ ((gI h 197 j2) / 10) = x1 then
          s.1
        else
          s.1 + 1
      ) fun (v4 : Int32) =>
    some (.inl (v4, s.2 + 1))
theorem t_qLw_sizeOfReach_b4b {Ls : Nat} {xs : Nat → Int32} {d : Nat} {x1 : Int32} {h : zK} {r : zA} {s : Int32 × Int32} {e : (Int32 × Int32) ⊕ (Int32)} (H : qLw_sizeOfReach_b4 x1 h s = some e) (K : match (generalizing := false) e with | .inl s' => zEv (zXs Ls xs) d zm_24 (4, [some (.ref 196), some (.int x1), some (.int s'.1), some (.int s'.2)], [], zhp h) r | .inr v => ∀ (z3 : Option Value), zEv (zXs Ls xs) d zm_24 (34, [some (.ref 196), some (.int x1), some (.int v), z3], [], zhp h) r) : zEv (zXs Ls xs) d zm_24 (4, [some (.ref 196), some (.int x1), some (.int s.1), some (.int s.2)], [], zhp h) r := by
  unfold qLw_sizeOfReach_b4 at H
  refine zEv_k 4 (f' := (if (gI h 196 0) ≤ s.2 then 34 else 12, [some (.ref 196), some (.int x1), some (.int s.1), some (.int s.2)], [], zhp h)) rfl (zEv_if (fun c1 => ?_) (fun c1 => ?_))
  · replace H := zif_t c1 H
    cases H
    exact K _
  · replace H := zif_f c1 H
    refine zEv_k 1 (f' := (13, [some (.ref 196), some (.int x1), some (.int s.1), some (.int s.2)], [.ref 196], zhp h)) rfl ?_
    refine zRgr rfl rfl rfl (by decide) (b := 197) rfl ?_
    refine zEv_k 1 (f' := (17, [some (.ref 196), some (.int x1), some (.int s.1), some (.int s.2)], [.int s.2, .ref 197], zhp h)) rfl ?_
    obtain ⟨j2, hj2, H⟩ := zbs H
    refine zRia rfl rfl (by decide) hj2 ?_
    obtain ⟨v4, hv4, H⟩ := zlets H
    have kv4 : zEv (zXs Ls xs) d zm_24 (28, [some (.ref 196), some (.int x1), some (.int v4), some (.int s.2)], [], zhp h) r := by
      refine zEv_k 2 (f' := (4, [some (.ref 196), some (.int x1), some (.int v4), some (.int (s.2 + 1))], [], zhp h)) rfl ?_
      cases H
      exact K
    clear H
    refine zEv_k 1 (f' := (20, [some (.ref 196), some (.int x1), some (.int s.1), some (.int s.2)], [.int 10, .int (gI h 197 j2)], zhp h)) rfl ?_
    refine zEv_div rfl (by decide) ?_
    refine zEv_k 2 (f' := (if ¬ ((gI h 197 j2) / 10) = x1 then 28 else 25, [some (.ref 196), some (.int x1), some (.int s.1), some (.int s.2)], [], zhp h)) rfl (zEv_if (fun c3 => ?_) (fun c3 => ?_))
    · replace hv4 := zif_t c3 hv4
      cases hv4
      exact kv4
    · replace hv4 := zif_f c3 hv4
      refine zEv_k 1 (f' := (28, [some (.ref 196), some (.int x1), some (.int (s.1 + 1)), some (.int s.2)], [], zhp h)) rfl ?_
      cases hv4
      exact kv4
theorem t_qLw_sizeOfReach_b4 {Ls : Nat} {xs : Nat → Int32} {d : Nat} {x1 : Int32} {h : zK} {r : zA} {t : Int32} (K : ∀ (z3 : Option Value), zEv (zXs Ls xs) d zm_24 (34, [some (.ref 196), some (.int x1), some (.int t), z3], [], zhp h) r) (n : Nat) (s : Int32 × Int32) (H : zloop (qLw_sizeOfReach_b4 x1 h) n s = some t) : zEv (zXs Ls xs) d zm_24 (4, [some (.ref 196), some (.int x1), some (.int s.1), some (.int s.2)], [], zhp h) r := by
  have Z := zloop_P (P := fun s => zEv (zXs Ls xs) d zm_24 (4, [some (.ref 196), some (.int x1), some (.int s.1), some (.int s.2)], [], zhp h) r) (b := qLw_sizeOfReach_b4 x1 h) (t := t) (fun s s2 hb hk => by exact t_qLw_sizeOfReach_b4b hb hk) (fun s hb => by exact t_qLw_sizeOfReach_b4b hb K) n s H
  exact Z
def qLw_sizeOfReach (x1 : Int32) (h : zK) : Option (Int32) :=
  (zloop (qLw_sizeOfReach_b4 x1 h) zfu (0, 0)).bind fun t5 =>
  some t5
theorem t_qLw_sizeOfReach {Ls : Nat} {xs : Nat → Int32} {d : Nat} {x1 : Int32} {h : zK} {p : Int32} (H : qLw_sizeOfReach x1 h = some p) : zEv (zXs Ls xs) d zm_24 (0, [some (.ref 196), some (.int x1), none, none], [], zhp h) (some (.int p), zhp h) := by
  unfold qLw_sizeOfReach at H
  refine zEv_k 4 (f' := (4, [some (.ref 196), some (.int x1), some (.int 0), some (.int 0)], [], zhp h)) rfl ?_
  obtain ⟨t5, ht5, H⟩ := zbs H
  refine t_qLw_sizeOfReach_b4 (x1 := x1) (h := h) ?_ zfu _ ht5
  intro y3
  refine zEv_k 1 (f' := (35, [some (.ref 196), some (.int x1), some (.int t5), y3], [.int t5], zhp h)) rfl ?_
  cases H
  exact zEv_r rfl
