def qDe_become (oo : Nat) (oq : Nat) (h : zK) : Option (zK) :=
  zlet (sI h oo 0 (gI h oq 0)) fun h1 =>
  zlet (cI h1 (oq + 1) (oo + 1) 0 0 40) fun h2 =>
  zlet (cI h2 (oq + 2) (oo + 2) 0 0 40) fun h4 =>
  zlet (cI h4 (oq + 3) (oo + 3) 0 0 40) fun h6 =>
  some h6
theorem t_qDe_become {Ls : Nat} {xs : Nat → Int32} {d : Nat} {oo : Nat} {oq : Nat} {h : zK} {p : zK} (ho : (oo = 15 ∧ oq = 52) ∨ (oo = 30 ∧ oq = 67) ∨ (oo = 15 ∧ oq = 88) ∨ (oo = 30 ∧ oq = 103) ∨ (oo = 15 ∧ oq = 124) ∨ (oo = 30 ∧ oq = 139) ∨ (oo = 52 ∧ oq = 15) ∨ (oo = 67 ∧ oq = 30) ∨ (oo = 88 ∧ oq = 15) ∨ (oo = 103 ∧ oq = 30) ∨ (oo = 124 ∧ oq = 15) ∨ (oo = 139 ∧ oq = 30) ∨ (oo = 15 ∧ oq = 156) ∨ (oo = 30 ∧ oq = 156)) (H : qDe_become oo oq h = some p) : zEv (zXs Ls xs) d zm_11 (0, [some (.ref oo), some (.ref oq)], [], zhp h) (none, zhp p) := by
  unfold qDe_become at H
  rcases ho with ⟨rfl, rfl⟩ | ⟨rfl, rfl⟩ | ⟨rfl, rfl⟩ | ⟨rfl, rfl⟩ | ⟨rfl, rfl⟩ | ⟨rfl, rfl⟩ | ⟨rfl, rfl⟩ | ⟨rfl, rfl⟩ | ⟨rfl, rfl⟩ | ⟨rfl, rfl⟩ | ⟨rfl, rfl⟩ | ⟨rfl, rfl⟩ | ⟨rfl, rfl⟩ | ⟨rfl, rfl⟩
  · obtain ⟨h1, eh1, H⟩ := zlets H
    refine zEv_w (F := fun z => (8, [some (.ref 15), some (.ref 52)], [], zhp z)) (h0 := sI h 15 0 (gI h 52 0)) 4 rfl eh1 ?_
    refine zEv_k 1 (f' := (9, [some (.ref 15), some (.ref 52)], [.ref 52], zhp h1)) rfl ?_
    refine zRgr rfl rfl rfl (by decide) (b := 52 + 1) rfl ?_
    refine zEv_k 2 (f' := (14, [some (.ref 15), some (.ref 52)], [.ref 15, .int 0, .ref (52 + 1)], zhp h1)) rfl ?_
    refine zRgr rfl rfl rfl (by decide) (b := 15 + 1) rfl ?_
    refine zEv_k 2 (f' := (20, [some (.ref 15), some (.ref 52)], [.int 40, .int 0, .ref (15 + 1), .int 0, .ref (52 + 1)], zhp h1)) rfl ?_
    obtain ⟨h2, eh2, H⟩ := zlets H
    refine zRcp rfl rfl rfl (by decide) (by decide) (by decide) (by unfold zcpok; decide) (by decide) eh2 ?_
    refine zEv_k 1 (f' := (24, [some (.ref 15), some (.ref 52)], [.ref 52], zhp h2)) rfl ?_
    refine zRgr rfl rfl rfl (by decide) (b := 52 + 2) rfl ?_
    refine zEv_k 2 (f' := (29, [some (.ref 15), some (.ref 52)], [.ref 15, .int 0, .ref (52 + 2)], zhp h2)) rfl ?_
    refine zRgr rfl rfl rfl (by decide) (b := 15 + 2) rfl ?_
    refine zEv_k 2 (f' := (35, [some (.ref 15), some (.ref 52)], [.int 40, .int 0, .ref (15 + 2), .int 0, .ref (52 + 2)], zhp h2)) rfl ?_
    obtain ⟨h4, eh4, H⟩ := zlets H
    refine zRcp rfl rfl rfl (by decide) (by decide) (by decide) (by unfold zcpok; decide) (by decide) eh4 ?_
    refine zEv_k 1 (f' := (39, [some (.ref 15), some (.ref 52)], [.ref 52], zhp h4)) rfl ?_
    refine zRgr rfl rfl rfl (by decide) (b := 52 + 3) rfl ?_
    refine zEv_k 2 (f' := (44, [some (.ref 15), some (.ref 52)], [.ref 15, .int 0, .ref (52 + 3)], zhp h4)) rfl ?_
    refine zRgr rfl rfl rfl (by decide) (b := 15 + 3) rfl ?_
    refine zEv_k 2 (f' := (50, [some (.ref 15), some (.ref 52)], [.int 40, .int 0, .ref (15 + 3), .int 0, .ref (52 + 3)], zhp h4)) rfl ?_
    obtain ⟨h6, eh6, H⟩ := zlets H
    refine zRcp rfl rfl rfl (by decide) (by decide) (by decide) (by unfold zcpok; decide) (by decide) eh6 ?_
    cases H
    exact zEv_r rfl
  · obtain ⟨h1, eh1, H⟩ := zlets H
    refine zEv_w (F := fun z => (8, [some (.ref 30), some (.ref 67)], [], zhp z)) (h0 := sI h 30 0 (gI h 67 0)) 4 rfl eh1 ?_
    refine zEv_k 1 (f' := (9, [some (.ref 30), some (.ref 67)], [.ref 67], zhp h1)) rfl ?_
    refine zRgr rfl rfl rfl (by decide) (b := 67 + 1) rfl ?_
    refine zEv_k 2 (f' := (14, [some (.ref 30), some (.ref 67)], [.ref 30, .int 0, .ref (67 + 1)], zhp h1)) rfl ?_
    refine zRgr rfl rfl rfl (by decide) (b := 30 + 1) rfl ?_
    refine zEv_k 2 (f' := (20, [some (.ref 30), some (.ref 67)], [.int 40, .int 0, .ref (30 + 1), .int 0, .ref (67 + 1)], zhp h1)) rfl ?_
    obtain ⟨h2, eh2, H⟩ := zlets H
    refine zRcp rfl rfl rfl (by decide) (by decide) (by decide) (by unfold zcpok; decide) (by decide) eh2 ?_
    refine zEv_k 1 (f' := (24, [some (.ref 30), some (.ref 67)], [.ref 67], zhp h2)) rfl ?_
    refine zRgr rfl rfl rfl (by decide) (b := 67 + 2) rfl ?_
    refine zEv_k 2 (f' := (29, [some (.ref 30), some (.ref 67)], [.ref 30, .int 0, .ref (67 + 2)], zhp h2)) rfl ?_
    refine zRgr rfl rfl rfl (by decide) (b := 30 + 2) rfl ?_
    refine zEv_k 2 (f' := (35, [some (.ref 30), some (.ref 67)], [.int 40, .int 0, .ref (30 + 2), .int 0, .ref (67 + 2)], zhp h2)) rfl ?_
    obtain ⟨h4, eh4, H⟩ := zlets H
    refine zRcp rfl rfl rfl (by decide) (by decide) (by decide) (by unfold zcpok; decide) (by decide) eh4 ?_
    refine zEv_k 1 (f' := (39, [some (.ref 30), some (.ref 67)], [.ref 67], zhp h4)) rfl ?_
    refine zRgr rfl rfl rfl (by decide) (b := 67 + 3) rfl ?_
    refine zEv_k 2 (f' := (44, [some (.ref 30), some (.ref 67)], [.ref 30, .int 0, .ref (67 + 3)], zhp h4)) rfl ?_
    refine zRgr rfl rfl rfl (by decide) (b := 30 + 3) rfl ?_
    refine zEv_k 2 (f' := (50, [some (.ref 30), some (.ref 67)], [.int 40, .int 0, .ref (30 + 3), .int 0, .ref (67 + 3)], zhp h4)) rfl ?_
    obtain ⟨h6, eh6, H⟩ := zlets H
    refine zRcp rfl rfl rfl (by decide) (by decide) (by decide) (by unfold zcpok; decide) (by decide) eh6 ?_
    cases H
    exact zEv_r rfl
  · obtain ⟨h1, eh1, H⟩ := zlets H
    refine zEv_w (F := fun z => (8, [some (.ref 15), some (.ref 88)], [], zhp z)) (h0 := sI h 15 0 (gI h 88 0)) 4 rfl eh1 ?_
    refine zEv_k 1 (f' := (9, [some (.ref 15), some (.ref 88)], [.ref 88], zhp h1)) rfl ?_
    refine zRgr rfl rfl rfl (by decide) (b := 88 + 1) rfl ?_
    refine zEv_k 2 (f' := (14, [some (.ref 15), some (.ref 88)], [.ref 15, .int 0, .ref (88 + 1)], zhp h1)) rfl ?_
    refine zRgr rfl rfl rfl (by decide) (b := 15 + 1) rfl ?_
    refine zEv_k 2 (f' := (20, [some (.ref 15), some (.ref 88)], [.int 40, .int 0, .ref (15 + 1), .int 0, .ref (88 + 1)], zhp h1)) rfl ?_
    obtain ⟨h2, eh2, H⟩ := zlets H
    refine zRcp rfl rfl rfl (by decide) (by decide) (by decide) (by unfold zcpok; decide) (by decide) eh2 ?_
    refine zEv_k 1 (f' := (24, [some (.ref 15), some (.ref 88)], [.ref 88], zhp h2)) rfl ?_
    refine zRgr rfl rfl rfl (by decide) (b := 88 + 2) rfl ?_
    refine zEv_k 2 (f' := (29, [some (.ref 15), some (.ref 88)], [.ref 15, .int 0, .ref (88 + 2)], zhp h2)) rfl ?_
    refine zRgr rfl rfl rfl (by decide) (b := 15 + 2) rfl ?_
    refine zEv_k 2 (f' := (35, [some (.ref 15), some (.ref 88)], [.int 40, .int 0, .ref (15 + 2), .int 0, .ref (88 + 2)], zhp h2)) rfl ?_
    obtain ⟨h4, eh4, H⟩ := zlets H
    refine zRcp rfl rfl rfl (by decide) (by decide) (by decide) (by unfold zcpok; decide) (by decide) eh4 ?_
    refine zEv_k 1 (f' := (39, [some (.ref 15), some (.ref 88)], [.ref 88], zhp h4)) rfl ?_
    refine zRgr rfl rfl rfl (by decide) (b := 88 + 3) rfl ?_
    refine zEv_k 2 (f' := (44, [some (.ref 15), some (.ref 88)], [.ref 15, .int 0, .ref (88 + 3)], zhp h4)) rfl ?_
    refine zRgr rfl rfl rfl (by decide) (b := 15 + 3) rfl ?_
    refine zEv_k 2 (f' := (50, [some (.ref 15), some (.ref 88)], [.int 40, .int 0, .ref (15 + 3), .int 0, .ref (88 + 3)], zhp h4)) rfl ?_
    obtain ⟨h6, eh6, H⟩ := zlets H
    refine zRcp rfl rfl rfl (by decide) (by decide) (by decide) (by unfold zcpok; decide) (by decide) eh6 ?_
    cases H
    exact zEv_r rfl
  · obtain ⟨h1, eh1, H⟩ := zlets H
    refine zEv_w (F := fun z => (8, [some (.ref 30), some (.ref 103)], [], zhp z)) (h0 := sI h 30 0 (gI h 103 0)) 4 rfl eh1 ?_
    refine zEv_k 1 (f' := (9, [some (.ref 30), some (.ref 103)], [.ref 103], zhp h1)) rfl ?_
    refine zRgr rfl rfl rfl (by decide) (b := 103 + 1) rfl ?_
    refine zEv_k 2 (f' := (14, [some (.ref 30), some (.ref 103)], [.ref 30, .int 0, .ref (103 + 1)], zhp h1)) rfl ?_
    refine zRgr rfl rfl rfl (by decide) (b := 30 + 1) rfl ?_
    refine zEv_k 2 (f' := (20, [some (.ref 30), some (.ref 103)], [.int 40, .int 0, .ref (30 + 1), .int 0, .ref (103 + 1)], zhp h1)) rfl ?_
    obtain ⟨h2, eh2, H⟩ := zlets H
    refine zRcp rfl rfl rfl (by decide) (by decide) (by decide) (by unfold zcpok; decide) (by decide) eh2 ?_
    refine zEv_k 1 (f' := (24, [some (.ref 30), some (.ref 103)], [.ref 103], zhp h2)) rfl ?_
    refine zRgr rfl rfl rfl (by decide) (b := 103 + 2) rfl ?_
    refine zEv_k 2 (f' := (29, [some (.ref 30), some (.ref 103)], [.ref 30, .int 0, .ref (103 + 2)], zhp h2)) rfl ?_
    refine zRgr rfl rfl rfl (by decide) (b := 30 + 2) rfl ?_
    refine zEv_k 2 (f' := (35, [some (.ref 30), some (.ref 103)], [.int 40, .int 0, .ref (30 + 2), .int 0, .ref (103 + 2)], zhp h2)) rfl ?_
    obtain ⟨h4, eh4, H⟩ := zlets H
    refine zRcp rfl rfl rfl (by decide) (by decide) (by decide) (by unfold zcpok; decide) (by decide) eh4 ?_
    refine zEv_k 1 (f' := (39, [some (.ref 30), some (.ref 103)], [.ref 103], zhp h4)) rfl ?_
    refine zRgr rfl rfl rfl (by decide) (b := 103 + 3) rfl ?_
    refine zEv_k 2 (f' := (44, [some (.ref 30), some (.ref 103)], [.ref 30, .int 0, .ref (103 + 3)], zhp h4)) rfl ?_
    refine zRgr rfl rfl rfl (by decide) (b := 30 + 3) rfl ?_
    refine zEv_k 2 (f' := (50, [some (.ref 30), some (.ref 103)], [.int 40, .int 0, .ref (30 + 3), .int 0, .ref (103 + 3)], zhp h4)) rfl ?_
    obtain ⟨h6, eh6, H⟩ := zlets H
    refine zRcp rfl rfl rfl (by decide) (by decide) (by decide) (by unfold zcpok; decide) (by decide) eh6 ?_
    cases H
    exact zEv_r rfl
  · obtain ⟨h1, eh1, H⟩ := zlets H
    refine zEv_w (F := fun z => (8, [some (.ref 15), some (.ref 124)], [], zhp z)) (h0 := sI h 15 0 (gI h 124 0)) 4 rfl eh1 ?_
    refine zEv_k 1 (f' := (9, [some (.ref 15), some (.ref 124)], [.ref 124], zhp h1)) rfl ?_
    refine zRgr rfl rfl rfl (by decide) (b := 124 + 1) rfl ?_
    refine zEv_k 2 (f' := (14, [some (.ref 15), some (.ref 124)], [.ref 15, .int 0, .ref (124 + 1)], zhp h1)) rfl ?_
    refine zRgr rfl rfl rfl (by decide) (b := 15 + 1) rfl ?_
    refine zEv_k 2 (f' := (20, [some (.ref 15), some (.ref 124)], [.int 40, .int 0, .ref (15 + 1), .int 0, .ref (124 + 1)], zhp h1)) rfl ?_
    obtain ⟨h2, eh2, H⟩ := zlets H
    refine zRcp rfl rfl rfl (by decide) (by decide) (by decide) (by unfold zcpok; decide) (by decide) eh2 ?_
    refine zEv_k 1 (f' := (24, [some (.ref 15), some (.ref 124)], [.ref 124], zhp h2)) rfl ?_
    refine zRgr rfl rfl rfl (by decide) (b := 124 + 2) rfl ?_
    refine zEv_k 2 (f' := (29, [some (.ref 15), some (.ref 124)], [.ref 15, .int 0, .ref (124 + 2)], zhp h2)) rfl ?_
    refine zRgr rfl rfl rfl (by decide) (b := 15 + 2) rfl ?_
    refine zEv_k 2 (f' := (35, [some (.ref 15), some (.ref 124)], [.int 40, .int 0, .ref (15 + 2), .int 0, .ref (124 + 2)], zhp h2)) rfl ?_
    obtain ⟨h4, eh4, H⟩ := zlets H
    refine zRcp rfl rfl rfl (by decide) (by decide) (by decide) (by unfold zcpok; decide) (by decide) eh4 ?_
    refine zEv_k 1 (f' := (39, [some (.ref 15), some (.ref 124)], [.ref 124], zhp h4)) rfl ?_
    refine zRgr rfl rfl rfl (by decide) (b := 124 + 3) rfl ?_
    refine zEv_k 2 (f' := (44, [some (.ref 15), some (.ref 124)], [.ref 15, .int 0, .ref (124 + 3)], zhp h4)) rfl ?_
    refine zRgr rfl rfl rfl (by decide) (b := 15 + 3) rfl ?_
    refine zEv_k 2 (f' := (50, [some (.ref 15), some (.ref 124)], [.int 40, .int 0, .ref (15 + 3), .int 0, .ref (124 + 3)], zhp h4)) rfl ?_
    obtain ⟨h6, eh6, H⟩ := zlets H
    refine zRcp rfl rfl rfl (by decide) (by decide) (by decide) (by unfold zcpok; decide) (by decide) eh6 ?_
    cases H
    exact zEv_r rfl
  · obtain ⟨h1, eh1, H⟩ := zlets H
    refine zEv_w (F := fun z => (8, [some (.ref 30), some (.ref 139)], [], zhp z)) (h0 := sI h 30 0 (gI h 139 0)) 4 rfl eh1 ?_
    refine zEv_k 1 (f' := (9, [some (.ref 30), some (.ref 139)], [.ref 139], zhp h1)) rfl ?_
    refine zRgr rfl rfl rfl (by decide) (b := 139 + 1) rfl ?_
    refine zEv_k 2 (f' := (14, [some (.ref 30), some (.ref 139)], [.ref 30, .int 0, .ref (139 + 1)], zhp h1)) rfl ?_
    refine zRgr rfl rfl rfl (by decide) (b := 30 + 1) rfl ?_
    refine zEv_k 2 (f' := (20, [some (.ref 30), some (.ref 139)], [.int 40, .int 0, .ref (30 + 1), .int 0, .ref (139 + 1)], zhp h1)) rfl ?_
    obtain ⟨h2, eh2, H⟩ := zlets H
    refine zRcp rfl rfl rfl (by decide) (by decide) (by decide) (by unfold zcpok; decide) (by decide) eh2 ?_
    refine zEv_k 1 (f' := (24, [some (.ref 30), some (.ref 139)], [.ref 139], zhp h2)) rfl ?_
    refine zRgr rfl rfl rfl (by decide) (b := 139 + 2) rfl ?_
    refine zEv_k 2 (f' := (29, [some (.ref 30), some (.ref 139)], [.ref 30, .int 0, .ref (139 + 2)], zhp h2)) rfl ?_
    refine zRgr rfl rfl rfl (by decide) (b := 30 + 2) rfl ?_
    refine zEv_k 2 (f' := (35, [some (.ref 30), some (.ref 139)], [.int 40, .int 0, .ref (30 + 2), .int 0, .ref (139 + 2)], zhp h2)) rfl ?_
    obtain ⟨h4, eh4, H⟩ := zlets H
    refine zRcp rfl rfl rfl (by decide) (by decide) (by decide) (by unfold zcpok; decide) (by decide) eh4 ?_
    refine zEv_k 1 (f' := (39, [some (.ref 30), some (.ref 139)], [.ref 139], zhp h4)) rfl ?_
    refine zRgr rfl rfl rfl (by decide) (b := 139 + 3) rfl ?_
    refine zEv_k 2 (f' := (44, [some (.ref 30), some (.ref 139)], [.ref 30, .int 0, .ref (139 + 3)], zhp h4)) rfl ?_
    refine zRgr rfl rfl rfl (by decide) (b := 30 + 3) rfl ?_
    refine zEv_k 2 (f' := (50, [some (.ref 30), some (.ref 139)], [.int 40, .int 0, .ref (30 + 3), .int 0, .ref (139 + 3)], zhp h4)) rfl ?_
    obtain ⟨h6, eh6, H⟩ := zlets H
    refine zRcp rfl rfl rfl (by decide) (by decide) (by decide) (by unfold zcpok; decide) (by decide) eh6 ?_
    cases H
    exact zEv_r rfl
  · obtain ⟨h1, eh1, H⟩ := zlets H
    refine zEv_w (F := fun z => (8, [some (.ref 52), some (.ref 15)], [], zhp z)) (h0 := sI h 52 0 (gI h 15 0)) 4 rfl eh1 ?_
    refine zEv_k 1 (f' := (9, [some (.ref 52), some (.ref 15)], [.ref 15], zhp h1)) rfl ?_
    refine zRgr rfl rfl rfl (by decide) (b := 15 + 1) rfl ?_
    refine zEv_k 2 (f' := (14, [some (.ref 52), some (.ref 15)], [.ref 52, .int 0, .ref (15 + 1)], zhp h1)) rfl ?_
    refine zRgr rfl rfl rfl (by decide) (b := 52 + 1) rfl ?_
    refine zEv_k 2 (f' := (20, [some (.ref 52), some (.ref 15)], [.int 40, .int 0, .ref (52 + 1), .int 0, .ref (15 + 1)], zhp h1)) rfl ?_
    obtain ⟨h2, eh2, H⟩ := zlets H
    refine zRcp rfl rfl rfl (by decide) (by decide) (by decide) (by unfold zcpok; decide) (by decide) eh2 ?_
    refine zEv_k 1 (f' := (24, [some (.ref 52), some (.ref 15)], [.ref 15], zhp h2)) rfl ?_
    refine zRgr rfl rfl rfl (by decide) (b := 15 + 2) rfl ?_
    refine zEv_k 2 (f' := (29, [some (.ref 52), some (.ref 15)], [.ref 52, .int 0, .ref (15 + 2)], zhp h2)) rfl ?_
    refine zRgr rfl rfl rfl (by decide) (b := 52 + 2) rfl ?_
    refine zEv_k 2 (f' := (35, [some (.ref 52), some (.ref 15)], [.int 40, .int 0, .ref (52 + 2), .int 0, .ref (15 + 2)], zhp h2)) rfl ?_
    obtain ⟨h4, eh4, H⟩ := zlets H
    refine zRcp rfl rfl rfl (by decide) (by decide) (by decide) (by unfold zcpok; decide) (by decide) eh4 ?_
    refine zEv_k 1 (f' := (39, [some (.ref 52), some (.ref 15)], [.ref 15], zhp h4)) rfl ?_
    refine zRgr rfl rfl rfl (by decide) (b := 15 + 3) rfl ?_
    refine zEv_k 2 (f' := (44, [some (.ref 52), some (.ref 15)], [.ref 52, .int 0, .ref (15 + 3)], zhp h4)) rfl ?_
    refine zRgr rfl rfl rfl (by decide) (b := 52 + 3) rfl ?_
    refine zEv_k 2 (f' := (50, [some (.ref 52), some (.ref 15)], [.int 40, .int 0, .ref (52 + 3), .int 0, .ref (15 + 3)], zhp h4)) rfl ?_
    obtain ⟨h6, eh6, H⟩ := zlets H
    refine zRcp rfl rfl rfl (by decide) (by decide) (by decide) (by unfold zcpok; decide) (by decide) eh6 ?_
    cases H
    exact zEv_r rfl
  · obtain ⟨h1, eh1, H⟩ := zlets H
    refine zEv_w (F := fun z => (8, [some (.ref 67), some (.ref 30)], [], zhp z)) (h0 := sI h 67 0 (gI h 30 0)) 4 rfl eh1 ?_
    refine zEv_k 1 (f' := (9, [some (.ref 67), some (.ref 30)], [.ref 30], zhp h1)) rfl ?_
    refine zRgr rfl rfl rfl (by decide) (b := 30 + 1) rfl ?_
    refine zEv_k 2 (f' := (14, [some (.ref 67), some (.ref 30)], [.ref 67, .int 0, .ref (30 + 1)], zhp h1)) rfl ?_
    refine zRgr rfl rfl rfl (by decide) (b := 67 + 1) rfl ?_
    refine zEv_k 2 (f' := (20, [some (.ref 67), some (.ref 30)], [.int 40, .int 0, .ref (67 + 1), .int 0, .ref (30 + 1)], zhp h1)) rfl ?_
    obtain ⟨h2, eh2, H⟩ := zlets H
    refine zRcp rfl rfl rfl (by decide) (by decide) (by decide) (by unfold zcpok; decide) (by decide) eh2 ?_
    refine zEv_k 1 (f' := (24, [some (.ref 67), some (.ref 30)], [.ref 30], zhp h2)) rfl ?_
    refine zRgr rfl rfl rfl (by decide) (b := 30 + 2) rfl ?_
    refine zEv_k 2 (f' := (29, [some (.ref 67), some (.ref 30)], [.ref 67, .int 0, .ref (30 + 2)], zhp h2)) rfl ?_
    refine zRgr rfl rfl rfl (by decide) (b := 67 + 2) rfl ?_
    refine zEv_k 2 (f' := (35, [some (.ref 67), some (.ref 30)], [.int 40, .int 0, .ref (67 + 2), .int 0, .ref (30 + 2)], zhp h2)) rfl ?_
    obtain ⟨h4, eh4, H⟩ := zlets H
    refine zRcp rfl rfl rfl (by decide) (by decide) (by decide) (by unfold zcpok; decide) (by decide) eh4 ?_
    refine zEv_k 1 (f' := (39, [some (.ref 67), some (.ref 30)], [.ref 30], zhp h4)) rfl ?_
    refine zRgr rfl rfl rfl (by decide) (b := 30 + 3) rfl ?_
    refine zEv_k 2 (f' := (44, [some (.ref 67), some (.ref 30)], [.ref 67, .int 0, .ref (30 + 3)], zhp h4)) rfl ?_
    refine zRgr rfl rfl rfl (by decide) (b := 67 + 3) rfl ?_
    refine zEv_k 2 (f' := (50, [some (.ref 67), some (.ref 30)], [.int 40, .int 0, .ref (67 + 3), .int 0, .ref (30 + 3)], zhp h4)) rfl ?_
    obtain ⟨h6, eh6, H⟩ := zlets H
    refine zRcp rfl rfl rfl (by decide) (by decide) (by decide) (by unfold zcpok; decide) (by decide) eh6 ?_
    cases H
    exact zEv_r rfl
  · obtain ⟨h1, eh1, H⟩ := zlets H
    refine zEv_w (F := fun z => (8, [some (.ref 88), some (.ref 15)], [], zhp z)) (h0 := sI h 88 0 (gI h 15 0)) 4 rfl eh1 ?_
    refine zEv_k 1 (f' := (9, [some (.ref 88), some (.ref 15)], [.ref 15], zhp h1)) rfl ?_
    refine zRgr rfl rfl rfl (by decide) (b := 15 + 1) rfl ?_
    refine zEv_k 2 (f' := (14, [some (.ref 88), some (.ref 15)], [.ref 88, .int 0, .ref (15 + 1)], zhp h1)) rfl ?_
    refine zRgr rfl rfl rfl (by decide) (b := 88 + 1) rfl ?_
    refine zEv_k 2 (f' := (20, [some (.ref 88), some (.ref 15)], [.int 40, .int 0, .ref (88 + 1), .int 0, .ref (15 + 1)], zhp h1)) rfl ?_
    obtain ⟨h2, eh2, H⟩ := zlets H
    refine zRcp rfl rfl rfl (by decide) (by decide) (by decide) (by unfold zcpok; decide) (by decide) eh2 ?_
    refine zEv_k 1 (f' := (24, [some (.ref 88), some (.ref 15)], [.ref 15], zhp h2)) rfl ?_
    refine zRgr rfl rfl rfl (by decide) (b := 15 + 2) rfl ?_
    refine zEv_k 2 (f' := (29, [some (.ref 88), some (.ref 15)], [.ref 88, .int 0, .ref (15 + 2)], zhp h2)) rfl ?_
    refine zRgr rfl rfl rfl (by decide) (b := 88 + 2) rfl ?_
    refine zEv_k 2 (f' := (35, [some (.ref 88), some (.ref 15)], [.int 40, .int 0, .ref (88 + 2), .int 0, .ref (15 + 2)], zhp h2)) rfl ?_
    obtain ⟨h4, eh4, H⟩ := zlets H
    refine zRcp rfl rfl rfl (by decide) (by decide) (by decide) (by unfold zcpok; decide) (by decide) eh4 ?_
    refine zEv_k 1 (f' := (39, [some (.ref 88), some (.ref 15)], [.ref 15], zhp h4)) rfl ?_
    refine zRgr rfl rfl rfl (by decide) (b := 15 + 3) rfl ?_
    refine zEv_k 2 (f' := (44, [some (.ref 88), some (.ref 15)], [.ref 88, .int 0, .ref (15 + 3)], zhp h4)) rfl ?_
    refine zRgr rfl rfl rfl (by decide) (b := 88 + 3) rfl ?_
    refine zEv_k 2 (f' := (50, [some (.ref 88), some (.ref 15)], [.int 40, .int 0, .ref (88 + 3), .int 0, .ref (15 + 3)], zhp h4)) rfl ?_
    obtain ⟨h6, eh6, H⟩ := zlets H
    refine zRcp rfl rfl rfl (by decide) (by decide) (by decide) (by unfold zcpok; decide) (by decide) eh6 ?_
    cases H
    exact zEv_r rfl
  · obtain ⟨h1, eh1, H⟩ := zlets H
    refine zEv_w (F := fun z => (8, [some (.ref 103), some (.ref 30)], [], zhp z)) (h0 := sI h 103 0 (gI h 30 0)) 4 rfl eh1 ?_
    refine zEv_k 1 (f' := (9, [some (.ref 103), some (.ref 30)], [.ref 30], zhp h1)) rfl ?_
    refine zRgr rfl rfl rfl (by decide) (b := 30 + 1) rfl ?_
    refine zEv_k 2 (f' := (14, [some (.ref 103), some (.ref 30)], [.ref 103, .int 0, .ref (30 + 1)], zhp h1)) rfl ?_
    refine zRgr rfl rfl rfl (by decide) (b := 103 + 1) rfl ?_
    refine zEv_k 2 (f' := (20, [some (.ref 103), some (.ref 30)], [.int 40, .int 0, .ref (103 + 1), .int 0, .ref (30 + 1)], zhp h1)) rfl ?_
    obtain ⟨h2, eh2, H⟩ := zlets H
    refine zRcp rfl rfl rfl (by decide) (by decide) (by decide) (by unfold zcpok; decide) (by decide) eh2 ?_
    refine zEv_k 1 (f' := (24, [some (.ref 103), some (.ref 30)], [.ref 30], zhp h2)) rfl ?_
    refine zRgr rfl rfl rfl (by decide) (b := 30 + 2) rfl ?_
    refine zEv_k 2 (f' := (29, [some (.ref 103), some (.ref 30)], [.ref 103, .int 0, .ref (30 + 2)], zhp h2)) rfl ?_
    refine zRgr rfl rfl rfl (by decide) (b := 103 + 2) rfl ?_
    refine zEv_k 2 (f' := (35, [some (.ref 103), some (.ref 30)], [.int 40, .int 0, .ref (103 + 2), .int 0, .ref (30 + 2)], zhp h2)) rfl ?_
    obtain ⟨h4, eh4, H⟩ := zlets H
    refine zRcp rfl rfl rfl (by decide) (by decide) (by decide) (by unfold zcpok; decide) (by decide) eh4 ?_
    refine zEv_k 1 (f' := (39, [some (.ref 103), some (.ref 30)], [.ref 30], zhp h4)) rfl ?_
    refine zRgr rfl rfl rfl (by decide) (b := 30 + 3) rfl ?_
    refine zEv_k 2 (f' := (44, [some (.ref 103), some (.ref 30)], [.ref 103, .int 0, .ref (30 + 3)], zhp h4)) rfl ?_
    refine zRgr rfl rfl rfl (by decide) (b := 103 + 3) rfl ?_
    refine zEv_k 2 (f' := (50, [some (.ref 103), some (.ref 30)], [.int 40, .int 0, .ref (103 + 3), .int 0, .ref (30 + 3)], zhp h4)) rfl ?_
    obtain ⟨h6, eh6, H⟩ := zlets H
    refine zRcp rfl rfl rfl (by decide) (by decide) (by decide) (by unfold zcpok; decide) (by decide) eh6 ?_
    cases H
    exact zEv_r rfl
  · obtain ⟨h1, eh1, H⟩ := zlets H
    refine zEv_w (F := fun z => (8, [some (.ref 124), some (.ref 15)], [], zhp z)) (h0 := sI h 124 0 (gI h 15 0)) 4 rfl eh1 ?_
    refine zEv_k 1 (f' := (9, [some (.ref 124), some (.ref 15)], [.ref 15], zhp h1)) rfl ?_
    refine zRgr rfl rfl rfl (by decide) (b := 15 + 1) rfl ?_
    refine zEv_k 2 (f' := (14, [some (.ref 124), some (.ref 15)], [.ref 124, .int 0, .ref (15 + 1)], zhp h1)) rfl ?_
    refine zRgr rfl rfl rfl (by decide) (b := 124 + 1) rfl ?_
    refine zEv_k 2 (f' := (20, [some (.ref 124), some (.ref 15)], [.int 40, .int 0, .ref (124 + 1), .int 0, .ref (15 + 1)], zhp h1)) rfl ?_
    obtain ⟨h2, eh2, H⟩ := zlets H
    refine zRcp rfl rfl rfl (by decide) (by decide) (by decide) (by unfold zcpok; decide) (by decide) eh2 ?_
    refine zEv_k 1 (f' := (24, [some (.ref 124), some (.ref 15)], [.ref 15], zhp h2)) rfl ?_
    refine zRgr rfl rfl rfl (by decide) (b := 15 + 2) rfl ?_
    refine zEv_k 2 (f' := (29, [some (.ref 124), some (.ref 15)], [.ref 124, .int 0, .ref (15 + 2)], zhp h2)) rfl ?_
    refine zRgr rfl rfl rfl (by decide) (b := 124 + 2) rfl ?_
    refine zEv_k 2 (f' := (35, [some (.ref 124), some (.ref 15)], [.int 40, .int 0, .ref (124 + 2), .int 0, .ref (15 + 2)], zhp h2)) rfl ?_
    obtain ⟨h4, eh4, H⟩ := zlets H
    refine zRcp rfl rfl rfl (by decide) (by decide) (by decide) (by unfold zcpok; decide) (by decide) eh4 ?_
    refine zEv_k 1 (f' := (39, [some (.ref 124), some (.ref 15)], [.ref 15], zhp h4)) rfl ?_
    refine zRgr rfl rfl rfl (by decide) (b := 15 + 3) rfl ?_
    refine zEv_k 2 (f' := (44, [some (.ref 124), some (.ref 15)], [.ref 124, .int 0, .ref (15 + 3)], zhp h4)) rfl ?_
    refine zRgr rfl rfl rfl (by decide) (b := 124 + 3) rfl ?_
    refine zEv_k 2 (f' := (50, [some (.ref 124), some (.ref 15)], [.int 40, .int 0, .ref (124 + 3), .int 0, .ref (15 + 3)], zhp h4)) rfl ?_
    obtain ⟨h6, eh6, H⟩ := zlets H
    refine zRcp rfl rfl rfl (by decide) (by decide) (by decide) (by unfold zcpok; decide) (by decide) eh6 ?_
    cases H
    exact zEv_r rfl
  · obtain ⟨h1, eh1, H⟩ := zlets H
    refine zEv_w (F := fun z => (8, [some (.ref 139), some (.ref 30)], [], zhp z)) (h0 := sI h 139 0 (gI h 30 0)) 4 rfl eh1 ?_
    refine zEv_k 1 (f' := (9, [some (.ref 139), some (.ref 30)], [.ref 30], zhp h1)) rfl ?_
    refine zRgr rfl rfl rfl (by decide) (b := 30 + 1) rfl ?_
    refine zEv_k 2 (f' := (14, [some (.ref 139), some (.ref 30)], [.ref 139, .int 0, .ref (30 + 1)], zhp h1)) rfl ?_
    refine zRgr rfl rfl rfl (by decide) (b := 139 + 1) rfl ?_
    refine zEv_k 2 (f' := (20, [some (.ref 139), some (.ref 30)], [.int 40, .int 0, .ref (139 + 1), .int 0, .ref (30 + 1)], zhp h1)) rfl ?_
    obtain ⟨h2, eh2, H⟩ := zlets H
    refine zRcp rfl rfl rfl (by decide) (by decide) (by decide) (by unfold zcpok; decide) (by decide) eh2 ?_
    refine zEv_k 1 (f' := (24, [some (.ref 139), some (.ref 30)], [.ref 30], zhp h2)) rfl ?_
    refine zRgr rfl rfl rfl (by decide) (b := 30 + 2) rfl ?_
    refine zEv_k 2 (f' := (29, [some (.ref 139), some (.ref 30)], [.ref 139, .int 0, .ref (30 + 2)], zhp h2)) rfl ?_
    refine zRgr rfl rfl rfl (by decide) (b := 139 + 2) rfl ?_
    refine zEv_k 2 (f' := (35, [some (.ref 139), some (.ref 30)], [.int 40, .int 0, .ref (139 + 2), .int 0, .ref (30 + 2)], zhp h2)) rfl ?_
    obtain ⟨h4, eh4, H⟩ := zlets H
    refine zRcp rfl rfl rfl (by decide) (by decide) (by decide) (by unfold zcpok; decide) (by decide) eh4 ?_
    refine zEv_k 1 (f' := (39, [some (.ref 139), some (.ref 30)], [.ref 30], zhp h4)) rfl ?_
    refine zRgr rfl rfl rfl (by decide) (b := 30 + 3) rfl ?_
    refine zEv_k 2 (f' := (44, [some (.ref 139), some (.ref 30)], [.ref 139, .int 0, .ref (30 + 3)], zhp h4)) rfl ?_
    refine zRgr rfl rfl rfl (by decide) (b := 139 + 3) rfl ?_
    refine zEv_k 2 (f' := (50, [some (.ref 139), some (.ref 30)], [.int 40, .int 0, .ref (139 + 3), .int 0, .ref (30 + 3)], zhp h4)) rfl ?_
    obtain ⟨h6, eh6, H⟩ := zlets H
    refine zRcp rfl rfl rfl (by decide) (by decide) (by decide) (by unfold zcpok; decide) (by decide) eh6 ?_
    cases H
    exact zEv_r rfl
  · obtain ⟨h1, eh1, H⟩ := zlets H
    refine zEv_w (F := fun z => (8, [some (.ref 15), some (.ref 156)], [], zhp z)) (h0 := sI h 15 0 (gI h 156 0)) 4 rfl eh1 ?_
    refine zEv_k 1 (f' := (9, [some (.ref 15), some (.ref 156)], [.ref 156], zhp h1)) rfl ?_
    refine zRgr rfl rfl rfl (by decide) (b := 156 + 1) rfl ?_
    refine zEv_k 2 (f' := (14, [some (.ref 15), some (.ref 156)], [.ref 15, .int 0, .ref (156 + 1)], zhp h1)) rfl ?_
    refine zRgr rfl rfl rfl (by decide) (b := 15 + 1) rfl ?_
    refine zEv_k 2 (f' := (20, [some (.ref 15), some (.ref 156)], [.int 40, .int 0, .ref (15 + 1), .int 0, .ref (156 + 1)], zhp h1)) rfl ?_
    obtain ⟨h2, eh2, H⟩ := zlets H
    refine zRcp rfl rfl rfl (by decide) (by decide) (by decide) (by unfold zcpok; decide) (by decide) eh2 ?_
    refine zEv_k 1 (f' := (24, [some (.ref 15), some (.ref 156)], [.ref 156], zhp h2)) rfl ?_
    refine zRgr rfl rfl rfl (by decide) (b := 156 + 2) rfl ?_
    refine zEv_k 2 (f' := (29, [some (.ref 15), some (.ref 156)], [.ref 15, .int 0, .ref (156 + 2)], zhp h2)) rfl ?_
    refine zRgr rfl rfl rfl (by decide) (b := 15 + 2) rfl ?_
    refine zEv_k 2 (f' := (35, [some (.ref 15), some (.ref 156)], [.int 40, .int 0, .ref (15 + 2), .int 0, .ref (156 + 2)], zhp h2)) rfl ?_
    obtain ⟨h4, eh4, H⟩ := zlets H
    refine zRcp rfl rfl rfl (by decide) (by decide) (by decide) (by unfold zcpok; decide) (by decide) eh4 ?_
    refine zEv_k 1 (f' := (39, [some (.ref 15), some (.ref 156)], [.ref 156], zhp h4)) rfl ?_
    refine zRgr rfl rfl rfl (by decide) (b := 156 + 3) rfl ?_
    refine zEv_k 2 (f' := (44, [some (.ref 15), some (.ref 156)], [.ref 15, .int 0, .ref (156 + 3)], zhp h4)) rfl ?_
    refine zRgr rfl rfl rfl (by decide) (b := 15 + 3) rfl ?_
    refine zEv_k 2 (f' := (50, [some (.ref 15), some (.ref 156)], [.int 40, .int 0, .ref (15 + 3), .int 0, .ref (156 + 3)], zhp h4)) rfl ?_
    obtain ⟨h6, eh6, H⟩ := zlets H
    refine zRcp rfl rfl rfl (by decide) (by decide) (by decide) (by unfold zcpok; decide) (by decide) eh6 ?_
    cases H
    exact zEv_r rfl
  · obtain ⟨h1, eh1, H⟩ := zlets H
    refine zEv_w (F := fun z => (8, [some (.ref 30), some (.ref 156)], [], zhp z)) (h0 := sI h 30 0 (gI h 156 0)) 4 rfl eh1 ?_
    refine zEv_k 1 (f' := (9, [some (.ref 30), some (.ref 156)], [.ref 156], zhp h1)) rfl ?_
    refine zRgr rfl rfl rfl (by decide) (b := 156 + 1) rfl ?_
    refine zEv_k 2 (f' := (14, [some (.ref 30), some (.ref 156)], [.ref 30, .int 0, .ref (156 + 1)], zhp h1)) rfl ?_
    refine zRgr rfl rfl rfl (by decide) (b := 30 + 1) rfl ?_
    refine zEv_k 2 (f' := (20, [some (.ref 30), some (.ref 156)], [.int 40, .int 0, .ref (30 + 1), .int 0, .ref (156 + 1)], zhp h1)) rfl ?_
    obtain ⟨h2, eh2, H⟩ := zlets H
    refine zRcp rfl rfl rfl (by decide) (by decide) (by decide) (by unfold zcpok; decide) (by decide) eh2 ?_
    refine zEv_k 1 (f' := (24, [some (.ref 30), some (.ref 156)], [.ref 156], zhp h2)) rfl ?_
    refine zRgr rfl rfl rfl (by decide) (b := 156 + 2) rfl ?_
    refine zEv_k 2 (f' := (29, [some (.ref 30), some (.ref 156)], [.ref 30, .int 0, .ref (156 + 2)], zhp h2)) rfl ?_
    refine zRgr rfl rfl rfl (by decide) (b := 30 + 2) rfl ?_
    refine zEv_k 2 (f' := (35, [some (.ref 30), some (.ref 156)], [.int 40, .int 0, .ref (30 + 2), .int 0, .ref (156 + 2)], zhp h2)) rfl ?_
    obtain ⟨h4, eh4, H⟩ := zlets H
    refine zRcp rfl rfl rfl (by decide) (by decide) (by decide) (by unfold zcpok; decide) (by decide) eh4 ?_
    refine zEv_k 1 (f' := (39, [some (.ref 30), some (.ref 156)], [.ref 156], zhp h4)) rfl ?_
    refine zRgr rfl rfl rfl (by decide) (b := 156 + 3) rfl ?_
    refine zEv_k 2 (f' := (44, [some (.ref 30), some (.ref 156)], [.ref 30, .int 0, .ref (156 + 3)], zhp h4)) rfl ?_
    refine zRgr rfl rfl rfl (by decide) (b := 30 + 3) rfl ?_
    refine zEv_k 2 (f' := (50, [some (.ref 30), some (.ref 156)], [.int 40, .int 0, .ref (30 + 3), .int 0, .ref (156 + 3)], zhp h4)) rfl ?_
    obtain ⟨h6, eh6, H⟩ := zlets H
    refine zRcp rfl rfl rfl (by decide) (by decide) (by decide) (by unfold zcpok; decide) (by decide) eh6 ?_
    cases H
    exact zEv_r rfl
def qDe_isFull (h : zK) : Int32 :=
  if (gI h 156 0) < 40 then
    0
  else
    1
theorem t_qDe_isFull {Ls : Nat} {xs : Nat → Int32} {d : Nat} {h : zK} {p : Int32} (H : qDe_isFull h = p) : zEv (zXs Ls xs) d zm_12 (0, [some (.ref 156)], [], zhp h) (some (.int p), zhp h) := by
  unfold qDe_isFull at H
  refine zEv_k 4 (f' := (if (gI h 156 0) < 40 then 13 else 9, [some (.ref 156)], [], zhp h)) rfl (zEv_if (fun c1 => ?_) (fun c1 => ?_))
  · replace H := zif_t c1 H
    refine zEv_k 1 (f' := (14, [some (.ref 156)], [.int 0], zhp h)) rfl ?_
    cases H
    exact zEv_r rfl
  · replace H := zif_f c1 H
    refine zEv_k 2 (f' := (14, [some (.ref 156)], [.int 1], zhp h)) rfl ?_
    cases H
    exact zEv_r rfl
def qDe_add (x1 : Int32) (x2 : Int32) (x3 : Int32) (h : zK) : Option (zK) :=
  if (qDe_isFull h) = 0 then
    (zix (gI h 156 0) 40).bind fun j2 =>
    zlet (sI h 157 j2 x1) fun h3 =>
    (zix (gI h3 156 0) 40).bind fun j4 =>
    zlet (sI h3 158 j4 x2) fun h5 =>
    (zix (gI h5 156 0) 40).bind fun j6 =>
    zlet (sI h5 159 j6 x3) fun h7 =>
    zlet (sI h7 156 0 ((gI h7 156 0) + 1)) fun h8 =>
    some h8
  else
    some h
theorem t_qDe_add {Ls : Nat} {xs : Nat → Int32} {d : Nat} {x1 : Int32} {x2 : Int32} {x3 : Int32} {h : zK} {p : zK} (H : qDe_add x1 x2 x3 h = some p) : zEv (zXs Ls xs) (d + 1) zm_13 (0, [some (.ref 156), some (.int x1), some (.int x2), some (.int x3)], [], zhp h) (none, zhp p) := by
  unfold qDe_add at H
  refine zEv_k 1 (f' := (1, [some (.ref 156), some (.int x1), some (.int x2), some (.int x3)], [.ref 156], zhp h)) rfl ?_
  refine zEv_c (fun _ => rfl) rfl (t_qDe_isFull (h := h) (d := d) rfl) rfl rfl ?_
  refine zEv_k 1 (f' := (if (qDe_isFull h) = 0 then 8 else 7, [some (.ref 156), some (.int x1), some (.int x2), some (.int x3)], [], zhp h)) rfl (zEv_if (fun c1 => ?_) (fun c1 => ?_))
  · replace H := zif_t c1 H
    refine zEv_k 1 (f' := (9, [some (.ref 156), some (.int x1), some (.int x2), some (.int x3)], [.ref 156], zhp h)) rfl ?_
    refine zRgr rfl rfl rfl (by decide) (b := 157) rfl ?_
    refine zEv_k 3 (f' := (17, [some (.ref 156), some (.int x1), some (.int x2), some (.int x3)], [.int x1, .int (gI h 156 0), .ref 157], zhp h)) rfl ?_
    obtain ⟨j2, hj2, H⟩ := zbs H
    obtain ⟨h3, eh3, H⟩ := zlets H
    refine zRis rfl rfl (by decide) hj2 eh3 ?_
    refine zEv_k 1 (f' := (19, [some (.ref 156), some (.int x1), some (.int x2), some (.int x3)], [.ref 156], zhp h3)) rfl ?_
    refine zRgr rfl rfl rfl (by decide) (b := 158) rfl ?_
    refine zEv_k 3 (f' := (27, [some (.ref 156), some (.int x1), some (.int x2), some (.int x3)], [.int x2, .int (gI h3 156 0), .ref 158], zhp h3)) rfl ?_
    obtain ⟨j4, hj4, H⟩ := zbs H
    obtain ⟨h5, eh5, H⟩ := zlets H
    refine zRis rfl rfl (by decide) hj4 eh5 ?_
    refine zEv_k 1 (f' := (29, [some (.ref 156), some (.int x1), some (.int x2), some (.int x3)], [.ref 156], zhp h5)) rfl ?_
    refine zRgr rfl rfl rfl (by decide) (b := 159) rfl ?_
    refine zEv_k 3 (f' := (37, [some (.ref 156), some (.int x1), some (.int x2), some (.int x3)], [.int x3, .int (gI h5 156 0), .ref 159], zhp h5)) rfl ?_
    obtain ⟨j6, hj6, H⟩ := zbs H
    obtain ⟨h7, eh7, H⟩ := zlets H
    refine zRis rfl rfl (by decide) hj6 eh7 ?_
    obtain ⟨h8, eh8, H⟩ := zlets H
    refine zEv_w (F := fun z => (48, [some (.ref 156), some (.int x1), some (.int x2), some (.int x3)], [], zhp z)) (h0 := sI h7 156 0 ((gI h7 156 0) + 1)) 6 rfl eh8 ?_
    cases H
    exact zEv_r rfl
  · replace H := zif_f c1 H
    cases H
    exact zEv_r rfl
def qLw_forget_b2 (s : Int32 × zK) : Option ((Int32 × zK) ⊕ (zK)) :=
  if 2 ≤ s.1 then
    some (.inr s.2)
  else
    (zix s.1 2).bind fun j2 =>
    zlet (sI s.2 213 j2 (vp_nar .boolean 0)) fun h3 =>
    some (.inl (s.1 + 1, h3))
theorem t_qLw_forget_b2b {Ls : Nat} {xs : Nat → Int32} {d : Nat} {r : zA} {s : Int32 × zK} {e : (Int32 × zK) ⊕ (zK)} (H : qLw_forget_b2 s = some e) (K : match (generalizing := false) e with | .inl s' => zEv (zXs Ls xs) d zm_15 (2, [some (.ref 196), some (.int s'.1)], [], zhp s'.2) r | .inr v => ∀ (z1 : Option Value), zEv (zXs Ls xs) d zm_15 (20, [some (.ref 196), z1], [], zhp v) r) : zEv (zXs Ls xs) d zm_15 (2, [some (.ref 196), some (.int s.1)], [], zhp s.2) r := by
  unfold qLw_forget_b2 at H
  refine zEv_k 3 (f' := (if 2 ≤ s.1 then 20 else 7, [some (.ref 196), some (.int s.1)], [], zhp s.2)) rfl (zEv_if (fun c1 => ?_) (fun c1 => ?_))
  · replace H := zif_t c1 H
    cases H
    exact K _
  · replace H := zif_f c1 H
    refine zEv_k 1 (f' := (8, [some (.ref 196), some (.int s.1)], [.ref 196], zhp s.2)) rfl ?_
    refine zRgr rfl rfl rfl (by decide) (b := 213) rfl ?_
    refine zEv_k 2 (f' := (13, [some (.ref 196), some (.int s.1)], [.int 0, .int s.1, .ref 213], zhp s.2)) rfl ?_
    obtain ⟨j2, hj2, H⟩ := zbs H
    obtain ⟨h3, eh3, H⟩ := zlets H
    refine zRzs rfl rfl (by decide) hj2 eh3 ?_
    refine zEv_k 2 (f' := (2, [some (.ref 196), some (.int (s.1 + 1))], [], zhp h3)) rfl ?_
    cases H
    exact K
theorem t_qLw_forget_b2 {Ls : Nat} {xs : Nat → Int32} {d : Nat} {r : zA} {t : zK} (K : ∀ (z1 : Option Value), zEv (zXs Ls xs) d zm_15 (20, [some (.ref 196), z1], [], zhp t) r) (n : Nat) (s : Int32 × zK) (H : zloop (qLw_forget_b2) n s = some t) : zEv (zXs Ls xs) d zm_15 (2, [some (.ref 196), some (.int s.1)], [], zhp s.2) r := by
  have Z := zloop_P (P := fun s => zEv (zXs Ls xs) d zm_15 (2, [some (.ref 196), some (.int s.1)], [], zhp s.2) r) (b := qLw_forget_b2) (t := t) (fun s s2 hb hk => by exact t_qLw_forget_b2b hb hk) (fun s hb => by exact t_qLw_forget_b2b hb K) n s H
  exact Z
def qLw_forget (h : zK) : Option (zK) :=
  (zloop (qLw_forget_b2) zfu (0, h)).bind fun t4 =>
  some t4
theorem t_qLw_forget {Ls : Nat} {xs : Nat → Int32} {d : Nat} {h : zK} {p : zK} (H : qLw_forget h = some p) : zEv (zXs Ls xs) d zm_15 (0, [some (.ref 196), none], [], zhp h) (none, zhp p) := by
  unfold qLw_forget at H
  refine zEv_k 2 (f' := (2, [some (.ref 196), some (.int 0)], [], zhp h)) rfl ?_
  obtain ⟨t4, ht4, H⟩ := zbs H
  refine t_qLw_forget_b2 ?_ zfu _ ht4
  intro y1
  cases H
  exact zEv_r rfl
def qRu_begin_b113 (oc : Nat) (oo : Nat) (s : Int32 × zK) : Option ((Int32 × zK) ⊕ (zK)) :=
  if 50 < s.1 then
    some (.inr s.2)
  else
    (zix s.1 51).bind fun j19 =>
    zlet (sI s.2 (oo + 1) j19 0) fun h20 =>
    some (.inl (s.1 + 1, h20))
theorem t_qRu_begin_b113b {Ls : Nat} {xs : Nat → Int32} {d : Nat} {oc : Nat} {oo : Nat} {r : zA} {s : Int32 × zK} {e : (Int32 × zK) ⊕ (zK)} (ho : (oc = 7 ∧ oo = 166) ∨ (oc = 22 ∧ oo = 166) ∨ (oc = 7 ∧ oo = 198) ∨ (oc = 22 ∧ oo = 198)) (H : qRu_begin_b113 oc oo s = some e) (K : match (generalizing := false) e with | .inl s' => zEv (zXs Ls xs) d zm_71 (113, [some (.ref oo), some (.ref oc), some (.int s'.1)], [], zhp s'.2) r | .inr v => ∀ (z2 : Option Value), zEv (zXs Ls xs) d zm_71 (132, [some (.ref oo), some (.ref oc), z2], [], zhp v) r) : zEv (zXs Ls xs) d zm_71 (113, [some (.ref oo), some (.ref oc), some (.int s.1)], [], zhp s.2) r := by
  unfold qRu_begin_b113 at H
  rcases ho with ⟨rfl, rfl⟩ | ⟨rfl, rfl⟩ | ⟨rfl, rfl⟩ | ⟨rfl, rfl⟩
  · refine zEv_k 3 (f' := (if 50 < s.1 then 132 else 119, [some (.ref 166), some (.ref 7), some (.int s.1)], [], zhp s.2)) rfl (zEv_if (fun c18 => ?_) (fun c18 => ?_))
    · replace H := zif_t c18 H
      cases H
      exact K _
    · replace H := zif_f c18 H
      refine zEv_k 1 (f' := (120, [some (.ref 166), some (.ref 7), some (.int s.1)], [.ref 166], zhp s.2)) rfl ?_
      refine zRgr rfl rfl rfl (by decide) (b := 166 + 1) rfl ?_
      refine zEv_k 2 (f' := (125, [some (.ref 166), some (.ref 7), some (.int s.1)], [.int 0, .int s.1, .ref (166 + 1)], zhp s.2)) rfl ?_
      obtain ⟨j19, hj19, H⟩ := zbs H
      obtain ⟨h20, eh20, H⟩ := zlets H
      refine zRis rfl rfl (by decide) hj19 eh20 ?_
      refine zEv_k 2 (f' := (113, [some (.ref 166), some (.ref 7), some (.int (s.1 + 1))], [], zhp h20)) rfl ?_
      cases H
      exact K
  · refine zEv_k 3 (f' := (if 50 < s.1 then 132 else 119, [some (.ref 166), some (.ref 22), some (.int s.1)], [], zhp s.2)) rfl (zEv_if (fun c18 => ?_) (fun c18 => ?_))
    · replace H := zif_t c18 H
      cases H
      exact K _
    · replace H := zif_f c18 H
      refine zEv_k 1 (f' := (120, [some (.ref 166), some (.ref 22), some (.int s.1)], [.ref 166], zhp s.2)) rfl ?_
      refine zRgr rfl rfl rfl (by decide) (b := 166 + 1) rfl ?_
      refine zEv_k 2 (f' := (125, [some (.ref 166), some (.ref 22), some (.int s.1)], [.int 0, .int s.1, .ref (166 + 1)], zhp s.2)) rfl ?_
      obtain ⟨j19, hj19, H⟩ := zbs H
      obtain ⟨h20, eh20, H⟩ := zlets H
      refine zRis rfl rfl (by decide) hj19 eh20 ?_
      refine zEv_k 2 (f' := (113, [some (.ref 166), some (.ref 22), some (.int (s.1 + 1))], [], zhp h20)) rfl ?_
      cases H
      exact K
  · refine zEv_k 3 (f' := (if 50 < s.1 then 132 else 119, [some (.ref 198), some (.ref 7), some (.int s.1)], [], zhp s.2)) rfl (zEv_if (fun c18 => ?_) (fun c18 => ?_))
    · replace H := zif_t c18 H
      cases H
      exact K _
    · replace H := zif_f c18 H
      refine zEv_k 1 (f' := (120, [some (.ref 198), some (.ref 7), some (.int s.1)], [.ref 198], zhp s.2)) rfl ?_
      refine zRgr rfl rfl rfl (by decide) (b := 198 + 1) rfl ?_
      refine zEv_k 2 (f' := (125, [some (.ref 198), some (.ref 7), some (.int s.1)], [.int 0, .int s.1, .ref (198 + 1)], zhp s.2)) rfl ?_
      obtain ⟨j19, hj19, H⟩ := zbs H
      obtain ⟨h20, eh20, H⟩ := zlets H
      refine zRis rfl rfl (by decide) hj19 eh20 ?_
      refine zEv_k 2 (f' := (113, [some (.ref 198), some (.ref 7), some (.int (s.1 + 1))], [], zhp h20)) rfl ?_
      cases H
      exact K
  · refine zEv_k 3 (f' := (if 50 < s.1 then 132 else 119, [some (.ref 198), some (.ref 22), some (.int s.1)], [], zhp s.2)) rfl (zEv_if (fun c18 => ?_) (fun c18 => ?_))
    · replace H := zif_t c18 H
      cases H
      exact K _
    · replace H := zif_f c18 H
      refine zEv_k 1 (f' := (120, [some (.ref 198), some (.ref 22), some (.int s.1)], [.ref 198], zhp s.2)) rfl ?_
      refine zRgr rfl rfl rfl (by decide) (b := 198 + 1) rfl ?_
      refine zEv_k 2 (f' := (125, [some (.ref 198), some (.ref 22), some (.int s.1)], [.int 0, .int s.1, .ref (198 + 1)], zhp s.2)) rfl ?_
      obtain ⟨j19, hj19, H⟩ := zbs H
      obtain ⟨h20, eh20, H⟩ := zlets H
      refine zRis rfl rfl (by decide) hj19 eh20 ?_
      refine zEv_k 2 (f' := (113, [some (.ref 198), some (.ref 22), some (.int (s.1 + 1))], [], zhp h20)) rfl ?_
      cases H
      exact K
theorem t_qRu_begin_b113 {Ls : Nat} {xs : Nat → Int32} {d : Nat} {oc : Nat} {oo : Nat} {r : zA} (ho : (oc = 7 ∧ oo = 166) ∨ (oc = 22 ∧ oo = 166) ∨ (oc = 7 ∧ oo = 198) ∨ (oc = 22 ∧ oo = 198)) {t : zK} (K : ∀ (z2 : Option Value), zEv (zXs Ls xs) d zm_71 (132, [some (.ref oo), some (.ref oc), z2], [], zhp t) r) (n : Nat) (s : Int32 × zK) (H : zloop (qRu_begin_b113 oc oo) n s = some t) : zEv (zXs Ls xs) d zm_71 (113, [some (.ref oo), some (.ref oc), some (.int s.1)], [], zhp s.2) r := by
  have Z := zloop_P (P := fun s => zEv (zXs Ls xs) d zm_71 (113, [some (.ref oo), some (.ref oc), some (.int s.1)], [], zhp s.2) r) (b := qRu_begin_b113 oc oo) (t := t) (fun s s2 hb hk => by exact t_qRu_begin_b113b ho hb hk) (fun s hb => by exact t_qRu_begin_b113b ho hb K) n s H
  exact Z
def qRu_begin (oo : Nat) (oc : Nat) (h : zK) : Option (zK) :=
  zlet (sR h oo oc) fun h1 =>
  zlet (sI h1 oo 3 (gI h1 oc 1)) fun h2 =>
  zlet (sI h2 oo 4 (gI h2 oc 0)) fun h3 =>
  zlet (cI h3 (oc + 1) (oo + 10) 0 0 7) fun h4 =>
  zlet (cI h4 (oc + 3) (oo + 11) 0 0 7) fun h6 =>
  zlet (cI h6 (oc + 5) (oo + 12) 0 0 7) fun h8 =>
  zlet (cI h8 (oc + 6) (oo + 13) 0 0 7) fun h10 =>
  zlet (sI h10 oo 0 0) fun h12 =>
  zlet (sI h12 oo 11 0) fun h13 =>
  zlet (sI h13 oo 1 0) fun h14 =>
  zlet (sI h14 oo 2 0) fun h15 =>
  zlet (sI h15 oo 12 0) fun h16 =>
  zlet (sI h16 oo 13 0) fun h17 =>
  (zloop (qRu_begin_b113 oc oo) zfu (0, h17)).bind fun t21 =>
  zlet (sI t21 oo 6 (-1)) fun h23 =>
  zlet (sI h23 oo 14 (-1)) fun h24 =>
  zlet (sI h24 oo 7 0) fun h25 =>
  zlet (sI h25 oo 8 0) fun h26 =>
  zlet (sI h26 oo 9 0) fun h27 =>
  some h27
theorem t_qRu_begin {Ls : Nat} {xs : Nat → Int32} {d : Nat} {oo : Nat} {oc : Nat} {h : zK} {p : zK} (ho : (oc = 7 ∧ oo = 166) ∨ (oc = 22 ∧ oo = 166) ∨ (oc = 7 ∧ oo = 198) ∨ (oc = 22 ∧ oo = 198)) (H : qRu_begin oo oc h = some p) : zEv (zXs Ls xs) d zm_71 (0, [some (.ref oo), some (.ref oc), none], [], zhp h) (none, zhp p) := by
  unfold qRu_begin at H
  rcases ho with ⟨rfl, rfl⟩ | ⟨rfl, rfl⟩ | ⟨rfl, rfl⟩ | ⟨rfl, rfl⟩
  · refine zEv_k 2 (f' := (2, [some (.ref 166), some (.ref 7), none], [.ref 7, .ref 166], zhp h)) rfl ?_
    obtain ⟨h1, eh1, H⟩ := zlets H
    refine zRpr (by decide) rfl rfl rfl (by decide) (by decide) eh1 ?_
    obtain ⟨h2, eh2, H⟩ := zlets H
    refine zEv_w (F := fun z => (13, [some (.ref 166), some (.ref 7), none], [], zhp z)) (h0 := sI h1 166 3 (gI h1 7 1)) 4 rfl eh2 ?_
    obtain ⟨h3, eh3, H⟩ := zlets H
    refine zEv_w (F := fun z => (21, [some (.ref 166), some (.ref 7), none], [], zhp z)) (h0 := sI h2 166 4 (gI h2 7 0)) 4 rfl eh3 ?_
    refine zEv_k 1 (f' := (22, [some (.ref 166), some (.ref 7), none], [.ref 7], zhp h3)) rfl ?_
    refine zRgr rfl rfl rfl (by decide) (b := 7 + 1) rfl ?_
    refine zEv_k 2 (f' := (27, [some (.ref 166), some (.ref 7), none], [.ref 166, .int 0, .ref (7 + 1)], zhp h3)) rfl ?_
    refine zRgr rfl rfl rfl (by decide) (b := 166 + 10) rfl ?_
    refine zEv_k 2 (f' := (33, [some (.ref 166), some (.ref 7), none], [.int 7, .int 0, .ref (166 + 10), .int 0, .ref (7 + 1)], zhp h3)) rfl ?_
    obtain ⟨h4, eh4, H⟩ := zlets H
    refine zRcp rfl rfl rfl (by decide) (by decide) (by decide) (by unfold zcpok; decide) (by decide) eh4 ?_
    refine zEv_k 1 (f' := (37, [some (.ref 166), some (.ref 7), none], [.ref 7], zhp h4)) rfl ?_
    refine zRgr rfl rfl rfl (by decide) (b := 7 + 3) rfl ?_
    refine zEv_k 2 (f' := (42, [some (.ref 166), some (.ref 7), none], [.ref 166, .int 0, .ref (7 + 3)], zhp h4)) rfl ?_
    refine zRgr rfl rfl rfl (by decide) (b := 166 + 11) rfl ?_
    refine zEv_k 2 (f' := (48, [some (.ref 166), some (.ref 7), none], [.int 7, .int 0, .ref (166 + 11), .int 0, .ref (7 + 3)], zhp h4)) rfl ?_
    obtain ⟨h6, eh6, H⟩ := zlets H
    refine zRcp rfl rfl rfl (by decide) (by decide) (by decide) (by unfold zcpok; decide) (by decide) eh6 ?_
    refine zEv_k 1 (f' := (52, [some (.ref 166), some (.ref 7), none], [.ref 7], zhp h6)) rfl ?_
    refine zRgr rfl rfl rfl (by decide) (b := 7 + 5) rfl ?_
    refine zEv_k 2 (f' := (57, [some (.ref 166), some (.ref 7), none], [.ref 166, .int 0, .ref (7 + 5)], zhp h6)) rfl ?_
    refine zRgr rfl rfl rfl (by decide) (b := 166 + 12) rfl ?_
    refine zEv_k 2 (f' := (63, [some (.ref 166), some (.ref 7), none], [.int 7, .int 0, .ref (166 + 12), .int 0, .ref (7 + 5)], zhp h6)) rfl ?_
    obtain ⟨h8, eh8, H⟩ := zlets H
    refine zRcp rfl rfl rfl (by decide) (by decide) (by decide) (by unfold zcpok; decide) (by decide) eh8 ?_
    refine zEv_k 1 (f' := (67, [some (.ref 166), some (.ref 7), none], [.ref 7], zhp h8)) rfl ?_
    refine zRgr rfl rfl rfl (by decide) (b := 7 + 6) rfl ?_
    refine zEv_k 2 (f' := (72, [some (.ref 166), some (.ref 7), none], [.ref 166, .int 0, .ref (7 + 6)], zhp h8)) rfl ?_
    refine zRgr rfl rfl rfl (by decide) (b := 166 + 13) rfl ?_
    refine zEv_k 2 (f' := (78, [some (.ref 166), some (.ref 7), none], [.int 7, .int 0, .ref (166 + 13), .int 0, .ref (7 + 6)], zhp h8)) rfl ?_
    obtain ⟨h10, eh10, H⟩ := zlets H
    refine zRcp rfl rfl rfl (by decide) (by decide) (by decide) (by unfold zcpok; decide) (by decide) eh10 ?_
    obtain ⟨h12, eh12, H⟩ := zlets H
    refine zEv_w (F := fun z => (86, [some (.ref 166), some (.ref 7), none], [], zhp z)) (h0 := sI h10 166 0 0) 3 rfl eh12 ?_
    obtain ⟨h13, eh13, H⟩ := zlets H
    refine zEv_w (F := fun z => (91, [some (.ref 166), some (.ref 7), none], [], zhp z)) (h0 := sI h12 166 11 0) 3 rfl eh13 ?_
    obtain ⟨h14, eh14, H⟩ := zlets H
    refine zEv_w (F := fun z => (96, [some (.ref 166), some (.ref 7), none], [], zhp z)) (h0 := sI h13 166 1 0) 3 rfl eh14 ?_
    obtain ⟨h15, eh15, H⟩ := zlets H
    refine zEv_w (F := fun z => (101, [some (.ref 166), some (.ref 7), none], [], zhp z)) (h0 := sI h14 166 2 0) 3 rfl eh15 ?_
    obtain ⟨h16, eh16, H⟩ := zlets H
    refine zEv_w (F := fun z => (106, [some (.ref 166), some (.ref 7), none], [], zhp z)) (h0 := sI h15 166 12 0) 3 rfl eh16 ?_
    obtain ⟨h17, eh17, H⟩ := zlets H
    refine zEv_w (F := fun z => (111, [some (.ref 166), some (.ref 7), none], [], zhp z)) (h0 := sI h16 166 13 0) 3 rfl eh17 ?_
    refine zEv_k 2 (f' := (113, [some (.ref 166), some (.ref 7), some (.int 0)], [], zhp h17)) rfl ?_
    obtain ⟨t21, ht21, H⟩ := zbs H
    refine t_qRu_begin_b113 (oc := 7) (oo := 166) (by decide) ?_ zfu _ ht21
    intro y2
    obtain ⟨h23, eh23, H⟩ := zlets H
    refine zEv_w (F := fun z => (137, [some (.ref 166), some (.ref 7), y2], [], zhp z)) (h0 := sI t21 166 6 (-1)) 3 rfl eh23 ?_
    obtain ⟨h24, eh24, H⟩ := zlets H
    refine zEv_w (F := fun z => (142, [some (.ref 166), some (.ref 7), y2], [], zhp z)) (h0 := sI h23 166 14 (-1)) 3 rfl eh24 ?_
    obtain ⟨h25, eh25, H⟩ := zlets H
    refine zEv_w (F := fun z => (147, [some (.ref 166), some (.ref 7), y2], [], zhp z)) (h0 := sI h24 166 7 0) 3 rfl eh25 ?_
    obtain ⟨h26, eh26, H⟩ := zlets H
    refine zEv_w (F := fun z => (152, [some (.ref 166), some (.ref 7), y2], [], zhp z)) (h0 := sI h25 166 8 0) 3 rfl eh26 ?_
    obtain ⟨h27, eh27, H⟩ := zlets H
    refine zEv_w (F := fun z => (157, [some (.ref 166), some (.ref 7), y2], [], zhp z)) (h0 := sI h26 166 9 0) 3 rfl eh27 ?_
    cases H
    exact zEv_r rfl
  · refine zEv_k 2 (f' := (2, [some (.ref 166), some (.ref 22), none], [.ref 22, .ref 166], zhp h)) rfl ?_
    obtain ⟨h1, eh1, H⟩ := zlets H
    refine zRpr (by decide) rfl rfl rfl (by decide) (by decide) eh1 ?_
    obtain ⟨h2, eh2, H⟩ := zlets H
    refine zEv_w (F := fun z => (13, [some (.ref 166), some (.ref 22), none], [], zhp z)) (h0 := sI h1 166 3 (gI h1 22 1)) 4 rfl eh2 ?_
    obtain ⟨h3, eh3, H⟩ := zlets H
    refine zEv_w (F := fun z => (21, [some (.ref 166), some (.ref 22), none], [], zhp z)) (h0 := sI h2 166 4 (gI h2 22 0)) 4 rfl eh3 ?_
    refine zEv_k 1 (f' := (22, [some (.ref 166), some (.ref 22), none], [.ref 22], zhp h3)) rfl ?_
    refine zRgr rfl rfl rfl (by decide) (b := 22 + 1) rfl ?_
    refine zEv_k 2 (f' := (27, [some (.ref 166), some (.ref 22), none], [.ref 166, .int 0, .ref (22 + 1)], zhp h3)) rfl ?_
    refine zRgr rfl rfl rfl (by decide) (b := 166 + 10) rfl ?_
    refine zEv_k 2 (f' := (33, [some (.ref 166), some (.ref 22), none], [.int 7, .int 0, .ref (166 + 10), .int 0, .ref (22 + 1)], zhp h3)) rfl ?_
    obtain ⟨h4, eh4, H⟩ := zlets H
    refine zRcp rfl rfl rfl (by decide) (by decide) (by decide) (by unfold zcpok; decide) (by decide) eh4 ?_
    refine zEv_k 1 (f' := (37, [some (.ref 166), some (.ref 22), none], [.ref 22], zhp h4)) rfl ?_
    refine zRgr rfl rfl rfl (by decide) (b := 22 + 3) rfl ?_
    refine zEv_k 2 (f' := (42, [some (.ref 166), some (.ref 22), none], [.ref 166, .int 0, .ref (22 + 3)], zhp h4)) rfl ?_
    refine zRgr rfl rfl rfl (by decide) (b := 166 + 11) rfl ?_
    refine zEv_k 2 (f' := (48, [some (.ref 166), some (.ref 22), none], [.int 7, .int 0, .ref (166 + 11), .int 0, .ref (22 + 3)], zhp h4)) rfl ?_
    obtain ⟨h6, eh6, H⟩ := zlets H
    refine zRcp rfl rfl rfl (by decide) (by decide) (by decide) (by unfold zcpok; decide) (by decide) eh6 ?_
    refine zEv_k 1 (f' := (52, [some (.ref 166), some (.ref 22), none], [.ref 22], zhp h6)) rfl ?_
    refine zRgr rfl rfl rfl (by decide) (b := 22 + 5) rfl ?_
    refine zEv_k 2 (f' := (57, [some (.ref 166), some (.ref 22), none], [.ref 166, .int 0, .ref (22 + 5)], zhp h6)) rfl ?_
    refine zRgr rfl rfl rfl (by decide) (b := 166 + 12) rfl ?_
    refine zEv_k 2 (f' := (63, [some (.ref 166), some (.ref 22), none], [.int 7, .int 0, .ref (166 + 12), .int 0, .ref (22 + 5)], zhp h6)) rfl ?_
    obtain ⟨h8, eh8, H⟩ := zlets H
    refine zRcp rfl rfl rfl (by decide) (by decide) (by decide) (by unfold zcpok; decide) (by decide) eh8 ?_
    refine zEv_k 1 (f' := (67, [some (.ref 166), some (.ref 22), none], [.ref 22], zhp h8)) rfl ?_
    refine zRgr rfl rfl rfl (by decide) (b := 22 + 6) rfl ?_
    refine zEv_k 2 (f' := (72, [some (.ref 166), some (.ref 22), none], [.ref 166, .int 0, .ref (22 + 6)], zhp h8)) rfl ?_
    refine zRgr rfl rfl rfl (by decide) (b := 166 + 13) rfl ?_
    refine zEv_k 2 (f' := (78, [some (.ref 166), some (.ref 22), none], [.int 7, .int 0, .ref (166 + 13), .int 0, .ref (22 + 6)], zhp h8)) rfl ?_
    obtain ⟨h10, eh10, H⟩ := zlets H
    refine zRcp rfl rfl rfl (by decide) (by decide) (by decide) (by unfold zcpok; decide) (by decide) eh10 ?_
    obtain ⟨h12, eh12, H⟩ := zlets H
    refine zEv_w (F := fun z => (86, [some (.ref 166), some (.ref 22), none], [], zhp z)) (h0 := sI h10 166 0 0) 3 rfl eh12 ?_
    obtain ⟨h13, eh13, H⟩ := zlets H
    refine zEv_w (F := fun z => (91, [some (.ref 166), some (.ref 22), none], [], zhp z)) (h0 := sI h12 166 11 0) 3 rfl eh13 ?_
    obtain ⟨h14, eh14, H⟩ := zlets H
    refine zEv_w (F := fun z => (96, [some (.ref 166), some (.ref 22), none], [], zhp z)) (h0 := sI h13 166 1 0) 3 rfl eh14 ?_
    obtain ⟨h15, eh15, H⟩ := zlets H
    refine zEv_w (F := fun z => (101, [some (.ref 166), some (.ref 22), none], [], zhp z)) (h0 := sI h14 166 2 0) 3 rfl eh15 ?_
    obtain ⟨h16, eh16, H⟩ := zlets H
    refine zEv_w (F := fun z => (106, [some (.ref 166), some (.ref 22), none], [], zhp z)) (h0 := sI h15 166 12 0) 3 rfl eh16 ?_
    obtain ⟨h17, eh17, H⟩ := zlets H
    refine zEv_w (F := fun z => (111, [some (.ref 166), some (.ref 22), none], [], zhp z)) (h0 := sI h16 166 13 0) 3 rfl eh17 ?_
    refine zEv_k 2 (f' := (113, [some (.ref 166), some (.ref 22), some (.int 0)], [], zhp h17)) rfl ?_
    obtain ⟨t21, ht21, H⟩ := zbs H
    refine t_qRu_begin_b113 (oc := 22) (oo := 166) (by decide) ?_ zfu _ ht21
    intro y2
    obtain ⟨h23, eh23, H⟩ := zlets H
    refine zEv_w (F := fun z => (137, [some (.ref 166), some (.ref 22), y2], [], zhp z)) (h0 := sI t21 166 6 (-1)) 3 rfl eh23 ?_
    obtain ⟨h24, eh24, H⟩ := zlets H
    refine zEv_w (F := fun z => (142, [some (.ref 166), some (.ref 22), y2], [], zhp z)) (h0 := sI h23 166 14 (-1)) 3 rfl eh24 ?_
    obtain ⟨h25, eh25, H⟩ := zlets H
    refine zEv_w (F := fun z => (147, [some (.ref 166), some (.ref 22), y2], [], zhp z)) (h0 := sI h24 166 7 0) 3 rfl eh25 ?_
    obtain ⟨h26, eh26, H⟩ := zlets H
    refine zEv_w (F := fun z => (152, [some (.ref 166), some (.ref 22), y2], [], zhp z)) (h0 := sI h25 166 8 0) 3 rfl eh26 ?_
    obtain ⟨h27, eh27, H⟩ := zlets H
    refine zEv_w (F := fun z => (157, [some (.ref 166), some (.ref 22), y2], [], zhp z)) (h0 := sI h26 166 9 0) 3 rfl eh27 ?_
    cases H
    exact zEv_r rfl
  · refine zEv_k 2 (f' := (2, [some (.ref 198), some (.ref 7), none], [.ref 7, .ref 198], zhp h)) rfl ?_
    obtain ⟨h1, eh1, H⟩ := zlets H
    refine zRpr (by decide) rfl rfl rfl (by decide) (by decide) eh1 ?_
    obtain ⟨h2, eh2, H⟩ := zlets H
    refine zEv_w (F := fun z => (13, [some (.ref 198), some (.ref 7), none], [], zhp z)) (h0 := sI h1 198 3 (gI h1 7 1)) 4 rfl eh2 ?_
    obtain ⟨h3, eh3, H⟩ := zlets H
    refine zEv_w (F := fun z => (21, [some (.ref 198), some (.ref 7), none], [], zhp z)) (h0 := sI h2 198 4 (gI h2 7 0)) 4 rfl eh3 ?_
    refine zEv_k 1 (f' := (22, [some (.ref 198), some (.ref 7), none], [.ref 7], zhp h3)) rfl ?_
    refine zRgr rfl rfl rfl (by decide) (b := 7 + 1) rfl ?_
    refine zEv_k 2 (f' := (27, [some (.ref 198), some (.ref 7), none], [.ref 198, .int 0, .ref (7 + 1)], zhp h3)) rfl ?_
    refine zRgr rfl rfl rfl (by decide) (b := 198 + 10) rfl ?_
    refine zEv_k 2 (f' := (33, [some (.ref 198), some (.ref 7), none], [.int 7, .int 0, .ref (198 + 10), .int 0, .ref (7 + 1)], zhp h3)) rfl ?_
    obtain ⟨h4, eh4, H⟩ := zlets H
    refine zRcp rfl rfl rfl (by decide) (by decide) (by decide) (by unfold zcpok; decide) (by decide) eh4 ?_
    refine zEv_k 1 (f' := (37, [some (.ref 198), some (.ref 7), none], [.ref 7], zhp h4)) rfl ?_
    refine zRgr rfl rfl rfl (by decide) (b := 7 + 3) rfl ?_
    refine zEv_k 2 (f' := (42, [some (.ref 198), some (.ref 7), none], [.ref 198, .int 0, .ref (7 + 3)], zhp h4)) rfl ?_
    refine zRgr rfl rfl rfl (by decide) (b := 198 + 11) rfl ?_
    refine zEv_k 2 (f' := (48, [some (.ref 198), some (.ref 7), none], [.int 7, .int 0, .ref (198 + 11), .int 0, .ref (7 + 3)], zhp h4)) rfl ?_
    obtain ⟨h6, eh6, H⟩ := zlets H
    refine zRcp rfl rfl rfl (by decide) (by decide) (by decide) (by unfold zcpok; decide) (by decide) eh6 ?_
    refine zEv_k 1 (f' := (52, [some (.ref 198), some (.ref 7), none], [.ref 7], zhp h6)) rfl ?_
    refine zRgr rfl rfl rfl (by decide) (b := 7 + 5) rfl ?_
    refine zEv_k 2 (f' := (57, [some (.ref 198), some (.ref 7), none], [.ref 198, .int 0, .ref (7 + 5)], zhp h6)) rfl ?_
    refine zRgr rfl rfl rfl (by decide) (b := 198 + 12) rfl ?_
    refine zEv_k 2 (f' := (63, [some (.ref 198), some (.ref 7), none], [.int 7, .int 0, .ref (198 + 12), .int 0, .ref (7 + 5)], zhp h6)) rfl ?_
    obtain ⟨h8, eh8, H⟩ := zlets H
    refine zRcp rfl rfl rfl (by decide) (by decide) (by decide) (by unfold zcpok; decide) (by decide) eh8 ?_
    refine zEv_k 1 (f' := (67, [some (.ref 198), some (.ref 7), none], [.ref 7], zhp h8)) rfl ?_
    refine zRgr rfl rfl rfl (by decide) (b := 7 + 6) rfl ?_
    refine zEv_k 2 (f' := (72, [some (.ref 198), some (.ref 7), none], [.ref 198, .int 0, .ref (7 + 6)], zhp h8)) rfl ?_
    refine zRgr rfl rfl rfl (by decide) (b := 198 + 13) rfl ?_
    refine zEv_k 2 (f' := (78, [some (.ref 198), some (.ref 7), none], [.int 7, .int 0, .ref (198 + 13), .int 0, .ref (7 + 6)], zhp h8)) rfl ?_
    obtain ⟨h10, eh10, H⟩ := zlets H
    refine zRcp rfl rfl rfl (by decide) (by decide) (by decide) (by unfold zcpok; decide) (by decide) eh10 ?_
    obtain ⟨h12, eh12, H⟩ := zlets H
    refine zEv_w (F := fun z => (86, [some (.ref 198), some (.ref 7), none], [], zhp z)) (h0 := sI h10 198 0 0) 3 rfl eh12 ?_
    obtain ⟨h13, eh13, H⟩ := zlets H
    refine zEv_w (F := fun z => (91, [some (.ref 198), some (.ref 7), none], [], zhp z)) (h0 := sI h12 198 11 0) 3 rfl eh13 ?_
    obtain ⟨h14, eh14, H⟩ := zlets H
    refine zEv_w (F := fun z => (96, [some (.ref 198), some (.ref 7), none], [], zhp z)) (h0 := sI h13 198 1 0) 3 rfl eh14 ?_
    obtain ⟨h15, eh15, H⟩ := zlets H
    refine zEv_w (F := fun z => (101, [some (.ref 198), some (.ref 7), none], [], zhp z)) (h0 := sI h14 198 2 0) 3 rfl eh15 ?_
    obtain ⟨h16, eh16, H⟩ := zlets H
    refine zEv_w (F := fun z => (106, [some (.ref 198), some (.ref 7), none], [], zhp z)) (h0 := sI h15 198 12 0) 3 rfl eh16 ?_
    obtain ⟨h17, eh17, H⟩ := zlets H
    refine zEv_w (F := fun z => (111, [some (.ref 198), some (.ref 7), none], [], zhp z)) (h0 := sI h16 198 13 0) 3 rfl eh17 ?_
    refine zEv_k 2 (f' := (113, [some (.ref 198), some (.ref 7), some (.int 0)], [], zhp h17)) rfl ?_
    obtain ⟨t21, ht21, H⟩ := zbs H
    refine t_qRu_begin_b113 (oc := 7) (oo := 198) (by decide) ?_ zfu _ ht21
    intro y2
    obtain ⟨h23, eh23, H⟩ := zlets H
    refine zEv_w (F := fun z => (137, [some (.ref 198), some (.ref 7), y2], [], zhp z)) (h0 := sI t21 198 6 (-1)) 3 rfl eh23 ?_
    obtain ⟨h24, eh24, H⟩ := zlets H
    refine zEv_w (F := fun z => (142, [some (.ref 198), some (.ref 7), y2], [], zhp z)) (h0 := sI h23 198 14 (-1)) 3 rfl eh24 ?_
    obtain ⟨h25, eh25, H⟩ := zlets H
    refine zEv_w (F := fun z => (147, [some (.ref 198), some (.ref 7), y2], [], zhp z)) (h0 := sI h24 198 7 0) 3 rfl eh25 ?_
    obtain ⟨h26, eh26, H⟩ := zlets H
    refine zEv_w (F := fun z => (152, [some (.ref 198), some (.ref 7), y2], [], zhp z)) (h0 := sI h25 198 8 0) 3 rfl eh26 ?_
    obtain ⟨h27, eh27, H⟩ := zlets H
    refine zEv_w (F := fun z => (157, [some (.ref 198), some (.ref 7), y2], [], zhp z)) (h0 := sI h26 198 9 0) 3 rfl eh27 ?_
    cases H
    exact zEv_r rfl
  · refine zEv_k 2 (f' := (2, [some (.ref 198), some (.ref 22), none], [.ref 22, .ref 198], zhp h)) rfl ?_
    obtain ⟨h1, eh1, H⟩ := zlets H
    refine zRpr (by decide) rfl rfl rfl (by decide) (by decide) eh1 ?_
    obtain ⟨h2, eh2, H⟩ := zlets H
    refine zEv_w (F := fun z => (13, [some (.ref 198), some (.ref 22), none], [], zhp z)) (h0 := sI h1 198 3 (gI h1 22 1)) 4 rfl eh2 ?_
    obtain ⟨h3, eh3, H⟩ := zlets H
    refine zEv_w (F := fun z => (21, [some (.ref 198), some (.ref 22), none], [], zhp z)) (h0 := sI h2 198 4 (gI h2 22 0)) 4 rfl eh3 ?_
    refine zEv_k 1 (f' := (22, [some (.ref 198), some (.ref 22), none], [.ref 22], zhp h3)) rfl ?_
    refine zRgr rfl rfl rfl (by decide) (b := 22 + 1) rfl ?_
    refine zEv_k 2 (f' := (27, [some (.ref 198), some (.ref 22), none], [.ref 198, .int 0, .ref (22 + 1)], zhp h3)) rfl ?_
    refine zRgr rfl rfl rfl (by decide) (b := 198 + 10) rfl ?_
    refine zEv_k 2 (f' := (33, [some (.ref 198), some (.ref 22), none], [.int 7, .int 0, .ref (198 + 10), .int 0, .ref (22 + 1)], zhp h3)) rfl ?_
    obtain ⟨h4, eh4, H⟩ := zlets H
    refine zRcp rfl rfl rfl (by decide) (by decide) (by decide) (by unfold zcpok; decide) (by decide) eh4 ?_
    refine zEv_k 1 (f' := (37, [some (.ref 198), some (.ref 22), none], [.ref 22], zhp h4)) rfl ?_
    refine zRgr rfl rfl rfl (by decide) (b := 22 + 3) rfl ?_
    refine zEv_k 2 (f' := (42, [some (.ref 198), some (.ref 22), none], [.ref 198, .int 0, .ref (22 + 3)], zhp h4)) rfl ?_
    refine zRgr rfl rfl rfl (by decide) (b := 198 + 11) rfl ?_
    refine zEv_k 2 (f' := (48, [some (.ref 198), some (.ref 22), none], [.int 7, .int 0, .ref (198 + 11), .int 0, .ref (22 + 3)], zhp h4)) rfl ?_
    obtain ⟨h6, eh6, H⟩ := zlets H
    refine zRcp rfl rfl rfl (by decide) (by decide) (by decide) (by unfold zcpok; decide) (by decide) eh6 ?_
    refine zEv_k 1 (f' := (52, [some (.ref 198), some (.ref 22), none], [.ref 22], zhp h6)) rfl ?_
    refine zRgr rfl rfl rfl (by decide) (b := 22 + 5) rfl ?_
    refine zEv_k 2 (f' := (57, [some (.ref 198), some (.ref 22), none], [.ref 198, .int 0, .ref (22 + 5)], zhp h6)) rfl ?_
    refine zRgr rfl rfl rfl (by decide) (b := 198 + 12) rfl ?_
    refine zEv_k 2 (f' := (63, [some (.ref 198), some (.ref 22), none], [.int 7, .int 0, .ref (198 + 12), .int 0, .ref (22 + 5)], zhp h6)) rfl ?_
    obtain ⟨h8, eh8, H⟩ := zlets H
    refine zRcp rfl rfl rfl (by decide) (by decide) (by decide) (by unfold zcpok; decide) (by decide) eh8 ?_
    refine zEv_k 1 (f' := (67, [some (.ref 198), some (.ref 22), none], [.ref 22], zhp h8)) rfl ?_
    refine zRgr rfl rfl rfl (by decide) (b := 22 + 6) rfl ?_
    refine zEv_k 2 (f' := (72, [some (.ref 198), some (.ref 22), none], [.ref 198, .int 0, .ref (22 + 6)], zhp h8)) rfl ?_
    refine zRgr rfl rfl rfl (by decide) (b := 198 + 13) rfl ?_
    refine zEv_k 2 (f' := (78, [some (.ref 198), some (.ref 22), none], [.int 7, .int 0, .ref (198 + 13), .int 0, .ref (22 + 6)], zhp h8)) rfl ?_
    obtain ⟨h10, eh10, H⟩ := zlets H
    refine zRcp rfl rfl rfl (by decide) (by decide) (by decide) (by unfold zcpok; decide) (by decide) eh10 ?_
    obtain ⟨h12, eh12, H⟩ := zlets H
    refine zEv_w (F := fun z => (86, [some (.ref 198), some (.ref 22), none], [], zhp z)) (h0 := sI h10 198 0 0) 3 rfl eh12 ?_
    obtain ⟨h13, eh13, H⟩ := zlets H
    refine zEv_w (F := fun z => (91, [some (.ref 198), some (.ref 22), none], [], zhp z)) (h0 := sI h12 198 11 0) 3 rfl eh13 ?_
    obtain ⟨h14, eh14, H⟩ := zlets H
    refine zEv_w (F := fun z => (96, [some (.ref 198), some (.ref 22), none], [], zhp z)) (h0 := sI h13 198 1 0) 3 rfl eh14 ?_
    obtain ⟨h15, eh15, H⟩ := zlets H
    refine zEv_w (F := fun z => (101, [some (.ref 198), some (.ref 22), none], [], zhp z)) (h0 := sI h14 198 2 0) 3 rfl eh15 ?_
    obtain ⟨h16, eh16, H⟩ := zlets H
    refine zEv_w (F := fun z => (106, [some (.ref 198), some (.ref 22), none], [], zhp z)) (h0 := sI h15 198 12 0) 3 rfl eh16 ?_
    obtain ⟨h17, eh17, H⟩ := zlets H
    refine zEv_w (F := fun z => (111, [some (.ref 198), some (.ref 22), none], [], zhp z)) (h0 := sI h16 198 13 0) 3 rfl eh17 ?_
    refine zEv_k 2 (f' := (113, [some (.ref 198), some (.ref 22), some (.int 0)], [], zhp h17)) rfl ?_
    obtain ⟨t21, ht21, H⟩ := zbs H
    refine t_qRu_begin_b113 (oc := 22) (oo := 198) (by decide) ?_ zfu _ ht21
    intro y2
    obtain ⟨h23, eh23, H⟩ := zlets H
    refine zEv_w (F := fun z => (137, [some (.ref 198), some (.ref 22), y2], [], zhp z)) (h0 := sI t21 198 6 (-1)) 3 rfl eh23 ?_
    obtain ⟨h24, eh24, H⟩ := zlets H
    refine zEv_w (F := fun z => (142, [some (.ref 198), some (.ref 22), y2], [], zhp z)) (h0 := sI h23 198 14 (-1)) 3 rfl eh24 ?_
    obtain ⟨h25, eh25, H⟩ := zlets H
    refine zEv_w (F := fun z => (147, [some (.ref 198), some (.ref 22), y2], [], zhp z)) (h0 := sI h24 198 7 0) 3 rfl eh25 ?_
    obtain ⟨h26, eh26, H⟩ := zlets H
    refine zEv_w (F := fun z => (152, [some (.ref 198), some (.ref 22), y2], [], zhp z)) (h0 := sI h25 198 8 0) 3 rfl eh26 ?_
    obtain ⟨h27, eh27, H⟩ := zlets H
    refine zEv_w (F := fun z => (157, [some (.ref 198), some (.ref 22), y2], [], zhp z)) (h0 := sI h26 198 9 0) 3 rfl eh27 ?_
    cases H
    exact zEv_r rfl
def qRu_firstToBurst_b2 (oo : Nat) (h : zK) (s : Int32) : Option ((Int32) ⊕ ((Unit) ⊕ (Int32))) :=
  zlet (gR h oo) fun a1 =>
  if a1 = 7 ∨ a1 = 22 then
    if (gI h a1 2) ≤ s then
      some (.inr (.inl ()))
    else
      (zix s 7).bind fun j4 =>
      if (gI h (oo + 11) j4) ≤ (gI h (oo + 12) j4) then
        some (.inl (s + 1))
      else
        if ¬ (zf_cin (gI h oo 2) s) = 0 then
          some (.inl (s + 1))
        else
          some (.inr (.inr s))
  else none
theorem t_qRu_firstToBurst_b2b {Ls : Nat} {xs : Nat → Int32} {d : Nat} {oo : Nat} {h : zK} {r : zA} {s : Int32} {e : (Int32) ⊕ ((Unit) ⊕ (Int32))} (ho : oo = 166 ∨ oo = 198) (H : qRu_firstToBurst_b2 oo h s = some e) (K : match (generalizing := false) e with | .inl s' => zEv (zXs Ls xs) (d + 1) zm_80 (2, [some (.ref oo), some (.int s')], [], zhp h) r | .inr (.inl v) => ∀ (z1 : Option Value), zEv (zXs Ls xs) (d + 1) zm_80 (47, [some (.ref oo), z1], [], zhp h) r | .inr (.inr p) => (some (.int p), zhp h) = r) : zEv (zXs Ls xs) (d + 1) zm_80 (2, [some (.ref oo), some (.int s)], [], zhp h) r := by
  unfold qRu_firstToBurst_b2 at H
  rcases ho with rfl | rfl
  · refine zEv_k 2 (f' := (4, [some (.ref 166), some (.int s)], [.ref 166, .int s], zhp h)) rfl ?_
    refine zRgc (by decide) rfl rfl rfl (by decide) ?_
    obtain ⟨a1, ea1, H⟩ := zlets H
    rw [ea1]
    obtain ⟨c2, H⟩ := zifn H
    rcases c2 with rfl | rfl
    · refine zEv_k 2 (f' := (if (gI h 7 2) ≤ s then 47 else 13, [some (.ref 166), some (.int s)], [], zhp h)) rfl (zEv_if (fun c3 => ?_) (fun c3 => ?_))
      · replace H := zif_t c3 H
        cases H
        exact K _
      · replace H := zif_f c3 H
        refine zEv_k 1 (f' := (14, [some (.ref 166), some (.int s)], [.ref 166], zhp h)) rfl ?_
        refine zRgr rfl rfl rfl (by decide) (b := 166 + 11) rfl ?_
        refine zEv_k 1 (f' := (18, [some (.ref 166), some (.int s)], [.int s, .ref (166 + 11)], zhp h)) rfl ?_
        obtain ⟨j4, hj4, H⟩ := zbs H
        refine zRia rfl rfl (by decide) hj4 ?_
        refine zEv_k 1 (f' := (20, [some (.ref 166), some (.int s)], [.ref 166, .int (gI h (166 + 11) j4)], zhp h)) rfl ?_
        refine zRgr rfl rfl rfl (by decide) (b := 166 + 12) rfl ?_
        refine zEv_k 1 (f' := (24, [some (.ref 166), some (.int s)], [.int s, .ref (166 + 12), .int (gI h (166 + 11) j4)], zhp h)) rfl ?_
        refine zRia rfl rfl (by decide) hj4 ?_
        refine zEv_k 1 (f' := (if (gI h (166 + 11) j4) ≤ (gI h (166 + 12) j4) then 41 else 28, [some (.ref 166), some (.int s)], [], zhp h)) rfl (zEv_if (fun c5 => ?_) (fun c5 => ?_))
        · replace H := zif_t c5 H
          refine zEv_k 2 (f' := (2, [some (.ref 166), some (.int (s + 1))], [], zhp h)) rfl ?_
          cases H
          exact K
        · replace H := zif_f c5 H
          refine zEv_k 3 (f' := (33, [some (.ref 166), some (.int s)], [.int s, .int (gI h 166 2)], zhp h)) rfl ?_
          refine zEv_c (fun _ => rfl) rfl ev_zf_cin rfl rfl ?_
          refine zEv_k 1 (f' := (if ¬ (zf_cin (gI h 166 2) s) = 0 then 41 else 39, [some (.ref 166), some (.int s)], [], zhp h)) rfl (zEv_if (fun c6 => ?_) (fun c6 => ?_))
          · replace H := zif_t c6 H
            refine zEv_k 2 (f' := (2, [some (.ref 166), some (.int (s + 1))], [], zhp h)) rfl ?_
            cases H
            exact K
          · replace H := zif_f c6 H
            refine zEv_k 1 (f' := (40, [some (.ref 166), some (.int s)], [.int s], zhp h)) rfl ?_
            cases H
            exact zEv_re K rfl
    · refine zEv_k 2 (f' := (if (gI h 22 2) ≤ s then 47 else 13, [some (.ref 166), some (.int s)], [], zhp h)) rfl (zEv_if (fun c3 => ?_) (fun c3 => ?_))
      · replace H := zif_t c3 H
        cases H
        exact K _
      · replace H := zif_f c3 H
        refine zEv_k 1 (f' := (14, [some (.ref 166), some (.int s)], [.ref 166], zhp h)) rfl ?_
        refine zRgr rfl rfl rfl (by decide) (b := 166 + 11) rfl ?_
        refine zEv_k 1 (f' := (18, [some (.ref 166), some (.int s)], [.int s, .ref (166 + 11)], zhp h)) rfl ?_
        obtain ⟨j4, hj4, H⟩ := zbs H
        refine zRia rfl rfl (by decide) hj4 ?_
        refine zEv_k 1 (f' := (20, [some (.ref 166), some (.int s)], [.ref 166, .int (gI h (166 + 11) j4)], zhp h)) rfl ?_
        refine zRgr rfl rfl rfl (by decide) (b := 166 + 12) rfl ?_
        refine zEv_k 1 (f' := (24, [some (.ref 166), some (.int s)], [.int s, .ref (166 + 12), .int (gI h (166 + 11) j4)], zhp h)) rfl ?_
        refine zRia rfl rfl (by decide) hj4 ?_
        refine zEv_k 1 (f' := (if (gI h (166 + 11) j4) ≤ (gI h (166 + 12) j4) then 41 else 28, [some (.ref 166), some (.int s)], [], zhp h)) rfl (zEv_if (fun c5 => ?_) (fun c5 => ?_))
        · replace H := zif_t c5 H
          refine zEv_k 2 (f' := (2, [some (.ref 166), some (.int (s + 1))], [], zhp h)) rfl ?_
          cases H
          exact K
        · replace H := zif_f c5 H
          refine zEv_k 3 (f' := (33, [some (.ref 166), some (.int s)], [.int s, .int (gI h 166 2)], zhp h)) rfl ?_
          refine zEv_c (fun _ => rfl) rfl ev_zf_cin rfl rfl ?_
          refine zEv_k 1 (f' := (if ¬ (zf_cin (gI h 166 2) s) = 0 then 41 else 39, [some (.ref 166), some (.int s)], [], zhp h)) rfl (zEv_if (fun c6 => ?_) (fun c6 => ?_))
          · replace H := zif_t c6 H
            refine zEv_k 2 (f' := (2, [some (.ref 166), some (.int (s + 1))], [], zhp h)) rfl ?_
            cases H
            exact K
          · replace H := zif_f c6 H
            refine zEv_k 1 (f' := (40, [some (.ref 166), some (.int s)], [.int s], zhp h)) rfl ?_
            cases H
            exact zEv_re K rfl
  · refine zEv_k 2 (f' := (4, [some (.ref 198), some (.int s)], [.ref 198, .int s], zhp h)) rfl ?_
    refine zRgc (by decide) rfl rfl rfl (by decide) ?_
    obtain ⟨a1, ea1, H⟩ := zlets H
    rw [ea1]
    obtain ⟨c2, H⟩ := zifn H
    rcases c2 with rfl | rfl
    · refine zEv_k 2 (f' := (if (gI h 7 2) ≤ s then 47 else 13, [some (.ref 198), some (.int s)], [], zhp h)) rfl (zEv_if (fun c3 => ?_) (fun c3 => ?_))
      · replace H := zif_t c3 H
        cases H
        exact K _
      · replace H := zif_f c3 H
        refine zEv_k 1 (f' := (14, [some (.ref 198), some (.int s)], [.ref 198], zhp h)) rfl ?_
        refine zRgr rfl rfl rfl (by decide) (b := 198 + 11) rfl ?_
        refine zEv_k 1 (f' := (18, [some (.ref 198), some (.int s)], [.int s, .ref (198 + 11)], zhp h)) rfl ?_
        obtain ⟨j4, hj4, H⟩ := zbs H
        refine zRia rfl rfl (by decide) hj4 ?_
        refine zEv_k 1 (f' := (20, [some (.ref 198), some (.int s)], [.ref 198, .int (gI h (198 + 11) j4)], zhp h)) rfl ?_
        refine zRgr rfl rfl rfl (by decide) (b := 198 + 12) rfl ?_
        refine zEv_k 1 (f' := (24, [some (.ref 198), some (.int s)], [.int s, .ref (198 + 12), .int (gI h (198 + 11) j4)], zhp h)) rfl ?_
        refine zRia rfl rfl (by decide) hj4 ?_
        refine zEv_k 1 (f' := (if (gI h (198 + 11) j4) ≤ (gI h (198 + 12) j4) then 41 else 28, [some (.ref 198), some (.int s)], [], zhp h)) rfl (zEv_if (fun c5 => ?_) (fun c5 => ?_))
        · replace H := zif_t c5 H
          refine zEv_k 2 (f' := (2, [some (.ref 198), some (.int (s + 1))], [], zhp h)) rfl ?_
          cases H
          exact K
        · replace H := zif_f c5 H
          refine zEv_k 3 (f' := (33, [some (.ref 198), some (.int s)], [.int s, .int (gI h 198 2)], zhp h)) rfl ?_
          refine zEv_c (fun _ => rfl) rfl ev_zf_cin rfl rfl ?_
          refine zEv_k 1 (f' := (if ¬ (zf_cin (gI h 198 2) s) = 0 then 41 else 39, [some (.ref 198), some (.int s)], [], zhp h)) rfl (zEv_if (fun c6 => ?_) (fun c6 => ?_))
          · replace H := zif_t c6 H
            refine zEv_k 2 (f' := (2, [some (.ref 198), some (.int (s + 1))], [], zhp h)) rfl ?_
            cases H
            exact K
          · replace H := zif_f c6 H
            refine zEv_k 1 (f' := (40, [some (.ref 198), some (.int s)], [.int s], zhp h)) rfl ?_
            cases H
            exact zEv_re K rfl
    · refine zEv_k 2 (f' := (if (gI h 22 2) ≤ s then 47 else 13, [some (.ref 198), some (.int s)], [], zhp h)) rfl (zEv_if (fun c3 => ?_) (fun c3 => ?_))
      · replace H := zif_t c3 H
        cases H
        exact K _
      · replace H := zif_f c3 H
        refine zEv_k 1 (f' := (14, [some (.ref 198), some (.int s)], [.ref 198], zhp h)) rfl ?_
        refine zRgr rfl rfl rfl (by decide) (b := 198 + 11) rfl ?_
        refine zEv_k 1 (f' := (18, [some (.ref 198), some (.int s)], [.int s, .ref (198 + 11)], zhp h)) rfl ?_
        obtain ⟨j4, hj4, H⟩ := zbs H
        refine zRia rfl rfl (by decide) hj4 ?_
        refine zEv_k 1 (f' := (20, [some (.ref 198), some (.int s)], [.ref 198, .int (gI h (198 + 11) j4)], zhp h)) rfl ?_
        refine zRgr rfl rfl rfl (by decide) (b := 198 + 12) rfl ?_
        refine zEv_k 1 (f' := (24, [some (.ref 198), some (.int s)], [.int s, .ref (198 + 12), .int (gI h (198 + 11) j4)], zhp h)) rfl ?_
        refine zRia rfl rfl (by decide) hj4 ?_
        refine zEv_k 1 (f' := (if (gI h (198 + 11) j4) ≤ (gI h (198 + 12) j4) then 41 else 28, [some (.ref 198), some (.int s)], [], zhp h)) rfl (zEv_if (fun c5 => ?_) (fun c5 => ?_))
        · replace H := zif_t c5 H
          refine zEv_k 2 (f' := (2, [some (.ref 198), some (.int (s + 1))], [], zhp h)) rfl ?_
          cases H
          exact K
        · replace H := zif_f c5 H
          refine zEv_k 3 (f' := (33, [some (.ref 198), some (.int s)], [.int s, .int (gI h 198 2)], zhp h)) rfl ?_
          refine zEv_c (fun _ => rfl) rfl ev_zf_cin rfl rfl ?_
          refine zEv_k 1 (f' := (if ¬ (zf_cin (gI h 198 2) s) = 0 then 41 else 39, [some (.ref 198), some (.int s)], [], zhp h)) rfl (zEv_if (fun c6 => ?_) (fun c6 => ?_))
          · replace H := zif_t c6 H
            refine zEv_k 2 (f' := (2, [some (.ref 198), some (.int (s + 1))], [], zhp h)) rfl ?_
            cases H
            exact K
          · replace H := zif_f c6 H
            refine zEv_k 1 (f' := (40, [some (.ref 198), some (.int s)], [.int s], zhp h)) rfl ?_
            cases H
            exact zEv_re K rfl
theorem t_qRu_firstToBurst_b2 {Ls : Nat} {xs : Nat → Int32} {d : Nat} {oo : Nat} {h : zK} {r : zA} (ho : oo = 166 ∨ oo = 198) {t : (Unit) ⊕ (Int32)} (K : (match (generalizing := false) t with | .inl v => ∀ (z1 : Option Value), zEv (zXs Ls xs) (d + 1) zm_80 (47, [some (.ref oo), z1], [], zhp h) r | .inr p => (some (.int p), zhp h) = r)) (n : Nat) (s : Int32) (H : zloop (qRu_firstToBurst_b2 oo h) n s = some t) : zEv (zXs Ls xs) (d + 1) zm_80 (2, [some (.ref oo), some (.int s)], [], zhp h) r := by
  have Z := zloop_P (P := fun s => zEv (zXs Ls xs) (d + 1) zm_80 (2, [some (.ref oo), some (.int s)], [], zhp h) r) (b := qRu_firstToBurst_b2 oo h) (t := t) (fun s s2 hb hk => by exact t_qRu_firstToBurst_b2b ho hb hk) (fun s hb => by rcases t with v | p <;> (exact t_qRu_firstToBurst_b2b ho hb K)) n s H
  exact Z
def qRu_firstToBurst (oo : Nat) (h : zK) : Option (Int32) :=
  (zloop (qRu_firstToBurst_b2 oo h) zfu 0).bind fun t7 => match t7 with
  | .inr p => some p
  | .inl v8 =>
    some (-1)
theorem t_qRu_firstToBurst {Ls : Nat} {xs : Nat → Int32} {d : Nat} {oo : Nat} {h : zK} {p : Int32} (ho : oo = 166 ∨ oo = 198) (H : qRu_firstToBurst oo h = some p) : zEv (zXs Ls xs) (d + 1) zm_80 (0, [some (.ref oo), none], [], zhp h) (some (.int p), zhp h) := by
  unfold qRu_firstToBurst at H
  rcases ho with rfl | rfl
  · refine zEv_k 2 (f' := (2, [some (.ref 166), some (.int 0)], [], zhp h)) rfl ?_
    obtain ⟨t7, ht7, H⟩ := zbs H
    refine t_qRu_firstToBurst_b2 (oo := 166) (h := h) (by decide) ?_ zfu _ ht7
    rcases t7 with v8 | p
    · intro y1
      dsimp only at H
      refine zEv_k 1 (f' := (48, [some (.ref 166), y1], [.int (-1)], zhp h)) rfl ?_
      cases H
      exact zEv_r rfl
    · cases H
      exact rfl
  · refine zEv_k 2 (f' := (2, [some (.ref 198), some (.int 0)], [], zhp h)) rfl ?_
    obtain ⟨t7, ht7, H⟩ := zbs H
    refine t_qRu_firstToBurst_b2 (oo := 198) (h := h) (by decide) ?_ zfu _ ht7
    rcases t7 with v8 | p
    · intro y1
      dsimp only at H
      refine zEv_k 1 (f' := (48, [some (.ref 198), y1], [.int (-1)], zhp h)) rfl ?_
      cases H
      exact zEv_r rfl
    · cases H
      exact rfl
def qRu_burst_b52 (oo : Nat) (x1 : Int32) (s : Int32 × zK) : Option ((Int32 × zK) ⊕ (zK)) :=
  zlet (gR s.2 oo) fun a7 =>
  if a7 = 7 ∨ a7 = 22 then
    if (gI s.2 a7 2) ≤ s.1 then
      some (.inr s.2)
    else
      Option.bind (
          if ¬ (zf_cin (gI s.2 oo 2) s.1) = 0 then
            some s.2
          else
            (zix s.1 7).bind fun j12 =>
            (zix x1 7).bind fun j13 =>
            if (gI s.2 oo 3) < (zf_abs ((gI s.2 (oo + 13) j12) - (gI s.2 (oo + 13) j13))) then
              some s.2
            else
              zlet (sI s.2 (oo + 11) j12 ((gI s.2 (oo + 11) j12) + (gI s.2 oo 4))) fun h15 =>
              some h15
        ) fun (v11 : zK) =>
      some (.inl (s.1 + 1, v11))
  else none
theorem t_qRu_burst_b52b {Ls : Nat} {xs : Nat → Int32} {d : Nat} {oo : Nat} {x1 : Int32} {r : zA} {s : Int32 × zK} {e : (Int32 × zK) ⊕ (zK)} (ho : oo = 166 ∨ oo = 198) (H : qRu_burst_b52 oo x1 s = some e) (K : match (generalizing := false) e with | .inl s' => zEv (zXs Ls xs) (d + 1) zm_81 (52, [some (.ref oo), some (.int x1), some (.int s'.1)], [], zhp s'.2) r | .inr v => ∀ (z2 : Option Value), zEv (zXs Ls xs) (d + 1) zm_81 (116, [some (.ref oo), some (.int x1), z2], [], zhp v) r) : zEv (zXs Ls xs) (d + 1) zm_81 (52, [some (.ref oo), some (.int x1), some (.int s.1)], [], zhp s.2) r := by
  unfold qRu_burst_b52 at H
  rcases ho with rfl | rfl
  · refine zEv_k 2 (f' := (54, [some (.ref 166), some (.int x1), some (.int s.1)], [.ref 166, .int s.1], zhp s.2)) rfl ?_
    refine zRgc (by decide) rfl rfl rfl (by decide) ?_
    obtain ⟨a7, ea7, H⟩ := zlets H
    rw [ea7]
    obtain ⟨c8, H⟩ := zifn H
    rcases c8 with rfl | rfl
    · refine zEv_k 2 (f' := (if (gI s.2 7 2) ≤ s.1 then 116 else 63, [some (.ref 166), some (.int x1), some (.int s.1)], [], zhp s.2)) rfl (zEv_if (fun c9 => ?_) (fun c9 => ?_))
      · replace H := zif_t c9 H
        cases H
        exact K _
      · replace H := zif_f c9 H
        obtain ⟨v11, hv11, H⟩ := zbs H
        have kv11 : zEv (zXs Ls xs) (d + 1) zm_81 (110, [some (.ref 166), some (.int x1), some (.int s.1)], [], zhp v11) r := by
          refine zEv_k 2 (f' := (52, [some (.ref 166), some (.int x1), some (.int (s.1 + 1))], [], zhp v11)) rfl ?_
          cases H
          exact K
        clear H
        refine zEv_k 3 (f' := (68, [some (.ref 166), some (.int x1), some (.int s.1)], [.int s.1, .int (gI s.2 166 2)], zhp s.2)) rfl ?_
        refine zEv_c (fun _ => rfl) rfl ev_zf_cin rfl rfl ?_
        refine zEv_k 1 (f' := (if ¬ (zf_cin (gI s.2 166 2) s.1) = 0 then 110 else 74, [some (.ref 166), some (.int x1), some (.int s.1)], [], zhp s.2)) rfl (zEv_if (fun c10 => ?_) (fun c10 => ?_))
        · replace hv11 := zif_t c10 hv11
          cases hv11
          exact kv11
        · replace hv11 := zif_f c10 hv11
          refine zEv_k 1 (f' := (75, [some (.ref 166), some (.int x1), some (.int s.1)], [.ref 166], zhp s.2)) rfl ?_
          refine zRgr rfl rfl rfl (by decide) (b := 166 + 13) rfl ?_
          refine zEv_k 1 (f' := (79, [some (.ref 166), some (.int x1), some (.int s.1)], [.int s.1, .ref (166 + 13)], zhp s.2)) rfl ?_
          obtain ⟨j12, hj12, hv11⟩ := zbs hv11
          refine zRia rfl rfl (by decide) hj12 ?_
          refine zEv_k 1 (f' := (81, [some (.ref 166), some (.int x1), some (.int s.1)], [.ref 166, .int (gI s.2 (166 + 13) j12)], zhp s.2)) rfl ?_
          refine zRgr rfl rfl rfl (by decide) (b := 166 + 13) rfl ?_
          refine zEv_k 1 (f' := (85, [some (.ref 166), some (.int x1), some (.int s.1)], [.int x1, .ref (166 + 13), .int (gI s.2 (166 + 13) j12)], zhp s.2)) rfl ?_
          obtain ⟨j13, hj13, hv11⟩ := zbs hv11
          refine zRia rfl rfl (by decide) hj13 ?_
          refine zEv_k 5 (f' := (if (gI s.2 166 3) < (zf_abs ((gI s.2 (166 + 13) j12) - (gI s.2 (166 + 13) j13))) then 110 else 97, [some (.ref 166), some (.int x1), some (.int s.1)], [], zhp s.2)) rfl (zEv_if (fun c14 => ?_) (fun c14 => ?_))
          · replace hv11 := zif_t c14 hv11
            cases hv11
            exact kv11
          · replace hv11 := zif_f c14 hv11
            refine zEv_k 1 (f' := (98, [some (.ref 166), some (.int x1), some (.int s.1)], [.ref 166], zhp s.2)) rfl ?_
            refine zRgr rfl rfl rfl (by decide) (b := 166 + 11) rfl ?_
            refine zEv_k 2 (f' := (103, [some (.ref 166), some (.int x1), some (.int s.1)], [.int s.1, .ref (166 + 11), .int s.1, .ref (166 + 11)], zhp s.2)) rfl ?_
            refine zRia rfl rfl (by decide) hj12 ?_
            refine zEv_k 3 (f' := (109, [some (.ref 166), some (.int x1), some (.int s.1)], [.int ((gI s.2 (166 + 11) j12) + (gI s.2 166 4)), .int s.1, .ref (166 + 11)], zhp s.2)) rfl ?_
            obtain ⟨h15, eh15, hv11⟩ := zlets hv11
            refine zRis rfl rfl (by decide) hj12 eh15 ?_
            cases hv11
            exact kv11
    · refine zEv_k 2 (f' := (if (gI s.2 22 2) ≤ s.1 then 116 else 63, [some (.ref 166), some (.int x1), some (.int s.1)], [], zhp s.2)) rfl (zEv_if (fun c9 => ?_) (fun c9 => ?_))
      · replace H := zif_t c9 H
        cases H
        exact K _
      · replace H := zif_f c9 H
        obtain ⟨v11, hv11, H⟩ := zbs H
        have kv11 : zEv (zXs Ls xs) (d + 1) zm_81 (110, [some (.ref 166), some (.int x1), some (.int s.1)], [], zhp v11) r := by
          refine zEv_k 2 (f' := (52, [some (.ref 166), some (.int x1), some (.int (s.1 + 1))], [], zhp v11)) rfl ?_
          cases H
          exact K
        clear H
        refine zEv_k 3 (f' := (68, [some (.ref 166), some (.int x1), some (.int s.1)], [.int s.1, .int (gI s.2 166 2)], zhp s.2)) rfl ?_
        refine zEv_c (fun _ => rfl) rfl ev_zf_cin rfl rfl ?_
        refine zEv_k 1 (f' := (if ¬ (zf_cin (gI s.2 166 2) s.1) = 0 then 110 else 74, [some (.ref 166), some (.int x1), some (.int s.1)], [], zhp s.2)) rfl (zEv_if (fun c10 => ?_) (fun c10 => ?_))
        · replace hv11 := zif_t c10 hv11
          cases hv11
          exact kv11
        · replace hv11 := zif_f c10 hv11
          refine zEv_k 1 (f' := (75, [some (.ref 166), some (.int x1), some (.int s.1)], [.ref 166], zhp s.2)) rfl ?_
          refine zRgr rfl rfl rfl (by decide) (b := 166 + 13) rfl ?_
          refine zEv_k 1 (f' := (79, [some (.ref 166), some (.int x1), some (.int s.1)], [.int s.1, .ref (166 + 13)], zhp s.2)) rfl ?_
          obtain ⟨j12, hj12, hv11⟩ := zbs hv11
          refine zRia rfl rfl (by decide) hj12 ?_
          refine zEv_k 1 (f' := (81, [some (.ref 166), some (.int x1), some (.int s.1)], [.ref 166, .int (gI s.2 (166 + 13) j12)], zhp s.2)) rfl ?_
          refine zRgr rfl rfl rfl (by decide) (b := 166 + 13) rfl ?_
          refine zEv_k 1 (f' := (85, [some (.ref 166), some (.int x1), some (.int s.1)], [.int x1, .ref (166 + 13), .int (gI s.2 (166 + 13) j12)], zhp s.2)) rfl ?_
          obtain ⟨j13, hj13, hv11⟩ := zbs hv11
          refine zRia rfl rfl (by decide) hj13 ?_
          refine zEv_k 5 (f' := (if (gI s.2 166 3) < (zf_abs ((gI s.2 (166 + 13) j12) - (gI s.2 (166 + 13) j13))) then 110 else 97, [some (.ref 166), some (.int x1), some (.int s.1)], [], zhp s.2)) rfl (zEv_if (fun c14 => ?_) (fun c14 => ?_))
          · replace hv11 := zif_t c14 hv11
            cases hv11
            exact kv11
          · replace hv11 := zif_f c14 hv11
            refine zEv_k 1 (f' := (98, [some (.ref 166), some (.int x1), some (.int s.1)], [.ref 166], zhp s.2)) rfl ?_
            refine zRgr rfl rfl rfl (by decide) (b := 166 + 11) rfl ?_
            refine zEv_k 2 (f' := (103, [some (.ref 166), some (.int x1), some (.int s.1)], [.int s.1, .ref (166 + 11), .int s.1, .ref (166 + 11)], zhp s.2)) rfl ?_
            refine zRia rfl rfl (by decide) hj12 ?_
            refine zEv_k 3 (f' := (109, [some (.ref 166), some (.int x1), some (.int s.1)], [.int ((gI s.2 (166 + 11) j12) + (gI s.2 166 4)), .int s.1, .ref (166 + 11)], zhp s.2)) rfl ?_
            obtain ⟨h15, eh15, hv11⟩ := zlets hv11
            refine zRis rfl rfl (by decide) hj12 eh15 ?_
            cases hv11
            exact kv11
  · refine zEv_k 2 (f' := (54, [some (.ref 198), some (.int x1), some (.int s.1)], [.ref 198, .int s.1], zhp s.2)) rfl ?_
    refine zRgc (by decide) rfl rfl rfl (by decide) ?_
    obtain ⟨a7, ea7, H⟩ := zlets H
    rw [ea7]
    obtain ⟨c8, H⟩ := zifn H
    rcases c8 with rfl | rfl
    · refine zEv_k 2 (f' := (if (gI s.2 7 2) ≤ s.1 then 116 else 63, [some (.ref 198), some (.int x1), some (.int s.1)], [], zhp s.2)) rfl (zEv_if (fun c9 => ?_) (fun c9 => ?_))
      · replace H := zif_t c9 H
        cases H
        exact K _
      · replace H := zif_f c9 H
        obtain ⟨v11, hv11, H⟩ := zbs H
        have kv11 : zEv (zXs Ls xs) (d + 1) zm_81 (110, [some (.ref 198), some (.int x1), some (.int s.1)], [], zhp v11) r := by
          refine zEv_k 2 (f' := (52, [some (.ref 198), some (.int x1), some (.int (s.1 + 1))], [], zhp v11)) rfl ?_
          cases H
          exact K
        clear H
        refine zEv_k 3 (f' := (68, [some (.ref 198), some (.int x1), some (.int s.1)], [.int s.1, .int (gI s.2 198 2)], zhp s.2)) rfl ?_
        refine zEv_c (fun _ => rfl) rfl ev_zf_cin rfl rfl ?_
        refine zEv_k 1 (f' := (if ¬ (zf_cin (gI s.2 198 2) s.1) = 0 then 110 else 74, [some (.ref 198), some (.int x1), some (.int s.1)], [], zhp s.2)) rfl (zEv_if (fun c10 => ?_) (fun c10 => ?_))
        · replace hv11 := zif_t c10 hv11
          cases hv11
          exact kv11
        · replace hv11 := zif_f c10 hv11
          refine zEv_k 1 (f' := (75, [some (.ref 198), some (.int x1), some (.int s.1)], [.ref 198], zhp s.2)) rfl ?_
          refine zRgr rfl rfl rfl (by decide) (b := 198 + 13) rfl ?_
          refine zEv_k 1 (f' := (79, [some (.ref 198), some (.int x1), some (.int s.1)], [.int s.1, .ref (198 + 13)], zhp s.2)) rfl ?_
          obtain ⟨j12, hj12, hv11⟩ := zbs hv11
          refine zRia rfl rfl (by decide) hj12 ?_
          refine zEv_k 1 (f' := (81, [some (.ref 198), some (.int x1), some (.int s.1)], [.ref 198, .int (gI s.2 (198 + 13) j12)], zhp s.2)) rfl ?_
          refine zRgr rfl rfl rfl (by decide) (b := 198 + 13) rfl ?_
          refine zEv_k 1 (f' := (85, [some (.ref 198), some (.int x1), some (.int s.1)], [.int x1, .ref (198 + 13), .int (gI s.2 (198 + 13) j12)], zhp s.2)) rfl ?_
          obtain ⟨j13, hj13, hv11⟩ := zbs hv11
          refine zRia rfl rfl (by decide) hj13 ?_
          refine zEv_k 5 (f' := (if (gI s.2 198 3) < (zf_abs ((gI s.2 (198 + 13) j12) - (gI s.2 (198 + 13) j13))) then 110 else 97, [some (.ref 198), some (.int x1), some (.int s.1)], [], zhp s.2)) rfl (zEv_if (fun c14 => ?_) (fun c14 => ?_))
          · replace hv11 := zif_t c14 hv11
            cases hv11
            exact kv11
          · replace hv11 := zif_f c14 hv11
            refine zEv_k 1 (f' := (98, [some (.ref 198), some (.int x1), some (.int s.1)], [.ref 198], zhp s.2)) rfl ?_
            refine zRgr rfl rfl rfl (by decide) (b := 198 + 11) rfl ?_
            refine zEv_k 2 (f' := (103, [some (.ref 198), some (.int x1), some (.int s.1)], [.int s.1, .ref (198 + 11), .int s.1, .ref (198 + 11)], zhp s.2)) rfl ?_
            refine zRia rfl rfl (by decide) hj12 ?_
            refine zEv_k 3 (f' := (109, [some (.ref 198), some (.int x1), some (.int s.1)], [.int ((gI s.2 (198 + 11) j12) + (gI s.2 198 4)), .int s.1, .ref (198 + 11)], zhp s.2)) rfl ?_
            obtain ⟨h15, eh15, hv11⟩ := zlets hv11
            refine zRis rfl rfl (by decide) hj12 eh15 ?_
            cases hv11
            exact kv11
    · refine zEv_k 2 (f' := (if (gI s.2 22 2) ≤ s.1 then 116 else 63, [some (.ref 198), some (.int x1), some (.int s.1)], [], zhp s.2)) rfl (zEv_if (fun c9 => ?_) (fun c9 => ?_))
      · replace H := zif_t c9 H
        cases H
        exact K _
      · replace H := zif_f c9 H
        obtain ⟨v11, hv11, H⟩ := zbs H
        have kv11 : zEv (zXs Ls xs) (d + 1) zm_81 (110, [some (.ref 198), some (.int x1), some (.int s.1)], [], zhp v11) r := by
          refine zEv_k 2 (f' := (52, [some (.ref 198), some (.int x1), some (.int (s.1 + 1))], [], zhp v11)) rfl ?_
          cases H
          exact K
        clear H
        refine zEv_k 3 (f' := (68, [some (.ref 198), some (.int x1), some (.int s.1)], [.int s.1, .int (gI s.2 198 2)], zhp s.2)) rfl ?_
        refine zEv_c (fun _ => rfl) rfl ev_zf_cin rfl rfl ?_
        refine zEv_k 1 (f' := (if ¬ (zf_cin (gI s.2 198 2) s.1) = 0 then 110 else 74, [some (.ref 198), some (.int x1), some (.int s.1)], [], zhp s.2)) rfl (zEv_if (fun c10 => ?_) (fun c10 => ?_))
        · replace hv11 := zif_t c10 hv11
          cases hv11
          exact kv11
        · replace hv11 := zif_f c10 hv11
          refine zEv_k 1 (f' := (75, [some (.ref 198), some (.int x1), some (.int s.1)], [.ref 198], zhp s.2)) rfl ?_
          refine zRgr rfl rfl rfl (by decide) (b := 198 + 13) rfl ?_
          refine zEv_k 1 (f' := (79, [some (.ref 198), some (.int x1), some (.int s.1)], [.int s.1, .ref (198 + 13)], zhp s.2)) rfl ?_
          obtain ⟨j12, hj12, hv11⟩ := zbs hv11
          refine zRia rfl rfl (by decide) hj12 ?_
          refine zEv_k 1 (f' := (81, [some (.ref 198), some (.int x1), some (.int s.1)], [.ref 198, .int (gI s.2 (198 + 13) j12)], zhp s.2)) rfl ?_
          refine zRgr rfl rfl rfl (by decide) (b := 198 + 13) rfl ?_
          refine zEv_k 1 (f' := (85, [some (.ref 198), some (.int x1), some (.int s.1)], [.int x1, .ref (198 + 13), .int (gI s.2 (198 + 13) j12)], zhp s.2)) rfl ?_
          obtain ⟨j13, hj13, hv11⟩ := zbs hv11
          refine zRia rfl rfl (by decide) hj13 ?_
          refine zEv_k 5 (f' := (if (gI s.2 198 3) < (zf_abs ((gI s.2 (198 + 13) j12) - (gI s.2 (198 + 13) j13))) then 110 else 97, [some (.ref 198), some (.int x1), some (.int s.1)], [], zhp s.2)) rfl (zEv_if (fun c14 => ?_) (fun c14 => ?_))
          · replace hv11 := zif_t c14 hv11
            cases hv11
            exact kv11
          · replace hv11 := zif_f c14 hv11
            refine zEv_k 1 (f' := (98, [some (.ref 198), some (.int x1), some (.int s.1)], [.ref 198], zhp s.2)) rfl ?_
            refine zRgr rfl rfl rfl (by decide) (b := 198 + 11) rfl ?_
            refine zEv_k 2 (f' := (103, [some (.ref 198), some (.int x1), some (.int s.1)], [.int s.1, .ref (198 + 11), .int s.1, .ref (198 + 11)], zhp s.2)) rfl ?_
            refine zRia rfl rfl (by decide) hj12 ?_
            refine zEv_k 3 (f' := (109, [some (.ref 198), some (.int x1), some (.int s.1)], [.int ((gI s.2 (198 + 11) j12) + (gI s.2 198 4)), .int s.1, .ref (198 + 11)], zhp s.2)) rfl ?_
            obtain ⟨h15, eh15, hv11⟩ := zlets hv11
            refine zRis rfl rfl (by decide) hj12 eh15 ?_
            cases hv11
            exact kv11
theorem t_qRu_burst_b52 {Ls : Nat} {xs : Nat → Int32} {d : Nat} {oo : Nat} {x1 : Int32} {r : zA} (ho : oo = 166 ∨ oo = 198) {t : zK} (K : ∀ (z2 : Option Value), zEv (zXs Ls xs) (d + 1) zm_81 (116, [some (.ref oo), some (.int x1), z2], [], zhp t) r) (n : Nat) (s : Int32 × zK) (H : zloop (qRu_burst_b52 oo x1) n s = some t) : zEv (zXs Ls xs) (d + 1) zm_81 (52, [some (.ref oo), some (.int x1), some (.int s.1)], [], zhp s.2) r := by
  have Z := zloop_P (P := fun s => zEv (zXs Ls xs) (d + 1) zm_81 (52, [some (.ref oo), some (.int x1), some (.int s.1)], [], zhp s.2) r) (b := qRu_burst_b52 oo x1) (t := t) (fun s s2 hb hk => by exact t_qRu_burst_b52b ho hb hk) (fun s hb => by exact t_qRu_burst_b52b ho hb K) n s H
  exact Z
def qRu_burst (oo : Nat) (x1 : Int32) (h : zK) : Option (zK) :=
  zlet (sI h oo 2 ((gI h oo 2) ||| ((1 : Int32) <<< (x1 &&& 31)))) fun h1 =>
  zlet (sI h1 oo 1 ((gI h1 oo 1) + 1)) fun h2 =>
  (zix (gI h2 oo 0) 51).bind fun j3 =>
  zlet (sI h2 (oo + 1) j3 ((gI h2 (oo + 1) j3) + 1)) fun h4 =>
  (zix x1 7).bind fun j5 =>
  zlet (sI h4 oo 7 ((gI h4 oo 7) + (gI h4 (oo + 10) j5))) fun h6 =>
  (zloop (qRu_burst_b52 oo x1) zfu (0, h6)).bind fun t16 =>
  some t16
theorem t_qRu_burst {Ls : Nat} {xs : Nat → Int32} {d : Nat} {oo : Nat} {x1 : Int32} {h : zK} {p : zK} (ho : oo = 166 ∨ oo = 198) (H : qRu_burst oo x1 h = some p) : zEv (zXs Ls xs) (d + 1) zm_81 (0, [some (.ref oo), some (.int x1), none], [], zhp h) (none, zhp p) := by
  unfold qRu_burst at H
  rcases ho with rfl | rfl
  · obtain ⟨h1, eh1, H⟩ := zlets H
    refine zEv_w (F := fun z => (12, [some (.ref 166), some (.int x1), none], [], zhp z)) (h0 := sI h 166 2 ((gI h 166 2) ||| ((1 : Int32) <<< (x1 &&& 31)))) 8 rfl eh1 ?_
    obtain ⟨h2, eh2, H⟩ := zlets H
    refine zEv_w (F := fun z => (22, [some (.ref 166), some (.int x1), none], [], zhp z)) (h0 := sI h1 166 1 ((gI h1 166 1) + 1)) 6 rfl eh2 ?_
    refine zEv_k 1 (f' := (23, [some (.ref 166), some (.int x1), none], [.ref 166], zhp h2)) rfl ?_
    refine zRgr rfl rfl rfl (by decide) (b := 166 + 1) rfl ?_
    refine zEv_k 3 (f' := (31, [some (.ref 166), some (.int x1), none], [.int (gI h2 166 0), .ref (166 + 1), .int (gI h2 166 0), .ref (166 + 1)], zhp h2)) rfl ?_
    obtain ⟨j3, hj3, H⟩ := zbs H
    refine zRia rfl rfl (by decide) hj3 ?_
    refine zEv_k 2 (f' := (34, [some (.ref 166), some (.int x1), none], [.int ((gI h2 (166 + 1) j3) + 1), .int (gI h2 166 0), .ref (166 + 1)], zhp h2)) rfl ?_
    obtain ⟨h4, eh4, H⟩ := zlets H
    refine zRis rfl rfl (by decide) hj3 eh4 ?_
    refine zEv_k 4 (f' := (41, [some (.ref 166), some (.int x1), none], [.ref 166, .int (gI h4 166 7), .ref 166], zhp h4)) rfl ?_
    refine zRgr rfl rfl rfl (by decide) (b := 166 + 10) rfl ?_
    refine zEv_k 1 (f' := (45, [some (.ref 166), some (.int x1), none], [.int x1, .ref (166 + 10), .int (gI h4 166 7), .ref 166], zhp h4)) rfl ?_
    obtain ⟨j5, hj5, H⟩ := zbs H
    refine zRia rfl rfl (by decide) hj5 ?_
    obtain ⟨h6, eh6, H⟩ := zlets H
    refine zEv_w (F := fun z => (50, [some (.ref 166), some (.int x1), none], [], zhp z)) (h0 := sI h4 166 7 ((gI h4 166 7) + (gI h4 (166 + 10) j5))) 2 rfl eh6 ?_
    refine zEv_k 2 (f' := (52, [some (.ref 166), some (.int x1), some (.int 0)], [], zhp h6)) rfl ?_
    obtain ⟨t16, ht16, H⟩ := zbs H
    refine t_qRu_burst_b52 (oo := 166) (x1 := x1) (by decide) ?_ zfu _ ht16
    intro y2
    cases H
    exact zEv_r rfl
  · obtain ⟨h1, eh1, H⟩ := zlets H
    refine zEv_w (F := fun z => (12, [some (.ref 198), some (.int x1), none], [], zhp z)) (h0 := sI h 198 2 ((gI h 198 2) ||| ((1 : Int32) <<< (x1 &&& 31)))) 8 rfl eh1 ?_
    obtain ⟨h2, eh2, H⟩ := zlets H
    refine zEv_w (F := fun z => (22, [some (.ref 198), some (.int x1), none], [], zhp z)) (h0 := sI h1 198 1 ((gI h1 198 1) + 1)) 6 rfl eh2 ?_
    refine zEv_k 1 (f' := (23, [some (.ref 198), some (.int x1), none], [.ref 198], zhp h2)) rfl ?_
    refine zRgr rfl rfl rfl (by decide) (b := 198 + 1) rfl ?_
    refine zEv_k 3 (f' := (31, [some (.ref 198), some (.int x1), none], [.int (gI h2 198 0), .ref (198 + 1), .int (gI h2 198 0), .ref (198 + 1)], zhp h2)) rfl ?_
    obtain ⟨j3, hj3, H⟩ := zbs H
    refine zRia rfl rfl (by decide) hj3 ?_
    refine zEv_k 2 (f' := (34, [some (.ref 198), some (.int x1), none], [.int ((gI h2 (198 + 1) j3) + 1), .int (gI h2 198 0), .ref (198 + 1)], zhp h2)) rfl ?_
    obtain ⟨h4, eh4, H⟩ := zlets H
    refine zRis rfl rfl (by decide) hj3 eh4 ?_
    refine zEv_k 4 (f' := (41, [some (.ref 198), some (.int x1), none], [.ref 198, .int (gI h4 198 7), .ref 198], zhp h4)) rfl ?_
    refine zRgr rfl rfl rfl (by decide) (b := 198 + 10) rfl ?_
    refine zEv_k 1 (f' := (45, [some (.ref 198), some (.int x1), none], [.int x1, .ref (198 + 10), .int (gI h4 198 7), .ref 198], zhp h4)) rfl ?_
    obtain ⟨j5, hj5, H⟩ := zbs H
    refine zRia rfl rfl (by decide) hj5 ?_
    obtain ⟨h6, eh6, H⟩ := zlets H
    refine zEv_w (F := fun z => (50, [some (.ref 198), some (.int x1), none], [], zhp z)) (h0 := sI h4 198 7 ((gI h4 198 7) + (gI h4 (198 + 10) j5))) 2 rfl eh6 ?_
    refine zEv_k 2 (f' := (52, [some (.ref 198), some (.int x1), some (.int 0)], [], zhp h6)) rfl ?_
    obtain ⟨t16, ht16, H⟩ := zbs H
    refine t_qRu_burst_b52 (oo := 198) (x1 := x1) (by decide) ?_ zfu _ ht16
    intro y2
    cases H
    exact zEv_r rfl
