def qCe_clear_b17 (s : Int32 × zK) : Option ((Int32 × zK) ⊕ (zK)) :=
  if 7 ≤ s.1 then
    some (.inr s.2)
  else
    (zix s.1 7).bind fun j5 =>
    zlet (sI s.2 155 j5 0) fun h6 =>
    some (.inl (s.1 + 1, h6))
theorem t_qCe_clear_b17b {Ls : Nat} {xs : Nat → Int32} {d : Nat} {r : zA} {s : Int32 × zK} {e : (Int32 × zK) ⊕ (zK)} (H : qCe_clear_b17 s = some e) (K : match (generalizing := false) e with | .inl s' => zEv (zXs Ls xs) d zm_1 (17, [some (.ref 148), some (.int s'.1)], [], zhp s'.2) r | .inr v => ∀ (z1 : Option Value), zEv (zXs Ls xs) d zm_1 (36, [some (.ref 148), z1], [], zhp v) r) : zEv (zXs Ls xs) d zm_1 (17, [some (.ref 148), some (.int s.1)], [], zhp s.2) r := by
  unfold qCe_clear_b17 at H
  refine zEv_k 3 (f' := (if 7 ≤ s.1 then 36 else 23, [some (.ref 148), some (.int s.1)], [], zhp s.2)) rfl (zEv_if (fun c4 => ?_) (fun c4 => ?_))
  · replace H := zif_t c4 H
    cases H
    exact K _
  · replace H := zif_f c4 H
    refine zEv_k 1 (f' := (24, [some (.ref 148), some (.int s.1)], [.ref 148], zhp s.2)) rfl ?_
    refine zRgr rfl rfl rfl (by decide) (b := 155) rfl ?_
    refine zEv_k 2 (f' := (29, [some (.ref 148), some (.int s.1)], [.int 0, .int s.1, .ref 155], zhp s.2)) rfl ?_
    obtain ⟨j5, hj5, H⟩ := zbs H
    obtain ⟨h6, eh6, H⟩ := zlets H
    refine zRis rfl rfl (by decide) hj5 eh6 ?_
    refine zEv_k 2 (f' := (17, [some (.ref 148), some (.int (s.1 + 1))], [], zhp h6)) rfl ?_
    cases H
    exact K
theorem t_qCe_clear_b17 {Ls : Nat} {xs : Nat → Int32} {d : Nat} {r : zA} {t : zK} (K : ∀ (z1 : Option Value), zEv (zXs Ls xs) d zm_1 (36, [some (.ref 148), z1], [], zhp t) r) (n : Nat) (s : Int32 × zK) (H : zloop (qCe_clear_b17) n s = some t) : zEv (zXs Ls xs) d zm_1 (17, [some (.ref 148), some (.int s.1)], [], zhp s.2) r := by
  have Z := zloop_P (P := fun s => zEv (zXs Ls xs) d zm_1 (17, [some (.ref 148), some (.int s.1)], [], zhp s.2) r) (b := qCe_clear_b17) (t := t) (fun s s2 hb hk => by exact t_qCe_clear_b17b hb hk) (fun s hb => by exact t_qCe_clear_b17b hb K) n s H
  exact Z
def qCe_clear (h : zK) : Option (zK) :=
  zlet (sI h 148 0 3) fun h1 =>
  zlet (sI h1 148 1 1) fun h2 =>
  zlet (sI h2 148 2 0) fun h3 =>
  (zloop (qCe_clear_b17) zfu (0, h3)).bind fun t7 =>
  some t7
theorem t_qCe_clear {Ls : Nat} {xs : Nat → Int32} {d : Nat} {h : zK} {p : zK} (H : qCe_clear h = some p) : zEv (zXs Ls xs) d zm_1 (0, [some (.ref 148), none], [], zhp h) (none, zhp p) := by
  unfold qCe_clear at H
  obtain ⟨h1, eh1, H⟩ := zlets H
  refine zEv_w (F := fun z => (5, [some (.ref 148), none], [], zhp z)) (h0 := sI h 148 0 3) 3 rfl eh1 ?_
  obtain ⟨h2, eh2, H⟩ := zlets H
  refine zEv_w (F := fun z => (10, [some (.ref 148), none], [], zhp z)) (h0 := sI h1 148 1 1) 3 rfl eh2 ?_
  obtain ⟨h3, eh3, H⟩ := zlets H
  refine zEv_w (F := fun z => (15, [some (.ref 148), none], [], zhp z)) (h0 := sI h2 148 2 0) 3 rfl eh3 ?_
  refine zEv_k 2 (f' := (17, [some (.ref 148), some (.int 0)], [], zhp h3)) rfl ?_
  obtain ⟨t7, ht7, H⟩ := zbs H
  refine t_qCe_clear_b17 ?_ zfu _ ht7
  intro y1
  cases H
  exact zEv_r rfl
def qCe_become (oo : Nat) (oq : Nat) (h : zK) : Option (zK) :=
  zlet (sI h oo 0 (gI h oq 0)) fun h1 =>
  zlet (sI h1 oo 1 (gI h1 oq 1)) fun h2 =>
  zlet (sI h2 oo 2 (gI h2 oq 2)) fun h3 =>
  zlet (cI h3 (oq + 1) (oo + 1) 0 0 7) fun h4 =>
  zlet (cI h4 (oq + 2) (oo + 2) 0 0 7) fun h6 =>
  zlet (cI h6 (oq + 3) (oo + 3) 0 0 7) fun h8 =>
  zlet (cI h8 (oq + 4) (oo + 4) 0 0 7) fun h10 =>
  zlet (cI h10 (oq + 5) (oo + 5) 0 0 7) fun h12 =>
  zlet (cI h12 (oq + 6) (oo + 6) 0 0 7) fun h14 =>
  zlet (cI h14 (oq + 7) (oo + 7) 0 0 7) fun h16 =>
  some h16
theorem t_qCe_become {Ls : Nat} {xs : Nat → Int32} {d : Nat} {oo : Nat} {oq : Nat} {h : zK} {p : zK} (ho : (oo = 7 ∧ oq = 44) ∨ (oo = 22 ∧ oq = 59) ∨ (oo = 7 ∧ oq = 80) ∨ (oo = 22 ∧ oq = 95) ∨ (oo = 7 ∧ oq = 116) ∨ (oo = 22 ∧ oq = 131) ∨ (oo = 44 ∧ oq = 7) ∨ (oo = 59 ∧ oq = 22) ∨ (oo = 80 ∧ oq = 7) ∨ (oo = 95 ∧ oq = 22) ∨ (oo = 116 ∧ oq = 7) ∨ (oo = 131 ∧ oq = 22) ∨ (oo = 7 ∧ oq = 148) ∨ (oo = 22 ∧ oq = 148)) (H : qCe_become oo oq h = some p) : zEv (zXs Ls xs) d zm_2 (0, [some (.ref oo), some (.ref oq)], [], zhp h) (none, zhp p) := by
  unfold qCe_become at H
  rcases ho with ⟨rfl, rfl⟩ | ⟨rfl, rfl⟩ | ⟨rfl, rfl⟩ | ⟨rfl, rfl⟩ | ⟨rfl, rfl⟩ | ⟨rfl, rfl⟩ | ⟨rfl, rfl⟩ | ⟨rfl, rfl⟩ | ⟨rfl, rfl⟩ | ⟨rfl, rfl⟩ | ⟨rfl, rfl⟩ | ⟨rfl, rfl⟩ | ⟨rfl, rfl⟩ | ⟨rfl, rfl⟩
  · obtain ⟨h1, eh1, H⟩ := zlets H
    refine zEv_w (F := fun z => (8, [some (.ref 7), some (.ref 44)], [], zhp z)) (h0 := sI h 7 0 (gI h 44 0)) 4 rfl eh1 ?_
    obtain ⟨h2, eh2, H⟩ := zlets H
    refine zEv_w (F := fun z => (16, [some (.ref 7), some (.ref 44)], [], zhp z)) (h0 := sI h1 7 1 (gI h1 44 1)) 4 rfl eh2 ?_
    obtain ⟨h3, eh3, H⟩ := zlets H
    refine zEv_w (F := fun z => (24, [some (.ref 7), some (.ref 44)], [], zhp z)) (h0 := sI h2 7 2 (gI h2 44 2)) 4 rfl eh3 ?_
    refine zEv_k 1 (f' := (25, [some (.ref 7), some (.ref 44)], [.ref 44], zhp h3)) rfl ?_
    refine zRgr rfl rfl rfl (by decide) (b := 44 + 1) rfl ?_
    refine zEv_k 2 (f' := (30, [some (.ref 7), some (.ref 44)], [.ref 7, .int 0, .ref (44 + 1)], zhp h3)) rfl ?_
    refine zRgr rfl rfl rfl (by decide) (b := 7 + 1) rfl ?_
    refine zEv_k 2 (f' := (36, [some (.ref 7), some (.ref 44)], [.int 7, .int 0, .ref (7 + 1), .int 0, .ref (44 + 1)], zhp h3)) rfl ?_
    obtain ⟨h4, eh4, H⟩ := zlets H
    refine zRcp rfl rfl rfl (by decide) (by decide) (by decide) (by unfold zcpok; decide) (by decide) eh4 ?_
    refine zEv_k 1 (f' := (40, [some (.ref 7), some (.ref 44)], [.ref 44], zhp h4)) rfl ?_
    refine zRgr rfl rfl rfl (by decide) (b := 44 + 2) rfl ?_
    refine zEv_k 2 (f' := (45, [some (.ref 7), some (.ref 44)], [.ref 7, .int 0, .ref (44 + 2)], zhp h4)) rfl ?_
    refine zRgr rfl rfl rfl (by decide) (b := 7 + 2) rfl ?_
    refine zEv_k 2 (f' := (51, [some (.ref 7), some (.ref 44)], [.int 7, .int 0, .ref (7 + 2), .int 0, .ref (44 + 2)], zhp h4)) rfl ?_
    obtain ⟨h6, eh6, H⟩ := zlets H
    refine zRcp rfl rfl rfl (by decide) (by decide) (by decide) (by unfold zcpok; decide) (by decide) eh6 ?_
    refine zEv_k 1 (f' := (55, [some (.ref 7), some (.ref 44)], [.ref 44], zhp h6)) rfl ?_
    refine zRgr rfl rfl rfl (by decide) (b := 44 + 3) rfl ?_
    refine zEv_k 2 (f' := (60, [some (.ref 7), some (.ref 44)], [.ref 7, .int 0, .ref (44 + 3)], zhp h6)) rfl ?_
    refine zRgr rfl rfl rfl (by decide) (b := 7 + 3) rfl ?_
    refine zEv_k 2 (f' := (66, [some (.ref 7), some (.ref 44)], [.int 7, .int 0, .ref (7 + 3), .int 0, .ref (44 + 3)], zhp h6)) rfl ?_
    obtain ⟨h8, eh8, H⟩ := zlets H
    refine zRcp rfl rfl rfl (by decide) (by decide) (by decide) (by unfold zcpok; decide) (by decide) eh8 ?_
    refine zEv_k 1 (f' := (70, [some (.ref 7), some (.ref 44)], [.ref 44], zhp h8)) rfl ?_
    refine zRgr rfl rfl rfl (by decide) (b := 44 + 4) rfl ?_
    refine zEv_k 2 (f' := (75, [some (.ref 7), some (.ref 44)], [.ref 7, .int 0, .ref (44 + 4)], zhp h8)) rfl ?_
    refine zRgr rfl rfl rfl (by decide) (b := 7 + 4) rfl ?_
    refine zEv_k 2 (f' := (81, [some (.ref 7), some (.ref 44)], [.int 7, .int 0, .ref (7 + 4), .int 0, .ref (44 + 4)], zhp h8)) rfl ?_
    obtain ⟨h10, eh10, H⟩ := zlets H
    refine zRcp rfl rfl rfl (by decide) (by decide) (by decide) (by unfold zcpok; decide) (by decide) eh10 ?_
    refine zEv_k 1 (f' := (85, [some (.ref 7), some (.ref 44)], [.ref 44], zhp h10)) rfl ?_
    refine zRgr rfl rfl rfl (by decide) (b := 44 + 5) rfl ?_
    refine zEv_k 2 (f' := (90, [some (.ref 7), some (.ref 44)], [.ref 7, .int 0, .ref (44 + 5)], zhp h10)) rfl ?_
    refine zRgr rfl rfl rfl (by decide) (b := 7 + 5) rfl ?_
    refine zEv_k 2 (f' := (96, [some (.ref 7), some (.ref 44)], [.int 7, .int 0, .ref (7 + 5), .int 0, .ref (44 + 5)], zhp h10)) rfl ?_
    obtain ⟨h12, eh12, H⟩ := zlets H
    refine zRcp rfl rfl rfl (by decide) (by decide) (by decide) (by unfold zcpok; decide) (by decide) eh12 ?_
    refine zEv_k 1 (f' := (100, [some (.ref 7), some (.ref 44)], [.ref 44], zhp h12)) rfl ?_
    refine zRgr rfl rfl rfl (by decide) (b := 44 + 6) rfl ?_
    refine zEv_k 2 (f' := (105, [some (.ref 7), some (.ref 44)], [.ref 7, .int 0, .ref (44 + 6)], zhp h12)) rfl ?_
    refine zRgr rfl rfl rfl (by decide) (b := 7 + 6) rfl ?_
    refine zEv_k 2 (f' := (111, [some (.ref 7), some (.ref 44)], [.int 7, .int 0, .ref (7 + 6), .int 0, .ref (44 + 6)], zhp h12)) rfl ?_
    obtain ⟨h14, eh14, H⟩ := zlets H
    refine zRcp rfl rfl rfl (by decide) (by decide) (by decide) (by unfold zcpok; decide) (by decide) eh14 ?_
    refine zEv_k 1 (f' := (115, [some (.ref 7), some (.ref 44)], [.ref 44], zhp h14)) rfl ?_
    refine zRgr rfl rfl rfl (by decide) (b := 44 + 7) rfl ?_
    refine zEv_k 2 (f' := (120, [some (.ref 7), some (.ref 44)], [.ref 7, .int 0, .ref (44 + 7)], zhp h14)) rfl ?_
    refine zRgr rfl rfl rfl (by decide) (b := 7 + 7) rfl ?_
    refine zEv_k 2 (f' := (126, [some (.ref 7), some (.ref 44)], [.int 7, .int 0, .ref (7 + 7), .int 0, .ref (44 + 7)], zhp h14)) rfl ?_
    obtain ⟨h16, eh16, H⟩ := zlets H
    refine zRcp rfl rfl rfl (by decide) (by decide) (by decide) (by unfold zcpok; decide) (by decide) eh16 ?_
    cases H
    exact zEv_r rfl
  · obtain ⟨h1, eh1, H⟩ := zlets H
    refine zEv_w (F := fun z => (8, [some (.ref 22), some (.ref 59)], [], zhp z)) (h0 := sI h 22 0 (gI h 59 0)) 4 rfl eh1 ?_
    obtain ⟨h2, eh2, H⟩ := zlets H
    refine zEv_w (F := fun z => (16, [some (.ref 22), some (.ref 59)], [], zhp z)) (h0 := sI h1 22 1 (gI h1 59 1)) 4 rfl eh2 ?_
    obtain ⟨h3, eh3, H⟩ := zlets H
    refine zEv_w (F := fun z => (24, [some (.ref 22), some (.ref 59)], [], zhp z)) (h0 := sI h2 22 2 (gI h2 59 2)) 4 rfl eh3 ?_
    refine zEv_k 1 (f' := (25, [some (.ref 22), some (.ref 59)], [.ref 59], zhp h3)) rfl ?_
    refine zRgr rfl rfl rfl (by decide) (b := 59 + 1) rfl ?_
    refine zEv_k 2 (f' := (30, [some (.ref 22), some (.ref 59)], [.ref 22, .int 0, .ref (59 + 1)], zhp h3)) rfl ?_
    refine zRgr rfl rfl rfl (by decide) (b := 22 + 1) rfl ?_
    refine zEv_k 2 (f' := (36, [some (.ref 22), some (.ref 59)], [.int 7, .int 0, .ref (22 + 1), .int 0, .ref (59 + 1)], zhp h3)) rfl ?_
    obtain ⟨h4, eh4, H⟩ := zlets H
    refine zRcp rfl rfl rfl (by decide) (by decide) (by decide) (by unfold zcpok; decide) (by decide) eh4 ?_
    refine zEv_k 1 (f' := (40, [some (.ref 22), some (.ref 59)], [.ref 59], zhp h4)) rfl ?_
    refine zRgr rfl rfl rfl (by decide) (b := 59 + 2) rfl ?_
    refine zEv_k 2 (f' := (45, [some (.ref 22), some (.ref 59)], [.ref 22, .int 0, .ref (59 + 2)], zhp h4)) rfl ?_
    refine zRgr rfl rfl rfl (by decide) (b := 22 + 2) rfl ?_
    refine zEv_k 2 (f' := (51, [some (.ref 22), some (.ref 59)], [.int 7, .int 0, .ref (22 + 2), .int 0, .ref (59 + 2)], zhp h4)) rfl ?_
    obtain ⟨h6, eh6, H⟩ := zlets H
    refine zRcp rfl rfl rfl (by decide) (by decide) (by decide) (by unfold zcpok; decide) (by decide) eh6 ?_
    refine zEv_k 1 (f' := (55, [some (.ref 22), some (.ref 59)], [.ref 59], zhp h6)) rfl ?_
    refine zRgr rfl rfl rfl (by decide) (b := 59 + 3) rfl ?_
    refine zEv_k 2 (f' := (60, [some (.ref 22), some (.ref 59)], [.ref 22, .int 0, .ref (59 + 3)], zhp h6)) rfl ?_
    refine zRgr rfl rfl rfl (by decide) (b := 22 + 3) rfl ?_
    refine zEv_k 2 (f' := (66, [some (.ref 22), some (.ref 59)], [.int 7, .int 0, .ref (22 + 3), .int 0, .ref (59 + 3)], zhp h6)) rfl ?_
    obtain ⟨h8, eh8, H⟩ := zlets H
    refine zRcp rfl rfl rfl (by decide) (by decide) (by decide) (by unfold zcpok; decide) (by decide) eh8 ?_
    refine zEv_k 1 (f' := (70, [some (.ref 22), some (.ref 59)], [.ref 59], zhp h8)) rfl ?_
    refine zRgr rfl rfl rfl (by decide) (b := 59 + 4) rfl ?_
    refine zEv_k 2 (f' := (75, [some (.ref 22), some (.ref 59)], [.ref 22, .int 0, .ref (59 + 4)], zhp h8)) rfl ?_
    refine zRgr rfl rfl rfl (by decide) (b := 22 + 4) rfl ?_
    refine zEv_k 2 (f' := (81, [some (.ref 22), some (.ref 59)], [.int 7, .int 0, .ref (22 + 4), .int 0, .ref (59 + 4)], zhp h8)) rfl ?_
    obtain ⟨h10, eh10, H⟩ := zlets H
    refine zRcp rfl rfl rfl (by decide) (by decide) (by decide) (by unfold zcpok; decide) (by decide) eh10 ?_
    refine zEv_k 1 (f' := (85, [some (.ref 22), some (.ref 59)], [.ref 59], zhp h10)) rfl ?_
    refine zRgr rfl rfl rfl (by decide) (b := 59 + 5) rfl ?_
    refine zEv_k 2 (f' := (90, [some (.ref 22), some (.ref 59)], [.ref 22, .int 0, .ref (59 + 5)], zhp h10)) rfl ?_
    refine zRgr rfl rfl rfl (by decide) (b := 22 + 5) rfl ?_
    refine zEv_k 2 (f' := (96, [some (.ref 22), some (.ref 59)], [.int 7, .int 0, .ref (22 + 5), .int 0, .ref (59 + 5)], zhp h10)) rfl ?_
    obtain ⟨h12, eh12, H⟩ := zlets H
    refine zRcp rfl rfl rfl (by decide) (by decide) (by decide) (by unfold zcpok; decide) (by decide) eh12 ?_
    refine zEv_k 1 (f' := (100, [some (.ref 22), some (.ref 59)], [.ref 59], zhp h12)) rfl ?_
    refine zRgr rfl rfl rfl (by decide) (b := 59 + 6) rfl ?_
    refine zEv_k 2 (f' := (105, [some (.ref 22), some (.ref 59)], [.ref 22, .int 0, .ref (59 + 6)], zhp h12)) rfl ?_
    refine zRgr rfl rfl rfl (by decide) (b := 22 + 6) rfl ?_
    refine zEv_k 2 (f' := (111, [some (.ref 22), some (.ref 59)], [.int 7, .int 0, .ref (22 + 6), .int 0, .ref (59 + 6)], zhp h12)) rfl ?_
    obtain ⟨h14, eh14, H⟩ := zlets H
    refine zRcp rfl rfl rfl (by decide) (by decide) (by decide) (by unfold zcpok; decide) (by decide) eh14 ?_
    refine zEv_k 1 (f' := (115, [some (.ref 22), some (.ref 59)], [.ref 59], zhp h14)) rfl ?_
    refine zRgr rfl rfl rfl (by decide) (b := 59 + 7) rfl ?_
    refine zEv_k 2 (f' := (120, [some (.ref 22), some (.ref 59)], [.ref 22, .int 0, .ref (59 + 7)], zhp h14)) rfl ?_
    refine zRgr rfl rfl rfl (by decide) (b := 22 + 7) rfl ?_
    refine zEv_k 2 (f' := (126, [some (.ref 22), some (.ref 59)], [.int 7, .int 0, .ref (22 + 7), .int 0, .ref (59 + 7)], zhp h14)) rfl ?_
    obtain ⟨h16, eh16, H⟩ := zlets H
    refine zRcp rfl rfl rfl (by decide) (by decide) (by decide) (by unfold zcpok; decide) (by decide) eh16 ?_
    cases H
    exact zEv_r rfl
  · obtain ⟨h1, eh1, H⟩ := zlets H
    refine zEv_w (F := fun z => (8, [some (.ref 7), some (.ref 80)], [], zhp z)) (h0 := sI h 7 0 (gI h 80 0)) 4 rfl eh1 ?_
    obtain ⟨h2, eh2, H⟩ := zlets H
    refine zEv_w (F := fun z => (16, [some (.ref 7), some (.ref 80)], [], zhp z)) (h0 := sI h1 7 1 (gI h1 80 1)) 4 rfl eh2 ?_
    obtain ⟨h3, eh3, H⟩ := zlets H
    refine zEv_w (F := fun z => (24, [some (.ref 7), some (.ref 80)], [], zhp z)) (h0 := sI h2 7 2 (gI h2 80 2)) 4 rfl eh3 ?_
    refine zEv_k 1 (f' := (25, [some (.ref 7), some (.ref 80)], [.ref 80], zhp h3)) rfl ?_
    refine zRgr rfl rfl rfl (by decide) (b := 80 + 1) rfl ?_
    refine zEv_k 2 (f' := (30, [some (.ref 7), some (.ref 80)], [.ref 7, .int 0, .ref (80 + 1)], zhp h3)) rfl ?_
    refine zRgr rfl rfl rfl (by decide) (b := 7 + 1) rfl ?_
    refine zEv_k 2 (f' := (36, [some (.ref 7), some (.ref 80)], [.int 7, .int 0, .ref (7 + 1), .int 0, .ref (80 + 1)], zhp h3)) rfl ?_
    obtain ⟨h4, eh4, H⟩ := zlets H
    refine zRcp rfl rfl rfl (by decide) (by decide) (by decide) (by unfold zcpok; decide) (by decide) eh4 ?_
    refine zEv_k 1 (f' := (40, [some (.ref 7), some (.ref 80)], [.ref 80], zhp h4)) rfl ?_
    refine zRgr rfl rfl rfl (by decide) (b := 80 + 2) rfl ?_
    refine zEv_k 2 (f' := (45, [some (.ref 7), some (.ref 80)], [.ref 7, .int 0, .ref (80 + 2)], zhp h4)) rfl ?_
    refine zRgr rfl rfl rfl (by decide) (b := 7 + 2) rfl ?_
    refine zEv_k 2 (f' := (51, [some (.ref 7), some (.ref 80)], [.int 7, .int 0, .ref (7 + 2), .int 0, .ref (80 + 2)], zhp h4)) rfl ?_
    obtain ⟨h6, eh6, H⟩ := zlets H
    refine zRcp rfl rfl rfl (by decide) (by decide) (by decide) (by unfold zcpok; decide) (by decide) eh6 ?_
    refine zEv_k 1 (f' := (55, [some (.ref 7), some (.ref 80)], [.ref 80], zhp h6)) rfl ?_
    refine zRgr rfl rfl rfl (by decide) (b := 80 + 3) rfl ?_
    refine zEv_k 2 (f' := (60, [some (.ref 7), some (.ref 80)], [.ref 7, .int 0, .ref (80 + 3)], zhp h6)) rfl ?_
    refine zRgr rfl rfl rfl (by decide) (b := 7 + 3) rfl ?_
    refine zEv_k 2 (f' := (66, [some (.ref 7), some (.ref 80)], [.int 7, .int 0, .ref (7 + 3), .int 0, .ref (80 + 3)], zhp h6)) rfl ?_
    obtain ⟨h8, eh8, H⟩ := zlets H
    refine zRcp rfl rfl rfl (by decide) (by decide) (by decide) (by unfold zcpok; decide) (by decide) eh8 ?_
    refine zEv_k 1 (f' := (70, [some (.ref 7), some (.ref 80)], [.ref 80], zhp h8)) rfl ?_
    refine zRgr rfl rfl rfl (by decide) (b := 80 + 4) rfl ?_
    refine zEv_k 2 (f' := (75, [some (.ref 7), some (.ref 80)], [.ref 7, .int 0, .ref (80 + 4)], zhp h8)) rfl ?_
    refine zRgr rfl rfl rfl (by decide) (b := 7 + 4) rfl ?_
    refine zEv_k 2 (f' := (81, [some (.ref 7), some (.ref 80)], [.int 7, .int 0, .ref (7 + 4), .int 0, .ref (80 + 4)], zhp h8)) rfl ?_
    obtain ⟨h10, eh10, H⟩ := zlets H
    refine zRcp rfl rfl rfl (by decide) (by decide) (by decide) (by unfold zcpok; decide) (by decide) eh10 ?_
    refine zEv_k 1 (f' := (85, [some (.ref 7), some (.ref 80)], [.ref 80], zhp h10)) rfl ?_
    refine zRgr rfl rfl rfl (by decide) (b := 80 + 5) rfl ?_
    refine zEv_k 2 (f' := (90, [some (.ref 7), some (.ref 80)], [.ref 7, .int 0, .ref (80 + 5)], zhp h10)) rfl ?_
    refine zRgr rfl rfl rfl (by decide) (b := 7 + 5) rfl ?_
    refine zEv_k 2 (f' := (96, [some (.ref 7), some (.ref 80)], [.int 7, .int 0, .ref (7 + 5), .int 0, .ref (80 + 5)], zhp h10)) rfl ?_
    obtain ⟨h12, eh12, H⟩ := zlets H
    refine zRcp rfl rfl rfl (by decide) (by decide) (by decide) (by unfold zcpok; decide) (by decide) eh12 ?_
    refine zEv_k 1 (f' := (100, [some (.ref 7), some (.ref 80)], [.ref 80], zhp h12)) rfl ?_
    refine zRgr rfl rfl rfl (by decide) (b := 80 + 6) rfl ?_
    refine zEv_k 2 (f' := (105, [some (.ref 7), some (.ref 80)], [.ref 7, .int 0, .ref (80 + 6)], zhp h12)) rfl ?_
    refine zRgr rfl rfl rfl (by decide) (b := 7 + 6) rfl ?_
    refine zEv_k 2 (f' := (111, [some (.ref 7), some (.ref 80)], [.int 7, .int 0, .ref (7 + 6), .int 0, .ref (80 + 6)], zhp h12)) rfl ?_
    obtain ⟨h14, eh14, H⟩ := zlets H
    refine zRcp rfl rfl rfl (by decide) (by decide) (by decide) (by unfold zcpok; decide) (by decide) eh14 ?_
    refine zEv_k 1 (f' := (115, [some (.ref 7), some (.ref 80)], [.ref 80], zhp h14)) rfl ?_
    refine zRgr rfl rfl rfl (by decide) (b := 80 + 7) rfl ?_
    refine zEv_k 2 (f' := (120, [some (.ref 7), some (.ref 80)], [.ref 7, .int 0, .ref (80 + 7)], zhp h14)) rfl ?_
    refine zRgr rfl rfl rfl (by decide) (b := 7 + 7) rfl ?_
    refine zEv_k 2 (f' := (126, [some (.ref 7), some (.ref 80)], [.int 7, .int 0, .ref (7 + 7), .int 0, .ref (80 + 7)], zhp h14)) rfl ?_
    obtain ⟨h16, eh16, H⟩ := zlets H
    refine zRcp rfl rfl rfl (by decide) (by decide) (by decide) (by unfold zcpok; decide) (by decide) eh16 ?_
    cases H
    exact zEv_r rfl
  · obtain ⟨h1, eh1, H⟩ := zlets H
    refine zEv_w (F := fun z => (8, [some (.ref 22), some (.ref 95)], [], zhp z)) (h0 := sI h 22 0 (gI h 95 0)) 4 rfl eh1 ?_
    obtain ⟨h2, eh2, H⟩ := zlets H
    refine zEv_w (F := fun z => (16, [some (.ref 22), some (.ref 95)], [], zhp z)) (h0 := sI h1 22 1 (gI h1 95 1)) 4 rfl eh2 ?_
    obtain ⟨h3, eh3, H⟩ := zlets H
    refine zEv_w (F := fun z => (24, [some (.ref 22), some (.ref 95)], [], zhp z)) (h0 := sI h2 22 2 (gI h2 95 2)) 4 rfl eh3 ?_
    refine zEv_k 1 (f' := (25, [some (.ref 22), some (.ref 95)], [.ref 95], zhp h3)) rfl ?_
    refine zRgr rfl rfl rfl (by decide) (b := 95 + 1) rfl ?_
    refine zEv_k 2 (f' := (30, [some (.ref 22), some (.ref 95)], [.ref 22, .int 0, .ref (95 + 1)], zhp h3)) rfl ?_
    refine zRgr rfl rfl rfl (by decide) (b := 22 + 1) rfl ?_
    refine zEv_k 2 (f' := (36, [some (.ref 22), some (.ref 95)], [.int 7, .int 0, .ref (22 + 1), .int 0, .ref (95 + 1)], zhp h3)) rfl ?_
    obtain ⟨h4, eh4, H⟩ := zlets H
    refine zRcp rfl rfl rfl (by decide) (by decide) (by decide) (by unfold zcpok; decide) (by decide) eh4 ?_
    refine zEv_k 1 (f' := (40, [some (.ref 22), some (.ref 95)], [.ref 95], zhp h4)) rfl ?_
    refine zRgr rfl rfl rfl (by decide) (b := 95 + 2) rfl ?_
    refine zEv_k 2 (f' := (45, [some (.ref 22), some (.ref 95)], [.ref 22, .int 0, .ref (95 + 2)], zhp h4)) rfl ?_
    refine zRgr rfl rfl rfl (by decide) (b := 22 + 2) rfl ?_
    refine zEv_k 2 (f' := (51, [some (.ref 22), some (.ref 95)], [.int 7, .int 0, .ref (22 + 2), .int 0, .ref (95 + 2)], zhp h4)) rfl ?_
    obtain ⟨h6, eh6, H⟩ := zlets H
    refine zRcp rfl rfl rfl (by decide) (by decide) (by decide) (by unfold zcpok; decide) (by decide) eh6 ?_
    refine zEv_k 1 (f' := (55, [some (.ref 22), some (.ref 95)], [.ref 95], zhp h6)) rfl ?_
    refine zRgr rfl rfl rfl (by decide) (b := 95 + 3) rfl ?_
    refine zEv_k 2 (f' := (60, [some (.ref 22), some (.ref 95)], [.ref 22, .int 0, .ref (95 + 3)], zhp h6)) rfl ?_
    refine zRgr rfl rfl rfl (by decide) (b := 22 + 3) rfl ?_
    refine zEv_k 2 (f' := (66, [some (.ref 22), some (.ref 95)], [.int 7, .int 0, .ref (22 + 3), .int 0, .ref (95 + 3)], zhp h6)) rfl ?_
    obtain ⟨h8, eh8, H⟩ := zlets H
    refine zRcp rfl rfl rfl (by decide) (by decide) (by decide) (by unfold zcpok; decide) (by decide) eh8 ?_
    refine zEv_k 1 (f' := (70, [some (.ref 22), some (.ref 95)], [.ref 95], zhp h8)) rfl ?_
    refine zRgr rfl rfl rfl (by decide) (b := 95 + 4) rfl ?_
    refine zEv_k 2 (f' := (75, [some (.ref 22), some (.ref 95)], [.ref 22, .int 0, .ref (95 + 4)], zhp h8)) rfl ?_
    refine zRgr rfl rfl rfl (by decide) (b := 22 + 4) rfl ?_
    refine zEv_k 2 (f' := (81, [some (.ref 22), some (.ref 95)], [.int 7, .int 0, .ref (22 + 4), .int 0, .ref (95 + 4)], zhp h8)) rfl ?_
    obtain ⟨h10, eh10, H⟩ := zlets H
    refine zRcp rfl rfl rfl (by decide) (by decide) (by decide) (by unfold zcpok; decide) (by decide) eh10 ?_
    refine zEv_k 1 (f' := (85, [some (.ref 22), some (.ref 95)], [.ref 95], zhp h10)) rfl ?_
    refine zRgr rfl rfl rfl (by decide) (b := 95 + 5) rfl ?_
    refine zEv_k 2 (f' := (90, [some (.ref 22), some (.ref 95)], [.ref 22, .int 0, .ref (95 + 5)], zhp h10)) rfl ?_
    refine zRgr rfl rfl rfl (by decide) (b := 22 + 5) rfl ?_
    refine zEv_k 2 (f' := (96, [some (.ref 22), some (.ref 95)], [.int 7, .int 0, .ref (22 + 5), .int 0, .ref (95 + 5)], zhp h10)) rfl ?_
    obtain ⟨h12, eh12, H⟩ := zlets H
    refine zRcp rfl rfl rfl (by decide) (by decide) (by decide) (by unfold zcpok; decide) (by decide) eh12 ?_
    refine zEv_k 1 (f' := (100, [some (.ref 22), some (.ref 95)], [.ref 95], zhp h12)) rfl ?_
    refine zRgr rfl rfl rfl (by decide) (b := 95 + 6) rfl ?_
    refine zEv_k 2 (f' := (105, [some (.ref 22), some (.ref 95)], [.ref 22, .int 0, .ref (95 + 6)], zhp h12)) rfl ?_
    refine zRgr rfl rfl rfl (by decide) (b := 22 + 6) rfl ?_
    refine zEv_k 2 (f' := (111, [some (.ref 22), some (.ref 95)], [.int 7, .int 0, .ref (22 + 6), .int 0, .ref (95 + 6)], zhp h12)) rfl ?_
    obtain ⟨h14, eh14, H⟩ := zlets H
    refine zRcp rfl rfl rfl (by decide) (by decide) (by decide) (by unfold zcpok; decide) (by decide) eh14 ?_
    refine zEv_k 1 (f' := (115, [some (.ref 22), some (.ref 95)], [.ref 95], zhp h14)) rfl ?_
    refine zRgr rfl rfl rfl (by decide) (b := 95 + 7) rfl ?_
    refine zEv_k 2 (f' := (120, [some (.ref 22), some (.ref 95)], [.ref 22, .int 0, .ref (95 + 7)], zhp h14)) rfl ?_
    refine zRgr rfl rfl rfl (by decide) (b := 22 + 7) rfl ?_
    refine zEv_k 2 (f' := (126, [some (.ref 22), some (.ref 95)], [.int 7, .int 0, .ref (22 + 7), .int 0, .ref (95 + 7)], zhp h14)) rfl ?_
    obtain ⟨h16, eh16, H⟩ := zlets H
    refine zRcp rfl rfl rfl (by decide) (by decide) (by decide) (by unfold zcpok; decide) (by decide) eh16 ?_
    cases H
    exact zEv_r rfl
  · obtain ⟨h1, eh1, H⟩ := zlets H
    refine zEv_w (F := fun z => (8, [some (.ref 7), some (.ref 116)], [], zhp z)) (h0 := sI h 7 0 (gI h 116 0)) 4 rfl eh1 ?_
    obtain ⟨h2, eh2, H⟩ := zlets H
    refine zEv_w (F := fun z => (16, [some (.ref 7), some (.ref 116)], [], zhp z)) (h0 := sI h1 7 1 (gI h1 116 1)) 4 rfl eh2 ?_
    obtain ⟨h3, eh3, H⟩ := zlets H
    refine zEv_w (F := fun z => (24, [some (.ref 7), some (.ref 116)], [], zhp z)) (h0 := sI h2 7 2 (gI h2 116 2)) 4 rfl eh3 ?_
    refine zEv_k 1 (f' := (25, [some (.ref 7), some (.ref 116)], [.ref 116], zhp h3)) rfl ?_
    refine zRgr rfl rfl rfl (by decide) (b := 116 + 1) rfl ?_
    refine zEv_k 2 (f' := (30, [some (.ref 7), some (.ref 116)], [.ref 7, .int 0, .ref (116 + 1)], zhp h3)) rfl ?_
    refine zRgr rfl rfl rfl (by decide) (b := 7 + 1) rfl ?_
    refine zEv_k 2 (f' := (36, [some (.ref 7), some (.ref 116)], [.int 7, .int 0, .ref (7 + 1), .int 0, .ref (116 + 1)], zhp h3)) rfl ?_
    obtain ⟨h4, eh4, H⟩ := zlets H
    refine zRcp rfl rfl rfl (by decide) (by decide) (by decide) (by unfold zcpok; decide) (by decide) eh4 ?_
    refine zEv_k 1 (f' := (40, [some (.ref 7), some (.ref 116)], [.ref 116], zhp h4)) rfl ?_
    refine zRgr rfl rfl rfl (by decide) (b := 116 + 2) rfl ?_
    refine zEv_k 2 (f' := (45, [some (.ref 7), some (.ref 116)], [.ref 7, .int 0, .ref (116 + 2)], zhp h4)) rfl ?_
    refine zRgr rfl rfl rfl (by decide) (b := 7 + 2) rfl ?_
    refine zEv_k 2 (f' := (51, [some (.ref 7), some (.ref 116)], [.int 7, .int 0, .ref (7 + 2), .int 0, .ref (116 + 2)], zhp h4)) rfl ?_
    obtain ⟨h6, eh6, H⟩ := zlets H
    refine zRcp rfl rfl rfl (by decide) (by decide) (by decide) (by unfold zcpok; decide) (by decide) eh6 ?_
    refine zEv_k 1 (f' := (55, [some (.ref 7), some (.ref 116)], [.ref 116], zhp h6)) rfl ?_
    refine zRgr rfl rfl rfl (by decide) (b := 116 + 3) rfl ?_
    refine zEv_k 2 (f' := (60, [some (.ref 7), some (.ref 116)], [.ref 7, .int 0, .ref (116 + 3)], zhp h6)) rfl ?_
    refine zRgr rfl rfl rfl (by decide) (b := 7 + 3) rfl ?_
    refine zEv_k 2 (f' := (66, [some (.ref 7), some (.ref 116)], [.int 7, .int 0, .ref (7 + 3), .int 0, .ref (116 + 3)], zhp h6)) rfl ?_
    obtain ⟨h8, eh8, H⟩ := zlets H
    refine zRcp rfl rfl rfl (by decide) (by decide) (by decide) (by unfold zcpok; decide) (by decide) eh8 ?_
    refine zEv_k 1 (f' := (70, [some (.ref 7), some (.ref 116)], [.ref 116], zhp h8)) rfl ?_
    refine zRgr rfl rfl rfl (by decide) (b := 116 + 4) rfl ?_
    refine zEv_k 2 (f' := (75, [some (.ref 7), some (.ref 116)], [.ref 7, .int 0, .ref (116 + 4)], zhp h8)) rfl ?_
    refine zRgr rfl rfl rfl (by decide) (b := 7 + 4) rfl ?_
    refine zEv_k 2 (f' := (81, [some (.ref 7), some (.ref 116)], [.int 7, .int 0, .ref (7 + 4), .int 0, .ref (116 + 4)], zhp h8)) rfl ?_
    obtain ⟨h10, eh10, H⟩ := zlets H
    refine zRcp rfl rfl rfl (by decide) (by decide) (by decide) (by unfold zcpok; decide) (by decide) eh10 ?_
    refine zEv_k 1 (f' := (85, [some (.ref 7), some (.ref 116)], [.ref 116], zhp h10)) rfl ?_
    refine zRgr rfl rfl rfl (by decide) (b := 116 + 5) rfl ?_
    refine zEv_k 2 (f' := (90, [some (.ref 7), some (.ref 116)], [.ref 7, .int 0, .ref (116 + 5)], zhp h10)) rfl ?_
    refine zRgr rfl rfl rfl (by decide) (b := 7 + 5) rfl ?_
    refine zEv_k 2 (f' := (96, [some (.ref 7), some (.ref 116)], [.int 7, .int 0, .ref (7 + 5), .int 0, .ref (116 + 5)], zhp h10)) rfl ?_
    obtain ⟨h12, eh12, H⟩ := zlets H
    refine zRcp rfl rfl rfl (by decide) (by decide) (by decide) (by unfold zcpok; decide) (by decide) eh12 ?_
    refine zEv_k 1 (f' := (100, [some (.ref 7), some (.ref 116)], [.ref 116], zhp h12)) rfl ?_
    refine zRgr rfl rfl rfl (by decide) (b := 116 + 6) rfl ?_
    refine zEv_k 2 (f' := (105, [some (.ref 7), some (.ref 116)], [.ref 7, .int 0, .ref (116 + 6)], zhp h12)) rfl ?_
    refine zRgr rfl rfl rfl (by decide) (b := 7 + 6) rfl ?_
    refine zEv_k 2 (f' := (111, [some (.ref 7), some (.ref 116)], [.int 7, .int 0, .ref (7 + 6), .int 0, .ref (116 + 6)], zhp h12)) rfl ?_
    obtain ⟨h14, eh14, H⟩ := zlets H
    refine zRcp rfl rfl rfl (by decide) (by decide) (by decide) (by unfold zcpok; decide) (by decide) eh14 ?_
    refine zEv_k 1 (f' := (115, [some (.ref 7), some (.ref 116)], [.ref 116], zhp h14)) rfl ?_
    refine zRgr rfl rfl rfl (by decide) (b := 116 + 7) rfl ?_
    refine zEv_k 2 (f' := (120, [some (.ref 7), some (.ref 116)], [.ref 7, .int 0, .ref (116 + 7)], zhp h14)) rfl ?_
    refine zRgr rfl rfl rfl (by decide) (b := 7 + 7) rfl ?_
    refine zEv_k 2 (f' := (126, [some (.ref 7), some (.ref 116)], [.int 7, .int 0, .ref (7 + 7), .int 0, .ref (116 + 7)], zhp h14)) rfl ?_
    obtain ⟨h16, eh16, H⟩ := zlets H
    refine zRcp rfl rfl rfl (by decide) (by decide) (by decide) (by unfold zcpok; decide) (by decide) eh16 ?_
    cases H
    exact zEv_r rfl
  · obtain ⟨h1, eh1, H⟩ := zlets H
    refine zEv_w (F := fun z => (8, [some (.ref 22), some (.ref 131)], [], zhp z)) (h0 := sI h 22 0 (gI h 131 0)) 4 rfl eh1 ?_
    obtain ⟨h2, eh2, H⟩ := zlets H
    refine zEv_w (F := fun z => (16, [some (.ref 22), some (.ref 131)], [], zhp z)) (h0 := sI h1 22 1 (gI h1 131 1)) 4 rfl eh2 ?_
    obtain ⟨h3, eh3, H⟩ := zlets H
    refine zEv_w (F := fun z => (24, [some (.ref 22), some (.ref 131)], [], zhp z)) (h0 := sI h2 22 2 (gI h2 131 2)) 4 rfl eh3 ?_
    refine zEv_k 1 (f' := (25, [some (.ref 22), some (.ref 131)], [.ref 131], zhp h3)) rfl ?_
    refine zRgr rfl rfl rfl (by decide) (b := 131 + 1) rfl ?_
    refine zEv_k 2 (f' := (30, [some (.ref 22), some (.ref 131)], [.ref 22, .int 0, .ref (131 + 1)], zhp h3)) rfl ?_
    refine zRgr rfl rfl rfl (by decide) (b := 22 + 1) rfl ?_
    refine zEv_k 2 (f' := (36, [some (.ref 22), some (.ref 131)], [.int 7, .int 0, .ref (22 + 1), .int 0, .ref (131 + 1)], zhp h3)) rfl ?_
    obtain ⟨h4, eh4, H⟩ := zlets H
    refine zRcp rfl rfl rfl (by decide) (by decide) (by decide) (by unfold zcpok; decide) (by decide) eh4 ?_
    refine zEv_k 1 (f' := (40, [some (.ref 22), some (.ref 131)], [.ref 131], zhp h4)) rfl ?_
    refine zRgr rfl rfl rfl (by decide) (b := 131 + 2) rfl ?_
    refine zEv_k 2 (f' := (45, [some (.ref 22), some (.ref 131)], [.ref 22, .int 0, .ref (131 + 2)], zhp h4)) rfl ?_
    refine zRgr rfl rfl rfl (by decide) (b := 22 + 2) rfl ?_
    refine zEv_k 2 (f' := (51, [some (.ref 22), some (.ref 131)], [.int 7, .int 0, .ref (22 + 2), .int 0, .ref (131 + 2)], zhp h4)) rfl ?_
    obtain ⟨h6, eh6, H⟩ := zlets H
    refine zRcp rfl rfl rfl (by decide) (by decide) (by decide) (by unfold zcpok; decide) (by decide) eh6 ?_
    refine zEv_k 1 (f' := (55, [some (.ref 22), some (.ref 131)], [.ref 131], zhp h6)) rfl ?_
    refine zRgr rfl rfl rfl (by decide) (b := 131 + 3) rfl ?_
    refine zEv_k 2 (f' := (60, [some (.ref 22), some (.ref 131)], [.ref 22, .int 0, .ref (131 + 3)], zhp h6)) rfl ?_
    refine zRgr rfl rfl rfl (by decide) (b := 22 + 3) rfl ?_
    refine zEv_k 2 (f' := (66, [some (.ref 22), some (.ref 131)], [.int 7, .int 0, .ref (22 + 3), .int 0, .ref (131 + 3)], zhp h6)) rfl ?_
    obtain ⟨h8, eh8, H⟩ := zlets H
    refine zRcp rfl rfl rfl (by decide) (by decide) (by decide) (by unfold zcpok; decide) (by decide) eh8 ?_
    refine zEv_k 1 (f' := (70, [some (.ref 22), some (.ref 131)], [.ref 131], zhp h8)) rfl ?_
    refine zRgr rfl rfl rfl (by decide) (b := 131 + 4) rfl ?_
    refine zEv_k 2 (f' := (75, [some (.ref 22), some (.ref 131)], [.ref 22, .int 0, .ref (131 + 4)], zhp h8)) rfl ?_
    refine zRgr rfl rfl rfl (by decide) (b := 22 + 4) rfl ?_
    refine zEv_k 2 (f' := (81, [some (.ref 22), some (.ref 131)], [.int 7, .int 0, .ref (22 + 4), .int 0, .ref (131 + 4)], zhp h8)) rfl ?_
    obtain ⟨h10, eh10, H⟩ := zlets H
    refine zRcp rfl rfl rfl (by decide) (by decide) (by decide) (by unfold zcpok; decide) (by decide) eh10 ?_
    refine zEv_k 1 (f' := (85, [some (.ref 22), some (.ref 131)], [.ref 131], zhp h10)) rfl ?_
    refine zRgr rfl rfl rfl (by decide) (b := 131 + 5) rfl ?_
    refine zEv_k 2 (f' := (90, [some (.ref 22), some (.ref 131)], [.ref 22, .int 0, .ref (131 + 5)], zhp h10)) rfl ?_
    refine zRgr rfl rfl rfl (by decide) (b := 22 + 5) rfl ?_
    refine zEv_k 2 (f' := (96, [some (.ref 22), some (.ref 131)], [.int 7, .int 0, .ref (22 + 5), .int 0, .ref (131 + 5)], zhp h10)) rfl ?_
    obtain ⟨h12, eh12, H⟩ := zlets H
    refine zRcp rfl rfl rfl (by decide) (by decide) (by decide) (by unfold zcpok; decide) (by decide) eh12 ?_
    refine zEv_k 1 (f' := (100, [some (.ref 22), some (.ref 131)], [.ref 131], zhp h12)) rfl ?_
    refine zRgr rfl rfl rfl (by decide) (b := 131 + 6) rfl ?_
    refine zEv_k 2 (f' := (105, [some (.ref 22), some (.ref 131)], [.ref 22, .int 0, .ref (131 + 6)], zhp h12)) rfl ?_
    refine zRgr rfl rfl rfl (by decide) (b := 22 + 6) rfl ?_
    refine zEv_k 2 (f' := (111, [some (.ref 22), some (.ref 131)], [.int 7, .int 0, .ref (22 + 6), .int 0, .ref (131 + 6)], zhp h12)) rfl ?_
    obtain ⟨h14, eh14, H⟩ := zlets H
    refine zRcp rfl rfl rfl (by decide) (by decide) (by decide) (by unfold zcpok; decide) (by decide) eh14 ?_
    refine zEv_k 1 (f' := (115, [some (.ref 22), some (.ref 131)], [.ref 131], zhp h14)) rfl ?_
    refine zRgr rfl rfl rfl (by decide) (b := 131 + 7) rfl ?_
    refine zEv_k 2 (f' := (120, [some (.ref 22), some (.ref 131)], [.ref 22, .int 0, .ref (131 + 7)], zhp h14)) rfl ?_
    refine zRgr rfl rfl rfl (by decide) (b := 22 + 7) rfl ?_
    refine zEv_k 2 (f' := (126, [some (.ref 22), some (.ref 131)], [.int 7, .int 0, .ref (22 + 7), .int 0, .ref (131 + 7)], zhp h14)) rfl ?_
    obtain ⟨h16, eh16, H⟩ := zlets H
    refine zRcp rfl rfl rfl (by decide) (by decide) (by decide) (by unfold zcpok; decide) (by decide) eh16 ?_
    cases H
    exact zEv_r rfl
  · obtain ⟨h1, eh1, H⟩ := zlets H
    refine zEv_w (F := fun z => (8, [some (.ref 44), some (.ref 7)], [], zhp z)) (h0 := sI h 44 0 (gI h 7 0)) 4 rfl eh1 ?_
    obtain ⟨h2, eh2, H⟩ := zlets H
    refine zEv_w (F := fun z => (16, [some (.ref 44), some (.ref 7)], [], zhp z)) (h0 := sI h1 44 1 (gI h1 7 1)) 4 rfl eh2 ?_
    obtain ⟨h3, eh3, H⟩ := zlets H
    refine zEv_w (F := fun z => (24, [some (.ref 44), some (.ref 7)], [], zhp z)) (h0 := sI h2 44 2 (gI h2 7 2)) 4 rfl eh3 ?_
    refine zEv_k 1 (f' := (25, [some (.ref 44), some (.ref 7)], [.ref 7], zhp h3)) rfl ?_
    refine zRgr rfl rfl rfl (by decide) (b := 7 + 1) rfl ?_
    refine zEv_k 2 (f' := (30, [some (.ref 44), some (.ref 7)], [.ref 44, .int 0, .ref (7 + 1)], zhp h3)) rfl ?_
    refine zRgr rfl rfl rfl (by decide) (b := 44 + 1) rfl ?_
    refine zEv_k 2 (f' := (36, [some (.ref 44), some (.ref 7)], [.int 7, .int 0, .ref (44 + 1), .int 0, .ref (7 + 1)], zhp h3)) rfl ?_
    obtain ⟨h4, eh4, H⟩ := zlets H
    refine zRcp rfl rfl rfl (by decide) (by decide) (by decide) (by unfold zcpok; decide) (by decide) eh4 ?_
    refine zEv_k 1 (f' := (40, [some (.ref 44), some (.ref 7)], [.ref 7], zhp h4)) rfl ?_
    refine zRgr rfl rfl rfl (by decide) (b := 7 + 2) rfl ?_
    refine zEv_k 2 (f' := (45, [some (.ref 44), some (.ref 7)], [.ref 44, .int 0, .ref (7 + 2)], zhp h4)) rfl ?_
    refine zRgr rfl rfl rfl (by decide) (b := 44 + 2) rfl ?_
    refine zEv_k 2 (f' := (51, [some (.ref 44), some (.ref 7)], [.int 7, .int 0, .ref (44 + 2), .int 0, .ref (7 + 2)], zhp h4)) rfl ?_
    obtain ⟨h6, eh6, H⟩ := zlets H
    refine zRcp rfl rfl rfl (by decide) (by decide) (by decide) (by unfold zcpok; decide) (by decide) eh6 ?_
    refine zEv_k 1 (f' := (55, [some (.ref 44), some (.ref 7)], [.ref 7], zhp h6)) rfl ?_
    refine zRgr rfl rfl rfl (by decide) (b := 7 + 3) rfl ?_
    refine zEv_k 2 (f' := (60, [some (.ref 44), some (.ref 7)], [.ref 44, .int 0, .ref (7 + 3)], zhp h6)) rfl ?_
    refine zRgr rfl rfl rfl (by decide) (b := 44 + 3) rfl ?_
    refine zEv_k 2 (f' := (66, [some (.ref 44), some (.ref 7)], [.int 7, .int 0, .ref (44 + 3), .int 0, .ref (7 + 3)], zhp h6)) rfl ?_
    obtain ⟨h8, eh8, H⟩ := zlets H
    refine zRcp rfl rfl rfl (by decide) (by decide) (by decide) (by unfold zcpok; decide) (by decide) eh8 ?_
    refine zEv_k 1 (f' := (70, [some (.ref 44), some (.ref 7)], [.ref 7], zhp h8)) rfl ?_
    refine zRgr rfl rfl rfl (by decide) (b := 7 + 4) rfl ?_
    refine zEv_k 2 (f' := (75, [some (.ref 44), some (.ref 7)], [.ref 44, .int 0, .ref (7 + 4)], zhp h8)) rfl ?_
    refine zRgr rfl rfl rfl (by decide) (b := 44 + 4) rfl ?_
    refine zEv_k 2 (f' := (81, [some (.ref 44), some (.ref 7)], [.int 7, .int 0, .ref (44 + 4), .int 0, .ref (7 + 4)], zhp h8)) rfl ?_
    obtain ⟨h10, eh10, H⟩ := zlets H
    refine zRcp rfl rfl rfl (by decide) (by decide) (by decide) (by unfold zcpok; decide) (by decide) eh10 ?_
    refine zEv_k 1 (f' := (85, [some (.ref 44), some (.ref 7)], [.ref 7], zhp h10)) rfl ?_
    refine zRgr rfl rfl rfl (by decide) (b := 7 + 5) rfl ?_
    refine zEv_k 2 (f' := (90, [some (.ref 44), some (.ref 7)], [.ref 44, .int 0, .ref (7 + 5)], zhp h10)) rfl ?_
    refine zRgr rfl rfl rfl (by decide) (b := 44 + 5) rfl ?_
    refine zEv_k 2 (f' := (96, [some (.ref 44), some (.ref 7)], [.int 7, .int 0, .ref (44 + 5), .int 0, .ref (7 + 5)], zhp h10)) rfl ?_
    obtain ⟨h12, eh12, H⟩ := zlets H
    refine zRcp rfl rfl rfl (by decide) (by decide) (by decide) (by unfold zcpok; decide) (by decide) eh12 ?_
    refine zEv_k 1 (f' := (100, [some (.ref 44), some (.ref 7)], [.ref 7], zhp h12)) rfl ?_
    refine zRgr rfl rfl rfl (by decide) (b := 7 + 6) rfl ?_
    refine zEv_k 2 (f' := (105, [some (.ref 44), some (.ref 7)], [.ref 44, .int 0, .ref (7 + 6)], zhp h12)) rfl ?_
    refine zRgr rfl rfl rfl (by decide) (b := 44 + 6) rfl ?_
    refine zEv_k 2 (f' := (111, [some (.ref 44), some (.ref 7)], [.int 7, .int 0, .ref (44 + 6), .int 0, .ref (7 + 6)], zhp h12)) rfl ?_
    obtain ⟨h14, eh14, H⟩ := zlets H
    refine zRcp rfl rfl rfl (by decide) (by decide) (by decide) (by unfold zcpok; decide) (by decide) eh14 ?_
    refine zEv_k 1 (f' := (115, [some (.ref 44), some (.ref 7)], [.ref 7], zhp h14)) rfl ?_
    refine zRgr rfl rfl rfl (by decide) (b := 7 + 7) rfl ?_
    refine zEv_k 2 (f' := (120, [some (.ref 44), some (.ref 7)], [.ref 44, .int 0, .ref (7 + 7)], zhp h14)) rfl ?_
    refine zRgr rfl rfl rfl (by decide) (b := 44 + 7) rfl ?_
    refine zEv_k 2 (f' := (126, [some (.ref 44), some (.ref 7)], [.int 7, .int 0, .ref (44 + 7), .int 0, .ref (7 + 7)], zhp h14)) rfl ?_
    obtain ⟨h16, eh16, H⟩ := zlets H
    refine zRcp rfl rfl rfl (by decide) (by decide) (by decide) (by unfold zcpok; decide) (by decide) eh16 ?_
    cases H
    exact zEv_r rfl
  · obtain ⟨h1, eh1, H⟩ := zlets H
    refine zEv_w (F := fun z => (8, [some (.ref 59), some (.ref 22)], [], zhp z)) (h0 := sI h 59 0 (gI h 22 0)) 4 rfl eh1 ?_
    obtain ⟨h2, eh2, H⟩ := zlets H
    refine zEv_w (F := fun z => (16, [some (.ref 59), some (.ref 22)], [], zhp z)) (h0 := sI h1 59 1 (gI h1 22 1)) 4 rfl eh2 ?_
    obtain ⟨h3, eh3, H⟩ := zlets H
    refine zEv_w (F := fun z => (24, [some (.ref 59), some (.ref 22)], [], zhp z)) (h0 := sI h2 59 2 (gI h2 22 2)) 4 rfl eh3 ?_
    refine zEv_k 1 (f' := (25, [some (.ref 59), some (.ref 22)], [.ref 22], zhp h3)) rfl ?_
    refine zRgr rfl rfl rfl (by decide) (b := 22 + 1) rfl ?_
    refine zEv_k 2 (f' := (30, [some (.ref 59), some (.ref 22)], [.ref 59, .int 0, .ref (22 + 1)], zhp h3)) rfl ?_
    refine zRgr rfl rfl rfl (by decide) (b := 59 + 1) rfl ?_
    refine zEv_k 2 (f' := (36, [some (.ref 59), some (.ref 22)], [.int 7, .int 0, .ref (59 + 1), .int 0, .ref (22 + 1)], zhp h3)) rfl ?_
    obtain ⟨h4, eh4, H⟩ := zlets H
    refine zRcp rfl rfl rfl (by decide) (by decide) (by decide) (by unfold zcpok; decide) (by decide) eh4 ?_
    refine zEv_k 1 (f' := (40, [some (.ref 59), some (.ref 22)], [.ref 22], zhp h4)) rfl ?_
    refine zRgr rfl rfl rfl (by decide) (b := 22 + 2) rfl ?_
    refine zEv_k 2 (f' := (45, [some (.ref 59), some (.ref 22)], [.ref 59, .int 0, .ref (22 + 2)], zhp h4)) rfl ?_
    refine zRgr rfl rfl rfl (by decide) (b := 59 + 2) rfl ?_
    refine zEv_k 2 (f' := (51, [some (.ref 59), some (.ref 22)], [.int 7, .int 0, .ref (59 + 2), .int 0, .ref (22 + 2)], zhp h4)) rfl ?_
    obtain ⟨h6, eh6, H⟩ := zlets H
    refine zRcp rfl rfl rfl (by decide) (by decide) (by decide) (by unfold zcpok; decide) (by decide) eh6 ?_
    refine zEv_k 1 (f' := (55, [some (.ref 59), some (.ref 22)], [.ref 22], zhp h6)) rfl ?_
    refine zRgr rfl rfl rfl (by decide) (b := 22 + 3) rfl ?_
    refine zEv_k 2 (f' := (60, [some (.ref 59), some (.ref 22)], [.ref 59, .int 0, .ref (22 + 3)], zhp h6)) rfl ?_
    refine zRgr rfl rfl rfl (by decide) (b := 59 + 3) rfl ?_
    refine zEv_k 2 (f' := (66, [some (.ref 59), some (.ref 22)], [.int 7, .int 0, .ref (59 + 3), .int 0, .ref (22 + 3)], zhp h6)) rfl ?_
    obtain ⟨h8, eh8, H⟩ := zlets H
    refine zRcp rfl rfl rfl (by decide) (by decide) (by decide) (by unfold zcpok; decide) (by decide) eh8 ?_
    refine zEv_k 1 (f' := (70, [some (.ref 59), some (.ref 22)], [.ref 22], zhp h8)) rfl ?_
    refine zRgr rfl rfl rfl (by decide) (b := 22 + 4) rfl ?_
    refine zEv_k 2 (f' := (75, [some (.ref 59), some (.ref 22)], [.ref 59, .int 0, .ref (22 + 4)], zhp h8)) rfl ?_
    refine zRgr rfl rfl rfl (by decide) (b := 59 + 4) rfl ?_
    refine zEv_k 2 (f' := (81, [some (.ref 59), some (.ref 22)], [.int 7, .int 0, .ref (59 + 4), .int 0, .ref (22 + 4)], zhp h8)) rfl ?_
    obtain ⟨h10, eh10, H⟩ := zlets H
    refine zRcp rfl rfl rfl (by decide) (by decide) (by decide) (by unfold zcpok; decide) (by decide) eh10 ?_
    refine zEv_k 1 (f' := (85, [some (.ref 59), some (.ref 22)], [.ref 22], zhp h10)) rfl ?_
    refine zRgr rfl rfl rfl (by decide) (b := 22 + 5) rfl ?_
    refine zEv_k 2 (f' := (90, [some (.ref 59), some (.ref 22)], [.ref 59, .int 0, .ref (22 + 5)], zhp h10)) rfl ?_
    refine zRgr rfl rfl rfl (by decide) (b := 59 + 5) rfl ?_
    refine zEv_k 2 (f' := (96, [some (.ref 59), some (.ref 22)], [.int 7, .int 0, .ref (59 + 5), .int 0, .ref (22 + 5)], zhp h10)) rfl ?_
    obtain ⟨h12, eh12, H⟩ := zlets H
    refine zRcp rfl rfl rfl (by decide) (by decide) (by decide) (by unfold zcpok; decide) (by decide) eh12 ?_
    refine zEv_k 1 (f' := (100, [some (.ref 59), some (.ref 22)], [.ref 22], zhp h12)) rfl ?_
    refine zRgr rfl rfl rfl (by decide) (b := 22 + 6) rfl ?_
    refine zEv_k 2 (f' := (105, [some (.ref 59), some (.ref 22)], [.ref 59, .int 0, .ref (22 + 6)], zhp h12)) rfl ?_
    refine zRgr rfl rfl rfl (by decide) (b := 59 + 6) rfl ?_
    refine zEv_k 2 (f' := (111, [some (.ref 59), some (.ref 22)], [.int 7, .int 0, .ref (59 + 6), .int 0, .ref (22 + 6)], zhp h12)) rfl ?_
    obtain ⟨h14, eh14, H⟩ := zlets H
    refine zRcp rfl rfl rfl (by decide) (by decide) (by decide) (by unfold zcpok; decide) (by decide) eh14 ?_
    refine zEv_k 1 (f' := (115, [some (.ref 59), some (.ref 22)], [.ref 22], zhp h14)) rfl ?_
    refine zRgr rfl rfl rfl (by decide) (b := 22 + 7) rfl ?_
    refine zEv_k 2 (f' := (120, [some (.ref 59), some (.ref 22)], [.ref 59, .int 0, .ref (22 + 7)], zhp h14)) rfl ?_
    refine zRgr rfl rfl rfl (by decide) (b := 59 + 7) rfl ?_
    refine zEv_k 2 (f' := (126, [some (.ref 59), some (.ref 22)], [.int 7, .int 0, .ref (59 + 7), .int 0, .ref (22 + 7)], zhp h14)) rfl ?_
    obtain ⟨h16, eh16, H⟩ := zlets H
    refine zRcp rfl rfl rfl (by decide) (by decide) (by decide) (by unfold zcpok; decide) (by decide) eh16 ?_
    cases H
    exact zEv_r rfl
  · obtain ⟨h1, eh1, H⟩ := zlets H
    refine zEv_w (F := fun z => (8, [some (.ref 80), some (.ref 7)], [], zhp z)) (h0 := sI h 80 0 (gI h 7 0)) 4 rfl eh1 ?_
    obtain ⟨h2, eh2, H⟩ := zlets H
    refine zEv_w (F := fun z => (16, [some (.ref 80), some (.ref 7)], [], zhp z)) (h0 := sI h1 80 1 (gI h1 7 1)) 4 rfl eh2 ?_
    obtain ⟨h3, eh3, H⟩ := zlets H
    refine zEv_w (F := fun z => (24, [some (.ref 80), some (.ref 7)], [], zhp z)) (h0 := sI h2 80 2 (gI h2 7 2)) 4 rfl eh3 ?_
    refine zEv_k 1 (f' := (25, [some (.ref 80), some (.ref 7)], [.ref 7], zhp h3)) rfl ?_
    refine zRgr rfl rfl rfl (by decide) (b := 7 + 1) rfl ?_
    refine zEv_k 2 (f' := (30, [some (.ref 80), some (.ref 7)], [.ref 80, .int 0, .ref (7 + 1)], zhp h3)) rfl ?_
    refine zRgr rfl rfl rfl (by decide) (b := 80 + 1) rfl ?_
    refine zEv_k 2 (f' := (36, [some (.ref 80), some (.ref 7)], [.int 7, .int 0, .ref (80 + 1), .int 0, .ref (7 + 1)], zhp h3)) rfl ?_
    obtain ⟨h4, eh4, H⟩ := zlets H
    refine zRcp rfl rfl rfl (by decide) (by decide) (by decide) (by unfold zcpok; decide) (by decide) eh4 ?_
    refine zEv_k 1 (f' := (40, [some (.ref 80), some (.ref 7)], [.ref 7], zhp h4)) rfl ?_
    refine zRgr rfl rfl rfl (by decide) (b := 7 + 2) rfl ?_
    refine zEv_k 2 (f' := (45, [some (.ref 80), some (.ref 7)], [.ref 80, .int 0, .ref (7 + 2)], zhp h4)) rfl ?_
    refine zRgr rfl rfl rfl (by decide) (b := 80 + 2) rfl ?_
    refine zEv_k 2 (f' := (51, [some (.ref 80), some (.ref 7)], [.int 7, .int 0, .ref (80 + 2), .int 0, .ref (7 + 2)], zhp h4)) rfl ?_
    obtain ⟨h6, eh6, H⟩ := zlets H
    refine zRcp rfl rfl rfl (by decide) (by decide) (by decide) (by unfold zcpok; decide) (by decide) eh6 ?_
    refine zEv_k 1 (f' := (55, [some (.ref 80), some (.ref 7)], [.ref 7], zhp h6)) rfl ?_
    refine zRgr rfl rfl rfl (by decide) (b := 7 + 3) rfl ?_
    refine zEv_k 2 (f' := (60, [some (.ref 80), some (.ref 7)], [.ref 80, .int 0, .ref (7 + 3)], zhp h6)) rfl ?_
    refine zRgr rfl rfl rfl (by decide) (b := 80 + 3) rfl ?_
    refine zEv_k 2 (f' := (66, [some (.ref 80), some (.ref 7)], [.int 7, .int 0, .ref (80 + 3), .int 0, .ref (7 + 3)], zhp h6)) rfl ?_
    obtain ⟨h8, eh8, H⟩ := zlets H
    refine zRcp rfl rfl rfl (by decide) (by decide) (by decide) (by unfold zcpok; decide) (by decide) eh8 ?_
    refine zEv_k 1 (f' := (70, [some (.ref 80), some (.ref 7)], [.ref 7], zhp h8)) rfl ?_
    refine zRgr rfl rfl rfl (by decide) (b := 7 + 4) rfl ?_
    refine zEv_k 2 (f' := (75, [some (.ref 80), some (.ref 7)], [.ref 80, .int 0, .ref (7 + 4)], zhp h8)) rfl ?_
    refine zRgr rfl rfl rfl (by decide) (b := 80 + 4) rfl ?_
    refine zEv_k 2 (f' := (81, [some (.ref 80), some (.ref 7)], [.int 7, .int 0, .ref (80 + 4), .int 0, .ref (7 + 4)], zhp h8)) rfl ?_
    obtain ⟨h10, eh10, H⟩ := zlets H
    refine zRcp rfl rfl rfl (by decide) (by decide) (by decide) (by unfold zcpok; decide) (by decide) eh10 ?_
    refine zEv_k 1 (f' := (85, [some (.ref 80), some (.ref 7)], [.ref 7], zhp h10)) rfl ?_
    refine zRgr rfl rfl rfl (by decide) (b := 7 + 5) rfl ?_
    refine zEv_k 2 (f' := (90, [some (.ref 80), some (.ref 7)], [.ref 80, .int 0, .ref (7 + 5)], zhp h10)) rfl ?_
    refine zRgr rfl rfl rfl (by decide) (b := 80 + 5) rfl ?_
    refine zEv_k 2 (f' := (96, [some (.ref 80), some (.ref 7)], [.int 7, .int 0, .ref (80 + 5), .int 0, .ref (7 + 5)], zhp h10)) rfl ?_
    obtain ⟨h12, eh12, H⟩ := zlets H
    refine zRcp rfl rfl rfl (by decide) (by decide) (by decide) (by unfold zcpok; decide) (by decide) eh12 ?_
    refine zEv_k 1 (f' := (100, [some (.ref 80), some (.ref 7)], [.ref 7], zhp h12)) rfl ?_
    refine zRgr rfl rfl rfl (by decide) (b := 7 + 6) rfl ?_
    refine zEv_k 2 (f' := (105, [some (.ref 80), some (.ref 7)], [.ref 80, .int 0, .ref (7 + 6)], zhp h12)) rfl ?_
    refine zRgr rfl rfl rfl (by decide) (b := 80 + 6) rfl ?_
    refine zEv_k 2 (f' := (111, [some (.ref 80), some (.ref 7)], [.int 7, .int 0, .ref (80 + 6), .int 0, .ref (7 + 6)], zhp h12)) rfl ?_
    obtain ⟨h14, eh14, H⟩ := zlets H
    refine zRcp rfl rfl rfl (by decide) (by decide) (by decide) (by unfold zcpok; decide) (by decide) eh14 ?_
    refine zEv_k 1 (f' := (115, [some (.ref 80), some (.ref 7)], [.ref 7], zhp h14)) rfl ?_
    refine zRgr rfl rfl rfl (by decide) (b := 7 + 7) rfl ?_
    refine zEv_k 2 (f' := (120, [some (.ref 80), some (.ref 7)], [.ref 80, .int 0, .ref (7 + 7)], zhp h14)) rfl ?_
    refine zRgr rfl rfl rfl (by decide) (b := 80 + 7) rfl ?_
    refine zEv_k 2 (f' := (126, [some (.ref 80), some (.ref 7)], [.int 7, .int 0, .ref (80 + 7), .int 0, .ref (7 + 7)], zhp h14)) rfl ?_
    obtain ⟨h16, eh16, H⟩ := zlets H
    refine zRcp rfl rfl rfl (by decide) (by decide) (by decide) (by unfold zcpok; decide) (by decide) eh16 ?_
    cases H
    exact zEv_r rfl
  · obtain ⟨h1, eh1, H⟩ := zlets H
    refine zEv_w (F := fun z => (8, [some (.ref 95), some (.ref 22)], [], zhp z)) (h0 := sI h 95 0 (gI h 22 0)) 4 rfl eh1 ?_
    obtain ⟨h2, eh2, H⟩ := zlets H
    refine zEv_w (F := fun z => (16, [some (.ref 95), some (.ref 22)], [], zhp z)) (h0 := sI h1 95 1 (gI h1 22 1)) 4 rfl eh2 ?_
    obtain ⟨h3, eh3, H⟩ := zlets H
    refine zEv_w (F := fun z => (24, [some (.ref 95), some (.ref 22)], [], zhp z)) (h0 := sI h2 95 2 (gI h2 22 2)) 4 rfl eh3 ?_
    refine zEv_k 1 (f' := (25, [some (.ref 95), some (.ref 22)], [.ref 22], zhp h3)) rfl ?_
    refine zRgr rfl rfl rfl (by decide) (b := 22 + 1) rfl ?_
    refine zEv_k 2 (f' := (30, [some (.ref 95), some (.ref 22)], [.ref 95, .int 0, .ref (22 + 1)], zhp h3)) rfl ?_
    refine zRgr rfl rfl rfl (by decide) (b := 95 + 1) rfl ?_
    refine zEv_k 2 (f' := (36, [some (.ref 95), some (.ref 22)], [.int 7, .int 0, .ref (95 + 1), .int 0, .ref (22 + 1)], zhp h3)) rfl ?_
    obtain ⟨h4, eh4, H⟩ := zlets H
    refine zRcp rfl rfl rfl (by decide) (by decide) (by decide) (by unfold zcpok; decide) (by decide) eh4 ?_
    refine zEv_k 1 (f' := (40, [some (.ref 95), some (.ref 22)], [.ref 22], zhp h4)) rfl ?_
    refine zRgr rfl rfl rfl (by decide) (b := 22 + 2) rfl ?_
    refine zEv_k 2 (f' := (45, [some (.ref 95), some (.ref 22)], [.ref 95, .int 0, .ref (22 + 2)], zhp h4)) rfl ?_
    refine zRgr rfl rfl rfl (by decide) (b := 95 + 2) rfl ?_
    refine zEv_k 2 (f' := (51, [some (.ref 95), some (.ref 22)], [.int 7, .int 0, .ref (95 + 2), .int 0, .ref (22 + 2)], zhp h4)) rfl ?_
    obtain ⟨h6, eh6, H⟩ := zlets H
    refine zRcp rfl rfl rfl (by decide) (by decide) (by decide) (by unfold zcpok; decide) (by decide) eh6 ?_
    refine zEv_k 1 (f' := (55, [some (.ref 95), some (.ref 22)], [.ref 22], zhp h6)) rfl ?_
    refine zRgr rfl rfl rfl (by decide) (b := 22 + 3) rfl ?_
    refine zEv_k 2 (f' := (60, [some (.ref 95), some (.ref 22)], [.ref 95, .int 0, .ref (22 + 3)], zhp h6)) rfl ?_
    refine zRgr rfl rfl rfl (by decide) (b := 95 + 3) rfl ?_
    refine zEv_k 2 (f' := (66, [some (.ref 95), some (.ref 22)], [.int 7, .int 0, .ref (95 + 3), .int 0, .ref (22 + 3)], zhp h6)) rfl ?_
    obtain ⟨h8, eh8, H⟩ := zlets H
    refine zRcp rfl rfl rfl (by decide) (by decide) (by decide) (by unfold zcpok; decide) (by decide) eh8 ?_
    refine zEv_k 1 (f' := (70, [some (.ref 95), some (.ref 22)], [.ref 22], zhp h8)) rfl ?_
    refine zRgr rfl rfl rfl (by decide) (b := 22 + 4) rfl ?_
    refine zEv_k 2 (f' := (75, [some (.ref 95), some (.ref 22)], [.ref 95, .int 0, .ref (22 + 4)], zhp h8)) rfl ?_
    refine zRgr rfl rfl rfl (by decide) (b := 95 + 4) rfl ?_
    refine zEv_k 2 (f' := (81, [some (.ref 95), some (.ref 22)], [.int 7, .int 0, .ref (95 + 4), .int 0, .ref (22 + 4)], zhp h8)) rfl ?_
    obtain ⟨h10, eh10, H⟩ := zlets H
    refine zRcp rfl rfl rfl (by decide) (by decide) (by decide) (by unfold zcpok; decide) (by decide) eh10 ?_
    refine zEv_k 1 (f' := (85, [some (.ref 95), some (.ref 22)], [.ref 22], zhp h10)) rfl ?_
    refine zRgr rfl rfl rfl (by decide) (b := 22 + 5) rfl ?_
    refine zEv_k 2 (f' := (90, [some (.ref 95), some (.ref 22)], [.ref 95, .int 0, .ref (22 + 5)], zhp h10)) rfl ?_
    refine zRgr rfl rfl rfl (by decide) (b := 95 + 5) rfl ?_
    refine zEv_k 2 (f' := (96, [some (.ref 95), some (.ref 22)], [.int 7, .int 0, .ref (95 + 5), .int 0, .ref (22 + 5)], zhp h10)) rfl ?_
    obtain ⟨h12, eh12, H⟩ := zlets H
    refine zRcp rfl rfl rfl (by decide) (by decide) (by decide) (by unfold zcpok; decide) (by decide) eh12 ?_
    refine zEv_k 1 (f' := (100, [some (.ref 95), some (.ref 22)], [.ref 22], zhp h12)) rfl ?_
    refine zRgr rfl rfl rfl (by decide) (b := 22 + 6) rfl ?_
    refine zEv_k 2 (f' := (105, [some (.ref 95), some (.ref 22)], [.ref 95, .int 0, .ref (22 + 6)], zhp h12)) rfl ?_
    refine zRgr rfl rfl rfl (by decide) (b := 95 + 6) rfl ?_
    refine zEv_k 2 (f' := (111, [some (.ref 95), some (.ref 22)], [.int 7, .int 0, .ref (95 + 6), .int 0, .ref (22 + 6)], zhp h12)) rfl ?_
    obtain ⟨h14, eh14, H⟩ := zlets H
    refine zRcp rfl rfl rfl (by decide) (by decide) (by decide) (by unfold zcpok; decide) (by decide) eh14 ?_
    refine zEv_k 1 (f' := (115, [some (.ref 95), some (.ref 22)], [.ref 22], zhp h14)) rfl ?_
    refine zRgr rfl rfl rfl (by decide) (b := 22 + 7) rfl ?_
    refine zEv_k 2 (f' := (120, [some (.ref 95), some (.ref 22)], [.ref 95, .int 0, .ref (22 + 7)], zhp h14)) rfl ?_
    refine zRgr rfl rfl rfl (by decide) (b := 95 + 7) rfl ?_
    refine zEv_k 2 (f' := (126, [some (.ref 95), some (.ref 22)], [.int 7, .int 0, .ref (95 + 7), .int 0, .ref (22 + 7)], zhp h14)) rfl ?_
    obtain ⟨h16, eh16, H⟩ := zlets H
    refine zRcp rfl rfl rfl (by decide) (by decide) (by decide) (by unfold zcpok; decide) (by decide) eh16 ?_
    cases H
    exact zEv_r rfl
  · obtain ⟨h1, eh1, H⟩ := zlets H
    refine zEv_w (F := fun z => (8, [some (.ref 116), some (.ref 7)], [], zhp z)) (h0 := sI h 116 0 (gI h 7 0)) 4 rfl eh1 ?_
    obtain ⟨h2, eh2, H⟩ := zlets H
    refine zEv_w (F := fun z => (16, [some (.ref 116), some (.ref 7)], [], zhp z)) (h0 := sI h1 116 1 (gI h1 7 1)) 4 rfl eh2 ?_
    obtain ⟨h3, eh3, H⟩ := zlets H
    refine zEv_w (F := fun z => (24, [some (.ref 116), some (.ref 7)], [], zhp z)) (h0 := sI h2 116 2 (gI h2 7 2)) 4 rfl eh3 ?_
    refine zEv_k 1 (f' := (25, [some (.ref 116), some (.ref 7)], [.ref 7], zhp h3)) rfl ?_
    refine zRgr rfl rfl rfl (by decide) (b := 7 + 1) rfl ?_
    refine zEv_k 2 (f' := (30, [some (.ref 116), some (.ref 7)], [.ref 116, .int 0, .ref (7 + 1)], zhp h3)) rfl ?_
    refine zRgr rfl rfl rfl (by decide) (b := 116 + 1) rfl ?_
    refine zEv_k 2 (f' := (36, [some (.ref 116), some (.ref 7)], [.int 7, .int 0, .ref (116 + 1), .int 0, .ref (7 + 1)], zhp h3)) rfl ?_
    obtain ⟨h4, eh4, H⟩ := zlets H
    refine zRcp rfl rfl rfl (by decide) (by decide) (by decide) (by unfold zcpok; decide) (by decide) eh4 ?_
    refine zEv_k 1 (f' := (40, [some (.ref 116), some (.ref 7)], [.ref 7], zhp h4)) rfl ?_
    refine zRgr rfl rfl rfl (by decide) (b := 7 + 2) rfl ?_
    refine zEv_k 2 (f' := (45, [some (.ref 116), some (.ref 7)], [.ref 116, .int 0, .ref (7 + 2)], zhp h4)) rfl ?_
    refine zRgr rfl rfl rfl (by decide) (b := 116 + 2) rfl ?_
    refine zEv_k 2 (f' := (51, [some (.ref 116), some (.ref 7)], [.int 7, .int 0, .ref (116 + 2), .int 0, .ref (7 + 2)], zhp h4)) rfl ?_
    obtain ⟨h6, eh6, H⟩ := zlets H
    refine zRcp rfl rfl rfl (by decide) (by decide) (by decide) (by unfold zcpok; decide) (by decide) eh6 ?_
    refine zEv_k 1 (f' := (55, [some (.ref 116), some (.ref 7)], [.ref 7], zhp h6)) rfl ?_
    refine zRgr rfl rfl rfl (by decide) (b := 7 + 3) rfl ?_
    refine zEv_k 2 (f' := (60, [some (.ref 116), some (.ref 7)], [.ref 116, .int 0, .ref (7 + 3)], zhp h6)) rfl ?_
    refine zRgr rfl rfl rfl (by decide) (b := 116 + 3) rfl ?_
    refine zEv_k 2 (f' := (66, [some (.ref 116), some (.ref 7)], [.int 7, .int 0, .ref (116 + 3), .int 0, .ref (7 + 3)], zhp h6)) rfl ?_
    obtain ⟨h8, eh8, H⟩ := zlets H
    refine zRcp rfl rfl rfl (by decide) (by decide) (by decide) (by unfold zcpok; decide) (by decide) eh8 ?_
    refine zEv_k 1 (f' := (70, [some (.ref 116), some (.ref 7)], [.ref 7], zhp h8)) rfl ?_
    refine zRgr rfl rfl rfl (by decide) (b := 7 + 4) rfl ?_
    refine zEv_k 2 (f' := (75, [some (.ref 116), some (.ref 7)], [.ref 116, .int 0, .ref (7 + 4)], zhp h8)) rfl ?_
    refine zRgr rfl rfl rfl (by decide) (b := 116 + 4) rfl ?_
    refine zEv_k 2 (f' := (81, [some (.ref 116), some (.ref 7)], [.int 7, .int 0, .ref (116 + 4), .int 0, .ref (7 + 4)], zhp h8)) rfl ?_
    obtain ⟨h10, eh10, H⟩ := zlets H
    refine zRcp rfl rfl rfl (by decide) (by decide) (by decide) (by unfold zcpok; decide) (by decide) eh10 ?_
    refine zEv_k 1 (f' := (85, [some (.ref 116), some (.ref 7)], [.ref 7], zhp h10)) rfl ?_
    refine zRgr rfl rfl rfl (by decide) (b := 7 + 5) rfl ?_
    refine zEv_k 2 (f' := (90, [some (.ref 116), some (.ref 7)], [.ref 116, .int 0, .ref (7 + 5)], zhp h10)) rfl ?_
    refine zRgr rfl rfl rfl (by decide) (b := 116 + 5) rfl ?_
    refine zEv_k 2 (f' := (96, [some (.ref 116), some (.ref 7)], [.int 7, .int 0, .ref (116 + 5), .int 0, .ref (7 + 5)], zhp h10)) rfl ?_
    obtain ⟨h12, eh12, H⟩ := zlets H
    refine zRcp rfl rfl rfl (by decide) (by decide) (by decide) (by unfold zcpok; decide) (by decide) eh12 ?_
    refine zEv_k 1 (f' := (100, [some (.ref 116), some (.ref 7)], [.ref 7], zhp h12)) rfl ?_
    refine zRgr rfl rfl rfl (by decide) (b := 7 + 6) rfl ?_
    refine zEv_k 2 (f' := (105, [some (.ref 116), some (.ref 7)], [.ref 116, .int 0, .ref (7 + 6)], zhp h12)) rfl ?_
    refine zRgr rfl rfl rfl (by decide) (b := 116 + 6) rfl ?_
    refine zEv_k 2 (f' := (111, [some (.ref 116), some (.ref 7)], [.int 7, .int 0, .ref (116 + 6), .int 0, .ref (7 + 6)], zhp h12)) rfl ?_
    obtain ⟨h14, eh14, H⟩ := zlets H
    refine zRcp rfl rfl rfl (by decide) (by decide) (by decide) (by unfold zcpok; decide) (by decide) eh14 ?_
    refine zEv_k 1 (f' := (115, [some (.ref 116), some (.ref 7)], [.ref 7], zhp h14)) rfl ?_
    refine zRgr rfl rfl rfl (by decide) (b := 7 + 7) rfl ?_
    refine zEv_k 2 (f' := (120, [some (.ref 116), some (.ref 7)], [.ref 116, .int 0, .ref (7 + 7)], zhp h14)) rfl ?_
    refine zRgr rfl rfl rfl (by decide) (b := 116 + 7) rfl ?_
    refine zEv_k 2 (f' := (126, [some (.ref 116), some (.ref 7)], [.int 7, .int 0, .ref (116 + 7), .int 0, .ref (7 + 7)], zhp h14)) rfl ?_
    obtain ⟨h16, eh16, H⟩ := zlets H
    refine zRcp rfl rfl rfl (by decide) (by decide) (by decide) (by unfold zcpok; decide) (by decide) eh16 ?_
    cases H
    exact zEv_r rfl
  · obtain ⟨h1, eh1, H⟩ := zlets H
    refine zEv_w (F := fun z => (8, [some (.ref 131), some (.ref 22)], [], zhp z)) (h0 := sI h 131 0 (gI h 22 0)) 4 rfl eh1 ?_
    obtain ⟨h2, eh2, H⟩ := zlets H
    refine zEv_w (F := fun z => (16, [some (.ref 131), some (.ref 22)], [], zhp z)) (h0 := sI h1 131 1 (gI h1 22 1)) 4 rfl eh2 ?_
    obtain ⟨h3, eh3, H⟩ := zlets H
    refine zEv_w (F := fun z => (24, [some (.ref 131), some (.ref 22)], [], zhp z)) (h0 := sI h2 131 2 (gI h2 22 2)) 4 rfl eh3 ?_
    refine zEv_k 1 (f' := (25, [some (.ref 131), some (.ref 22)], [.ref 22], zhp h3)) rfl ?_
    refine zRgr rfl rfl rfl (by decide) (b := 22 + 1) rfl ?_
    refine zEv_k 2 (f' := (30, [some (.ref 131), some (.ref 22)], [.ref 131, .int 0, .ref (22 + 1)], zhp h3)) rfl ?_
    refine zRgr rfl rfl rfl (by decide) (b := 131 + 1) rfl ?_
    refine zEv_k 2 (f' := (36, [some (.ref 131), some (.ref 22)], [.int 7, .int 0, .ref (131 + 1), .int 0, .ref (22 + 1)], zhp h3)) rfl ?_
    obtain ⟨h4, eh4, H⟩ := zlets H
    refine zRcp rfl rfl rfl (by decide) (by decide) (by decide) (by unfold zcpok; decide) (by decide) eh4 ?_
    refine zEv_k 1 (f' := (40, [some (.ref 131), some (.ref 22)], [.ref 22], zhp h4)) rfl ?_
    refine zRgr rfl rfl rfl (by decide) (b := 22 + 2) rfl ?_
    refine zEv_k 2 (f' := (45, [some (.ref 131), some (.ref 22)], [.ref 131, .int 0, .ref (22 + 2)], zhp h4)) rfl ?_
    refine zRgr rfl rfl rfl (by decide) (b := 131 + 2) rfl ?_
    refine zEv_k 2 (f' := (51, [some (.ref 131), some (.ref 22)], [.int 7, .int 0, .ref (131 + 2), .int 0, .ref (22 + 2)], zhp h4)) rfl ?_
    obtain ⟨h6, eh6, H⟩ := zlets H
    refine zRcp rfl rfl rfl (by decide) (by decide) (by decide) (by unfold zcpok; decide) (by decide) eh6 ?_
    refine zEv_k 1 (f' := (55, [some (.ref 131), some (.ref 22)], [.ref 22], zhp h6)) rfl ?_
    refine zRgr rfl rfl rfl (by decide) (b := 22 + 3) rfl ?_
    refine zEv_k 2 (f' := (60, [some (.ref 131), some (.ref 22)], [.ref 131, .int 0, .ref (22 + 3)], zhp h6)) rfl ?_
    refine zRgr rfl rfl rfl (by decide) (b := 131 + 3) rfl ?_
    refine zEv_k 2 (f' := (66, [some (.ref 131), some (.ref 22)], [.int 7, .int 0, .ref (131 + 3), .int 0, .ref (22 + 3)], zhp h6)) rfl ?_
    obtain ⟨h8, eh8, H⟩ := zlets H
    refine zRcp rfl rfl rfl (by decide) (by decide) (by decide) (by unfold zcpok; decide) (by decide) eh8 ?_
    refine zEv_k 1 (f' := (70, [some (.ref 131), some (.ref 22)], [.ref 22], zhp h8)) rfl ?_
    refine zRgr rfl rfl rfl (by decide) (b := 22 + 4) rfl ?_
    refine zEv_k 2 (f' := (75, [some (.ref 131), some (.ref 22)], [.ref 131, .int 0, .ref (22 + 4)], zhp h8)) rfl ?_
    refine zRgr rfl rfl rfl (by decide) (b := 131 + 4) rfl ?_
    refine zEv_k 2 (f' := (81, [some (.ref 131), some (.ref 22)], [.int 7, .int 0, .ref (131 + 4), .int 0, .ref (22 + 4)], zhp h8)) rfl ?_
    obtain ⟨h10, eh10, H⟩ := zlets H
    refine zRcp rfl rfl rfl (by decide) (by decide) (by decide) (by unfold zcpok; decide) (by decide) eh10 ?_
    refine zEv_k 1 (f' := (85, [some (.ref 131), some (.ref 22)], [.ref 22], zhp h10)) rfl ?_
    refine zRgr rfl rfl rfl (by decide) (b := 22 + 5) rfl ?_
    refine zEv_k 2 (f' := (90, [some (.ref 131), some (.ref 22)], [.ref 131, .int 0, .ref (22 + 5)], zhp h10)) rfl ?_
    refine zRgr rfl rfl rfl (by decide) (b := 131 + 5) rfl ?_
    refine zEv_k 2 (f' := (96, [some (.ref 131), some (.ref 22)], [.int 7, .int 0, .ref (131 + 5), .int 0, .ref (22 + 5)], zhp h10)) rfl ?_
    obtain ⟨h12, eh12, H⟩ := zlets H
    refine zRcp rfl rfl rfl (by decide) (by decide) (by decide) (by unfold zcpok; decide) (by decide) eh12 ?_
    refine zEv_k 1 (f' := (100, [some (.ref 131), some (.ref 22)], [.ref 22], zhp h12)) rfl ?_
    refine zRgr rfl rfl rfl (by decide) (b := 22 + 6) rfl ?_
    refine zEv_k 2 (f' := (105, [some (.ref 131), some (.ref 22)], [.ref 131, .int 0, .ref (22 + 6)], zhp h12)) rfl ?_
    refine zRgr rfl rfl rfl (by decide) (b := 131 + 6) rfl ?_
    refine zEv_k 2 (f' := (111, [some (.ref 131), some (.ref 22)], [.int 7, .int 0, .ref (131 + 6), .int 0, .ref (22 + 6)], zhp h12)) rfl ?_
    obtain ⟨h14, eh14, H⟩ := zlets H
    refine zRcp rfl rfl rfl (by decide) (by decide) (by decide) (by unfold zcpok; decide) (by decide) eh14 ?_
    refine zEv_k 1 (f' := (115, [some (.ref 131), some (.ref 22)], [.ref 22], zhp h14)) rfl ?_
    refine zRgr rfl rfl rfl (by decide) (b := 22 + 7) rfl ?_
    refine zEv_k 2 (f' := (120, [some (.ref 131), some (.ref 22)], [.ref 131, .int 0, .ref (22 + 7)], zhp h14)) rfl ?_
    refine zRgr rfl rfl rfl (by decide) (b := 131 + 7) rfl ?_
    refine zEv_k 2 (f' := (126, [some (.ref 131), some (.ref 22)], [.int 7, .int 0, .ref (131 + 7), .int 0, .ref (22 + 7)], zhp h14)) rfl ?_
    obtain ⟨h16, eh16, H⟩ := zlets H
    refine zRcp rfl rfl rfl (by decide) (by decide) (by decide) (by unfold zcpok; decide) (by decide) eh16 ?_
    cases H
    exact zEv_r rfl
  · obtain ⟨h1, eh1, H⟩ := zlets H
    refine zEv_w (F := fun z => (8, [some (.ref 7), some (.ref 148)], [], zhp z)) (h0 := sI h 7 0 (gI h 148 0)) 4 rfl eh1 ?_
    obtain ⟨h2, eh2, H⟩ := zlets H
    refine zEv_w (F := fun z => (16, [some (.ref 7), some (.ref 148)], [], zhp z)) (h0 := sI h1 7 1 (gI h1 148 1)) 4 rfl eh2 ?_
    obtain ⟨h3, eh3, H⟩ := zlets H
    refine zEv_w (F := fun z => (24, [some (.ref 7), some (.ref 148)], [], zhp z)) (h0 := sI h2 7 2 (gI h2 148 2)) 4 rfl eh3 ?_
    refine zEv_k 1 (f' := (25, [some (.ref 7), some (.ref 148)], [.ref 148], zhp h3)) rfl ?_
    refine zRgr rfl rfl rfl (by decide) (b := 148 + 1) rfl ?_
    refine zEv_k 2 (f' := (30, [some (.ref 7), some (.ref 148)], [.ref 7, .int 0, .ref (148 + 1)], zhp h3)) rfl ?_
    refine zRgr rfl rfl rfl (by decide) (b := 7 + 1) rfl ?_
    refine zEv_k 2 (f' := (36, [some (.ref 7), some (.ref 148)], [.int 7, .int 0, .ref (7 + 1), .int 0, .ref (148 + 1)], zhp h3)) rfl ?_
    obtain ⟨h4, eh4, H⟩ := zlets H
    refine zRcp rfl rfl rfl (by decide) (by decide) (by decide) (by unfold zcpok; decide) (by decide) eh4 ?_
    refine zEv_k 1 (f' := (40, [some (.ref 7), some (.ref 148)], [.ref 148], zhp h4)) rfl ?_
    refine zRgr rfl rfl rfl (by decide) (b := 148 + 2) rfl ?_
    refine zEv_k 2 (f' := (45, [some (.ref 7), some (.ref 148)], [.ref 7, .int 0, .ref (148 + 2)], zhp h4)) rfl ?_
    refine zRgr rfl rfl rfl (by decide) (b := 7 + 2) rfl ?_
    refine zEv_k 2 (f' := (51, [some (.ref 7), some (.ref 148)], [.int 7, .int 0, .ref (7 + 2), .int 0, .ref (148 + 2)], zhp h4)) rfl ?_
    obtain ⟨h6, eh6, H⟩ := zlets H
    refine zRcp rfl rfl rfl (by decide) (by decide) (by decide) (by unfold zcpok; decide) (by decide) eh6 ?_
    refine zEv_k 1 (f' := (55, [some (.ref 7), some (.ref 148)], [.ref 148], zhp h6)) rfl ?_
    refine zRgr rfl rfl rfl (by decide) (b := 148 + 3) rfl ?_
    refine zEv_k 2 (f' := (60, [some (.ref 7), some (.ref 148)], [.ref 7, .int 0, .ref (148 + 3)], zhp h6)) rfl ?_
    refine zRgr rfl rfl rfl (by decide) (b := 7 + 3) rfl ?_
    refine zEv_k 2 (f' := (66, [some (.ref 7), some (.ref 148)], [.int 7, .int 0, .ref (7 + 3), .int 0, .ref (148 + 3)], zhp h6)) rfl ?_
    obtain ⟨h8, eh8, H⟩ := zlets H
    refine zRcp rfl rfl rfl (by decide) (by decide) (by decide) (by unfold zcpok; decide) (by decide) eh8 ?_
    refine zEv_k 1 (f' := (70, [some (.ref 7), some (.ref 148)], [.ref 148], zhp h8)) rfl ?_
    refine zRgr rfl rfl rfl (by decide) (b := 148 + 4) rfl ?_
    refine zEv_k 2 (f' := (75, [some (.ref 7), some (.ref 148)], [.ref 7, .int 0, .ref (148 + 4)], zhp h8)) rfl ?_
    refine zRgr rfl rfl rfl (by decide) (b := 7 + 4) rfl ?_
    refine zEv_k 2 (f' := (81, [some (.ref 7), some (.ref 148)], [.int 7, .int 0, .ref (7 + 4), .int 0, .ref (148 + 4)], zhp h8)) rfl ?_
    obtain ⟨h10, eh10, H⟩ := zlets H
    refine zRcp rfl rfl rfl (by decide) (by decide) (by decide) (by unfold zcpok; decide) (by decide) eh10 ?_
    refine zEv_k 1 (f' := (85, [some (.ref 7), some (.ref 148)], [.ref 148], zhp h10)) rfl ?_
    refine zRgr rfl rfl rfl (by decide) (b := 148 + 5) rfl ?_
    refine zEv_k 2 (f' := (90, [some (.ref 7), some (.ref 148)], [.ref 7, .int 0, .ref (148 + 5)], zhp h10)) rfl ?_
    refine zRgr rfl rfl rfl (by decide) (b := 7 + 5) rfl ?_
    refine zEv_k 2 (f' := (96, [some (.ref 7), some (.ref 148)], [.int 7, .int 0, .ref (7 + 5), .int 0, .ref (148 + 5)], zhp h10)) rfl ?_
    obtain ⟨h12, eh12, H⟩ := zlets H
    refine zRcp rfl rfl rfl (by decide) (by decide) (by decide) (by unfold zcpok; decide) (by decide) eh12 ?_
    refine zEv_k 1 (f' := (100, [some (.ref 7), some (.ref 148)], [.ref 148], zhp h12)) rfl ?_
    refine zRgr rfl rfl rfl (by decide) (b := 148 + 6) rfl ?_
    refine zEv_k 2 (f' := (105, [some (.ref 7), some (.ref 148)], [.ref 7, .int 0, .ref (148 + 6)], zhp h12)) rfl ?_
    refine zRgr rfl rfl rfl (by decide) (b := 7 + 6) rfl ?_
    refine zEv_k 2 (f' := (111, [some (.ref 7), some (.ref 148)], [.int 7, .int 0, .ref (7 + 6), .int 0, .ref (148 + 6)], zhp h12)) rfl ?_
    obtain ⟨h14, eh14, H⟩ := zlets H
    refine zRcp rfl rfl rfl (by decide) (by decide) (by decide) (by unfold zcpok; decide) (by decide) eh14 ?_
    refine zEv_k 1 (f' := (115, [some (.ref 7), some (.ref 148)], [.ref 148], zhp h14)) rfl ?_
    refine zRgr rfl rfl rfl (by decide) (b := 148 + 7) rfl ?_
    refine zEv_k 2 (f' := (120, [some (.ref 7), some (.ref 148)], [.ref 7, .int 0, .ref (148 + 7)], zhp h14)) rfl ?_
    refine zRgr rfl rfl rfl (by decide) (b := 7 + 7) rfl ?_
    refine zEv_k 2 (f' := (126, [some (.ref 7), some (.ref 148)], [.int 7, .int 0, .ref (7 + 7), .int 0, .ref (148 + 7)], zhp h14)) rfl ?_
    obtain ⟨h16, eh16, H⟩ := zlets H
    refine zRcp rfl rfl rfl (by decide) (by decide) (by decide) (by unfold zcpok; decide) (by decide) eh16 ?_
    cases H
    exact zEv_r rfl
  · obtain ⟨h1, eh1, H⟩ := zlets H
    refine zEv_w (F := fun z => (8, [some (.ref 22), some (.ref 148)], [], zhp z)) (h0 := sI h 22 0 (gI h 148 0)) 4 rfl eh1 ?_
    obtain ⟨h2, eh2, H⟩ := zlets H
    refine zEv_w (F := fun z => (16, [some (.ref 22), some (.ref 148)], [], zhp z)) (h0 := sI h1 22 1 (gI h1 148 1)) 4 rfl eh2 ?_
    obtain ⟨h3, eh3, H⟩ := zlets H
    refine zEv_w (F := fun z => (24, [some (.ref 22), some (.ref 148)], [], zhp z)) (h0 := sI h2 22 2 (gI h2 148 2)) 4 rfl eh3 ?_
    refine zEv_k 1 (f' := (25, [some (.ref 22), some (.ref 148)], [.ref 148], zhp h3)) rfl ?_
    refine zRgr rfl rfl rfl (by decide) (b := 148 + 1) rfl ?_
    refine zEv_k 2 (f' := (30, [some (.ref 22), some (.ref 148)], [.ref 22, .int 0, .ref (148 + 1)], zhp h3)) rfl ?_
    refine zRgr rfl rfl rfl (by decide) (b := 22 + 1) rfl ?_
    refine zEv_k 2 (f' := (36, [some (.ref 22), some (.ref 148)], [.int 7, .int 0, .ref (22 + 1), .int 0, .ref (148 + 1)], zhp h3)) rfl ?_
    obtain ⟨h4, eh4, H⟩ := zlets H
    refine zRcp rfl rfl rfl (by decide) (by decide) (by decide) (by unfold zcpok; decide) (by decide) eh4 ?_
    refine zEv_k 1 (f' := (40, [some (.ref 22), some (.ref 148)], [.ref 148], zhp h4)) rfl ?_
    refine zRgr rfl rfl rfl (by decide) (b := 148 + 2) rfl ?_
    refine zEv_k 2 (f' := (45, [some (.ref 22), some (.ref 148)], [.ref 22, .int 0, .ref (148 + 2)], zhp h4)) rfl ?_
    refine zRgr rfl rfl rfl (by decide) (b := 22 + 2) rfl ?_
    refine zEv_k 2 (f' := (51, [some (.ref 22), some (.ref 148)], [.int 7, .int 0, .ref (22 + 2), .int 0, .ref (148 + 2)], zhp h4)) rfl ?_
    obtain ⟨h6, eh6, H⟩ := zlets H
    refine zRcp rfl rfl rfl (by decide) (by decide) (by decide) (by unfold zcpok; decide) (by decide) eh6 ?_
    refine zEv_k 1 (f' := (55, [some (.ref 22), some (.ref 148)], [.ref 148], zhp h6)) rfl ?_
    refine zRgr rfl rfl rfl (by decide) (b := 148 + 3) rfl ?_
    refine zEv_k 2 (f' := (60, [some (.ref 22), some (.ref 148)], [.ref 22, .int 0, .ref (148 + 3)], zhp h6)) rfl ?_
    refine zRgr rfl rfl rfl (by decide) (b := 22 + 3) rfl ?_
    refine zEv_k 2 (f' := (66, [some (.ref 22), some (.ref 148)], [.int 7, .int 0, .ref (22 + 3), .int 0, .ref (148 + 3)], zhp h6)) rfl ?_
    obtain ⟨h8, eh8, H⟩ := zlets H
    refine zRcp rfl rfl rfl (by decide) (by decide) (by decide) (by unfold zcpok; decide) (by decide) eh8 ?_
    refine zEv_k 1 (f' := (70, [some (.ref 22), some (.ref 148)], [.ref 148], zhp h8)) rfl ?_
    refine zRgr rfl rfl rfl (by decide) (b := 148 + 4) rfl ?_
    refine zEv_k 2 (f' := (75, [some (.ref 22), some (.ref 148)], [.ref 22, .int 0, .ref (148 + 4)], zhp h8)) rfl ?_
    refine zRgr rfl rfl rfl (by decide) (b := 22 + 4) rfl ?_
    refine zEv_k 2 (f' := (81, [some (.ref 22), some (.ref 148)], [.int 7, .int 0, .ref (22 + 4), .int 0, .ref (148 + 4)], zhp h8)) rfl ?_
    obtain ⟨h10, eh10, H⟩ := zlets H
    refine zRcp rfl rfl rfl (by decide) (by decide) (by decide) (by unfold zcpok; decide) (by decide) eh10 ?_
    refine zEv_k 1 (f' := (85, [some (.ref 22), some (.ref 148)], [.ref 148], zhp h10)) rfl ?_
    refine zRgr rfl rfl rfl (by decide) (b := 148 + 5) rfl ?_
    refine zEv_k 2 (f' := (90, [some (.ref 22), some (.ref 148)], [.ref 22, .int 0, .ref (148 + 5)], zhp h10)) rfl ?_
    refine zRgr rfl rfl rfl (by decide) (b := 22 + 5) rfl ?_
    refine zEv_k 2 (f' := (96, [some (.ref 22), some (.ref 148)], [.int 7, .int 0, .ref (22 + 5), .int 0, .ref (148 + 5)], zhp h10)) rfl ?_
    obtain ⟨h12, eh12, H⟩ := zlets H
    refine zRcp rfl rfl rfl (by decide) (by decide) (by decide) (by unfold zcpok; decide) (by decide) eh12 ?_
    refine zEv_k 1 (f' := (100, [some (.ref 22), some (.ref 148)], [.ref 148], zhp h12)) rfl ?_
    refine zRgr rfl rfl rfl (by decide) (b := 148 + 6) rfl ?_
    refine zEv_k 2 (f' := (105, [some (.ref 22), some (.ref 148)], [.ref 22, .int 0, .ref (148 + 6)], zhp h12)) rfl ?_
    refine zRgr rfl rfl rfl (by decide) (b := 22 + 6) rfl ?_
    refine zEv_k 2 (f' := (111, [some (.ref 22), some (.ref 148)], [.int 7, .int 0, .ref (22 + 6), .int 0, .ref (148 + 6)], zhp h12)) rfl ?_
    obtain ⟨h14, eh14, H⟩ := zlets H
    refine zRcp rfl rfl rfl (by decide) (by decide) (by decide) (by unfold zcpok; decide) (by decide) eh14 ?_
    refine zEv_k 1 (f' := (115, [some (.ref 22), some (.ref 148)], [.ref 148], zhp h14)) rfl ?_
    refine zRgr rfl rfl rfl (by decide) (b := 148 + 7) rfl ?_
    refine zEv_k 2 (f' := (120, [some (.ref 22), some (.ref 148)], [.ref 22, .int 0, .ref (148 + 7)], zhp h14)) rfl ?_
    refine zRgr rfl rfl rfl (by decide) (b := 22 + 7) rfl ?_
    refine zEv_k 2 (f' := (126, [some (.ref 22), some (.ref 148)], [.int 7, .int 0, .ref (22 + 7), .int 0, .ref (148 + 7)], zhp h14)) rfl ?_
    obtain ⟨h16, eh16, H⟩ := zlets H
    refine zRcp rfl rfl rfl (by decide) (by decide) (by decide) (by unfold zcpok; decide) (by decide) eh16 ?_
    cases H
    exact zEv_r rfl
def qCe_isFull (h : zK) : Int32 :=
  if (gI h 148 2) < 7 then
    0
  else
    1
theorem t_qCe_isFull {Ls : Nat} {xs : Nat → Int32} {d : Nat} {h : zK} {p : Int32} (H : qCe_isFull h = p) : zEv (zXs Ls xs) d zm_3 (0, [some (.ref 148)], [], zhp h) (some (.int p), zhp h) := by
  unfold qCe_isFull at H
  refine zEv_k 4 (f' := (if (gI h 148 2) < 7 then 13 else 9, [some (.ref 148)], [], zhp h)) rfl (zEv_if (fun c1 => ?_) (fun c1 => ?_))
  · replace H := zif_t c1 H
    refine zEv_k 1 (f' := (14, [some (.ref 148)], [.int 0], zhp h)) rfl ?_
    cases H
    exact zEv_r rfl
  · replace H := zif_f c1 H
    refine zEv_k 2 (f' := (14, [some (.ref 148)], [.int 1], zhp h)) rfl ?_
    cases H
    exact zEv_r rfl
def qCe_add (h : zK) : Option (zK) :=
  if ¬ (qCe_isFull h) = 0 then
    some h
  else
    if 6 ≤ (6 : Int32) then
      (zix (gI h 148 2) 7).bind fun j3 =>
      zlet (sI h 149 j3 (gI h 164 0)) fun h4 =>
      (zix (gI h4 148 2) 7).bind fun j5 =>
      zlet (sI h4 150 j5 (gI h4 164 1)) fun h6 =>
      (zix (gI h6 148 2) 7).bind fun j7 =>
      zlet (sI h6 151 j7 (gI h6 164 2)) fun h8 =>
      (zix (gI h8 148 2) 7).bind fun j9 =>
      zlet (sI h8 152 j9 (gI h8 164 3)) fun h10 =>
      (zix (gI h10 148 2) 7).bind fun j11 =>
      zlet (sI h10 153 j11 (gI h10 164 4)) fun h12 =>
      (zix (gI h12 148 2) 7).bind fun j13 =>
      zlet (sI h12 154 j13 (gI h12 164 5)) fun h14 =>
      zlet (sI h14 148 2 ((gI h14 148 2) + 1)) fun h15 =>
      some h15
    else
      some h
theorem t_qCe_add {Ls : Nat} {xs : Nat → Int32} {d : Nat} {h : zK} {p : zK} (H : qCe_add h = some p) : zEv (zXs Ls xs) (d + 1) zm_4 (0, [some (.ref 148), some (.ref 164)], [], zhp h) (none, zhp p) := by
  unfold qCe_add at H
  refine zEv_k 1 (f' := (1, [some (.ref 148), some (.ref 164)], [.ref 148], zhp h)) rfl ?_
  refine zEv_c (fun _ => rfl) rfl (t_qCe_isFull (h := h) (d := d) rfl) rfl rfl ?_
  refine zEv_k 1 (f' := (if ¬ (qCe_isFull h) = 0 then 14 else 7, [some (.ref 148), some (.ref 164)], [], zhp h)) rfl (zEv_if (fun c1 => ?_) (fun c1 => ?_))
  · replace H := zif_t c1 H
    cases H
    exact zEv_r rfl
  · replace H := zif_f c1 H
    refine zEv_k 4 (f' := (if 6 ≤ (6 : Int32) then 15 else 14, [some (.ref 148), some (.ref 164)], [], zhp h)) rfl (zEv_if (fun c2 => ?_) (fun c2 => ?_))
    · replace H := zif_t c2 H
      refine zEv_k 1 (f' := (16, [some (.ref 148), some (.ref 164)], [.ref 148], zhp h)) rfl ?_
      refine zRgr rfl rfl rfl (by decide) (b := 149) rfl ?_
      refine zEv_k 4 (f' := (25, [some (.ref 148), some (.ref 164)], [.int 0, .ref 164, .int (gI h 148 2), .ref 149], zhp h)) rfl ?_
      refine zRia (j := 0) rfl rfl (by decide) (by decide) ?_
      obtain ⟨j3, hj3, H⟩ := zbs H
      obtain ⟨h4, eh4, H⟩ := zlets H
      refine zRis rfl rfl (by decide) hj3 eh4 ?_
      refine zEv_k 1 (f' := (28, [some (.ref 148), some (.ref 164)], [.ref 148], zhp h4)) rfl ?_
      refine zRgr rfl rfl rfl (by decide) (b := 150) rfl ?_
      refine zEv_k 4 (f' := (37, [some (.ref 148), some (.ref 164)], [.int 1, .ref 164, .int (gI h4 148 2), .ref 150], zhp h4)) rfl ?_
      refine zRia (j := 1) rfl rfl (by decide) (by decide) ?_
      obtain ⟨j5, hj5, H⟩ := zbs H
      obtain ⟨h6, eh6, H⟩ := zlets H
      refine zRis rfl rfl (by decide) hj5 eh6 ?_
      refine zEv_k 1 (f' := (40, [some (.ref 148), some (.ref 164)], [.ref 148], zhp h6)) rfl ?_
      refine zRgr rfl rfl rfl (by decide) (b := 151) rfl ?_
      refine zEv_k 4 (f' := (49, [some (.ref 148), some (.ref 164)], [.int 2, .ref 164, .int (gI h6 148 2), .ref 151], zhp h6)) rfl ?_
      refine zRia (j := 2) rfl rfl (by decide) (by decide) ?_
      obtain ⟨j7, hj7, H⟩ := zbs H
      obtain ⟨h8, eh8, H⟩ := zlets H
      refine zRis rfl rfl (by decide) hj7 eh8 ?_
      refine zEv_k 1 (f' := (52, [some (.ref 148), some (.ref 164)], [.ref 148], zhp h8)) rfl ?_
      refine zRgr rfl rfl rfl (by decide) (b := 152) rfl ?_
      refine zEv_k 4 (f' := (61, [some (.ref 148), some (.ref 164)], [.int 3, .ref 164, .int (gI h8 148 2), .ref 152], zhp h8)) rfl ?_
      refine zRia (j := 3) rfl rfl (by decide) (by decide) ?_
      obtain ⟨j9, hj9, H⟩ := zbs H
      obtain ⟨h10, eh10, H⟩ := zlets H
      refine zRis rfl rfl (by decide) hj9 eh10 ?_
      refine zEv_k 1 (f' := (64, [some (.ref 148), some (.ref 164)], [.ref 148], zhp h10)) rfl ?_
      refine zRgr rfl rfl rfl (by decide) (b := 153) rfl ?_
      refine zEv_k 4 (f' := (73, [some (.ref 148), some (.ref 164)], [.int 4, .ref 164, .int (gI h10 148 2), .ref 153], zhp h10)) rfl ?_
      refine zRia (j := 4) rfl rfl (by decide) (by decide) ?_
      obtain ⟨j11, hj11, H⟩ := zbs H
      obtain ⟨h12, eh12, H⟩ := zlets H
      refine zRis rfl rfl (by decide) hj11 eh12 ?_
      refine zEv_k 1 (f' := (76, [some (.ref 148), some (.ref 164)], [.ref 148], zhp h12)) rfl ?_
      refine zRgr rfl rfl rfl (by decide) (b := 154) rfl ?_
      refine zEv_k 4 (f' := (85, [some (.ref 148), some (.ref 164)], [.int 5, .ref 164, .int (gI h12 148 2), .ref 154], zhp h12)) rfl ?_
      refine zRia (j := 5) rfl rfl (by decide) (by decide) ?_
      obtain ⟨j13, hj13, H⟩ := zbs H
      obtain ⟨h14, eh14, H⟩ := zlets H
      refine zRis rfl rfl (by decide) hj13 eh14 ?_
      obtain ⟨h15, eh15, H⟩ := zlets H
      refine zEv_w (F := fun z => (97, [some (.ref 148), some (.ref 164)], [], zhp z)) (h0 := sI h14 148 2 ((gI h14 148 2) + 1)) 6 rfl eh15 ?_
      cases H
      exact zEv_r rfl
    · replace H := zif_f c2 H
      cases H
      exact zEv_r rfl
def qCe_addAnswer (x1 : Int32) (x2 : Int32) (h : zK) : Option (zK) :=
  if x1 < 0 then
    some h
  else
    if 7 ≤ x1 then
      some h
    else
      (zix x1 7).bind fun j3 =>
      zlet (sI h 155 j3 ((gI h 155 j3) ||| ((1 : Int32) <<< (x2 &&& 31)))) fun h4 =>
      some h4
theorem t_qCe_addAnswer {Ls : Nat} {xs : Nat → Int32} {d : Nat} {x1 : Int32} {x2 : Int32} {h : zK} {p : zK} (H : qCe_addAnswer x1 x2 h = some p) : zEv (zXs Ls xs) d zm_5 (0, [some (.ref 148), some (.int x1), some (.int x2)], [], zhp h) (none, zhp p) := by
  unfold qCe_addAnswer at H
  refine zEv_k 2 (f' := (if x1 < 0 then 22 else 4, [some (.ref 148), some (.int x1), some (.int x2)], [], zhp h)) rfl (zEv_if (fun c1 => ?_) (fun c1 => ?_))
  · replace H := zif_t c1 H
    cases H
    exact zEv_r rfl
  · replace H := zif_f c1 H
    refine zEv_k 3 (f' := (if 7 ≤ x1 then 22 else 10, [some (.ref 148), some (.int x1), some (.int x2)], [], zhp h)) rfl (zEv_if (fun c2 => ?_) (fun c2 => ?_))
    · replace H := zif_t c2 H
      cases H
      exact zEv_r rfl
    · replace H := zif_f c2 H
      refine zEv_k 1 (f' := (11, [some (.ref 148), some (.int x1), some (.int x2)], [.ref 148], zhp h)) rfl ?_
      refine zRgr rfl rfl rfl (by decide) (b := 155) rfl ?_
      refine zEv_k 2 (f' := (16, [some (.ref 148), some (.int x1), some (.int x2)], [.int x1, .ref 155, .int x1, .ref 155], zhp h)) rfl ?_
      obtain ⟨j3, hj3, H⟩ := zbs H
      refine zRia rfl rfl (by decide) hj3 ?_
      refine zEv_k 4 (f' := (21, [some (.ref 148), some (.int x1), some (.int x2)], [.int ((gI h 155 j3) ||| ((1 : Int32) <<< (x2 &&& 31))), .int x1, .ref 155], zhp h)) rfl ?_
      obtain ⟨h4, eh4, H⟩ := zlets H
      refine zRis rfl rfl (by decide) hj3 eh4 ?_
      cases H
      exact zEv_r rfl
def qCe_has (oo : Nat) (x1 : Int32) (h : zK) : Int32 :=
  if x1 < 0 then
    0
  else
    if (gI h oo 2) ≤ x1 then
      0
    else
      1
theorem t_qCe_has {Ls : Nat} {xs : Nat → Int32} {d : Nat} {oo : Nat} {x1 : Int32} {h : zK} {p : Int32} (ho : oo = 7 ∨ oo = 22) (H : qCe_has oo x1 h = p) : zEv (zXs Ls xs) d zm_6 (0, [some (.ref oo), some (.int x1)], [], zhp h) (some (.int p), zhp h) := by
  unfold qCe_has at H
  rcases ho with rfl | rfl
  · refine zEv_k 2 (f' := (if x1 < 0 then 16 else 4, [some (.ref 7), some (.int x1)], [], zhp h)) rfl (zEv_if (fun c1 => ?_) (fun c1 => ?_))
    · replace H := zif_t c1 H
      refine zEv_k 1 (f' := (17, [some (.ref 7), some (.int x1)], [.int 0], zhp h)) rfl ?_
      cases H
      exact zEv_r rfl
    · replace H := zif_f c1 H
      refine zEv_k 4 (f' := (if (gI h 7 2) ≤ x1 then 16 else 12, [some (.ref 7), some (.int x1)], [], zhp h)) rfl (zEv_if (fun c2 => ?_) (fun c2 => ?_))
      · replace H := zif_t c2 H
        refine zEv_k 1 (f' := (17, [some (.ref 7), some (.int x1)], [.int 0], zhp h)) rfl ?_
        cases H
        exact zEv_r rfl
      · replace H := zif_f c2 H
        refine zEv_k 2 (f' := (17, [some (.ref 7), some (.int x1)], [.int 1], zhp h)) rfl ?_
        cases H
        exact zEv_r rfl
  · refine zEv_k 2 (f' := (if x1 < 0 then 16 else 4, [some (.ref 22), some (.int x1)], [], zhp h)) rfl (zEv_if (fun c1 => ?_) (fun c1 => ?_))
    · replace H := zif_t c1 H
      refine zEv_k 1 (f' := (17, [some (.ref 22), some (.int x1)], [.int 0], zhp h)) rfl ?_
      cases H
      exact zEv_r rfl
    · replace H := zif_f c1 H
      refine zEv_k 4 (f' := (if (gI h 22 2) ≤ x1 then 16 else 12, [some (.ref 22), some (.int x1)], [], zhp h)) rfl (zEv_if (fun c2 => ?_) (fun c2 => ?_))
      · replace H := zif_t c2 H
        refine zEv_k 1 (f' := (17, [some (.ref 22), some (.int x1)], [.int 0], zhp h)) rfl ?_
        cases H
        exact zEv_r rfl
      · replace H := zif_f c2 H
        refine zEv_k 2 (f' := (17, [some (.ref 22), some (.int x1)], [.int 1], zhp h)) rfl ?_
        cases H
        exact zEv_r rfl
def qCe_all (oo : Nat) (h : zK) : Int32 :=
  ((1 : Int32) <<< ((gI h oo 2) &&& 31)) - 1
theorem t_qCe_all {Ls : Nat} {xs : Nat → Int32} {d : Nat} {oo : Nat} {h : zK} {p : Int32} (ho : oo = 7 ∨ oo = 22 ∨ oo = 148) (H : qCe_all oo h = p) : zEv (zXs Ls xs) d zm_7 (0, [some (.ref oo)], [], zhp h) (some (.int p), zhp h) := by
  unfold qCe_all at H
  rcases ho with rfl | rfl | rfl
  · refine zEv_k 6 (f' := (8, [some (.ref 7)], [.int (((1 : Int32) <<< ((gI h 7 2) &&& 31)) - 1)], zhp h)) rfl ?_
    cases H
    exact zEv_r rfl
  · refine zEv_k 6 (f' := (8, [some (.ref 22)], [.int (((1 : Int32) <<< ((gI h 22 2) &&& 31)) - 1)], zhp h)) rfl ?_
    cases H
    exact zEv_r rfl
  · refine zEv_k 6 (f' := (8, [some (.ref 148)], [.int (((1 : Int32) <<< ((gI h 148 2) &&& 31)) - 1)], zhp h)) rfl ?_
    cases H
    exact zEv_r rfl
def qCe_witIn (oo : Nat) (x1 : Int32) (x2 : Int32) (h : zK) : Option (Int32) :=
  (zix x1 7).bind fun j1 =>
  some (zf_max 0 ((gI h (oo + 1) j1) - ((gI h (oo + 2) j1) * x2)))
theorem t_qCe_witIn {Ls : Nat} {xs : Nat → Int32} {d : Nat} {oo : Nat} {x1 : Int32} {x2 : Int32} {h : zK} {p : Int32} (ho : oo = 7 ∨ oo = 22) (H : qCe_witIn oo x1 x2 h = some p) : zEv (zXs Ls xs) d zm_8 (0, [some (.ref oo), some (.int x1), some (.int x2)], [], zhp h) (some (.int p), zhp h) := by
  unfold qCe_witIn at H
  rcases ho with rfl | rfl
  · refine zEv_k 2 (f' := (2, [some (.ref 7), some (.int x1), some (.int x2)], [.ref 7, .int 0], zhp h)) rfl ?_
    refine zRgr rfl rfl rfl (by decide) (b := 7 + 1) rfl ?_
    refine zEv_k 1 (f' := (6, [some (.ref 7), some (.int x1), some (.int x2)], [.int x1, .ref (7 + 1), .int 0], zhp h)) rfl ?_
    obtain ⟨j1, hj1, H⟩ := zbs H
    refine zRia rfl rfl (by decide) hj1 ?_
    refine zEv_k 1 (f' := (8, [some (.ref 7), some (.int x1), some (.int x2)], [.ref 7, .int (gI h (7 + 1) j1), .int 0], zhp h)) rfl ?_
    refine zRgr rfl rfl rfl (by decide) (b := 7 + 2) rfl ?_
    refine zEv_k 1 (f' := (12, [some (.ref 7), some (.int x1), some (.int x2)], [.int x1, .ref (7 + 2), .int (gI h (7 + 1) j1), .int 0], zhp h)) rfl ?_
    refine zRia rfl rfl (by decide) hj1 ?_
    refine zEv_k 4 (f' := (19, [some (.ref 7), some (.int x1), some (.int x2)], [.int (zf_max 0 ((gI h (7 + 1) j1) - ((gI h (7 + 2) j1) * x2)))], zhp h)) rfl ?_
    cases H
    exact zEv_r rfl
  · refine zEv_k 2 (f' := (2, [some (.ref 22), some (.int x1), some (.int x2)], [.ref 22, .int 0], zhp h)) rfl ?_
    refine zRgr rfl rfl rfl (by decide) (b := 22 + 1) rfl ?_
    refine zEv_k 1 (f' := (6, [some (.ref 22), some (.int x1), some (.int x2)], [.int x1, .ref (22 + 1), .int 0], zhp h)) rfl ?_
    obtain ⟨j1, hj1, H⟩ := zbs H
    refine zRia rfl rfl (by decide) hj1 ?_
    refine zEv_k 1 (f' := (8, [some (.ref 22), some (.int x1), some (.int x2)], [.ref 22, .int (gI h (22 + 1) j1), .int 0], zhp h)) rfl ?_
    refine zRgr rfl rfl rfl (by decide) (b := 22 + 2) rfl ?_
    refine zEv_k 1 (f' := (12, [some (.ref 22), some (.int x1), some (.int x2)], [.int x1, .ref (22 + 2), .int (gI h (22 + 1) j1), .int 0], zhp h)) rfl ?_
    refine zRia rfl rfl (by decide) hj1 ?_
    refine zEv_k 4 (f' := (19, [some (.ref 22), some (.int x1), some (.int x2)], [.int (zf_max 0 ((gI h (22 + 1) j1) - ((gI h (22 + 2) j1) * x2)))], zhp h)) rfl ?_
    cases H
    exact zEv_r rfl
def qCe_lifeOf_b2 (oo : Nat) (x1 : Int32) (h : zK) (s : Int32) : Option ((Int32) ⊕ ((Unit) ⊕ (Int32))) :=
  if 50 < s then
    some (.inr (.inl ()))
  else
    (zix x1 7).bind fun j2 =>
    if ((gI h (oo + 3) j2) + ((gI h (oo + 4) j2) * s)) ≤ (gI h (oo + 5) j2) then
      some (.inl (s + 1))
    else
      some (.inr (.inr s))
theorem t_qCe_lifeOf_b2b {Ls : Nat} {xs : Nat → Int32} {d : Nat} {oo : Nat} {x1 : Int32} {h : zK} {r : zA} {s : Int32} {e : (Int32) ⊕ ((Unit) ⊕ (Int32))} (ho : oo = 7 ∨ oo = 22) (H : qCe_lifeOf_b2 oo x1 h s = some e) (K : match (generalizing := false) e with | .inl s' => zEv (zXs Ls xs) d zm_9 (2, [some (.ref oo), some (.int x1), some (.int s')], [], zhp h) r | .inr (.inl v) => ∀ (z2 : Option Value), zEv (zXs Ls xs) d zm_9 (40, [some (.ref oo), some (.int x1), z2], [], zhp h) r | .inr (.inr p) => (some (.int p), zhp h) = r) : zEv (zXs Ls xs) d zm_9 (2, [some (.ref oo), some (.int x1), some (.int s)], [], zhp h) r := by
  unfold qCe_lifeOf_b2 at H
  rcases ho with rfl | rfl
  · refine zEv_k 3 (f' := (if 50 < s then 40 else 8, [some (.ref 7), some (.int x1), some (.int s)], [], zhp h)) rfl (zEv_if (fun c1 => ?_) (fun c1 => ?_))
    · replace H := zif_t c1 H
      cases H
      exact K _
    · replace H := zif_f c1 H
      refine zEv_k 1 (f' := (9, [some (.ref 7), some (.int x1), some (.int s)], [.ref 7], zhp h)) rfl ?_
      refine zRgr rfl rfl rfl (by decide) (b := 7 + 3) rfl ?_
      refine zEv_k 1 (f' := (13, [some (.ref 7), some (.int x1), some (.int s)], [.int x1, .ref (7 + 3)], zhp h)) rfl ?_
      obtain ⟨j2, hj2, H⟩ := zbs H
      refine zRia rfl rfl (by decide) hj2 ?_
      refine zEv_k 1 (f' := (15, [some (.ref 7), some (.int x1), some (.int s)], [.ref 7, .int (gI h (7 + 3) j2)], zhp h)) rfl ?_
      refine zRgr rfl rfl rfl (by decide) (b := 7 + 4) rfl ?_
      refine zEv_k 1 (f' := (19, [some (.ref 7), some (.int x1), some (.int s)], [.int x1, .ref (7 + 4), .int (gI h (7 + 3) j2)], zhp h)) rfl ?_
      refine zRia rfl rfl (by decide) hj2 ?_
      refine zEv_k 4 (f' := (24, [some (.ref 7), some (.int x1), some (.int s)], [.ref 7, .int ((gI h (7 + 3) j2) + ((gI h (7 + 4) j2) * s))], zhp h)) rfl ?_
      refine zRgr rfl rfl rfl (by decide) (b := 7 + 5) rfl ?_
      refine zEv_k 1 (f' := (28, [some (.ref 7), some (.int x1), some (.int s)], [.int x1, .ref (7 + 5), .int ((gI h (7 + 3) j2) + ((gI h (7 + 4) j2) * s))], zhp h)) rfl ?_
      refine zRia rfl rfl (by decide) hj2 ?_
      refine zEv_k 1 (f' := (if ((gI h (7 + 3) j2) + ((gI h (7 + 4) j2) * s)) ≤ (gI h (7 + 5) j2) then 34 else 32, [some (.ref 7), some (.int x1), some (.int s)], [], zhp h)) rfl (zEv_if (fun c3 => ?_) (fun c3 => ?_))
      · replace H := zif_t c3 H
        refine zEv_k 2 (f' := (2, [some (.ref 7), some (.int x1), some (.int (s + 1))], [], zhp h)) rfl ?_
        cases H
        exact K
      · replace H := zif_f c3 H
        refine zEv_k 1 (f' := (33, [some (.ref 7), some (.int x1), some (.int s)], [.int s], zhp h)) rfl ?_
        cases H
        exact zEv_re K rfl
  · refine zEv_k 3 (f' := (if 50 < s then 40 else 8, [some (.ref 22), some (.int x1), some (.int s)], [], zhp h)) rfl (zEv_if (fun c1 => ?_) (fun c1 => ?_))
    · replace H := zif_t c1 H
      cases H
      exact K _
    · replace H := zif_f c1 H
      refine zEv_k 1 (f' := (9, [some (.ref 22), some (.int x1), some (.int s)], [.ref 22], zhp h)) rfl ?_
      refine zRgr rfl rfl rfl (by decide) (b := 22 + 3) rfl ?_
      refine zEv_k 1 (f' := (13, [some (.ref 22), some (.int x1), some (.int s)], [.int x1, .ref (22 + 3)], zhp h)) rfl ?_
      obtain ⟨j2, hj2, H⟩ := zbs H
      refine zRia rfl rfl (by decide) hj2 ?_
      refine zEv_k 1 (f' := (15, [some (.ref 22), some (.int x1), some (.int s)], [.ref 22, .int (gI h (22 + 3) j2)], zhp h)) rfl ?_
      refine zRgr rfl rfl rfl (by decide) (b := 22 + 4) rfl ?_
      refine zEv_k 1 (f' := (19, [some (.ref 22), some (.int x1), some (.int s)], [.int x1, .ref (22 + 4), .int (gI h (22 + 3) j2)], zhp h)) rfl ?_
      refine zRia rfl rfl (by decide) hj2 ?_
      refine zEv_k 4 (f' := (24, [some (.ref 22), some (.int x1), some (.int s)], [.ref 22, .int ((gI h (22 + 3) j2) + ((gI h (22 + 4) j2) * s))], zhp h)) rfl ?_
      refine zRgr rfl rfl rfl (by decide) (b := 22 + 5) rfl ?_
      refine zEv_k 1 (f' := (28, [some (.ref 22), some (.int x1), some (.int s)], [.int x1, .ref (22 + 5), .int ((gI h (22 + 3) j2) + ((gI h (22 + 4) j2) * s))], zhp h)) rfl ?_
      refine zRia rfl rfl (by decide) hj2 ?_
      refine zEv_k 1 (f' := (if ((gI h (22 + 3) j2) + ((gI h (22 + 4) j2) * s)) ≤ (gI h (22 + 5) j2) then 34 else 32, [some (.ref 22), some (.int x1), some (.int s)], [], zhp h)) rfl (zEv_if (fun c3 => ?_) (fun c3 => ?_))
      · replace H := zif_t c3 H
        refine zEv_k 2 (f' := (2, [some (.ref 22), some (.int x1), some (.int (s + 1))], [], zhp h)) rfl ?_
        cases H
        exact K
      · replace H := zif_f c3 H
        refine zEv_k 1 (f' := (33, [some (.ref 22), some (.int x1), some (.int s)], [.int s], zhp h)) rfl ?_
        cases H
        exact zEv_re K rfl
theorem t_qCe_lifeOf_b2 {Ls : Nat} {xs : Nat → Int32} {d : Nat} {oo : Nat} {x1 : Int32} {h : zK} {r : zA} (ho : oo = 7 ∨ oo = 22) {t : (Unit) ⊕ (Int32)} (K : (match (generalizing := false) t with | .inl v => ∀ (z2 : Option Value), zEv (zXs Ls xs) d zm_9 (40, [some (.ref oo), some (.int x1), z2], [], zhp h) r | .inr p => (some (.int p), zhp h) = r)) (n : Nat) (s : Int32) (H : zloop (qCe_lifeOf_b2 oo x1 h) n s = some t) : zEv (zXs Ls xs) d zm_9 (2, [some (.ref oo), some (.int x1), some (.int s)], [], zhp h) r := by
  have Z := zloop_P (P := fun s => zEv (zXs Ls xs) d zm_9 (2, [some (.ref oo), some (.int x1), some (.int s)], [], zhp h) r) (b := qCe_lifeOf_b2 oo x1 h) (t := t) (fun s s2 hb hk => by exact t_qCe_lifeOf_b2b ho hb hk) (fun s hb => by rcases t with v | p <;> (exact t_qCe_lifeOf_b2b ho hb K)) n s H
  exact Z
def qCe_lifeOf (oo : Nat) (x1 : Int32) (h : zK) : Option (Int32) :=
  (zloop (qCe_lifeOf_b2 oo x1 h) zfu 1).bind fun t4 => match t4 with
  | .inr p => some p
  | .inl v5 =>
    some (-1)
theorem t_qCe_lifeOf {Ls : Nat} {xs : Nat → Int32} {d : Nat} {oo : Nat} {x1 : Int32} {h : zK} {p : Int32} (ho : oo = 7 ∨ oo = 22) (H : qCe_lifeOf oo x1 h = some p) : zEv (zXs Ls xs) d zm_9 (0, [some (.ref oo), some (.int x1), none], [], zhp h) (some (.int p), zhp h) := by
  unfold qCe_lifeOf at H
  rcases ho with rfl | rfl
  · refine zEv_k 2 (f' := (2, [some (.ref 7), some (.int x1), some (.int 1)], [], zhp h)) rfl ?_
    obtain ⟨t4, ht4, H⟩ := zbs H
    refine t_qCe_lifeOf_b2 (oo := 7) (x1 := x1) (h := h) (by decide) ?_ zfu _ ht4
    rcases t4 with v5 | p
    · intro y2
      dsimp only at H
      refine zEv_k 1 (f' := (41, [some (.ref 7), some (.int x1), y2], [.int (-1)], zhp h)) rfl ?_
      cases H
      exact zEv_r rfl
    · cases H
      exact rfl
  · refine zEv_k 2 (f' := (2, [some (.ref 22), some (.int x1), some (.int 1)], [], zhp h)) rfl ?_
    obtain ⟨t4, ht4, H⟩ := zbs H
    refine t_qCe_lifeOf_b2 (oo := 22) (x1 := x1) (h := h) (by decide) ?_ zfu _ ht4
    rcases t4 with v5 | p
    · intro y2
      dsimp only at H
      refine zEv_k 1 (f' := (41, [some (.ref 22), some (.int x1), y2], [.int (-1)], zhp h)) rfl ?_
      cases H
      exact zEv_r rfl
    · cases H
      exact rfl
