def qTr_cut_b13 (oo : Nat) (x1 : Int32) (h : zK) (s : Int32 × Int32) : Option ((Int32 × Int32) ⊕ (Int32)) :=
  if x1 ≤ s.2 then
    some (.inr s.1)
  else
    Option.bind (
        if (qIn_bitCount s.1) ≤ (qIn_bitCount s.2) then
          some s.1
        else
          (qTr_isCalmWithout oo s.2 h).bind fun p4 =>
          if p4 = 0 then
            some s.1
          else
            some s.2
      ) fun (v3 : Int32) =>
    some (.inl (v3, s.2 + 1))
theorem t_qTr_cut_b13b {Ls : Nat} {xs : Nat → Int32} {d : Nat} {oo : Nat} {x1 : Int32} {h : zK} {r : zA} {s : Int32 × Int32} {e : (Int32 × Int32) ⊕ (Int32)} (ho : oo = 180 ∨ oo = 186) (H : qTr_cut_b13 oo x1 h s = some e) (K : match (generalizing := false) e with | .inl s' => zEv (zXs Ls xs) (d + 2) zm_108 (13, [some (.ref oo), some (.int x1), some (.int s'.1), some (.int s'.2)], [], zhp h) r | .inr v => ∀ (z3 : Option Value), zEv (zXs Ls xs) (d + 2) zm_108 (45, [some (.ref oo), some (.int x1), some (.int v), z3], [], zhp h) r) : zEv (zXs Ls xs) (d + 2) zm_108 (13, [some (.ref oo), some (.int x1), some (.int s.1), some (.int s.2)], [], zhp h) r := by
  unfold qTr_cut_b13 at H
  rcases ho with rfl | rfl
  · refine zEv_k 3 (f' := (if x1 ≤ s.2 then 45 else 18, [some (.ref 180), some (.int x1), some (.int s.1), some (.int s.2)], [], zhp h)) rfl (zEv_if (fun c1 => ?_) (fun c1 => ?_))
    · replace H := zif_t c1 H
      cases H
      exact K _
    · replace H := zif_f c1 H
      obtain ⟨v3, hv3, H⟩ := zbs H
      have kv3 : zEv (zXs Ls xs) (d + 2) zm_108 (39, [some (.ref 180), some (.int x1), some (.int v3), some (.int s.2)], [], zhp h) r := by
        refine zEv_k 2 (f' := (13, [some (.ref 180), some (.int x1), some (.int v3), some (.int (s.2 + 1))], [], zhp h)) rfl ?_
        cases H
        exact K
      clear H
      refine zEv_k 1 (f' := (19, [some (.ref 180), some (.int x1), some (.int s.1), some (.int s.2)], [.int s.2], zhp h)) rfl ?_
      refine zEv_c (fun _ => rfl) rfl (t_qIn_bitCount (x0 := s.2) (h := h) (d := d + 1) rfl) rfl rfl ?_
      refine zEv_k 1 (f' := (23, [some (.ref 180), some (.int x1), some (.int s.1), some (.int s.2)], [.int s.1, .int (qIn_bitCount s.2)], zhp h)) rfl ?_
      refine zEv_c (fun _ => rfl) rfl (t_qIn_bitCount (x0 := s.1) (h := h) (d := d + 1) rfl) rfl rfl ?_
      refine zEv_k 1 (f' := (if (qIn_bitCount s.1) ≤ (qIn_bitCount s.2) then 39 else 29, [some (.ref 180), some (.int x1), some (.int s.1), some (.int s.2)], [], zhp h)) rfl (zEv_if (fun c2 => ?_) (fun c2 => ?_))
      · replace hv3 := zif_t c2 hv3
        cases hv3
        exact kv3
      · replace hv3 := zif_f c2 hv3
        refine zEv_k 2 (f' := (31, [some (.ref 180), some (.int x1), some (.int s.1), some (.int s.2)], [.int s.2, .ref 180], zhp h)) rfl ?_
        obtain ⟨p4, hp4, hv3⟩ := zbs hv3
        refine zEv_c (fun _ => rfl) rfl (t_qTr_isCalmWithout (oo := 180) (x1 := s.2) (h := h) (d := d) (by decide) hp4) rfl rfl ?_
        refine zEv_k 1 (f' := (if p4 = 0 then 39 else 37, [some (.ref 180), some (.int x1), some (.int s.1), some (.int s.2)], [], zhp h)) rfl (zEv_if (fun c5 => ?_) (fun c5 => ?_))
        · replace hv3 := zif_t c5 hv3
          cases hv3
          exact kv3
        · replace hv3 := zif_f c5 hv3
          refine zEv_k 2 (f' := (39, [some (.ref 180), some (.int x1), some (.int s.2), some (.int s.2)], [], zhp h)) rfl ?_
          cases hv3
          exact kv3
  · refine zEv_k 3 (f' := (if x1 ≤ s.2 then 45 else 18, [some (.ref 186), some (.int x1), some (.int s.1), some (.int s.2)], [], zhp h)) rfl (zEv_if (fun c1 => ?_) (fun c1 => ?_))
    · replace H := zif_t c1 H
      cases H
      exact K _
    · replace H := zif_f c1 H
      obtain ⟨v3, hv3, H⟩ := zbs H
      have kv3 : zEv (zXs Ls xs) (d + 2) zm_108 (39, [some (.ref 186), some (.int x1), some (.int v3), some (.int s.2)], [], zhp h) r := by
        refine zEv_k 2 (f' := (13, [some (.ref 186), some (.int x1), some (.int v3), some (.int (s.2 + 1))], [], zhp h)) rfl ?_
        cases H
        exact K
      clear H
      refine zEv_k 1 (f' := (19, [some (.ref 186), some (.int x1), some (.int s.1), some (.int s.2)], [.int s.2], zhp h)) rfl ?_
      refine zEv_c (fun _ => rfl) rfl (t_qIn_bitCount (x0 := s.2) (h := h) (d := d + 1) rfl) rfl rfl ?_
      refine zEv_k 1 (f' := (23, [some (.ref 186), some (.int x1), some (.int s.1), some (.int s.2)], [.int s.1, .int (qIn_bitCount s.2)], zhp h)) rfl ?_
      refine zEv_c (fun _ => rfl) rfl (t_qIn_bitCount (x0 := s.1) (h := h) (d := d + 1) rfl) rfl rfl ?_
      refine zEv_k 1 (f' := (if (qIn_bitCount s.1) ≤ (qIn_bitCount s.2) then 39 else 29, [some (.ref 186), some (.int x1), some (.int s.1), some (.int s.2)], [], zhp h)) rfl (zEv_if (fun c2 => ?_) (fun c2 => ?_))
      · replace hv3 := zif_t c2 hv3
        cases hv3
        exact kv3
      · replace hv3 := zif_f c2 hv3
        refine zEv_k 2 (f' := (31, [some (.ref 186), some (.int x1), some (.int s.1), some (.int s.2)], [.int s.2, .ref 186], zhp h)) rfl ?_
        obtain ⟨p4, hp4, hv3⟩ := zbs hv3
        refine zEv_c (fun _ => rfl) rfl (t_qTr_isCalmWithout (oo := 186) (x1 := s.2) (h := h) (d := d) (by decide) hp4) rfl rfl ?_
        refine zEv_k 1 (f' := (if p4 = 0 then 39 else 37, [some (.ref 186), some (.int x1), some (.int s.1), some (.int s.2)], [], zhp h)) rfl (zEv_if (fun c5 => ?_) (fun c5 => ?_))
        · replace hv3 := zif_t c5 hv3
          cases hv3
          exact kv3
        · replace hv3 := zif_f c5 hv3
          refine zEv_k 2 (f' := (39, [some (.ref 186), some (.int x1), some (.int s.2), some (.int s.2)], [], zhp h)) rfl ?_
          cases hv3
          exact kv3
theorem t_qTr_cut_b13 {Ls : Nat} {xs : Nat → Int32} {d : Nat} {oo : Nat} {x1 : Int32} {h : zK} {r : zA} (ho : oo = 180 ∨ oo = 186) {t : Int32} (K : ∀ (z3 : Option Value), zEv (zXs Ls xs) (d + 2) zm_108 (45, [some (.ref oo), some (.int x1), some (.int t), z3], [], zhp h) r) (n : Nat) (s : Int32 × Int32) (H : zloop (qTr_cut_b13 oo x1 h) n s = some t) : zEv (zXs Ls xs) (d + 2) zm_108 (13, [some (.ref oo), some (.int x1), some (.int s.1), some (.int s.2)], [], zhp h) r := by
  have Z := zloop_P (P := fun s => zEv (zXs Ls xs) (d + 2) zm_108 (13, [some (.ref oo), some (.int x1), some (.int s.1), some (.int s.2)], [], zhp h) r) (b := qTr_cut_b13 oo x1 h) (t := t) (fun s s2 hb hk => by exact t_qTr_cut_b13b ho hb hk) (fun s hb => by exact t_qTr_cut_b13b ho hb K) n s H
  exact Z
def qTr_cut (oo : Nat) (h : zK) : Option (Int32) :=
  (zloop (qTr_cut_b13 oo (((1 : Int32) <<< ((gI h oo 0) &&& 31)) - 1) h) zfu (((1 : Int32) <<< ((gI h oo 0) &&& 31)) - 1, 0)).bind fun t6 =>
  some t6
theorem t_qTr_cut {Ls : Nat} {xs : Nat → Int32} {d : Nat} {oo : Nat} {h : zK} {p : Int32} (ho : oo = 180 ∨ oo = 186) (H : qTr_cut oo h = some p) : zEv (zXs Ls xs) (d + 2) zm_108 (0, [some (.ref oo), none, none, none], [], zhp h) (some (.int p), zhp h) := by
  unfold qTr_cut at H
  rcases ho with rfl | rfl
  · refine zEv_k 9 (f' := (11, [some (.ref 180), some (.int (((1 : Int32) <<< ((gI h 180 0) &&& 31)) - 1)), some (.int (((1 : Int32) <<< ((gI h 180 0) &&& 31)) - 1)), none], [], zhp h)) rfl ?_
    refine zEv_k 2 (f' := (13, [some (.ref 180), some (.int (((1 : Int32) <<< ((gI h 180 0) &&& 31)) - 1)), some (.int (((1 : Int32) <<< ((gI h 180 0) &&& 31)) - 1)), some (.int 0)], [], zhp h)) rfl ?_
    obtain ⟨t6, ht6, H⟩ := zbs H
    refine t_qTr_cut_b13 (oo := 180) (x1 := ((1 : Int32) <<< ((gI h 180 0) &&& 31)) - 1) (h := h) (by decide) ?_ zfu _ ht6
    intro y3
    refine zEv_k 1 (f' := (46, [some (.ref 180), some (.int (((1 : Int32) <<< ((gI h 180 0) &&& 31)) - 1)), some (.int t6), y3], [.int t6], zhp h)) rfl ?_
    cases H
    exact zEv_r rfl
  · refine zEv_k 9 (f' := (11, [some (.ref 186), some (.int (((1 : Int32) <<< ((gI h 186 0) &&& 31)) - 1)), some (.int (((1 : Int32) <<< ((gI h 186 0) &&& 31)) - 1)), none], [], zhp h)) rfl ?_
    refine zEv_k 2 (f' := (13, [some (.ref 186), some (.int (((1 : Int32) <<< ((gI h 186 0) &&& 31)) - 1)), some (.int (((1 : Int32) <<< ((gI h 186 0) &&& 31)) - 1)), some (.int 0)], [], zhp h)) rfl ?_
    obtain ⟨t6, ht6, H⟩ := zbs H
    refine t_qTr_cut_b13 (oo := 186) (x1 := ((1 : Int32) <<< ((gI h 186 0) &&& 31)) - 1) (h := h) (by decide) ?_ zfu _ ht6
    intro y3
    refine zEv_k 1 (f' := (46, [some (.ref 186), some (.int (((1 : Int32) <<< ((gI h 186 0) &&& 31)) - 1)), some (.int t6), y3], [.int t6], zhp h)) rfl ?_
    cases H
    exact zEv_r rfl
def qTr_exchange (oo : Nat) (x1 : Int32) (x2 : Int32) (h : zK) : Option (zK) :=
  (zix x1 7).bind fun j1 =>
  (zix x2 7).bind fun j2 =>
  zlet (sI h (oo + 3) j1 (gI h (oo + 3) j2)) fun h3 =>
  zlet (sI h3 (oo + 3) j2 (gI h (oo + 3) j1)) fun h4 =>
  (qTr_layOut oo h4).bind fun p5 =>
  some p5
theorem t_qTr_exchange {Ls : Nat} {xs : Nat → Int32} {d : Nat} {oo : Nat} {x1 : Int32} {x2 : Int32} {h : zK} {p : zK} (ho : oo = 180 ∨ oo = 186) (H : qTr_exchange oo x1 x2 h = some p) : zEv (zXs Ls xs) (d + 2) zm_111 (0, [some (.ref oo), some (.int x1), some (.int x2), none], [], zhp h) (none, zhp p) := by
  unfold qTr_exchange at H
  rcases ho with rfl | rfl
  · refine zEv_k 1 (f' := (1, [some (.ref 180), some (.int x1), some (.int x2), none], [.ref 180], zhp h)) rfl ?_
    refine zRgr rfl rfl rfl (by decide) (b := 180 + 3) rfl ?_
    refine zEv_k 1 (f' := (5, [some (.ref 180), some (.int x1), some (.int x2), none], [.int x1, .ref (180 + 3)], zhp h)) rfl ?_
    obtain ⟨j1, hj1, H⟩ := zbs H
    refine zRia rfl rfl (by decide) hj1 ?_
    refine zEv_k 2 (f' := (8, [some (.ref 180), some (.int x1), some (.int x2), some (.int (gI h (180 + 3) j1))], [.ref 180], zhp h)) rfl ?_
    refine zRgr rfl rfl rfl (by decide) (b := 180 + 3) rfl ?_
    refine zEv_k 2 (f' := (13, [some (.ref 180), some (.int x1), some (.int x2), some (.int (gI h (180 + 3) j1))], [.ref 180, .int x1, .ref (180 + 3)], zhp h)) rfl ?_
    refine zRgr rfl rfl rfl (by decide) (b := 180 + 3) rfl ?_
    refine zEv_k 1 (f' := (17, [some (.ref 180), some (.int x1), some (.int x2), some (.int (gI h (180 + 3) j1))], [.int x2, .ref (180 + 3), .int x1, .ref (180 + 3)], zhp h)) rfl ?_
    obtain ⟨j2, hj2, H⟩ := zbs H
    refine zRia rfl rfl (by decide) hj2 ?_
    obtain ⟨h3, eh3, H⟩ := zlets H
    refine zRis rfl rfl (by decide) hj1 eh3 ?_
    refine zEv_k 1 (f' := (20, [some (.ref 180), some (.int x1), some (.int x2), some (.int (gI h (180 + 3) j1))], [.ref 180], zhp h3)) rfl ?_
    refine zRgr rfl rfl rfl (by decide) (b := 180 + 3) rfl ?_
    refine zEv_k 2 (f' := (25, [some (.ref 180), some (.int x1), some (.int x2), some (.int (gI h (180 + 3) j1))], [.int (gI h (180 + 3) j1), .int x2, .ref (180 + 3)], zhp h3)) rfl ?_
    obtain ⟨h4, eh4, H⟩ := zlets H
    refine zRis rfl rfl (by decide) hj2 eh4 ?_
    refine zEv_k 1 (f' := (27, [some (.ref 180), some (.int x1), some (.int x2), some (.int (gI h (180 + 3) j1))], [.ref 180], zhp h4)) rfl ?_
    obtain ⟨p5, hp5, H⟩ := zbs H
    refine zEv_c (fun _ => rfl) rfl (t_qTr_layOut (oo := 180) (h := h4) (d := d) (by decide) hp5) rfl rfl ?_
    cases H
    exact zEv_r rfl
  · refine zEv_k 1 (f' := (1, [some (.ref 186), some (.int x1), some (.int x2), none], [.ref 186], zhp h)) rfl ?_
    refine zRgr rfl rfl rfl (by decide) (b := 186 + 3) rfl ?_
    refine zEv_k 1 (f' := (5, [some (.ref 186), some (.int x1), some (.int x2), none], [.int x1, .ref (186 + 3)], zhp h)) rfl ?_
    obtain ⟨j1, hj1, H⟩ := zbs H
    refine zRia rfl rfl (by decide) hj1 ?_
    refine zEv_k 2 (f' := (8, [some (.ref 186), some (.int x1), some (.int x2), some (.int (gI h (186 + 3) j1))], [.ref 186], zhp h)) rfl ?_
    refine zRgr rfl rfl rfl (by decide) (b := 186 + 3) rfl ?_
    refine zEv_k 2 (f' := (13, [some (.ref 186), some (.int x1), some (.int x2), some (.int (gI h (186 + 3) j1))], [.ref 186, .int x1, .ref (186 + 3)], zhp h)) rfl ?_
    refine zRgr rfl rfl rfl (by decide) (b := 186 + 3) rfl ?_
    refine zEv_k 1 (f' := (17, [some (.ref 186), some (.int x1), some (.int x2), some (.int (gI h (186 + 3) j1))], [.int x2, .ref (186 + 3), .int x1, .ref (186 + 3)], zhp h)) rfl ?_
    obtain ⟨j2, hj2, H⟩ := zbs H
    refine zRia rfl rfl (by decide) hj2 ?_
    obtain ⟨h3, eh3, H⟩ := zlets H
    refine zRis rfl rfl (by decide) hj1 eh3 ?_
    refine zEv_k 1 (f' := (20, [some (.ref 186), some (.int x1), some (.int x2), some (.int (gI h (186 + 3) j1))], [.ref 186], zhp h3)) rfl ?_
    refine zRgr rfl rfl rfl (by decide) (b := 186 + 3) rfl ?_
    refine zEv_k 2 (f' := (25, [some (.ref 186), some (.int x1), some (.int x2), some (.int (gI h (186 + 3) j1))], [.int (gI h (186 + 3) j1), .int x2, .ref (186 + 3)], zhp h3)) rfl ?_
    obtain ⟨h4, eh4, H⟩ := zlets H
    refine zRis rfl rfl (by decide) hj2 eh4 ?_
    refine zEv_k 1 (f' := (27, [some (.ref 186), some (.int x1), some (.int x2), some (.int (gI h (186 + 3) j1))], [.ref 186], zhp h4)) rfl ?_
    obtain ⟨p5, hp5, H⟩ := zbs H
    refine zEv_c (fun _ => rfl) rfl (t_qTr_layOut (oo := 186) (h := h4) (d := d) (by decide) hp5) rfl rfl ?_
    cases H
    exact zEv_r rfl
def qTr_pair_b26 (oo : Nat) (x3 : Int32) (s : Int32 × Int32 × Int32 × zK) : Option ((Int32 × Int32 × Int32 × zK) ⊕ (Int32 × Int32 × zK)) :=
  if (gI s.2.2.2 oo 0) ≤ s.2.2.1 then
    some (.inr (s.1, s.2.1, s.2.2.2))
  else
    (qTr_exchange oo x3 s.2.2.1 s.2.2.2).bind fun p4 =>
    (qTr_greatest oo s.1 p4).bind fun p5 =>
    zlet (
        if s.1 ≤ p5 then
          (s.1, s.2.1)
        else
          (p5, (10 * x3) + s.2.2.1)
      ) fun (v7 : Int32 × Int32) =>
    (qTr_exchange oo x3 s.2.2.1 p4).bind fun p8 =>
    some (.inl (v7.1, v7.2, s.2.2.1 + 1, p8))
theorem t_qTr_pair_b26b {Ls : Nat} {xs : Nat → Int32} {d : Nat} {oo : Nat} {x3 : Int32} {r : zA} {s : Int32 × Int32 × Int32 × zK} {e : (Int32 × Int32 × Int32 × zK) ⊕ (Int32 × Int32 × zK)} (ho : oo = 180 ∨ oo = 186) (H : qTr_pair_b26 oo x3 s = some e) (K : match (generalizing := false) e with | .inl s' => ∀ (z5 : Option Value), zEv (zXs Ls xs) (d + 3) zm_110 (26, [some (.ref oo), some (.int s'.1), some (.int s'.2.1), some (.int x3), some (.int s'.2.2.1), z5], [], zhp s'.2.2.2) r | .inr v => ∀ (z4 : Option Value) (z5 : Option Value), zEv (zXs Ls xs) (d + 3) zm_110 (79, [some (.ref oo), some (.int v.1), some (.int v.2.1), some (.int x3), z4, z5], [], zhp v.2.2) r) (y5 : Option Value) : zEv (zXs Ls xs) (d + 3) zm_110 (26, [some (.ref oo), some (.int s.1), some (.int s.2.1), some (.int x3), some (.int s.2.2.1), y5], [], zhp s.2.2.2) r := by
  unfold qTr_pair_b26 at H
  rcases ho with rfl | rfl
  · refine zEv_k 4 (f' := (if (gI s.2.2.2 180 0) ≤ s.2.2.1 then 79 else 35, [some (.ref 180), some (.int s.1), some (.int s.2.1), some (.int x3), some (.int s.2.2.1), y5], [], zhp s.2.2.2)) rfl (zEv_if (fun c3 => ?_) (fun c3 => ?_))
    · replace H := zif_t c3 H
      cases H
      exact K _ _
    · replace H := zif_f c3 H
      refine zEv_k 3 (f' := (39, [some (.ref 180), some (.int s.1), some (.int s.2.1), some (.int x3), some (.int s.2.2.1), y5], [.int s.2.2.1, .int x3, .ref 180], zhp s.2.2.2)) rfl ?_
      obtain ⟨p4, hp4, H⟩ := zbs H
      refine zEv_c (fun _ => rfl) rfl (t_qTr_exchange (oo := 180) (x1 := x3) (x2 := s.2.2.1) (h := s.2.2.2) (d := d) (by decide) hp4) rfl rfl ?_
      refine zEv_k 2 (f' := (44, [some (.ref 180), some (.int s.1), some (.int s.2.1), some (.int x3), some (.int s.2.2.1), y5], [.int s.1, .ref 180], zhp p4)) rfl ?_
      obtain ⟨p5, hp5, H⟩ := zbs H
      refine zEv_c (fun _ => rfl) rfl (t_qTr_greatest (oo := 180) (x1 := s.1) (h := p4) (d := d) (by decide) hp5) rfl rfl ?_
      obtain ⟨v7, hv7, H⟩ := zlets H
      have kv7 : zEv (zXs Ls xs) (d + 3) zm_110 (66, [some (.ref 180), some (.int v7.1), some (.int v7.2), some (.int x3), some (.int s.2.2.1), some (.int p5)], [], zhp p4) r := by
        refine zEv_k 3 (f' := (70, [some (.ref 180), some (.int v7.1), some (.int v7.2), some (.int x3), some (.int s.2.2.1), some (.int p5)], [.int s.2.2.1, .int x3, .ref 180], zhp p4)) rfl ?_
        obtain ⟨p8, hp8, H⟩ := zbs H
        refine zEv_c (fun _ => rfl) rfl (t_qTr_exchange (oo := 180) (x1 := x3) (x2 := s.2.2.1) (h := p4) (d := d) (by decide) hp8) rfl rfl ?_
        refine zEv_k 2 (f' := (26, [some (.ref 180), some (.int v7.1), some (.int v7.2), some (.int x3), some (.int (s.2.2.1 + 1)), some (.int p5)], [], zhp p8)) rfl ?_
        cases H
        exact K _
      clear H
      refine zEv_k 4 (f' := (if s.1 ≤ p5 then 66 else 55, [some (.ref 180), some (.int s.1), some (.int s.2.1), some (.int x3), some (.int s.2.2.1), some (.int p5)], [], zhp p4)) rfl (zEv_if (fun c6 => ?_) (fun c6 => ?_))
      · replace hv7 := zif_t c6 hv7
        cases hv7
        exact kv7
      · replace hv7 := zif_f c6 hv7
        refine zEv_k 8 (f' := (66, [some (.ref 180), some (.int p5), some (.int ((10 * x3) + s.2.2.1)), some (.int x3), some (.int s.2.2.1), some (.int p5)], [], zhp p4)) rfl ?_
        cases hv7
        exact kv7
  · refine zEv_k 4 (f' := (if (gI s.2.2.2 186 0) ≤ s.2.2.1 then 79 else 35, [some (.ref 186), some (.int s.1), some (.int s.2.1), some (.int x3), some (.int s.2.2.1), y5], [], zhp s.2.2.2)) rfl (zEv_if (fun c3 => ?_) (fun c3 => ?_))
    · replace H := zif_t c3 H
      cases H
      exact K _ _
    · replace H := zif_f c3 H
      refine zEv_k 3 (f' := (39, [some (.ref 186), some (.int s.1), some (.int s.2.1), some (.int x3), some (.int s.2.2.1), y5], [.int s.2.2.1, .int x3, .ref 186], zhp s.2.2.2)) rfl ?_
      obtain ⟨p4, hp4, H⟩ := zbs H
      refine zEv_c (fun _ => rfl) rfl (t_qTr_exchange (oo := 186) (x1 := x3) (x2 := s.2.2.1) (h := s.2.2.2) (d := d) (by decide) hp4) rfl rfl ?_
      refine zEv_k 2 (f' := (44, [some (.ref 186), some (.int s.1), some (.int s.2.1), some (.int x3), some (.int s.2.2.1), y5], [.int s.1, .ref 186], zhp p4)) rfl ?_
      obtain ⟨p5, hp5, H⟩ := zbs H
      refine zEv_c (fun _ => rfl) rfl (t_qTr_greatest (oo := 186) (x1 := s.1) (h := p4) (d := d) (by decide) hp5) rfl rfl ?_
      obtain ⟨v7, hv7, H⟩ := zlets H
      have kv7 : zEv (zXs Ls xs) (d + 3) zm_110 (66, [some (.ref 186), some (.int v7.1), some (.int v7.2), some (.int x3), some (.int s.2.2.1), some (.int p5)], [], zhp p4) r := by
        refine zEv_k 3 (f' := (70, [some (.ref 186), some (.int v7.1), some (.int v7.2), some (.int x3), some (.int s.2.2.1), some (.int p5)], [.int s.2.2.1, .int x3, .ref 186], zhp p4)) rfl ?_
        obtain ⟨p8, hp8, H⟩ := zbs H
        refine zEv_c (fun _ => rfl) rfl (t_qTr_exchange (oo := 186) (x1 := x3) (x2 := s.2.2.1) (h := p4) (d := d) (by decide) hp8) rfl rfl ?_
        refine zEv_k 2 (f' := (26, [some (.ref 186), some (.int v7.1), some (.int v7.2), some (.int x3), some (.int (s.2.2.1 + 1)), some (.int p5)], [], zhp p8)) rfl ?_
        cases H
        exact K _
      clear H
      refine zEv_k 4 (f' := (if s.1 ≤ p5 then 66 else 55, [some (.ref 186), some (.int s.1), some (.int s.2.1), some (.int x3), some (.int s.2.2.1), some (.int p5)], [], zhp p4)) rfl (zEv_if (fun c6 => ?_) (fun c6 => ?_))
      · replace hv7 := zif_t c6 hv7
        cases hv7
        exact kv7
      · replace hv7 := zif_f c6 hv7
        refine zEv_k 8 (f' := (66, [some (.ref 186), some (.int p5), some (.int ((10 * x3) + s.2.2.1)), some (.int x3), some (.int s.2.2.1), some (.int p5)], [], zhp p4)) rfl ?_
        cases hv7
        exact kv7
theorem t_qTr_pair_b26 {Ls : Nat} {xs : Nat → Int32} {d : Nat} {oo : Nat} {x3 : Int32} {r : zA} (ho : oo = 180 ∨ oo = 186) {t : Int32 × Int32 × zK} (K : ∀ (z4 : Option Value) (z5 : Option Value), zEv (zXs Ls xs) (d + 3) zm_110 (79, [some (.ref oo), some (.int t.1), some (.int t.2.1), some (.int x3), z4, z5], [], zhp t.2.2) r) (n : Nat) (s : Int32 × Int32 × Int32 × zK) (H : zloop (qTr_pair_b26 oo x3) n s = some t) (y5 : Option Value) : zEv (zXs Ls xs) (d + 3) zm_110 (26, [some (.ref oo), some (.int s.1), some (.int s.2.1), some (.int x3), some (.int s.2.2.1), y5], [], zhp s.2.2.2) r := by
  have Z := zloop_P (P := fun s => ∀ (y5 : Option Value), zEv (zXs Ls xs) (d + 3) zm_110 (26, [some (.ref oo), some (.int s.1), some (.int s.2.1), some (.int x3), some (.int s.2.2.1), y5], [], zhp s.2.2.2) r) (b := qTr_pair_b26 oo x3) (t := t) (fun s s2 hb hk => by intro y5; exact t_qTr_pair_b26b ho hb hk y5) (fun s hb => by intro y5; exact t_qTr_pair_b26b ho hb K y5) n s H
  exact Z y5
def qTr_pair_b13 (oo : Nat) (s : Int32 × Int32 × Int32 × zK) : Option ((Int32 × Int32 × Int32 × zK) ⊕ (Int32 × zK)) :=
  if (gI s.2.2.2 oo 0) ≤ s.2.2.1 then
    some (.inr (s.2.1, s.2.2.2))
  else
    (zloop (qTr_pair_b26 oo s.2.2.1) zfu (s.1, s.2.1, s.2.2.1 + 1, s.2.2.2)).bind fun t9 =>
    some (.inl (t9.1, t9.2.1, s.2.2.1 + 1, t9.2.2))
theorem t_qTr_pair_b13b {Ls : Nat} {xs : Nat → Int32} {d : Nat} {oo : Nat} {r : zA} {s : Int32 × Int32 × Int32 × zK} {e : (Int32 × Int32 × Int32 × zK) ⊕ (Int32 × zK)} (ho : oo = 180 ∨ oo = 186) (H : qTr_pair_b13 oo s = some e) (K : match (generalizing := false) e with | .inl s' => ∀ (z4 : Option Value) (z5 : Option Value), zEv (zXs Ls xs) (d + 3) zm_110 (13, [some (.ref oo), some (.int s'.1), some (.int s'.2.1), some (.int s'.2.2.1), z4, z5], [], zhp s'.2.2.2) r | .inr v => ∀ (z1 : Option Value) (z3 : Option Value) (z4 : Option Value) (z5 : Option Value), zEv (zXs Ls xs) (d + 3) zm_110 (85, [some (.ref oo), z1, some (.int v.1), z3, z4, z5], [], zhp v.2) r) (y4 : Option Value) (y5 : Option Value) : zEv (zXs Ls xs) (d + 3) zm_110 (13, [some (.ref oo), some (.int s.1), some (.int s.2.1), some (.int s.2.2.1), y4, y5], [], zhp s.2.2.2) r := by
  unfold qTr_pair_b13 at H
  rcases ho with rfl | rfl
  · refine zEv_k 4 (f' := (if (gI s.2.2.2 180 0) ≤ s.2.2.1 then 85 else 21, [some (.ref 180), some (.int s.1), some (.int s.2.1), some (.int s.2.2.1), y4, y5], [], zhp s.2.2.2)) rfl (zEv_if (fun c2 => ?_) (fun c2 => ?_))
    · replace H := zif_t c2 H
      cases H
      exact K _ _ _ _
    · replace H := zif_f c2 H
      refine zEv_k 4 (f' := (26, [some (.ref 180), some (.int s.1), some (.int s.2.1), some (.int s.2.2.1), some (.int (s.2.2.1 + 1)), y5], [], zhp s.2.2.2)) rfl ?_
      obtain ⟨t9, ht9, H⟩ := zbs H
      refine t_qTr_pair_b26 (oo := 180) (x3 := s.2.2.1) (by decide) ?_ zfu _ ht9 _
      intro y4 y5
      refine zEv_k 2 (f' := (13, [some (.ref 180), some (.int t9.1), some (.int t9.2.1), some (.int (s.2.2.1 + 1)), y4, y5], [], zhp t9.2.2)) rfl ?_
      cases H
      exact K _ _
  · refine zEv_k 4 (f' := (if (gI s.2.2.2 186 0) ≤ s.2.2.1 then 85 else 21, [some (.ref 186), some (.int s.1), some (.int s.2.1), some (.int s.2.2.1), y4, y5], [], zhp s.2.2.2)) rfl (zEv_if (fun c2 => ?_) (fun c2 => ?_))
    · replace H := zif_t c2 H
      cases H
      exact K _ _ _ _
    · replace H := zif_f c2 H
      refine zEv_k 4 (f' := (26, [some (.ref 186), some (.int s.1), some (.int s.2.1), some (.int s.2.2.1), some (.int (s.2.2.1 + 1)), y5], [], zhp s.2.2.2)) rfl ?_
      obtain ⟨t9, ht9, H⟩ := zbs H
      refine t_qTr_pair_b26 (oo := 186) (x3 := s.2.2.1) (by decide) ?_ zfu _ ht9 _
      intro y4 y5
      refine zEv_k 2 (f' := (13, [some (.ref 186), some (.int t9.1), some (.int t9.2.1), some (.int (s.2.2.1 + 1)), y4, y5], [], zhp t9.2.2)) rfl ?_
      cases H
      exact K _ _
theorem t_qTr_pair_b13 {Ls : Nat} {xs : Nat → Int32} {d : Nat} {oo : Nat} {r : zA} (ho : oo = 180 ∨ oo = 186) {t : Int32 × zK} (K : ∀ (z1 : Option Value) (z3 : Option Value) (z4 : Option Value) (z5 : Option Value), zEv (zXs Ls xs) (d + 3) zm_110 (85, [some (.ref oo), z1, some (.int t.1), z3, z4, z5], [], zhp t.2) r) (n : Nat) (s : Int32 × Int32 × Int32 × zK) (H : zloop (qTr_pair_b13 oo) n s = some t) (y4 : Option Value) (y5 : Option Value) : zEv (zXs Ls xs) (d + 3) zm_110 (13, [some (.ref oo), some (.int s.1), some (.int s.2.1), some (.int s.2.2.1), y4, y5], [], zhp s.2.2.2) r := by
  have Z := zloop_P (P := fun s => ∀ (y4 : Option Value) (y5 : Option Value), zEv (zXs Ls xs) (d + 3) zm_110 (13, [some (.ref oo), some (.int s.1), some (.int s.2.1), some (.int s.2.2.1), y4, y5], [], zhp s.2.2.2) r) (b := qTr_pair_b13 oo) (t := t) (fun s s2 hb hk => by intro y4 y5; exact t_qTr_pair_b13b ho hb hk y4 y5) (fun s hb => by intro y4 y5; exact t_qTr_pair_b13b ho hb K y4 y5) n s H
  exact Z y4 y5
def qTr_pair (oo : Nat) (h : zK) : Option (Int32 × zK) :=
  (qTr_greatest oo (gI h oo 0) h).bind fun p1 =>
  (zloop (qTr_pair_b13 oo) zfu (p1, -1, 0, h)).bind fun t11 =>
  some (t11.1, t11.2)
theorem t_qTr_pair {Ls : Nat} {xs : Nat → Int32} {d : Nat} {oo : Nat} {h : zK} {p : Int32 × zK} (ho : oo = 180 ∨ oo = 186) (H : qTr_pair oo h = some p) : zEv (zXs Ls xs) (d + 3) zm_110 (0, [some (.ref oo), none, none, none, none, none], [], zhp h) (some (.int p.1), zhp p.2) := by
  unfold qTr_pair at H
  rcases ho with rfl | rfl
  · refine zEv_k 3 (f' := (5, [some (.ref 180), none, none, none, none, none], [.int (gI h 180 0), .ref 180], zhp h)) rfl ?_
    obtain ⟨p1, hp1, H⟩ := zbs H
    refine zEv_c (fun _ => rfl) rfl (t_qTr_greatest (oo := 180) (x1 := gI h 180 0) (h := h) (d := d) (by decide) hp1) rfl rfl ?_
    refine zEv_k 5 (f' := (13, [some (.ref 180), some (.int p1), some (.int (-1)), some (.int 0), none, none], [], zhp h)) rfl ?_
    obtain ⟨t11, ht11, H⟩ := zbs H
    refine t_qTr_pair_b13 (oo := 180) (by decide) ?_ zfu _ ht11 _ _
    intro y1 y3 y4 y5
    refine zEv_k 1 (f' := (86, [some (.ref 180), y1, some (.int t11.1), y3, y4, y5], [.int t11.1], zhp t11.2)) rfl ?_
    cases H
    exact zEv_r rfl
  · refine zEv_k 3 (f' := (5, [some (.ref 186), none, none, none, none, none], [.int (gI h 186 0), .ref 186], zhp h)) rfl ?_
    obtain ⟨p1, hp1, H⟩ := zbs H
    refine zEv_c (fun _ => rfl) rfl (t_qTr_greatest (oo := 186) (x1 := gI h 186 0) (h := h) (d := d) (by decide) hp1) rfl rfl ?_
    refine zEv_k 5 (f' := (13, [some (.ref 186), some (.int p1), some (.int (-1)), some (.int 0), none, none], [], zhp h)) rfl ?_
    obtain ⟨t11, ht11, H⟩ := zbs H
    refine t_qTr_pair_b13 (oo := 186) (by decide) ?_ zfu _ ht11 _ _
    intro y1 y3 y4 y5
    refine zEv_k 1 (f' := (86, [some (.ref 186), y1, some (.int t11.1), y3, y4, y5], [.int t11.1], zhp t11.2)) rfl ?_
    cases H
    exact zEv_r rfl
def qC_feed (x1 : Int32) (x2 : Int32) (x3 : Int32) (x4 : Int32) (x5 : Int32) (h : zK) : Option (Int32 × zK) :=
  if ((gI h 1 1) + 20) ≤ 600 then
    (qT_push x1 h).bind fun p2 =>
    (qT_push x2 p2).bind fun p3 =>
    (qT_push x3 p3).bind fun p4 =>
    (qT_push x4 p4).bind fun p5 =>
    (qT_push x5 p5).bind fun p6 =>
    some (gI p6 1 1, p6)
  else
    some (-1, h)
theorem t_qC_feed {Ls : Nat} {xs : Nat → Int32} {d : Nat} {x1 : Int32} {x2 : Int32} {x3 : Int32} {x4 : Int32} {x5 : Int32} {h : zK} {p : Int32 × zK} (H : qC_feed x1 x2 x3 x4 x5 h = some p) : zEv (zXs Ls xs) (d + 1) zm_113 (0, [some (.ref 0), some (.int x1), some (.int x2), some (.int x3), some (.int x4), some (.int x5)], [], zhp h) (some (.int p.1), zhp p.2) := by
  unfold qC_feed at H
  refine zEv_k 1 (f' := (1, [some (.ref 0), some (.int x1), some (.int x2), some (.int x3), some (.int x4), some (.int x5)], [.ref 0], zhp h)) rfl ?_
  refine zRgr rfl rfl rfl (by decide) (b := 1) rfl ?_
  refine zEv_k 5 (f' := (if ((gI h 1 1) + 20) ≤ 600 then 18 else 16, [some (.ref 0), some (.int x1), some (.int x2), some (.int x3), some (.int x4), some (.int x5)], [], zhp h)) rfl (zEv_if (fun c1 => ?_) (fun c1 => ?_))
  · replace H := zif_t c1 H
    refine zEv_k 1 (f' := (19, [some (.ref 0), some (.int x1), some (.int x2), some (.int x3), some (.int x4), some (.int x5)], [.ref 0], zhp h)) rfl ?_
    refine zRgr rfl rfl rfl (by decide) (b := 1) rfl ?_
    refine zEv_k 1 (f' := (23, [some (.ref 0), some (.int x1), some (.int x2), some (.int x3), some (.int x4), some (.int x5)], [.int x1, .ref 1], zhp h)) rfl ?_
    obtain ⟨p2, hp2, H⟩ := zbs H
    refine zEv_c (fun _ => rfl) rfl (t_qT_push (x1 := x1) (h := h) (d := d) hp2) rfl rfl ?_
    refine zEv_k 1 (f' := (27, [some (.ref 0), some (.int x1), some (.int x2), some (.int x3), some (.int x4), some (.int x5)], [.ref 0], zhp p2)) rfl ?_
    refine zRgr rfl rfl rfl (by decide) (b := 1) rfl ?_
    refine zEv_k 1 (f' := (31, [some (.ref 0), some (.int x1), some (.int x2), some (.int x3), some (.int x4), some (.int x5)], [.int x2, .ref 1], zhp p2)) rfl ?_
    obtain ⟨p3, hp3, H⟩ := zbs H
    refine zEv_c (fun _ => rfl) rfl (t_qT_push (x1 := x2) (h := p2) (d := d) hp3) rfl rfl ?_
    refine zEv_k 1 (f' := (35, [some (.ref 0), some (.int x1), some (.int x2), some (.int x3), some (.int x4), some (.int x5)], [.ref 0], zhp p3)) rfl ?_
    refine zRgr rfl rfl rfl (by decide) (b := 1) rfl ?_
    refine zEv_k 1 (f' := (39, [some (.ref 0), some (.int x1), some (.int x2), some (.int x3), some (.int x4), some (.int x5)], [.int x3, .ref 1], zhp p3)) rfl ?_
    obtain ⟨p4, hp4, H⟩ := zbs H
    refine zEv_c (fun _ => rfl) rfl (t_qT_push (x1 := x3) (h := p3) (d := d) hp4) rfl rfl ?_
    refine zEv_k 1 (f' := (43, [some (.ref 0), some (.int x1), some (.int x2), some (.int x3), some (.int x4), some (.int x5)], [.ref 0], zhp p4)) rfl ?_
    refine zRgr rfl rfl rfl (by decide) (b := 1) rfl ?_
    refine zEv_k 1 (f' := (48, [some (.ref 0), some (.int x1), some (.int x2), some (.int x3), some (.int x4), some (.int x5)], [.int x4, .ref 1], zhp p4)) rfl ?_
    obtain ⟨p5, hp5, H⟩ := zbs H
    refine zEv_c (fun _ => rfl) rfl (t_qT_push (x1 := x4) (h := p4) (d := d) hp5) rfl rfl ?_
    refine zEv_k 1 (f' := (52, [some (.ref 0), some (.int x1), some (.int x2), some (.int x3), some (.int x4), some (.int x5)], [.ref 0], zhp p5)) rfl ?_
    refine zRgr rfl rfl rfl (by decide) (b := 1) rfl ?_
    refine zEv_k 1 (f' := (57, [some (.ref 0), some (.int x1), some (.int x2), some (.int x3), some (.int x4), some (.int x5)], [.int x5, .ref 1], zhp p5)) rfl ?_
    obtain ⟨p6, hp6, H⟩ := zbs H
    refine zEv_c (fun _ => rfl) rfl (t_qT_push (x1 := x5) (h := p5) (d := d) hp6) rfl rfl ?_
    refine zEv_k 1 (f' := (61, [some (.ref 0), some (.int x1), some (.int x2), some (.int x3), some (.int x4), some (.int x5)], [.ref 0], zhp p6)) rfl ?_
    refine zRgr rfl rfl rfl (by decide) (b := 1) rfl ?_
    refine zEv_k 1 (f' := (67, [some (.ref 0), some (.int x1), some (.int x2), some (.int x3), some (.int x4), some (.int x5)], [.int (gI p6 1 1)], zhp p6)) rfl ?_
    cases H
    exact zEv_r rfl
  · replace H := zif_f c1 H
    refine zEv_k 1 (f' := (17, [some (.ref 0), some (.int x1), some (.int x2), some (.int x3), some (.int x4), some (.int x5)], [.int (-1)], zhp h)) rfl ?_
    cases H
    exact zEv_r rfl
def qC_end (x1 : Int32) (h : zK) : Option (Int32 × zK) :=
  if x1 < 0 then
    some (-1, h)
  else
    if x1 ≤ (gI h 1 1) then
      zlet (sI h 1 1 x1) fun h3 =>
      some (x1, h3)
    else
      some (-1, h)
theorem t_qC_end {Ls : Nat} {xs : Nat → Int32} {d : Nat} {x1 : Int32} {h : zK} {p : Int32 × zK} (H : qC_end x1 h = some p) : zEv (zXs Ls xs) d zm_114 (0, [some (.ref 0), some (.int x1)], [], zhp h) (some (.int p.1), zhp p.2) := by
  unfold qC_end at H
  refine zEv_k 2 (f' := (if x1 < 0 then 15 else 4, [some (.ref 0), some (.int x1)], [], zhp h)) rfl (zEv_if (fun c1 => ?_) (fun c1 => ?_))
  · replace H := zif_t c1 H
    refine zEv_k 1 (f' := (16, [some (.ref 0), some (.int x1)], [.int (-1)], zhp h)) rfl ?_
    cases H
    exact zEv_r rfl
  · replace H := zif_f c1 H
    refine zEv_k 2 (f' := (6, [some (.ref 0), some (.int x1)], [.ref 0, .int x1], zhp h)) rfl ?_
    refine zRgr rfl rfl rfl (by decide) (b := 1) rfl ?_
    refine zEv_k 2 (f' := (if x1 ≤ (gI h 1 1) then 17 else 15, [some (.ref 0), some (.int x1)], [], zhp h)) rfl (zEv_if (fun c2 => ?_) (fun c2 => ?_))
    · replace H := zif_t c2 H
      refine zEv_k 1 (f' := (18, [some (.ref 0), some (.int x1)], [.ref 0], zhp h)) rfl ?_
      refine zRgr rfl rfl rfl (by decide) (b := 1) rfl ?_
      obtain ⟨h3, eh3, H⟩ := zlets H
      refine zEv_w (F := fun z => (25, [some (.ref 0), some (.int x1)], [], zhp z)) (h0 := sI h 1 1 x1) 2 rfl eh3 ?_
      refine zEv_k 1 (f' := (26, [some (.ref 0), some (.int x1)], [.int x1], zhp h3)) rfl ?_
      cases H
      exact zEv_r rfl
    · replace H := zif_f c2 H
      refine zEv_k 1 (f' := (16, [some (.ref 0), some (.int x1)], [.int (-1)], zhp h)) rfl ?_
      cases H
      exact zEv_r rfl
def qC_forgetCellars (h : zK) : Option (zK) :=
  (qLa_forget h).bind fun p1 =>
  (qLw_forget p1).bind fun p2 =>
  some p2
theorem t_qC_forgetCellars {Ls : Nat} {xs : Nat → Int32} {d : Nat} {h : zK} {p : zK} (H : qC_forgetCellars h = some p) : zEv (zXs Ls xs) (d + 1) zm_143 (0, [some (.ref 0)], [], zhp h) (none, zhp p) := by
  unfold qC_forgetCellars at H
  refine zEv_k 1 (f' := (1, [some (.ref 0)], [.ref 0], zhp h)) rfl ?_
  refine zRgr rfl rfl rfl (by decide) (b := 184) rfl ?_
  obtain ⟨p1, hp1, H⟩ := zbs H
  refine zEv_c (fun _ => rfl) rfl (t_qLa_forget (h := h) (d := d) hp1) rfl rfl ?_
  refine zEv_k 1 (f' := (8, [some (.ref 0)], [.ref 0], zhp p1)) rfl ?_
  refine zRgr rfl rfl rfl (by decide) (b := 196) rfl ?_
  obtain ⟨p2, hp2, H⟩ := zbs H
  refine zEv_c (fun _ => rfl) rfl (t_qLw_forget (h := p1) (d := d) hp2) rfl rfl ?_
  cases H
  exact zEv_r rfl
def qC_text (x1 : Int32) (x2 : Int32) (h : zK) : Option (Int32 × zK) :=
  zlet (sI h 1 1 0) fun h1 =>
  zlet (sI h1 1 2 0) fun h2 =>
  zlet (sI h2 1 3 (-1)) fun h3 =>
  if x1 < 0 then
    some (-2, h3)
  else
    if x1 < 3 then
      Option.bind (
          if ¬ x2 = (-1) then
            some x2
          else
            (zix x1 3).bind fun j8 =>
            some (gI h3 3 j8)
        ) fun (v7 : Int32) =>
      Option.bind (
          if ¬ x2 = (-1) then
            (zix x1 3).bind fun j11 =>
            some (gI h3 3 j11)
          else
            some 2
        ) fun (v10 : Int32) =>
      if v7 < 0 then
        some (-2, h3)
      else
        if v7 < v10 then
          (qRe_read x1 (gI h 1 1) h3).bind fun p14 =>
          if (gI p14 147 3) = 0 then
            (qT_take x1 v7 p14).bind fun p16 =>
            if ¬ x1 = 0 then
              some (v7, p16)
            else
              (qC_forgetCellars p16).bind fun p18 =>
              some (v7, p18)
          else
            zlet (sI p14 1 2 (gI p14 147 3)) fun h19 =>
            zlet (sI h19 1 3 (gI h19 147 4)) fun h20 =>
            some (-1, h20)
        else
          some (-2, h3)
    else
      some (-2, h3)
theorem t_qC_text {Ls : Nat} {xs : Nat → Int32} {d : Nat} {x1 : Int32} {x2 : Int32} {h : zK} {p : Int32 × zK} (H : qC_text x1 x2 h = some p) : zEv (zXs Ls xs) (d + 5) zm_115 (0, [some (.ref 0), some (.int x1), some (.int x2), none, none, none], [], zhp h) (some (.int p.1), zhp p.2) := by
  unfold qC_text at H
  refine zEv_k 1 (f' := (1, [some (.ref 0), some (.int x1), some (.int x2), none, none, none], [.ref 0], zhp h)) rfl ?_
  refine zRgr rfl rfl rfl (by decide) (b := 1) rfl ?_
  refine zEv_k 3 (f' := (9, [some (.ref 0), some (.int x1), some (.int x2), some (.int (gI h 1 1)), none, none], [.ref 0], zhp h)) rfl ?_
  refine zRgr rfl rfl rfl (by decide) (b := 1) rfl ?_
  obtain ⟨h1, eh1, H⟩ := zlets H
  refine zEv_w (F := fun z => (16, [some (.ref 0), some (.int x1), some (.int x2), some (.int (gI h 1 1)), none, none], [], zhp z)) (h0 := sI h 1 1 0) 2 rfl eh1 ?_
  refine zEv_k 1 (f' := (17, [some (.ref 0), some (.int x1), some (.int x2), some (.int (gI h 1 1)), none, none], [.ref 0], zhp h1)) rfl ?_
  refine zRgr rfl rfl rfl (by decide) (b := 1) rfl ?_
  obtain ⟨h2, eh2, H⟩ := zlets H
  refine zEv_w (F := fun z => (24, [some (.ref 0), some (.int x1), some (.int x2), some (.int (gI h 1 1)), none, none], [], zhp z)) (h0 := sI h1 1 2 0) 2 rfl eh2 ?_
  refine zEv_k 1 (f' := (25, [some (.ref 0), some (.int x1), some (.int x2), some (.int (gI h 1 1)), none, none], [.ref 0], zhp h2)) rfl ?_
  refine zRgr rfl rfl rfl (by decide) (b := 1) rfl ?_
  obtain ⟨h3, eh3, H⟩ := zlets H
  refine zEv_w (F := fun z => (32, [some (.ref 0), some (.int x1), some (.int x2), some (.int (gI h 1 1)), none, none], [], zhp z)) (h0 := sI h2 1 3 (-1)) 2 rfl eh3 ?_
  refine zEv_k 2 (f' := (if x1 < 0 then 41 else 36, [some (.ref 0), some (.int x1), some (.int x2), some (.int (gI h 1 1)), none, none], [], zhp h3)) rfl (zEv_if (fun c4 => ?_) (fun c4 => ?_))
  · replace H := zif_t c4 H
    refine zEv_k 1 (f' := (43, [some (.ref 0), some (.int x1), some (.int x2), some (.int (gI h 1 1)), none, none], [.int (-2)], zhp h3)) rfl ?_
    cases H
    exact zEv_r rfl
  · replace H := zif_f c4 H
    refine zEv_k 3 (f' := (if x1 < 3 then 44 else 41, [some (.ref 0), some (.int x1), some (.int x2), some (.int (gI h 1 1)), none, none], [], zhp h3)) rfl (zEv_if (fun c5 => ?_) (fun c5 => ?_))
    · replace H := zif_t c5 H
      obtain ⟨v7, hv7, H⟩ := zbs H
      have kv7 : zEv (zXs Ls xs) (d + 5) zm_115 (62, [some (.ref 0), some (.int x1), some (.int x2), some (.int (gI h 1 1)), none, none], [.int v7], zhp h3) (some (.int p.1), zhp p.2) := by
        obtain ⟨v10, hv10, H⟩ := zbs H
        have kv10 : zEv (zXs Ls xs) (d + 5) zm_115 (82, [some (.ref 0), some (.int x1), some (.int x2), some (.int (gI h 1 1)), some (.int v7), none], [.int v10], zhp h3) (some (.int p.1), zhp p.2) := by
          refine zEv_k 3 (f' := (if v7 < 0 then 96 else 89, [some (.ref 0), some (.int x1), some (.int x2), some (.int (gI h 1 1)), some (.int v7), some (.int v10)], [], zhp h3)) rfl (zEv_if (fun c12 => ?_) (fun c12 => ?_))
          · replace H := zif_t c12 H
            refine zEv_k 1 (f' := (98, [some (.ref 0), some (.int x1), some (.int x2), some (.int (gI h 1 1)), some (.int v7), some (.int v10)], [.int (-2)], zhp h3)) rfl ?_
            cases H
            exact zEv_r rfl
          · replace H := zif_f c12 H
            refine zEv_k 3 (f' := (if v7 < v10 then 99 else 96, [some (.ref 0), some (.int x1), some (.int x2), some (.int (gI h 1 1)), some (.int v7), some (.int v10)], [], zhp h3)) rfl (zEv_if (fun c13 => ?_) (fun c13 => ?_))
            · replace H := zif_t c13 H
              refine zEv_k 1 (f' := (100, [some (.ref 0), some (.int x1), some (.int x2), some (.int (gI h 1 1)), some (.int v7), some (.int v10)], [.ref 0], zhp h3)) rfl ?_
              refine zRgr rfl rfl rfl (by decide) (b := 147) rfl ?_
              refine zEv_k 2 (f' := (105, [some (.ref 0), some (.int x1), some (.int x2), some (.int (gI h 1 1)), some (.int v7), some (.int v10)], [.ref 0, .int x1, .ref 147], zhp h3)) rfl ?_
              refine zRgr rfl rfl rfl (by decide) (b := 1) rfl ?_
              refine zRgr rfl rfl rfl (by decide) (b := 2) rfl ?_
              refine zEv_k 1 (f' := (112, [some (.ref 0), some (.int x1), some (.int x2), some (.int (gI h 1 1)), some (.int v7), some (.int v10)], [.int (gI h 1 1), .ref 2, .int x1, .ref 147], zhp h3)) rfl ?_
              obtain ⟨p14, hp14, H⟩ := zbs H
              refine zEv_c (fun _ => rfl) rfl (t_qRe_read (x1 := x1) (x3 := gI h 1 1) (h := h3) (d := d) hp14) rfl rfl ?_
              refine zEv_k 1 (f' := (116, [some (.ref 0), some (.int x1), some (.int x2), some (.int (gI h 1 1)), some (.int v7), some (.int v10)], [.ref 0], zhp p14)) rfl ?_
              refine zRgr rfl rfl rfl (by decide) (b := 147) rfl ?_
              refine zEv_k 2 (f' := (if (gI p14 147 3) = 0 then 155 else 125, [some (.ref 0), some (.int x1), some (.int x2), some (.int (gI h 1 1)), some (.int v7), some (.int v10)], [], zhp p14)) rfl (zEv_if (fun c15 => ?_) (fun c15 => ?_))
              · replace H := zif_t c15 H
                refine zEv_k 1 (f' := (156, [some (.ref 0), some (.int x1), some (.int x2), some (.int (gI h 1 1)), some (.int v7), some (.int v10)], [.ref 0], zhp p14)) rfl ?_
                refine zRgr rfl rfl rfl (by decide) (b := 1) rfl ?_
                refine zEv_k 1 (f' := (160, [some (.ref 0), some (.int x1), some (.int x2), some (.int (gI h 1 1)), some (.int v7), some (.int v10)], [.ref 0, .ref 1], zhp p14)) rfl ?_
                refine zRgr rfl rfl rfl (by decide) (b := 147) rfl ?_
                refine zEv_k 2 (f' := (166, [some (.ref 0), some (.int x1), some (.int x2), some (.int (gI h 1 1)), some (.int v7), some (.int v10)], [.int v7, .int x1, .ref 147, .ref 1], zhp p14)) rfl ?_
                obtain ⟨p16, hp16, H⟩ := zbs H
                refine zEv_c (fun _ => rfl) rfl (t_qT_take (x2 := x1) (x3 := v7) (h := p14) (d := d + 3) hp16) rfl rfl ?_
                refine zEv_k 2 (f' := (if ¬ x1 = 0 then 177 else 173, [some (.ref 0), some (.int x1), some (.int x2), some (.int (gI h 1 1)), some (.int v7), some (.int v10)], [], zhp p16)) rfl (zEv_if (fun c17 => ?_) (fun c17 => ?_))
                · replace H := zif_t c17 H
                  refine zEv_k 1 (f' := (179, [some (.ref 0), some (.int x1), some (.int x2), some (.int (gI h 1 1)), some (.int v7), some (.int v10)], [.int v7], zhp p16)) rfl ?_
                  cases H
                  exact zEv_r rfl
                · replace H := zif_f c17 H
                  refine zEv_k 1 (f' := (174, [some (.ref 0), some (.int x1), some (.int x2), some (.int (gI h 1 1)), some (.int v7), some (.int v10)], [.ref 0], zhp p16)) rfl ?_
                  obtain ⟨p18, hp18, H⟩ := zbs H
                  refine zEv_c (fun _ => rfl) rfl (t_qC_forgetCellars (h := p16) (d := d + 3) hp18) rfl rfl ?_
                  refine zEv_k 1 (f' := (179, [some (.ref 0), some (.int x1), some (.int x2), some (.int (gI h 1 1)), some (.int v7), some (.int v10)], [.int v7], zhp p18)) rfl ?_
                  cases H
                  exact zEv_r rfl
              · replace H := zif_f c15 H
                refine zEv_k 1 (f' := (126, [some (.ref 0), some (.int x1), some (.int x2), some (.int (gI h 1 1)), some (.int v7), some (.int v10)], [.ref 0], zhp p14)) rfl ?_
                refine zRgr rfl rfl rfl (by decide) (b := 1) rfl ?_
                refine zEv_k 1 (f' := (130, [some (.ref 0), some (.int x1), some (.int x2), some (.int (gI h 1 1)), some (.int v7), some (.int v10)], [.ref 0, .ref 1], zhp p14)) rfl ?_
                refine zRgr rfl rfl rfl (by decide) (b := 147) rfl ?_
                obtain ⟨h19, eh19, H⟩ := zlets H
                refine zEv_w (F := fun z => (139, [some (.ref 0), some (.int x1), some (.int x2), some (.int (gI h 1 1)), some (.int v7), some (.int v10)], [], zhp z)) (h0 := sI p14 1 2 (gI p14 147 3)) 2 rfl eh19 ?_
                refine zEv_k 1 (f' := (140, [some (.ref 0), some (.int x1), some (.int x2), some (.int (gI h 1 1)), some (.int v7), some (.int v10)], [.ref 0], zhp h19)) rfl ?_
                refine zRgr rfl rfl rfl (by decide) (b := 1) rfl ?_
                refine zEv_k 1 (f' := (144, [some (.ref 0), some (.int x1), some (.int x2), some (.int (gI h 1 1)), some (.int v7), some (.int v10)], [.ref 0, .ref 1], zhp h19)) rfl ?_
                refine zRgr rfl rfl rfl (by decide) (b := 147) rfl ?_
                obtain ⟨h20, eh20, H⟩ := zlets H
                refine zEv_w (F := fun z => (153, [some (.ref 0), some (.int x1), some (.int x2), some (.int (gI h 1 1)), some (.int v7), some (.int v10)], [], zhp z)) (h0 := sI h19 1 3 (gI h19 147 4)) 2 rfl eh20 ?_
                refine zEv_k 1 (f' := (154, [some (.ref 0), some (.int x1), some (.int x2), some (.int (gI h 1 1)), some (.int v7), some (.int v10)], [.int (-1)], zhp h20)) rfl ?_
                cases H
                exact zEv_r rfl
            · replace H := zif_f c13 H
              refine zEv_k 1 (f' := (98, [some (.ref 0), some (.int x1), some (.int x2), some (.int (gI h 1 1)), some (.int v7), some (.int v10)], [.int (-2)], zhp h3)) rfl ?_
              cases H
              exact zEv_r rfl
        clear H
        refine zEv_k 4 (f' := (if ¬ x2 = (-1) then 73 else 69, [some (.ref 0), some (.int x1), some (.int x2), some (.int (gI h 1 1)), some (.int v7), none], [], zhp h3)) rfl (zEv_if (fun c9 => ?_) (fun c9 => ?_))
        · replace hv10 := zif_t c9 hv10
          refine zEv_k 1 (f' := (74, [some (.ref 0), some (.int x1), some (.int x2), some (.int (gI h 1 1)), some (.int v7), none], [.ref 0], zhp h3)) rfl ?_
          refine zRgr rfl rfl rfl (by decide) (b := 1) rfl ?_
          refine zRgr rfl rfl rfl (by decide) (b := 3) rfl ?_
          refine zEv_k 1 (f' := (81, [some (.ref 0), some (.int x1), some (.int x2), some (.int (gI h 1 1)), some (.int v7), none], [.int x1, .ref 3], zhp h3)) rfl ?_
          obtain ⟨j11, hj11, hv10⟩ := zbs hv10
          refine zRia rfl rfl (by decide) hj11 ?_
          cases hv10
          exact kv10
        · replace hv10 := zif_f c9 hv10
          refine zEv_k 2 (f' := (82, [some (.ref 0), some (.int x1), some (.int x2), some (.int (gI h 1 1)), some (.int v7), none], [.int 2], zhp h3)) rfl ?_
          cases hv10
          exact kv10
      clear H
      refine zEv_k 3 (f' := (if ¬ x2 = (-1) then 61 else 49, [some (.ref 0), some (.int x1), some (.int x2), some (.int (gI h 1 1)), none, none], [], zhp h3)) rfl (zEv_if (fun c6 => ?_) (fun c6 => ?_))
      · replace hv7 := zif_t c6 hv7
        refine zEv_k 1 (f' := (62, [some (.ref 0), some (.int x1), some (.int x2), some (.int (gI h 1 1)), none, none], [.int x2], zhp h3)) rfl ?_
        cases hv7
        exact kv7
      · replace hv7 := zif_f c6 hv7
        refine zEv_k 1 (f' := (50, [some (.ref 0), some (.int x1), some (.int x2), some (.int (gI h 1 1)), none, none], [.ref 0], zhp h3)) rfl ?_
        refine zRgr rfl rfl rfl (by decide) (b := 1) rfl ?_
        refine zRgr rfl rfl rfl (by decide) (b := 3) rfl ?_
        refine zEv_k 1 (f' := (57, [some (.ref 0), some (.int x1), some (.int x2), some (.int (gI h 1 1)), none, none], [.int x1, .ref 3], zhp h3)) rfl ?_
        obtain ⟨j8, hj8, hv7⟩ := zbs hv7
        refine zRia rfl rfl (by decide) hj8 ?_
        refine zEv_k 1 (f' := (62, [some (.ref 0), some (.int x1), some (.int x2), some (.int (gI h 1 1)), none, none], [.int (gI h3 3 j8)], zhp h3)) rfl ?_
        cases hv7
        exact kv7
    · replace H := zif_f c5 H
      refine zEv_k 1 (f' := (43, [some (.ref 0), some (.int x1), some (.int x2), some (.int (gI h 1 1)), none, none], [.int (-2)], zhp h3)) rfl ?_
      cases H
      exact zEv_r rfl
def qC_fault (x1 : Int32) (h : zK) : Int32 :=
  if ¬ x1 = 0 then
    if ¬ x1 = 1 then
      -1
    else
      gI h 1 3
  else
    gI h 1 2
theorem t_qC_fault {Ls : Nat} {xs : Nat → Int32} {d : Nat} {x1 : Int32} {h : zK} {p : Int32} (H : qC_fault x1 h = p) : zEv (zXs Ls xs) d zm_116 (0, [some (.ref 0), some (.int x1)], [], zhp h) (some (.int p), zhp h) := by
  unfold qC_fault at H
  refine zEv_k 2 (f' := (if ¬ x1 = 0 then 12 else 4, [some (.ref 0), some (.int x1)], [], zhp h)) rfl (zEv_if (fun c1 => ?_) (fun c1 => ?_))
  · replace H := zif_t c1 H
    refine zEv_k 3 (f' := (if ¬ x1 = 1 then 27 else 17, [some (.ref 0), some (.int x1)], [], zhp h)) rfl (zEv_if (fun c2 => ?_) (fun c2 => ?_))
    · replace H := zif_t c2 H
      refine zEv_k 1 (f' := (28, [some (.ref 0), some (.int x1)], [.int (-1)], zhp h)) rfl ?_
      cases H
      exact zEv_r rfl
    · replace H := zif_f c2 H
      refine zEv_k 1 (f' := (18, [some (.ref 0), some (.int x1)], [.ref 0], zhp h)) rfl ?_
      refine zRgr rfl rfl rfl (by decide) (b := 1) rfl ?_
      refine zEv_k 2 (f' := (28, [some (.ref 0), some (.int x1)], [.int (gI h 1 3)], zhp h)) rfl ?_
      cases H
      exact zEv_r rfl
  · replace H := zif_f c1 H
    refine zEv_k 1 (f' := (5, [some (.ref 0), some (.int x1)], [.ref 0], zhp h)) rfl ?_
    refine zRgr rfl rfl rfl (by decide) (b := 1) rfl ?_
    refine zEv_k 1 (f' := (11, [some (.ref 0), some (.int x1)], [.int (gI h 1 2)], zhp h)) rfl ?_
    cases H
    exact zEv_r rfl
def qC_cellar (x1 : Int32) (x2 : Int32) (h : zK) : Option (Int32) :=
  (qT_cellarAt x1 h).bind fun p1 => match p1 with
  | none =>
    some (-1)
  | some v2 =>
    if 0 ≤ x2 then
      if x2 = 0 then
        if v2 = 7 ∨ v2 = 22 then
          some (gI h v2 0)
        else none
      else if x2 = 1 then
        if v2 = 7 ∨ v2 = 22 then
          some (gI h v2 1)
        else none
      else if x2 = 2 then
        if v2 = 7 ∨ v2 = 22 then
          some (gI h v2 2)
        else none
      else
        if v2 = 7 ∨ v2 = 22 then
          if ¬ (qCe_has v2 (x2 - x2 / 10 * 10) h) = 0 then
            if (x2 / 10) = 1 then
              (zix (x2 - x2 / 10 * 10) 7).bind fun j9 =>
              some (gI h (v2 + 1) j9)
            else if (x2 / 10) = 2 then
              (zix (x2 - x2 / 10 * 10) 7).bind fun j10 =>
              some (gI h (v2 + 2) j10)
            else if (x2 / 10) = 3 then
              (zix (x2 - x2 / 10 * 10) 7).bind fun j11 =>
              some (gI h (v2 + 3) j11)
            else if (x2 / 10) = 4 then
              (zix (x2 - x2 / 10 * 10) 7).bind fun j12 =>
              some (gI h (v2 + 4) j12)
            else if (x2 / 10) = 5 then
              (zix (x2 - x2 / 10 * 10) 7).bind fun j13 =>
              some (gI h (v2 + 5) j13)
            else if (x2 / 10) = 6 then
              (zix (x2 - x2 / 10 * 10) 7).bind fun j14 =>
              some (gI h (v2 + 6) j14)
            else if (x2 / 10) = 7 then
              (zix (x2 - x2 / 10 * 10) 7).bind fun j15 =>
              some (gI h (v2 + 7) j15)
            else
              some (-1)
          else
            some (-1)
        else none
    else
      some (-1)
theorem t_qC_cellar {Ls : Nat} {xs : Nat → Int32} {d : Nat} {x1 : Int32} {x2 : Int32} {h : zK} {p : Int32} (H : qC_cellar x1 x2 h = some p) : zEv (zXs Ls xs) (d + 1) zm_117 (0, [some (.ref 0), some (.int x1), some (.int x2), none, none], [], zhp h) (some (.int p), zhp h) := by
  unfold qC_cellar at H
  refine zEv_k 1 (f' := (1, [some (.ref 0), some (.int x1), some (.int x2), none, none], [.ref 0], zhp h)) rfl ?_
  refine zRgr rfl rfl rfl (by decide) (b := 1) rfl ?_
  refine zEv_k 1 (f' := (5, [some (.ref 0), some (.int x1), some (.int x2), none, none], [.int x1, .ref 1], zhp h)) rfl ?_
  obtain ⟨p1, hp1, H⟩ := zbs H
  refine zEv_c (fun _ => rfl) rfl (t_qT_cellarAt (x1 := x1) (h := h) (d := d) hp1) rfl rfl ?_
  rcases p1 with _ | v2
  · dsimp only at H
    refine zEv_k 4 (f' := (18, [some (.ref 0), some (.int x1), some (.int x2), some (.null), none], [.int (-1)], zhp h)) rfl ?_
    cases H
    exact zEv_r rfl
  · dsimp only at H
    refine zEv_k 5 (f' := (if 0 ≤ x2 then 19 else 17, [some (.ref 0), some (.int x1), some (.int x2), some (.ref v2), none], [], zhp h)) rfl (zEv_if (fun c3 => ?_) (fun c3 => ?_))
    · replace H := zif_t c3 H
      refine zEv_k 1 (f' := (20, [some (.ref 0), some (.int x1), some (.int x2), some (.ref v2), none], [.int x2], zhp h)) rfl ?_
      refine zEv_ts rfl (by decide) (by decide) (by decide) (fun hh => ?_) (fun j hj hh => ?_)
      · replace H := zif_f (fun e => (by rw [e] at hh; exact absurd hh (by decide))) H
        replace H := zif_f (fun e => (by rw [e] at hh; exact absurd hh (by decide))) H
        replace H := zif_f (fun e => (by rw [e] at hh; exact absurd hh (by decide))) H
        refine zEv_k 2 (f' := (66, [some (.ref 0), some (.int x1), some (.int x2), some (.ref v2), none], [.int 10, .int x2], zhp h)) rfl ?_
        refine zEv_rem rfl (by decide) ?_
        refine zEv_k 3 (f' := (72, [some (.ref 0), some (.int x1), some (.int x2), some (.ref v2), some (.int (x2 - x2 / 10 * 10))], [.int (x2 - x2 / 10 * 10), .ref v2], zhp h)) rfl ?_
        obtain ⟨c7, H⟩ := zifn H
        rcases c7 with rfl | rfl
        · refine zEv_c (fun _ => rfl) rfl (t_qCe_has (oo := 7) (x1 := x2 - x2 / 10 * 10) (h := h) (d := d) (by decide) rfl) rfl rfl ?_
          refine zEv_k 1 (f' := (if ¬ (qCe_has 7 (x2 - x2 / 10 * 10) h) = 0 then 80 else 78, [some (.ref 0), some (.int x1), some (.int x2), some (.ref 7), some (.int (x2 - x2 / 10 * 10))], [], zhp h)) rfl (zEv_if (fun c8 => ?_) (fun c8 => ?_))
          · replace H := zif_t c8 H
            refine zEv_k 2 (f' := (83, [some (.ref 0), some (.int x1), some (.int x2), some (.ref 7), some (.int (x2 - x2 / 10 * 10))], [.int 10, .int x2], zhp h)) rfl ?_
            refine zEv_div rfl (by decide) ?_
            refine zEv_ts rfl (by decide) (by decide) (by decide) (fun hh => ?_) (fun j hj hh => ?_)
            · replace H := zif_f (fun e => (by rw [e] at hh; exact absurd hh (by decide))) H
              replace H := zif_f (fun e => (by rw [e] at hh; exact absurd hh (by decide))) H
              replace H := zif_f (fun e => (by rw [e] at hh; exact absurd hh (by decide))) H
              replace H := zif_f (fun e => (by rw [e] at hh; exact absurd hh (by decide))) H
              replace H := zif_f (fun e => (by rw [e] at hh; exact absurd hh (by decide))) H
              replace H := zif_f (fun e => (by rw [e] at hh; exact absurd hh (by decide))) H
              replace H := zif_f (fun e => (by rw [e] at hh; exact absurd hh (by decide))) H
              refine zEv_k 1 (f' := (185, [some (.ref 0), some (.int x1), some (.int x2), some (.ref 7), some (.int (x2 - x2 / 10 * 10))], [.int (-1)], zhp h)) rfl ?_
              cases H
              exact zEv_r rfl
            · rcases (by have hj2 : j < 7 := hj; omega : j = 0 ∨ j = 1 ∨ j = 2 ∨ j = 3 ∨ j = 4 ∨ j = 5 ∨ j = 6) with rfl | rfl | rfl | rfl | rfl | rfl | rfl
              · have ex : x2 / 10 = 1 := zeqI hh (by decide)
                replace H := zif_t ex H
                refine zEv_k 1 (f' := (129, [some (.ref 0), some (.int x1), some (.int x2), some (.ref 7), some (.int (x2 - x2 / 10 * 10))], [.ref 7], zhp h)) rfl ?_
                refine zRgr rfl rfl rfl (by decide) (b := 7 + 1) rfl ?_
                refine zEv_k 1 (f' := (134, [some (.ref 0), some (.int x1), some (.int x2), some (.ref 7), some (.int (x2 - x2 / 10 * 10))], [.int (x2 - x2 / 10 * 10), .ref (7 + 1)], zhp h)) rfl ?_
                obtain ⟨j9, hj9, H⟩ := zbs H
                refine zRia rfl rfl (by decide) hj9 ?_
                cases H
                exact zEv_r rfl
              · have ex : x2 / 10 = 2 := zeqI hh (by decide)
                replace H := zif_f (fun e => by rw [ex] at e; exact absurd e (by decide)) H
                replace H := zif_t ex H
                refine zEv_k 1 (f' := (137, [some (.ref 0), some (.int x1), some (.int x2), some (.ref 7), some (.int (x2 - x2 / 10 * 10))], [.ref 7], zhp h)) rfl ?_
                refine zRgr rfl rfl rfl (by decide) (b := 7 + 2) rfl ?_
                refine zEv_k 1 (f' := (142, [some (.ref 0), some (.int x1), some (.int x2), some (.ref 7), some (.int (x2 - x2 / 10 * 10))], [.int (x2 - x2 / 10 * 10), .ref (7 + 2)], zhp h)) rfl ?_
                obtain ⟨j10, hj10, H⟩ := zbs H
                refine zRia rfl rfl (by decide) hj10 ?_
                cases H
                exact zEv_r rfl
              · have ex : x2 / 10 = 3 := zeqI hh (by decide)
                replace H := zif_f (fun e => by rw [ex] at e; exact absurd e (by decide)) H
                replace H := zif_f (fun e => by rw [ex] at e; exact absurd e (by decide)) H
                replace H := zif_t ex H
                refine zEv_k 1 (f' := (145, [some (.ref 0), some (.int x1), some (.int x2), some (.ref 7), some (.int (x2 - x2 / 10 * 10))], [.ref 7], zhp h)) rfl ?_
                refine zRgr rfl rfl rfl (by decide) (b := 7 + 3) rfl ?_
                refine zEv_k 1 (f' := (150, [some (.ref 0), some (.int x1), some (.int x2), some (.ref 7), some (.int (x2 - x2 / 10 * 10))], [.int (x2 - x2 / 10 * 10), .ref (7 + 3)], zhp h)) rfl ?_
                obtain ⟨j11, hj11, H⟩ := zbs H
                refine zRia rfl rfl (by decide) hj11 ?_
                cases H
                exact zEv_r rfl
              · have ex : x2 / 10 = 4 := zeqI hh (by decide)
                replace H := zif_f (fun e => by rw [ex] at e; exact absurd e (by decide)) H
                replace H := zif_f (fun e => by rw [ex] at e; exact absurd e (by decide)) H
                replace H := zif_f (fun e => by rw [ex] at e; exact absurd e (by decide)) H
                replace H := zif_t ex H
                refine zEv_k 1 (f' := (153, [some (.ref 0), some (.int x1), some (.int x2), some (.ref 7), some (.int (x2 - x2 / 10 * 10))], [.ref 7], zhp h)) rfl ?_
                refine zRgr rfl rfl rfl (by decide) (b := 7 + 4) rfl ?_
                refine zEv_k 1 (f' := (158, [some (.ref 0), some (.int x1), some (.int x2), some (.ref 7), some (.int (x2 - x2 / 10 * 10))], [.int (x2 - x2 / 10 * 10), .ref (7 + 4)], zhp h)) rfl ?_
                obtain ⟨j12, hj12, H⟩ := zbs H
                refine zRia rfl rfl (by decide) hj12 ?_
                cases H
                exact zEv_r rfl
              · have ex : x2 / 10 = 5 := zeqI hh (by decide)
                replace H := zif_f (fun e => by rw [ex] at e; exact absurd e (by decide)) H
                replace H := zif_f (fun e => by rw [ex] at e; exact absurd e (by decide)) H
                replace H := zif_f (fun e => by rw [ex] at e; exact absurd e (by decide)) H
                replace H := zif_f (fun e => by rw [ex] at e; exact absurd e (by decide)) H
                replace H := zif_t ex H
                refine zEv_k 1 (f' := (161, [some (.ref 0), some (.int x1), some (.int x2), some (.ref 7), some (.int (x2 - x2 / 10 * 10))], [.ref 7], zhp h)) rfl ?_
                refine zRgr rfl rfl rfl (by decide) (b := 7 + 5) rfl ?_
                refine zEv_k 1 (f' := (166, [some (.ref 0), some (.int x1), some (.int x2), some (.ref 7), some (.int (x2 - x2 / 10 * 10))], [.int (x2 - x2 / 10 * 10), .ref (7 + 5)], zhp h)) rfl ?_
                obtain ⟨j13, hj13, H⟩ := zbs H
                refine zRia rfl rfl (by decide) hj13 ?_
                cases H
                exact zEv_r rfl
              · have ex : x2 / 10 = 6 := zeqI hh (by decide)
                replace H := zif_f (fun e => by rw [ex] at e; exact absurd e (by decide)) H
                replace H := zif_f (fun e => by rw [ex] at e; exact absurd e (by decide)) H
                replace H := zif_f (fun e => by rw [ex] at e; exact absurd e (by decide)) H
                replace H := zif_f (fun e => by rw [ex] at e; exact absurd e (by decide)) H
                replace H := zif_f (fun e => by rw [ex] at e; exact absurd e (by decide)) H
                replace H := zif_t ex H
                refine zEv_k 1 (f' := (169, [some (.ref 0), some (.int x1), some (.int x2), some (.ref 7), some (.int (x2 - x2 / 10 * 10))], [.ref 7], zhp h)) rfl ?_
                refine zRgr rfl rfl rfl (by decide) (b := 7 + 6) rfl ?_
                refine zEv_k 1 (f' := (174, [some (.ref 0), some (.int x1), some (.int x2), some (.ref 7), some (.int (x2 - x2 / 10 * 10))], [.int (x2 - x2 / 10 * 10), .ref (7 + 6)], zhp h)) rfl ?_
                obtain ⟨j14, hj14, H⟩ := zbs H
                refine zRia rfl rfl (by decide) hj14 ?_
                cases H
                exact zEv_r rfl
              · have ex : x2 / 10 = 7 := zeqI hh (by decide)
                replace H := zif_f (fun e => by rw [ex] at e; exact absurd e (by decide)) H
                replace H := zif_f (fun e => by rw [ex] at e; exact absurd e (by decide)) H
                replace H := zif_f (fun e => by rw [ex] at e; exact absurd e (by decide)) H
                replace H := zif_f (fun e => by rw [ex] at e; exact absurd e (by decide)) H
                replace H := zif_f (fun e => by rw [ex] at e; exact absurd e (by decide)) H
                replace H := zif_f (fun e => by rw [ex] at e; exact absurd e (by decide)) H
                replace H := zif_t ex H
                refine zEv_k 1 (f' := (177, [some (.ref 0), some (.int x1), some (.int x2), some (.ref 7), some (.int (x2 - x2 / 10 * 10))], [.ref 7], zhp h)) rfl ?_
                refine zRgr rfl rfl rfl (by decide) (b := 7 + 7) rfl ?_
                refine zEv_k 1 (f' := (182, [some (.ref 0), some (.int x1), some (.int x2), some (.ref 7), some (.int (x2 - x2 / 10 * 10))], [.int (x2 - x2 / 10 * 10), .ref (7 + 7)], zhp h)) rfl ?_
                obtain ⟨j15, hj15, H⟩ := zbs H
                refine zRia rfl rfl (by decide) hj15 ?_
                cases H
                exact zEv_r rfl
          · replace H := zif_f c8 H
            refine zEv_k 1 (f' := (79, [some (.ref 0), some (.int x1), some (.int x2), some (.ref 7), some (.int (x2 - x2 / 10 * 10))], [.int (-1)], zhp h)) rfl ?_
            cases H
            exact zEv_r rfl
        · refine zEv_c (fun _ => rfl) rfl (t_qCe_has (oo := 22) (x1 := x2 - x2 / 10 * 10) (h := h) (d := d) (by decide) rfl) rfl rfl ?_
          refine zEv_k 1 (f' := (if ¬ (qCe_has 22 (x2 - x2 / 10 * 10) h) = 0 then 80 else 78, [some (.ref 0), some (.int x1), some (.int x2), some (.ref 22), some (.int (x2 - x2 / 10 * 10))], [], zhp h)) rfl (zEv_if (fun c8 => ?_) (fun c8 => ?_))
          · replace H := zif_t c8 H
            refine zEv_k 2 (f' := (83, [some (.ref 0), some (.int x1), some (.int x2), some (.ref 22), some (.int (x2 - x2 / 10 * 10))], [.int 10, .int x2], zhp h)) rfl ?_
            refine zEv_div rfl (by decide) ?_
            refine zEv_ts rfl (by decide) (by decide) (by decide) (fun hh => ?_) (fun j hj hh => ?_)
            · replace H := zif_f (fun e => (by rw [e] at hh; exact absurd hh (by decide))) H
              replace H := zif_f (fun e => (by rw [e] at hh; exact absurd hh (by decide))) H
              replace H := zif_f (fun e => (by rw [e] at hh; exact absurd hh (by decide))) H
              replace H := zif_f (fun e => (by rw [e] at hh; exact absurd hh (by decide))) H
              replace H := zif_f (fun e => (by rw [e] at hh; exact absurd hh (by decide))) H
              replace H := zif_f (fun e => (by rw [e] at hh; exact absurd hh (by decide))) H
              replace H := zif_f (fun e => (by rw [e] at hh; exact absurd hh (by decide))) H
              refine zEv_k 1 (f' := (185, [some (.ref 0), some (.int x1), some (.int x2), some (.ref 22), some (.int (x2 - x2 / 10 * 10))], [.int (-1)], zhp h)) rfl ?_
              cases H
              exact zEv_r rfl
            · rcases (by have hj2 : j < 7 := hj; omega : j = 0 ∨ j = 1 ∨ j = 2 ∨ j = 3 ∨ j = 4 ∨ j = 5 ∨ j = 6) with rfl | rfl | rfl | rfl | rfl | rfl | rfl
              · have ex : x2 / 10 = 1 := zeqI hh (by decide)
                replace H := zif_t ex H
                refine zEv_k 1 (f' := (129, [some (.ref 0), some (.int x1), some (.int x2), some (.ref 22), some (.int (x2 - x2 / 10 * 10))], [.ref 22], zhp h)) rfl ?_
                refine zRgr rfl rfl rfl (by decide) (b := 22 + 1) rfl ?_
                refine zEv_k 1 (f' := (134, [some (.ref 0), some (.int x1), some (.int x2), some (.ref 22), some (.int (x2 - x2 / 10 * 10))], [.int (x2 - x2 / 10 * 10), .ref (22 + 1)], zhp h)) rfl ?_
                obtain ⟨j9, hj9, H⟩ := zbs H
                refine zRia rfl rfl (by decide) hj9 ?_
                cases H
                exact zEv_r rfl
              · have ex : x2 / 10 = 2 := zeqI hh (by decide)
                replace H := zif_f (fun e => by rw [ex] at e; exact absurd e (by decide)) H
                replace H := zif_t ex H
                refine zEv_k 1 (f' := (137, [some (.ref 0), some (.int x1), some (.int x2), some (.ref 22), some (.int (x2 - x2 / 10 * 10))], [.ref 22], zhp h)) rfl ?_
                refine zRgr rfl rfl rfl (by decide) (b := 22 + 2) rfl ?_
                refine zEv_k 1 (f' := (142, [some (.ref 0), some (.int x1), some (.int x2), some (.ref 22), some (.int (x2 - x2 / 10 * 10))], [.int (x2 - x2 / 10 * 10), .ref (22 + 2)], zhp h)) rfl ?_
                obtain ⟨j10, hj10, H⟩ := zbs H
                refine zRia rfl rfl (by decide) hj10 ?_
                cases H
                exact zEv_r rfl
              · have ex : x2 / 10 = 3 := zeqI hh (by decide)
                replace H := zif_f (fun e => by rw [ex] at e; exact absurd e (by decide)) H
                replace H := zif_f (fun e => by rw [ex] at e; exact absurd e (by decide)) H
                replace H := zif_t ex H
                refine zEv_k 1 (f' := (145, [some (.ref 0), some (.int x1), some (.int x2), some (.ref 22), some (.int (x2 - x2 / 10 * 10))], [.ref 22], zhp h)) rfl ?_
                refine zRgr rfl rfl rfl (by decide) (b := 22 + 3) rfl ?_
                refine zEv_k 1 (f' := (150, [some (.ref 0), some (.int x1), some (.int x2), some (.ref 22), some (.int (x2 - x2 / 10 * 10))], [.int (x2 - x2 / 10 * 10), .ref (22 + 3)], zhp h)) rfl ?_
                obtain ⟨j11, hj11, H⟩ := zbs H
                refine zRia rfl rfl (by decide) hj11 ?_
                cases H
                exact zEv_r rfl
              · have ex : x2 / 10 = 4 := zeqI hh (by decide)
                replace H := zif_f (fun e => by rw [ex] at e; exact absurd e (by decide)) H
                replace H := zif_f (fun e => by rw [ex] at e; exact absurd e (by decide)) H
                replace H := zif_f (fun e => by rw [ex] at e; exact absurd e (by decide)) H
                replace H := zif_t ex H
                refine zEv_k 1 (f' := (153, [some (.ref 0), some (.int x1), some (.int x2), some (.ref 22), some (.int (x2 - x2 / 10 * 10))], [.ref 22], zhp h)) rfl ?_
                refine zRgr rfl rfl rfl (by decide) (b := 22 + 4) rfl ?_
                refine zEv_k 1 (f' := (158, [some (.ref 0), some (.int x1), some (.int x2), some (.ref 22), some (.int (x2 - x2 / 10 * 10))], [.int (x2 - x2 / 10 * 10), .ref (22 + 4)], zhp h)) rfl ?_
                obtain ⟨j12, hj12, H⟩ := zbs H
                refine zRia rfl rfl (by decide) hj12 ?_
                cases H
                exact zEv_r rfl
              · have ex : x2 / 10 = 5 := zeqI hh (by decide)
                replace H := zif_f (fun e => by rw [ex] at e; exact absurd e (by decide)) H
                replace H := zif_f (fun e => by rw [ex] at e; exact absurd e (by decide)) H
                replace H := zif_f (fun e => by rw [ex] at e; exact absurd e (by decide)) H
                replace H := zif_f (fun e => by rw [ex] at e; exact absurd e (by decide)) H
                replace H := zif_t ex H
                refine zEv_k 1 (f' := (161, [some (.ref 0), some (.int x1), some (.int x2), some (.ref 22), some (.int (x2 - x2 / 10 * 10))], [.ref 22], zhp h)) rfl ?_
                refine zRgr rfl rfl rfl (by decide) (b := 22 + 5) rfl ?_
                refine zEv_k 1 (f' := (166, [some (.ref 0), some (.int x1), some (.int x2), some (.ref 22), some (.int (x2 - x2 / 10 * 10))], [.int (x2 - x2 / 10 * 10), .ref (22 + 5)], zhp h)) rfl ?_
                obtain ⟨j13, hj13, H⟩ := zbs H
                refine zRia rfl rfl (by decide) hj13 ?_
                cases H
                exact zEv_r rfl
              · have ex : x2 / 10 = 6 := zeqI hh (by decide)
                replace H := zif_f (fun e => by rw [ex] at e; exact absurd e (by decide)) H
                replace H := zif_f (fun e => by rw [ex] at e; exact absurd e (by decide)) H
                replace H := zif_f (fun e => by rw [ex] at e; exact absurd e (by decide)) H
                replace H := zif_f (fun e => by rw [ex] at e; exact absurd e (by decide)) H
                replace H := zif_f (fun e => by rw [ex] at e; exact absurd e (by decide)) H
                replace H := zif_t ex H
                refine zEv_k 1 (f' := (169, [some (.ref 0), some (.int x1), some (.int x2), some (.ref 22), some (.int (x2 - x2 / 10 * 10))], [.ref 22], zhp h)) rfl ?_
                refine zRgr rfl rfl rfl (by decide) (b := 22 + 6) rfl ?_
                refine zEv_k 1 (f' := (174, [some (.ref 0), some (.int x1), some (.int x2), some (.ref 22), some (.int (x2 - x2 / 10 * 10))], [.int (x2 - x2 / 10 * 10), .ref (22 + 6)], zhp h)) rfl ?_
                obtain ⟨j14, hj14, H⟩ := zbs H
                refine zRia rfl rfl (by decide) hj14 ?_
                cases H
                exact zEv_r rfl
              · have ex : x2 / 10 = 7 := zeqI hh (by decide)
                replace H := zif_f (fun e => by rw [ex] at e; exact absurd e (by decide)) H
                replace H := zif_f (fun e => by rw [ex] at e; exact absurd e (by decide)) H
                replace H := zif_f (fun e => by rw [ex] at e; exact absurd e (by decide)) H
                replace H := zif_f (fun e => by rw [ex] at e; exact absurd e (by decide)) H
                replace H := zif_f (fun e => by rw [ex] at e; exact absurd e (by decide)) H
                replace H := zif_f (fun e => by rw [ex] at e; exact absurd e (by decide)) H
                replace H := zif_t ex H
                refine zEv_k 1 (f' := (177, [some (.ref 0), some (.int x1), some (.int x2), some (.ref 22), some (.int (x2 - x2 / 10 * 10))], [.ref 22], zhp h)) rfl ?_
                refine zRgr rfl rfl rfl (by decide) (b := 22 + 7) rfl ?_
                refine zEv_k 1 (f' := (182, [some (.ref 0), some (.int x1), some (.int x2), some (.ref 22), some (.int (x2 - x2 / 10 * 10))], [.int (x2 - x2 / 10 * 10), .ref (22 + 7)], zhp h)) rfl ?_
                obtain ⟨j15, hj15, H⟩ := zbs H
                refine zRia rfl rfl (by decide) hj15 ?_
                cases H
                exact zEv_r rfl
          · replace H := zif_f c8 H
            refine zEv_k 1 (f' := (79, [some (.ref 0), some (.int x1), some (.int x2), some (.ref 22), some (.int (x2 - x2 / 10 * 10))], [.int (-1)], zhp h)) rfl ?_
            cases H
            exact zEv_r rfl
      · rcases (by have hj2 : j < 3 := hj; omega : j = 0 ∨ j = 1 ∨ j = 2) with rfl | rfl | rfl
        · have ex : x2 = 0 := zeqI hh (by decide)
          replace H := zif_t ex H
          refine zEv_k 1 (f' := (49, [some (.ref 0), some (.int x1), some (.int x2), some (.ref v2), none], [.ref v2], zhp h)) rfl ?_
          obtain ⟨c4, H⟩ := zifn H
          rcases c4 with rfl | rfl
          · refine zEv_k 1 (f' := (52, [some (.ref 0), some (.int x1), some (.int x2), some (.ref 7), none], [.int (gI h 7 0)], zhp h)) rfl ?_
            cases H
            exact zEv_r rfl
          · refine zEv_k 1 (f' := (52, [some (.ref 0), some (.int x1), some (.int x2), some (.ref 22), none], [.int (gI h 22 0)], zhp h)) rfl ?_
            cases H
            exact zEv_r rfl
        · have ex : x2 = 1 := zeqI hh (by decide)
          replace H := zif_f (fun e => by rw [ex] at e; exact absurd e (by decide)) H
          replace H := zif_t ex H
          refine zEv_k 1 (f' := (54, [some (.ref 0), some (.int x1), some (.int x2), some (.ref v2), none], [.ref v2], zhp h)) rfl ?_
          obtain ⟨c5, H⟩ := zifn H
          rcases c5 with rfl | rfl
          · refine zEv_k 1 (f' := (57, [some (.ref 0), some (.int x1), some (.int x2), some (.ref 7), none], [.int (gI h 7 1)], zhp h)) rfl ?_
            cases H
            exact zEv_r rfl
          · refine zEv_k 1 (f' := (57, [some (.ref 0), some (.int x1), some (.int x2), some (.ref 22), none], [.int (gI h 22 1)], zhp h)) rfl ?_
            cases H
            exact zEv_r rfl
        · have ex : x2 = 2 := zeqI hh (by decide)
          replace H := zif_f (fun e => by rw [ex] at e; exact absurd e (by decide)) H
          replace H := zif_f (fun e => by rw [ex] at e; exact absurd e (by decide)) H
          replace H := zif_t ex H
          refine zEv_k 1 (f' := (59, [some (.ref 0), some (.int x1), some (.int x2), some (.ref v2), none], [.ref v2], zhp h)) rfl ?_
          obtain ⟨c6, H⟩ := zifn H
          rcases c6 with rfl | rfl
          · refine zEv_k 1 (f' := (62, [some (.ref 0), some (.int x1), some (.int x2), some (.ref 7), none], [.int (gI h 7 2)], zhp h)) rfl ?_
            cases H
            exact zEv_r rfl
          · refine zEv_k 1 (f' := (62, [some (.ref 0), some (.int x1), some (.int x2), some (.ref 22), none], [.int (gI h 22 2)], zhp h)) rfl ?_
            cases H
            exact zEv_r rfl
    · replace H := zif_f c3 H
      refine zEv_k 1 (f' := (18, [some (.ref 0), some (.int x1), some (.int x2), some (.ref v2), none], [.int (-1)], zhp h)) rfl ?_
      cases H
      exact zEv_r rfl
def qC_deed_j33 (v2 : Nat) (x2 : Int32) (x3 : Int32) (h : zK) : Option (Int32) :=
  if x2 < 0 then
    some (-2)
  else
    if x2 < (gI h v2 0) then
      if x3 = 0 then
        (zix x2 40).bind fun j7 =>
        some (gI h (v2 + 1) j7)
      else if x3 = 1 then
        (zix x2 40).bind fun j8 =>
        some (gI h (v2 + 2) j8)
      else if x3 = 2 then
        (zix x2 40).bind fun j9 =>
        some (gI h (v2 + 3) j9)
      else
        some (-2)
    else
      some (-2)
theorem t_qC_deed_j33 {Ls : Nat} {xs : Nat → Int32} {d : Nat} {v2 : Nat} {x2 : Int32} {x3 : Int32} {h : zK} {p : Int32} (ho : v2 = 15 ∨ v2 = 30) (H : qC_deed_j33 v2 x2 x3 h = some p)  (y1 : Option Value) : zEv (zXs Ls xs) (d + 1) zm_118 (33, [some (.ref 0), y1, some (.int x2), some (.int x3), some (.ref v2)], [], zhp h) (some (.int p), zhp h) := by
  unfold qC_deed_j33 at H
  rcases ho with rfl | rfl
  · refine zEv_k 2 (f' := (if x2 < 0 then 46 else 37, [some (.ref 0), y1, some (.int x2), some (.int x3), some (.ref 15)], [], zhp h)) rfl (zEv_if (fun c5 => ?_) (fun c5 => ?_))
    · replace H := zif_t c5 H
      refine zEv_k 1 (f' := (48, [some (.ref 0), y1, some (.int x2), some (.int x3), some (.ref 15)], [.int (-2)], zhp h)) rfl ?_
      cases H
      exact zEv_r rfl
    · replace H := zif_f c5 H
      refine zEv_k 4 (f' := (if x2 < (gI h 15 0) then 49 else 46, [some (.ref 0), y1, some (.int x2), some (.int x3), some (.ref 15)], [], zhp h)) rfl (zEv_if (fun c6 => ?_) (fun c6 => ?_))
      · replace H := zif_t c6 H
        refine zEv_k 1 (f' := (50, [some (.ref 0), y1, some (.int x2), some (.int x3), some (.ref 15)], [.int x3], zhp h)) rfl ?_
        refine zEv_ts rfl (by decide) (by decide) (by decide) (fun hh => ?_) (fun j hj hh => ?_)
        · replace H := zif_f (fun e => (by rw [e] at hh; exact absurd hh (by decide))) H
          replace H := zif_f (fun e => (by rw [e] at hh; exact absurd hh (by decide))) H
          replace H := zif_f (fun e => (by rw [e] at hh; exact absurd hh (by decide))) H
          refine zEv_k 1 (f' := (102, [some (.ref 0), y1, some (.int x2), some (.int x3), some (.ref 15)], [.int (-2)], zhp h)) rfl ?_
          cases H
          exact zEv_r rfl
        · rcases (by have hj2 : j < 3 := hj; omega : j = 0 ∨ j = 1 ∨ j = 2) with rfl | rfl | rfl
          · have ex : x3 = 0 := zeqI hh (by decide)
            replace H := zif_t ex H
            refine zEv_k 1 (f' := (78, [some (.ref 0), y1, some (.int x2), some (.int x3), some (.ref 15)], [.ref 15], zhp h)) rfl ?_
            refine zRgr rfl rfl rfl (by decide) (b := 15 + 1) rfl ?_
            refine zEv_k 1 (f' := (82, [some (.ref 0), y1, some (.int x2), some (.int x3), some (.ref 15)], [.int x2, .ref (15 + 1)], zhp h)) rfl ?_
            obtain ⟨j7, hj7, H⟩ := zbs H
            refine zRia rfl rfl (by decide) hj7 ?_
            cases H
            exact zEv_r rfl
          · have ex : x3 = 1 := zeqI hh (by decide)
            replace H := zif_f (fun e => by rw [ex] at e; exact absurd e (by decide)) H
            replace H := zif_t ex H
            refine zEv_k 1 (f' := (86, [some (.ref 0), y1, some (.int x2), some (.int x3), some (.ref 15)], [.ref 15], zhp h)) rfl ?_
            refine zRgr rfl rfl rfl (by decide) (b := 15 + 2) rfl ?_
            refine zEv_k 1 (f' := (90, [some (.ref 0), y1, some (.int x2), some (.int x3), some (.ref 15)], [.int x2, .ref (15 + 2)], zhp h)) rfl ?_
            obtain ⟨j8, hj8, H⟩ := zbs H
            refine zRia rfl rfl (by decide) hj8 ?_
            cases H
            exact zEv_r rfl
          · have ex : x3 = 2 := zeqI hh (by decide)
            replace H := zif_f (fun e => by rw [ex] at e; exact absurd e (by decide)) H
            replace H := zif_f (fun e => by rw [ex] at e; exact absurd e (by decide)) H
            replace H := zif_t ex H
            refine zEv_k 1 (f' := (94, [some (.ref 0), y1, some (.int x2), some (.int x3), some (.ref 15)], [.ref 15], zhp h)) rfl ?_
            refine zRgr rfl rfl rfl (by decide) (b := 15 + 3) rfl ?_
            refine zEv_k 1 (f' := (98, [some (.ref 0), y1, some (.int x2), some (.int x3), some (.ref 15)], [.int x2, .ref (15 + 3)], zhp h)) rfl ?_
            obtain ⟨j9, hj9, H⟩ := zbs H
            refine zRia rfl rfl (by decide) hj9 ?_
            cases H
            exact zEv_r rfl
      · replace H := zif_f c6 H
        refine zEv_k 1 (f' := (48, [some (.ref 0), y1, some (.int x2), some (.int x3), some (.ref 15)], [.int (-2)], zhp h)) rfl ?_
        cases H
        exact zEv_r rfl
  · refine zEv_k 2 (f' := (if x2 < 0 then 46 else 37, [some (.ref 0), y1, some (.int x2), some (.int x3), some (.ref 30)], [], zhp h)) rfl (zEv_if (fun c5 => ?_) (fun c5 => ?_))
    · replace H := zif_t c5 H
      refine zEv_k 1 (f' := (48, [some (.ref 0), y1, some (.int x2), some (.int x3), some (.ref 30)], [.int (-2)], zhp h)) rfl ?_
      cases H
      exact zEv_r rfl
    · replace H := zif_f c5 H
      refine zEv_k 4 (f' := (if x2 < (gI h 30 0) then 49 else 46, [some (.ref 0), y1, some (.int x2), some (.int x3), some (.ref 30)], [], zhp h)) rfl (zEv_if (fun c6 => ?_) (fun c6 => ?_))
      · replace H := zif_t c6 H
        refine zEv_k 1 (f' := (50, [some (.ref 0), y1, some (.int x2), some (.int x3), some (.ref 30)], [.int x3], zhp h)) rfl ?_
        refine zEv_ts rfl (by decide) (by decide) (by decide) (fun hh => ?_) (fun j hj hh => ?_)
        · replace H := zif_f (fun e => (by rw [e] at hh; exact absurd hh (by decide))) H
          replace H := zif_f (fun e => (by rw [e] at hh; exact absurd hh (by decide))) H
          replace H := zif_f (fun e => (by rw [e] at hh; exact absurd hh (by decide))) H
          refine zEv_k 1 (f' := (102, [some (.ref 0), y1, some (.int x2), some (.int x3), some (.ref 30)], [.int (-2)], zhp h)) rfl ?_
          cases H
          exact zEv_r rfl
        · rcases (by have hj2 : j < 3 := hj; omega : j = 0 ∨ j = 1 ∨ j = 2) with rfl | rfl | rfl
          · have ex : x3 = 0 := zeqI hh (by decide)
            replace H := zif_t ex H
            refine zEv_k 1 (f' := (78, [some (.ref 0), y1, some (.int x2), some (.int x3), some (.ref 30)], [.ref 30], zhp h)) rfl ?_
            refine zRgr rfl rfl rfl (by decide) (b := 30 + 1) rfl ?_
            refine zEv_k 1 (f' := (82, [some (.ref 0), y1, some (.int x2), some (.int x3), some (.ref 30)], [.int x2, .ref (30 + 1)], zhp h)) rfl ?_
            obtain ⟨j7, hj7, H⟩ := zbs H
            refine zRia rfl rfl (by decide) hj7 ?_
            cases H
            exact zEv_r rfl
          · have ex : x3 = 1 := zeqI hh (by decide)
            replace H := zif_f (fun e => by rw [ex] at e; exact absurd e (by decide)) H
            replace H := zif_t ex H
            refine zEv_k 1 (f' := (86, [some (.ref 0), y1, some (.int x2), some (.int x3), some (.ref 30)], [.ref 30], zhp h)) rfl ?_
            refine zRgr rfl rfl rfl (by decide) (b := 30 + 2) rfl ?_
            refine zEv_k 1 (f' := (90, [some (.ref 0), y1, some (.int x2), some (.int x3), some (.ref 30)], [.int x2, .ref (30 + 2)], zhp h)) rfl ?_
            obtain ⟨j8, hj8, H⟩ := zbs H
            refine zRia rfl rfl (by decide) hj8 ?_
            cases H
            exact zEv_r rfl
          · have ex : x3 = 2 := zeqI hh (by decide)
            replace H := zif_f (fun e => by rw [ex] at e; exact absurd e (by decide)) H
            replace H := zif_f (fun e => by rw [ex] at e; exact absurd e (by decide)) H
            replace H := zif_t ex H
            refine zEv_k 1 (f' := (94, [some (.ref 0), y1, some (.int x2), some (.int x3), some (.ref 30)], [.ref 30], zhp h)) rfl ?_
            refine zRgr rfl rfl rfl (by decide) (b := 30 + 3) rfl ?_
            refine zEv_k 1 (f' := (98, [some (.ref 0), y1, some (.int x2), some (.int x3), some (.ref 30)], [.int x2, .ref (30 + 3)], zhp h)) rfl ?_
            obtain ⟨j9, hj9, H⟩ := zbs H
            refine zRia rfl rfl (by decide) hj9 ?_
            cases H
            exact zEv_r rfl
      · replace H := zif_f c6 H
        refine zEv_k 1 (f' := (48, [some (.ref 0), y1, some (.int x2), some (.int x3), some (.ref 30)], [.int (-2)], zhp h)) rfl ?_
        cases H
        exact zEv_r rfl
def qC_deed (x1 : Int32) (x2 : Int32) (x3 : Int32) (h : zK) : Option (Int32) :=
  (qT_deedsAt x1 h).bind fun p1 => match p1 with
  | none =>
    some (-2)
  | some v2 =>
    if ¬ x2 = (-1) then
      if v2 = 15 ∨ v2 = 30 then
        qC_deed_j33 v2 x2 x3 h
      else none
    else
      if ¬ x3 = 0 then
        if v2 = 15 ∨ v2 = 30 then
          qC_deed_j33 v2 x2 x3 h
        else none
      else
        if v2 = 15 ∨ v2 = 30 then
          some (gI h v2 0)
        else none
theorem t_qC_deed {Ls : Nat} {xs : Nat → Int32} {d : Nat} {x1 : Int32} {x2 : Int32} {x3 : Int32} {h : zK} {p : Int32} (H : qC_deed x1 x2 x3 h = some p) : zEv (zXs Ls xs) (d + 1) zm_118 (0, [some (.ref 0), some (.int x1), some (.int x2), some (.int x3), none], [], zhp h) (some (.int p), zhp h) := by
  unfold qC_deed at H
  refine zEv_k 1 (f' := (1, [some (.ref 0), some (.int x1), some (.int x2), some (.int x3), none], [.ref 0], zhp h)) rfl ?_
  refine zRgr rfl rfl rfl (by decide) (b := 1) rfl ?_
  refine zEv_k 1 (f' := (5, [some (.ref 0), some (.int x1), some (.int x2), some (.int x3), none], [.int x1, .ref 1], zhp h)) rfl ?_
  obtain ⟨p1, hp1, H⟩ := zbs H
  refine zEv_c (fun _ => rfl) rfl (t_qT_deedsAt (x1 := x1) (h := h) (d := d) hp1) rfl rfl ?_
  rcases p1 with _ | v2
  · dsimp only at H
    refine zEv_k 4 (f' := (17, [some (.ref 0), some (.int x1), some (.int x2), some (.int x3), some (.null)], [.int (-2)], zhp h)) rfl ?_
    cases H
    exact zEv_r rfl
  · dsimp only at H
    refine zEv_k 6 (f' := (if ¬ x2 = (-1) then 33 else 23, [some (.ref 0), some (.int x1), some (.int x2), some (.int x3), some (.ref v2)], [], zhp h)) rfl (zEv_if (fun c3 => ?_) (fun c3 => ?_))
    · replace H := zif_t c3 H
      obtain ⟨c4, H⟩ := zifn H
      rcases c4 with rfl | rfl
      · exact t_qC_deed_j33 (v2 := 15) (x2 := x2) (x3 := x3) (h := h) (by decide) H _
      · exact t_qC_deed_j33 (v2 := 30) (x2 := x2) (x3 := x3) (h := h) (by decide) H _
    · replace H := zif_f c3 H
      refine zEv_k 2 (f' := (if ¬ x3 = 0 then 33 else 27, [some (.ref 0), some (.int x1), some (.int x2), some (.int x3), some (.ref v2)], [], zhp h)) rfl (zEv_if (fun c10 => ?_) (fun c10 => ?_))
      · replace H := zif_t c10 H
        obtain ⟨c11, H⟩ := zifn H
        rcases c11 with rfl | rfl
        · exact t_qC_deed_j33 (v2 := 15) (x2 := x2) (x3 := x3) (h := h) (by decide) H _
        · exact t_qC_deed_j33 (v2 := 30) (x2 := x2) (x3 := x3) (h := h) (by decide) H _
      · replace H := zif_f c10 H
        refine zEv_k 1 (f' := (29, [some (.ref 0), some (.int x1), some (.int x2), some (.int x3), some (.ref v2)], [.ref v2], zhp h)) rfl ?_
        obtain ⟨c12, H⟩ := zifn H
        rcases c12 with rfl | rfl
        · refine zEv_k 1 (f' := (32, [some (.ref 0), some (.int x1), some (.int x2), some (.int x3), some (.ref 15)], [.int (gI h 15 0)], zhp h)) rfl ?_
          cases H
          exact zEv_r rfl
        · refine zEv_k 1 (f' := (32, [some (.ref 0), some (.int x1), some (.int x2), some (.int x3), some (.ref 30)], [.int (gI h 30 0)], zhp h)) rfl ?_
          cases H
          exact zEv_r rfl
def qC_till (x1 : Int32) (x2 : Int32) (h : zK) : Option (Int32 × zK) :=
  (qT_cellarAt x1 h).bind fun p1 => match p1 with
  | none =>
    (qT_deedsAt x2 h).bind fun p3 => match p3 with
    | none =>
      some (-1, h)
    | some v4 =>
      some (-1, h)
  | some v2 =>
    (qT_deedsAt x2 h).bind fun p5 => match p5 with
    | none =>
      some (-1, h)
    | some v6 =>
      if v2 = 7 ∨ v2 = 22 then
        (qRu_begin 166 v2 h).bind fun p8 =>
        if v6 = 15 ∨ v6 = 30 then
          (qRu_follow 166 v6 (gI p8 v6 0) p8).bind fun p10 =>
          some (p10.1, p10.2)
        else none
      else none
theorem t_qC_till {Ls : Nat} {xs : Nat → Int32} {d : Nat} {x1 : Int32} {x2 : Int32} {h : zK} {p : Int32 × zK} (H : qC_till x1 x2 h = some p) : zEv (zXs Ls xs) (d + 5) zm_119 (0, [some (.ref 0), some (.int x1), some (.int x2), none, none], [], zhp h) (some (.int p.1), zhp p.2) := by
  unfold qC_till at H
  refine zEv_k 1 (f' := (1, [some (.ref 0), some (.int x1), some (.int x2), none, none], [.ref 0], zhp h)) rfl ?_
  refine zRgr rfl rfl rfl (by decide) (b := 1) rfl ?_
  refine zEv_k 1 (f' := (5, [some (.ref 0), some (.int x1), some (.int x2), none, none], [.int x1, .ref 1], zhp h)) rfl ?_
  obtain ⟨p1, hp1, H⟩ := zbs H
  refine zEv_c (fun _ => rfl) rfl (t_qT_cellarAt (x1 := x1) (h := h) (d := d + 4) hp1) rfl rfl ?_
  rcases p1 with _ | v2
  · dsimp only at H
    refine zEv_k 2 (f' := (10, [some (.ref 0), some (.int x1), some (.int x2), some (.null), none], [.ref 0], zhp h)) rfl ?_
    refine zRgr rfl rfl rfl (by decide) (b := 1) rfl ?_
    refine zEv_k 1 (f' := (14, [some (.ref 0), some (.int x1), some (.int x2), some (.null), none], [.int x2, .ref 1], zhp h)) rfl ?_
    obtain ⟨p3, hp3, H⟩ := zbs H
    refine zEv_c (fun _ => rfl) rfl (t_qT_deedsAt (x1 := x2) (h := h) (d := d + 4) hp3) rfl rfl ?_
    rcases p3 with _ | v4
    · dsimp only at H
      refine zEv_k 4 (f' := (29, [some (.ref 0), some (.int x1), some (.int x2), some (.null), some (.null)], [.int (-1)], zhp h)) rfl ?_
      cases H
      exact zEv_r rfl
    · dsimp only at H
      refine zEv_k 4 (f' := (29, [some (.ref 0), some (.int x1), some (.int x2), some (.null), some (.ref v4)], [.int (-1)], zhp h)) rfl ?_
      cases H
      exact zEv_r rfl
  · dsimp only at H
    refine zEv_k 2 (f' := (10, [some (.ref 0), some (.int x1), some (.int x2), some (.ref v2), none], [.ref 0], zhp h)) rfl ?_
    refine zRgr rfl rfl rfl (by decide) (b := 1) rfl ?_
    refine zEv_k 1 (f' := (14, [some (.ref 0), some (.int x1), some (.int x2), some (.ref v2), none], [.int x2, .ref 1], zhp h)) rfl ?_
    obtain ⟨p5, hp5, H⟩ := zbs H
    refine zEv_c (fun _ => rfl) rfl (t_qT_deedsAt (x1 := x2) (h := h) (d := d + 4) hp5) rfl rfl ?_
    rcases p5 with _ | v6
    · dsimp only at H
      refine zEv_k 6 (f' := (29, [some (.ref 0), some (.int x1), some (.int x2), some (.ref v2), some (.null)], [.int (-1)], zhp h)) rfl ?_
      cases H
      exact zEv_r rfl
    · dsimp only at H
      refine zEv_k 6 (f' := (31, [some (.ref 0), some (.int x1), some (.int x2), some (.ref v2), some (.ref v6)], [.ref 0], zhp h)) rfl ?_
      refine zRgr rfl rfl rfl (by decide) (b := 166) rfl ?_
      refine zEv_k 1 (f' := (35, [some (.ref 0), some (.int x1), some (.int x2), some (.ref v2), some (.ref v6)], [.ref v2, .ref 166], zhp h)) rfl ?_
      obtain ⟨c7, H⟩ := zifn H
      rcases c7 with rfl | rfl
      · obtain ⟨p8, hp8, H⟩ := zbs H
        refine zEv_c (fun _ => rfl) rfl (t_qRu_begin (oo := 166) (oc := 7) (h := h) (d := d + 4) (by decide) hp8) rfl rfl ?_
        refine zEv_k 1 (f' := (39, [some (.ref 0), some (.int x1), some (.int x2), some (.ref 7), some (.ref v6)], [.ref 0], zhp p8)) rfl ?_
        refine zRgr rfl rfl rfl (by decide) (b := 166) rfl ?_
        refine zEv_k 2 (f' := (46, [some (.ref 0), some (.int x1), some (.int x2), some (.ref 7), some (.ref v6)], [.ref v6, .ref v6, .ref 166], zhp p8)) rfl ?_
        obtain ⟨c9, H⟩ := zifn H
        rcases c9 with rfl | rfl
        · refine zEv_k 1 (f' := (49, [some (.ref 0), some (.int x1), some (.int x2), some (.ref 7), some (.ref 15)], [.int (gI p8 15 0), .ref 15, .ref 166], zhp p8)) rfl ?_
          obtain ⟨p10, hp10, H⟩ := zbs H
          refine zEv_c (fun _ => rfl) rfl (t_qRu_follow (oo := 166) (oe := 15) (x2 := gI p8 15 0) (h := p8) (d := d) (by decide) hp10) rfl rfl ?_
          cases H
          exact zEv_r rfl
        · refine zEv_k 1 (f' := (49, [some (.ref 0), some (.int x1), some (.int x2), some (.ref 7), some (.ref 30)], [.int (gI p8 30 0), .ref 30, .ref 166], zhp p8)) rfl ?_
          obtain ⟨p10, hp10, H⟩ := zbs H
          refine zEv_c (fun _ => rfl) rfl (t_qRu_follow (oo := 166) (oe := 30) (x2 := gI p8 30 0) (h := p8) (d := d) (by decide) hp10) rfl rfl ?_
          cases H
          exact zEv_r rfl
      · obtain ⟨p8, hp8, H⟩ := zbs H
        refine zEv_c (fun _ => rfl) rfl (t_qRu_begin (oo := 166) (oc := 22) (h := h) (d := d + 4) (by decide) hp8) rfl rfl ?_
        refine zEv_k 1 (f' := (39, [some (.ref 0), some (.int x1), some (.int x2), some (.ref 22), some (.ref v6)], [.ref 0], zhp p8)) rfl ?_
        refine zRgr rfl rfl rfl (by decide) (b := 166) rfl ?_
        refine zEv_k 2 (f' := (46, [some (.ref 0), some (.int x1), some (.int x2), some (.ref 22), some (.ref v6)], [.ref v6, .ref v6, .ref 166], zhp p8)) rfl ?_
        obtain ⟨c9, H⟩ := zifn H
        rcases c9 with rfl | rfl
        · refine zEv_k 1 (f' := (49, [some (.ref 0), some (.int x1), some (.int x2), some (.ref 22), some (.ref 15)], [.int (gI p8 15 0), .ref 15, .ref 166], zhp p8)) rfl ?_
          obtain ⟨p10, hp10, H⟩ := zbs H
          refine zEv_c (fun _ => rfl) rfl (t_qRu_follow (oo := 166) (oe := 15) (x2 := gI p8 15 0) (h := p8) (d := d) (by decide) hp10) rfl rfl ?_
          cases H
          exact zEv_r rfl
        · refine zEv_k 1 (f' := (49, [some (.ref 0), some (.int x1), some (.int x2), some (.ref 22), some (.ref 30)], [.int (gI p8 30 0), .ref 30, .ref 166], zhp p8)) rfl ?_
          obtain ⟨p10, hp10, H⟩ := zbs H
          refine zEv_c (fun _ => rfl) rfl (t_qRu_follow (oo := 166) (oe := 30) (x2 := gI p8 30 0) (h := p8) (d := d) (by decide) hp10) rfl rfl ?_
          cases H
          exact zEv_r rfl
def qC_state (x1 : Int32) (x2 : Int32) (x3 : Int32) (x4 : Int32) (h : zK) : Option (Int32 × zK) :=
  (qT_cellarAt x1 h).bind fun p1 => match p1 with
  | none =>
    (qT_deedsAt x2 h).bind fun p3 => match p3 with
    | none =>
      some (-1, h)
    | some v4 =>
      some (-1, h)
  | some v2 =>
    (qT_deedsAt x2 h).bind fun p5 => match p5 with
    | none =>
      some (-1, h)
    | some v6 =>
      if x3 < 0 then
        some (-1, h)
      else
        if v6 = 15 ∨ v6 = 30 then
          if x3 ≤ (gI h v6 0) then
            if v2 = 7 ∨ v2 = 22 then
              (qRu_begin 166 v2 h).bind fun p11 =>
              (qRu_follow 166 v6 x3 p11).bind fun p12 =>
              if x3 ≤ p12.1 then
                (qRu_look 166 x4 p12.2).bind fun p14 =>
                some (p14, p12.2)
              else
                some (-1, p12.2)
            else none
          else
            some (-1, h)
        else none
theorem t_qC_state {Ls : Nat} {xs : Nat → Int32} {d : Nat} {x1 : Int32} {x2 : Int32} {x3 : Int32} {x4 : Int32} {h : zK} {p : Int32 × zK} (H : qC_state x1 x2 x3 x4 h = some p) : zEv (zXs Ls xs) (d + 5) zm_120 (0, [some (.ref 0), some (.int x1), some (.int x2), some (.int x3), some (.int x4), none, none], [], zhp h) (some (.int p.1), zhp p.2) := by
  unfold qC_state at H
  refine zEv_k 1 (f' := (1, [some (.ref 0), some (.int x1), some (.int x2), some (.int x3), some (.int x4), none, none], [.ref 0], zhp h)) rfl ?_
  refine zRgr rfl rfl rfl (by decide) (b := 1) rfl ?_
  refine zEv_k 1 (f' := (5, [some (.ref 0), some (.int x1), some (.int x2), some (.int x3), some (.int x4), none, none], [.int x1, .ref 1], zhp h)) rfl ?_
  obtain ⟨p1, hp1, H⟩ := zbs H
  refine zEv_c (fun _ => rfl) rfl (t_qT_cellarAt (x1 := x1) (h := h) (d := d + 4) hp1) rfl rfl ?_
  rcases p1 with _ | v2
  · dsimp only at H
    refine zEv_k 2 (f' := (11, [some (.ref 0), some (.int x1), some (.int x2), some (.int x3), some (.int x4), some (.null), none], [.ref 0], zhp h)) rfl ?_
    refine zRgr rfl rfl rfl (by decide) (b := 1) rfl ?_
    refine zEv_k 1 (f' := (15, [some (.ref 0), some (.int x1), some (.int x2), some (.int x3), some (.int x4), some (.null), none], [.int x2, .ref 1], zhp h)) rfl ?_
    obtain ⟨p3, hp3, H⟩ := zbs H
    refine zEv_c (fun _ => rfl) rfl (t_qT_deedsAt (x1 := x2) (h := h) (d := d + 4) hp3) rfl rfl ?_
    rcases p3 with _ | v4
    · dsimp only at H
      refine zEv_k 4 (f' := (44, [some (.ref 0), some (.int x1), some (.int x2), some (.int x3), some (.int x4), some (.null), some (.null)], [.int (-1)], zhp h)) rfl ?_
      cases H
      exact zEv_r rfl
    · dsimp only at H
      refine zEv_k 4 (f' := (44, [some (.ref 0), some (.int x1), some (.int x2), some (.int x3), some (.int x4), some (.null), some (.ref v4)], [.int (-1)], zhp h)) rfl ?_
      cases H
      exact zEv_r rfl
  · dsimp only at H
    refine zEv_k 2 (f' := (11, [some (.ref 0), some (.int x1), some (.int x2), some (.int x3), some (.int x4), some (.ref v2), none], [.ref 0], zhp h)) rfl ?_
    refine zRgr rfl rfl rfl (by decide) (b := 1) rfl ?_
    refine zEv_k 1 (f' := (15, [some (.ref 0), some (.int x1), some (.int x2), some (.int x3), some (.int x4), some (.ref v2), none], [.int x2, .ref 1], zhp h)) rfl ?_
    obtain ⟨p5, hp5, H⟩ := zbs H
    refine zEv_c (fun _ => rfl) rfl (t_qT_deedsAt (x1 := x2) (h := h) (d := d + 4) hp5) rfl rfl ?_
    rcases p5 with _ | v6
    · dsimp only at H
      refine zEv_k 6 (f' := (44, [some (.ref 0), some (.int x1), some (.int x2), some (.int x3), some (.int x4), some (.ref v2), some (.null)], [.int (-1)], zhp h)) rfl ?_
      cases H
      exact zEv_r rfl
    · dsimp only at H
      refine zEv_k 7 (f' := (if x3 < 0 then 43 else 34, [some (.ref 0), some (.int x1), some (.int x2), some (.int x3), some (.int x4), some (.ref v2), some (.ref v6)], [], zhp h)) rfl (zEv_if (fun c7 => ?_) (fun c7 => ?_))
      · replace H := zif_t c7 H
        refine zEv_k 1 (f' := (44, [some (.ref 0), some (.int x1), some (.int x2), some (.int x3), some (.int x4), some (.ref v2), some (.ref v6)], [.int (-1)], zhp h)) rfl ?_
        cases H
        exact zEv_r rfl
      · replace H := zif_f c7 H
        refine zEv_k 2 (f' := (37, [some (.ref 0), some (.int x1), some (.int x2), some (.int x3), some (.int x4), some (.ref v2), some (.ref v6)], [.ref v6, .int x3], zhp h)) rfl ?_
        obtain ⟨c8, H⟩ := zifn H
        rcases c8 with rfl | rfl
        · refine zEv_k 2 (f' := (if x3 ≤ (gI h 15 0) then 45 else 43, [some (.ref 0), some (.int x1), some (.int x2), some (.int x3), some (.int x4), some (.ref v2), some (.ref 15)], [], zhp h)) rfl (zEv_if (fun c9 => ?_) (fun c9 => ?_))
          · replace H := zif_t c9 H
            refine zEv_k 1 (f' := (46, [some (.ref 0), some (.int x1), some (.int x2), some (.int x3), some (.int x4), some (.ref v2), some (.ref 15)], [.ref 0], zhp h)) rfl ?_
            refine zRgr rfl rfl rfl (by decide) (b := 166) rfl ?_
            refine zEv_k 1 (f' := (51, [some (.ref 0), some (.int x1), some (.int x2), some (.int x3), some (.int x4), some (.ref v2), some (.ref 15)], [.ref v2, .ref 166], zhp h)) rfl ?_
            obtain ⟨c10, H⟩ := zifn H
            rcases c10 with rfl | rfl
            · obtain ⟨p11, hp11, H⟩ := zbs H
              refine zEv_c (fun _ => rfl) rfl (t_qRu_begin (oo := 166) (oc := 7) (h := h) (d := d + 4) (by decide) hp11) rfl rfl ?_
              refine zEv_k 1 (f' := (55, [some (.ref 0), some (.int x1), some (.int x2), some (.int x3), some (.int x4), some (.ref 7), some (.ref 15)], [.ref 0], zhp p11)) rfl ?_
              refine zRgr rfl rfl rfl (by decide) (b := 166) rfl ?_
              refine zEv_k 2 (f' := (61, [some (.ref 0), some (.int x1), some (.int x2), some (.int x3), some (.int x4), some (.ref 7), some (.ref 15)], [.int x3, .ref 15, .ref 166], zhp p11)) rfl ?_
              obtain ⟨p12, hp12, H⟩ := zbs H
              refine zEv_c (fun _ => rfl) rfl (t_qRu_follow (oo := 166) (oe := 15) (x2 := x3) (h := p11) (d := d) (by decide) hp12) rfl rfl ?_
              refine zEv_k 2 (f' := (if x3 ≤ p12.1 then 70 else 68, [some (.ref 0), some (.int x1), some (.int x2), some (.int x3), some (.int x4), some (.ref 7), some (.ref 15)], [], zhp p12.2)) rfl (zEv_if (fun c13 => ?_) (fun c13 => ?_))
              · replace H := zif_t c13 H
                refine zEv_k 1 (f' := (71, [some (.ref 0), some (.int x1), some (.int x2), some (.int x3), some (.int x4), some (.ref 7), some (.ref 15)], [.ref 0], zhp p12.2)) rfl ?_
                refine zRgr rfl rfl rfl (by decide) (b := 166) rfl ?_
                refine zEv_k 1 (f' := (76, [some (.ref 0), some (.int x1), some (.int x2), some (.int x3), some (.int x4), some (.ref 7), some (.ref 15)], [.int x4, .ref 166], zhp p12.2)) rfl ?_
                obtain ⟨p14, hp14, H⟩ := zbs H
                refine zEv_c (fun _ => rfl) rfl (t_qRu_look (oo := 166) (x1 := x4) (h := p12.2) (d := d + 3) (by decide) hp14) rfl rfl ?_
                cases H
                exact zEv_r rfl
              · replace H := zif_f c13 H
                refine zEv_k 1 (f' := (69, [some (.ref 0), some (.int x1), some (.int x2), some (.int x3), some (.int x4), some (.ref 7), some (.ref 15)], [.int (-1)], zhp p12.2)) rfl ?_
                cases H
                exact zEv_r rfl
            · obtain ⟨p11, hp11, H⟩ := zbs H
              refine zEv_c (fun _ => rfl) rfl (t_qRu_begin (oo := 166) (oc := 22) (h := h) (d := d + 4) (by decide) hp11) rfl rfl ?_
              refine zEv_k 1 (f' := (55, [some (.ref 0), some (.int x1), some (.int x2), some (.int x3), some (.int x4), some (.ref 22), some (.ref 15)], [.ref 0], zhp p11)) rfl ?_
              refine zRgr rfl rfl rfl (by decide) (b := 166) rfl ?_
              refine zEv_k 2 (f' := (61, [some (.ref 0), some (.int x1), some (.int x2), some (.int x3), some (.int x4), some (.ref 22), some (.ref 15)], [.int x3, .ref 15, .ref 166], zhp p11)) rfl ?_
              obtain ⟨p12, hp12, H⟩ := zbs H
              refine zEv_c (fun _ => rfl) rfl (t_qRu_follow (oo := 166) (oe := 15) (x2 := x3) (h := p11) (d := d) (by decide) hp12) rfl rfl ?_
              refine zEv_k 2 (f' := (if x3 ≤ p12.1 then 70 else 68, [some (.ref 0), some (.int x1), some (.int x2), some (.int x3), some (.int x4), some (.ref 22), some (.ref 15)], [], zhp p12.2)) rfl (zEv_if (fun c13 => ?_) (fun c13 => ?_))
              · replace H := zif_t c13 H
                refine zEv_k 1 (f' := (71, [some (.ref 0), some (.int x1), some (.int x2), some (.int x3), some (.int x4), some (.ref 22), some (.ref 15)], [.ref 0], zhp p12.2)) rfl ?_
                refine zRgr rfl rfl rfl (by decide) (b := 166) rfl ?_
                refine zEv_k 1 (f' := (76, [some (.ref 0), some (.int x1), some (.int x2), some (.int x3), some (.int x4), some (.ref 22), some (.ref 15)], [.int x4, .ref 166], zhp p12.2)) rfl ?_
                obtain ⟨p14, hp14, H⟩ := zbs H
                refine zEv_c (fun _ => rfl) rfl (t_qRu_look (oo := 166) (x1 := x4) (h := p12.2) (d := d + 3) (by decide) hp14) rfl rfl ?_
                cases H
                exact zEv_r rfl
              · replace H := zif_f c13 H
                refine zEv_k 1 (f' := (69, [some (.ref 0), some (.int x1), some (.int x2), some (.int x3), some (.int x4), some (.ref 22), some (.ref 15)], [.int (-1)], zhp p12.2)) rfl ?_
                cases H
                exact zEv_r rfl
          · replace H := zif_f c9 H
            refine zEv_k 1 (f' := (44, [some (.ref 0), some (.int x1), some (.int x2), some (.int x3), some (.int x4), some (.ref v2), some (.ref 15)], [.int (-1)], zhp h)) rfl ?_
            cases H
            exact zEv_r rfl
        · refine zEv_k 2 (f' := (if x3 ≤ (gI h 30 0) then 45 else 43, [some (.ref 0), some (.int x1), some (.int x2), some (.int x3), some (.int x4), some (.ref v2), some (.ref 30)], [], zhp h)) rfl (zEv_if (fun c9 => ?_) (fun c9 => ?_))
          · replace H := zif_t c9 H
            refine zEv_k 1 (f' := (46, [some (.ref 0), some (.int x1), some (.int x2), some (.int x3), some (.int x4), some (.ref v2), some (.ref 30)], [.ref 0], zhp h)) rfl ?_
            refine zRgr rfl rfl rfl (by decide) (b := 166) rfl ?_
            refine zEv_k 1 (f' := (51, [some (.ref 0), some (.int x1), some (.int x2), some (.int x3), some (.int x4), some (.ref v2), some (.ref 30)], [.ref v2, .ref 166], zhp h)) rfl ?_
            obtain ⟨c10, H⟩ := zifn H
            rcases c10 with rfl | rfl
            · obtain ⟨p11, hp11, H⟩ := zbs H
              refine zEv_c (fun _ => rfl) rfl (t_qRu_begin (oo := 166) (oc := 7) (h := h) (d := d + 4) (by decide) hp11) rfl rfl ?_
              refine zEv_k 1 (f' := (55, [some (.ref 0), some (.int x1), some (.int x2), some (.int x3), some (.int x4), some (.ref 7), some (.ref 30)], [.ref 0], zhp p11)) rfl ?_
              refine zRgr rfl rfl rfl (by decide) (b := 166) rfl ?_
              refine zEv_k 2 (f' := (61, [some (.ref 0), some (.int x1), some (.int x2), some (.int x3), some (.int x4), some (.ref 7), some (.ref 30)], [.int x3, .ref 30, .ref 166], zhp p11)) rfl ?_
              obtain ⟨p12, hp12, H⟩ := zbs H
              refine zEv_c (fun _ => rfl) rfl (t_qRu_follow (oo := 166) (oe := 30) (x2 := x3) (h := p11) (d := d) (by decide) hp12) rfl rfl ?_
              refine zEv_k 2 (f' := (if x3 ≤ p12.1 then 70 else 68, [some (.ref 0), some (.int x1), some (.int x2), some (.int x3), some (.int x4), some (.ref 7), some (.ref 30)], [], zhp p12.2)) rfl (zEv_if (fun c13 => ?_) (fun c13 => ?_))
              · replace H := zif_t c13 H
                refine zEv_k 1 (f' := (71, [some (.ref 0), some (.int x1), some (.int x2), some (.int x3), some (.int x4), some (.ref 7), some (.ref 30)], [.ref 0], zhp p12.2)) rfl ?_
                refine zRgr rfl rfl rfl (by decide) (b := 166) rfl ?_
                refine zEv_k 1 (f' := (76, [some (.ref 0), some (.int x1), some (.int x2), some (.int x3), some (.int x4), some (.ref 7), some (.ref 30)], [.int x4, .ref 166], zhp p12.2)) rfl ?_
                obtain ⟨p14, hp14, H⟩ := zbs H
                refine zEv_c (fun _ => rfl) rfl (t_qRu_look (oo := 166) (x1 := x4) (h := p12.2) (d := d + 3) (by decide) hp14) rfl rfl ?_
                cases H
                exact zEv_r rfl
              · replace H := zif_f c13 H
                refine zEv_k 1 (f' := (69, [some (.ref 0), some (.int x1), some (.int x2), some (.int x3), some (.int x4), some (.ref 7), some (.ref 30)], [.int (-1)], zhp p12.2)) rfl ?_
                cases H
                exact zEv_r rfl
            · obtain ⟨p11, hp11, H⟩ := zbs H
              refine zEv_c (fun _ => rfl) rfl (t_qRu_begin (oo := 166) (oc := 22) (h := h) (d := d + 4) (by decide) hp11) rfl rfl ?_
              refine zEv_k 1 (f' := (55, [some (.ref 0), some (.int x1), some (.int x2), some (.int x3), some (.int x4), some (.ref 22), some (.ref 30)], [.ref 0], zhp p11)) rfl ?_
              refine zRgr rfl rfl rfl (by decide) (b := 166) rfl ?_
              refine zEv_k 2 (f' := (61, [some (.ref 0), some (.int x1), some (.int x2), some (.int x3), some (.int x4), some (.ref 22), some (.ref 30)], [.int x3, .ref 30, .ref 166], zhp p11)) rfl ?_
              obtain ⟨p12, hp12, H⟩ := zbs H
              refine zEv_c (fun _ => rfl) rfl (t_qRu_follow (oo := 166) (oe := 30) (x2 := x3) (h := p11) (d := d) (by decide) hp12) rfl rfl ?_
              refine zEv_k 2 (f' := (if x3 ≤ p12.1 then 70 else 68, [some (.ref 0), some (.int x1), some (.int x2), some (.int x3), some (.int x4), some (.ref 22), some (.ref 30)], [], zhp p12.2)) rfl (zEv_if (fun c13 => ?_) (fun c13 => ?_))
              · replace H := zif_t c13 H
                refine zEv_k 1 (f' := (71, [some (.ref 0), some (.int x1), some (.int x2), some (.int x3), some (.int x4), some (.ref 22), some (.ref 30)], [.ref 0], zhp p12.2)) rfl ?_
                refine zRgr rfl rfl rfl (by decide) (b := 166) rfl ?_
                refine zEv_k 1 (f' := (76, [some (.ref 0), some (.int x1), some (.int x2), some (.int x3), some (.int x4), some (.ref 22), some (.ref 30)], [.int x4, .ref 166], zhp p12.2)) rfl ?_
                obtain ⟨p14, hp14, H⟩ := zbs H
                refine zEv_c (fun _ => rfl) rfl (t_qRu_look (oo := 166) (x1 := x4) (h := p12.2) (d := d + 3) (by decide) hp14) rfl rfl ?_
                cases H
                exact zEv_r rfl
              · replace H := zif_f c13 H
                refine zEv_k 1 (f' := (69, [some (.ref 0), some (.int x1), some (.int x2), some (.int x3), some (.int x4), some (.ref 22), some (.ref 30)], [.int (-1)], zhp p12.2)) rfl ?_
                cases H
                exact zEv_r rfl
          · replace H := zif_f c9 H
            refine zEv_k 1 (f' := (44, [some (.ref 0), some (.int x1), some (.int x2), some (.int x3), some (.int x4), some (.ref v2), some (.ref 30)], [.int (-1)], zhp h)) rfl ?_
            cases H
            exact zEv_r rfl
def qC_train (x1 : Int32) (x2 : Int32) (h : zK) : Option (Int32 × zK) :=
  (qT_cellarAt x1 h).bind fun p1 => match p1 with
  | none =>
    some (-1, h)
  | some v2 =>
    if v2 = 7 ∨ v2 = 22 then
      if ¬ (qCe_has v2 x2 h) = 0 then
        (qTr_lookAt 180 v2 h).bind fun p5 =>
        (qTr_from 180 x2 p5).bind fun p6 =>
        some (p6, p5)
      else
        some (-1, h)
    else none
theorem t_qC_train {Ls : Nat} {xs : Nat → Int32} {d : Nat} {x1 : Int32} {x2 : Int32} {h : zK} {p : Int32 × zK} (H : qC_train x1 x2 h = some p) : zEv (zXs Ls xs) (d + 3) zm_121 (0, [some (.ref 0), some (.int x1), some (.int x2), none], [], zhp h) (some (.int p.1), zhp p.2) := by
  unfold qC_train at H
  refine zEv_k 1 (f' := (1, [some (.ref 0), some (.int x1), some (.int x2), none], [.ref 0], zhp h)) rfl ?_
  refine zRgr rfl rfl rfl (by decide) (b := 1) rfl ?_
  refine zEv_k 1 (f' := (5, [some (.ref 0), some (.int x1), some (.int x2), none], [.int x1, .ref 1], zhp h)) rfl ?_
  obtain ⟨p1, hp1, H⟩ := zbs H
  refine zEv_c (fun _ => rfl) rfl (t_qT_cellarAt (x1 := x1) (h := h) (d := d + 2) hp1) rfl rfl ?_
  rcases p1 with _ | v2
  · dsimp only at H
    refine zEv_k 4 (f' := (22, [some (.ref 0), some (.int x1), some (.int x2), some (.null)], [.int (-1)], zhp h)) rfl ?_
    cases H
    exact zEv_r rfl
  · dsimp only at H
    refine zEv_k 5 (f' := (15, [some (.ref 0), some (.int x1), some (.int x2), some (.ref v2)], [.int x2, .ref v2], zhp h)) rfl ?_
    obtain ⟨c3, H⟩ := zifn H
    rcases c3 with rfl | rfl
    · refine zEv_c (fun _ => rfl) rfl (t_qCe_has (oo := 7) (x1 := x2) (h := h) (d := d + 2) (by decide) rfl) rfl rfl ?_
      refine zEv_k 1 (f' := (if ¬ (qCe_has 7 x2 h) = 0 then 23 else 21, [some (.ref 0), some (.int x1), some (.int x2), some (.ref 7)], [], zhp h)) rfl (zEv_if (fun c4 => ?_) (fun c4 => ?_))
      · replace H := zif_t c4 H
        refine zEv_k 1 (f' := (24, [some (.ref 0), some (.int x1), some (.int x2), some (.ref 7)], [.ref 0], zhp h)) rfl ?_
        refine zRgr rfl rfl rfl (by decide) (b := 180) rfl ?_
        refine zEv_k 1 (f' := (28, [some (.ref 0), some (.int x1), some (.int x2), some (.ref 7)], [.ref 7, .ref 180], zhp h)) rfl ?_
        obtain ⟨p5, hp5, H⟩ := zbs H
        refine zEv_c (fun _ => rfl) rfl (t_qTr_lookAt (oo := 180) (oc := 7) (h := h) (d := d) (by decide) hp5) rfl rfl ?_
        refine zEv_k 1 (f' := (32, [some (.ref 0), some (.int x1), some (.int x2), some (.ref 7)], [.ref 0], zhp p5)) rfl ?_
        refine zRgr rfl rfl rfl (by decide) (b := 180) rfl ?_
        refine zEv_k 1 (f' := (36, [some (.ref 0), some (.int x1), some (.int x2), some (.ref 7)], [.int x2, .ref 180], zhp p5)) rfl ?_
        obtain ⟨p6, hp6, H⟩ := zbs H
        refine zEv_c (fun _ => rfl) rfl (t_qTr_from (oo := 180) (x1 := x2) (h := p5) (d := d + 1) (by decide) hp6) rfl rfl ?_
        cases H
        exact zEv_r rfl
      · replace H := zif_f c4 H
        refine zEv_k 1 (f' := (22, [some (.ref 0), some (.int x1), some (.int x2), some (.ref 7)], [.int (-1)], zhp h)) rfl ?_
        cases H
        exact zEv_r rfl
    · refine zEv_c (fun _ => rfl) rfl (t_qCe_has (oo := 22) (x1 := x2) (h := h) (d := d + 2) (by decide) rfl) rfl rfl ?_
      refine zEv_k 1 (f' := (if ¬ (qCe_has 22 x2 h) = 0 then 23 else 21, [some (.ref 0), some (.int x1), some (.int x2), some (.ref 22)], [], zhp h)) rfl (zEv_if (fun c4 => ?_) (fun c4 => ?_))
      · replace H := zif_t c4 H
        refine zEv_k 1 (f' := (24, [some (.ref 0), some (.int x1), some (.int x2), some (.ref 22)], [.ref 0], zhp h)) rfl ?_
        refine zRgr rfl rfl rfl (by decide) (b := 180) rfl ?_
        refine zEv_k 1 (f' := (28, [some (.ref 0), some (.int x1), some (.int x2), some (.ref 22)], [.ref 22, .ref 180], zhp h)) rfl ?_
        obtain ⟨p5, hp5, H⟩ := zbs H
        refine zEv_c (fun _ => rfl) rfl (t_qTr_lookAt (oo := 180) (oc := 22) (h := h) (d := d) (by decide) hp5) rfl rfl ?_
        refine zEv_k 1 (f' := (32, [some (.ref 0), some (.int x1), some (.int x2), some (.ref 22)], [.ref 0], zhp p5)) rfl ?_
        refine zRgr rfl rfl rfl (by decide) (b := 180) rfl ?_
        refine zEv_k 1 (f' := (36, [some (.ref 0), some (.int x1), some (.int x2), some (.ref 22)], [.int x2, .ref 180], zhp p5)) rfl ?_
        obtain ⟨p6, hp6, H⟩ := zbs H
        refine zEv_c (fun _ => rfl) rfl (t_qTr_from (oo := 180) (x1 := x2) (h := p5) (d := d + 1) (by decide) hp6) rfl rfl ?_
        cases H
        exact zEv_r rfl
      · replace H := zif_f c4 H
        refine zEv_k 1 (f' := (22, [some (.ref 0), some (.int x1), some (.int x2), some (.ref 22)], [.int (-1)], zhp h)) rfl ?_
        cases H
        exact zEv_r rfl
