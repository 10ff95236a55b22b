def qTr_from_b28 (oo : Nat) (x3 : Int32) (x4 : Int32) (h : zK) (s : Int32 × Int32) : Option ((Int32 × Int32) ⊕ (Int32)) :=
  if (gI h oo 0) ≤ s.2 then
    some (.inr s.1)
  else
    Option.bind (
        if ¬ (zf_cin s.1 s.2) = 0 then
          some s.1
        else
          (zix s.2 7).bind fun j6 =>
          if (qIn_bitCount ((gI h (oo + 2) j6) &&& s.1)) < (gI h (oo + 1) j6) then
            some s.1
          else
            some (s.1 ||| ((1 : Int32) <<< (s.2 &&& 31)))
      ) fun (v5 : Int32) =>
    some (.inl (v5, s.2 + 1))
theorem t_qTr_from_b28b {Ls : Nat} {xs : Nat → Int32} {d : Nat} {oo : Nat} {x3 : Int32} {x4 : Int32} {h : zK} {r : zA} {s : Int32 × Int32} {e : (Int32 × Int32) ⊕ (Int32)} (ho : oo = 180 ∨ oo = 186) (H : qTr_from_b28 oo x3 x4 h s = some e) (K : match (generalizing := false) e with | .inl s' => ∀ (z1 : Option Value), zEv (zXs Ls xs) (d + 1) zm_101 (28, [some (.ref oo), z1, some (.int s'.1), some (.int x3), some (.int x4), some (.int s'.2)], [], zhp h) r | .inr v => ∀ (z1 : Option Value) (z5 : Option Value), zEv (zXs Ls xs) (d + 1) zm_101 (81, [some (.ref oo), z1, some (.int v), some (.int x3), some (.int x4), z5], [], zhp h) r) (y1 : Option Value) : zEv (zXs Ls xs) (d + 1) zm_101 (28, [some (.ref oo), y1, some (.int s.1), some (.int x3), some (.int x4), some (.int s.2)], [], zhp h) r := by
  unfold qTr_from_b28 at H
  rcases ho with rfl | rfl
  · refine zEv_k 4 (f' := (if (gI h 180 0) ≤ s.2 then 81 else 37, [some (.ref 180), y1, some (.int s.1), some (.int x3), some (.int x4), some (.int s.2)], [], zhp h)) rfl (zEv_if (fun c3 => ?_) (fun c3 => ?_))
    · replace H := zif_t c3 H
      cases H
      exact K _ _
    · replace H := zif_f c3 H
      obtain ⟨v5, hv5, H⟩ := zbs H
      have kv5 : ∀ (y1 : Option Value), zEv (zXs Ls xs) (d + 1) zm_101 (75, [some (.ref 180), y1, some (.int v5), some (.int x3), some (.int x4), some (.int s.2)], [], zhp h) r := by
        intro y1
        refine zEv_k 2 (f' := (28, [some (.ref 180), y1, some (.int v5), some (.int x3), some (.int x4), some (.int (s.2 + 1))], [], zhp h)) rfl ?_
        cases H
        exact K _
      clear H
      refine zEv_k 2 (f' := (40, [some (.ref 180), y1, some (.int s.1), some (.int x3), some (.int x4), some (.int s.2)], [.int s.2, .int s.1], zhp h)) rfl ?_
      refine zEv_c (fun _ => rfl) rfl ev_zf_cin rfl rfl ?_
      refine zEv_k 1 (f' := (if ¬ (zf_cin s.1 s.2) = 0 then 75 else 46, [some (.ref 180), y1, some (.int s.1), some (.int x3), some (.int x4), some (.int s.2)], [], zhp h)) rfl (zEv_if (fun c4 => ?_) (fun c4 => ?_))
      · replace hv5 := zif_t c4 hv5
        cases hv5
        exact kv5 _
      · replace hv5 := zif_f c4 hv5
        refine zEv_k 1 (f' := (47, [some (.ref 180), y1, some (.int s.1), some (.int x3), some (.int x4), some (.int s.2)], [.ref 180], zhp h)) rfl ?_
        refine zRgr rfl rfl rfl (by decide) (b := 180 + 2) rfl ?_
        refine zEv_k 1 (f' := (52, [some (.ref 180), y1, some (.int s.1), some (.int x3), some (.int x4), some (.int s.2)], [.int s.2, .ref (180 + 2)], zhp h)) rfl ?_
        obtain ⟨j6, hj6, hv5⟩ := zbs hv5
        refine zRia rfl rfl (by decide) hj6 ?_
        refine zEv_k 2 (f' := (55, [some (.ref 180), y1, some (.int s.1), some (.int x3), some (.int x4), some (.int s.2)], [.int ((gI h (180 + 2) j6) &&& s.1)], zhp h)) rfl ?_
        refine zEv_c (fun _ => rfl) rfl (t_qIn_bitCount (x0 := (gI h (180 + 2) j6) &&& s.1) (h := h) (d := d) rfl) rfl rfl ?_
        refine zEv_k 1 (f' := (59, [some (.ref 180), y1, some (.int s.1), some (.int x3), some (.int x4), some (.int s.2)], [.ref 180, .int (qIn_bitCount ((gI h (180 + 2) j6) &&& s.1))], zhp h)) rfl ?_
        refine zRgr rfl rfl rfl (by decide) (b := 180 + 1) rfl ?_
        refine zEv_k 1 (f' := (64, [some (.ref 180), y1, some (.int s.1), some (.int x3), some (.int x4), some (.int s.2)], [.int s.2, .ref (180 + 1), .int (qIn_bitCount ((gI h (180 + 2) j6) &&& s.1))], zhp h)) rfl ?_
        refine zRia rfl rfl (by decide) hj6 ?_
        refine zEv_k 1 (f' := (if (qIn_bitCount ((gI h (180 + 2) j6) &&& s.1)) < (gI h (180 + 1) j6) then 75 else 68, [some (.ref 180), y1, some (.int s.1), some (.int x3), some (.int x4), some (.int s.2)], [], zhp h)) rfl (zEv_if (fun c7 => ?_) (fun c7 => ?_))
        · replace hv5 := zif_t c7 hv5
          cases hv5
          exact kv5 _
        · replace hv5 := zif_f c7 hv5
          refine zEv_k 6 (f' := (75, [some (.ref 180), zlost y1, some (.int (s.1 ||| ((1 : Int32) <<< (s.2 &&& 31)))), some (.int x3), some (.int x4), some (.int s.2)], [], zhp h)) rfl ?_
          cases hv5
          exact kv5 _
  · refine zEv_k 4 (f' := (if (gI h 186 0) ≤ s.2 then 81 else 37, [some (.ref 186), y1, some (.int s.1), some (.int x3), some (.int x4), some (.int s.2)], [], zhp h)) rfl (zEv_if (fun c3 => ?_) (fun c3 => ?_))
    · replace H := zif_t c3 H
      cases H
      exact K _ _
    · replace H := zif_f c3 H
      obtain ⟨v5, hv5, H⟩ := zbs H
      have kv5 : ∀ (y1 : Option Value), zEv (zXs Ls xs) (d + 1) zm_101 (75, [some (.ref 186), y1, some (.int v5), some (.int x3), some (.int x4), some (.int s.2)], [], zhp h) r := by
        intro y1
        refine zEv_k 2 (f' := (28, [some (.ref 186), y1, some (.int v5), some (.int x3), some (.int x4), some (.int (s.2 + 1))], [], zhp h)) rfl ?_
        cases H
        exact K _
      clear H
      refine zEv_k 2 (f' := (40, [some (.ref 186), y1, some (.int s.1), some (.int x3), some (.int x4), some (.int s.2)], [.int s.2, .int s.1], zhp h)) rfl ?_
      refine zEv_c (fun _ => rfl) rfl ev_zf_cin rfl rfl ?_
      refine zEv_k 1 (f' := (if ¬ (zf_cin s.1 s.2) = 0 then 75 else 46, [some (.ref 186), y1, some (.int s.1), some (.int x3), some (.int x4), some (.int s.2)], [], zhp h)) rfl (zEv_if (fun c4 => ?_) (fun c4 => ?_))
      · replace hv5 := zif_t c4 hv5
        cases hv5
        exact kv5 _
      · replace hv5 := zif_f c4 hv5
        refine zEv_k 1 (f' := (47, [some (.ref 186), y1, some (.int s.1), some (.int x3), some (.int x4), some (.int s.2)], [.ref 186], zhp h)) rfl ?_
        refine zRgr rfl rfl rfl (by decide) (b := 186 + 2) rfl ?_
        refine zEv_k 1 (f' := (52, [some (.ref 186), y1, some (.int s.1), some (.int x3), some (.int x4), some (.int s.2)], [.int s.2, .ref (186 + 2)], zhp h)) rfl ?_
        obtain ⟨j6, hj6, hv5⟩ := zbs hv5
        refine zRia rfl rfl (by decide) hj6 ?_
        refine zEv_k 2 (f' := (55, [some (.ref 186), y1, some (.int s.1), some (.int x3), some (.int x4), some (.int s.2)], [.int ((gI h (186 + 2) j6) &&& s.1)], zhp h)) rfl ?_
        refine zEv_c (fun _ => rfl) rfl (t_qIn_bitCount (x0 := (gI h (186 + 2) j6) &&& s.1) (h := h) (d := d) rfl) rfl rfl ?_
        refine zEv_k 1 (f' := (59, [some (.ref 186), y1, some (.int s.1), some (.int x3), some (.int x4), some (.int s.2)], [.ref 186, .int (qIn_bitCount ((gI h (186 + 2) j6) &&& s.1))], zhp h)) rfl ?_
        refine zRgr rfl rfl rfl (by decide) (b := 186 + 1) rfl ?_
        refine zEv_k 1 (f' := (64, [some (.ref 186), y1, some (.int s.1), some (.int x3), some (.int x4), some (.int s.2)], [.int s.2, .ref (186 + 1), .int (qIn_bitCount ((gI h (186 + 2) j6) &&& s.1))], zhp h)) rfl ?_
        refine zRia rfl rfl (by decide) hj6 ?_
        refine zEv_k 1 (f' := (if (qIn_bitCount ((gI h (186 + 2) j6) &&& s.1)) < (gI h (186 + 1) j6) then 75 else 68, [some (.ref 186), y1, some (.int s.1), some (.int x3), some (.int x4), some (.int s.2)], [], zhp h)) rfl (zEv_if (fun c7 => ?_) (fun c7 => ?_))
        · replace hv5 := zif_t c7 hv5
          cases hv5
          exact kv5 _
        · replace hv5 := zif_f c7 hv5
          refine zEv_k 6 (f' := (75, [some (.ref 186), zlost y1, some (.int (s.1 ||| ((1 : Int32) <<< (s.2 &&& 31)))), some (.int x3), some (.int x4), some (.int s.2)], [], zhp h)) rfl ?_
          cases hv5
          exact kv5 _
theorem t_qTr_from_b28 {Ls : Nat} {xs : Nat → Int32} {d : Nat} {oo : Nat} {x3 : Int32} {x4 : Int32} {h : zK} {r : zA} (ho : oo = 180 ∨ oo = 186) {t : Int32} (K : ∀ (z1 : Option Value) (z5 : Option Value), zEv (zXs Ls xs) (d + 1) zm_101 (81, [some (.ref oo), z1, some (.int t), some (.int x3), some (.int x4), z5], [], zhp h) r) (n : Nat) (s : Int32 × Int32) (H : zloop (qTr_from_b28 oo x3 x4 h) n s = some t) (y1 : Option Value) : zEv (zXs Ls xs) (d + 1) zm_101 (28, [some (.ref oo), y1, some (.int s.1), some (.int x3), some (.int x4), some (.int s.2)], [], zhp h) r := by
  have Z := zloop_P (P := fun s => ∀ (y1 : Option Value), zEv (zXs Ls xs) (d + 1) zm_101 (28, [some (.ref oo), y1, some (.int s.1), some (.int x3), some (.int x4), some (.int s.2)], [], zhp h) r) (b := qTr_from_b28 oo x3 x4 h) (t := t) (fun s s2 hb hk => by intro y1; exact t_qTr_from_b28b ho hb hk y1) (fun s hb => by intro y1; exact t_qTr_from_b28b ho hb K y1) n s H
  exact Z y1
def qTr_from_b9 (oo : Nat) (h : zK) (s : Int32 × Int32 × Int32) : Option ((Int32 × Int32 × Int32) ⊕ (Int32)) :=
  if (gI h oo 0) ≤ s.2.2 then
    some (.inr s.1)
  else
    if s.1 = s.2.1 then
      some (.inr s.1)
    else
      (zloop (qTr_from_b28 oo s.1 s.2.2 h) zfu (s.1, 0)).bind fun t8 =>
      some (.inl (t8, s.1, s.2.2 + 1))
theorem t_qTr_from_b9b {Ls : Nat} {xs : Nat → Int32} {d : Nat} {oo : Nat} {h : zK} {r : zA} {s : Int32 × Int32 × Int32} {e : (Int32 × Int32 × Int32) ⊕ (Int32)} (ho : oo = 180 ∨ oo = 186) (H : qTr_from_b9 oo h s = some e) (K : match (generalizing := false) e with | .inl s' => ∀ (z1 : Option Value) (z5 : Option Value), zEv (zXs Ls xs) (d + 1) zm_101 (9, [some (.ref oo), z1, some (.int s'.1), some (.int s'.2.1), some (.int s'.2.2), z5], [], zhp h) r | .inr v => ∀ (z1 : Option Value) (z3 : Option Value) (z4 : Option Value) (z5 : Option Value), zEv (zXs Ls xs) (d + 1) zm_101 (87, [some (.ref oo), z1, some (.int v), z3, z4, z5], [], zhp h) r) (y1 : Option Value) (y5 : Option Value) : zEv (zXs Ls xs) (d + 1) zm_101 (9, [some (.ref oo), y1, some (.int s.1), some (.int s.2.1), some (.int s.2.2), y5], [], zhp h) r := by
  unfold qTr_from_b9 at H
  rcases ho with rfl | rfl
  · refine zEv_k 4 (f' := (if (gI h 180 0) ≤ s.2.2 then 87 else 18, [some (.ref 180), y1, some (.int s.1), some (.int s.2.1), some (.int s.2.2), y5], [], zhp h)) rfl (zEv_if (fun c1 => ?_) (fun c1 => ?_))
    · replace H := zif_t c1 H
      cases H
      exact K _ _ _ _
    · replace H := zif_f c1 H
      refine zEv_k 3 (f' := (if s.1 = s.2.1 then 87 else 23, [some (.ref 180), y1, some (.int s.1), some (.int s.2.1), some (.int s.2.2), y5], [], zhp h)) rfl (zEv_if (fun c2 => ?_) (fun c2 => ?_))
      · replace H := zif_t c2 H
        cases H
        exact K _ _ _ _
      · replace H := zif_f c2 H
        refine zEv_k 4 (f' := (28, [some (.ref 180), y1, some (.int s.1), some (.int s.1), some (.int s.2.2), some (.int 0)], [], zhp h)) rfl ?_
        obtain ⟨t8, ht8, H⟩ := zbs H
        refine t_qTr_from_b28 (oo := 180) (x3 := s.1) (x4 := s.2.2) (h := h) (by decide) ?_ zfu _ ht8 _
        intro y1 y5
        refine zEv_k 2 (f' := (9, [some (.ref 180), y1, some (.int t8), some (.int s.1), some (.int (s.2.2 + 1)), y5], [], zhp h)) rfl ?_
        cases H
        exact K _ _
  · refine zEv_k 4 (f' := (if (gI h 186 0) ≤ s.2.2 then 87 else 18, [some (.ref 186), y1, some (.int s.1), some (.int s.2.1), some (.int s.2.2), y5], [], zhp h)) rfl (zEv_if (fun c1 => ?_) (fun c1 => ?_))
    · replace H := zif_t c1 H
      cases H
      exact K _ _ _ _
    · replace H := zif_f c1 H
      refine zEv_k 3 (f' := (if s.1 = s.2.1 then 87 else 23, [some (.ref 186), y1, some (.int s.1), some (.int s.2.1), some (.int s.2.2), y5], [], zhp h)) rfl (zEv_if (fun c2 => ?_) (fun c2 => ?_))
      · replace H := zif_t c2 H
        cases H
        exact K _ _ _ _
      · replace H := zif_f c2 H
        refine zEv_k 4 (f' := (28, [some (.ref 186), y1, some (.int s.1), some (.int s.1), some (.int s.2.2), some (.int 0)], [], zhp h)) rfl ?_
        obtain ⟨t8, ht8, H⟩ := zbs H
        refine t_qTr_from_b28 (oo := 186) (x3 := s.1) (x4 := s.2.2) (h := h) (by decide) ?_ zfu _ ht8 _
        intro y1 y5
        refine zEv_k 2 (f' := (9, [some (.ref 186), y1, some (.int t8), some (.int s.1), some (.int (s.2.2 + 1)), y5], [], zhp h)) rfl ?_
        cases H
        exact K _ _
theorem t_qTr_from_b9 {Ls : Nat} {xs : Nat → Int32} {d : Nat} {oo : Nat} {h : zK} {r : zA} (ho : oo = 180 ∨ oo = 186) {t : Int32} (K : ∀ (z1 : Option Value) (z3 : Option Value) (z4 : Option Value) (z5 : Option Value), zEv (zXs Ls xs) (d + 1) zm_101 (87, [some (.ref oo), z1, some (.int t), z3, z4, z5], [], zhp h) r) (n : Nat) (s : Int32 × Int32 × Int32) (H : zloop (qTr_from_b9 oo h) n s = some t) (y1 : Option Value) (y5 : Option Value) : zEv (zXs Ls xs) (d + 1) zm_101 (9, [some (.ref oo), y1, some (.int s.1), some (.int s.2.1), some (.int s.2.2), y5], [], zhp h) r := by
  have Z := zloop_P (P := fun s => ∀ (y1 : Option Value) (y5 : Option Value), zEv (zXs Ls xs) (d + 1) zm_101 (9, [some (.ref oo), y1, some (.int s.1), some (.int s.2.1), some (.int s.2.2), y5], [], zhp h) r) (b := qTr_from_b9 oo h) (t := t) (fun s s2 hb hk => by intro y1 y5; exact t_qTr_from_b9b ho hb hk y1 y5) (fun s hb => by intro y1 y5; exact t_qTr_from_b9b ho hb K y1 y5) n s H
  exact Z y1 y5
def qTr_from (oo : Nat) (x1 : Int32) (h : zK) : Option (Int32) :=
  (zloop (qTr_from_b9 oo h) zfu ((1 : Int32) <<< (x1 &&& 31), 0, 0)).bind fun t10 =>
  some t10
theorem t_qTr_from {Ls : Nat} {xs : Nat → Int32} {d : Nat} {oo : Nat} {x1 : Int32} {h : zK} {p : Int32} (ho : oo = 180 ∨ oo = 186) (H : qTr_from oo x1 h = some p) : zEv (zXs Ls xs) (d + 1) zm_101 (0, [some (.ref oo), some (.int x1), none, none, none, none], [], zhp h) (some (.int p), zhp h) := by
  unfold qTr_from at H
  rcases ho with rfl | rfl
  · refine zEv_k 8 (f' := (9, [some (.ref 180), some (.int x1), some (.int ((1 : Int32) <<< (x1 &&& 31))), some (.int 0), some (.int 0), none], [], zhp h)) rfl ?_
    obtain ⟨t10, ht10, H⟩ := zbs H
    refine t_qTr_from_b9 (oo := 180) (h := h) (by decide) ?_ zfu _ ht10 _ _
    intro y1 y3 y4 y5
    refine zEv_k 1 (f' := (88, [some (.ref 180), y1, some (.int t10), y3, y4, y5], [.int t10], zhp h)) rfl ?_
    cases H
    exact zEv_r rfl
  · refine zEv_k 8 (f' := (9, [some (.ref 186), some (.int x1), some (.int ((1 : Int32) <<< (x1 &&& 31))), some (.int 0), some (.int 0), none], [], zhp h)) rfl ?_
    obtain ⟨t10, ht10, H⟩ := zbs H
    refine t_qTr_from_b9 (oo := 186) (h := h) (by decide) ?_ zfu _ ht10 _ _
    intro y1 y3 y4 y5
    refine zEv_k 1 (f' := (88, [some (.ref 186), y1, some (.int t10), y3, y4, y5], [.int t10], zhp h)) rfl ?_
    cases H
    exact zEv_r rfl
def qTr_greatest_b4 (oo : Nat) (x1 : Int32) (h : zK) (s : Int32 × Int32) : Option ((Int32 × Int32) ⊕ (Int32)) :=
  if (gI h oo 0) ≤ s.2 then
    some (.inr s.1)
  else
    if x1 ≤ s.1 then
      some (.inr s.1)
    else
      (qTr_from oo s.2 h).bind fun p3 =>
      some (.inl (zf_max s.1 (qIn_bitCount p3), s.2 + 1))
theorem t_qTr_greatest_b4b {Ls : Nat} {xs : Nat → Int32} {d : Nat} {oo : Nat} {x1 : Int32} {h : zK} {r : zA} {s : Int32 × Int32} {e : (Int32 × Int32) ⊕ (Int32)} (ho : oo = 180 ∨ oo = 186) (H : qTr_greatest_b4 oo x1 h s = some e) (K : match (generalizing := false) e with | .inl s' => zEv (zXs Ls xs) (d + 2) zm_102 (4, [some (.ref oo), some (.int x1), some (.int s'.1), some (.int s'.2)], [], zhp h) r | .inr v => ∀ (z3 : Option Value), zEv (zXs Ls xs) (d + 2) zm_102 (36, [some (.ref oo), some (.int x1), some (.int v), z3], [], zhp h) r) : zEv (zXs Ls xs) (d + 2) zm_102 (4, [some (.ref oo), some (.int x1), some (.int s.1), some (.int s.2)], [], zhp h) r := by
  unfold qTr_greatest_b4 at H
  rcases ho with rfl | rfl
  · refine zEv_k 4 (f' := (if (gI h 180 0) ≤ s.2 then 36 else 12, [some (.ref 180), some (.int x1), some (.int s.1), some (.int s.2)], [], zhp h)) rfl (zEv_if (fun c1 => ?_) (fun c1 => ?_))
    · replace H := zif_t c1 H
      cases H
      exact K _
    · replace H := zif_f c1 H
      refine zEv_k 3 (f' := (if x1 ≤ s.1 then 36 else 17, [some (.ref 180), some (.int x1), some (.int s.1), some (.int s.2)], [], zhp h)) rfl (zEv_if (fun c2 => ?_) (fun c2 => ?_))
      · replace H := zif_t c2 H
        cases H
        exact K _
      · replace H := zif_f c2 H
        refine zEv_k 3 (f' := (20, [some (.ref 180), some (.int x1), some (.int s.1), some (.int s.2)], [.int s.2, .ref 180, .int s.1], zhp h)) rfl ?_
        obtain ⟨p3, hp3, H⟩ := zbs H
        refine zEv_c (fun _ => rfl) rfl (t_qTr_from (oo := 180) (x1 := s.2) (h := h) (d := d) (by decide) hp3) rfl rfl ?_
        refine zEv_c (fun _ => rfl) rfl (t_qIn_bitCount (x0 := p3) (h := h) (d := d + 1) rfl) rfl rfl ?_
        refine zEv_k 4 (f' := (4, [some (.ref 180), some (.int x1), some (.int (zf_max s.1 (qIn_bitCount p3))), some (.int (s.2 + 1))], [], zhp h)) rfl ?_
        cases H
        exact K
  · refine zEv_k 4 (f' := (if (gI h 186 0) ≤ s.2 then 36 else 12, [some (.ref 186), some (.int x1), some (.int s.1), some (.int s.2)], [], zhp h)) rfl (zEv_if (fun c1 => ?_) (fun c1 => ?_))
    · replace H := zif_t c1 H
      cases H
      exact K _
    · replace H := zif_f c1 H
      refine zEv_k 3 (f' := (if x1 ≤ s.1 then 36 else 17, [some (.ref 186), some (.int x1), some (.int s.1), some (.int s.2)], [], zhp h)) rfl (zEv_if (fun c2 => ?_) (fun c2 => ?_))
      · replace H := zif_t c2 H
        cases H
        exact K _
      · replace H := zif_f c2 H
        refine zEv_k 3 (f' := (20, [some (.ref 186), some (.int x1), some (.int s.1), some (.int s.2)], [.int s.2, .ref 186, .int s.1], zhp h)) rfl ?_
        obtain ⟨p3, hp3, H⟩ := zbs H
        refine zEv_c (fun _ => rfl) rfl (t_qTr_from (oo := 186) (x1 := s.2) (h := h) (d := d) (by decide) hp3) rfl rfl ?_
        refine zEv_c (fun _ => rfl) rfl (t_qIn_bitCount (x0 := p3) (h := h) (d := d + 1) rfl) rfl rfl ?_
        refine zEv_k 4 (f' := (4, [some (.ref 186), some (.int x1), some (.int (zf_max s.1 (qIn_bitCount p3))), some (.int (s.2 + 1))], [], zhp h)) rfl ?_
        cases H
        exact K
theorem t_qTr_greatest_b4 {Ls : Nat} {xs : Nat → Int32} {d : Nat} {oo : Nat} {x1 : Int32} {h : zK} {r : zA} (ho : oo = 180 ∨ oo = 186) {t : Int32} (K : ∀ (z3 : Option Value), zEv (zXs Ls xs) (d + 2) zm_102 (36, [some (.ref oo), some (.int x1), some (.int t), z3], [], zhp h) r) (n : Nat) (s : Int32 × Int32) (H : zloop (qTr_greatest_b4 oo x1 h) n s = some t) : zEv (zXs Ls xs) (d + 2) zm_102 (4, [some (.ref oo), some (.int x1), some (.int s.1), some (.int s.2)], [], zhp h) r := by
  have Z := zloop_P (P := fun s => zEv (zXs Ls xs) (d + 2) zm_102 (4, [some (.ref oo), some (.int x1), some (.int s.1), some (.int s.2)], [], zhp h) r) (b := qTr_greatest_b4 oo x1 h) (t := t) (fun s s2 hb hk => by exact t_qTr_greatest_b4b ho hb hk) (fun s hb => by exact t_qTr_greatest_b4b ho hb K) n s H
  exact Z
def qTr_greatest (oo : Nat) (x1 : Int32) (h : zK) : Option (Int32) :=
  (zloop (qTr_greatest_b4 oo x1 h) zfu (0, 0)).bind fun t4 =>
  some t4
theorem t_qTr_greatest {Ls : Nat} {xs : Nat → Int32} {d : Nat} {oo : Nat} {x1 : Int32} {h : zK} {p : Int32} (ho : oo = 180 ∨ oo = 186) (H : qTr_greatest oo x1 h = some p) : zEv (zXs Ls xs) (d + 2) zm_102 (0, [some (.ref oo), some (.int x1), none, none], [], zhp h) (some (.int p), zhp h) := by
  unfold qTr_greatest at H
  rcases ho with rfl | rfl
  · refine zEv_k 4 (f' := (4, [some (.ref 180), some (.int x1), some (.int 0), some (.int 0)], [], zhp h)) rfl ?_
    obtain ⟨t4, ht4, H⟩ := zbs H
    refine t_qTr_greatest_b4 (oo := 180) (x1 := x1) (h := h) (by decide) ?_ zfu _ ht4
    intro y3
    refine zEv_k 1 (f' := (37, [some (.ref 180), some (.int x1), some (.int t4), y3], [.int t4], zhp h)) rfl ?_
    cases H
    exact zEv_r rfl
  · refine zEv_k 4 (f' := (4, [some (.ref 186), some (.int x1), some (.int 0), some (.int 0)], [], zhp h)) rfl ?_
    obtain ⟨t4, ht4, H⟩ := zbs H
    refine t_qTr_greatest_b4 (oo := 186) (x1 := x1) (h := h) (by decide) ?_ zfu _ ht4
    intro y3
    refine zEv_k 1 (f' := (37, [some (.ref 186), some (.int x1), some (.int t4), y3], [.int t4], zhp h)) rfl ?_
    cases H
    exact zEv_r rfl
def qLa_keep_b7 (s : Int32 × zK) : Option ((Int32 × zK) ⊕ (zK)) :=
  if (gI s.2 186 0) ≤ s.1 then
    some (.inr s.2)
  else
    (zix s.1 7).bind fun j3 =>
    (zix (gI s.2 191 j3) 7).bind fun j4 =>
    zlet (sI s.2 185 j3 (gI s.2 190 j4)) fun h5 =>
    some (.inl (s.1 + 1, h5))
theorem t_qLa_keep_b7b {Ls : Nat} {xs : Nat → Int32} {d : Nat} {r : zA} {s : Int32 × zK} {e : (Int32 × zK) ⊕ (zK)} (H : qLa_keep_b7 s = some e) (K : match (generalizing := false) e with | .inl s' => ∀ (z1 : Option Value), zEv (zXs Ls xs) d zm_33 (7, [some (.ref 184), z1, some (.int s'.1)], [], zhp s'.2) r | .inr v => ∀ (z1 : Option Value) (z2 : Option Value), zEv (zXs Ls xs) d zm_33 (41, [some (.ref 184), z1, z2], [], zhp v) r) (y1 : Option Value) : zEv (zXs Ls xs) d zm_33 (7, [some (.ref 184), y1, some (.int s.1)], [], zhp s.2) r := by
  unfold qLa_keep_b7 at H
  refine zEv_k 2 (f' := (9, [some (.ref 184), y1, some (.int s.1)], [.ref 184, .int s.1], zhp s.2)) rfl ?_
  refine zRgr rfl rfl rfl (by decide) (b := 186) rfl ?_
  refine zEv_k 2 (f' := (if (gI s.2 186 0) ≤ s.1 then 41 else 18, [some (.ref 184), y1, some (.int s.1)], [], zhp s.2)) rfl (zEv_if (fun c2 => ?_) (fun c2 => ?_))
  · replace H := zif_t c2 H
    cases H
    exact K _ _
  · replace H := zif_f c2 H
    refine zEv_k 1 (f' := (19, [some (.ref 184), y1, some (.int s.1)], [.ref 184], zhp s.2)) rfl ?_
    refine zRgr rfl rfl rfl (by decide) (b := 185) rfl ?_
    refine zEv_k 2 (f' := (24, [some (.ref 184), y1, some (.int s.1)], [.ref 184, .int s.1, .ref 185], zhp s.2)) rfl ?_
    refine zRgr rfl rfl rfl (by decide) (b := 190) rfl ?_
    refine zEv_k 1 (f' := (28, [some (.ref 184), y1, some (.int s.1)], [.ref 184, .ref 190, .int s.1, .ref 185], zhp s.2)) rfl ?_
    refine zRgr rfl rfl rfl (by decide) (b := 191) rfl ?_
    refine zEv_k 1 (f' := (32, [some (.ref 184), y1, some (.int s.1)], [.int s.1, .ref 191, .ref 190, .int s.1, .ref 185], zhp s.2)) rfl ?_
    obtain ⟨j3, hj3, H⟩ := zbs H
    refine zRia rfl rfl (by decide) hj3 ?_
    obtain ⟨j4, hj4, H⟩ := zbs H
    refine zRia rfl rfl (by decide) hj4 ?_
    obtain ⟨h5, eh5, H⟩ := zlets H
    refine zRis rfl rfl (by decide) hj3 eh5 ?_
    refine zEv_k 2 (f' := (7, [some (.ref 184), zlost y1, some (.int (s.1 + 1))], [], zhp h5)) rfl ?_
    cases H
    exact K _
theorem t_qLa_keep_b7 {Ls : Nat} {xs : Nat → Int32} {d : Nat} {r : zA} {t : zK} (K : ∀ (z1 : Option Value) (z2 : Option Value), zEv (zXs Ls xs) d zm_33 (41, [some (.ref 184), z1, z2], [], zhp t) r) (n : Nat) (s : Int32 × zK) (H : zloop (qLa_keep_b7) n s = some t) (y1 : Option Value) : zEv (zXs Ls xs) d zm_33 (7, [some (.ref 184), y1, some (.int s.1)], [], zhp s.2) r := by
  have Z := zloop_P (P := fun s => ∀ (y1 : Option Value), zEv (zXs Ls xs) d zm_33 (7, [some (.ref 184), y1, some (.int s.1)], [], zhp s.2) r) (b := qLa_keep_b7) (t := t) (fun s s2 hb hk => by intro y1; exact t_qLa_keep_b7b hb hk y1) (fun s hb => by intro y1; exact t_qLa_keep_b7b hb K y1) n s H
  exact Z y1
def qLa_keep (x1 : Int32) (h : zK) : Option (zK) :=
  zlet (sI h 184 0 x1) fun h1 =>
  (zloop (qLa_keep_b7) zfu (0, h1)).bind fun t6 =>
  some t6
theorem t_qLa_keep {Ls : Nat} {xs : Nat → Int32} {d : Nat} {x1 : Int32} {h : zK} {p : zK} (H : qLa_keep x1 h = some p) : zEv (zXs Ls xs) d zm_33 (0, [some (.ref 184), some (.int x1), none], [], zhp h) (none, zhp p) := by
  unfold qLa_keep at H
  obtain ⟨h1, eh1, H⟩ := zlets H
  refine zEv_w (F := fun z => (5, [some (.ref 184), some (.int x1), none], [], zhp z)) (h0 := sI h 184 0 x1) 3 rfl eh1 ?_
  refine zEv_k 2 (f' := (7, [some (.ref 184), some (.int x1), some (.int 0)], [], zhp h1)) rfl ?_
  obtain ⟨t6, ht6, H⟩ := zbs H
  refine t_qLa_keep_b7 ?_ zfu _ ht6 _
  intro y1 y2
  cases H
  exact zEv_r rfl
def qLa_firstPlaceFor_b4 (x1 : Int32) (h : zK) (s : Int32) : Option ((Int32) ⊕ ((Unit) ⊕ (Int32))) :=
  if s < 0 then
    some (.inr (.inl ()))
  else
    (zix s 7).bind fun j2 =>
    (zix x1 7).bind fun j3 =>
    if ¬ (gI h 187 j2) = (gI h 187 j3) then
      some (.inl (s + (-1)))
    else
      some (.inr (.inr ((gI h 191 j2) + 1)))
theorem t_qLa_firstPlaceFor_b4b {Ls : Nat} {xs : Nat → Int32} {d : Nat} {x1 : Int32} {h : zK} {r : zA} {s : Int32} {e : (Int32) ⊕ ((Unit) ⊕ (Int32))} (H : qLa_firstPlaceFor_b4 x1 h s = some e) (K : match (generalizing := false) e with | .inl s' => zEv (zXs Ls xs) d zm_34 (4, [some (.ref 184), some (.int x1), some (.int s')], [], zhp h) r | .inr (.inl v) => ∀ (z2 : Option Value), zEv (zXs Ls xs) d zm_34 (44, [some (.ref 184), some (.int x1), z2], [], zhp h) r | .inr (.inr p) => (some (.int p), zhp h) = r) : zEv (zXs Ls xs) d zm_34 (4, [some (.ref 184), some (.int x1), some (.int s)], [], zhp h) r := by
  unfold qLa_firstPlaceFor_b4 at H
  refine zEv_k 2 (f' := (if s < 0 then 44 else 8, [some (.ref 184), some (.int x1), some (.int s)], [], zhp h)) rfl (zEv_if (fun c1 => ?_) (fun c1 => ?_))
  · replace H := zif_t c1 H
    cases H
    exact K _
  · replace H := zif_f c1 H
    refine zEv_k 1 (f' := (9, [some (.ref 184), some (.int x1), some (.int s)], [.ref 184], zhp h)) rfl ?_
    refine zRgr rfl rfl rfl (by decide) (b := 186) rfl ?_
    refine zRgr rfl rfl rfl (by decide) (b := 187) rfl ?_
    refine zEv_k 1 (f' := (16, [some (.ref 184), some (.int x1), some (.int s)], [.int s, .ref 187], zhp h)) rfl ?_
    obtain ⟨j2, hj2, H⟩ := zbs H
    refine zRia rfl rfl (by decide) hj2 ?_
    refine zEv_k 1 (f' := (18, [some (.ref 184), some (.int x1), some (.int s)], [.ref 184, .int (gI h 187 j2)], zhp h)) rfl ?_
    refine zRgr rfl rfl rfl (by decide) (b := 186) rfl ?_
    refine zRgr rfl rfl rfl (by decide) (b := 187) rfl ?_
    refine zEv_k 1 (f' := (25, [some (.ref 184), some (.int x1), some (.int s)], [.int x1, .ref 187, .int (gI h 187 j2)], zhp h)) rfl ?_
    obtain ⟨j3, hj3, H⟩ := zbs H
    refine zRia rfl rfl (by decide) hj3 ?_
    refine zEv_k 1 (f' := (if ¬ (gI h 187 j2) = (gI h 187 j3) then 38 else 29, [some (.ref 184), some (.int x1), some (.int s)], [], zhp h)) rfl (zEv_if (fun c4 => ?_) (fun c4 => ?_))
    · replace H := zif_t c4 H
      refine zEv_k 2 (f' := (4, [some (.ref 184), some (.int x1), some (.int (s + (-1)))], [], zhp h)) rfl ?_
      cases H
      exact K
    · replace H := zif_f c4 H
      refine zEv_k 1 (f' := (30, [some (.ref 184), some (.int x1), some (.int s)], [.ref 184], zhp h)) rfl ?_
      refine zRgr rfl rfl rfl (by decide) (b := 191) rfl ?_
      refine zEv_k 1 (f' := (34, [some (.ref 184), some (.int x1), some (.int s)], [.int s, .ref 191], zhp h)) rfl ?_
      refine zRia rfl rfl (by decide) hj2 ?_
      refine zEv_k 2 (f' := (37, [some (.ref 184), some (.int x1), some (.int s)], [.int ((gI h 191 j2) + 1)], zhp h)) rfl ?_
      cases H
      exact zEv_re K rfl
theorem t_qLa_firstPlaceFor_b4 {Ls : Nat} {xs : Nat → Int32} {d : Nat} {x1 : Int32} {h : zK} {r : zA} {t : (Unit) ⊕ (Int32)} (K : (match (generalizing := false) t with | .inl v => ∀ (z2 : Option Value), zEv (zXs Ls xs) d zm_34 (44, [some (.ref 184), some (.int x1), z2], [], zhp h) r | .inr p => (some (.int p), zhp h) = r)) (n : Nat) (s : Int32) (H : zloop (qLa_firstPlaceFor_b4 x1 h) n s = some t) : zEv (zXs Ls xs) d zm_34 (4, [some (.ref 184), some (.int x1), some (.int s)], [], zhp h) r := by
  have Z := zloop_P (P := fun s => zEv (zXs Ls xs) d zm_34 (4, [some (.ref 184), some (.int x1), some (.int s)], [], zhp h) r) (b := qLa_firstPlaceFor_b4 x1 h) (t := t) (fun s s2 hb hk => by exact t_qLa_firstPlaceFor_b4b hb hk) (fun s hb => by rcases t with v | p <;> (exact t_qLa_firstPlaceFor_b4b hb K)) n s H
  exact Z
def qLa_firstPlaceFor (x1 : Int32) (h : zK) : Option (Int32) :=
  (zloop (qLa_firstPlaceFor_b4 x1 h) zfu (x1 - 1)).bind fun t5 => match t5 with
  | .inr p => some p
  | .inl v6 =>
    some 0
theorem t_qLa_firstPlaceFor {Ls : Nat} {xs : Nat → Int32} {d : Nat} {x1 : Int32} {h : zK} {p : Int32} (H : qLa_firstPlaceFor x1 h = some p) : zEv (zXs Ls xs) d zm_34 (0, [some (.ref 184), some (.int x1), none], [], zhp h) (some (.int p), zhp h) := by
  unfold qLa_firstPlaceFor at H
  refine zEv_k 4 (f' := (4, [some (.ref 184), some (.int x1), some (.int (x1 - 1))], [], zhp h)) rfl ?_
  obtain ⟨t5, ht5, H⟩ := zbs H
  refine t_qLa_firstPlaceFor_b4 (x1 := x1) (h := h) ?_ zfu _ ht5
  rcases t5 with v6 | p
  · intro y2
    dsimp only at H
    refine zEv_k 1 (f' := (45, [some (.ref 184), some (.int x1), y2], [.int 0], zhp h)) rfl ?_
    cases H
    exact zEv_r rfl
  · cases H
    exact rfl
def qLa_isNextFree (x1 : Int32) (h : zK) : Int32 :=
  zlet (
      if (zf_cin (gI h 184 5) x1) = 0 then
        0
      else
        if ¬ (zf_cin (gI h 184 6) (x1 - 1)) = 0 then
          0
        else
          1
    ) fun (v2 : Int32) =>
  if ¬ (zf_cin (gI h 184 6) x1) = 0 then
    0
  else
    if ¬ v2 = 0 then
      0
    else
      1
theorem t_qLa_isNextFree {Ls : Nat} {xs : Nat → Int32} {d : Nat} {x1 : Int32} {h : zK} {p : Int32} (H : qLa_isNextFree x1 h = p) : zEv (zXs Ls xs) (d + 1) zm_35 (0, [some (.ref 184), some (.int x1), none], [], zhp h) (some (.int p), zhp h) := by
  unfold qLa_isNextFree at H
  obtain ⟨v2, hv2, H⟩ := zlets H
  have kv2 : zEv (zXs Ls xs) (d + 1) zm_35 (29, [some (.ref 184), some (.int x1), none], [.int v2], zhp h) (some (.int p), zhp h) := by
    refine zEv_k 4 (f' := (35, [some (.ref 184), some (.int x1), some (.int v2)], [.int x1, .int (gI h 184 6)], zhp h)) rfl ?_
    refine zEv_c (fun _ => rfl) rfl ev_zf_cin rfl rfl ?_
    refine zEv_k 1 (f' := (if ¬ (zf_cin (gI h 184 6) x1) = 0 then 49 else 41, [some (.ref 184), some (.int x1), some (.int v2)], [], zhp h)) rfl (zEv_if (fun c4 => ?_) (fun c4 => ?_))
    · replace H := zif_t c4 H
      refine zEv_k 1 (f' := (50, [some (.ref 184), some (.int x1), some (.int v2)], [.int 0], zhp h)) rfl ?_
      cases H
      exact zEv_r rfl
    · replace H := zif_f c4 H
      refine zEv_k 2 (f' := (if ¬ v2 = 0 then 49 else 45, [some (.ref 184), some (.int x1), some (.int v2)], [], zhp h)) rfl (zEv_if (fun c5 => ?_) (fun c5 => ?_))
      · replace H := zif_t c5 H
        refine zEv_k 1 (f' := (50, [some (.ref 184), some (.int x1), some (.int v2)], [.int 0], zhp h)) rfl ?_
        cases H
        exact zEv_r rfl
      · replace H := zif_f c5 H
        refine zEv_k 2 (f' := (50, [some (.ref 184), some (.int x1), some (.int v2)], [.int 1], zhp h)) rfl ?_
        cases H
        exact zEv_r rfl
  clear H
  refine zEv_k 3 (f' := (5, [some (.ref 184), some (.int x1), none], [.int x1, .int (gI h 184 5)], zhp h)) rfl ?_
  refine zEv_c (fun _ => rfl) rfl ev_zf_cin rfl rfl ?_
  refine zEv_k 1 (f' := (if (zf_cin (gI h 184 5) x1) = 0 then 28 else 11, [some (.ref 184), some (.int x1), none], [], zhp h)) rfl (zEv_if (fun c1 => ?_) (fun c1 => ?_))
  · replace hv2 := zif_t c1 hv2
    refine zEv_k 1 (f' := (29, [some (.ref 184), some (.int x1), none], [.int 0], zhp h)) rfl ?_
    cases hv2
    exact kv2
  · replace hv2 := zif_f c1 hv2
    refine zEv_k 5 (f' := (18, [some (.ref 184), some (.int x1), none], [.int (x1 - 1), .int (gI h 184 6)], zhp h)) rfl ?_
    refine zEv_c (fun _ => rfl) rfl ev_zf_cin rfl rfl ?_
    refine zEv_k 1 (f' := (if ¬ (zf_cin (gI h 184 6) (x1 - 1)) = 0 then 28 else 24, [some (.ref 184), some (.int x1), none], [], zhp h)) rfl (zEv_if (fun c3 => ?_) (fun c3 => ?_))
    · replace hv2 := zif_t c3 hv2
      refine zEv_k 1 (f' := (29, [some (.ref 184), some (.int x1), none], [.int 0], zhp h)) rfl ?_
      cases hv2
      exact kv2
    · replace hv2 := zif_f c3 hv2
      refine zEv_k 2 (f' := (29, [some (.ref 184), some (.int x1), none], [.int 1], zhp h)) rfl ?_
      cases hv2
      exact kv2
def qLa_settle_b23 (rec : Int32 → Int32 → zK → Option zK) (x1 : Int32) (s : Int32 × zK) : Option ((Int32 × zK) ⊕ (zK)) :=
  if (gI s.2 186 0) ≤ s.1 then
    some (.inr s.2)
  else
    if (gI s.2 184 0) ≤ (gI s.2 184 7) then
      some (.inr s.2)
    else
      Option.bind (
          if ¬ (qLa_isNextFree s.1 s.2) = 0 then
            zlet (sI s.2 184 6 ((gI s.2 184 6) ||| ((1 : Int32) <<< (s.1 &&& 31)))) fun h7 =>
            (zix x1 7).bind fun j8 =>
            zlet (sI h7 191 j8 s.1) fun h9 =>
            (zix s.1 7).bind fun j10 =>
            (qTr_lay 186 x1 (gI h9 190 j10) h9).bind fun p11 =>
            (qTr_greatest 186 (gI p11 184 0) p11).bind fun p12 =>
            Option.bind (
                if (gI p11 184 0) ≤ p12 then
                  some p11
                else
                  (rec (x1 + 1) p12 p11).bind fun p15 =>
                  some p15
              ) fun (v14 : zK) =>
            (qTr_takeUp 186 x1 v14).bind fun p16 =>
            zlet (sI p16 184 6 ((gI p16 184 6) &&& (((1 : Int32) <<< (s.1 &&& 31)) ^^^ (-1)))) fun h17 =>
            some h17
          else
            some s.2
        ) fun (v6 : zK) =>
      some (.inl (s.1 + 1, v6))
theorem t_qLa_settle_b23b {Ls : Nat} {xs : Nat → Int32} {d : Nat} {x1 : Int32} {r : zA} {rec : Int32 → Int32 → zK → Option zK} (hrec : ∀ x1 x2 (h p : zK), rec x1 x2 h = some p → zEv (zXs Ls xs) (d + 2) zm_32 (0, [some (.ref 184), some (.int x1), some (.int x2), none, none], [], zhp h) (none, zhp p)) {s : Int32 × zK} {e : (Int32 × zK) ⊕ (zK)} (H : qLa_settle_b23 rec x1 s = some e) (K : match (generalizing := false) e with | .inl s' => ∀ (z2 : Option Value) (z4 : Option Value), zEv (zXs Ls xs) (d + 3) zm_32 (23, [some (.ref 184), some (.int x1), z2, some (.int s'.1), z4], [], zhp s'.2) r | .inr v => ∀ (z2 : Option Value) (z3 : Option Value) (z4 : Option Value), zEv (zXs Ls xs) (d + 3) zm_32 (148, [some (.ref 184), some (.int x1), z2, z3, z4], [], zhp v) r) (y2 : Option Value) (y4 : Option Value) : zEv (zXs Ls xs) (d + 3) zm_32 (23, [some (.ref 184), some (.int x1), y2, some (.int s.1), y4], [], zhp s.2) r := by
  unfold qLa_settle_b23 at H
  refine zEv_k 2 (f' := (25, [some (.ref 184), some (.int x1), y2, some (.int s.1), y4], [.ref 184, .int s.1], zhp s.2)) rfl ?_
  refine zRgr rfl rfl rfl (by decide) (b := 186) rfl ?_
  refine zEv_k 2 (f' := (if (gI s.2 186 0) ≤ s.1 then 148 else 34, [some (.ref 184), some (.int x1), y2, some (.int s.1), y4], [], zhp s.2)) rfl (zEv_if (fun c3 => ?_) (fun c3 => ?_))
  · replace H := zif_t c3 H
    cases H
    exact K _ _ _
  · replace H := zif_f c3 H
    refine zEv_k 5 (f' := (if (gI s.2 184 0) ≤ (gI s.2 184 7) then 148 else 45, [some (.ref 184), some (.int x1), y2, some (.int s.1), y4], [], zhp s.2)) rfl (zEv_if (fun c4 => ?_) (fun c4 => ?_))
    · replace H := zif_t c4 H
      cases H
      exact K _ _ _
    · replace H := zif_f c4 H
      obtain ⟨v6, hv6, H⟩ := zbs H
      have kv6 : ∀ (y4 : Option Value), zEv (zXs Ls xs) (d + 3) zm_32 (142, [some (.ref 184), some (.int x1), y2, some (.int s.1), y4], [], zhp v6) r := by
        intro y4
        refine zEv_k 2 (f' := (23, [some (.ref 184), some (.int x1), zlost y2, some (.int (s.1 + 1)), y4], [], zhp v6)) rfl ?_
        cases H
        exact K _ _
      clear H
      refine zEv_k 2 (f' := (47, [some (.ref 184), some (.int x1), y2, some (.int s.1), y4], [.int s.1, .ref 184], zhp s.2)) rfl ?_
      refine zEv_c (fun _ => rfl) rfl (t_qLa_isNextFree (x1 := s.1) (h := s.2) (d := d + 1) rfl) rfl rfl ?_
      refine zEv_k 1 (f' := (if ¬ (qLa_isNextFree s.1 s.2) = 0 then 56 else 53, [some (.ref 184), some (.int x1), y2, some (.int s.1), y4], [], zhp s.2)) rfl (zEv_if (fun c5 => ?_) (fun c5 => ?_))
      · replace hv6 := zif_t c5 hv6
        obtain ⟨h7, eh7, hv6⟩ := zlets hv6
        refine zEv_w (F := fun z => (68, [some (.ref 184), some (.int x1), y2, some (.int s.1), y4], [], zhp z)) (h0 := sI s.2 184 6 ((gI s.2 184 6) ||| ((1 : Int32) <<< (s.1 &&& 31)))) 8 rfl eh7 ?_
        refine zEv_k 1 (f' := (69, [some (.ref 184), some (.int x1), y2, some (.int s.1), y4], [.ref 184], zhp h7)) rfl ?_
        refine zRgr rfl rfl rfl (by decide) (b := 191) rfl ?_
        refine zEv_k 2 (f' := (74, [some (.ref 184), some (.int x1), y2, some (.int s.1), y4], [.int s.1, .int x1, .ref 191], zhp h7)) rfl ?_
        obtain ⟨j8, hj8, hv6⟩ := zbs hv6
        obtain ⟨h9, eh9, hv6⟩ := zlets hv6
        refine zRis rfl rfl (by decide) hj8 eh9 ?_
        refine zEv_k 1 (f' := (76, [some (.ref 184), some (.int x1), y2, some (.int s.1), y4], [.ref 184], zhp h9)) rfl ?_
        refine zRgr rfl rfl rfl (by decide) (b := 186) rfl ?_
        refine zEv_k 2 (f' := (81, [some (.ref 184), some (.int x1), y2, some (.int s.1), y4], [.ref 184, .int x1, .ref 186], zhp h9)) rfl ?_
        refine zRgr rfl rfl rfl (by decide) (b := 190) rfl ?_
        refine zEv_k 1 (f' := (85, [some (.ref 184), some (.int x1), y2, some (.int s.1), y4], [.int s.1, .ref 190, .int x1, .ref 186], zhp h9)) rfl ?_
        obtain ⟨j10, hj10, hv6⟩ := zbs hv6
        refine zRia rfl rfl (by decide) hj10 ?_
        obtain ⟨p11, hp11, hv6⟩ := zbs hv6
        refine zEv_c (fun _ => rfl) rfl (t_qTr_lay (oo := 186) (x1 := x1) (x2 := gI h9 190 j10) (h := h9) (d := d + 2) (by decide) hp11) rfl rfl ?_
        refine zEv_k 1 (f' := (90, [some (.ref 184), some (.int x1), y2, some (.int s.1), y4], [.ref 184], zhp p11)) rfl ?_
        refine zRgr rfl rfl rfl (by decide) (b := 186) rfl ?_
        refine zEv_k 2 (f' := (97, [some (.ref 184), some (.int x1), y2, some (.int s.1), y4], [.int (gI p11 184 0), .ref 186], zhp p11)) rfl ?_
        obtain ⟨p12, hp12, hv6⟩ := zbs hv6
        refine zEv_c (fun _ => rfl) rfl (t_qTr_greatest (oo := 186) (x1 := gI p11 184 0) (h := p11) (d := d) (by decide) hp12) rfl rfl ?_
        obtain ⟨v14, hv14, hv6⟩ := zbs hv6
        have kv14 : zEv (zXs Ls xs) (d + 3) zm_32 (120, [some (.ref 184), some (.int x1), y2, some (.int s.1), some (.int p12)], [], zhp v14) r := by
          refine zEv_k 1 (f' := (121, [some (.ref 184), some (.int x1), y2, some (.int s.1), some (.int p12)], [.ref 184], zhp v14)) rfl ?_
          refine zRgr rfl rfl rfl (by decide) (b := 186) rfl ?_
          refine zEv_k 1 (f' := (125, [some (.ref 184), some (.int x1), y2, some (.int s.1), some (.int p12)], [.int x1, .ref 186], zhp v14)) rfl ?_
          obtain ⟨p16, hp16, hv6⟩ := zbs hv6
          refine zEv_c (fun _ => rfl) rfl (t_qTr_takeUp (oo := 186) (x1 := x1) (h := v14) (d := d + 2) (by decide) hp16) rfl rfl ?_
          refine zEv_k 9 (f' := (139, [some (.ref 184), some (.int x1), y2, some (.int s.1), some (.int p12)], [.int ((gI p16 184 6) &&& (((1 : Int32) <<< (s.1 &&& 31)) ^^^ (-1))), .ref 184], zhp p16)) rfl ?_
          obtain ⟨h17, eh17, hv6⟩ := zlets hv6
          refine zEv_w (F := fun z => (142, [some (.ref 184), some (.int x1), y2, some (.int s.1), some (.int p12)], [], zhp z)) (h0 := sI p16 184 6 ((gI p16 184 6) &&& (((1 : Int32) <<< (s.1 &&& 31)) ^^^ (-1)))) 1 rfl eh17 ?_
          cases hv6
          exact kv6 _
        clear hv6
        refine zEv_k 5 (f' := (if (gI p11 184 0) ≤ p12 then 120 else 111, [some (.ref 184), some (.int x1), y2, some (.int s.1), some (.int p12)], [], zhp p11)) rfl (zEv_if (fun c13 => ?_) (fun c13 => ?_))
        · replace hv14 := zif_t c13 hv14
          cases hv14
          exact kv14
        · replace hv14 := zif_f c13 hv14
          refine zEv_k 5 (f' := (117, [some (.ref 184), some (.int x1), y2, some (.int s.1), some (.int p12)], [.int p12, .int (x1 + 1), .ref 184], zhp p11)) rfl ?_
          obtain ⟨p15, hp15, hv14⟩ := zbs hv14
          refine zEv_c (fun _ => rfl) rfl (hrec _ _ _ _ hp15) rfl rfl ?_
          cases hv14
          exact kv14
      · replace hv6 := zif_f c5 hv6
        refine zEv_k 1 (f' := (142, [some (.ref 184), some (.int x1), y2, some (.int s.1), y4], [], zhp s.2)) rfl ?_
        cases hv6
        exact kv6 _
theorem t_qLa_settle_b23 {Ls : Nat} {xs : Nat → Int32} {d : Nat} {x1 : Int32} {r : zA} {rec : Int32 → Int32 → zK → Option zK} (hrec : ∀ x1 x2 (h p : zK), rec x1 x2 h = some p → zEv (zXs Ls xs) (d + 2) zm_32 (0, [some (.ref 184), some (.int x1), some (.int x2), none, none], [], zhp h) (none, zhp p)) {t : zK} (K : ∀ (z2 : Option Value) (z3 : Option Value) (z4 : Option Value), zEv (zXs Ls xs) (d + 3) zm_32 (148, [some (.ref 184), some (.int x1), z2, z3, z4], [], zhp t) r) (n : Nat) (s : Int32 × zK) (H : zloop (qLa_settle_b23 rec x1) n s = some t) (y2 : Option Value) (y4 : Option Value) : zEv (zXs Ls xs) (d + 3) zm_32 (23, [some (.ref 184), some (.int x1), y2, some (.int s.1), y4], [], zhp s.2) r := by
  have Z := zloop_P (P := fun s => ∀ (y2 : Option Value) (y4 : Option Value), zEv (zXs Ls xs) (d + 3) zm_32 (23, [some (.ref 184), some (.int x1), y2, some (.int s.1), y4], [], zhp s.2) r) (b := qLa_settle_b23 rec x1) (t := t) (fun s s2 hb hk => by intro y2 y4; exact t_qLa_settle_b23b hrec hb hk y2 y4) (fun s hb => by intro y2 y4; exact t_qLa_settle_b23b hrec hb K y2 y4) n s H
  exact Z y2 y4
def qLa_settle_F (rec : Int32 → Int32 → zK → Option zK) (x1 : Int32) (x2 : Int32) (h : zK) : Option (zK) :=
  if x1 < (gI h 186 0) then
    (qLa_firstPlaceFor x1 h).bind fun p2 =>
    (zloop (qLa_settle_b23 rec x1) zfu (p2, h)).bind fun t18 =>
    some t18
  else
    (qLa_keep x2 h).bind fun p20 =>
    some p20
theorem t_qLa_settle_F {Ls : Nat} {xs : Nat → Int32} {d : Nat} {x1 : Int32} {x2 : Int32} {h : zK} {p : zK} {rec : Int32 → Int32 → zK → Option zK} (hrec : ∀ x1 x2 (h p : zK), rec x1 x2 h = some p → zEv (zXs Ls xs) (d + 2) zm_32 (0, [some (.ref 184), some (.int x1), some (.int x2), none, none], [], zhp h) (none, zhp p)) (H : qLa_settle_F rec x1 x2 h = some p) : zEv (zXs Ls xs) (d + 3) zm_32 (0, [some (.ref 184), some (.int x1), some (.int x2), none, none], [], zhp h) (none, zhp p) := by
  unfold qLa_settle_F at H
  refine zEv_k 2 (f' := (2, [some (.ref 184), some (.int x1), some (.int x2), none, none], [.ref 184, .int x1], zhp h)) rfl ?_
  refine zRgr rfl rfl rfl (by decide) (b := 186) rfl ?_
  refine zEv_k 2 (f' := (if x1 < (gI h 186 0) then 17 else 11, [some (.ref 184), some (.int x1), some (.int x2), none, none], [], zhp h)) rfl (zEv_if (fun c1 => ?_) (fun c1 => ?_))
  · replace H := zif_t c1 H
    refine zEv_k 2 (f' := (19, [some (.ref 184), some (.int x1), some (.int x2), none, none], [.int x1, .ref 184], zhp h)) rfl ?_
    obtain ⟨p2, hp2, H⟩ := zbs H
    refine zEv_c (fun _ => rfl) rfl (t_qLa_firstPlaceFor (x1 := x1) (h := h) (d := d + 2) hp2) rfl rfl ?_
    refine zEv_k 1 (f' := (23, [some (.ref 184), some (.int x1), some (.int x2), some (.int p2), none], [], zhp h)) rfl ?_
    obtain ⟨t18, ht18, H⟩ := zbs H
    refine t_qLa_settle_b23 hrec (x1 := x1) ?_ zfu _ ht18 _ _
    intro y2 y3 y4
    cases H
    exact zEv_r rfl
  · replace H := zif_f c1 H
    refine zEv_k 2 (f' := (13, [some (.ref 184), some (.int x1), some (.int x2), none, none], [.int x2, .ref 184], zhp h)) rfl ?_
    obtain ⟨p20, hp20, H⟩ := zbs H
    refine zEv_c (fun _ => rfl) rfl (t_qLa_keep (x1 := x2) (h := h) (d := d + 2) hp20) rfl rfl ?_
    cases H
    exact zEv_r rfl
def qLa_settleN : Nat → Int32 → Int32 → zK → Option zK
  | 0, _, _, _ => none
  | n + 1, x1, x2, h => qLa_settle_F (qLa_settleN n) x1 x2 h
def qLa_settle (x1 x2 : Int32) (h : zK) : Option zK := qLa_settleN 9 x1 x2 h
theorem t_qLa_settleN {Ls : Nat} {xs : Nat → Int32} {d : Nat} : ∀ (n : Nat) (x1 x2 : Int32) (h p : zK), qLa_settleN n x1 x2 h = some p → zEv (zXs Ls xs) (d + n + 2) zm_32 (0, [some (.ref 184), some (.int x1), some (.int x2), none, none], [], zhp h) (none, zhp p) := by
  intro n
  induction n with
  | zero => intro x1 x2 h p H; unfold qLa_settleN at H; cases H
  | succ n ih =>
    intro x1 x2 h p H
    unfold qLa_settleN at H
    have Z := t_qLa_settle_F (d := d + n) ih H
    have e : d + (n + 1) + 2 = d + n + 3 := by omega
    rw [e]
    exact Z
theorem t_qLa_settle {Ls : Nat} {xs : Nat → Int32} {d : Nat} {x1 x2 : Int32} {h p : zK} (H : qLa_settle x1 x2 h = some p) : zEv (zXs Ls xs) (d + 11) zm_32 (0, [some (.ref 184), some (.int x1), some (.int x2), none, none], [], zhp h) (none, zhp p) := t_qLa_settleN (d := d) 9 _ _ _ _ H
def qLa_find_b24 (oc : Nat) (s : Int32 × zK) : Option ((Int32 × zK) ⊕ (zK)) :=
  if (gI s.2 oc 2) ≤ s.1 then
    some (.inr s.2)
  else
    (qTr_takeUp 186 s.1 s.2).bind fun p5 =>
    some (.inl (s.1 + 1, p5))
theorem t_qLa_find_b24b {Ls : Nat} {xs : Nat → Int32} {d : Nat} {oc : Nat} {r : zA} {s : Int32 × zK} {e : (Int32 × zK) ⊕ (zK)} (ho : oc = 7 ∨ oc = 22) (H : qLa_find_b24 oc s = some e) (K : match (generalizing := false) e with | .inl s' => ∀ (z1 : Option Value), zEv (zXs Ls xs) (d + 12) zm_29 (24, [some (.ref 184), z1, some (.ref oc), some (.int s'.1)], [], zhp s'.2) r | .inr v => ∀ (z1 : Option Value) (z3 : Option Value), zEv (zXs Ls xs) (d + 12) zm_29 (46, [some (.ref 184), z1, some (.ref oc), z3], [], zhp v) r) (y1 : Option Value) : zEv (zXs Ls xs) (d + 12) zm_29 (24, [some (.ref 184), y1, some (.ref oc), some (.int s.1)], [], zhp s.2) r := by
  unfold qLa_find_b24 at H
  rcases ho with rfl | rfl
  · refine zEv_k 4 (f' := (if (gI s.2 7 2) ≤ s.1 then 46 else 32, [some (.ref 184), y1, some (.ref 7), some (.int s.1)], [], zhp s.2)) rfl (zEv_if (fun c4 => ?_) (fun c4 => ?_))
    · replace H := zif_t c4 H
      cases H
      exact K _ _
    · replace H := zif_f c4 H
      refine zEv_k 1 (f' := (33, [some (.ref 184), y1, some (.ref 7), some (.int s.1)], [.ref 184], zhp s.2)) rfl ?_
      refine zRgr rfl rfl rfl (by decide) (b := 186) rfl ?_
      refine zEv_k 1 (f' := (37, [some (.ref 184), y1, some (.ref 7), some (.int s.1)], [.int s.1, .ref 186], zhp s.2)) rfl ?_
      obtain ⟨p5, hp5, H⟩ := zbs H
      refine zEv_c (fun _ => rfl) rfl (t_qTr_takeUp (oo := 186) (x1 := s.1) (h := s.2) (d := d + 11) (by decide) hp5) rfl rfl ?_
      refine zEv_k 2 (f' := (24, [some (.ref 184), y1, some (.ref 7), some (.int (s.1 + 1))], [], zhp p5)) rfl ?_
      cases H
      exact K _
  · refine zEv_k 4 (f' := (if (gI s.2 22 2) ≤ s.1 then 46 else 32, [some (.ref 184), y1, some (.ref 22), some (.int s.1)], [], zhp s.2)) rfl (zEv_if (fun c4 => ?_) (fun c4 => ?_))
    · replace H := zif_t c4 H
      cases H
      exact K _ _
    · replace H := zif_f c4 H
      refine zEv_k 1 (f' := (33, [some (.ref 184), y1, some (.ref 22), some (.int s.1)], [.ref 184], zhp s.2)) rfl ?_
      refine zRgr rfl rfl rfl (by decide) (b := 186) rfl ?_
      refine zEv_k 1 (f' := (37, [some (.ref 184), y1, some (.ref 22), some (.int s.1)], [.int s.1, .ref 186], zhp s.2)) rfl ?_
      obtain ⟨p5, hp5, H⟩ := zbs H
      refine zEv_c (fun _ => rfl) rfl (t_qTr_takeUp (oo := 186) (x1 := s.1) (h := s.2) (d := d + 11) (by decide) hp5) rfl rfl ?_
      refine zEv_k 2 (f' := (24, [some (.ref 184), y1, some (.ref 22), some (.int (s.1 + 1))], [], zhp p5)) rfl ?_
      cases H
      exact K _
theorem t_qLa_find_b24 {Ls : Nat} {xs : Nat → Int32} {d : Nat} {oc : Nat} {r : zA} (ho : oc = 7 ∨ oc = 22) {t : zK} (K : ∀ (z1 : Option Value) (z3 : Option Value), zEv (zXs Ls xs) (d + 12) zm_29 (46, [some (.ref 184), z1, some (.ref oc), z3], [], zhp t) r) (n : Nat) (s : Int32 × zK) (H : zloop (qLa_find_b24 oc) n s = some t) (y1 : Option Value) : zEv (zXs Ls xs) (d + 12) zm_29 (24, [some (.ref 184), y1, some (.ref oc), some (.int s.1)], [], zhp s.2) r := by
  have Z := zloop_P (P := fun s => ∀ (y1 : Option Value), zEv (zXs Ls xs) (d + 12) zm_29 (24, [some (.ref 184), y1, some (.ref oc), some (.int s.1)], [], zhp s.2) r) (b := qLa_find_b24 oc) (t := t) (fun s s2 hb hk => by intro y1; exact t_qLa_find_b24b ho hb hk y1) (fun s hb => by intro y1; exact t_qLa_find_b24b ho hb K y1) n s H
  exact Z y1
def qLa_find (x1 : Int32) (oc : Nat) (h : zK) : Option (zK) :=
  if ¬ (gI h 184 8) = x1 then
    zlet (sI h 184 8 x1) fun h2 =>
    (qTr_lookAt 186 oc h2).bind fun p3 =>
    (zloop (qLa_find_b24 oc) zfu (0, p3)).bind fun t6 =>
    (qLa_sortPlaces oc t6).bind fun p8 =>
    (qLa_findTwins oc p8).bind fun p9 =>
    zlet (sI p9 184 6 0) fun h10 =>
    zlet (sI h10 184 0 ((gI h10 oc 2) + 1)) fun h11 =>
    (qTr_greatest 186 (gI h11 184 0) h11).bind fun p12 =>
    zlet (sI h11 184 7 p12) fun h13 =>
    (qLa_settle 0 (gI h13 184 7) h13).bind fun p14 =>
    some p14
  else
    some h
theorem t_qLa_find {Ls : Nat} {xs : Nat → Int32} {d : Nat} {x1 : Int32} {oc : Nat} {h : zK} {p : zK} (ho : oc = 7 ∨ oc = 22) (H : qLa_find x1 oc h = some p) : zEv (zXs Ls xs) (d + 12) zm_29 (0, [some (.ref 184), some (.int x1), some (.ref oc), none], [], zhp h) (none, zhp p) := by
  unfold qLa_find at H
  rcases ho with rfl | rfl
  · refine zEv_k 4 (f' := (if ¬ (gI h 184 8) = x1 then 9 else 8, [some (.ref 184), some (.int x1), some (.ref 7), none], [], zhp h)) rfl (zEv_if (fun c1 => ?_) (fun c1 => ?_))
    · replace H := zif_t c1 H
      obtain ⟨h2, eh2, H⟩ := zlets H
      refine zEv_w (F := fun z => (14, [some (.ref 184), some (.int x1), some (.ref 7), none], [], zhp z)) (h0 := sI h 184 8 x1) 3 rfl eh2 ?_
      refine zEv_k 1 (f' := (15, [some (.ref 184), some (.int x1), some (.ref 7), none], [.ref 184], zhp h2)) rfl ?_
      refine zRgr rfl rfl rfl (by decide) (b := 186) rfl ?_
      refine zEv_k 1 (f' := (19, [some (.ref 184), some (.int x1), some (.ref 7), none], [.ref 7, .ref 186], zhp h2)) rfl ?_
      obtain ⟨p3, hp3, H⟩ := zbs H
      refine zEv_c (fun _ => rfl) rfl (t_qTr_lookAt (oo := 186) (oc := 7) (h := h2) (d := d + 9) (by decide) hp3) rfl rfl ?_
      refine zEv_k 2 (f' := (24, [some (.ref 184), some (.int x1), some (.ref 7), some (.int 0)], [], zhp p3)) rfl ?_
      obtain ⟨t6, ht6, H⟩ := zbs H
      refine t_qLa_find_b24 (oc := 7) (by decide) ?_ zfu _ ht6 _
      intro y1 y3
      refine zEv_k 2 (f' := (48, [some (.ref 184), y1, some (.ref 7), y3], [.ref 7, .ref 184], zhp t6)) rfl ?_
      obtain ⟨p8, hp8, H⟩ := zbs H
      refine zEv_c (fun _ => rfl) rfl (t_qLa_sortPlaces (oc := 7) (h := t6) (d := d + 11) (by decide) hp8) rfl rfl ?_
      refine zEv_k 2 (f' := (53, [some (.ref 184), y1, some (.ref 7), y3], [.ref 7, .ref 184], zhp p8)) rfl ?_
      obtain ⟨p9, hp9, H⟩ := zbs H
      refine zEv_c (fun _ => rfl) rfl (t_qLa_findTwins (oc := 7) (h := p8) (d := d + 11) (by decide) hp9) rfl rfl ?_
      obtain ⟨h10, eh10, H⟩ := zlets H
      refine zEv_w (F := fun z => (61, [some (.ref 184), y1, some (.ref 7), y3], [], zhp z)) (h0 := sI p9 184 6 0) 3 rfl eh10 ?_
      obtain ⟨h11, eh11, H⟩ := zlets H
      refine zEv_w (F := fun z => (71, [some (.ref 184), y1, some (.ref 7), y3], [], zhp z)) (h0 := sI h10 184 0 ((gI h10 7 2) + 1)) 6 rfl eh11 ?_
      refine zEv_k 2 (f' := (73, [some (.ref 184), y1, some (.ref 7), y3], [.ref 184, .ref 184], zhp h11)) rfl ?_
      refine zRgr rfl rfl rfl (by decide) (b := 186) rfl ?_
      refine zEv_k 2 (f' := (80, [some (.ref 184), y1, some (.ref 7), y3], [.int (gI h11 184 0), .ref 186, .ref 184], zhp h11)) rfl ?_
      obtain ⟨p12, hp12, H⟩ := zbs H
      refine zEv_c (fun _ => rfl) rfl (t_qTr_greatest (oo := 186) (x1 := gI h11 184 0) (h := h11) (d := d + 9) (by decide) hp12) rfl rfl ?_
      obtain ⟨h13, eh13, H⟩ := zlets H
      refine zEv_w (F := fun z => (86, [some (.ref 184), y1, some (.ref 7), y3], [], zhp z)) (h0 := sI h11 184 7 p12) 1 rfl eh13 ?_
      refine zEv_k 4 (f' := (92, [some (.ref 184), y1, some (.ref 7), y3], [.int (gI h13 184 7), .int 0, .ref 184], zhp h13)) rfl ?_
      obtain ⟨p14, hp14, H⟩ := zbs H
      refine zEv_c (fun _ => rfl) rfl (t_qLa_settle (x1 := 0) (x2 := gI h13 184 7) (h := h13) (d := d) hp14) rfl rfl ?_
      cases H
      exact zEv_r rfl
    · replace H := zif_f c1 H
      cases H
      exact zEv_r rfl
  · refine zEv_k 4 (f' := (if ¬ (gI h 184 8) = x1 then 9 else 8, [some (.ref 184), some (.int x1), some (.ref 22), none], [], zhp h)) rfl (zEv_if (fun c1 => ?_) (fun c1 => ?_))
    · replace H := zif_t c1 H
      obtain ⟨h2, eh2, H⟩ := zlets H
      refine zEv_w (F := fun z => (14, [some (.ref 184), some (.int x1), some (.ref 22), none], [], zhp z)) (h0 := sI h 184 8 x1) 3 rfl eh2 ?_
      refine zEv_k 1 (f' := (15, [some (.ref 184), some (.int x1), some (.ref 22), none], [.ref 184], zhp h2)) rfl ?_
      refine zRgr rfl rfl rfl (by decide) (b := 186) rfl ?_
      refine zEv_k 1 (f' := (19, [some (.ref 184), some (.int x1), some (.ref 22), none], [.ref 22, .ref 186], zhp h2)) rfl ?_
      obtain ⟨p3, hp3, H⟩ := zbs H
      refine zEv_c (fun _ => rfl) rfl (t_qTr_lookAt (oo := 186) (oc := 22) (h := h2) (d := d + 9) (by decide) hp3) rfl rfl ?_
      refine zEv_k 2 (f' := (24, [some (.ref 184), some (.int x1), some (.ref 22), some (.int 0)], [], zhp p3)) rfl ?_
      obtain ⟨t6, ht6, H⟩ := zbs H
      refine t_qLa_find_b24 (oc := 22) (by decide) ?_ zfu _ ht6 _
      intro y1 y3
      refine zEv_k 2 (f' := (48, [some (.ref 184), y1, some (.ref 22), y3], [.ref 22, .ref 184], zhp t6)) rfl ?_
      obtain ⟨p8, hp8, H⟩ := zbs H
      refine zEv_c (fun _ => rfl) rfl (t_qLa_sortPlaces (oc := 22) (h := t6) (d := d + 11) (by decide) hp8) rfl rfl ?_
      refine zEv_k 2 (f' := (53, [some (.ref 184), y1, some (.ref 22), y3], [.ref 22, .ref 184], zhp p8)) rfl ?_
      obtain ⟨p9, hp9, H⟩ := zbs H
      refine zEv_c (fun _ => rfl) rfl (t_qLa_findTwins (oc := 22) (h := p8) (d := d + 11) (by decide) hp9) rfl rfl ?_
      obtain ⟨h10, eh10, H⟩ := zlets H
      refine zEv_w (F := fun z => (61, [some (.ref 184), y1, some (.ref 22), y3], [], zhp z)) (h0 := sI p9 184 6 0) 3 rfl eh10 ?_
      obtain ⟨h11, eh11, H⟩ := zlets H
      refine zEv_w (F := fun z => (71, [some (.ref 184), y1, some (.ref 22), y3], [], zhp z)) (h0 := sI h10 184 0 ((gI h10 22 2) + 1)) 6 rfl eh11 ?_
      refine zEv_k 2 (f' := (73, [some (.ref 184), y1, some (.ref 22), y3], [.ref 184, .ref 184], zhp h11)) rfl ?_
      refine zRgr rfl rfl rfl (by decide) (b := 186) rfl ?_
      refine zEv_k 2 (f' := (80, [some (.ref 184), y1, some (.ref 22), y3], [.int (gI h11 184 0), .ref 186, .ref 184], zhp h11)) rfl ?_
      obtain ⟨p12, hp12, H⟩ := zbs H
      refine zEv_c (fun _ => rfl) rfl (t_qTr_greatest (oo := 186) (x1 := gI h11 184 0) (h := h11) (d := d + 9) (by decide) hp12) rfl rfl ?_
      obtain ⟨h13, eh13, H⟩ := zlets H
      refine zEv_w (F := fun z => (86, [some (.ref 184), y1, some (.ref 22), y3], [], zhp z)) (h0 := sI h11 184 7 p12) 1 rfl eh13 ?_
      refine zEv_k 4 (f' := (92, [some (.ref 184), y1, some (.ref 22), y3], [.int (gI h13 184 7), .int 0, .ref 184], zhp h13)) rfl ?_
      obtain ⟨p14, hp14, H⟩ := zbs H
      refine zEv_c (fun _ => rfl) rfl (t_qLa_settle (x1 := 0) (x2 := gI h13 184 7) (h := h13) (d := d) hp14) rfl rfl ?_
      cases H
      exact zEv_r rfl
    · replace H := zif_f c1 H
      cases H
      exact zEv_r rfl
def qLo_become (oo : Nat) (oq : Nat) (h : zK) : Option (zK) :=
  zlet (sI h oo 0 (gI h oq 0)) fun h1 =>
  zlet (cI h1 (oq + 1) (oo + 1) 0 0 8) fun h2 =>
  zlet (cI h2 (oq + 2) (oo + 2) 0 0 8) fun h4 =>
  some h4
theorem t_qLo_become {Ls : Nat} {xs : Nat → Int32} {d : Nat} {oo : Nat} {oq : Nat} {h : zK} {p : zK} (ho : (oo = 19 ∧ oq = 56) ∨ (oo = 34 ∧ oq = 71) ∨ (oo = 19 ∧ oq = 92) ∨ (oo = 34 ∧ oq = 107) ∨ (oo = 19 ∧ oq = 128) ∨ (oo = 34 ∧ oq = 143) ∨ (oo = 56 ∧ oq = 19) ∨ (oo = 71 ∧ oq = 34) ∨ (oo = 92 ∧ oq = 19) ∨ (oo = 107 ∧ oq = 34) ∨ (oo = 128 ∧ oq = 19) ∨ (oo = 143 ∧ oq = 34) ∨ (oo = 19 ∧ oq = 160) ∨ (oo = 34 ∧ oq = 160)) (H : qLo_become oo oq h = some p) : zEv (zXs Ls xs) d zm_37 (0, [some (.ref oo), some (.ref oq)], [], zhp h) (none, zhp p) := by
  unfold qLo_become at H
  rcases ho with ⟨rfl, rfl⟩ | ⟨rfl, rfl⟩ | ⟨rfl, rfl⟩ | ⟨rfl, rfl⟩ | ⟨rfl, rfl⟩ | ⟨rfl, rfl⟩ | ⟨rfl, rfl⟩ | ⟨rfl, rfl⟩ | ⟨rfl, rfl⟩ | ⟨rfl, rfl⟩ | ⟨rfl, rfl⟩ | ⟨rfl, rfl⟩ | ⟨rfl, rfl⟩ | ⟨rfl, rfl⟩
  · obtain ⟨h1, eh1, H⟩ := zlets H
    refine zEv_w (F := fun z => (8, [some (.ref 19), some (.ref 56)], [], zhp z)) (h0 := sI h 19 0 (gI h 56 0)) 4 rfl eh1 ?_
    refine zEv_k 1 (f' := (9, [some (.ref 19), some (.ref 56)], [.ref 56], zhp h1)) rfl ?_
    refine zRgr rfl rfl rfl (by decide) (b := 56 + 1) rfl ?_
    refine zEv_k 2 (f' := (14, [some (.ref 19), some (.ref 56)], [.ref 19, .int 0, .ref (56 + 1)], zhp h1)) rfl ?_
    refine zRgr rfl rfl rfl (by decide) (b := 19 + 1) rfl ?_
    refine zEv_k 2 (f' := (20, [some (.ref 19), some (.ref 56)], [.int 8, .int 0, .ref (19 + 1), .int 0, .ref (56 + 1)], zhp h1)) rfl ?_
    obtain ⟨h2, eh2, H⟩ := zlets H
    refine zRcp rfl rfl rfl (by decide) (by decide) (by decide) (by unfold zcpok; decide) (by decide) eh2 ?_
    refine zEv_k 1 (f' := (24, [some (.ref 19), some (.ref 56)], [.ref 56], zhp h2)) rfl ?_
    refine zRgr rfl rfl rfl (by decide) (b := 56 + 2) rfl ?_
    refine zEv_k 2 (f' := (29, [some (.ref 19), some (.ref 56)], [.ref 19, .int 0, .ref (56 + 2)], zhp h2)) rfl ?_
    refine zRgr rfl rfl rfl (by decide) (b := 19 + 2) rfl ?_
    refine zEv_k 2 (f' := (35, [some (.ref 19), some (.ref 56)], [.int 8, .int 0, .ref (19 + 2), .int 0, .ref (56 + 2)], zhp h2)) rfl ?_
    obtain ⟨h4, eh4, H⟩ := zlets H
    refine zRcp rfl rfl rfl (by decide) (by decide) (by decide) (by unfold zcpok; decide) (by decide) eh4 ?_
    cases H
    exact zEv_r rfl
  · obtain ⟨h1, eh1, H⟩ := zlets H
    refine zEv_w (F := fun z => (8, [some (.ref 34), some (.ref 71)], [], zhp z)) (h0 := sI h 34 0 (gI h 71 0)) 4 rfl eh1 ?_
    refine zEv_k 1 (f' := (9, [some (.ref 34), some (.ref 71)], [.ref 71], zhp h1)) rfl ?_
    refine zRgr rfl rfl rfl (by decide) (b := 71 + 1) rfl ?_
    refine zEv_k 2 (f' := (14, [some (.ref 34), some (.ref 71)], [.ref 34, .int 0, .ref (71 + 1)], zhp h1)) rfl ?_
    refine zRgr rfl rfl rfl (by decide) (b := 34 + 1) rfl ?_
    refine zEv_k 2 (f' := (20, [some (.ref 34), some (.ref 71)], [.int 8, .int 0, .ref (34 + 1), .int 0, .ref (71 + 1)], zhp h1)) rfl ?_
    obtain ⟨h2, eh2, H⟩ := zlets H
    refine zRcp rfl rfl rfl (by decide) (by decide) (by decide) (by unfold zcpok; decide) (by decide) eh2 ?_
    refine zEv_k 1 (f' := (24, [some (.ref 34), some (.ref 71)], [.ref 71], zhp h2)) rfl ?_
    refine zRgr rfl rfl rfl (by decide) (b := 71 + 2) rfl ?_
    refine zEv_k 2 (f' := (29, [some (.ref 34), some (.ref 71)], [.ref 34, .int 0, .ref (71 + 2)], zhp h2)) rfl ?_
    refine zRgr rfl rfl rfl (by decide) (b := 34 + 2) rfl ?_
    refine zEv_k 2 (f' := (35, [some (.ref 34), some (.ref 71)], [.int 8, .int 0, .ref (34 + 2), .int 0, .ref (71 + 2)], zhp h2)) rfl ?_
    obtain ⟨h4, eh4, H⟩ := zlets H
    refine zRcp rfl rfl rfl (by decide) (by decide) (by decide) (by unfold zcpok; decide) (by decide) eh4 ?_
    cases H
    exact zEv_r rfl
  · obtain ⟨h1, eh1, H⟩ := zlets H
    refine zEv_w (F := fun z => (8, [some (.ref 19), some (.ref 92)], [], zhp z)) (h0 := sI h 19 0 (gI h 92 0)) 4 rfl eh1 ?_
    refine zEv_k 1 (f' := (9, [some (.ref 19), some (.ref 92)], [.ref 92], zhp h1)) rfl ?_
    refine zRgr rfl rfl rfl (by decide) (b := 92 + 1) rfl ?_
    refine zEv_k 2 (f' := (14, [some (.ref 19), some (.ref 92)], [.ref 19, .int 0, .ref (92 + 1)], zhp h1)) rfl ?_
    refine zRgr rfl rfl rfl (by decide) (b := 19 + 1) rfl ?_
    refine zEv_k 2 (f' := (20, [some (.ref 19), some (.ref 92)], [.int 8, .int 0, .ref (19 + 1), .int 0, .ref (92 + 1)], zhp h1)) rfl ?_
    obtain ⟨h2, eh2, H⟩ := zlets H
    refine zRcp rfl rfl rfl (by decide) (by decide) (by decide) (by unfold zcpok; decide) (by decide) eh2 ?_
    refine zEv_k 1 (f' := (24, [some (.ref 19), some (.ref 92)], [.ref 92], zhp h2)) rfl ?_
    refine zRgr rfl rfl rfl (by decide) (b := 92 + 2) rfl ?_
    refine zEv_k 2 (f' := (29, [some (.ref 19), some (.ref 92)], [.ref 19, .int 0, .ref (92 + 2)], zhp h2)) rfl ?_
    refine zRgr rfl rfl rfl (by decide) (b := 19 + 2) rfl ?_
    refine zEv_k 2 (f' := (35, [some (.ref 19), some (.ref 92)], [.int 8, .int 0, .ref (19 + 2), .int 0, .ref (92 + 2)], zhp h2)) rfl ?_
    obtain ⟨h4, eh4, H⟩ := zlets H
    refine zRcp rfl rfl rfl (by decide) (by decide) (by decide) (by unfold zcpok; decide) (by decide) eh4 ?_
    cases H
    exact zEv_r rfl
  · obtain ⟨h1, eh1, H⟩ := zlets H
    refine zEv_w (F := fun z => (8, [some (.ref 34), some (.ref 107)], [], zhp z)) (h0 := sI h 34 0 (gI h 107 0)) 4 rfl eh1 ?_
    refine zEv_k 1 (f' := (9, [some (.ref 34), some (.ref 107)], [.ref 107], zhp h1)) rfl ?_
    refine zRgr rfl rfl rfl (by decide) (b := 107 + 1) rfl ?_
    refine zEv_k 2 (f' := (14, [some (.ref 34), some (.ref 107)], [.ref 34, .int 0, .ref (107 + 1)], zhp h1)) rfl ?_
    refine zRgr rfl rfl rfl (by decide) (b := 34 + 1) rfl ?_
    refine zEv_k 2 (f' := (20, [some (.ref 34), some (.ref 107)], [.int 8, .int 0, .ref (34 + 1), .int 0, .ref (107 + 1)], zhp h1)) rfl ?_
    obtain ⟨h2, eh2, H⟩ := zlets H
    refine zRcp rfl rfl rfl (by decide) (by decide) (by decide) (by unfold zcpok; decide) (by decide) eh2 ?_
    refine zEv_k 1 (f' := (24, [some (.ref 34), some (.ref 107)], [.ref 107], zhp h2)) rfl ?_
    refine zRgr rfl rfl rfl (by decide) (b := 107 + 2) rfl ?_
    refine zEv_k 2 (f' := (29, [some (.ref 34), some (.ref 107)], [.ref 34, .int 0, .ref (107 + 2)], zhp h2)) rfl ?_
    refine zRgr rfl rfl rfl (by decide) (b := 34 + 2) rfl ?_
    refine zEv_k 2 (f' := (35, [some (.ref 34), some (.ref 107)], [.int 8, .int 0, .ref (34 + 2), .int 0, .ref (107 + 2)], zhp h2)) rfl ?_
    obtain ⟨h4, eh4, H⟩ := zlets H
    refine zRcp rfl rfl rfl (by decide) (by decide) (by decide) (by unfold zcpok; decide) (by decide) eh4 ?_
    cases H
    exact zEv_r rfl
  · obtain ⟨h1, eh1, H⟩ := zlets H
    refine zEv_w (F := fun z => (8, [some (.ref 19), some (.ref 128)], [], zhp z)) (h0 := sI h 19 0 (gI h 128 0)) 4 rfl eh1 ?_
    refine zEv_k 1 (f' := (9, [some (.ref 19), some (.ref 128)], [.ref 128], zhp h1)) rfl ?_
    refine zRgr rfl rfl rfl (by decide) (b := 128 + 1) rfl ?_
    refine zEv_k 2 (f' := (14, [some (.ref 19), some (.ref 128)], [.ref 19, .int 0, .ref (128 + 1)], zhp h1)) rfl ?_
    refine zRgr rfl rfl rfl (by decide) (b := 19 + 1) rfl ?_
    refine zEv_k 2 (f' := (20, [some (.ref 19), some (.ref 128)], [.int 8, .int 0, .ref (19 + 1), .int 0, .ref (128 + 1)], zhp h1)) rfl ?_
    obtain ⟨h2, eh2, H⟩ := zlets H
    refine zRcp rfl rfl rfl (by decide) (by decide) (by decide) (by unfold zcpok; decide) (by decide) eh2 ?_
    refine zEv_k 1 (f' := (24, [some (.ref 19), some (.ref 128)], [.ref 128], zhp h2)) rfl ?_
    refine zRgr rfl rfl rfl (by decide) (b := 128 + 2) rfl ?_
    refine zEv_k 2 (f' := (29, [some (.ref 19), some (.ref 128)], [.ref 19, .int 0, .ref (128 + 2)], zhp h2)) rfl ?_
    refine zRgr rfl rfl rfl (by decide) (b := 19 + 2) rfl ?_
    refine zEv_k 2 (f' := (35, [some (.ref 19), some (.ref 128)], [.int 8, .int 0, .ref (19 + 2), .int 0, .ref (128 + 2)], zhp h2)) rfl ?_
    obtain ⟨h4, eh4, H⟩ := zlets H
    refine zRcp rfl rfl rfl (by decide) (by decide) (by decide) (by unfold zcpok; decide) (by decide) eh4 ?_
    cases H
    exact zEv_r rfl
  · obtain ⟨h1, eh1, H⟩ := zlets H
    refine zEv_w (F := fun z => (8, [some (.ref 34), some (.ref 143)], [], zhp z)) (h0 := sI h 34 0 (gI h 143 0)) 4 rfl eh1 ?_
    refine zEv_k 1 (f' := (9, [some (.ref 34), some (.ref 143)], [.ref 143], zhp h1)) rfl ?_
    refine zRgr rfl rfl rfl (by decide) (b := 143 + 1) rfl ?_
    refine zEv_k 2 (f' := (14, [some (.ref 34), some (.ref 143)], [.ref 34, .int 0, .ref (143 + 1)], zhp h1)) rfl ?_
    refine zRgr rfl rfl rfl (by decide) (b := 34 + 1) rfl ?_
    refine zEv_k 2 (f' := (20, [some (.ref 34), some (.ref 143)], [.int 8, .int 0, .ref (34 + 1), .int 0, .ref (143 + 1)], zhp h1)) rfl ?_
    obtain ⟨h2, eh2, H⟩ := zlets H
    refine zRcp rfl rfl rfl (by decide) (by decide) (by decide) (by unfold zcpok; decide) (by decide) eh2 ?_
    refine zEv_k 1 (f' := (24, [some (.ref 34), some (.ref 143)], [.ref 143], zhp h2)) rfl ?_
    refine zRgr rfl rfl rfl (by decide) (b := 143 + 2) rfl ?_
    refine zEv_k 2 (f' := (29, [some (.ref 34), some (.ref 143)], [.ref 34, .int 0, .ref (143 + 2)], zhp h2)) rfl ?_
    refine zRgr rfl rfl rfl (by decide) (b := 34 + 2) rfl ?_
    refine zEv_k 2 (f' := (35, [some (.ref 34), some (.ref 143)], [.int 8, .int 0, .ref (34 + 2), .int 0, .ref (143 + 2)], zhp h2)) rfl ?_
    obtain ⟨h4, eh4, H⟩ := zlets H
    refine zRcp rfl rfl rfl (by decide) (by decide) (by decide) (by unfold zcpok; decide) (by decide) eh4 ?_
    cases H
    exact zEv_r rfl
  · obtain ⟨h1, eh1, H⟩ := zlets H
    refine zEv_w (F := fun z => (8, [some (.ref 56), some (.ref 19)], [], zhp z)) (h0 := sI h 56 0 (gI h 19 0)) 4 rfl eh1 ?_
    refine zEv_k 1 (f' := (9, [some (.ref 56), some (.ref 19)], [.ref 19], zhp h1)) rfl ?_
    refine zRgr rfl rfl rfl (by decide) (b := 19 + 1) rfl ?_
    refine zEv_k 2 (f' := (14, [some (.ref 56), some (.ref 19)], [.ref 56, .int 0, .ref (19 + 1)], zhp h1)) rfl ?_
    refine zRgr rfl rfl rfl (by decide) (b := 56 + 1) rfl ?_
    refine zEv_k 2 (f' := (20, [some (.ref 56), some (.ref 19)], [.int 8, .int 0, .ref (56 + 1), .int 0, .ref (19 + 1)], zhp h1)) rfl ?_
    obtain ⟨h2, eh2, H⟩ := zlets H
    refine zRcp rfl rfl rfl (by decide) (by decide) (by decide) (by unfold zcpok; decide) (by decide) eh2 ?_
    refine zEv_k 1 (f' := (24, [some (.ref 56), some (.ref 19)], [.ref 19], zhp h2)) rfl ?_
    refine zRgr rfl rfl rfl (by decide) (b := 19 + 2) rfl ?_
    refine zEv_k 2 (f' := (29, [some (.ref 56), some (.ref 19)], [.ref 56, .int 0, .ref (19 + 2)], zhp h2)) rfl ?_
    refine zRgr rfl rfl rfl (by decide) (b := 56 + 2) rfl ?_
    refine zEv_k 2 (f' := (35, [some (.ref 56), some (.ref 19)], [.int 8, .int 0, .ref (56 + 2), .int 0, .ref (19 + 2)], zhp h2)) rfl ?_
    obtain ⟨h4, eh4, H⟩ := zlets H
    refine zRcp rfl rfl rfl (by decide) (by decide) (by decide) (by unfold zcpok; decide) (by decide) eh4 ?_
    cases H
    exact zEv_r rfl
  · obtain ⟨h1, eh1, H⟩ := zlets H
    refine zEv_w (F := fun z => (8, [some (.ref 71), some (.ref 34)], [], zhp z)) (h0 := sI h 71 0 (gI h 34 0)) 4 rfl eh1 ?_
    refine zEv_k 1 (f' := (9, [some (.ref 71), some (.ref 34)], [.ref 34], zhp h1)) rfl ?_
    refine zRgr rfl rfl rfl (by decide) (b := 34 + 1) rfl ?_
    refine zEv_k 2 (f' := (14, [some (.ref 71), some (.ref 34)], [.ref 71, .int 0, .ref (34 + 1)], zhp h1)) rfl ?_
    refine zRgr rfl rfl rfl (by decide) (b := 71 + 1) rfl ?_
    refine zEv_k 2 (f' := (20, [some (.ref 71), some (.ref 34)], [.int 8, .int 0, .ref (71 + 1), .int 0, .ref (34 + 1)], zhp h1)) rfl ?_
    obtain ⟨h2, eh2, H⟩ := zlets H
    refine zRcp rfl rfl rfl (by decide) (by decide) (by decide) (by unfold zcpok; decide) (by decide) eh2 ?_
    refine zEv_k 1 (f' := (24, [some (.ref 71), some (.ref 34)], [.ref 34], zhp h2)) rfl ?_
    refine zRgr rfl rfl rfl (by decide) (b := 34 + 2) rfl ?_
    refine zEv_k 2 (f' := (29, [some (.ref 71), some (.ref 34)], [.ref 71, .int 0, .ref (34 + 2)], zhp h2)) rfl ?_
    refine zRgr rfl rfl rfl (by decide) (b := 71 + 2) rfl ?_
    refine zEv_k 2 (f' := (35, [some (.ref 71), some (.ref 34)], [.int 8, .int 0, .ref (71 + 2), .int 0, .ref (34 + 2)], zhp h2)) rfl ?_
    obtain ⟨h4, eh4, H⟩ := zlets H
    refine zRcp rfl rfl rfl (by decide) (by decide) (by decide) (by unfold zcpok; decide) (by decide) eh4 ?_
    cases H
    exact zEv_r rfl
  · obtain ⟨h1, eh1, H⟩ := zlets H
    refine zEv_w (F := fun z => (8, [some (.ref 92), some (.ref 19)], [], zhp z)) (h0 := sI h 92 0 (gI h 19 0)) 4 rfl eh1 ?_
    refine zEv_k 1 (f' := (9, [some (.ref 92), some (.ref 19)], [.ref 19], zhp h1)) rfl ?_
    refine zRgr rfl rfl rfl (by decide) (b := 19 + 1) rfl ?_
    refine zEv_k 2 (f' := (14, [some (.ref 92), some (.ref 19)], [.ref 92, .int 0, .ref (19 + 1)], zhp h1)) rfl ?_
    refine zRgr rfl rfl rfl (by decide) (b := 92 + 1) rfl ?_
    refine zEv_k 2 (f' := (20, [some (.ref 92), some (.ref 19)], [.int 8, .int 0, .ref (92 + 1), .int 0, .ref (19 + 1)], zhp h1)) rfl ?_
    obtain ⟨h2, eh2, H⟩ := zlets H
    refine zRcp rfl rfl rfl (by decide) (by decide) (by decide) (by unfold zcpok; decide) (by decide) eh2 ?_
    refine zEv_k 1 (f' := (24, [some (.ref 92), some (.ref 19)], [.ref 19], zhp h2)) rfl ?_
    refine zRgr rfl rfl rfl (by decide) (b := 19 + 2) rfl ?_
    refine zEv_k 2 (f' := (29, [some (.ref 92), some (.ref 19)], [.ref 92, .int 0, .ref (19 + 2)], zhp h2)) rfl ?_
    refine zRgr rfl rfl rfl (by decide) (b := 92 + 2) rfl ?_
    refine zEv_k 2 (f' := (35, [some (.ref 92), some (.ref 19)], [.int 8, .int 0, .ref (92 + 2), .int 0, .ref (19 + 2)], zhp h2)) rfl ?_
    obtain ⟨h4, eh4, H⟩ := zlets H
    refine zRcp rfl rfl rfl (by decide) (by decide) (by decide) (by unfold zcpok; decide) (by decide) eh4 ?_
    cases H
    exact zEv_r rfl
  · obtain ⟨h1, eh1, H⟩ := zlets H
    refine zEv_w (F := fun z => (8, [some (.ref 107), some (.ref 34)], [], zhp z)) (h0 := sI h 107 0 (gI h 34 0)) 4 rfl eh1 ?_
    refine zEv_k 1 (f' := (9, [some (.ref 107), some (.ref 34)], [.ref 34], zhp h1)) rfl ?_
    refine zRgr rfl rfl rfl (by decide) (b := 34 + 1) rfl ?_
    refine zEv_k 2 (f' := (14, [some (.ref 107), some (.ref 34)], [.ref 107, .int 0, .ref (34 + 1)], zhp h1)) rfl ?_
    refine zRgr rfl rfl rfl (by decide) (b := 107 + 1) rfl ?_
    refine zEv_k 2 (f' := (20, [some (.ref 107), some (.ref 34)], [.int 8, .int 0, .ref (107 + 1), .int 0, .ref (34 + 1)], zhp h1)) rfl ?_
    obtain ⟨h2, eh2, H⟩ := zlets H
    refine zRcp rfl rfl rfl (by decide) (by decide) (by decide) (by unfold zcpok; decide) (by decide) eh2 ?_
    refine zEv_k 1 (f' := (24, [some (.ref 107), some (.ref 34)], [.ref 34], zhp h2)) rfl ?_
    refine zRgr rfl rfl rfl (by decide) (b := 34 + 2) rfl ?_
    refine zEv_k 2 (f' := (29, [some (.ref 107), some (.ref 34)], [.ref 107, .int 0, .ref (34 + 2)], zhp h2)) rfl ?_
    refine zRgr rfl rfl rfl (by decide) (b := 107 + 2) rfl ?_
    refine zEv_k 2 (f' := (35, [some (.ref 107), some (.ref 34)], [.int 8, .int 0, .ref (107 + 2), .int 0, .ref (34 + 2)], zhp h2)) rfl ?_
    obtain ⟨h4, eh4, H⟩ := zlets H
    refine zRcp rfl rfl rfl (by decide) (by decide) (by decide) (by unfold zcpok; decide) (by decide) eh4 ?_
    cases H
    exact zEv_r rfl
  · obtain ⟨h1, eh1, H⟩ := zlets H
    refine zEv_w (F := fun z => (8, [some (.ref 128), some (.ref 19)], [], zhp z)) (h0 := sI h 128 0 (gI h 19 0)) 4 rfl eh1 ?_
    refine zEv_k 1 (f' := (9, [some (.ref 128), some (.ref 19)], [.ref 19], zhp h1)) rfl ?_
    refine zRgr rfl rfl rfl (by decide) (b := 19 + 1) rfl ?_
    refine zEv_k 2 (f' := (14, [some (.ref 128), some (.ref 19)], [.ref 128, .int 0, .ref (19 + 1)], zhp h1)) rfl ?_
    refine zRgr rfl rfl rfl (by decide) (b := 128 + 1) rfl ?_
    refine zEv_k 2 (f' := (20, [some (.ref 128), some (.ref 19)], [.int 8, .int 0, .ref (128 + 1), .int 0, .ref (19 + 1)], zhp h1)) rfl ?_
    obtain ⟨h2, eh2, H⟩ := zlets H
    refine zRcp rfl rfl rfl (by decide) (by decide) (by decide) (by unfold zcpok; decide) (by decide) eh2 ?_
    refine zEv_k 1 (f' := (24, [some (.ref 128), some (.ref 19)], [.ref 19], zhp h2)) rfl ?_
    refine zRgr rfl rfl rfl (by decide) (b := 19 + 2) rfl ?_
    refine zEv_k 2 (f' := (29, [some (.ref 128), some (.ref 19)], [.ref 128, .int 0, .ref (19 + 2)], zhp h2)) rfl ?_
    refine zRgr rfl rfl rfl (by decide) (b := 128 + 2) rfl ?_
    refine zEv_k 2 (f' := (35, [some (.ref 128), some (.ref 19)], [.int 8, .int 0, .ref (128 + 2), .int 0, .ref (19 + 2)], zhp h2)) rfl ?_
    obtain ⟨h4, eh4, H⟩ := zlets H
    refine zRcp rfl rfl rfl (by decide) (by decide) (by decide) (by unfold zcpok; decide) (by decide) eh4 ?_
    cases H
    exact zEv_r rfl
  · obtain ⟨h1, eh1, H⟩ := zlets H
    refine zEv_w (F := fun z => (8, [some (.ref 143), some (.ref 34)], [], zhp z)) (h0 := sI h 143 0 (gI h 34 0)) 4 rfl eh1 ?_
    refine zEv_k 1 (f' := (9, [some (.ref 143), some (.ref 34)], [.ref 34], zhp h1)) rfl ?_
    refine zRgr rfl rfl rfl (by decide) (b := 34 + 1) rfl ?_
    refine zEv_k 2 (f' := (14, [some (.ref 143), some (.ref 34)], [.ref 143, .int 0, .ref (34 + 1)], zhp h1)) rfl ?_
    refine zRgr rfl rfl rfl (by decide) (b := 143 + 1) rfl ?_
    refine zEv_k 2 (f' := (20, [some (.ref 143), some (.ref 34)], [.int 8, .int 0, .ref (143 + 1), .int 0, .ref (34 + 1)], zhp h1)) rfl ?_
    obtain ⟨h2, eh2, H⟩ := zlets H
    refine zRcp rfl rfl rfl (by decide) (by decide) (by decide) (by unfold zcpok; decide) (by decide) eh2 ?_
    refine zEv_k 1 (f' := (24, [some (.ref 143), some (.ref 34)], [.ref 34], zhp h2)) rfl ?_
    refine zRgr rfl rfl rfl (by decide) (b := 34 + 2) rfl ?_
    refine zEv_k 2 (f' := (29, [some (.ref 143), some (.ref 34)], [.ref 143, .int 0, .ref (34 + 2)], zhp h2)) rfl ?_
    refine zRgr rfl rfl rfl (by decide) (b := 143 + 2) rfl ?_
    refine zEv_k 2 (f' := (35, [some (.ref 143), some (.ref 34)], [.int 8, .int 0, .ref (143 + 2), .int 0, .ref (34 + 2)], zhp h2)) rfl ?_
    obtain ⟨h4, eh4, H⟩ := zlets H
    refine zRcp rfl rfl rfl (by decide) (by decide) (by decide) (by unfold zcpok; decide) (by decide) eh4 ?_
    cases H
    exact zEv_r rfl
  · obtain ⟨h1, eh1, H⟩ := zlets H
    refine zEv_w (F := fun z => (8, [some (.ref 19), some (.ref 160)], [], zhp z)) (h0 := sI h 19 0 (gI h 160 0)) 4 rfl eh1 ?_
    refine zEv_k 1 (f' := (9, [some (.ref 19), some (.ref 160)], [.ref 160], zhp h1)) rfl ?_
    refine zRgr rfl rfl rfl (by decide) (b := 160 + 1) rfl ?_
    refine zEv_k 2 (f' := (14, [some (.ref 19), some (.ref 160)], [.ref 19, .int 0, .ref (160 + 1)], zhp h1)) rfl ?_
    refine zRgr rfl rfl rfl (by decide) (b := 19 + 1) rfl ?_
    refine zEv_k 2 (f' := (20, [some (.ref 19), some (.ref 160)], [.int 8, .int 0, .ref (19 + 1), .int 0, .ref (160 + 1)], zhp h1)) rfl ?_
    obtain ⟨h2, eh2, H⟩ := zlets H
    refine zRcp rfl rfl rfl (by decide) (by decide) (by decide) (by unfold zcpok; decide) (by decide) eh2 ?_
    refine zEv_k 1 (f' := (24, [some (.ref 19), some (.ref 160)], [.ref 160], zhp h2)) rfl ?_
    refine zRgr rfl rfl rfl (by decide) (b := 160 + 2) rfl ?_
    refine zEv_k 2 (f' := (29, [some (.ref 19), some (.ref 160)], [.ref 19, .int 0, .ref (160 + 2)], zhp h2)) rfl ?_
    refine zRgr rfl rfl rfl (by decide) (b := 19 + 2) rfl ?_
    refine zEv_k 2 (f' := (35, [some (.ref 19), some (.ref 160)], [.int 8, .int 0, .ref (19 + 2), .int 0, .ref (160 + 2)], zhp h2)) rfl ?_
    obtain ⟨h4, eh4, H⟩ := zlets H
    refine zRcp rfl rfl rfl (by decide) (by decide) (by decide) (by unfold zcpok; decide) (by decide) eh4 ?_
    cases H
    exact zEv_r rfl
  · obtain ⟨h1, eh1, H⟩ := zlets H
    refine zEv_w (F := fun z => (8, [some (.ref 34), some (.ref 160)], [], zhp z)) (h0 := sI h 34 0 (gI h 160 0)) 4 rfl eh1 ?_
    refine zEv_k 1 (f' := (9, [some (.ref 34), some (.ref 160)], [.ref 160], zhp h1)) rfl ?_
    refine zRgr rfl rfl rfl (by decide) (b := 160 + 1) rfl ?_
    refine zEv_k 2 (f' := (14, [some (.ref 34), some (.ref 160)], [.ref 34, .int 0, .ref (160 + 1)], zhp h1)) rfl ?_
    refine zRgr rfl rfl rfl (by decide) (b := 34 + 1) rfl ?_
    refine zEv_k 2 (f' := (20, [some (.ref 34), some (.ref 160)], [.int 8, .int 0, .ref (34 + 1), .int 0, .ref (160 + 1)], zhp h1)) rfl ?_
    obtain ⟨h2, eh2, H⟩ := zlets H
    refine zRcp rfl rfl rfl (by decide) (by decide) (by decide) (by unfold zcpok; decide) (by decide) eh2 ?_
    refine zEv_k 1 (f' := (24, [some (.ref 34), some (.ref 160)], [.ref 160], zhp h2)) rfl ?_
    refine zRgr rfl rfl rfl (by decide) (b := 160 + 2) rfl ?_
    refine zEv_k 2 (f' := (29, [some (.ref 34), some (.ref 160)], [.ref 34, .int 0, .ref (160 + 2)], zhp h2)) rfl ?_
    refine zRgr rfl rfl rfl (by decide) (b := 34 + 2) rfl ?_
    refine zEv_k 2 (f' := (35, [some (.ref 34), some (.ref 160)], [.int 8, .int 0, .ref (34 + 2), .int 0, .ref (160 + 2)], zhp h2)) rfl ?_
    obtain ⟨h4, eh4, H⟩ := zlets H
    refine zRcp rfl rfl rfl (by decide) (by decide) (by decide) (by unfold zcpok; decide) (by decide) eh4 ?_
    cases H
    exact zEv_r rfl
def qLo_isFull (h : zK) : Int32 :=
  if (gI h 160 0) < 8 then
    0
  else
    1
theorem t_qLo_isFull {Ls : Nat} {xs : Nat → Int32} {d : Nat} {h : zK} {p : Int32} (H : qLo_isFull h = p) : zEv (zXs Ls xs) d zm_38 (0, [some (.ref 160)], [], zhp h) (some (.int p), zhp h) := by
  unfold qLo_isFull at H
  refine zEv_k 4 (f' := (if (gI h 160 0) < 8 then 13 else 9, [some (.ref 160)], [], zhp h)) rfl (zEv_if (fun c1 => ?_) (fun c1 => ?_))
  · replace H := zif_t c1 H
    refine zEv_k 1 (f' := (14, [some (.ref 160)], [.int 0], zhp h)) rfl ?_
    cases H
    exact zEv_r rfl
  · replace H := zif_f c1 H
    refine zEv_k 2 (f' := (14, [some (.ref 160)], [.int 1], zhp h)) rfl ?_
    cases H
    exact zEv_r rfl
def qLo_add (x1 : Int32) (x2 : Int32) (h : zK) : Option (zK) :=
  if (qLo_isFull h) = 0 then
    (zix (gI h 160 0) 8).bind fun j2 =>
    zlet (sI h 161 j2 x1) fun h3 =>
    (zix (gI h3 160 0) 8).bind fun j4 =>
    zlet (sI h3 162 j4 x2) fun h5 =>
    zlet (sI h5 160 0 ((gI h5 160 0) + 1)) fun h6 =>
    some h6
  else
    some h
theorem t_qLo_add {Ls : Nat} {xs : Nat → Int32} {d : Nat} {x1 : Int32} {x2 : Int32} {h : zK} {p : zK} (H : qLo_add x1 x2 h = some p) : zEv (zXs Ls xs) (d + 1) zm_39 (0, [some (.ref 160), some (.int x1), some (.int x2)], [], zhp h) (none, zhp p) := by
  unfold qLo_add at H
  refine zEv_k 1 (f' := (1, [some (.ref 160), some (.int x1), some (.int x2)], [.ref 160], zhp h)) rfl ?_
  refine zEv_c (fun _ => rfl) rfl (t_qLo_isFull (h := h) (d := d) rfl) rfl rfl ?_
  refine zEv_k 1 (f' := (if (qLo_isFull h) = 0 then 8 else 7, [some (.ref 160), some (.int x1), some (.int x2)], [], zhp h)) rfl (zEv_if (fun c1 => ?_) (fun c1 => ?_))
  · replace H := zif_t c1 H
    refine zEv_k 1 (f' := (9, [some (.ref 160), some (.int x1), some (.int x2)], [.ref 160], zhp h)) rfl ?_
    refine zRgr rfl rfl rfl (by decide) (b := 161) rfl ?_
    refine zEv_k 3 (f' := (17, [some (.ref 160), some (.int x1), some (.int x2)], [.int x1, .int (gI h 160 0), .ref 161], zhp h)) rfl ?_
    obtain ⟨j2, hj2, H⟩ := zbs H
    obtain ⟨h3, eh3, H⟩ := zlets H
    refine zRis rfl rfl (by decide) hj2 eh3 ?_
    refine zEv_k 1 (f' := (19, [some (.ref 160), some (.int x1), some (.int x2)], [.ref 160], zhp h3)) rfl ?_
    refine zRgr rfl rfl rfl (by decide) (b := 162) rfl ?_
    refine zEv_k 3 (f' := (27, [some (.ref 160), some (.int x1), some (.int x2)], [.int x2, .int (gI h3 160 0), .ref 162], zhp h3)) rfl ?_
    obtain ⟨j4, hj4, H⟩ := zbs H
    obtain ⟨h5, eh5, H⟩ := zlets H
    refine zRis rfl rfl (by decide) hj4 eh5 ?_
    obtain ⟨h6, eh6, H⟩ := zlets H
    refine zEv_w (F := fun z => (38, [some (.ref 160), some (.int x1), some (.int x2)], [], zhp z)) (h0 := sI h5 160 0 ((gI h5 160 0) + 1)) 6 rfl eh6 ?_
    cases H
    exact zEv_r rfl
  · replace H := zif_f c1 H
    cases H
    exact zEv_r rfl
def qOr_worthOrNumber (x1 : Int32) (h : zK) : Option (Int32) :=
  if ¬ x1 = (-1) then
    if x1 < 0 then
      some (-1)
    else
      if (gI h 192 3) ≤ x1 then
        some (-1)
      else
        (zix x1 10).bind fun j4 =>
        some (gI h 193 j4)
  else
    some (gI h 192 0)
theorem t_qOr_worthOrNumber {Ls : Nat} {xs : Nat → Int32} {d : Nat} {x1 : Int32} {h : zK} {p : Int32} (H : qOr_worthOrNumber x1 h = some p) : zEv (zXs Ls xs) d zm_41 (0, [some (.ref 192), some (.int x1)], [], zhp h) (some (.int p), zhp h) := by
  unfold qOr_worthOrNumber at H
  refine zEv_k 3 (f' := (if ¬ x1 = (-1) then 10 else 5, [some (.ref 192), some (.int x1)], [], zhp h)) rfl (zEv_if (fun c1 => ?_) (fun c1 => ?_))
  · replace H := zif_t c1 H
    refine zEv_k 2 (f' := (if x1 < 0 then 31 else 14, [some (.ref 192), some (.int x1)], [], zhp h)) rfl (zEv_if (fun c2 => ?_) (fun c2 => ?_))
    · replace H := zif_t c2 H
      refine zEv_k 1 (f' := (32, [some (.ref 192), some (.int x1)], [.int (-1)], zhp h)) rfl ?_
      cases H
      exact zEv_r rfl
    · replace H := zif_f c2 H
      refine zEv_k 4 (f' := (if (gI h 192 3) ≤ x1 then 31 else 22, [some (.ref 192), some (.int x1)], [], zhp h)) rfl (zEv_if (fun c3 => ?_) (fun c3 => ?_))
      · replace H := zif_t c3 H
        refine zEv_k 1 (f' := (32, [some (.ref 192), some (.int x1)], [.int (-1)], zhp h)) rfl ?_
        cases H
        exact zEv_r rfl
      · replace H := zif_f c3 H
        refine zEv_k 1 (f' := (23, [some (.ref 192), some (.int x1)], [.ref 192], zhp h)) rfl ?_
        refine zRgr rfl rfl rfl (by decide) (b := 193) rfl ?_
        refine zEv_k 1 (f' := (27, [some (.ref 192), some (.int x1)], [.int x1, .ref 193], zhp h)) rfl ?_
        obtain ⟨j4, hj4, H⟩ := zbs H
        refine zRia rfl rfl (by decide) hj4 ?_
        refine zEv_k 1 (f' := (32, [some (.ref 192), some (.int x1)], [.int (gI h 193 j4)], zhp h)) rfl ?_
        cases H
        exact zEv_r rfl
  · replace H := zif_f c1 H
    refine zEv_k 2 (f' := (9, [some (.ref 192), some (.int x1)], [.int (gI h 192 0)], zhp h)) rfl ?_
    cases H
    exact zEv_r rfl
def qOr_with (x0 : Int32) (x1 : Int32) : Int32 :=
  if ¬ x1 = 7 then
    x0 ||| ((1 : Int32) <<< (x1 &&& 31))
  else
    x0
theorem t_qOr_with {Ls : Nat} {xs : Nat → Int32} {d : Nat} {x0 : Int32} {x1 : Int32} {h : zK} {p : Int32} (H : qOr_with x0 x1 = p) : zEv (zXs Ls xs) d zm_43 (0, [some (.int x0), some (.int x1)], [], zhp h) (some (.int p), zhp h) := by
  unfold qOr_with at H
  refine zEv_k 3 (f' := (if ¬ x1 = 7 then 10 else 6, [some (.int x0), some (.int x1)], [], zhp h)) rfl (zEv_if (fun c1 => ?_) (fun c1 => ?_))
  · replace H := zif_t c1 H
    refine zEv_k 5 (f' := (15, [some (.int x0), some (.int x1)], [.int (x0 ||| ((1 : Int32) <<< (x1 &&& 31)))], zhp h)) rfl ?_
    cases H
    exact zEv_r rfl
  · replace H := zif_f c1 H
    refine zEv_k 2 (f' := (15, [some (.int x0), some (.int x1)], [.int x0], zhp h)) rfl ?_
    cases H
    exact zEv_r rfl
def qOr_worthFrom (oc : Nat) (x2 : Int32) (x3 : Int32) (x4 : Int32) (h : zK) : Option (Int32) :=
  Option.bind (
      if ¬ x4 = 7 then
        (qCe_witIn oc x4 x2 h).bind fun p3 =>
        some p3
      else
        some 0
    ) fun (v2 : Int32) =>
  (zix (((x2 + 1) * 128) + (qOr_with x3 x4)) 1408).bind fun j4 =>
  some (v2 + (gI h 194 j4))
theorem t_qOr_worthFrom {Ls : Nat} {xs : Nat → Int32} {d : Nat} {oc : Nat} {x2 : Int32} {x3 : Int32} {x4 : Int32} {h : zK} {p : Int32} (ho : oc = 7 ∨ oc = 22) (H : qOr_worthFrom oc x2 x3 x4 h = some p) : zEv (zXs Ls xs) (d + 1) zm_44 (0, [some (.ref 192), some (.ref oc), some (.int x2), some (.int x3), some (.int x4), none], [], zhp h) (some (.int p), zhp h) := by
  unfold qOr_worthFrom at H
  rcases ho with rfl | rfl
  · obtain ⟨v2, hv2, H⟩ := zbs H
    have kv2 : zEv (zXs Ls xs) (d + 1) zm_44 (18, [some (.ref 192), some (.ref 7), some (.int x2), some (.int x3), some (.int x4), none], [.int v2], zhp h) (some (.int p), zhp h) := by
      refine zEv_k 3 (f' := (23, [some (.ref 192), some (.ref 7), some (.int x2), some (.int x3), some (.int x4), some (.int v2)], [.ref 192, .int v2], zhp h)) rfl ?_
      refine zRgr rfl rfl rfl (by decide) (b := 194) rfl ?_
      refine zEv_k 7 (f' := (36, [some (.ref 192), some (.ref 7), some (.int x2), some (.int x3), some (.int x4), some (.int v2)], [.int x4, .int x3, .int ((x2 + 1) * 128), .ref 194, .int v2], zhp h)) rfl ?_
      refine zEv_c (fun _ => rfl) rfl (t_qOr_with (x0 := x3) (x1 := x4) (h := h) (d := d) rfl) rfl rfl ?_
      refine zEv_k 1 (f' := (40, [some (.ref 192), some (.ref 7), some (.int x2), some (.int x3), some (.int x4), some (.int v2)], [.int (((x2 + 1) * 128) + (qOr_with x3 x4)), .ref 194, .int v2], zhp h)) rfl ?_
      obtain ⟨j4, hj4, H⟩ := zbs H
      refine zRia rfl rfl (by decide) hj4 ?_
      refine zEv_k 1 (f' := (42, [some (.ref 192), some (.ref 7), some (.int x2), some (.int x3), some (.int x4), some (.int v2)], [.int (v2 + (gI h 194 j4))], zhp h)) rfl ?_
      cases H
      exact zEv_r rfl
    clear H
    refine zEv_k 3 (f' := (if ¬ x4 = 7 then 11 else 7, [some (.ref 192), some (.ref 7), some (.int x2), some (.int x3), some (.int x4), none], [], zhp h)) rfl (zEv_if (fun c1 => ?_) (fun c1 => ?_))
    · replace hv2 := zif_t c1 hv2
      refine zEv_k 3 (f' := (15, [some (.ref 192), some (.ref 7), some (.int x2), some (.int x3), some (.int x4), none], [.int x2, .int x4, .ref 7], zhp h)) rfl ?_
      obtain ⟨p3, hp3, hv2⟩ := zbs hv2
      refine zEv_c (fun _ => rfl) rfl (t_qCe_witIn (oo := 7) (x1 := x4) (x2 := x2) (h := h) (d := d) (by decide) hp3) rfl rfl ?_
      cases hv2
      exact kv2
    · replace hv2 := zif_f c1 hv2
      refine zEv_k 2 (f' := (18, [some (.ref 192), some (.ref 7), some (.int x2), some (.int x3), some (.int x4), none], [.int 0], zhp h)) rfl ?_
      cases hv2
      exact kv2
  · obtain ⟨v2, hv2, H⟩ := zbs H
    have kv2 : zEv (zXs Ls xs) (d + 1) zm_44 (18, [some (.ref 192), some (.ref 22), some (.int x2), some (.int x3), some (.int x4), none], [.int v2], zhp h) (some (.int p), zhp h) := by
      refine zEv_k 3 (f' := (23, [some (.ref 192), some (.ref 22), some (.int x2), some (.int x3), some (.int x4), some (.int v2)], [.ref 192, .int v2], zhp h)) rfl ?_
      refine zRgr rfl rfl rfl (by decide) (b := 194) rfl ?_
      refine zEv_k 7 (f' := (36, [some (.ref 192), some (.ref 22), some (.int x2), some (.int x3), some (.int x4), some (.int v2)], [.int x4, .int x3, .int ((x2 + 1) * 128), .ref 194, .int v2], zhp h)) rfl ?_
      refine zEv_c (fun _ => rfl) rfl (t_qOr_with (x0 := x3) (x1 := x4) (h := h) (d := d) rfl) rfl rfl ?_
      refine zEv_k 1 (f' := (40, [some (.ref 192), some (.ref 22), some (.int x2), some (.int x3), some (.int x4), some (.int v2)], [.int (((x2 + 1) * 128) + (qOr_with x3 x4)), .ref 194, .int v2], zhp h)) rfl ?_
      obtain ⟨j4, hj4, H⟩ := zbs H
      refine zRia rfl rfl (by decide) hj4 ?_
      refine zEv_k 1 (f' := (42, [some (.ref 192), some (.ref 22), some (.int x2), some (.int x3), some (.int x4), some (.int v2)], [.int (v2 + (gI h 194 j4))], zhp h)) rfl ?_
      cases H
      exact zEv_r rfl
    clear H
    refine zEv_k 3 (f' := (if ¬ x4 = 7 then 11 else 7, [some (.ref 192), some (.ref 22), some (.int x2), some (.int x3), some (.int x4), none], [], zhp h)) rfl (zEv_if (fun c1 => ?_) (fun c1 => ?_))
    · replace hv2 := zif_t c1 hv2
      refine zEv_k 3 (f' := (15, [some (.ref 192), some (.ref 22), some (.int x2), some (.int x3), some (.int x4), none], [.int x2, .int x4, .ref 22], zhp h)) rfl ?_
      obtain ⟨p3, hp3, hv2⟩ := zbs hv2
      refine zEv_c (fun _ => rfl) rfl (t_qCe_witIn (oo := 22) (x1 := x4) (x2 := x2) (h := h) (d := d) (by decide) hp3) rfl rfl ?_
      cases hv2
      exact kv2
    · replace hv2 := zif_f c1 hv2
      refine zEv_k 2 (f' := (18, [some (.ref 192), some (.ref 22), some (.int x2), some (.int x3), some (.int x4), none], [.int 0], zhp h)) rfl ?_
      cases hv2
      exact kv2
def qOr_bestOf_b23 (oc : Nat) (x2 : Int32) (x3 : Int32) (h : zK) (s : Int32 × Int32 × Int32) : Option ((Int32 × Int32 × Int32) ⊕ (Int32)) :=
  if s.2.2 < 0 then
    some (.inr s.1)
  else
    Option.bind (
        if ¬ (zf_cin x3 s.2.2) = 0 then
          some (s.1, s.2.1)
        else
          (zix s.2.2 7).bind fun j5 =>
          if (gI h 195 j5) ≤ x2 then
            some (s.1, s.2.1)
          else
            (qOr_worthFrom oc x2 x3 s.2.2 h).bind fun p7 =>
            if p7 < s.2.1 then
              some (s.1, s.2.1)
            else
              (qOr_worthFrom oc x2 x3 s.2.2 h).bind fun p9 =>
              some (s.2.2, p9)
      ) fun (v4 : Int32 × Int32) =>
    some (.inl (v4.1, v4.2, s.2.2 + (-1)))
theorem t_qOr_bestOf_b23b {Ls : Nat} {xs : Nat → Int32} {d : Nat} {oc : Nat} {x2 : Int32} {x3 : Int32} {h : zK} {r : zA} {s : Int32 × Int32 × Int32} {e : (Int32 × Int32 × Int32) ⊕ (Int32)} (ho : oc = 7 ∨ oc = 22) (H : qOr_bestOf_b23 oc x2 x3 h s = some e) (K : match (generalizing := false) e with | .inl s' => zEv (zXs Ls xs) (d + 2) zm_45 (23, [some (.ref 192), some (.ref oc), some (.int x2), some (.int x3), some (.int s'.1), some (.int s'.2.1), some (.int s'.2.2)], [], zhp h) r | .inr v => ∀ (z5 : Option Value) (z6 : Option Value), zEv (zXs Ls xs) (d + 2) zm_45 (83, [some (.ref 192), some (.ref oc), some (.int x2), some (.int x3), some (.int v), z5, z6], [], zhp h) r) : zEv (zXs Ls xs) (d + 2) zm_45 (23, [some (.ref 192), some (.ref oc), some (.int x2), some (.int x3), some (.int s.1), some (.int s.2.1), some (.int s.2.2)], [], zhp h) r := by
  unfold qOr_bestOf_b23 at H
  rcases ho with rfl | rfl
  · refine zEv_k 2 (f' := (if s.2.2 < 0 then 83 else 28, [some (.ref 192), some (.ref 7), some (.int x2), some (.int x3), some (.int s.1), some (.int s.2.1), some (.int s.2.2)], [], zhp h)) rfl (zEv_if (fun c2 => ?_) (fun c2 => ?_))
    · replace H := zif_t c2 H
      cases H
      exact K _ _
    · replace H := zif_f c2 H
      obtain ⟨v4, hv4, H⟩ := zbs H
      have kv4 : zEv (zXs Ls xs) (d + 2) zm_45 (77, [some (.ref 192), some (.ref 7), some (.int x2), some (.int x3), some (.int v4.1), some (.int v4.2), some (.int s.2.2)], [], zhp h) r := by
        refine zEv_k 2 (f' := (23, [some (.ref 192), some (.ref 7), some (.int x2), some (.int x3), some (.int v4.1), some (.int v4.2), some (.int (s.2.2 + (-1)))], [], zhp h)) rfl ?_
        cases H
        exact K
      clear H
      refine zEv_k 2 (f' := (31, [some (.ref 192), some (.ref 7), some (.int x2), some (.int x3), some (.int s.1), some (.int s.2.1), some (.int s.2.2)], [.int s.2.2, .int x3], zhp h)) rfl ?_
      refine zEv_c (fun _ => rfl) rfl ev_zf_cin rfl rfl ?_
      refine zEv_k 1 (f' := (if ¬ (zf_cin x3 s.2.2) = 0 then 77 else 37, [some (.ref 192), some (.ref 7), some (.int x2), some (.int x3), some (.int s.1), some (.int s.2.1), some (.int s.2.2)], [], zhp h)) rfl (zEv_if (fun c3 => ?_) (fun c3 => ?_))
      · replace hv4 := zif_t c3 hv4
        cases hv4
        exact kv4
      · replace hv4 := zif_f c3 hv4
        refine zEv_k 1 (f' := (38, [some (.ref 192), some (.ref 7), some (.int x2), some (.int x3), some (.int s.1), some (.int s.2.1), some (.int s.2.2)], [.ref 192], zhp h)) rfl ?_
        refine zRgr rfl rfl rfl (by decide) (b := 195) rfl ?_
        refine zEv_k 1 (f' := (43, [some (.ref 192), some (.ref 7), some (.int x2), some (.int x3), some (.int s.1), some (.int s.2.1), some (.int s.2.2)], [.int s.2.2, .ref 195], zhp h)) rfl ?_
        obtain ⟨j5, hj5, hv4⟩ := zbs hv4
        refine zRia rfl rfl (by decide) hj5 ?_
        refine zEv_k 2 (f' := (if (gI h 195 j5) ≤ x2 then 77 else 48, [some (.ref 192), some (.ref 7), some (.int x2), some (.int x3), some (.int s.1), some (.int s.2.1), some (.int s.2.2)], [], zhp h)) rfl (zEv_if (fun c6 => ?_) (fun c6 => ?_))
        · replace hv4 := zif_t c6 hv4
          cases hv4
          exact kv4
        · replace hv4 := zif_f c6 hv4
          refine zEv_k 5 (f' := (54, [some (.ref 192), some (.ref 7), some (.int x2), some (.int x3), some (.int s.1), some (.int s.2.1), some (.int s.2.2)], [.int s.2.2, .int x3, .int x2, .ref 7, .ref 192], zhp h)) rfl ?_
          obtain ⟨p7, hp7, hv4⟩ := zbs hv4
          refine zEv_c (fun _ => rfl) rfl (t_qOr_worthFrom (oc := 7) (x2 := x2) (x3 := x3) (x4 := s.2.2) (h := h) (d := d) (by decide) hp7) rfl rfl ?_
          refine zEv_k 2 (f' := (if p7 < s.2.1 then 77 else 62, [some (.ref 192), some (.ref 7), some (.int x2), some (.int x3), some (.int s.1), some (.int s.2.1), some (.int s.2.2)], [], zhp h)) rfl (zEv_if (fun c8 => ?_) (fun c8 => ?_))
          · replace hv4 := zif_t c8 hv4
            cases hv4
            exact kv4
          · replace hv4 := zif_f c8 hv4
            refine zEv_k 5 (f' := (68, [some (.ref 192), some (.ref 7), some (.int x2), some (.int x3), some (.int s.1), some (.int s.2.1), some (.int s.2.2)], [.int s.2.2, .int x3, .int x2, .ref 7, .ref 192], zhp h)) rfl ?_
            obtain ⟨p9, hp9, hv4⟩ := zbs hv4
            refine zEv_c (fun _ => rfl) rfl (t_qOr_worthFrom (oc := 7) (x2 := x2) (x3 := x3) (x4 := s.2.2) (h := h) (d := d) (by decide) hp9) rfl rfl ?_
            refine zEv_k 3 (f' := (77, [some (.ref 192), some (.ref 7), some (.int x2), some (.int x3), some (.int s.2.2), some (.int p9), some (.int s.2.2)], [], zhp h)) rfl ?_
            cases hv4
            exact kv4
  · refine zEv_k 2 (f' := (if s.2.2 < 0 then 83 else 28, [some (.ref 192), some (.ref 22), some (.int x2), some (.int x3), some (.int s.1), some (.int s.2.1), some (.int s.2.2)], [], zhp h)) rfl (zEv_if (fun c2 => ?_) (fun c2 => ?_))
    · replace H := zif_t c2 H
      cases H
      exact K _ _
    · replace H := zif_f c2 H
      obtain ⟨v4, hv4, H⟩ := zbs H
      have kv4 : zEv (zXs Ls xs) (d + 2) zm_45 (77, [some (.ref 192), some (.ref 22), some (.int x2), some (.int x3), some (.int v4.1), some (.int v4.2), some (.int s.2.2)], [], zhp h) r := by
        refine zEv_k 2 (f' := (23, [some (.ref 192), some (.ref 22), some (.int x2), some (.int x3), some (.int v4.1), some (.int v4.2), some (.int (s.2.2 + (-1)))], [], zhp h)) rfl ?_
        cases H
        exact K
      clear H
      refine zEv_k 2 (f' := (31, [some (.ref 192), some (.ref 22), some (.int x2), some (.int x3), some (.int s.1), some (.int s.2.1), some (.int s.2.2)], [.int s.2.2, .int x3], zhp h)) rfl ?_
      refine zEv_c (fun _ => rfl) rfl ev_zf_cin rfl rfl ?_
      refine zEv_k 1 (f' := (if ¬ (zf_cin x3 s.2.2) = 0 then 77 else 37, [some (.ref 192), some (.ref 22), some (.int x2), some (.int x3), some (.int s.1), some (.int s.2.1), some (.int s.2.2)], [], zhp h)) rfl (zEv_if (fun c3 => ?_) (fun c3 => ?_))
      · replace hv4 := zif_t c3 hv4
        cases hv4
        exact kv4
      · replace hv4 := zif_f c3 hv4
        refine zEv_k 1 (f' := (38, [some (.ref 192), some (.ref 22), some (.int x2), some (.int x3), some (.int s.1), some (.int s.2.1), some (.int s.2.2)], [.ref 192], zhp h)) rfl ?_
        refine zRgr rfl rfl rfl (by decide) (b := 195) rfl ?_
        refine zEv_k 1 (f' := (43, [some (.ref 192), some (.ref 22), some (.int x2), some (.int x3), some (.int s.1), some (.int s.2.1), some (.int s.2.2)], [.int s.2.2, .ref 195], zhp h)) rfl ?_
        obtain ⟨j5, hj5, hv4⟩ := zbs hv4
        refine zRia rfl rfl (by decide) hj5 ?_
        refine zEv_k 2 (f' := (if (gI h 195 j5) ≤ x2 then 77 else 48, [some (.ref 192), some (.ref 22), some (.int x2), some (.int x3), some (.int s.1), some (.int s.2.1), some (.int s.2.2)], [], zhp h)) rfl (zEv_if (fun c6 => ?_) (fun c6 => ?_))
        · replace hv4 := zif_t c6 hv4
          cases hv4
          exact kv4
        · replace hv4 := zif_f c6 hv4
          refine zEv_k 5 (f' := (54, [some (.ref 192), some (.ref 22), some (.int x2), some (.int x3), some (.int s.1), some (.int s.2.1), some (.int s.2.2)], [.int s.2.2, .int x3, .int x2, .ref 22, .ref 192], zhp h)) rfl ?_
          obtain ⟨p7, hp7, hv4⟩ := zbs hv4
          refine zEv_c (fun _ => rfl) rfl (t_qOr_worthFrom (oc := 22) (x2 := x2) (x3 := x3) (x4 := s.2.2) (h := h) (d := d) (by decide) hp7) rfl rfl ?_
          refine zEv_k 2 (f' := (if p7 < s.2.1 then 77 else 62, [some (.ref 192), some (.ref 22), some (.int x2), some (.int x3), some (.int s.1), some (.int s.2.1), some (.int s.2.2)], [], zhp h)) rfl (zEv_if (fun c8 => ?_) (fun c8 => ?_))
          · replace hv4 := zif_t c8 hv4
            cases hv4
            exact kv4
          · replace hv4 := zif_f c8 hv4
            refine zEv_k 5 (f' := (68, [some (.ref 192), some (.ref 22), some (.int x2), some (.int x3), some (.int s.1), some (.int s.2.1), some (.int s.2.2)], [.int s.2.2, .int x3, .int x2, .ref 22, .ref 192], zhp h)) rfl ?_
            obtain ⟨p9, hp9, hv4⟩ := zbs hv4
            refine zEv_c (fun _ => rfl) rfl (t_qOr_worthFrom (oc := 22) (x2 := x2) (x3 := x3) (x4 := s.2.2) (h := h) (d := d) (by decide) hp9) rfl rfl ?_
            refine zEv_k 3 (f' := (77, [some (.ref 192), some (.ref 22), some (.int x2), some (.int x3), some (.int s.2.2), some (.int p9), some (.int s.2.2)], [], zhp h)) rfl ?_
            cases hv4
            exact kv4
theorem t_qOr_bestOf_b23 {Ls : Nat} {xs : Nat → Int32} {d : Nat} {oc : Nat} {x2 : Int32} {x3 : Int32} {h : zK} {r : zA} (ho : oc = 7 ∨ oc = 22) {t : Int32} (K : ∀ (z5 : Option Value) (z6 : Option Value), zEv (zXs Ls xs) (d + 2) zm_45 (83, [some (.ref 192), some (.ref oc), some (.int x2), some (.int x3), some (.int t), z5, z6], [], zhp h) r) (n : Nat) (s : Int32 × Int32 × Int32) (H : zloop (qOr_bestOf_b23 oc x2 x3 h) n s = some t) : zEv (zXs Ls xs) (d + 2) zm_45 (23, [some (.ref 192), some (.ref oc), some (.int x2), some (.int x3), some (.int s.1), some (.int s.2.1), some (.int s.2.2)], [], zhp h) r := by
  have Z := zloop_P (P := fun s => zEv (zXs Ls xs) (d + 2) zm_45 (23, [some (.ref 192), some (.ref oc), some (.int x2), some (.int x3), some (.int s.1), some (.int s.2.1), some (.int s.2.2)], [], zhp h) r) (b := qOr_bestOf_b23 oc x2 x3 h) (t := t) (fun s s2 hb hk => by exact t_qOr_bestOf_b23b ho hb hk) (fun s hb => by exact t_qOr_bestOf_b23b ho hb K) n s H
  exact Z
def qOr_bestOf (oc : Nat) (x2 : Int32) (x3 : Int32) (h : zK) : Option (Int32) :=
  (qOr_worthFrom oc x2 x3 7 h).bind fun p1 =>
  (zloop (qOr_bestOf_b23 oc x2 x3 h) zfu (7, p1, (gI h oc 2) - 1)).bind fun t10 =>
  some t10
theorem t_qOr_bestOf {Ls : Nat} {xs : Nat → Int32} {d : Nat} {oc : Nat} {x2 : Int32} {x3 : Int32} {h : zK} {p : Int32} (ho : oc = 7 ∨ oc = 22) (H : qOr_bestOf oc x2 x3 h = some p) : zEv (zXs Ls xs) (d + 2) zm_45 (0, [some (.ref 192), some (.ref oc), some (.int x2), some (.int x3), none, none, none], [], zhp h) (some (.int p), zhp h) := by
  unfold qOr_bestOf at H
  rcases ho with rfl | rfl
  · refine zEv_k 7 (f' := (10, [some (.ref 192), some (.ref 7), some (.int x2), some (.int x3), some (.int 7), none, none], [.int 7, .int x3, .int x2, .ref 7, .ref 192], zhp h)) rfl ?_
    obtain ⟨p1, hp1, H⟩ := zbs H
    refine zEv_c (fun _ => rfl) rfl (t_qOr_worthFrom (oc := 7) (x2 := x2) (x3 := x3) (x4 := 7) (h := h) (d := d) (by decide) hp1) rfl rfl ?_
    refine zEv_k 6 (f' := (23, [some (.ref 192), some (.ref 7), some (.int x2), some (.int x3), some (.int 7), some (.int p1), some (.int ((gI h 7 2) - 1))], [], zhp h)) rfl ?_
    obtain ⟨t10, ht10, H⟩ := zbs H
    refine t_qOr_bestOf_b23 (oc := 7) (x2 := x2) (x3 := x3) (h := h) (by decide) ?_ zfu _ ht10
    intro y5 y6
    refine zEv_k 1 (f' := (85, [some (.ref 192), some (.ref 7), some (.int x2), some (.int x3), some (.int t10), y5, y6], [.int t10], zhp h)) rfl ?_
    cases H
    exact zEv_r rfl
  · refine zEv_k 7 (f' := (10, [some (.ref 192), some (.ref 22), some (.int x2), some (.int x3), some (.int 7), none, none], [.int 7, .int x3, .int x2, .ref 22, .ref 192], zhp h)) rfl ?_
    obtain ⟨p1, hp1, H⟩ := zbs H
    refine zEv_c (fun _ => rfl) rfl (t_qOr_worthFrom (oc := 22) (x2 := x2) (x3 := x3) (x4 := 7) (h := h) (d := d) (by decide) hp1) rfl rfl ?_
    refine zEv_k 6 (f' := (23, [some (.ref 192), some (.ref 22), some (.int x2), some (.int x3), some (.int 7), some (.int p1), some (.int ((gI h 22 2) - 1))], [], zhp h)) rfl ?_
    obtain ⟨t10, ht10, H⟩ := zbs H
    refine t_qOr_bestOf_b23 (oc := 22) (x2 := x2) (x3 := x3) (h := h) (by decide) ?_ zfu _ ht10
    intro y5 y6
    refine zEv_k 1 (f' := (85, [some (.ref 192), some (.ref 22), some (.int x2), some (.int x3), some (.int t10), y5, y6], [.int t10], zhp h)) rfl ?_
    cases H
    exact zEv_r rfl
