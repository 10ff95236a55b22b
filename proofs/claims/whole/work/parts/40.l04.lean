def qLw_mostAlike_b2 (x1 : Int32) (s : Int32 × zK) : Option ((Int32 × zK) ⊕ (zK)) :=
  if 7 < s.1 then
    some (.inr s.2)
  else
    (zix s.1 8).bind fun j2 =>
    zlet (sI s.2 214 j2 0) fun h3 =>
    some (.inl (s.1 + 1, h3))
theorem t_qLw_mostAlike_b2b {Ls : Nat} {xs : Nat → Int32} {d : Nat} {x1 : Int32} {r : zA} {s : Int32 × zK} {e : (Int32 × zK) ⊕ (zK)} (H : qLw_mostAlike_b2 x1 s = some e) (K : match (generalizing := false) e with | .inl s' => zEv (zXs Ls xs) (d + 1) zm_26 (2, [some (.ref 196), some (.int x1), some (.int s'.1), none, none], [], zhp s'.2) r | .inr v => ∀ (z2 : Option Value), zEv (zXs Ls xs) (d + 1) zm_26 (21, [some (.ref 196), some (.int x1), z2, none, none], [], zhp v) r) : zEv (zXs Ls xs) (d + 1) zm_26 (2, [some (.ref 196), some (.int x1), some (.int s.1), none, none], [], zhp s.2) r := by
  unfold qLw_mostAlike_b2 at H
  refine zEv_k 3 (f' := (if 7 < s.1 then 21 else 8, [some (.ref 196), some (.int x1), some (.int s.1), none, none], [], zhp s.2)) rfl (zEv_if (fun c1 => ?_) (fun c1 => ?_))
  · replace H := zif_t c1 H
    cases H
    exact K _
  · replace H := zif_f c1 H
    refine zEv_k 1 (f' := (9, [some (.ref 196), some (.int x1), some (.int s.1), none, none], [.ref 196], zhp s.2)) rfl ?_
    refine zRgr rfl rfl rfl (by decide) (b := 214) rfl ?_
    refine zEv_k 2 (f' := (14, [some (.ref 196), some (.int x1), some (.int s.1), none, none], [.int 0, .int s.1, .ref 214], zhp s.2)) rfl ?_
    obtain ⟨j2, hj2, H⟩ := zbs H
    obtain ⟨h3, eh3, H⟩ := zlets H
    refine zRis rfl rfl (by decide) hj2 eh3 ?_
    refine zEv_k 2 (f' := (2, [some (.ref 196), some (.int x1), some (.int (s.1 + 1)), none, none], [], zhp h3)) rfl ?_
    cases H
    exact K
theorem t_qLw_mostAlike_b2 {Ls : Nat} {xs : Nat → Int32} {d : Nat} {x1 : Int32} {r : zA} {t : zK} (K : ∀ (z2 : Option Value), zEv (zXs Ls xs) (d + 1) zm_26 (21, [some (.ref 196), some (.int x1), z2, none, none], [], zhp t) r) (n : Nat) (s : Int32 × zK) (H : zloop (qLw_mostAlike_b2 x1) n s = some t) : zEv (zXs Ls xs) (d + 1) zm_26 (2, [some (.ref 196), some (.int x1), some (.int s.1), none, none], [], zhp s.2) r := by
  have Z := zloop_P (P := fun s => zEv (zXs Ls xs) (d + 1) zm_26 (2, [some (.ref 196), some (.int x1), some (.int s.1), none, none], [], zhp s.2) r) (b := qLw_mostAlike_b2 x1) (t := t) (fun s s2 hb hk => by exact t_qLw_mostAlike_b2b hb hk) (fun s hb => by exact t_qLw_mostAlike_b2b hb K) n s H
  exact Z
def qLw_mostAlike_b25 (x1 : Int32) (s : Int32 × Int32 × zK) : Option ((Int32 × Int32 × zK) ⊕ (Int32 × zK)) :=
  if (gI s.2.2 196 0) ≤ s.2.1 then
    some (.inr (s.1, s.2.2))
  else
    (zix s.2.1 100).bind fun j7 =>
    (qLw_burstsBy (gI s.2.2 197 j7) x1 s.2.2).bind fun p8 =>
    (zix p8 8).bind fun j9 =>
    zlet (sI s.2.2 214 j9 ((gI s.2.2 214 j9) + 1)) fun h10 =>
    some (.inl (zf_max s.1 (gI h10 214 j9), s.2.1 + 1, h10))
theorem t_qLw_mostAlike_b25b {Ls : Nat} {xs : Nat → Int32} {d : Nat} {x1 : Int32} {r : zA} {s : Int32 × Int32 × zK} {e : (Int32 × Int32 × zK) ⊕ (Int32 × zK)} (H : qLw_mostAlike_b25 x1 s = some e) (K : match (generalizing := false) e with | .inl s' => ∀ (z4 : Option Value), zEv (zXs Ls xs) (d + 1) zm_26 (25, [some (.ref 196), some (.int x1), some (.int s'.1), some (.int s'.2.1), z4], [], zhp s'.2.2) r | .inr v => ∀ (z3 : Option Value) (z4 : Option Value), zEv (zXs Ls xs) (d + 1) zm_26 (75, [some (.ref 196), some (.int x1), some (.int v.1), z3, z4], [], zhp v.2) r) (y4 : Option Value) : zEv (zXs Ls xs) (d + 1) zm_26 (25, [some (.ref 196), some (.int x1), some (.int s.1), some (.int s.2.1), y4], [], zhp s.2.2) r := by
  unfold qLw_mostAlike_b25 at H
  refine zEv_k 4 (f' := (if (gI s.2.2 196 0) ≤ s.2.1 then 75 else 33, [some (.ref 196), some (.int x1), some (.int s.1), some (.int s.2.1), y4], [], zhp s.2.2)) rfl (zEv_if (fun c6 => ?_) (fun c6 => ?_))
  · replace H := zif_t c6 H
    cases H
    exact K _ _
  · replace H := zif_f c6 H
    refine zEv_k 2 (f' := (35, [some (.ref 196), some (.int x1), some (.int s.1), some (.int s.2.1), y4], [.ref 196, .ref 196], zhp s.2.2)) rfl ?_
    refine zRgr rfl rfl rfl (by decide) (b := 197) rfl ?_
    refine zEv_k 1 (f' := (39, [some (.ref 196), some (.int x1), some (.int s.1), some (.int s.2.1), y4], [.int s.2.1, .ref 197, .ref 196], zhp s.2.2)) rfl ?_
    obtain ⟨j7, hj7, H⟩ := zbs H
    refine zRia rfl rfl (by decide) hj7 ?_
    refine zEv_k 1 (f' := (41, [some (.ref 196), some (.int x1), some (.int s.1), some (.int s.2.1), y4], [.int x1, .int (gI s.2.2 197 j7), .ref 196], zhp s.2.2)) rfl ?_
    obtain ⟨p8, hp8, H⟩ := zbs H
    refine zEv_c (fun _ => rfl) rfl (t_qLw_burstsBy (x1 := gI s.2.2 197 j7) (x2 := x1) (h := s.2.2) (d := d) hp8) rfl rfl ?_
    refine zEv_k 2 (f' := (47, [some (.ref 196), some (.int x1), some (.int s.1), some (.int s.2.1), some (.int p8)], [.ref 196], zhp s.2.2)) rfl ?_
    refine zRgr rfl rfl rfl (by decide) (b := 214) rfl ?_
    refine zEv_k 2 (f' := (53, [some (.ref 196), some (.int x1), some (.int s.1), some (.int s.2.1), some (.int p8)], [.int p8, .ref 214, .int p8, .ref 214], zhp s.2.2)) rfl ?_
    obtain ⟨j9, hj9, H⟩ := zbs H
    refine zRia rfl rfl (by decide) hj9 ?_
    refine zEv_k 2 (f' := (56, [some (.ref 196), some (.int x1), some (.int s.1), some (.int s.2.1), some (.int p8)], [.int ((gI s.2.2 214 j9) + 1), .int p8, .ref 214], zhp s.2.2)) rfl ?_
    obtain ⟨h10, eh10, H⟩ := zlets H
    refine zRis rfl rfl (by decide) hj9 eh10 ?_
    refine zEv_k 2 (f' := (59, [some (.ref 196), some (.int x1), some (.int s.1), some (.int s.2.1), some (.int p8)], [.ref 196, .int s.1], zhp h10)) rfl ?_
    refine zRgr rfl rfl rfl (by decide) (b := 214) rfl ?_
    refine zEv_k 1 (f' := (64, [some (.ref 196), some (.int x1), some (.int s.1), some (.int s.2.1), some (.int p8)], [.int p8, .ref 214, .int s.1], zhp h10)) rfl ?_
    refine zRia rfl rfl (by decide) hj9 ?_
    refine zEv_k 4 (f' := (25, [some (.ref 196), some (.int x1), some (.int (zf_max s.1 (gI h10 214 j9))), some (.int (s.2.1 + 1)), some (.int p8)], [], zhp h10)) rfl ?_
    cases H
    exact K _
theorem t_qLw_mostAlike_b25 {Ls : Nat} {xs : Nat → Int32} {d : Nat} {x1 : Int32} {r : zA} {t : Int32 × zK} (K : ∀ (z3 : Option Value) (z4 : Option Value), zEv (zXs Ls xs) (d + 1) zm_26 (75, [some (.ref 196), some (.int x1), some (.int t.1), z3, z4], [], zhp t.2) r) (n : Nat) (s : Int32 × Int32 × zK) (H : zloop (qLw_mostAlike_b25 x1) n s = some t) (y4 : Option Value) : zEv (zXs Ls xs) (d + 1) zm_26 (25, [some (.ref 196), some (.int x1), some (.int s.1), some (.int s.2.1), y4], [], zhp s.2.2) r := by
  have Z := zloop_P (P := fun s => ∀ (y4 : Option Value), zEv (zXs Ls xs) (d + 1) zm_26 (25, [some (.ref 196), some (.int x1), some (.int s.1), some (.int s.2.1), y4], [], zhp s.2.2) r) (b := qLw_mostAlike_b25 x1) (t := t) (fun s s2 hb hk => by intro y4; exact t_qLw_mostAlike_b25b hb hk y4) (fun s hb => by intro y4; exact t_qLw_mostAlike_b25b hb K y4) n s H
  exact Z y4
def qLw_mostAlike (x1 : Int32) (h : zK) : Option (Int32 × zK) :=
  (zloop (qLw_mostAlike_b2 x1) zfu (0, h)).bind fun t4 =>
  (zloop (qLw_mostAlike_b25 x1) zfu (0, 0, t4)).bind fun t11 =>
  some (t11.1, t11.2)
theorem t_qLw_mostAlike {Ls : Nat} {xs : Nat → Int32} {d : Nat} {x1 : Int32} {h : zK} {p : Int32 × zK} (H : qLw_mostAlike x1 h = some p) : zEv (zXs Ls xs) (d + 1) zm_26 (0, [some (.ref 196), some (.int x1), none, none, none], [], zhp h) (some (.int p.1), zhp p.2) := by
  unfold qLw_mostAlike at H
  refine zEv_k 2 (f' := (2, [some (.ref 196), some (.int x1), some (.int 0), none, none], [], zhp h)) rfl ?_
  obtain ⟨t4, ht4, H⟩ := zbs H
  refine t_qLw_mostAlike_b2 (x1 := x1) ?_ zfu _ ht4
  intro y2
  refine zEv_k 4 (f' := (25, [some (.ref 196), some (.int x1), some (.int 0), some (.int 0), none], [], zhp t4)) rfl ?_
  obtain ⟨t11, ht11, H⟩ := zbs H
  refine t_qLw_mostAlike_b25 (x1 := x1) ?_ zfu _ ht11 _
  intro y3 y4
  refine zEv_k 1 (f' := (76, [some (.ref 196), some (.int x1), some (.int t11.1), y3, y4], [.int t11.1], zhp t11.2)) rfl ?_
  cases H
  exact zEv_r rfl
def qLw_yearToAsk_b7 (s : Int32 × Int32 × Int32 × zK) : Option ((Int32 × Int32 × Int32 × zK) ⊕ (Int32 × zK)) :=
  if (gI s.2.2.2 196 0) ≤ 0 then
    some (.inr (s.2.1, s.2.2.2))
  else
    if 20 < s.2.2.1 then
      some (.inr (s.2.1, s.2.2.2))
    else
      (qLw_mostAlike s.2.2.1 s.2.2.2).bind fun p3 =>
      zlet (
          if s.1 ≤ p3.1 then
            (s.1, s.2.1)
          else
            (p3.1, s.2.2.1)
        ) fun (v5 : Int32 × Int32) =>
      some (.inl (v5.1, v5.2, s.2.2.1 + 1, p3.2))
theorem t_qLw_yearToAsk_b7b {Ls : Nat} {xs : Nat → Int32} {d : Nat} {r : zA} {s : Int32 × Int32 × Int32 × zK} {e : (Int32 × Int32 × Int32 × zK) ⊕ (Int32 × zK)} (H : qLw_yearToAsk_b7 s = some e) (K : match (generalizing := false) e with | .inl s' => ∀ (z4 : Option Value), zEv (zXs Ls xs) (d + 2) zm_25 (7, [some (.ref 196), some (.int s'.1), some (.int s'.2.1), some (.int s'.2.2.1), z4], [], zhp s'.2.2.2) r | .inr v => ∀ (z1 : Option Value) (z3 : Option Value) (z4 : Option Value), zEv (zXs Ls xs) (d + 2) zm_25 (44, [some (.ref 196), z1, some (.int v.1), z3, z4], [], zhp v.2) r) (y4 : Option Value) : zEv (zXs Ls xs) (d + 2) zm_25 (7, [some (.ref 196), some (.int s.1), some (.int s.2.1), some (.int s.2.2.1), y4], [], zhp s.2.2.2) r := by
  unfold qLw_yearToAsk_b7 at H
  refine zEv_k 3 (f' := (if (gI s.2.2.2 196 0) ≤ 0 then 44 else 14, [some (.ref 196), some (.int s.1), some (.int s.2.1), some (.int s.2.2.1), y4], [], zhp s.2.2.2)) rfl (zEv_if (fun c1 => ?_) (fun c1 => ?_))
  · replace H := zif_t c1 H
    cases H
    exact K _ _ _
  · replace H := zif_f c1 H
    refine zEv_k 3 (f' := (if 20 < s.2.2.1 then 44 else 20, [some (.ref 196), some (.int s.1), some (.int s.2.1), some (.int s.2.2.1), y4], [], zhp s.2.2.2)) rfl (zEv_if (fun c2 => ?_) (fun c2 => ?_))
    · replace H := zif_t c2 H
      cases H
      exact K _ _ _
    · replace H := zif_f c2 H
      refine zEv_k 2 (f' := (22, [some (.ref 196), some (.int s.1), some (.int s.2.1), some (.int s.2.2.1), y4], [.int s.2.2.1, .ref 196], zhp s.2.2.2)) rfl ?_
      obtain ⟨p3, hp3, H⟩ := zbs H
      refine zEv_c (fun _ => rfl) rfl (t_qLw_mostAlike (x1 := s.2.2.1) (h := s.2.2.2) (d := d) hp3) rfl rfl ?_
      obtain ⟨v5, hv5, H⟩ := zlets H
      have kv5 : zEv (zXs Ls xs) (d + 2) zm_25 (38, [some (.ref 196), some (.int v5.1), some (.int v5.2), some (.int s.2.2.1), some (.int p3.1)], [], zhp p3.2) r := by
        refine zEv_k 2 (f' := (7, [some (.ref 196), some (.int v5.1), some (.int v5.2), some (.int (s.2.2.1 + 1)), some (.int p3.1)], [], zhp p3.2)) rfl ?_
        cases H
        exact K _
      clear H
      refine zEv_k 4 (f' := (if s.1 ≤ p3.1 then 38 else 33, [some (.ref 196), some (.int s.1), some (.int s.2.1), some (.int s.2.2.1), some (.int p3.1)], [], zhp p3.2)) rfl (zEv_if (fun c4 => ?_) (fun c4 => ?_))
      · replace hv5 := zif_t c4 hv5
        cases hv5
        exact kv5
      · replace hv5 := zif_f c4 hv5
        refine zEv_k 4 (f' := (38, [some (.ref 196), some (.int p3.1), some (.int s.2.2.1), some (.int s.2.2.1), some (.int p3.1)], [], zhp p3.2)) rfl ?_
        cases hv5
        exact kv5
theorem t_qLw_yearToAsk_b7 {Ls : Nat} {xs : Nat → Int32} {d : Nat} {r : zA} {t : Int32 × zK} (K : ∀ (z1 : Option Value) (z3 : Option Value) (z4 : Option Value), zEv (zXs Ls xs) (d + 2) zm_25 (44, [some (.ref 196), z1, some (.int t.1), z3, z4], [], zhp t.2) r) (n : Nat) (s : Int32 × Int32 × Int32 × zK) (H : zloop (qLw_yearToAsk_b7) n s = some t) (y4 : Option Value) : zEv (zXs Ls xs) (d + 2) zm_25 (7, [some (.ref 196), some (.int s.1), some (.int s.2.1), some (.int s.2.2.1), y4], [], zhp s.2.2.2) r := by
  have Z := zloop_P (P := fun s => ∀ (y4 : Option Value), zEv (zXs Ls xs) (d + 2) zm_25 (7, [some (.ref 196), some (.int s.1), some (.int s.2.1), some (.int s.2.2.1), y4], [], zhp s.2.2.2) r) (b := qLw_yearToAsk_b7) (t := t) (fun s s2 hb hk => by intro y4; exact t_qLw_yearToAsk_b7b hb hk y4) (fun s hb => by intro y4; exact t_qLw_yearToAsk_b7b hb K y4) n s H
  exact Z y4
def qLw_yearToAsk (h : zK) : Option (Int32 × zK) :=
  (zloop (qLw_yearToAsk_b7) zfu (101, -1, 1, h)).bind fun t6 =>
  some (t6.1, t6.2)
theorem t_qLw_yearToAsk {Ls : Nat} {xs : Nat → Int32} {d : Nat} {h : zK} {p : Int32 × zK} (H : qLw_yearToAsk h = some p) : zEv (zXs Ls xs) (d + 2) zm_25 (0, [some (.ref 196), none, none, none, none], [], zhp h) (some (.int p.1), zhp p.2) := by
  unfold qLw_yearToAsk at H
  refine zEv_k 6 (f' := (7, [some (.ref 196), some (.int 101), some (.int (-1)), some (.int 1), none], [], zhp h)) rfl ?_
  obtain ⟨t6, ht6, H⟩ := zbs H
  refine t_qLw_yearToAsk_b7 ?_ zfu _ ht6 _
  intro y1 y3 y4
  refine zEv_k 1 (f' := (45, [some (.ref 196), y1, some (.int t6.1), y3, y4], [.int t6.1], zhp t6.2)) rfl ?_
  cases H
  exact zEv_r rfl
def qLa_forget (h : zK) : Option (zK) :=
  zlet (sI h 184 8 (-1)) fun h1 =>
  some h1
theorem t_qLa_forget {Ls : Nat} {xs : Nat → Int32} {d : Nat} {h : zK} {p : zK} (H : qLa_forget h = some p) : zEv (zXs Ls xs) d zm_28 (0, [some (.ref 184)], [], zhp h) (none, zhp p) := by
  unfold qLa_forget at H
  obtain ⟨h1, eh1, H⟩ := zlets H
  refine zEv_w (F := fun z => (5, [some (.ref 184)], [], zhp z)) (h0 := sI h 184 8 (-1)) 3 rfl eh1 ?_
  cases H
  exact zEv_r rfl
def qTr_needOf (oc : Nat) (x1 : Int32) (h : zK) : Option (Int32) :=
  (zix x1 7).bind fun j1 =>
  if (gI h (oc + 3) j1) ≤ (gI h (oc + 5) j1) then
    if (gI h oc 0) ≤ 0 then
      some 7
    else
      if ¬ (gI h oc 0) = 0 then
        some (zf_min 7 ((((gI h (oc + 5) j1) - (gI h (oc + 3) j1)) / (gI h oc 0)) + 1))
      else none
  else
    some 0
theorem t_qTr_needOf {Ls : Nat} {xs : Nat → Int32} {d : Nat} {oc : Nat} {x1 : Int32} {h : zK} {p : Int32} (ho : oc = 7 ∨ oc = 22) (H : qTr_needOf oc x1 h = some p) : zEv (zXs Ls xs) d zm_97 (0, [some (.ref oc), some (.int x1)], [], zhp h) (some (.int p), zhp h) := by
  unfold qTr_needOf at H
  rcases ho with rfl | rfl
  · refine zEv_k 1 (f' := (1, [some (.ref 7), some (.int x1)], [.ref 7], zhp h)) rfl ?_
    refine zRgr rfl rfl rfl (by decide) (b := 7 + 3) rfl ?_
    refine zEv_k 1 (f' := (5, [some (.ref 7), some (.int x1)], [.int x1, .ref (7 + 3)], zhp h)) rfl ?_
    obtain ⟨j1, hj1, H⟩ := zbs H
    refine zRia rfl rfl (by decide) hj1 ?_
    refine zEv_k 1 (f' := (7, [some (.ref 7), some (.int x1)], [.ref 7, .int (gI h (7 + 3) j1)], zhp h)) rfl ?_
    refine zRgr rfl rfl rfl (by decide) (b := 7 + 5) rfl ?_
    refine zEv_k 1 (f' := (11, [some (.ref 7), some (.int x1)], [.int x1, .ref (7 + 5), .int (gI h (7 + 3) j1)], zhp h)) rfl ?_
    refine zRia rfl rfl (by decide) hj1 ?_
    refine zEv_k 1 (f' := (if (gI h (7 + 3) j1) ≤ (gI h (7 + 5) j1) then 17 else 15, [some (.ref 7), some (.int x1)], [], zhp h)) rfl (zEv_if (fun c2 => ?_) (fun c2 => ?_))
    · replace H := zif_t c2 H
      refine zEv_k 3 (f' := (if (gI h 7 0) ≤ 0 then 52 else 24, [some (.ref 7), some (.int x1)], [], zhp h)) rfl (zEv_if (fun c3 => ?_) (fun c3 => ?_))
      · replace H := zif_t c3 H
        refine zEv_k 1 (f' := (54, [some (.ref 7), some (.int x1)], [.int 7], zhp h)) rfl ?_
        cases H
        exact zEv_r rfl
      · replace H := zif_f c3 H
        refine zEv_k 2 (f' := (27, [some (.ref 7), some (.int x1)], [.ref 7, .int 7], zhp h)) rfl ?_
        refine zRgr rfl rfl rfl (by decide) (b := 7 + 5) rfl ?_
        refine zEv_k 1 (f' := (31, [some (.ref 7), some (.int x1)], [.int x1, .ref (7 + 5), .int 7], zhp h)) rfl ?_
        refine zRia rfl rfl (by decide) hj1 ?_
        refine zEv_k 1 (f' := (33, [some (.ref 7), some (.int x1)], [.ref 7, .int (gI h (7 + 5) j1), .int 7], zhp h)) rfl ?_
        refine zRgr rfl rfl rfl (by decide) (b := 7 + 3) rfl ?_
        refine zEv_k 1 (f' := (37, [some (.ref 7), some (.int x1)], [.int x1, .ref (7 + 3), .int (gI h (7 + 5) j1), .int 7], zhp h)) rfl ?_
        refine zRia rfl rfl (by decide) hj1 ?_
        refine zEv_k 3 (f' := (43, [some (.ref 7), some (.int x1)], [.int (gI h 7 0), .int ((gI h (7 + 5) j1) - (gI h (7 + 3) j1)), .int 7], zhp h)) rfl ?_
        obtain ⟨c4, H⟩ := zifn H
        refine zEv_div rfl c4 ?_
        refine zEv_k 4 (f' := (54, [some (.ref 7), some (.int x1)], [.int (zf_min 7 ((((gI h (7 + 5) j1) - (gI h (7 + 3) j1)) / (gI h 7 0)) + 1))], zhp h)) rfl ?_
        cases H
        exact zEv_r rfl
    · replace H := zif_f c2 H
      refine zEv_k 1 (f' := (16, [some (.ref 7), some (.int x1)], [.int 0], zhp h)) rfl ?_
      cases H
      exact zEv_r rfl
  · refine zEv_k 1 (f' := (1, [some (.ref 22), some (.int x1)], [.ref 22], zhp h)) rfl ?_
    refine zRgr rfl rfl rfl (by decide) (b := 22 + 3) rfl ?_
    refine zEv_k 1 (f' := (5, [some (.ref 22), some (.int x1)], [.int x1, .ref (22 + 3)], zhp h)) rfl ?_
    obtain ⟨j1, hj1, H⟩ := zbs H
    refine zRia rfl rfl (by decide) hj1 ?_
    refine zEv_k 1 (f' := (7, [some (.ref 22), some (.int x1)], [.ref 22, .int (gI h (22 + 3) j1)], zhp h)) rfl ?_
    refine zRgr rfl rfl rfl (by decide) (b := 22 + 5) rfl ?_
    refine zEv_k 1 (f' := (11, [some (.ref 22), some (.int x1)], [.int x1, .ref (22 + 5), .int (gI h (22 + 3) j1)], zhp h)) rfl ?_
    refine zRia rfl rfl (by decide) hj1 ?_
    refine zEv_k 1 (f' := (if (gI h (22 + 3) j1) ≤ (gI h (22 + 5) j1) then 17 else 15, [some (.ref 22), some (.int x1)], [], zhp h)) rfl (zEv_if (fun c2 => ?_) (fun c2 => ?_))
    · replace H := zif_t c2 H
      refine zEv_k 3 (f' := (if (gI h 22 0) ≤ 0 then 52 else 24, [some (.ref 22), some (.int x1)], [], zhp h)) rfl (zEv_if (fun c3 => ?_) (fun c3 => ?_))
      · replace H := zif_t c3 H
        refine zEv_k 1 (f' := (54, [some (.ref 22), some (.int x1)], [.int 7], zhp h)) rfl ?_
        cases H
        exact zEv_r rfl
      · replace H := zif_f c3 H
        refine zEv_k 2 (f' := (27, [some (.ref 22), some (.int x1)], [.ref 22, .int 7], zhp h)) rfl ?_
        refine zRgr rfl rfl rfl (by decide) (b := 22 + 5) rfl ?_
        refine zEv_k 1 (f' := (31, [some (.ref 22), some (.int x1)], [.int x1, .ref (22 + 5), .int 7], zhp h)) rfl ?_
        refine zRia rfl rfl (by decide) hj1 ?_
        refine zEv_k 1 (f' := (33, [some (.ref 22), some (.int x1)], [.ref 22, .int (gI h (22 + 5) j1), .int 7], zhp h)) rfl ?_
        refine zRgr rfl rfl rfl (by decide) (b := 22 + 3) rfl ?_
        refine zEv_k 1 (f' := (37, [some (.ref 22), some (.int x1)], [.int x1, .ref (22 + 3), .int (gI h (22 + 5) j1), .int 7], zhp h)) rfl ?_
        refine zRia rfl rfl (by decide) hj1 ?_
        refine zEv_k 3 (f' := (43, [some (.ref 22), some (.int x1)], [.int (gI h 22 0), .int ((gI h (22 + 5) j1) - (gI h (22 + 3) j1)), .int 7], zhp h)) rfl ?_
        obtain ⟨c4, H⟩ := zifn H
        refine zEv_div rfl c4 ?_
        refine zEv_k 4 (f' := (54, [some (.ref 22), some (.int x1)], [.int (zf_min 7 ((((gI h (22 + 5) j1) - (gI h (22 + 3) j1)) / (gI h 22 0)) + 1))], zhp h)) rfl ?_
        cases H
        exact zEv_r rfl
    · replace H := zif_f c2 H
      refine zEv_k 1 (f' := (16, [some (.ref 22), some (.int x1)], [.int 0], zhp h)) rfl ?_
      cases H
      exact zEv_r rfl
def qTr_lay_b16 (oo : Nat) (x1 : Int32) (x2 : Int32) (s : Int32 × zK) : Option ((Int32 × zK) ⊕ (zK)) :=
  if x1 ≤ s.1 then
    some (.inr s.2)
  else
    (zix s.1 7).bind fun j5 =>
    Option.bind (
        if (gI s.2 oo 2) < (zf_abs ((gI s.2 (oo + 3) j5) - x2)) then
          some s.2
        else
          (zix x1 7).bind fun j8 =>
          zlet (sI s.2 (oo + 2) j8 ((gI s.2 (oo + 2) j8) ||| ((1 : Int32) <<< (s.1 &&& 31)))) fun h9 =>
          zlet (sI h9 (oo + 2) j5 ((gI h9 (oo + 2) j5) ||| ((1 : Int32) <<< (x1 &&& 31)))) fun h10 =>
          some h10
      ) fun (v7 : zK) =>
    some (.inl (s.1 + 1, v7))
theorem t_qTr_lay_b16b {Ls : Nat} {xs : Nat → Int32} {d : Nat} {oo : Nat} {x1 : Int32} {x2 : Int32} {r : zA} {s : Int32 × zK} {e : (Int32 × zK) ⊕ (zK)} (ho : oo = 180 ∨ oo = 186) (H : qTr_lay_b16 oo x1 x2 s = some e) (K : match (generalizing := false) e with | .inl s' => zEv (zXs Ls xs) d zm_99 (16, [some (.ref oo), some (.int x1), some (.int x2), some (.int s'.1)], [], zhp s'.2) r | .inr v => ∀ (z3 : Option Value), zEv (zXs Ls xs) d zm_99 (69, [some (.ref oo), some (.int x1), some (.int x2), z3], [], zhp v) r) : zEv (zXs Ls xs) d zm_99 (16, [some (.ref oo), some (.int x1), some (.int x2), some (.int s.1)], [], zhp s.2) r := by
  unfold qTr_lay_b16 at H
  rcases ho with rfl | rfl
  · refine zEv_k 3 (f' := (if x1 ≤ s.1 then 69 else 21, [some (.ref 180), some (.int x1), some (.int x2), some (.int s.1)], [], zhp s.2)) rfl (zEv_if (fun c4 => ?_) (fun c4 => ?_))
    · replace H := zif_t c4 H
      cases H
      exact K _
    · replace H := zif_f c4 H
      refine zEv_k 1 (f' := (22, [some (.ref 180), some (.int x1), some (.int x2), some (.int s.1)], [.ref 180], zhp s.2)) rfl ?_
      refine zRgr rfl rfl rfl (by decide) (b := 180 + 3) rfl ?_
      refine zEv_k 1 (f' := (26, [some (.ref 180), some (.int x1), some (.int x2), some (.int s.1)], [.int s.1, .ref (180 + 3)], zhp s.2)) rfl ?_
      obtain ⟨j5, hj5, H⟩ := zbs H
      refine zRia rfl rfl (by decide) hj5 ?_
      obtain ⟨v7, hv7, H⟩ := zbs H
      have kv7 : zEv (zXs Ls xs) d zm_99 (63, [some (.ref 180), some (.int x1), some (.int x2), some (.int s.1)], [], zhp v7) r := by
        refine zEv_k 2 (f' := (16, [some (.ref 180), some (.int x1), some (.int x2), some (.int (s.1 + 1))], [], zhp v7)) rfl ?_
        cases H
        exact K
      clear H
      refine zEv_k 6 (f' := (if (gI s.2 180 2) < (zf_abs ((gI s.2 (180 + 3) j5) - x2)) then 63 else 39, [some (.ref 180), some (.int x1), some (.int x2), some (.int s.1)], [], zhp s.2)) rfl (zEv_if (fun c6 => ?_) (fun c6 => ?_))
      · replace hv7 := zif_t c6 hv7
        cases hv7
        exact kv7
      · replace hv7 := zif_f c6 hv7
        refine zEv_k 1 (f' := (40, [some (.ref 180), some (.int x1), some (.int x2), some (.int s.1)], [.ref 180], zhp s.2)) rfl ?_
        refine zRgr rfl rfl rfl (by decide) (b := 180 + 2) rfl ?_
        refine zEv_k 2 (f' := (45, [some (.ref 180), some (.int x1), some (.int x2), some (.int s.1)], [.int x1, .ref (180 + 2), .int x1, .ref (180 + 2)], zhp s.2)) rfl ?_
        obtain ⟨j8, hj8, hv7⟩ := zbs hv7
        refine zRia rfl rfl (by decide) hj8 ?_
        refine zEv_k 4 (f' := (50, [some (.ref 180), some (.int x1), some (.int x2), some (.int s.1)], [.int ((gI s.2 (180 + 2) j8) ||| ((1 : Int32) <<< (s.1 &&& 31))), .int x1, .ref (180 + 2)], zhp s.2)) rfl ?_
        obtain ⟨h9, eh9, hv7⟩ := zlets hv7
        refine zRis rfl rfl (by decide) hj8 eh9 ?_
        refine zEv_k 1 (f' := (52, [some (.ref 180), some (.int x1), some (.int x2), some (.int s.1)], [.ref 180], zhp h9)) rfl ?_
        refine zRgr rfl rfl rfl (by decide) (b := 180 + 2) rfl ?_
        refine zEv_k 2 (f' := (57, [some (.ref 180), some (.int x1), some (.int x2), some (.int s.1)], [.int s.1, .ref (180 + 2), .int s.1, .ref (180 + 2)], zhp h9)) rfl ?_
        refine zRia rfl rfl (by decide) hj5 ?_
        refine zEv_k 4 (f' := (62, [some (.ref 180), some (.int x1), some (.int x2), some (.int s.1)], [.int ((gI h9 (180 + 2) j5) ||| ((1 : Int32) <<< (x1 &&& 31))), .int s.1, .ref (180 + 2)], zhp h9)) rfl ?_
        obtain ⟨h10, eh10, hv7⟩ := zlets hv7
        refine zRis rfl rfl (by decide) hj5 eh10 ?_
        cases hv7
        exact kv7
  · refine zEv_k 3 (f' := (if x1 ≤ s.1 then 69 else 21, [some (.ref 186), some (.int x1), some (.int x2), some (.int s.1)], [], zhp s.2)) rfl (zEv_if (fun c4 => ?_) (fun c4 => ?_))
    · replace H := zif_t c4 H
      cases H
      exact K _
    · replace H := zif_f c4 H
      refine zEv_k 1 (f' := (22, [some (.ref 186), some (.int x1), some (.int x2), some (.int s.1)], [.ref 186], zhp s.2)) rfl ?_
      refine zRgr rfl rfl rfl (by decide) (b := 186 + 3) rfl ?_
      refine zEv_k 1 (f' := (26, [some (.ref 186), some (.int x1), some (.int x2), some (.int s.1)], [.int s.1, .ref (186 + 3)], zhp s.2)) rfl ?_
      obtain ⟨j5, hj5, H⟩ := zbs H
      refine zRia rfl rfl (by decide) hj5 ?_
      obtain ⟨v7, hv7, H⟩ := zbs H
      have kv7 : zEv (zXs Ls xs) d zm_99 (63, [some (.ref 186), some (.int x1), some (.int x2), some (.int s.1)], [], zhp v7) r := by
        refine zEv_k 2 (f' := (16, [some (.ref 186), some (.int x1), some (.int x2), some (.int (s.1 + 1))], [], zhp v7)) rfl ?_
        cases H
        exact K
      clear H
      refine zEv_k 6 (f' := (if (gI s.2 186 2) < (zf_abs ((gI s.2 (186 + 3) j5) - x2)) then 63 else 39, [some (.ref 186), some (.int x1), some (.int x2), some (.int s.1)], [], zhp s.2)) rfl (zEv_if (fun c6 => ?_) (fun c6 => ?_))
      · replace hv7 := zif_t c6 hv7
        cases hv7
        exact kv7
      · replace hv7 := zif_f c6 hv7
        refine zEv_k 1 (f' := (40, [some (.ref 186), some (.int x1), some (.int x2), some (.int s.1)], [.ref 186], zhp s.2)) rfl ?_
        refine zRgr rfl rfl rfl (by decide) (b := 186 + 2) rfl ?_
        refine zEv_k 2 (f' := (45, [some (.ref 186), some (.int x1), some (.int x2), some (.int s.1)], [.int x1, .ref (186 + 2), .int x1, .ref (186 + 2)], zhp s.2)) rfl ?_
        obtain ⟨j8, hj8, hv7⟩ := zbs hv7
        refine zRia rfl rfl (by decide) hj8 ?_
        refine zEv_k 4 (f' := (50, [some (.ref 186), some (.int x1), some (.int x2), some (.int s.1)], [.int ((gI s.2 (186 + 2) j8) ||| ((1 : Int32) <<< (s.1 &&& 31))), .int x1, .ref (186 + 2)], zhp s.2)) rfl ?_
        obtain ⟨h9, eh9, hv7⟩ := zlets hv7
        refine zRis rfl rfl (by decide) hj8 eh9 ?_
        refine zEv_k 1 (f' := (52, [some (.ref 186), some (.int x1), some (.int x2), some (.int s.1)], [.ref 186], zhp h9)) rfl ?_
        refine zRgr rfl rfl rfl (by decide) (b := 186 + 2) rfl ?_
        refine zEv_k 2 (f' := (57, [some (.ref 186), some (.int x1), some (.int x2), some (.int s.1)], [.int s.1, .ref (186 + 2), .int s.1, .ref (186 + 2)], zhp h9)) rfl ?_
        refine zRia rfl rfl (by decide) hj5 ?_
        refine zEv_k 4 (f' := (62, [some (.ref 186), some (.int x1), some (.int x2), some (.int s.1)], [.int ((gI h9 (186 + 2) j5) ||| ((1 : Int32) <<< (x1 &&& 31))), .int s.1, .ref (186 + 2)], zhp h9)) rfl ?_
        obtain ⟨h10, eh10, hv7⟩ := zlets hv7
        refine zRis rfl rfl (by decide) hj5 eh10 ?_
        cases hv7
        exact kv7
theorem t_qTr_lay_b16 {Ls : Nat} {xs : Nat → Int32} {d : Nat} {oo : Nat} {x1 : Int32} {x2 : Int32} {r : zA} (ho : oo = 180 ∨ oo = 186) {t : zK} (K : ∀ (z3 : Option Value), zEv (zXs Ls xs) d zm_99 (69, [some (.ref oo), some (.int x1), some (.int x2), z3], [], zhp t) r) (n : Nat) (s : Int32 × zK) (H : zloop (qTr_lay_b16 oo x1 x2) n s = some t) : zEv (zXs Ls xs) d zm_99 (16, [some (.ref oo), some (.int x1), some (.int x2), some (.int s.1)], [], zhp s.2) r := by
  have Z := zloop_P (P := fun s => zEv (zXs Ls xs) d zm_99 (16, [some (.ref oo), some (.int x1), some (.int x2), some (.int s.1)], [], zhp s.2) r) (b := qTr_lay_b16 oo x1 x2) (t := t) (fun s s2 hb hk => by exact t_qTr_lay_b16b ho hb hk) (fun s hb => by exact t_qTr_lay_b16b ho hb K) n s H
  exact Z
def qTr_lay (oo : Nat) (x1 : Int32) (x2 : Int32) (h : zK) : Option (zK) :=
  (zix x1 7).bind fun j1 =>
  zlet (sI h (oo + 3) j1 x2) fun h2 =>
  zlet (sI h2 (oo + 2) j1 0) fun h3 =>
  (zloop (qTr_lay_b16 oo x1 x2) zfu (0, h3)).bind fun t11 =>
  some t11
theorem t_qTr_lay {Ls : Nat} {xs : Nat → Int32} {d : Nat} {oo : Nat} {x1 : Int32} {x2 : Int32} {h : zK} {p : zK} (ho : oo = 180 ∨ oo = 186) (H : qTr_lay oo x1 x2 h = some p) : zEv (zXs Ls xs) d zm_99 (0, [some (.ref oo), some (.int x1), some (.int x2), none], [], zhp h) (none, zhp p) := by
  unfold qTr_lay at H
  rcases ho with rfl | rfl
  · refine zEv_k 1 (f' := (1, [some (.ref 180), some (.int x1), some (.int x2), none], [.ref 180], zhp h)) rfl ?_
    refine zRgr rfl rfl rfl (by decide) (b := 180 + 3) rfl ?_
    refine zEv_k 2 (f' := (6, [some (.ref 180), some (.int x1), some (.int x2), none], [.int x2, .int x1, .ref (180 + 3)], zhp h)) rfl ?_
    obtain ⟨j1, hj1, H⟩ := zbs H
    obtain ⟨h2, eh2, H⟩ := zlets H
    refine zRis rfl rfl (by decide) hj1 eh2 ?_
    refine zEv_k 1 (f' := (8, [some (.ref 180), some (.int x1), some (.int x2), none], [.ref 180], zhp h2)) rfl ?_
    refine zRgr rfl rfl rfl (by decide) (b := 180 + 2) rfl ?_
    refine zEv_k 2 (f' := (13, [some (.ref 180), some (.int x1), some (.int x2), none], [.int 0, .int x1, .ref (180 + 2)], zhp h2)) rfl ?_
    obtain ⟨h3, eh3, H⟩ := zlets H
    refine zRis rfl rfl (by decide) hj1 eh3 ?_
    refine zEv_k 2 (f' := (16, [some (.ref 180), some (.int x1), some (.int x2), some (.int 0)], [], zhp h3)) rfl ?_
    obtain ⟨t11, ht11, H⟩ := zbs H
    refine t_qTr_lay_b16 (oo := 180) (x1 := x1) (x2 := x2) (by decide) ?_ zfu _ ht11
    intro y3
    cases H
    exact zEv_r rfl
  · refine zEv_k 1 (f' := (1, [some (.ref 186), some (.int x1), some (.int x2), none], [.ref 186], zhp h)) rfl ?_
    refine zRgr rfl rfl rfl (by decide) (b := 186 + 3) rfl ?_
    refine zEv_k 2 (f' := (6, [some (.ref 186), some (.int x1), some (.int x2), none], [.int x2, .int x1, .ref (186 + 3)], zhp h)) rfl ?_
    obtain ⟨j1, hj1, H⟩ := zbs H
    obtain ⟨h2, eh2, H⟩ := zlets H
    refine zRis rfl rfl (by decide) hj1 eh2 ?_
    refine zEv_k 1 (f' := (8, [some (.ref 186), some (.int x1), some (.int x2), none], [.ref 186], zhp h2)) rfl ?_
    refine zRgr rfl rfl rfl (by decide) (b := 186 + 2) rfl ?_
    refine zEv_k 2 (f' := (13, [some (.ref 186), some (.int x1), some (.int x2), none], [.int 0, .int x1, .ref (186 + 2)], zhp h2)) rfl ?_
    obtain ⟨h3, eh3, H⟩ := zlets H
    refine zRis rfl rfl (by decide) hj1 eh3 ?_
    refine zEv_k 2 (f' := (16, [some (.ref 186), some (.int x1), some (.int x2), some (.int 0)], [], zhp h3)) rfl ?_
    obtain ⟨t11, ht11, H⟩ := zbs H
    refine t_qTr_lay_b16 (oo := 186) (x1 := x1) (x2 := x2) (by decide) ?_ zfu _ ht11
    intro y3
    cases H
    exact zEv_r rfl
def qTr_layOut_b2 (oo : Nat) (s : Int32 × zK) : Option ((Int32 × zK) ⊕ (zK)) :=
  if (gI s.2 oo 0) ≤ s.1 then
    some (.inr s.2)
  else
    (zix s.1 7).bind fun j2 =>
    (qTr_lay oo s.1 (gI s.2 (oo + 3) j2) s.2).bind fun p3 =>
    some (.inl (s.1 + 1, p3))
theorem t_qTr_layOut_b2b {Ls : Nat} {xs : Nat → Int32} {d : Nat} {oo : Nat} {r : zA} {s : Int32 × zK} {e : (Int32 × zK) ⊕ (zK)} (ho : oo = 180 ∨ oo = 186) (H : qTr_layOut_b2 oo s = some e) (K : match (generalizing := false) e with | .inl s' => zEv (zXs Ls xs) (d + 1) zm_98 (2, [some (.ref oo), some (.int s'.1)], [], zhp s'.2) r | .inr v => ∀ (z1 : Option Value), zEv (zXs Ls xs) (d + 1) zm_98 (27, [some (.ref oo), z1], [], zhp v) r) : zEv (zXs Ls xs) (d + 1) zm_98 (2, [some (.ref oo), some (.int s.1)], [], zhp s.2) r := by
  unfold qTr_layOut_b2 at H
  rcases ho with rfl | rfl
  · refine zEv_k 4 (f' := (if (gI s.2 180 0) ≤ s.1 then 27 else 10, [some (.ref 180), some (.int s.1)], [], zhp s.2)) rfl (zEv_if (fun c1 => ?_) (fun c1 => ?_))
    · replace H := zif_t c1 H
      cases H
      exact K _
    · replace H := zif_f c1 H
      refine zEv_k 3 (f' := (13, [some (.ref 180), some (.int s.1)], [.ref 180, .int s.1, .ref 180], zhp s.2)) rfl ?_
      refine zRgr rfl rfl rfl (by decide) (b := 180 + 3) rfl ?_
      refine zEv_k 1 (f' := (17, [some (.ref 180), some (.int s.1)], [.int s.1, .ref (180 + 3), .int s.1, .ref 180], zhp s.2)) rfl ?_
      obtain ⟨j2, hj2, H⟩ := zbs H
      refine zRia rfl rfl (by decide) hj2 ?_
      obtain ⟨p3, hp3, H⟩ := zbs H
      refine zEv_c (fun _ => rfl) rfl (t_qTr_lay (oo := 180) (x1 := s.1) (x2 := gI s.2 (180 + 3) j2) (h := s.2) (d := d) (by decide) hp3) rfl rfl ?_
      refine zEv_k 2 (f' := (2, [some (.ref 180), some (.int (s.1 + 1))], [], zhp p3)) rfl ?_
      cases H
      exact K
  · refine zEv_k 4 (f' := (if (gI s.2 186 0) ≤ s.1 then 27 else 10, [some (.ref 186), some (.int s.1)], [], zhp s.2)) rfl (zEv_if (fun c1 => ?_) (fun c1 => ?_))
    · replace H := zif_t c1 H
      cases H
      exact K _
    · replace H := zif_f c1 H
      refine zEv_k 3 (f' := (13, [some (.ref 186), some (.int s.1)], [.ref 186, .int s.1, .ref 186], zhp s.2)) rfl ?_
      refine zRgr rfl rfl rfl (by decide) (b := 186 + 3) rfl ?_
      refine zEv_k 1 (f' := (17, [some (.ref 186), some (.int s.1)], [.int s.1, .ref (186 + 3), .int s.1, .ref 186], zhp s.2)) rfl ?_
      obtain ⟨j2, hj2, H⟩ := zbs H
      refine zRia rfl rfl (by decide) hj2 ?_
      obtain ⟨p3, hp3, H⟩ := zbs H
      refine zEv_c (fun _ => rfl) rfl (t_qTr_lay (oo := 186) (x1 := s.1) (x2 := gI s.2 (186 + 3) j2) (h := s.2) (d := d) (by decide) hp3) rfl rfl ?_
      refine zEv_k 2 (f' := (2, [some (.ref 186), some (.int (s.1 + 1))], [], zhp p3)) rfl ?_
      cases H
      exact K
theorem t_qTr_layOut_b2 {Ls : Nat} {xs : Nat → Int32} {d : Nat} {oo : Nat} {r : zA} (ho : oo = 180 ∨ oo = 186) {t : zK} (K : ∀ (z1 : Option Value), zEv (zXs Ls xs) (d + 1) zm_98 (27, [some (.ref oo), z1], [], zhp t) r) (n : Nat) (s : Int32 × zK) (H : zloop (qTr_layOut_b2 oo) n s = some t) : zEv (zXs Ls xs) (d + 1) zm_98 (2, [some (.ref oo), some (.int s.1)], [], zhp s.2) r := by
  have Z := zloop_P (P := fun s => zEv (zXs Ls xs) (d + 1) zm_98 (2, [some (.ref oo), some (.int s.1)], [], zhp s.2) r) (b := qTr_layOut_b2 oo) (t := t) (fun s s2 hb hk => by exact t_qTr_layOut_b2b ho hb hk) (fun s hb => by exact t_qTr_layOut_b2b ho hb K) n s H
  exact Z
def qTr_layOut (oo : Nat) (h : zK) : Option (zK) :=
  (zloop (qTr_layOut_b2 oo) zfu (0, h)).bind fun t4 =>
  some t4
theorem t_qTr_layOut {Ls : Nat} {xs : Nat → Int32} {d : Nat} {oo : Nat} {h : zK} {p : zK} (ho : oo = 180 ∨ oo = 186) (H : qTr_layOut oo h = some p) : zEv (zXs Ls xs) (d + 1) zm_98 (0, [some (.ref oo), none], [], zhp h) (none, zhp p) := by
  unfold qTr_layOut at H
  rcases ho with rfl | rfl
  · refine zEv_k 2 (f' := (2, [some (.ref 180), some (.int 0)], [], zhp h)) rfl ?_
    obtain ⟨t4, ht4, H⟩ := zbs H
    refine t_qTr_layOut_b2 (oo := 180) (by decide) ?_ zfu _ ht4
    intro y1
    cases H
    exact zEv_r rfl
  · refine zEv_k 2 (f' := (2, [some (.ref 186), some (.int 0)], [], zhp h)) rfl ?_
    obtain ⟨t4, ht4, H⟩ := zbs H
    refine t_qTr_layOut_b2 (oo := 186) (by decide) ?_ zfu _ ht4
    intro y1
    cases H
    exact zEv_r rfl
def qTr_lookAt_b18 (oc : Nat) (oo : Nat) (s : Int32 × zK) : Option ((Int32 × zK) ⊕ (zK)) :=
  if (gI s.2 oo 0) ≤ s.1 then
    some (.inr s.2)
  else
    (qTr_needOf oc s.1 s.2).bind fun p4 =>
    (zix s.1 7).bind fun j5 =>
    zlet (sI s.2 (oo + 1) j5 p4) fun h6 =>
    zlet (sI h6 (oo + 3) j5 (gI h6 (oc + 6) j5)) fun h7 =>
    some (.inl (s.1 + 1, h7))
theorem t_qTr_lookAt_b18b {Ls : Nat} {xs : Nat → Int32} {d : Nat} {oc : Nat} {oo : Nat} {r : zA} {s : Int32 × zK} {e : (Int32 × zK) ⊕ (zK)} (ho : (oc = 7 ∧ oo = 180) ∨ (oc = 22 ∧ oo = 180) ∨ (oc = 7 ∧ oo = 186) ∨ (oc = 22 ∧ oo = 186)) (H : qTr_lookAt_b18 oc oo s = some e) (K : match (generalizing := false) e with | .inl s' => zEv (zXs Ls xs) (d + 2) zm_96 (18, [some (.ref oo), some (.ref oc), some (.int s'.1)], [], zhp s'.2) r | .inr v => ∀ (z2 : Option Value), zEv (zXs Ls xs) (d + 2) zm_96 (55, [some (.ref oo), some (.ref oc), z2], [], zhp v) r) : zEv (zXs Ls xs) (d + 2) zm_96 (18, [some (.ref oo), some (.ref oc), some (.int s.1)], [], zhp s.2) r := by
  unfold qTr_lookAt_b18 at H
  rcases ho with ⟨rfl, rfl⟩ | ⟨rfl, rfl⟩ | ⟨rfl, rfl⟩ | ⟨rfl, rfl⟩
  · refine zEv_k 4 (f' := (if (gI s.2 180 0) ≤ s.1 then 55 else 26, [some (.ref 180), some (.ref 7), some (.int s.1)], [], zhp s.2)) rfl (zEv_if (fun c3 => ?_) (fun c3 => ?_))
    · replace H := zif_t c3 H
      cases H
      exact K _
    · replace H := zif_f c3 H
      refine zEv_k 1 (f' := (27, [some (.ref 180), some (.ref 7), some (.int s.1)], [.ref 180], zhp s.2)) rfl ?_
      refine zRgr rfl rfl rfl (by decide) (b := 180 + 1) rfl ?_
      refine zEv_k 3 (f' := (33, [some (.ref 180), some (.ref 7), some (.int s.1)], [.int s.1, .ref 7, .int s.1, .ref (180 + 1)], zhp s.2)) rfl ?_
      obtain ⟨p4, hp4, H⟩ := zbs H
      refine zEv_c (fun _ => rfl) rfl (t_qTr_needOf (oc := 7) (x1 := s.1) (h := s.2) (d := d + 1) (by decide) hp4) rfl rfl ?_
      obtain ⟨j5, hj5, H⟩ := zbs H
      obtain ⟨h6, eh6, H⟩ := zlets H
      refine zRis rfl rfl (by decide) hj5 eh6 ?_
      refine zEv_k 1 (f' := (38, [some (.ref 180), some (.ref 7), some (.int s.1)], [.ref 180], zhp h6)) rfl ?_
      refine zRgr rfl rfl rfl (by decide) (b := 180 + 3) rfl ?_
      refine zEv_k 2 (f' := (43, [some (.ref 180), some (.ref 7), some (.int s.1)], [.ref 7, .int s.1, .ref (180 + 3)], zhp h6)) rfl ?_
      refine zRgr rfl rfl rfl (by decide) (b := 7 + 6) rfl ?_
      refine zEv_k 1 (f' := (47, [some (.ref 180), some (.ref 7), some (.int s.1)], [.int s.1, .ref (7 + 6), .int s.1, .ref (180 + 3)], zhp h6)) rfl ?_
      refine zRia rfl rfl (by decide) hj5 ?_
      obtain ⟨h7, eh7, H⟩ := zlets H
      refine zRis rfl rfl (by decide) hj5 eh7 ?_
      refine zEv_k 2 (f' := (18, [some (.ref 180), some (.ref 7), some (.int (s.1 + 1))], [], zhp h7)) rfl ?_
      cases H
      exact K
  · refine zEv_k 4 (f' := (if (gI s.2 180 0) ≤ s.1 then 55 else 26, [some (.ref 180), some (.ref 22), some (.int s.1)], [], zhp s.2)) rfl (zEv_if (fun c3 => ?_) (fun c3 => ?_))
    · replace H := zif_t c3 H
      cases H
      exact K _
    · replace H := zif_f c3 H
      refine zEv_k 1 (f' := (27, [some (.ref 180), some (.ref 22), some (.int s.1)], [.ref 180], zhp s.2)) rfl ?_
      refine zRgr rfl rfl rfl (by decide) (b := 180 + 1) rfl ?_
      refine zEv_k 3 (f' := (33, [some (.ref 180), some (.ref 22), some (.int s.1)], [.int s.1, .ref 22, .int s.1, .ref (180 + 1)], zhp s.2)) rfl ?_
      obtain ⟨p4, hp4, H⟩ := zbs H
      refine zEv_c (fun _ => rfl) rfl (t_qTr_needOf (oc := 22) (x1 := s.1) (h := s.2) (d := d + 1) (by decide) hp4) rfl rfl ?_
      obtain ⟨j5, hj5, H⟩ := zbs H
      obtain ⟨h6, eh6, H⟩ := zlets H
      refine zRis rfl rfl (by decide) hj5 eh6 ?_
      refine zEv_k 1 (f' := (38, [some (.ref 180), some (.ref 22), some (.int s.1)], [.ref 180], zhp h6)) rfl ?_
      refine zRgr rfl rfl rfl (by decide) (b := 180 + 3) rfl ?_
      refine zEv_k 2 (f' := (43, [some (.ref 180), some (.ref 22), some (.int s.1)], [.ref 22, .int s.1, .ref (180 + 3)], zhp h6)) rfl ?_
      refine zRgr rfl rfl rfl (by decide) (b := 22 + 6) rfl ?_
      refine zEv_k 1 (f' := (47, [some (.ref 180), some (.ref 22), some (.int s.1)], [.int s.1, .ref (22 + 6), .int s.1, .ref (180 + 3)], zhp h6)) rfl ?_
      refine zRia rfl rfl (by decide) hj5 ?_
      obtain ⟨h7, eh7, H⟩ := zlets H
      refine zRis rfl rfl (by decide) hj5 eh7 ?_
      refine zEv_k 2 (f' := (18, [some (.ref 180), some (.ref 22), some (.int (s.1 + 1))], [], zhp h7)) rfl ?_
      cases H
      exact K
  · refine zEv_k 4 (f' := (if (gI s.2 186 0) ≤ s.1 then 55 else 26, [some (.ref 186), some (.ref 7), some (.int s.1)], [], zhp s.2)) rfl (zEv_if (fun c3 => ?_) (fun c3 => ?_))
    · replace H := zif_t c3 H
      cases H
      exact K _
    · replace H := zif_f c3 H
      refine zEv_k 1 (f' := (27, [some (.ref 186), some (.ref 7), some (.int s.1)], [.ref 186], zhp s.2)) rfl ?_
      refine zRgr rfl rfl rfl (by decide) (b := 186 + 1) rfl ?_
      refine zEv_k 3 (f' := (33, [some (.ref 186), some (.ref 7), some (.int s.1)], [.int s.1, .ref 7, .int s.1, .ref (186 + 1)], zhp s.2)) rfl ?_
      obtain ⟨p4, hp4, H⟩ := zbs H
      refine zEv_c (fun _ => rfl) rfl (t_qTr_needOf (oc := 7) (x1 := s.1) (h := s.2) (d := d + 1) (by decide) hp4) rfl rfl ?_
      obtain ⟨j5, hj5, H⟩ := zbs H
      obtain ⟨h6, eh6, H⟩ := zlets H
      refine zRis rfl rfl (by decide) hj5 eh6 ?_
      refine zEv_k 1 (f' := (38, [some (.ref 186), some (.ref 7), some (.int s.1)], [.ref 186], zhp h6)) rfl ?_
      refine zRgr rfl rfl rfl (by decide) (b := 186 + 3) rfl ?_
      refine zEv_k 2 (f' := (43, [some (.ref 186), some (.ref 7), some (.int s.1)], [.ref 7, .int s.1, .ref (186 + 3)], zhp h6)) rfl ?_
      refine zRgr rfl rfl rfl (by decide) (b := 7 + 6) rfl ?_
      refine zEv_k 1 (f' := (47, [some (.ref 186), some (.ref 7), some (.int s.1)], [.int s.1, .ref (7 + 6), .int s.1, .ref (186 + 3)], zhp h6)) rfl ?_
      refine zRia rfl rfl (by decide) hj5 ?_
      obtain ⟨h7, eh7, H⟩ := zlets H
      refine zRis rfl rfl (by decide) hj5 eh7 ?_
      refine zEv_k 2 (f' := (18, [some (.ref 186), some (.ref 7), some (.int (s.1 + 1))], [], zhp h7)) rfl ?_
      cases H
      exact K
  · refine zEv_k 4 (f' := (if (gI s.2 186 0) ≤ s.1 then 55 else 26, [some (.ref 186), some (.ref 22), some (.int s.1)], [], zhp s.2)) rfl (zEv_if (fun c3 => ?_) (fun c3 => ?_))
    · replace H := zif_t c3 H
      cases H
      exact K _
    · replace H := zif_f c3 H
      refine zEv_k 1 (f' := (27, [some (.ref 186), some (.ref 22), some (.int s.1)], [.ref 186], zhp s.2)) rfl ?_
      refine zRgr rfl rfl rfl (by decide) (b := 186 + 1) rfl ?_
      refine zEv_k 3 (f' := (33, [some (.ref 186), some (.ref 22), some (.int s.1)], [.int s.1, .ref 22, .int s.1, .ref (186 + 1)], zhp s.2)) rfl ?_
      obtain ⟨p4, hp4, H⟩ := zbs H
      refine zEv_c (fun _ => rfl) rfl (t_qTr_needOf (oc := 22) (x1 := s.1) (h := s.2) (d := d + 1) (by decide) hp4) rfl rfl ?_
      obtain ⟨j5, hj5, H⟩ := zbs H
      obtain ⟨h6, eh6, H⟩ := zlets H
      refine zRis rfl rfl (by decide) hj5 eh6 ?_
      refine zEv_k 1 (f' := (38, [some (.ref 186), some (.ref 22), some (.int s.1)], [.ref 186], zhp h6)) rfl ?_
      refine zRgr rfl rfl rfl (by decide) (b := 186 + 3) rfl ?_
      refine zEv_k 2 (f' := (43, [some (.ref 186), some (.ref 22), some (.int s.1)], [.ref 22, .int s.1, .ref (186 + 3)], zhp h6)) rfl ?_
      refine zRgr rfl rfl rfl (by decide) (b := 22 + 6) rfl ?_
      refine zEv_k 1 (f' := (47, [some (.ref 186), some (.ref 22), some (.int s.1)], [.int s.1, .ref (22 + 6), .int s.1, .ref (186 + 3)], zhp h6)) rfl ?_
      refine zRia rfl rfl (by decide) hj5 ?_
      obtain ⟨h7, eh7, H⟩ := zlets H
      refine zRis rfl rfl (by decide) hj5 eh7 ?_
      refine zEv_k 2 (f' := (18, [some (.ref 186), some (.ref 22), some (.int (s.1 + 1))], [], zhp h7)) rfl ?_
      cases H
      exact K
theorem t_qTr_lookAt_b18 {Ls : Nat} {xs : Nat → Int32} {d : Nat} {oc : Nat} {oo : Nat} {r : zA} (ho : (oc = 7 ∧ oo = 180) ∨ (oc = 22 ∧ oo = 180) ∨ (oc = 7 ∧ oo = 186) ∨ (oc = 22 ∧ oo = 186)) {t : zK} (K : ∀ (z2 : Option Value), zEv (zXs Ls xs) (d + 2) zm_96 (55, [some (.ref oo), some (.ref oc), z2], [], zhp t) r) (n : Nat) (s : Int32 × zK) (H : zloop (qTr_lookAt_b18 oc oo) n s = some t) : zEv (zXs Ls xs) (d + 2) zm_96 (18, [some (.ref oo), some (.ref oc), some (.int s.1)], [], zhp s.2) r := by
  have Z := zloop_P (P := fun s => zEv (zXs Ls xs) (d + 2) zm_96 (18, [some (.ref oo), some (.ref oc), some (.int s.1)], [], zhp s.2) r) (b := qTr_lookAt_b18 oc oo) (t := t) (fun s s2 hb hk => by exact t_qTr_lookAt_b18b ho hb hk) (fun s hb => by exact t_qTr_lookAt_b18b ho hb K) n s H
  exact Z
def qTr_lookAt (oo : Nat) (oc : Nat) (h : zK) : Option (zK) :=
  zlet (sI h oo 0 (gI h oc 2)) fun h1 =>
  zlet (sI h1 oo 2 (gI h1 oc 1)) fun h2 =>
  (zloop (qTr_lookAt_b18 oc oo) zfu (0, h2)).bind fun t8 =>
  (qTr_layOut oo t8).bind fun p10 =>
  some p10
theorem t_qTr_lookAt {Ls : Nat} {xs : Nat → Int32} {d : Nat} {oo : Nat} {oc : Nat} {h : zK} {p : zK} (ho : (oc = 7 ∧ oo = 180) ∨ (oc = 22 ∧ oo = 180) ∨ (oc = 7 ∧ oo = 186) ∨ (oc = 22 ∧ oo = 186)) (H : qTr_lookAt oo oc h = some p) : zEv (zXs Ls xs) (d + 2) zm_96 (0, [some (.ref oo), some (.ref oc), none], [], zhp h) (none, zhp p) := by
  unfold qTr_lookAt at H
  rcases ho with ⟨rfl, rfl⟩ | ⟨rfl, rfl⟩ | ⟨rfl, rfl⟩ | ⟨rfl, rfl⟩
  · obtain ⟨h1, eh1, H⟩ := zlets H
    refine zEv_w (F := fun z => (8, [some (.ref 180), some (.ref 7), none], [], zhp z)) (h0 := sI h 180 0 (gI h 7 2)) 4 rfl eh1 ?_
    obtain ⟨h2, eh2, H⟩ := zlets H
    refine zEv_w (F := fun z => (16, [some (.ref 180), some (.ref 7), none], [], zhp z)) (h0 := sI h1 180 2 (gI h1 7 1)) 4 rfl eh2 ?_
    refine zEv_k 2 (f' := (18, [some (.ref 180), some (.ref 7), some (.int 0)], [], zhp h2)) rfl ?_
    obtain ⟨t8, ht8, H⟩ := zbs H
    refine t_qTr_lookAt_b18 (oc := 7) (oo := 180) (by decide) ?_ zfu _ ht8
    intro y2
    refine zEv_k 1 (f' := (56, [some (.ref 180), some (.ref 7), y2], [.ref 180], zhp t8)) rfl ?_
    obtain ⟨p10, hp10, H⟩ := zbs H
    refine zEv_c (fun _ => rfl) rfl (t_qTr_layOut (oo := 180) (h := t8) (d := d) (by decide) hp10) rfl rfl ?_
    cases H
    exact zEv_r rfl
  · obtain ⟨h1, eh1, H⟩ := zlets H
    refine zEv_w (F := fun z => (8, [some (.ref 180), some (.ref 22), none], [], zhp z)) (h0 := sI h 180 0 (gI h 22 2)) 4 rfl eh1 ?_
    obtain ⟨h2, eh2, H⟩ := zlets H
    refine zEv_w (F := fun z => (16, [some (.ref 180), some (.ref 22), none], [], zhp z)) (h0 := sI h1 180 2 (gI h1 22 1)) 4 rfl eh2 ?_
    refine zEv_k 2 (f' := (18, [some (.ref 180), some (.ref 22), some (.int 0)], [], zhp h2)) rfl ?_
    obtain ⟨t8, ht8, H⟩ := zbs H
    refine t_qTr_lookAt_b18 (oc := 22) (oo := 180) (by decide) ?_ zfu _ ht8
    intro y2
    refine zEv_k 1 (f' := (56, [some (.ref 180), some (.ref 22), y2], [.ref 180], zhp t8)) rfl ?_
    obtain ⟨p10, hp10, H⟩ := zbs H
    refine zEv_c (fun _ => rfl) rfl (t_qTr_layOut (oo := 180) (h := t8) (d := d) (by decide) hp10) rfl rfl ?_
    cases H
    exact zEv_r rfl
  · obtain ⟨h1, eh1, H⟩ := zlets H
    refine zEv_w (F := fun z => (8, [some (.ref 186), some (.ref 7), none], [], zhp z)) (h0 := sI h 186 0 (gI h 7 2)) 4 rfl eh1 ?_
    obtain ⟨h2, eh2, H⟩ := zlets H
    refine zEv_w (F := fun z => (16, [some (.ref 186), some (.ref 7), none], [], zhp z)) (h0 := sI h1 186 2 (gI h1 7 1)) 4 rfl eh2 ?_
    refine zEv_k 2 (f' := (18, [some (.ref 186), some (.ref 7), some (.int 0)], [], zhp h2)) rfl ?_
    obtain ⟨t8, ht8, H⟩ := zbs H
    refine t_qTr_lookAt_b18 (oc := 7) (oo := 186) (by decide) ?_ zfu _ ht8
    intro y2
    refine zEv_k 1 (f' := (56, [some (.ref 186), some (.ref 7), y2], [.ref 186], zhp t8)) rfl ?_
    obtain ⟨p10, hp10, H⟩ := zbs H
    refine zEv_c (fun _ => rfl) rfl (t_qTr_layOut (oo := 186) (h := t8) (d := d) (by decide) hp10) rfl rfl ?_
    cases H
    exact zEv_r rfl
  · obtain ⟨h1, eh1, H⟩ := zlets H
    refine zEv_w (F := fun z => (8, [some (.ref 186), some (.ref 22), none], [], zhp z)) (h0 := sI h 186 0 (gI h 22 2)) 4 rfl eh1 ?_
    obtain ⟨h2, eh2, H⟩ := zlets H
    refine zEv_w (F := fun z => (16, [some (.ref 186), some (.ref 22), none], [], zhp z)) (h0 := sI h1 186 2 (gI h1 22 1)) 4 rfl eh2 ?_
    refine zEv_k 2 (f' := (18, [some (.ref 186), some (.ref 22), some (.int 0)], [], zhp h2)) rfl ?_
    obtain ⟨t8, ht8, H⟩ := zbs H
    refine t_qTr_lookAt_b18 (oc := 22) (oo := 186) (by decide) ?_ zfu _ ht8
    intro y2
    refine zEv_k 1 (f' := (56, [some (.ref 186), some (.ref 22), y2], [.ref 186], zhp t8)) rfl ?_
    obtain ⟨p10, hp10, H⟩ := zbs H
    refine zEv_c (fun _ => rfl) rfl (t_qTr_layOut (oo := 186) (h := t8) (d := d) (by decide) hp10) rfl rfl ?_
    cases H
    exact zEv_r rfl
def qTr_takeUp_b9 (oo : Nat) (x1 : Int32) (s : Int32 × zK) : Option ((Int32 × zK) ⊕ (zK)) :=
  if x1 ≤ s.1 then
    some (.inr s.2)
  else
    (zix s.1 7).bind fun j4 =>
    zlet (sI s.2 (oo + 2) j4 ((gI s.2 (oo + 2) j4) &&& (((1 : Int32) <<< (x1 &&& 31)) ^^^ (-1)))) fun h5 =>
    some (.inl (s.1 + 1, h5))
theorem t_qTr_takeUp_b9b {Ls : Nat} {xs : Nat → Int32} {d : Nat} {oo : Nat} {x1 : Int32} {r : zA} {s : Int32 × zK} {e : (Int32 × zK) ⊕ (zK)} (ho : oo = 180 ∨ oo = 186) (H : qTr_takeUp_b9 oo x1 s = some e) (K : match (generalizing := false) e with | .inl s' => zEv (zXs Ls xs) d zm_100 (9, [some (.ref oo), some (.int x1), some (.int s'.1)], [], zhp s'.2) r | .inr v => ∀ (z2 : Option Value), zEv (zXs Ls xs) d zm_100 (34, [some (.ref oo), some (.int x1), z2], [], zhp v) r) : zEv (zXs Ls xs) d zm_100 (9, [some (.ref oo), some (.int x1), some (.int s.1)], [], zhp s.2) r := by
  unfold qTr_takeUp_b9 at H
  rcases ho with rfl | rfl
  · refine zEv_k 3 (f' := (if x1 ≤ s.1 then 34 else 14, [some (.ref 180), some (.int x1), some (.int s.1)], [], zhp s.2)) rfl (zEv_if (fun c3 => ?_) (fun c3 => ?_))
    · replace H := zif_t c3 H
      cases H
      exact K _
    · replace H := zif_f c3 H
      refine zEv_k 1 (f' := (15, [some (.ref 180), some (.int x1), some (.int s.1)], [.ref 180], zhp s.2)) rfl ?_
      refine zRgr rfl rfl rfl (by decide) (b := 180 + 2) rfl ?_
      refine zEv_k 2 (f' := (20, [some (.ref 180), some (.int x1), some (.int s.1)], [.int s.1, .ref (180 + 2), .int s.1, .ref (180 + 2)], zhp s.2)) rfl ?_
      obtain ⟨j4, hj4, H⟩ := zbs H
      refine zRia rfl rfl (by decide) hj4 ?_
      refine zEv_k 6 (f' := (27, [some (.ref 180), some (.int x1), some (.int s.1)], [.int ((gI s.2 (180 + 2) j4) &&& (((1 : Int32) <<< (x1 &&& 31)) ^^^ (-1))), .int s.1, .ref (180 + 2)], zhp s.2)) rfl ?_
      obtain ⟨h5, eh5, H⟩ := zlets H
      refine zRis rfl rfl (by decide) hj4 eh5 ?_
      refine zEv_k 2 (f' := (9, [some (.ref 180), some (.int x1), some (.int (s.1 + 1))], [], zhp h5)) rfl ?_
      cases H
      exact K
  · refine zEv_k 3 (f' := (if x1 ≤ s.1 then 34 else 14, [some (.ref 186), some (.int x1), some (.int s.1)], [], zhp s.2)) rfl (zEv_if (fun c3 => ?_) (fun c3 => ?_))
    · replace H := zif_t c3 H
      cases H
      exact K _
    · replace H := zif_f c3 H
      refine zEv_k 1 (f' := (15, [some (.ref 186), some (.int x1), some (.int s.1)], [.ref 186], zhp s.2)) rfl ?_
      refine zRgr rfl rfl rfl (by decide) (b := 186 + 2) rfl ?_
      refine zEv_k 2 (f' := (20, [some (.ref 186), some (.int x1), some (.int s.1)], [.int s.1, .ref (186 + 2), .int s.1, .ref (186 + 2)], zhp s.2)) rfl ?_
      obtain ⟨j4, hj4, H⟩ := zbs H
      refine zRia rfl rfl (by decide) hj4 ?_
      refine zEv_k 6 (f' := (27, [some (.ref 186), some (.int x1), some (.int s.1)], [.int ((gI s.2 (186 + 2) j4) &&& (((1 : Int32) <<< (x1 &&& 31)) ^^^ (-1))), .int s.1, .ref (186 + 2)], zhp s.2)) rfl ?_
      obtain ⟨h5, eh5, H⟩ := zlets H
      refine zRis rfl rfl (by decide) hj4 eh5 ?_
      refine zEv_k 2 (f' := (9, [some (.ref 186), some (.int x1), some (.int (s.1 + 1))], [], zhp h5)) rfl ?_
      cases H
      exact K
theorem t_qTr_takeUp_b9 {Ls : Nat} {xs : Nat → Int32} {d : Nat} {oo : Nat} {x1 : Int32} {r : zA} (ho : oo = 180 ∨ oo = 186) {t : zK} (K : ∀ (z2 : Option Value), zEv (zXs Ls xs) d zm_100 (34, [some (.ref oo), some (.int x1), z2], [], zhp t) r) (n : Nat) (s : Int32 × zK) (H : zloop (qTr_takeUp_b9 oo x1) n s = some t) : zEv (zXs Ls xs) d zm_100 (9, [some (.ref oo), some (.int x1), some (.int s.1)], [], zhp s.2) r := by
  have Z := zloop_P (P := fun s => zEv (zXs Ls xs) d zm_100 (9, [some (.ref oo), some (.int x1), some (.int s.1)], [], zhp s.2) r) (b := qTr_takeUp_b9 oo x1) (t := t) (fun s s2 hb hk => by exact t_qTr_takeUp_b9b ho hb hk) (fun s hb => by exact t_qTr_takeUp_b9b ho hb K) n s H
  exact Z
def qTr_takeUp (oo : Nat) (x1 : Int32) (h : zK) : Option (zK) :=
  (zix x1 7).bind fun j1 =>
  zlet (sI h (oo + 2) j1 0) fun h2 =>
  (zloop (qTr_takeUp_b9 oo x1) zfu (0, h2)).bind fun t6 =>
  some t6
theorem t_qTr_takeUp {Ls : Nat} {xs : Nat → Int32} {d : Nat} {oo : Nat} {x1 : Int32} {h : zK} {p : zK} (ho : oo = 180 ∨ oo = 186) (H : qTr_takeUp oo x1 h = some p) : zEv (zXs Ls xs) d zm_100 (0, [some (.ref oo), some (.int x1), none], [], zhp h) (none, zhp p) := by
  unfold qTr_takeUp at H
  rcases ho with rfl | rfl
  · refine zEv_k 1 (f' := (1, [some (.ref 180), some (.int x1), none], [.ref 180], zhp h)) rfl ?_
    refine zRgr rfl rfl rfl (by decide) (b := 180 + 2) rfl ?_
    refine zEv_k 2 (f' := (6, [some (.ref 180), some (.int x1), none], [.int 0, .int x1, .ref (180 + 2)], zhp h)) rfl ?_
    obtain ⟨j1, hj1, H⟩ := zbs H
    obtain ⟨h2, eh2, H⟩ := zlets H
    refine zRis rfl rfl (by decide) hj1 eh2 ?_
    refine zEv_k 2 (f' := (9, [some (.ref 180), some (.int x1), some (.int 0)], [], zhp h2)) rfl ?_
    obtain ⟨t6, ht6, H⟩ := zbs H
    refine t_qTr_takeUp_b9 (oo := 180) (x1 := x1) (by decide) ?_ zfu _ ht6
    intro y2
    cases H
    exact zEv_r rfl
  · refine zEv_k 1 (f' := (1, [some (.ref 186), some (.int x1), none], [.ref 186], zhp h)) rfl ?_
    refine zRgr rfl rfl rfl (by decide) (b := 186 + 2) rfl ?_
    refine zEv_k 2 (f' := (6, [some (.ref 186), some (.int x1), none], [.int 0, .int x1, .ref (186 + 2)], zhp h)) rfl ?_
    obtain ⟨j1, hj1, H⟩ := zbs H
    obtain ⟨h2, eh2, H⟩ := zlets H
    refine zRis rfl rfl (by decide) hj1 eh2 ?_
    refine zEv_k 2 (f' := (9, [some (.ref 186), some (.int x1), some (.int 0)], [], zhp h2)) rfl ?_
    obtain ⟨t6, ht6, H⟩ := zbs H
    refine t_qTr_takeUp_b9 (oo := 186) (x1 := x1) (by decide) ?_ zfu _ ht6
    intro y2
    cases H
    exact zEv_r rfl
def qLa_sortPlaces_b12 (oc : Nat) (x2 : Int32) (s : Int32 × zK) : Option ((Int32 × zK) ⊕ (Int32 × zK)) :=
  if s.1 ≤ 0 then
    some (.inr (s.1, s.2))
  else
    (zix (s.1 - 1) 7).bind fun j3 =>
    (zix x2 7).bind fun j4 =>
    if (gI s.2 190 j3) ≤ (gI s.2 (oc + 6) j4) then
      some (.inr (s.1, s.2))
    else
      (zix s.1 7).bind fun j6 =>
      zlet (sI s.2 190 j6 (gI s.2 190 j3)) fun h7 =>
      some (.inl (s.1 + (-1), h7))
theorem t_qLa_sortPlaces_b12b {Ls : Nat} {xs : Nat → Int32} {d : Nat} {oc : Nat} {x2 : Int32} {r : zA} {s : Int32 × zK} {e : (Int32 × zK) ⊕ (Int32 × zK)} (ho : oc = 7 ∨ oc = 22) (H : qLa_sortPlaces_b12 oc x2 s = some e) (K : match (generalizing := false) e with | .inl s' => zEv (zXs Ls xs) d zm_30 (12, [some (.ref 184), some (.ref oc), some (.int x2), some (.int s'.1)], [], zhp s'.2) r | .inr v => zEv (zXs Ls xs) d zm_30 (53, [some (.ref 184), some (.ref oc), some (.int x2), some (.int v.1)], [], zhp v.2) r) : zEv (zXs Ls xs) d zm_30 (12, [some (.ref 184), some (.ref oc), some (.int x2), some (.int s.1)], [], zhp s.2) r := by
  unfold qLa_sortPlaces_b12 at H
  rcases ho with rfl | rfl
  · refine zEv_k 2 (f' := (if s.1 ≤ 0 then 53 else 16, [some (.ref 184), some (.ref 7), some (.int x2), some (.int s.1)], [], zhp s.2)) rfl (zEv_if (fun c2 => ?_) (fun c2 => ?_))
    · replace H := zif_t c2 H
      cases H
      exact K
    · replace H := zif_f c2 H
      refine zEv_k 1 (f' := (17, [some (.ref 184), some (.ref 7), some (.int x2), some (.int s.1)], [.ref 184], zhp s.2)) rfl ?_
      refine zRgr rfl rfl rfl (by decide) (b := 190) rfl ?_
      refine zEv_k 3 (f' := (23, [some (.ref 184), some (.ref 7), some (.int x2), some (.int s.1)], [.int (s.1 - 1), .ref 190], zhp s.2)) rfl ?_
      obtain ⟨j3, hj3, H⟩ := zbs H
      refine zRia rfl rfl (by decide) hj3 ?_
      refine zEv_k 1 (f' := (25, [some (.ref 184), some (.ref 7), some (.int x2), some (.int s.1)], [.ref 7, .int (gI s.2 190 j3)], zhp s.2)) rfl ?_
      refine zRgr rfl rfl rfl (by decide) (b := 7 + 6) rfl ?_
      refine zEv_k 1 (f' := (29, [some (.ref 184), some (.ref 7), some (.int x2), some (.int s.1)], [.int x2, .ref (7 + 6), .int (gI s.2 190 j3)], zhp s.2)) rfl ?_
      obtain ⟨j4, hj4, H⟩ := zbs H
      refine zRia rfl rfl (by decide) hj4 ?_
      refine zEv_k 1 (f' := (if (gI s.2 190 j3) ≤ (gI s.2 (7 + 6) j4) then 53 else 33, [some (.ref 184), some (.ref 7), some (.int x2), some (.int s.1)], [], zhp s.2)) rfl (zEv_if (fun c5 => ?_) (fun c5 => ?_))
      · replace H := zif_t c5 H
        cases H
        exact K
      · replace H := zif_f c5 H
        refine zEv_k 1 (f' := (34, [some (.ref 184), some (.ref 7), some (.int x2), some (.int s.1)], [.ref 184], zhp s.2)) rfl ?_
        refine zRgr rfl rfl rfl (by decide) (b := 190) rfl ?_
        refine zEv_k 2 (f' := (39, [some (.ref 184), some (.ref 7), some (.int x2), some (.int s.1)], [.ref 184, .int s.1, .ref 190], zhp s.2)) rfl ?_
        refine zRgr rfl rfl rfl (by decide) (b := 190) rfl ?_
        refine zEv_k 3 (f' := (45, [some (.ref 184), some (.ref 7), some (.int x2), some (.int s.1)], [.int (s.1 - 1), .ref 190, .int s.1, .ref 190], zhp s.2)) rfl ?_
        refine zRia rfl rfl (by decide) hj3 ?_
        obtain ⟨j6, hj6, H⟩ := zbs H
        obtain ⟨h7, eh7, H⟩ := zlets H
        refine zRis rfl rfl (by decide) hj6 eh7 ?_
        refine zEv_k 2 (f' := (12, [some (.ref 184), some (.ref 7), some (.int x2), some (.int (s.1 + (-1)))], [], zhp h7)) rfl ?_
        cases H
        exact K
  · refine zEv_k 2 (f' := (if s.1 ≤ 0 then 53 else 16, [some (.ref 184), some (.ref 22), some (.int x2), some (.int s.1)], [], zhp s.2)) rfl (zEv_if (fun c2 => ?_) (fun c2 => ?_))
    · replace H := zif_t c2 H
      cases H
      exact K
    · replace H := zif_f c2 H
      refine zEv_k 1 (f' := (17, [some (.ref 184), some (.ref 22), some (.int x2), some (.int s.1)], [.ref 184], zhp s.2)) rfl ?_
      refine zRgr rfl rfl rfl (by decide) (b := 190) rfl ?_
      refine zEv_k 3 (f' := (23, [some (.ref 184), some (.ref 22), some (.int x2), some (.int s.1)], [.int (s.1 - 1), .ref 190], zhp s.2)) rfl ?_
      obtain ⟨j3, hj3, H⟩ := zbs H
      refine zRia rfl rfl (by decide) hj3 ?_
      refine zEv_k 1 (f' := (25, [some (.ref 184), some (.ref 22), some (.int x2), some (.int s.1)], [.ref 22, .int (gI s.2 190 j3)], zhp s.2)) rfl ?_
      refine zRgr rfl rfl rfl (by decide) (b := 22 + 6) rfl ?_
      refine zEv_k 1 (f' := (29, [some (.ref 184), some (.ref 22), some (.int x2), some (.int s.1)], [.int x2, .ref (22 + 6), .int (gI s.2 190 j3)], zhp s.2)) rfl ?_
      obtain ⟨j4, hj4, H⟩ := zbs H
      refine zRia rfl rfl (by decide) hj4 ?_
      refine zEv_k 1 (f' := (if (gI s.2 190 j3) ≤ (gI s.2 (22 + 6) j4) then 53 else 33, [some (.ref 184), some (.ref 22), some (.int x2), some (.int s.1)], [], zhp s.2)) rfl (zEv_if (fun c5 => ?_) (fun c5 => ?_))
      · replace H := zif_t c5 H
        cases H
        exact K
      · replace H := zif_f c5 H
        refine zEv_k 1 (f' := (34, [some (.ref 184), some (.ref 22), some (.int x2), some (.int s.1)], [.ref 184], zhp s.2)) rfl ?_
        refine zRgr rfl rfl rfl (by decide) (b := 190) rfl ?_
        refine zEv_k 2 (f' := (39, [some (.ref 184), some (.ref 22), some (.int x2), some (.int s.1)], [.ref 184, .int s.1, .ref 190], zhp s.2)) rfl ?_
        refine zRgr rfl rfl rfl (by decide) (b := 190) rfl ?_
        refine zEv_k 3 (f' := (45, [some (.ref 184), some (.ref 22), some (.int x2), some (.int s.1)], [.int (s.1 - 1), .ref 190, .int s.1, .ref 190], zhp s.2)) rfl ?_
        refine zRia rfl rfl (by decide) hj3 ?_
        obtain ⟨j6, hj6, H⟩ := zbs H
        obtain ⟨h7, eh7, H⟩ := zlets H
        refine zRis rfl rfl (by decide) hj6 eh7 ?_
        refine zEv_k 2 (f' := (12, [some (.ref 184), some (.ref 22), some (.int x2), some (.int (s.1 + (-1)))], [], zhp h7)) rfl ?_
        cases H
        exact K
theorem t_qLa_sortPlaces_b12 {Ls : Nat} {xs : Nat → Int32} {d : Nat} {oc : Nat} {x2 : Int32} {r : zA} (ho : oc = 7 ∨ oc = 22) {t : Int32 × zK} (K : zEv (zXs Ls xs) d zm_30 (53, [some (.ref 184), some (.ref oc), some (.int x2), some (.int t.1)], [], zhp t.2) r) (n : Nat) (s : Int32 × zK) (H : zloop (qLa_sortPlaces_b12 oc x2) n s = some t) : zEv (zXs Ls xs) d zm_30 (12, [some (.ref 184), some (.ref oc), some (.int x2), some (.int s.1)], [], zhp s.2) r := by
  have Z := zloop_P (P := fun s => zEv (zXs Ls xs) d zm_30 (12, [some (.ref 184), some (.ref oc), some (.int x2), some (.int s.1)], [], zhp s.2) r) (b := qLa_sortPlaces_b12 oc x2) (t := t) (fun s s2 hb hk => by exact t_qLa_sortPlaces_b12b ho hb hk) (fun s hb => by exact t_qLa_sortPlaces_b12b ho hb K) n s H
  exact Z
def qLa_sortPlaces_b2 (oc : Nat) (s : Int32 × zK) : Option ((Int32 × zK) ⊕ (zK)) :=
  if (gI s.2 oc 2) ≤ s.1 then
    some (.inr s.2)
  else
    (zloop (qLa_sortPlaces_b12 oc s.1) zfu (s.1, s.2)).bind fun t8 =>
    (zix s.1 7).bind fun j10 =>
    (zix t8.1 7).bind fun j11 =>
    zlet (sI t8.2 190 j11 (gI t8.2 (oc + 6) j10)) fun h12 =>
    some (.inl (s.1 + 1, h12))
theorem t_qLa_sortPlaces_b2b {Ls : Nat} {xs : Nat → Int32} {d : Nat} {oc : Nat} {r : zA} {s : Int32 × zK} {e : (Int32 × zK) ⊕ (zK)} (ho : oc = 7 ∨ oc = 22) (H : qLa_sortPlaces_b2 oc s = some e) (K : match (generalizing := false) e with | .inl s' => ∀ (z3 : Option Value), zEv (zXs Ls xs) d zm_30 (2, [some (.ref 184), some (.ref oc), some (.int s'.1), z3], [], zhp s'.2) r | .inr v => ∀ (z2 : Option Value) (z3 : Option Value), zEv (zXs Ls xs) d zm_30 (71, [some (.ref 184), some (.ref oc), z2, z3], [], zhp v) r) (y3 : Option Value) : zEv (zXs Ls xs) d zm_30 (2, [some (.ref 184), some (.ref oc), some (.int s.1), y3], [], zhp s.2) r := by
  unfold qLa_sortPlaces_b2 at H
  rcases ho with rfl | rfl
  · refine zEv_k 4 (f' := (if (gI s.2 7 2) ≤ s.1 then 71 else 10, [some (.ref 184), some (.ref 7), some (.int s.1), y3], [], zhp s.2)) rfl (zEv_if (fun c1 => ?_) (fun c1 => ?_))
    · replace H := zif_t c1 H
      cases H
      exact K _ _
    · replace H := zif_f c1 H
      refine zEv_k 2 (f' := (12, [some (.ref 184), some (.ref 7), some (.int s.1), some (.int s.1)], [], zhp s.2)) rfl ?_
      obtain ⟨t8, ht8, H⟩ := zbs H
      refine t_qLa_sortPlaces_b12 (oc := 7) (x2 := s.1) (by decide) ?_ zfu _ ht8
      refine zEv_k 1 (f' := (54, [some (.ref 184), some (.ref 7), some (.int s.1), some (.int t8.1)], [.ref 184], zhp t8.2)) rfl ?_
      refine zRgr rfl rfl rfl (by decide) (b := 190) rfl ?_
      refine zEv_k 2 (f' := (59, [some (.ref 184), some (.ref 7), some (.int s.1), some (.int t8.1)], [.ref 7, .int t8.1, .ref 190], zhp t8.2)) rfl ?_
      refine zRgr rfl rfl rfl (by decide) (b := 7 + 6) rfl ?_
      refine zEv_k 1 (f' := (63, [some (.ref 184), some (.ref 7), some (.int s.1), some (.int t8.1)], [.int s.1, .ref (7 + 6), .int t8.1, .ref 190], zhp t8.2)) rfl ?_
      obtain ⟨j10, hj10, H⟩ := zbs H
      refine zRia rfl rfl (by decide) hj10 ?_
      obtain ⟨j11, hj11, H⟩ := zbs H
      obtain ⟨h12, eh12, H⟩ := zlets H
      refine zRis rfl rfl (by decide) hj11 eh12 ?_
      refine zEv_k 2 (f' := (2, [some (.ref 184), some (.ref 7), some (.int (s.1 + 1)), some (.int t8.1)], [], zhp h12)) rfl ?_
      cases H
      exact K _
  · refine zEv_k 4 (f' := (if (gI s.2 22 2) ≤ s.1 then 71 else 10, [some (.ref 184), some (.ref 22), some (.int s.1), y3], [], zhp s.2)) rfl (zEv_if (fun c1 => ?_) (fun c1 => ?_))
    · replace H := zif_t c1 H
      cases H
      exact K _ _
    · replace H := zif_f c1 H
      refine zEv_k 2 (f' := (12, [some (.ref 184), some (.ref 22), some (.int s.1), some (.int s.1)], [], zhp s.2)) rfl ?_
      obtain ⟨t8, ht8, H⟩ := zbs H
      refine t_qLa_sortPlaces_b12 (oc := 22) (x2 := s.1) (by decide) ?_ zfu _ ht8
      refine zEv_k 1 (f' := (54, [some (.ref 184), some (.ref 22), some (.int s.1), some (.int t8.1)], [.ref 184], zhp t8.2)) rfl ?_
      refine zRgr rfl rfl rfl (by decide) (b := 190) rfl ?_
      refine zEv_k 2 (f' := (59, [some (.ref 184), some (.ref 22), some (.int s.1), some (.int t8.1)], [.ref 22, .int t8.1, .ref 190], zhp t8.2)) rfl ?_
      refine zRgr rfl rfl rfl (by decide) (b := 22 + 6) rfl ?_
      refine zEv_k 1 (f' := (63, [some (.ref 184), some (.ref 22), some (.int s.1), some (.int t8.1)], [.int s.1, .ref (22 + 6), .int t8.1, .ref 190], zhp t8.2)) rfl ?_
      obtain ⟨j10, hj10, H⟩ := zbs H
      refine zRia rfl rfl (by decide) hj10 ?_
      obtain ⟨j11, hj11, H⟩ := zbs H
      obtain ⟨h12, eh12, H⟩ := zlets H
      refine zRis rfl rfl (by decide) hj11 eh12 ?_
      refine zEv_k 2 (f' := (2, [some (.ref 184), some (.ref 22), some (.int (s.1 + 1)), some (.int t8.1)], [], zhp h12)) rfl ?_
      cases H
      exact K _
theorem t_qLa_sortPlaces_b2 {Ls : Nat} {xs : Nat → Int32} {d : Nat} {oc : Nat} {r : zA} (ho : oc = 7 ∨ oc = 22) {t : zK} (K : ∀ (z2 : Option Value) (z3 : Option Value), zEv (zXs Ls xs) d zm_30 (71, [some (.ref 184), some (.ref oc), z2, z3], [], zhp t) r) (n : Nat) (s : Int32 × zK) (H : zloop (qLa_sortPlaces_b2 oc) n s = some t) (y3 : Option Value) : zEv (zXs Ls xs) d zm_30 (2, [some (.ref 184), some (.ref oc), some (.int s.1), y3], [], zhp s.2) r := by
  have Z := zloop_P (P := fun s => ∀ (y3 : Option Value), zEv (zXs Ls xs) d zm_30 (2, [some (.ref 184), some (.ref oc), some (.int s.1), y3], [], zhp s.2) r) (b := qLa_sortPlaces_b2 oc) (t := t) (fun s s2 hb hk => by intro y3; exact t_qLa_sortPlaces_b2b ho hb hk y3) (fun s hb => by intro y3; exact t_qLa_sortPlaces_b2b ho hb K y3) n s H
  exact Z y3
def qLa_sortPlaces (oc : Nat) (h : zK) : Option (zK) :=
  (zloop (qLa_sortPlaces_b2 oc) zfu (0, h)).bind fun t13 =>
  some t13
theorem t_qLa_sortPlaces {Ls : Nat} {xs : Nat → Int32} {d : Nat} {oc : Nat} {h : zK} {p : zK} (ho : oc = 7 ∨ oc = 22) (H : qLa_sortPlaces oc h = some p) : zEv (zXs Ls xs) d zm_30 (0, [some (.ref 184), some (.ref oc), none, none], [], zhp h) (none, zhp p) := by
  unfold qLa_sortPlaces at H
  rcases ho with rfl | rfl
  · refine zEv_k 2 (f' := (2, [some (.ref 184), some (.ref 7), some (.int 0), none], [], zhp h)) rfl ?_
    obtain ⟨t13, ht13, H⟩ := zbs H
    refine t_qLa_sortPlaces_b2 (oc := 7) (by decide) ?_ zfu _ ht13 _
    intro y2 y3
    cases H
    exact zEv_r rfl
  · refine zEv_k 2 (f' := (2, [some (.ref 184), some (.ref 22), some (.int 0), none], [], zhp h)) rfl ?_
    obtain ⟨t13, ht13, H⟩ := zbs H
    refine t_qLa_sortPlaces_b2 (oc := 22) (by decide) ?_ zfu _ ht13 _
    intro y2 y3
    cases H
    exact zEv_r rfl
def qLa_findTwins_b20 (oc : Nat) (x2 : Int32) (h : zK) (s : Int32 × Int32) : Option ((Int32 × Int32) ⊕ (Int32)) :=
  if (gI h oc 2) ≤ s.2 then
    some (.inr s.1)
  else
    (zix s.2 7).bind fun j4 =>
    (zix x2 7).bind fun j5 =>
    zlet (
        if (gI h oc 1) < (zf_abs ((gI h 190 j4) - (gI h 190 j5))) then
          0
        else
          1
      ) fun (v7 : Int32) =>
    (zix (x2 - 1) 7).bind fun j8 =>
    zlet (
        if (gI h oc 1) < (zf_abs ((gI h 190 j4) - (gI h 190 j8))) then
          0
        else
          1
      ) fun (v10 : Int32) =>
    zlet (
        if s.1 = 0 then
          0
        else
          if ¬ v7 = v10 then
            0
          else
            1
      ) fun (v12 : Int32) =>
    some (.inl (v12, s.2 + 1))
theorem t_qLa_findTwins_b20b {Ls : Nat} {xs : Nat → Int32} {d : Nat} {oc : Nat} {x2 : Int32} {h : zK} {r : zA} {s : Int32 × Int32} {e : (Int32 × Int32) ⊕ (Int32)} (ho : oc = 7 ∨ oc = 22) (H : qLa_findTwins_b20 oc x2 h s = some e) (K : match (generalizing := false) e with | .inl s' => ∀ (z5 : Option Value) (z6 : Option Value), zEv (zXs Ls xs) d zm_31 (20, [some (.ref 184), some (.ref oc), some (.int x2), some (.int s'.1), some (.int s'.2), z5, z6], [], zhp h) r | .inr v => ∀ (z4 : Option Value) (z5 : Option Value) (z6 : Option Value), zEv (zXs Ls xs) d zm_31 (116, [some (.ref 184), some (.ref oc), some (.int x2), some (.int v), z4, z5, z6], [], zhp h) r) (y5 : Option Value) (y6 : Option Value) : zEv (zXs Ls xs) d zm_31 (20, [some (.ref 184), some (.ref oc), some (.int x2), some (.int s.1), some (.int s.2), y5, y6], [], zhp h) r := by
  unfold qLa_findTwins_b20 at H
  rcases ho with rfl | rfl
  · refine zEv_k 4 (f' := (if (gI h 7 2) ≤ s.2 then 116 else 29, [some (.ref 184), some (.ref 7), some (.int x2), some (.int s.1), some (.int s.2), y5, y6], [], zhp h)) rfl (zEv_if (fun c3 => ?_) (fun c3 => ?_))
    · replace H := zif_t c3 H
      cases H
      exact K _ _ _
    · replace H := zif_f c3 H
      refine zEv_k 1 (f' := (30, [some (.ref 184), some (.ref 7), some (.int x2), some (.int s.1), some (.int s.2), y5, y6], [.ref 184], zhp h)) rfl ?_
      refine zRgr rfl rfl rfl (by decide) (b := 190) rfl ?_
      refine zEv_k 1 (f' := (35, [some (.ref 184), some (.ref 7), some (.int x2), some (.int s.1), some (.int s.2), y5, y6], [.int s.2, .ref 190], zhp h)) rfl ?_
      obtain ⟨j4, hj4, H⟩ := zbs H
      refine zRia rfl rfl (by decide) hj4 ?_
      refine zEv_k 1 (f' := (37, [some (.ref 184), some (.ref 7), some (.int x2), some (.int s.1), some (.int s.2), y5, y6], [.ref 184, .int (gI h 190 j4)], zhp h)) rfl ?_
      refine zRgr rfl rfl rfl (by decide) (b := 190) rfl ?_
      refine zEv_k 1 (f' := (41, [some (.ref 184), some (.ref 7), some (.int x2), some (.int s.1), some (.int s.2), y5, y6], [.int x2, .ref 190, .int (gI h 190 j4)], zhp h)) rfl ?_
      obtain ⟨j5, hj5, H⟩ := zbs H
      refine zRia rfl rfl (by decide) hj5 ?_
      obtain ⟨v7, hv7, H⟩ := zlets H
      have kv7 : zEv (zXs Ls xs) d zm_31 (58, [some (.ref 184), some (.ref 7), some (.int x2), some (.int s.1), some (.int s.2), y5, y6], [.int v7], zhp h) r := by
        refine zEv_k 2 (f' := (61, [some (.ref 184), some (.ref 7), some (.int x2), some (.int s.1), some (.int s.2), some (.int v7), y6], [.ref 184], zhp h)) rfl ?_
        refine zRgr rfl rfl rfl (by decide) (b := 190) rfl ?_
        refine zEv_k 1 (f' := (66, [some (.ref 184), some (.ref 7), some (.int x2), some (.int s.1), some (.int s.2), some (.int v7), y6], [.int s.2, .ref 190], zhp h)) rfl ?_
        refine zRia rfl rfl (by decide) hj4 ?_
        refine zEv_k 1 (f' := (68, [some (.ref 184), some (.ref 7), some (.int x2), some (.int s.1), some (.int s.2), some (.int v7), y6], [.ref 184, .int (gI h 190 j4)], zhp h)) rfl ?_
        refine zRgr rfl rfl rfl (by decide) (b := 190) rfl ?_
        refine zEv_k 3 (f' := (74, [some (.ref 184), some (.ref 7), some (.int x2), some (.int s.1), some (.int s.2), some (.int v7), y6], [.int (x2 - 1), .ref 190, .int (gI h 190 j4)], zhp h)) rfl ?_
        obtain ⟨j8, hj8, H⟩ := zbs H
        refine zRia rfl rfl (by decide) hj8 ?_
        obtain ⟨v10, hv10, H⟩ := zlets H
        have kv10 : zEv (zXs Ls xs) d zm_31 (91, [some (.ref 184), some (.ref 7), some (.int x2), some (.int s.1), some (.int s.2), some (.int v7), y6], [.int v10], zhp h) r := by
          obtain ⟨v12, hv12, H⟩ := zlets H
          have kv12 : zEv (zXs Ls xs) d zm_31 (109, [some (.ref 184), some (.ref 7), some (.int x2), some (.int s.1), some (.int s.2), some (.int v7), some (.int v10)], [.int v12], zhp h) r := by
            refine zEv_k 3 (f' := (20, [some (.ref 184), some (.ref 7), some (.int x2), some (.int v12), some (.int (s.2 + 1)), some (.int v7), some (.int v10)], [], zhp h)) rfl ?_
            cases H
            exact K _ _
          clear H
          refine zEv_k 3 (f' := (if s.1 = 0 then 108 else 97, [some (.ref 184), some (.ref 7), some (.int x2), some (.int s.1), some (.int s.2), some (.int v7), some (.int v10)], [], zhp h)) rfl (zEv_if (fun c11 => ?_) (fun c11 => ?_))
          · replace hv12 := zif_t c11 hv12
            refine zEv_k 1 (f' := (109, [some (.ref 184), some (.ref 7), some (.int x2), some (.int s.1), some (.int s.2), some (.int v7), some (.int v10)], [.int 0], zhp h)) rfl ?_
            cases hv12
            exact kv12
          · replace hv12 := zif_f c11 hv12
            refine zEv_k 3 (f' := (if ¬ v7 = v10 then 108 else 104, [some (.ref 184), some (.ref 7), some (.int x2), some (.int s.1), some (.int s.2), some (.int v7), some (.int v10)], [], zhp h)) rfl (zEv_if (fun c13 => ?_) (fun c13 => ?_))
            · replace hv12 := zif_t c13 hv12
              refine zEv_k 1 (f' := (109, [some (.ref 184), some (.ref 7), some (.int x2), some (.int s.1), some (.int s.2), some (.int v7), some (.int v10)], [.int 0], zhp h)) rfl ?_
              cases hv12
              exact kv12
            · replace hv12 := zif_f c13 hv12
              refine zEv_k 2 (f' := (109, [some (.ref 184), some (.ref 7), some (.int x2), some (.int s.1), some (.int s.2), some (.int v7), some (.int v10)], [.int 1], zhp h)) rfl ?_
              cases hv12
              exact kv12
        clear H
        refine zEv_k 5 (f' := (if (gI h 7 1) < (zf_abs ((gI h 190 j4) - (gI h 190 j8))) then 90 else 86, [some (.ref 184), some (.ref 7), some (.int x2), some (.int s.1), some (.int s.2), some (.int v7), y6], [], zhp h)) rfl (zEv_if (fun c9 => ?_) (fun c9 => ?_))
        · replace hv10 := zif_t c9 hv10
          refine zEv_k 1 (f' := (91, [some (.ref 184), some (.ref 7), some (.int x2), some (.int s.1), some (.int s.2), some (.int v7), y6], [.int 0], zhp h)) rfl ?_
          cases hv10
          exact kv10
        · replace hv10 := zif_f c9 hv10
          refine zEv_k 2 (f' := (91, [some (.ref 184), some (.ref 7), some (.int x2), some (.int s.1), some (.int s.2), some (.int v7), y6], [.int 1], zhp h)) rfl ?_
          cases hv10
          exact kv10
      clear H
      refine zEv_k 5 (f' := (if (gI h 7 1) < (zf_abs ((gI h 190 j4) - (gI h 190 j5))) then 57 else 53, [some (.ref 184), some (.ref 7), some (.int x2), some (.int s.1), some (.int s.2), y5, y6], [], zhp h)) rfl (zEv_if (fun c6 => ?_) (fun c6 => ?_))
      · replace hv7 := zif_t c6 hv7
        refine zEv_k 1 (f' := (58, [some (.ref 184), some (.ref 7), some (.int x2), some (.int s.1), some (.int s.2), y5, y6], [.int 0], zhp h)) rfl ?_
        cases hv7
        exact kv7
      · replace hv7 := zif_f c6 hv7
        refine zEv_k 2 (f' := (58, [some (.ref 184), some (.ref 7), some (.int x2), some (.int s.1), some (.int s.2), y5, y6], [.int 1], zhp h)) rfl ?_
        cases hv7
        exact kv7
  · refine zEv_k 4 (f' := (if (gI h 22 2) ≤ s.2 then 116 else 29, [some (.ref 184), some (.ref 22), some (.int x2), some (.int s.1), some (.int s.2), y5, y6], [], zhp h)) rfl (zEv_if (fun c3 => ?_) (fun c3 => ?_))
    · replace H := zif_t c3 H
      cases H
      exact K _ _ _
    · replace H := zif_f c3 H
      refine zEv_k 1 (f' := (30, [some (.ref 184), some (.ref 22), some (.int x2), some (.int s.1), some (.int s.2), y5, y6], [.ref 184], zhp h)) rfl ?_
      refine zRgr rfl rfl rfl (by decide) (b := 190) rfl ?_
      refine zEv_k 1 (f' := (35, [some (.ref 184), some (.ref 22), some (.int x2), some (.int s.1), some (.int s.2), y5, y6], [.int s.2, .ref 190], zhp h)) rfl ?_
      obtain ⟨j4, hj4, H⟩ := zbs H
      refine zRia rfl rfl (by decide) hj4 ?_
      refine zEv_k 1 (f' := (37, [some (.ref 184), some (.ref 22), some (.int x2), some (.int s.1), some (.int s.2), y5, y6], [.ref 184, .int (gI h 190 j4)], zhp h)) rfl ?_
      refine zRgr rfl rfl rfl (by decide) (b := 190) rfl ?_
      refine zEv_k 1 (f' := (41, [some (.ref 184), some (.ref 22), some (.int x2), some (.int s.1), some (.int s.2), y5, y6], [.int x2, .ref 190, .int (gI h 190 j4)], zhp h)) rfl ?_
      obtain ⟨j5, hj5, H⟩ := zbs H
      refine zRia rfl rfl (by decide) hj5 ?_
      obtain ⟨v7, hv7, H⟩ := zlets H
      have kv7 : zEv (zXs Ls xs) d zm_31 (58, [some (.ref 184), some (.ref 22), some (.int x2), some (.int s.1), some (.int s.2), y5, y6], [.int v7], zhp h) r := by
        refine zEv_k 2 (f' := (61, [some (.ref 184), some (.ref 22), some (.int x2), some (.int s.1), some (.int s.2), some (.int v7), y6], [.ref 184], zhp h)) rfl ?_
        refine zRgr rfl rfl rfl (by decide) (b := 190) rfl ?_
        refine zEv_k 1 (f' := (66, [some (.ref 184), some (.ref 22), some (.int x2), some (.int s.1), some (.int s.2), some (.int v7), y6], [.int s.2, .ref 190], zhp h)) rfl ?_
        refine zRia rfl rfl (by decide) hj4 ?_
        refine zEv_k 1 (f' := (68, [some (.ref 184), some (.ref 22), some (.int x2), some (.int s.1), some (.int s.2), some (.int v7), y6], [.ref 184, .int (gI h 190 j4)], zhp h)) rfl ?_
        refine zRgr rfl rfl rfl (by decide) (b := 190) rfl ?_
        refine zEv_k 3 (f' := (74, [some (.ref 184), some (.ref 22), some (.int x2), some (.int s.1), some (.int s.2), some (.int v7), y6], [.int (x2 - 1), .ref 190, .int (gI h 190 j4)], zhp h)) rfl ?_
        obtain ⟨j8, hj8, H⟩ := zbs H
        refine zRia rfl rfl (by decide) hj8 ?_
        obtain ⟨v10, hv10, H⟩ := zlets H
        have kv10 : zEv (zXs Ls xs) d zm_31 (91, [some (.ref 184), some (.ref 22), some (.int x2), some (.int s.1), some (.int s.2), some (.int v7), y6], [.int v10], zhp h) r := by
          obtain ⟨v12, hv12, H⟩ := zlets H
          have kv12 : zEv (zXs Ls xs) d zm_31 (109, [some (.ref 184), some (.ref 22), some (.int x2), some (.int s.1), some (.int s.2), some (.int v7), some (.int v10)], [.int v12], zhp h) r := by
            refine zEv_k 3 (f' := (20, [some (.ref 184), some (.ref 22), some (.int x2), some (.int v12), some (.int (s.2 + 1)), some (.int v7), some (.int v10)], [], zhp h)) rfl ?_
            cases H
            exact K _ _
          clear H
          refine zEv_k 3 (f' := (if s.1 = 0 then 108 else 97, [some (.ref 184), some (.ref 22), some (.int x2), some (.int s.1), some (.int s.2), some (.int v7), some (.int v10)], [], zhp h)) rfl (zEv_if (fun c11 => ?_) (fun c11 => ?_))
          · replace hv12 := zif_t c11 hv12
            refine zEv_k 1 (f' := (109, [some (.ref 184), some (.ref 22), some (.int x2), some (.int s.1), some (.int s.2), some (.int v7), some (.int v10)], [.int 0], zhp h)) rfl ?_
            cases hv12
            exact kv12
          · replace hv12 := zif_f c11 hv12
            refine zEv_k 3 (f' := (if ¬ v7 = v10 then 108 else 104, [some (.ref 184), some (.ref 22), some (.int x2), some (.int s.1), some (.int s.2), some (.int v7), some (.int v10)], [], zhp h)) rfl (zEv_if (fun c13 => ?_) (fun c13 => ?_))
            · replace hv12 := zif_t c13 hv12
              refine zEv_k 1 (f' := (109, [some (.ref 184), some (.ref 22), some (.int x2), some (.int s.1), some (.int s.2), some (.int v7), some (.int v10)], [.int 0], zhp h)) rfl ?_
              cases hv12
              exact kv12
            · replace hv12 := zif_f c13 hv12
              refine zEv_k 2 (f' := (109, [some (.ref 184), some (.ref 22), some (.int x2), some (.int s.1), some (.int s.2), some (.int v7), some (.int v10)], [.int 1], zhp h)) rfl ?_
              cases hv12
              exact kv12
        clear H
        refine zEv_k 5 (f' := (if (gI h 22 1) < (zf_abs ((gI h 190 j4) - (gI h 190 j8))) then 90 else 86, [some (.ref 184), some (.ref 22), some (.int x2), some (.int s.1), some (.int s.2), some (.int v7), y6], [], zhp h)) rfl (zEv_if (fun c9 => ?_) (fun c9 => ?_))
        · replace hv10 := zif_t c9 hv10
          refine zEv_k 1 (f' := (91, [some (.ref 184), some (.ref 22), some (.int x2), some (.int s.1), some (.int s.2), some (.int v7), y6], [.int 0], zhp h)) rfl ?_
          cases hv10
          exact kv10
        · replace hv10 := zif_f c9 hv10
          refine zEv_k 2 (f' := (91, [some (.ref 184), some (.ref 22), some (.int x2), some (.int s.1), some (.int s.2), some (.int v7), y6], [.int 1], zhp h)) rfl ?_
          cases hv10
          exact kv10
      clear H
      refine zEv_k 5 (f' := (if (gI h 22 1) < (zf_abs ((gI h 190 j4) - (gI h 190 j5))) then 57 else 53, [some (.ref 184), some (.ref 22), some (.int x2), some (.int s.1), some (.int s.2), y5, y6], [], zhp h)) rfl (zEv_if (fun c6 => ?_) (fun c6 => ?_))
      · replace hv7 := zif_t c6 hv7
        refine zEv_k 1 (f' := (58, [some (.ref 184), some (.ref 22), some (.int x2), some (.int s.1), some (.int s.2), y5, y6], [.int 0], zhp h)) rfl ?_
        cases hv7
        exact kv7
      · replace hv7 := zif_f c6 hv7
        refine zEv_k 2 (f' := (58, [some (.ref 184), some (.ref 22), some (.int x2), some (.int s.1), some (.int s.2), y5, y6], [.int 1], zhp h)) rfl ?_
        cases hv7
        exact kv7
theorem t_qLa_findTwins_b20 {Ls : Nat} {xs : Nat → Int32} {d : Nat} {oc : Nat} {x2 : Int32} {h : zK} {r : zA} (ho : oc = 7 ∨ oc = 22) {t : Int32} (K : ∀ (z4 : Option Value) (z5 : Option Value) (z6 : Option Value), zEv (zXs Ls xs) d zm_31 (116, [some (.ref 184), some (.ref oc), some (.int x2), some (.int t), z4, z5, z6], [], zhp h) r) (n : Nat) (s : Int32 × Int32) (H : zloop (qLa_findTwins_b20 oc x2 h) n s = some t) (y5 : Option Value) (y6 : Option Value) : zEv (zXs Ls xs) d zm_31 (20, [some (.ref 184), some (.ref oc), some (.int x2), some (.int s.1), some (.int s.2), y5, y6], [], zhp h) r := by
  have Z := zloop_P (P := fun s => ∀ (y5 : Option Value) (y6 : Option Value), zEv (zXs Ls xs) d zm_31 (20, [some (.ref 184), some (.ref oc), some (.int x2), some (.int s.1), some (.int s.2), y5, y6], [], zhp h) r) (b := qLa_findTwins_b20 oc x2 h) (t := t) (fun s s2 hb hk => by intro y5 y6; exact t_qLa_findTwins_b20b ho hb hk y5 y6) (fun s hb => by intro y5 y6; exact t_qLa_findTwins_b20b ho hb K y5 y6) n s H
  exact Z y5 y6
def qLa_findTwins_b7 (oc : Nat) (s : Int32 × zK) : Option ((Int32 × zK) ⊕ (zK)) :=
  if (gI s.2 oc 2) ≤ s.1 then
    some (.inr s.2)
  else
    (zloop (qLa_findTwins_b20 oc s.1 s.2) zfu (1, 0)).bind fun t14 =>
    zlet (
        if t14 = 0 then
          0
        else
          (1 : Int32) <<< (s.1 &&& 31)
      ) fun (v17 : Int32) =>
    zlet (sI s.2 184 5 ((gI s.2 184 5) ||| v17)) fun h18 =>
    some (.inl (s.1 + 1, h18))
theorem t_qLa_findTwins_b7b {Ls : Nat} {xs : Nat → Int32} {d : Nat} {oc : Nat} {r : zA} {s : Int32 × zK} {e : (Int32 × zK) ⊕ (zK)} (ho : oc = 7 ∨ oc = 22) (H : qLa_findTwins_b7 oc s = some e) (K : match (generalizing := false) e with | .inl s' => ∀ (z3 : Option Value) (z4 : Option Value) (z5 : Option Value) (z6 : Option Value), zEv (zXs Ls xs) d zm_31 (7, [some (.ref 184), some (.ref oc), some (.int s'.1), z3, z4, z5, z6], [], zhp s'.2) r | .inr v => ∀ (z2 : Option Value) (z3 : Option Value) (z4 : Option Value) (z5 : Option Value) (z6 : Option Value), zEv (zXs Ls xs) d zm_31 (142, [some (.ref 184), some (.ref oc), z2, z3, z4, z5, z6], [], zhp v) r) (y3 : Option Value) (y4 : Option Value) (y5 : Option Value) (y6 : Option Value) : zEv (zXs Ls xs) d zm_31 (7, [some (.ref 184), some (.ref oc), some (.int s.1), y3, y4, y5, y6], [], zhp s.2) r := by
  unfold qLa_findTwins_b7 at H
  rcases ho with rfl | rfl
  · refine zEv_k 4 (f' := (if (gI s.2 7 2) ≤ s.1 then 142 else 15, [some (.ref 184), some (.ref 7), some (.int s.1), y3, y4, y5, y6], [], zhp s.2)) rfl (zEv_if (fun c2 => ?_) (fun c2 => ?_))
    · replace H := zif_t c2 H
      cases H
      exact K _ _ _ _ _
    · replace H := zif_f c2 H
      refine zEv_k 4 (f' := (20, [some (.ref 184), some (.ref 7), some (.int s.1), some (.int 1), some (.int 0), y5, y6], [], zhp s.2)) rfl ?_
      obtain ⟨t14, ht14, H⟩ := zbs H
      refine t_qLa_findTwins_b20 (oc := 7) (x2 := s.1) (h := s.2) (by decide) ?_ zfu _ ht14 _ _
      intro y4 y5 y6
      obtain ⟨v17, hv17, H⟩ := zlets H
      have kv17 : zEv (zXs Ls xs) d zm_31 (132, [some (.ref 184), some (.ref 7), some (.int s.1), some (.int t14), y4, y5, y6], [.int v17, .int (gI s.2 184 5), .ref 184], zhp s.2) r := by
        obtain ⟨h18, eh18, H⟩ := zlets H
        refine zEv_w (F := fun z => (136, [some (.ref 184), some (.ref 7), some (.int s.1), some (.int t14), y4, y5, y6], [], zhp z)) (h0 := sI s.2 184 5 ((gI s.2 184 5) ||| v17)) 2 rfl eh18 ?_
        refine zEv_k 2 (f' := (7, [some (.ref 184), some (.ref 7), some (.int (s.1 + 1)), some (.int t14), y4, y5, y6], [], zhp h18)) rfl ?_
        cases H
        exact K _ _ _ _
      clear H
      refine zEv_k 5 (f' := (if t14 = 0 then 131 else 125, [some (.ref 184), some (.ref 7), some (.int s.1), some (.int t14), y4, y5, y6], [.int (gI s.2 184 5), .ref 184], zhp s.2)) rfl (zEv_if (fun c16 => ?_) (fun c16 => ?_))
      · replace hv17 := zif_t c16 hv17
        refine zEv_k 1 (f' := (132, [some (.ref 184), some (.ref 7), some (.int s.1), some (.int t14), y4, y5, y6], [.int 0, .int (gI s.2 184 5), .ref 184], zhp s.2)) rfl ?_
        cases hv17
        exact kv17
      · replace hv17 := zif_f c16 hv17
        refine zEv_k 4 (f' := (132, [some (.ref 184), some (.ref 7), some (.int s.1), some (.int t14), y4, y5, y6], [.int ((1 : Int32) <<< (s.1 &&& 31)), .int (gI s.2 184 5), .ref 184], zhp s.2)) rfl ?_
        cases hv17
        exact kv17
  · refine zEv_k 4 (f' := (if (gI s.2 22 2) ≤ s.1 then 142 else 15, [some (.ref 184), some (.ref 22), some (.int s.1), y3, y4, y5, y6], [], zhp s.2)) rfl (zEv_if (fun c2 => ?_) (fun c2 => ?_))
    · replace H := zif_t c2 H
      cases H
      exact K _ _ _ _ _
    · replace H := zif_f c2 H
      refine zEv_k 4 (f' := (20, [some (.ref 184), some (.ref 22), some (.int s.1), some (.int 1), some (.int 0), y5, y6], [], zhp s.2)) rfl ?_
      obtain ⟨t14, ht14, H⟩ := zbs H
      refine t_qLa_findTwins_b20 (oc := 22) (x2 := s.1) (h := s.2) (by decide) ?_ zfu _ ht14 _ _
      intro y4 y5 y6
      obtain ⟨v17, hv17, H⟩ := zlets H
      have kv17 : zEv (zXs Ls xs) d zm_31 (132, [some (.ref 184), some (.ref 22), some (.int s.1), some (.int t14), y4, y5, y6], [.int v17, .int (gI s.2 184 5), .ref 184], zhp s.2) r := by
        obtain ⟨h18, eh18, H⟩ := zlets H
        refine zEv_w (F := fun z => (136, [some (.ref 184), some (.ref 22), some (.int s.1), some (.int t14), y4, y5, y6], [], zhp z)) (h0 := sI s.2 184 5 ((gI s.2 184 5) ||| v17)) 2 rfl eh18 ?_
        refine zEv_k 2 (f' := (7, [some (.ref 184), some (.ref 22), some (.int (s.1 + 1)), some (.int t14), y4, y5, y6], [], zhp h18)) rfl ?_
        cases H
        exact K _ _ _ _
      clear H
      refine zEv_k 5 (f' := (if t14 = 0 then 131 else 125, [some (.ref 184), some (.ref 22), some (.int s.1), some (.int t14), y4, y5, y6], [.int (gI s.2 184 5), .ref 184], zhp s.2)) rfl (zEv_if (fun c16 => ?_) (fun c16 => ?_))
      · replace hv17 := zif_t c16 hv17
        refine zEv_k 1 (f' := (132, [some (.ref 184), some (.ref 22), some (.int s.1), some (.int t14), y4, y5, y6], [.int 0, .int (gI s.2 184 5), .ref 184], zhp s.2)) rfl ?_
        cases hv17
        exact kv17
      · replace hv17 := zif_f c16 hv17
        refine zEv_k 4 (f' := (132, [some (.ref 184), some (.ref 22), some (.int s.1), some (.int t14), y4, y5, y6], [.int ((1 : Int32) <<< (s.1 &&& 31)), .int (gI s.2 184 5), .ref 184], zhp s.2)) rfl ?_
        cases hv17
        exact kv17
theorem t_qLa_findTwins_b7 {Ls : Nat} {xs : Nat → Int32} {d : Nat} {oc : Nat} {r : zA} (ho : oc = 7 ∨ oc = 22) {t : zK} (K : ∀ (z2 : Option Value) (z3 : Option Value) (z4 : Option Value) (z5 : Option Value) (z6 : Option Value), zEv (zXs Ls xs) d zm_31 (142, [some (.ref 184), some (.ref oc), z2, z3, z4, z5, z6], [], zhp t) r) (n : Nat) (s : Int32 × zK) (H : zloop (qLa_findTwins_b7 oc) n s = some t) (y3 : Option Value) (y4 : Option Value) (y5 : Option Value) (y6 : Option Value) : zEv (zXs Ls xs) d zm_31 (7, [some (.ref 184), some (.ref oc), some (.int s.1), y3, y4, y5, y6], [], zhp s.2) r := by
  have Z := zloop_P (P := fun s => ∀ (y3 : Option Value) (y4 : Option Value) (y5 : Option Value) (y6 : Option Value), zEv (zXs Ls xs) d zm_31 (7, [some (.ref 184), some (.ref oc), some (.int s.1), y3, y4, y5, y6], [], zhp s.2) r) (b := qLa_findTwins_b7 oc) (t := t) (fun s s2 hb hk => by intro y3 y4 y5 y6; exact t_qLa_findTwins_b7b ho hb hk y3 y4 y5 y6) (fun s hb => by intro y3 y4 y5 y6; exact t_qLa_findTwins_b7b ho hb K y3 y4 y5 y6) n s H
  exact Z y3 y4 y5 y6
def qLa_findTwins (oc : Nat) (h : zK) : Option (zK) :=
  zlet (sI h 184 5 0) fun h1 =>
  (zloop (qLa_findTwins_b7 oc) zfu (1, h1)).bind fun t19 =>
  some t19
theorem t_qLa_findTwins {Ls : Nat} {xs : Nat → Int32} {d : Nat} {oc : Nat} {h : zK} {p : zK} (ho : oc = 7 ∨ oc = 22) (H : qLa_findTwins oc h = some p) : zEv (zXs Ls xs) d zm_31 (0, [some (.ref 184), some (.ref oc), none, none, none, none, none], [], zhp h) (none, zhp p) := by
  unfold qLa_findTwins at H
  rcases ho with rfl | rfl
  · obtain ⟨h1, eh1, H⟩ := zlets H
    refine zEv_w (F := fun z => (5, [some (.ref 184), some (.ref 7), none, none, none, none, none], [], zhp z)) (h0 := sI h 184 5 0) 3 rfl eh1 ?_
    refine zEv_k 2 (f' := (7, [some (.ref 184), some (.ref 7), some (.int 1), none, none, none, none], [], zhp h1)) rfl ?_
    obtain ⟨t19, ht19, H⟩ := zbs H
    refine t_qLa_findTwins_b7 (oc := 7) (by decide) ?_ zfu _ ht19 _ _ _ _
    intro y2 y3 y4 y5 y6
    cases H
    exact zEv_r rfl
  · obtain ⟨h1, eh1, H⟩ := zlets H
    refine zEv_w (F := fun z => (5, [some (.ref 184), some (.ref 22), none, none, none, none, none], [], zhp z)) (h0 := sI h 184 5 0) 3 rfl eh1 ?_
    refine zEv_k 2 (f' := (7, [some (.ref 184), some (.ref 22), some (.int 1), none, none, none, none], [], zhp h1)) rfl ?_
    obtain ⟨t19, ht19, H⟩ := zbs H
    refine t_qLa_findTwins_b7 (oc := 22) (by decide) ?_ zfu _ ht19 _ _ _ _
    intro y2 y3 y4 y5 y6
    cases H
    exact zEv_r rfl
def qIn_bitCount (x0 : Int32) : Int32 :=
  (((((((x0 - (((Int32.toUInt32 x0 >>> (Int32.toUInt32 1 &&& Int32.toUInt32 31)).toInt32) &&& 1431655765)) &&& 858993459) + (((Int32.toUInt32 (x0 - (((Int32.toUInt32 x0 >>> (Int32.toUInt32 1 &&& Int32.toUInt32 31)).toInt32) &&& 1431655765)) >>> (Int32.toUInt32 2 &&& Int32.toUInt32 31)).toInt32) &&& 858993459)) + ((Int32.toUInt32 (((x0 - (((Int32.toUInt32 x0 >>> (Int32.toUInt32 1 &&& Int32.toUInt32 31)).toInt32) &&& 1431655765)) &&& 858993459) + (((Int32.toUInt32 (x0 - (((Int32.toUInt32 x0 >>> (Int32.toUInt32 1 &&& Int32.toUInt32 31)).toInt32) &&& 1431655765)) >>> (Int32.toUInt32 2 &&& Int32.toUInt32 31)).toInt32) &&& 858993459)) >>> (Int32.toUInt32 4 &&& Int32.toUInt32 31)).toInt32)) &&& 252645135) + ((Int32.toUInt32 (((((x0 - (((Int32.toUInt32 x0 >>> (Int32.toUInt32 1 &&& Int32.toUInt32 31)).toInt32) &&& 1431655765)) &&& 858993459) + (((Int32.toUInt32 (x0 - (((Int32.toUInt32 x0 >>> (Int32.toUInt32 1 &&& Int32.toUInt32 31)).toInt32) &&& 1431655765)) >>> (Int32.toUInt32 2 &&& Int32.toUInt32 31)).toInt32) &&& 858993459)) + ((Int32.toUInt32 (((x0 - (((Int32.toUInt32 x0 >>> (Int32.toUInt32 1 &&& Int32.toUInt32 31)).toInt32) &&& 1431655765)) &&& 858993459) + (((Int32.toUInt32 (x0 - (((Int32.toUInt32 x0 >>> (Int32.toUInt32 1 &&& Int32.toUInt32 31)).toInt32) &&& 1431655765)) >>> (Int32.toUInt32 2 &&& Int32.toUInt32 31)).toInt32) &&& 858993459)) >>> (Int32.toUInt32 4 &&& Int32.toUInt32 31)).toInt32)) &&& 252645135) >>> (Int32.toUInt32 8 &&& Int32.toUInt32 31)).toInt32)) + ((Int32.toUInt32 ((((((x0 - (((Int32.toUInt32 x0 >>> (Int32.toUInt32 1 &&& Int32.toUInt32 31)).toInt32) &&& 1431655765)) &&& 858993459) + (((Int32.toUInt32 (x0 - (((Int32.toUInt32 x0 >>> (Int32.toUInt32 1 &&& Int32.toUInt32 31)).toInt32) &&& 1431655765)) >>> (Int32.toUInt32 2 &&& Int32.toUInt32 31)).toInt32) &&& 858993459)) + ((Int32.toUInt32 (((x0 - (((Int32.toUInt32 x0 >>> (Int32.toUInt32 1 &&& Int32.toUInt32 31)).toInt32) &&& 1431655765)) &&& 858993459) + (((Int32.toUInt32 (x0 - (((Int32.toUInt32 x0 >>> (Int32.toUInt32 1 &&& Int32.toUInt32 31)).toInt32) &&& 1431655765)) >>> (Int32.toUInt32 2 &&& Int32.toUInt32 31)).toInt32) &&& 858993459)) >>> (Int32.toUInt32 4 &&& Int32.toUInt32 31)).toInt32)) &&& 252645135) + ((Int32.toUInt32 (((((x0 - (((Int32.toUInt32 x0 >>> (Int32.toUInt32 1 &&& Int32.toUInt32 31)).toInt32) &&& 1431655765)) &&& 858993459) + (((Int32.toUInt32 (x0 - (((Int32.toUInt32 x0 >>> (Int32.toUInt32 1 &&& Int32.toUInt32 31)).toInt32) &&& 1431655765)) >>> (Int32.toUInt32 2 &&& Int32.toUInt32 31)).toInt32) &&& 858993459)) + ((Int32.toUInt32 (((x0 - (((Int32.toUInt32 x0 >>> (Int32.toUInt32 1 &&& Int32.toUInt32 31)).toInt32) &&& 1431655765)) &&& 858993459) + (((Int32.toUInt32 (x0 - (((Int32.toUInt32 x0 >>> (Int32.toUInt32 1 &&& Int32.toUInt32 31)).toInt32) &&& 1431655765)) >>> (Int32.toUInt32 2 &&& Int32.toUInt32 31)).toInt32) &&& 858993459)) >>> (Int32.toUInt32 4 &&& Int32.toUInt32 31)).toInt32)) &&& 252645135) >>> (Int32.toUInt32 8 &&& Int32.toUInt32 31)).toInt32)) >>> (Int32.toUInt32 16 &&& Int32.toUInt32 31)).toInt32)) &&& 63
theorem t_qIn_bitCount {Ls : Nat} {xs : Nat → Int32} {d : Nat} {x0 : Int32} {h : zK} {p : Int32} (H : qIn_bitCount x0 = p) : zEv (zXs Ls xs) d zm_287 (0, [some (.int x0)], [], zhp h) (some (.int p), zhp h) := by
  unfold qIn_bitCount at H
  refine zEv_k 9 (f' := (11, [some (.int (x0 - (((Int32.toUInt32 x0 >>> (Int32.toUInt32 1 &&& Int32.toUInt32 31)).toInt32) &&& 1431655765)))], [.int (x0 - (((Int32.toUInt32 x0 >>> (Int32.toUInt32 1 &&& Int32.toUInt32 31)).toInt32) &&& 1431655765))], zhp h)) rfl ?_
  refine zEv_k 9 (f' := (24, [some (.int (((x0 - (((Int32.toUInt32 x0 >>> (Int32.toUInt32 1 &&& Int32.toUInt32 31)).toInt32) &&& 1431655765)) &&& 858993459) + (((Int32.toUInt32 (x0 - (((Int32.toUInt32 x0 >>> (Int32.toUInt32 1 &&& Int32.toUInt32 31)).toInt32) &&& 1431655765)) >>> (Int32.toUInt32 2 &&& Int32.toUInt32 31)).toInt32) &&& 858993459)))], [], zhp h)) rfl ?_
  refine zEv_k 9 (f' := (35, [some (.int (((((x0 - (((Int32.toUInt32 x0 >>> (Int32.toUInt32 1 &&& Int32.toUInt32 31)).toInt32) &&& 1431655765)) &&& 858993459) + (((Int32.toUInt32 (x0 - (((Int32.toUInt32 x0 >>> (Int32.toUInt32 1 &&& Int32.toUInt32 31)).toInt32) &&& 1431655765)) >>> (Int32.toUInt32 2 &&& Int32.toUInt32 31)).toInt32) &&& 858993459)) + ((Int32.toUInt32 (((x0 - (((Int32.toUInt32 x0 >>> (Int32.toUInt32 1 &&& Int32.toUInt32 31)).toInt32) &&& 1431655765)) &&& 858993459) + (((Int32.toUInt32 (x0 - (((Int32.toUInt32 x0 >>> (Int32.toUInt32 1 &&& Int32.toUInt32 31)).toInt32) &&& 1431655765)) >>> (Int32.toUInt32 2 &&& Int32.toUInt32 31)).toInt32) &&& 858993459)) >>> (Int32.toUInt32 4 &&& Int32.toUInt32 31)).toInt32)) &&& 252645135))], [.int (((((x0 - (((Int32.toUInt32 x0 >>> (Int32.toUInt32 1 &&& Int32.toUInt32 31)).toInt32) &&& 1431655765)) &&& 858993459) + (((Int32.toUInt32 (x0 - (((Int32.toUInt32 x0 >>> (Int32.toUInt32 1 &&& Int32.toUInt32 31)).toInt32) &&& 1431655765)) >>> (Int32.toUInt32 2 &&& Int32.toUInt32 31)).toInt32) &&& 858993459)) + ((Int32.toUInt32 (((x0 - (((Int32.toUInt32 x0 >>> (Int32.toUInt32 1 &&& Int32.toUInt32 31)).toInt32) &&& 1431655765)) &&& 858993459) + (((Int32.toUInt32 (x0 - (((Int32.toUInt32 x0 >>> (Int32.toUInt32 1 &&& Int32.toUInt32 31)).toInt32) &&& 1431655765)) >>> (Int32.toUInt32 2 &&& Int32.toUInt32 31)).toInt32) &&& 858993459)) >>> (Int32.toUInt32 4 &&& Int32.toUInt32 31)).toInt32)) &&& 252645135)], zhp h)) rfl ?_
  refine zEv_k 9 (f' := (46, [some (.int ((((((x0 - (((Int32.toUInt32 x0 >>> (Int32.toUInt32 1 &&& Int32.toUInt32 31)).toInt32) &&& 1431655765)) &&& 858993459) + (((Int32.toUInt32 (x0 - (((Int32.toUInt32 x0 >>> (Int32.toUInt32 1 &&& Int32.toUInt32 31)).toInt32) &&& 1431655765)) >>> (Int32.toUInt32 2 &&& Int32.toUInt32 31)).toInt32) &&& 858993459)) + ((Int32.toUInt32 (((x0 - (((Int32.toUInt32 x0 >>> (Int32.toUInt32 1 &&& Int32.toUInt32 31)).toInt32) &&& 1431655765)) &&& 858993459) + (((Int32.toUInt32 (x0 - (((Int32.toUInt32 x0 >>> (Int32.toUInt32 1 &&& Int32.toUInt32 31)).toInt32) &&& 1431655765)) >>> (Int32.toUInt32 2 &&& Int32.toUInt32 31)).toInt32) &&& 858993459)) >>> (Int32.toUInt32 4 &&& Int32.toUInt32 31)).toInt32)) &&& 252645135) + ((Int32.toUInt32 (((((x0 - (((Int32.toUInt32 x0 >>> (Int32.toUInt32 1 &&& Int32.toUInt32 31)).toInt32) &&& 1431655765)) &&& 858993459) + (((Int32.toUInt32 (x0 - (((Int32.toUInt32 x0 >>> (Int32.toUInt32 1 &&& Int32.toUInt32 31)).toInt32) &&& 1431655765)) >>> (Int32.toUInt32 2 &&& Int32.toUInt32 31)).toInt32) &&& 858993459)) + ((Int32.toUInt32 (((x0 - (((Int32.toUInt32 x0 >>> (Int32.toUInt32 1 &&& Int32.toUInt32 31)).toInt32) &&& 1431655765)) &&& 858993459) + (((Int32.toUInt32 (x0 - (((Int32.toUInt32 x0 >>> (Int32.toUInt32 1 &&& Int32.toUInt32 31)).toInt32) &&& 1431655765)) >>> (Int32.toUInt32 2 &&& Int32.toUInt32 31)).toInt32) &&& 858993459)) >>> (Int32.toUInt32 4 &&& Int32.toUInt32 31)).toInt32)) &&& 252645135) >>> (Int32.toUInt32 8 &&& Int32.toUInt32 31)).toInt32)))], [.int ((Int32.toUInt32 ((((((x0 - (((Int32.toUInt32 x0 >>> (Int32.toUInt32 1 &&& Int32.toUInt32 31)).toInt32) &&& 1431655765)) &&& 858993459) + (((Int32.toUInt32 (x0 - (((Int32.toUInt32 x0 >>> (Int32.toUInt32 1 &&& Int32.toUInt32 31)).toInt32) &&& 1431655765)) >>> (Int32.toUInt32 2 &&& Int32.toUInt32 31)).toInt32) &&& 858993459)) + ((Int32.toUInt32 (((x0 - (((Int32.toUInt32 x0 >>> (Int32.toUInt32 1 &&& Int32.toUInt32 31)).toInt32) &&& 1431655765)) &&& 858993459) + (((Int32.toUInt32 (x0 - (((Int32.toUInt32 x0 >>> (Int32.toUInt32 1 &&& Int32.toUInt32 31)).toInt32) &&& 1431655765)) >>> (Int32.toUInt32 2 &&& Int32.toUInt32 31)).toInt32) &&& 858993459)) >>> (Int32.toUInt32 4 &&& Int32.toUInt32 31)).toInt32)) &&& 252645135) + ((Int32.toUInt32 (((((x0 - (((Int32.toUInt32 x0 >>> (Int32.toUInt32 1 &&& Int32.toUInt32 31)).toInt32) &&& 1431655765)) &&& 858993459) + (((Int32.toUInt32 (x0 - (((Int32.toUInt32 x0 >>> (Int32.toUInt32 1 &&& Int32.toUInt32 31)).toInt32) &&& 1431655765)) >>> (Int32.toUInt32 2 &&& Int32.toUInt32 31)).toInt32) &&& 858993459)) + ((Int32.toUInt32 (((x0 - (((Int32.toUInt32 x0 >>> (Int32.toUInt32 1 &&& Int32.toUInt32 31)).toInt32) &&& 1431655765)) &&& 858993459) + (((Int32.toUInt32 (x0 - (((Int32.toUInt32 x0 >>> (Int32.toUInt32 1 &&& Int32.toUInt32 31)).toInt32) &&& 1431655765)) >>> (Int32.toUInt32 2 &&& Int32.toUInt32 31)).toInt32) &&& 858993459)) >>> (Int32.toUInt32 4 &&& Int32.toUInt32 31)).toInt32)) &&& 252645135) >>> (Int32.toUInt32 8 &&& Int32.toUInt32 31)).toInt32)) >>> (Int32.toUInt32 16 &&& Int32.toUInt32 31)).toInt32), .int ((((((x0 - (((Int32.toUInt32 x0 >>> (Int32.toUInt32 1 &&& Int32.toUInt32 31)).toInt32) &&& 1431655765)) &&& 858993459) + (((Int32.toUInt32 (x0 - (((Int32.toUInt32 x0 >>> (Int32.toUInt32 1 &&& Int32.toUInt32 31)).toInt32) &&& 1431655765)) >>> (Int32.toUInt32 2 &&& Int32.toUInt32 31)).toInt32) &&& 858993459)) + ((Int32.toUInt32 (((x0 - (((Int32.toUInt32 x0 >>> (Int32.toUInt32 1 &&& Int32.toUInt32 31)).toInt32) &&& 1431655765)) &&& 858993459) + (((Int32.toUInt32 (x0 - (((Int32.toUInt32 x0 >>> (Int32.toUInt32 1 &&& Int32.toUInt32 31)).toInt32) &&& 1431655765)) >>> (Int32.toUInt32 2 &&& Int32.toUInt32 31)).toInt32) &&& 858993459)) >>> (Int32.toUInt32 4 &&& Int32.toUInt32 31)).toInt32)) &&& 252645135) + ((Int32.toUInt32 (((((x0 - (((Int32.toUInt32 x0 >>> (Int32.toUInt32 1 &&& Int32.toUInt32 31)).toInt32) &&& 1431655765)) &&& 858993459) + (((Int32.toUInt32 (x0 - (((Int32.toUInt32 x0 >>> (Int32.toUInt32 1 &&& Int32.toUInt32 31)).toInt32) &&& 1431655765)) >>> (Int32.toUInt32 2 &&& Int32.toUInt32 31)).toInt32) &&& 858993459)) + ((Int32.toUInt32 (((x0 - (((Int32.toUInt32 x0 >>> (Int32.toUInt32 1 &&& Int32.toUInt32 31)).toInt32) &&& 1431655765)) &&& 858993459) + (((Int32.toUInt32 (x0 - (((Int32.toUInt32 x0 >>> (Int32.toUInt32 1 &&& Int32.toUInt32 31)).toInt32) &&& 1431655765)) >>> (Int32.toUInt32 2 &&& Int32.toUInt32 31)).toInt32) &&& 858993459)) >>> (Int32.toUInt32 4 &&& Int32.toUInt32 31)).toInt32)) &&& 252645135) >>> (Int32.toUInt32 8 &&& Int32.toUInt32 31)).toInt32))], zhp h)) rfl ?_
  refine zEv_k 5 (f' := (52, [some (.int (((((((x0 - (((Int32.toUInt32 x0 >>> (Int32.toUInt32 1 &&& Int32.toUInt32 31)).toInt32) &&& 1431655765)) &&& 858993459) + (((Int32.toUInt32 (x0 - (((Int32.toUInt32 x0 >>> (Int32.toUInt32 1 &&& Int32.toUInt32 31)).toInt32) &&& 1431655765)) >>> (Int32.toUInt32 2 &&& Int32.toUInt32 31)).toInt32) &&& 858993459)) + ((Int32.toUInt32 (((x0 - (((Int32.toUInt32 x0 >>> (Int32.toUInt32 1 &&& Int32.toUInt32 31)).toInt32) &&& 1431655765)) &&& 858993459) + (((Int32.toUInt32 (x0 - (((Int32.toUInt32 x0 >>> (Int32.toUInt32 1 &&& Int32.toUInt32 31)).toInt32) &&& 1431655765)) >>> (Int32.toUInt32 2 &&& Int32.toUInt32 31)).toInt32) &&& 858993459)) >>> (Int32.toUInt32 4 &&& Int32.toUInt32 31)).toInt32)) &&& 252645135) + ((Int32.toUInt32 (((((x0 - (((Int32.toUInt32 x0 >>> (Int32.toUInt32 1 &&& Int32.toUInt32 31)).toInt32) &&& 1431655765)) &&& 858993459) + (((Int32.toUInt32 (x0 - (((Int32.toUInt32 x0 >>> (Int32.toUInt32 1 &&& Int32.toUInt32 31)).toInt32) &&& 1431655765)) >>> (Int32.toUInt32 2 &&& Int32.toUInt32 31)).toInt32) &&& 858993459)) + ((Int32.toUInt32 (((x0 - (((Int32.toUInt32 x0 >>> (Int32.toUInt32 1 &&& Int32.toUInt32 31)).toInt32) &&& 1431655765)) &&& 858993459) + (((Int32.toUInt32 (x0 - (((Int32.toUInt32 x0 >>> (Int32.toUInt32 1 &&& Int32.toUInt32 31)).toInt32) &&& 1431655765)) >>> (Int32.toUInt32 2 &&& Int32.toUInt32 31)).toInt32) &&& 858993459)) >>> (Int32.toUInt32 4 &&& Int32.toUInt32 31)).toInt32)) &&& 252645135) >>> (Int32.toUInt32 8 &&& Int32.toUInt32 31)).toInt32)) + ((Int32.toUInt32 ((((((x0 - (((Int32.toUInt32 x0 >>> (Int32.toUInt32 1 &&& Int32.toUInt32 31)).toInt32) &&& 1431655765)) &&& 858993459) + (((Int32.toUInt32 (x0 - (((Int32.toUInt32 x0 >>> (Int32.toUInt32 1 &&& Int32.toUInt32 31)).toInt32) &&& 1431655765)) >>> (Int32.toUInt32 2 &&& Int32.toUInt32 31)).toInt32) &&& 858993459)) + ((Int32.toUInt32 (((x0 - (((Int32.toUInt32 x0 >>> (Int32.toUInt32 1 &&& Int32.toUInt32 31)).toInt32) &&& 1431655765)) &&& 858993459) + (((Int32.toUInt32 (x0 - (((Int32.toUInt32 x0 >>> (Int32.toUInt32 1 &&& Int32.toUInt32 31)).toInt32) &&& 1431655765)) >>> (Int32.toUInt32 2 &&& Int32.toUInt32 31)).toInt32) &&& 858993459)) >>> (Int32.toUInt32 4 &&& Int32.toUInt32 31)).toInt32)) &&& 252645135) + ((Int32.toUInt32 (((((x0 - (((Int32.toUInt32 x0 >>> (Int32.toUInt32 1 &&& Int32.toUInt32 31)).toInt32) &&& 1431655765)) &&& 858993459) + (((Int32.toUInt32 (x0 - (((Int32.toUInt32 x0 >>> (Int32.toUInt32 1 &&& Int32.toUInt32 31)).toInt32) &&& 1431655765)) >>> (Int32.toUInt32 2 &&& Int32.toUInt32 31)).toInt32) &&& 858993459)) + ((Int32.toUInt32 (((x0 - (((Int32.toUInt32 x0 >>> (Int32.toUInt32 1 &&& Int32.toUInt32 31)).toInt32) &&& 1431655765)) &&& 858993459) + (((Int32.toUInt32 (x0 - (((Int32.toUInt32 x0 >>> (Int32.toUInt32 1 &&& Int32.toUInt32 31)).toInt32) &&& 1431655765)) >>> (Int32.toUInt32 2 &&& Int32.toUInt32 31)).toInt32) &&& 858993459)) >>> (Int32.toUInt32 4 &&& Int32.toUInt32 31)).toInt32)) &&& 252645135) >>> (Int32.toUInt32 8 &&& Int32.toUInt32 31)).toInt32)) >>> (Int32.toUInt32 16 &&& Int32.toUInt32 31)).toInt32)))], [.int ((((((((x0 - (((Int32.toUInt32 x0 >>> (Int32.toUInt32 1 &&& Int32.toUInt32 31)).toInt32) &&& 1431655765)) &&& 858993459) + (((Int32.toUInt32 (x0 - (((Int32.toUInt32 x0 >>> (Int32.toUInt32 1 &&& Int32.toUInt32 31)).toInt32) &&& 1431655765)) >>> (Int32.toUInt32 2 &&& Int32.toUInt32 31)).toInt32) &&& 858993459)) + ((Int32.toUInt32 (((x0 - (((Int32.toUInt32 x0 >>> (Int32.toUInt32 1 &&& Int32.toUInt32 31)).toInt32) &&& 1431655765)) &&& 858993459) + (((Int32.toUInt32 (x0 - (((Int32.toUInt32 x0 >>> (Int32.toUInt32 1 &&& Int32.toUInt32 31)).toInt32) &&& 1431655765)) >>> (Int32.toUInt32 2 &&& Int32.toUInt32 31)).toInt32) &&& 858993459)) >>> (Int32.toUInt32 4 &&& Int32.toUInt32 31)).toInt32)) &&& 252645135) + ((Int32.toUInt32 (((((x0 - (((Int32.toUInt32 x0 >>> (Int32.toUInt32 1 &&& Int32.toUInt32 31)).toInt32) &&& 1431655765)) &&& 858993459) + (((Int32.toUInt32 (x0 - (((Int32.toUInt32 x0 >>> (Int32.toUInt32 1 &&& Int32.toUInt32 31)).toInt32) &&& 1431655765)) >>> (Int32.toUInt32 2 &&& Int32.toUInt32 31)).toInt32) &&& 858993459)) + ((Int32.toUInt32 (((x0 - (((Int32.toUInt32 x0 >>> (Int32.toUInt32 1 &&& Int32.toUInt32 31)).toInt32) &&& 1431655765)) &&& 858993459) + (((Int32.toUInt32 (x0 - (((Int32.toUInt32 x0 >>> (Int32.toUInt32 1 &&& Int32.toUInt32 31)).toInt32) &&& 1431655765)) >>> (Int32.toUInt32 2 &&& Int32.toUInt32 31)).toInt32) &&& 858993459)) >>> (Int32.toUInt32 4 &&& Int32.toUInt32 31)).toInt32)) &&& 252645135) >>> (Int32.toUInt32 8 &&& Int32.toUInt32 31)).toInt32)) + ((Int32.toUInt32 ((((((x0 - (((Int32.toUInt32 x0 >>> (Int32.toUInt32 1 &&& Int32.toUInt32 31)).toInt32) &&& 1431655765)) &&& 858993459) + (((Int32.toUInt32 (x0 - (((Int32.toUInt32 x0 >>> (Int32.toUInt32 1 &&& Int32.toUInt32 31)).toInt32) &&& 1431655765)) >>> (Int32.toUInt32 2 &&& Int32.toUInt32 31)).toInt32) &&& 858993459)) + ((Int32.toUInt32 (((x0 - (((Int32.toUInt32 x0 >>> (Int32.toUInt32 1 &&& Int32.toUInt32 31)).toInt32) &&& 1431655765)) &&& 858993459) + (((Int32.toUInt32 (x0 - (((Int32.toUInt32 x0 >>> (Int32.toUInt32 1 &&& Int32.toUInt32 31)).toInt32) &&& 1431655765)) >>> (Int32.toUInt32 2 &&& Int32.toUInt32 31)).toInt32) &&& 858993459)) >>> (Int32.toUInt32 4 &&& Int32.toUInt32 31)).toInt32)) &&& 252645135) + ((Int32.toUInt32 (((((x0 - (((Int32.toUInt32 x0 >>> (Int32.toUInt32 1 &&& Int32.toUInt32 31)).toInt32) &&& 1431655765)) &&& 858993459) + (((Int32.toUInt32 (x0 - (((Int32.toUInt32 x0 >>> (Int32.toUInt32 1 &&& Int32.toUInt32 31)).toInt32) &&& 1431655765)) >>> (Int32.toUInt32 2 &&& Int32.toUInt32 31)).toInt32) &&& 858993459)) + ((Int32.toUInt32 (((x0 - (((Int32.toUInt32 x0 >>> (Int32.toUInt32 1 &&& Int32.toUInt32 31)).toInt32) &&& 1431655765)) &&& 858993459) + (((Int32.toUInt32 (x0 - (((Int32.toUInt32 x0 >>> (Int32.toUInt32 1 &&& Int32.toUInt32 31)).toInt32) &&& 1431655765)) >>> (Int32.toUInt32 2 &&& Int32.toUInt32 31)).toInt32) &&& 858993459)) >>> (Int32.toUInt32 4 &&& Int32.toUInt32 31)).toInt32)) &&& 252645135) >>> (Int32.toUInt32 8 &&& Int32.toUInt32 31)).toInt32)) >>> (Int32.toUInt32 16 &&& Int32.toUInt32 31)).toInt32)) &&& 63)], zhp h)) rfl ?_
  cases H
  exact zEv_r rfl
