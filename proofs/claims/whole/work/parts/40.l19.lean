def qM_dinner_b74 (x2 : Int32) (x3 : Int32) (x4 : Int32) (x5 : Int32) (h : zK) (s : Int32 × Int32) : Option ((Int32 × Int32) ⊕ (Int32)) :=
  if (gI h 215 23) ≤ s.2 then
    some (.inr s.1)
  else
    (qM_dinnerBy x4 x5 s.2 h).bind fun p10 =>
    some (.inl (zf_greater s.1 p10, s.2 + 1))
theorem t_qM_dinner_b74b {Ls : Nat} {xs : Nat → Int32} {d : Nat} {x2 : Int32} {x3 : Int32} {x4 : Int32} {x5 : Int32} {h : zK} {r : zA} {s : Int32 × Int32} {e : (Int32 × Int32) ⊕ (Int32)} (H : qM_dinner_b74 x2 x3 x4 x5 h s = some e) (K : match (generalizing := false) e with | .inl s' => ∀ (z1 : Option Value), zEv (zXs Ls xs) (d + 4) zm_219 (74, [some (.ref 215), z1, some (.int x2), some (.int x3), some (.int x4), some (.int x5), some (.int s'.1), some (.int s'.2)], [], zhp h) r | .inr v => ∀ (z1 : Option Value) (z7 : Option Value), zEv (zXs Ls xs) (d + 4) zm_219 (106, [some (.ref 215), z1, some (.int x2), some (.int x3), some (.int x4), some (.int x5), some (.int v), z7], [], zhp h) r) (y1 : Option Value) : zEv (zXs Ls xs) (d + 4) zm_219 (74, [some (.ref 215), y1, some (.int x2), some (.int x3), some (.int x4), some (.int x5), some (.int s.1), some (.int s.2)], [], zhp h) r := by
  unfold qM_dinner_b74 at H
  refine zEv_k 4 (f' := (if (gI h 215 23) ≤ s.2 then 106 else 83, [some (.ref 215), y1, some (.int x2), some (.int x3), some (.int x4), some (.int x5), some (.int s.1), some (.int s.2)], [], zhp h)) rfl (zEv_if (fun c9 => ?_) (fun c9 => ?_))
  · replace H := zif_t c9 H
    cases H
    exact K _ _
  · replace H := zif_f c9 H
    refine zEv_k 5 (f' := (92, [some (.ref 215), y1, some (.int x2), some (.int x3), some (.int x4), some (.int x5), some (.int s.1), some (.int s.2)], [.int s.2, .int x5, .int x4, .ref 215, .int s.1], zhp h)) rfl ?_
    obtain ⟨p10, hp10, H⟩ := zbs H
    refine zEv_c (fun _ => rfl) rfl (t_qM_dinnerBy (x1 := x4) (x2 := x5) (x3 := s.2) (h := h) (d := d) hp10) rfl rfl ?_
    refine zEv_c (fun _ => rfl) rfl ev_zf_greater rfl rfl ?_
    refine zEv_k 3 (f' := (74, [some (.ref 215), y1, some (.int x2), some (.int x3), some (.int x4), some (.int x5), some (.int (zf_greater s.1 p10)), some (.int (s.2 + 1))], [], zhp h)) rfl ?_
    cases H
    exact K _
theorem t_qM_dinner_b74 {Ls : Nat} {xs : Nat → Int32} {d : Nat} {x2 : Int32} {x3 : Int32} {x4 : Int32} {x5 : Int32} {h : zK} {r : zA} {t : Int32} (K : ∀ (z1 : Option Value) (z7 : Option Value), zEv (zXs Ls xs) (d + 4) zm_219 (106, [some (.ref 215), z1, some (.int x2), some (.int x3), some (.int x4), some (.int x5), some (.int t), z7], [], zhp h) r) (n : Nat) (s : Int32 × Int32) (H : zloop (qM_dinner_b74 x2 x3 x4 x5 h) n s = some t) (y1 : Option Value) : zEv (zXs Ls xs) (d + 4) zm_219 (74, [some (.ref 215), y1, some (.int x2), some (.int x3), some (.int x4), some (.int x5), some (.int s.1), some (.int s.2)], [], zhp h) r := by
  have Z := zloop_P (P := fun s => ∀ (y1 : Option Value), zEv (zXs Ls xs) (d + 4) zm_219 (74, [some (.ref 215), y1, some (.int x2), some (.int x3), some (.int x4), some (.int x5), some (.int s.1), some (.int s.2)], [], zhp h) r) (b := qM_dinner_b74 x2 x3 x4 x5 h) (t := t) (fun s s2 hb hk => by intro y1; exact t_qM_dinner_b74b hb hk y1) (fun s hb => by intro y1; exact t_qM_dinner_b74b hb K y1) n s H
  exact Z y1
def qM_dinner_b49 (x2 : Int32) (x3 : Int32) (x4 : Int32) (s : Int32 × zK) : Option ((Int32 × zK) ⊕ (zK)) :=
  if 7 < s.1 then
    some (.inr s.2)
  else
    zlet (
        if ¬ x4 = x3 then
          -1000000
        else
          0
      ) fun (v8 : Int32) =>
    (zloop (qM_dinner_b74 x2 x3 x4 s.1 s.2) zfu (v8, 0)).bind fun t11 =>
    (zix ((128 * s.1) + x4) 1024).bind fun j13 =>
    zlet (sI s.2 232 j13 t11) fun h14 =>
    some (.inl (s.1 + 1, h14))
theorem t_qM_dinner_b49b {Ls : Nat} {xs : Nat → Int32} {d : Nat} {x2 : Int32} {x3 : Int32} {x4 : Int32} {r : zA} {s : Int32 × zK} {e : (Int32 × zK) ⊕ (zK)} (H : qM_dinner_b49 x2 x3 x4 s = some e) (K : match (generalizing := false) e with | .inl s' => ∀ (z1 : Option Value) (z6 : Option Value) (z7 : Option Value), zEv (zXs Ls xs) (d + 4) zm_219 (49, [some (.ref 215), z1, some (.int x2), some (.int x3), some (.int x4), some (.int s'.1), z6, z7], [], zhp s'.2) r | .inr v => ∀ (z1 : Option Value) (z5 : Option Value) (z6 : Option Value) (z7 : Option Value), zEv (zXs Ls xs) (d + 4) zm_219 (128, [some (.ref 215), z1, some (.int x2), some (.int x3), some (.int x4), z5, z6, z7], [], zhp v) r) (y1 : Option Value) (y6 : Option Value) (y7 : Option Value) : zEv (zXs Ls xs) (d + 4) zm_219 (49, [some (.ref 215), y1, some (.int x2), some (.int x3), some (.int x4), some (.int s.1), y6, y7], [], zhp s.2) r := by
  unfold qM_dinner_b49 at H
  refine zEv_k 3 (f' := (if 7 < s.1 then 128 else 56, [some (.ref 215), y1, some (.int x2), some (.int x3), some (.int x4), some (.int s.1), y6, y7], [], zhp s.2)) rfl (zEv_if (fun c6 => ?_) (fun c6 => ?_))
  · replace H := zif_t c6 H
    cases H
    exact K _ _ _ _
  · replace H := zif_f c6 H
    obtain ⟨v8, hv8, H⟩ := zlets H
    have kv8 : zEv (zXs Ls xs) (d + 4) zm_219 (69, [some (.ref 215), y1, some (.int x2), some (.int x3), some (.int x4), some (.int s.1), y6, y7], [.int v8], zhp s.2) r := by
      refine zEv_k 3 (f' := (74, [some (.ref 215), y1, some (.int x2), some (.int x3), some (.int x4), some (.int s.1), some (.int v8), some (.int 0)], [], zhp s.2)) rfl ?_
      obtain ⟨t11, ht11, H⟩ := zbs H
      refine t_qM_dinner_b74 (x2 := x2) (x3 := x3) (x4 := x4) (x5 := s.1) (h := s.2) ?_ zfu _ ht11 _
      intro y1 y7
      refine zEv_k 1 (f' := (107, [some (.ref 215), y1, some (.int x2), some (.int x3), some (.int x4), some (.int s.1), some (.int t11), y7], [.ref 215], zhp s.2)) rfl ?_
      refine zRgr rfl rfl rfl (by decide) (b := 232) rfl ?_
      refine zEv_k 6 (f' := (121, [some (.ref 215), y1, some (.int x2), some (.int x3), some (.int x4), some (.int s.1), some (.int t11), y7], [.int t11, .int ((128 * s.1) + x4), .ref 232], zhp s.2)) rfl ?_
      obtain ⟨j13, hj13, H⟩ := zbs H
      obtain ⟨h14, eh14, H⟩ := zlets H
      refine zRis rfl rfl (by decide) hj13 eh14 ?_
      refine zEv_k 2 (f' := (49, [some (.ref 215), y1, some (.int x2), some (.int x3), some (.int x4), some (.int (s.1 + 1)), some (.int t11), y7], [], zhp h14)) rfl ?_
      cases H
      exact K _ _ _
    clear H
    refine zEv_k 3 (f' := (if ¬ x4 = x3 then 66 else 62, [some (.ref 215), y1, some (.int x2), some (.int x3), some (.int x4), some (.int s.1), y6, y7], [], zhp s.2)) rfl (zEv_if (fun c7 => ?_) (fun c7 => ?_))
    · replace hv8 := zif_t c7 hv8
      refine zEv_k 1 (f' := (69, [some (.ref 215), y1, some (.int x2), some (.int x3), some (.int x4), some (.int s.1), y6, y7], [.int (-1000000)], zhp s.2)) rfl ?_
      cases hv8
      exact kv8
    · replace hv8 := zif_f c7 hv8
      refine zEv_k 2 (f' := (69, [some (.ref 215), y1, some (.int x2), some (.int x3), some (.int x4), some (.int s.1), y6, y7], [.int 0], zhp s.2)) rfl ?_
      cases hv8
      exact kv8
theorem t_qM_dinner_b49 {Ls : Nat} {xs : Nat → Int32} {d : Nat} {x2 : Int32} {x3 : Int32} {x4 : Int32} {r : zA} {t : zK} (K : ∀ (z1 : Option Value) (z5 : Option Value) (z6 : Option Value) (z7 : Option Value), zEv (zXs Ls xs) (d + 4) zm_219 (128, [some (.ref 215), z1, some (.int x2), some (.int x3), some (.int x4), z5, z6, z7], [], zhp t) r) (n : Nat) (s : Int32 × zK) (H : zloop (qM_dinner_b49 x2 x3 x4) n s = some t) (y1 : Option Value) (y6 : Option Value) (y7 : Option Value) : zEv (zXs Ls xs) (d + 4) zm_219 (49, [some (.ref 215), y1, some (.int x2), some (.int x3), some (.int x4), some (.int s.1), y6, y7], [], zhp s.2) r := by
  have Z := zloop_P (P := fun s => ∀ (y1 : Option Value) (y6 : Option Value) (y7 : Option Value), zEv (zXs Ls xs) (d + 4) zm_219 (49, [some (.ref 215), y1, some (.int x2), some (.int x3), some (.int x4), some (.int s.1), y6, y7], [], zhp s.2) r) (b := qM_dinner_b49 x2 x3 x4) (t := t) (fun s s2 hb hk => by intro y1 y6 y7; exact t_qM_dinner_b49b hb hk y1 y6 y7) (fun s hb => by intro y1 y6 y7; exact t_qM_dinner_b49b hb K y1 y6 y7) n s H
  exact Z y1 y6 y7
def qM_dinner_b41 (x2 : Int32) (x3 : Int32) (s : Int32 × zK) : Option ((Int32 × zK) ⊕ (zK)) :=
  if s.1 < 0 then
    some (.inr s.2)
  else
    (zloop (qM_dinner_b49 x2 x3 s.1) zfu (0, s.2)).bind fun t15 =>
    some (.inl (s.1 + (-1), t15))
theorem t_qM_dinner_b41b {Ls : Nat} {xs : Nat → Int32} {d : Nat} {x2 : Int32} {x3 : Int32} {r : zA} {s : Int32 × zK} {e : (Int32 × zK) ⊕ (zK)} (H : qM_dinner_b41 x2 x3 s = some e) (K : match (generalizing := false) e with | .inl s' => ∀ (z1 : Option Value) (z5 : Option Value) (z6 : Option Value) (z7 : Option Value), zEv (zXs Ls xs) (d + 4) zm_219 (41, [some (.ref 215), z1, some (.int x2), some (.int x3), some (.int s'.1), z5, z6, z7], [], zhp s'.2) r | .inr v => ∀ (z1 : Option Value) (z4 : Option Value) (z5 : Option Value) (z6 : Option Value) (z7 : Option Value), zEv (zXs Ls xs) (d + 4) zm_219 (134, [some (.ref 215), z1, some (.int x2), some (.int x3), z4, z5, z6, z7], [], zhp v) r) (y1 : Option Value) (y5 : Option Value) (y6 : Option Value) (y7 : Option Value) : zEv (zXs Ls xs) (d + 4) zm_219 (41, [some (.ref 215), y1, some (.int x2), some (.int x3), some (.int s.1), y5, y6, y7], [], zhp s.2) r := by
  unfold qM_dinner_b41 at H
  refine zEv_k 2 (f' := (if s.1 < 0 then 134 else 46, [some (.ref 215), y1, some (.int x2), some (.int x3), some (.int s.1), y5, y6, y7], [], zhp s.2)) rfl (zEv_if (fun c5 => ?_) (fun c5 => ?_))
  · replace H := zif_t c5 H
    cases H
    exact K _ _ _ _ _
  · replace H := zif_f c5 H
    refine zEv_k 2 (f' := (49, [some (.ref 215), y1, some (.int x2), some (.int x3), some (.int s.1), some (.int 0), y6, y7], [], zhp s.2)) rfl ?_
    obtain ⟨t15, ht15, H⟩ := zbs H
    refine t_qM_dinner_b49 (x2 := x2) (x3 := x3) (x4 := s.1) ?_ zfu _ ht15 _ _ _
    intro y1 y5 y6 y7
    refine zEv_k 2 (f' := (41, [some (.ref 215), y1, some (.int x2), some (.int x3), some (.int (s.1 + (-1))), y5, y6, y7], [], zhp t15)) rfl ?_
    cases H
    exact K _ _ _ _
theorem t_qM_dinner_b41 {Ls : Nat} {xs : Nat → Int32} {d : Nat} {x2 : Int32} {x3 : Int32} {r : zA} {t : zK} (K : ∀ (z1 : Option Value) (z4 : Option Value) (z5 : Option Value) (z6 : Option Value) (z7 : Option Value), zEv (zXs Ls xs) (d + 4) zm_219 (134, [some (.ref 215), z1, some (.int x2), some (.int x3), z4, z5, z6, z7], [], zhp t) r) (n : Nat) (s : Int32 × zK) (H : zloop (qM_dinner_b41 x2 x3) n s = some t) (y1 : Option Value) (y5 : Option Value) (y6 : Option Value) (y7 : Option Value) : zEv (zXs Ls xs) (d + 4) zm_219 (41, [some (.ref 215), y1, some (.int x2), some (.int x3), some (.int s.1), y5, y6, y7], [], zhp s.2) r := by
  have Z := zloop_P (P := fun s => ∀ (y1 : Option Value) (y5 : Option Value) (y6 : Option Value) (y7 : Option Value), zEv (zXs Ls xs) (d + 4) zm_219 (41, [some (.ref 215), y1, some (.int x2), some (.int x3), some (.int s.1), y5, y6, y7], [], zhp s.2) r) (b := qM_dinner_b41 x2 x3) (t := t) (fun s s2 hb hk => by intro y1 y5 y6 y7; exact t_qM_dinner_b41b hb hk y1 y5 y6 y7) (fun s hb => by intro y1 y5 y6 y7; exact t_qM_dinner_b41b hb K y1 y5 y6 y7) n s H
  exact Z y1 y5 y6 y7
def qM_dinner_b153 (x2 : Int32) (x4 : Int32) (x5 : Int32) (x6 : Int32) (h : zK) (s : Int32) : Option ((Int32) ⊕ (Int32)) :=
  (qM_dinnerBy x4 x5 s h).bind fun p20 =>
  (zix ((128 * x5) + x4) 1024).bind fun j21 =>
  if p20 = (gI h 232 j21) then
    some (.inr s)
  else
    some (.inl (s + 1))
theorem t_qM_dinner_b153b {Ls : Nat} {xs : Nat → Int32} {d : Nat} {x2 : Int32} {x4 : Int32} {x5 : Int32} {x6 : Int32} {h : zK} {r : zA} {s : Int32} {e : (Int32) ⊕ (Int32)} (H : qM_dinner_b153 x2 x4 x5 x6 h s = some e) (K : match (generalizing := false) e with | .inl s' => ∀ (z1 : Option Value) (z3 : Option Value), zEv (zXs Ls xs) (d + 4) zm_219 (153, [some (.ref 215), z1, some (.int x2), z3, some (.int x4), some (.int x5), some (.int x6), some (.int s')], [], zhp h) r | .inr v => ∀ (z1 : Option Value) (z3 : Option Value), zEv (zXs Ls xs) (d + 4) zm_219 (186, [some (.ref 215), z1, some (.int x2), z3, some (.int x4), some (.int x5), some (.int x6), some (.int v)], [], zhp h) r) (y1 : Option Value) (y3 : Option Value) : zEv (zXs Ls xs) (d + 4) zm_219 (153, [some (.ref 215), y1, some (.int x2), y3, some (.int x4), some (.int x5), some (.int x6), some (.int s)], [], zhp h) r := by
  unfold qM_dinner_b153 at H
  refine zEv_k 4 (f' := (160, [some (.ref 215), y1, some (.int x2), y3, some (.int x4), some (.int x5), some (.int x6), some (.int s)], [.int s, .int x5, .int x4, .ref 215], zhp h)) rfl ?_
  obtain ⟨p20, hp20, H⟩ := zbs H
  refine zEv_c (fun _ => rfl) rfl (t_qM_dinnerBy (x1 := x4) (x2 := x5) (x3 := s) (h := h) (d := d) hp20) rfl rfl ?_
  refine zEv_k 1 (f' := (164, [some (.ref 215), y1, some (.int x2), y3, some (.int x4), some (.int x5), some (.int x6), some (.int s)], [.ref 215, .int p20], zhp h)) rfl ?_
  refine zRgr rfl rfl rfl (by decide) (b := 232) rfl ?_
  refine zEv_k 5 (f' := (176, [some (.ref 215), y1, some (.int x2), y3, some (.int x4), some (.int x5), some (.int x6), some (.int s)], [.int ((128 * x5) + x4), .ref 232, .int p20], zhp h)) rfl ?_
  obtain ⟨j21, hj21, H⟩ := zbs H
  refine zRia rfl rfl (by decide) hj21 ?_
  refine zEv_k 1 (f' := (if p20 = (gI h 232 j21) then 186 else 180, [some (.ref 215), y1, some (.int x2), y3, some (.int x4), some (.int x5), some (.int x6), some (.int s)], [], zhp h)) rfl (zEv_if (fun c22 => ?_) (fun c22 => ?_))
  · replace H := zif_t c22 H
    cases H
    exact K _ _
  · replace H := zif_f c22 H
    refine zEv_k 2 (f' := (153, [some (.ref 215), y1, some (.int x2), y3, some (.int x4), some (.int x5), some (.int x6), some (.int (s + 1))], [], zhp h)) rfl ?_
    cases H
    exact K _ _
theorem t_qM_dinner_b153 {Ls : Nat} {xs : Nat → Int32} {d : Nat} {x2 : Int32} {x4 : Int32} {x5 : Int32} {x6 : Int32} {h : zK} {r : zA} {t : Int32} (K : ∀ (z1 : Option Value) (z3 : Option Value), zEv (zXs Ls xs) (d + 4) zm_219 (186, [some (.ref 215), z1, some (.int x2), z3, some (.int x4), some (.int x5), some (.int x6), some (.int t)], [], zhp h) r) (n : Nat) (s : Int32) (H : zloop (qM_dinner_b153 x2 x4 x5 x6 h) n s = some t) (y1 : Option Value) (y3 : Option Value) : zEv (zXs Ls xs) (d + 4) zm_219 (153, [some (.ref 215), y1, some (.int x2), y3, some (.int x4), some (.int x5), some (.int x6), some (.int s)], [], zhp h) r := by
  have Z := zloop_P (P := fun s => ∀ (y1 : Option Value) (y3 : Option Value), zEv (zXs Ls xs) (d + 4) zm_219 (153, [some (.ref 215), y1, some (.int x2), y3, some (.int x4), some (.int x5), some (.int x6), some (.int s)], [], zhp h) r) (b := qM_dinner_b153 x2 x4 x5 x6 h) (t := t) (fun s s2 hb hk => by intro y1 y3; exact t_qM_dinner_b153b hb hk y1 y3) (fun s hb => by intro y1 y3; exact t_qM_dinner_b153b hb K y1 y3) n s H
  exact Z y1 y3
def qM_dinner_b144 (x2 : Int32) (h : zK) (s : Int32 × Int32 × Int32) : Option ((Int32 × Int32 × Int32) ⊕ (Int32)) :=
  if x2 < s.2.2 then
    some (.inr s.2.1)
  else
    (zloop (qM_dinner_b153 x2 s.1 s.2.1 s.2.2 h) zfu 0).bind fun t23 =>
    some (.inl (s.1 ||| ((1 : Int32) <<< (t23 &&& 31)), t23, s.2.2 + 1))
theorem t_qM_dinner_b144b {Ls : Nat} {xs : Nat → Int32} {d : Nat} {x2 : Int32} {h : zK} {r : zA} {s : Int32 × Int32 × Int32} {e : (Int32 × Int32 × Int32) ⊕ (Int32)} (H : qM_dinner_b144 x2 h s = some e) (K : match (generalizing := false) e with | .inl s' => ∀ (z1 : Option Value) (z3 : Option Value) (z7 : Option Value), zEv (zXs Ls xs) (d + 4) zm_219 (144, [some (.ref 215), z1, some (.int x2), z3, some (.int s'.1), some (.int s'.2.1), some (.int s'.2.2), z7], [], zhp h) r | .inr v => ∀ (z1 : Option Value) (z3 : Option Value) (z4 : Option Value) (z6 : Option Value) (z7 : Option Value), zEv (zXs Ls xs) (d + 4) zm_219 (205, [some (.ref 215), z1, some (.int x2), z3, z4, some (.int v), z6, z7], [], zhp h) r) (y1 : Option Value) (y3 : Option Value) (y7 : Option Value) : zEv (zXs Ls xs) (d + 4) zm_219 (144, [some (.ref 215), y1, some (.int x2), y3, some (.int s.1), some (.int s.2.1), some (.int s.2.2), y7], [], zhp h) r := by
  unfold qM_dinner_b144 at H
  refine zEv_k 3 (f' := (if x2 < s.2.2 then 205 else 150, [some (.ref 215), y1, some (.int x2), y3, some (.int s.1), some (.int s.2.1), some (.int s.2.2), y7], [], zhp h)) rfl (zEv_if (fun c19 => ?_) (fun c19 => ?_))
  · replace H := zif_t c19 H
    cases H
    exact K _ _ _ _ _
  · replace H := zif_f c19 H
    refine zEv_k 2 (f' := (153, [some (.ref 215), y1, some (.int x2), y3, some (.int s.1), some (.int s.2.1), some (.int s.2.2), some (.int 0)], [], zhp h)) rfl ?_
    obtain ⟨t23, ht23, H⟩ := zbs H
    refine t_qM_dinner_b153 (x2 := x2) (x4 := s.1) (x5 := s.2.1) (x6 := s.2.2) (h := h) ?_ zfu _ ht23 _ _
    intro y1 y3
    refine zEv_k 9 (f' := (202, [some (.ref 215), y1, some (.int x2), zlost y3, some (.int (s.1 ||| ((1 : Int32) <<< (t23 &&& 31)))), some (.int t23), some (.int (s.2.2 + 1)), some (.int t23)], [], zhp h)) rfl ?_
    refine zEv_k 1 (f' := (144, [some (.ref 215), y1, some (.int x2), zlost y3, some (.int (s.1 ||| ((1 : Int32) <<< (t23 &&& 31)))), some (.int t23), some (.int (s.2.2 + 1)), some (.int t23)], [], zhp h)) rfl ?_
    cases H
    exact K _ _ _
theorem t_qM_dinner_b144 {Ls : Nat} {xs : Nat → Int32} {d : Nat} {x2 : Int32} {h : zK} {r : zA} {t : Int32} (K : ∀ (z1 : Option Value) (z3 : Option Value) (z4 : Option Value) (z6 : Option Value) (z7 : Option Value), zEv (zXs Ls xs) (d + 4) zm_219 (205, [some (.ref 215), z1, some (.int x2), z3, z4, some (.int t), z6, z7], [], zhp h) r) (n : Nat) (s : Int32 × Int32 × Int32) (H : zloop (qM_dinner_b144 x2 h) n s = some t) (y1 : Option Value) (y3 : Option Value) (y7 : Option Value) : zEv (zXs Ls xs) (d + 4) zm_219 (144, [some (.ref 215), y1, some (.int x2), y3, some (.int s.1), some (.int s.2.1), some (.int s.2.2), y7], [], zhp h) r := by
  have Z := zloop_P (P := fun s => ∀ (y1 : Option Value) (y3 : Option Value) (y7 : Option Value), zEv (zXs Ls xs) (d + 4) zm_219 (144, [some (.ref 215), y1, some (.int x2), y3, some (.int s.1), some (.int s.2.1), some (.int s.2.2), y7], [], zhp h) r) (b := qM_dinner_b144 x2 h) (t := t) (fun s s2 hb hk => by intro y1 y3 y7; exact t_qM_dinner_b144b hb hk y1 y3 y7) (fun s hb => by intro y1 y3 y7; exact t_qM_dinner_b144b hb K y1 y3 y7) n s H
  exact Z y1 y3 y7
def qM_dinner (x1 : Int32) (x2 : Int32) (h : zK) : Option (Int32 × zK) :=
  zlet (sI h 215 0 0) fun h1 =>
  (qM_hand x1 h1).bind fun p2 =>
  if p2.1 = 0 then
    some (-1, p2.2)
  else
    if ¬ (zf_in x2 (-1) ((gI p2.2 215 23) - 1)) = 0 then
      (zloop (qM_dinner_b41 x2 (((1 : Int32) <<< ((gI p2.2 215 23) &&& 31)) - 1)) zfu (((1 : Int32) <<< ((gI p2.2 215 23) &&& 31)) - 1, p2.2)).bind fun t17 =>
      (zloop (qM_dinner_b144 x2 t17) zfu (0, 7, 0)).bind fun t25 =>
      if ¬ x2 = (-1) then
        some (t25, t17)
      else
        some (gI t17 232 896, t17)
    else
      some (-1, p2.2)
theorem t_qM_dinner {Ls : Nat} {xs : Nat → Int32} {d : Nat} {x1 : Int32} {x2 : Int32} {h : zK} {p : Int32 × zK} (H : qM_dinner x1 x2 h = some p) : zEv (zXs Ls xs) (d + 4) zm_219 (0, [some (.ref 215), some (.int x1), some (.int x2), none, none, none, none, none], [], zhp h) (some (.int p.1), zhp p.2) := by
  unfold qM_dinner at H
  obtain ⟨h1, eh1, H⟩ := zlets H
  refine zEv_w (F := fun z => (5, [some (.ref 215), some (.int x1), some (.int x2), none, none, none, none, none], [], zhp z)) (h0 := sI h 215 0 0) 3 rfl eh1 ?_
  refine zEv_k 2 (f' := (7, [some (.ref 215), some (.int x1), some (.int x2), none, none, none, none, none], [.int x1, .ref 215], zhp h1)) rfl ?_
  obtain ⟨p2, hp2, H⟩ := zbs H
  refine zEv_c (fun _ => rfl) rfl (t_qM_hand (x1 := x1) (h := h1) (d := d + 1) hp2) rfl rfl ?_
  refine zEv_k 1 (f' := (if p2.1 = 0 then 27 else 13, [some (.ref 215), some (.int x1), some (.int x2), none, none, none, none, none], [], zhp p2.2)) rfl (zEv_if (fun c3 => ?_) (fun c3 => ?_))
  · replace H := zif_t c3 H
    refine zEv_k 1 (f' := (28, [some (.ref 215), some (.int x1), some (.int x2), none, none, none, none, none], [.int (-1)], zhp p2.2)) rfl ?_
    cases H
    exact zEv_r rfl
  · replace H := zif_f c3 H
    refine zEv_k 6 (f' := (21, [some (.ref 215), some (.int x1), some (.int x2), none, none, none, none, none], [.int ((gI p2.2 215 23) - 1), .int (-1), .int x2], zhp p2.2)) rfl ?_
    refine zEv_c (fun _ => rfl) rfl ev_zf_in rfl rfl ?_
    refine zEv_k 1 (f' := (if ¬ (zf_in x2 (-1) ((gI p2.2 215 23) - 1)) = 0 then 29 else 27, [some (.ref 215), some (.int x1), some (.int x2), none, none, none, none, none], [], zhp p2.2)) rfl (zEv_if (fun c4 => ?_) (fun c4 => ?_))
    · replace H := zif_t c4 H
      refine zEv_k 9 (f' := (41, [some (.ref 215), some (.int x1), some (.int x2), some (.int (((1 : Int32) <<< ((gI p2.2 215 23) &&& 31)) - 1)), some (.int (((1 : Int32) <<< ((gI p2.2 215 23) &&& 31)) - 1)), none, none, none], [], zhp p2.2)) rfl ?_
      obtain ⟨t17, ht17, H⟩ := zbs H
      refine t_qM_dinner_b41 (x2 := x2) (x3 := ((1 : Int32) <<< ((gI p2.2 215 23) &&& 31)) - 1) ?_ zfu _ ht17 _ _ _ _
      intro y1 y4 y5 y6 y7
      refine zEv_k 6 (f' := (144, [some (.ref 215), y1, some (.int x2), some (.int (((1 : Int32) <<< ((gI p2.2 215 23) &&& 31)) - 1)), some (.int 0), some (.int 7), some (.int 0), y7], [], zhp t17)) rfl ?_
      obtain ⟨t25, ht25, H⟩ := zbs H
      refine t_qM_dinner_b144 (x2 := x2) (h := t17) ?_ zfu _ ht25 _ _ _
      intro y1 y3 y4 y6 y7
      refine zEv_k 3 (f' := (if ¬ x2 = (-1) then 221 else 210, [some (.ref 215), y1, some (.int x2), y3, y4, some (.int t25), y6, y7], [], zhp t17)) rfl (zEv_if (fun c27 => ?_) (fun c27 => ?_))
      · replace H := zif_t c27 H
        refine zEv_k 1 (f' := (223, [some (.ref 215), y1, some (.int x2), y3, y4, some (.int t25), y6, y7], [.int t25], zhp t17)) rfl ?_
        cases H
        exact zEv_r rfl
      · replace H := zif_f c27 H
        refine zEv_k 1 (f' := (211, [some (.ref 215), y1, some (.int x2), y3, y4, some (.int t25), y6, y7], [.ref 215], zhp t17)) rfl ?_
        refine zRgr rfl rfl rfl (by decide) (b := 232) rfl ?_
        refine zEv_k 1 (f' := (217, [some (.ref 215), y1, some (.int x2), y3, y4, some (.int t25), y6, y7], [.int 896, .ref 232], zhp t17)) rfl ?_
        refine zRia (j := 896) rfl rfl (by decide) (by decide) ?_
        refine zEv_k 1 (f' := (223, [some (.ref 215), y1, some (.int x2), y3, y4, some (.int t25), y6, y7], [.int (gI t17 232 896)], zhp t17)) rfl ?_
        cases H
        exact zEv_r rfl
    · replace H := zif_f c4 H
      refine zEv_k 1 (f' := (28, [some (.ref 215), some (.int x1), some (.int x2), none, none, none, none, none], [.int (-1)], zhp p2.2)) rfl ?_
      cases H
      exact zEv_r rfl
def qM_wires_b80 (x2 : Int32) (x3 : Int32) (x4 : Int32) (x5 : Int32) (s : Int32 × zK) : Option ((Int32 × zK) ⊕ (zK)) :=
  if (gI s.2 215 23) ≤ s.1 then
    some (.inr s.2)
  else
    (zix s.1 7).bind fun j15 =>
    zlet (
        if (zf_has x5 s.1) = 0 then
          0
        else
          5
      ) fun (v17 : Int32) =>
    zlet (sI s.2 228 j15 ((gI s.2 228 j15) + v17)) fun h18 =>
    some (.inl (s.1 + 1, h18))
theorem t_qM_wires_b80b {Ls : Nat} {xs : Nat → Int32} {d : Nat} {x2 : Int32} {x3 : Int32} {x4 : Int32} {x5 : Int32} {r : zA} {s : Int32 × zK} {e : (Int32 × zK) ⊕ (zK)} (H : qM_wires_b80 x2 x3 x4 x5 s = some e) (K : match (generalizing := false) e with | .inl s' => ∀ (z1 : Option Value) (z6 : Option Value), zEv (zXs Ls xs) (d + 4) zm_220 (80, [some (.ref 215), z1, some (.int x2), some (.int x3), some (.int x4), some (.int x5), z6, some (.int s'.1)], [], zhp s'.2) r | .inr v => ∀ (z1 : Option Value) (z6 : Option Value) (z7 : Option Value), zEv (zXs Ls xs) (d + 4) zm_220 (120, [some (.ref 215), z1, some (.int x2), some (.int x3), some (.int x4), some (.int x5), z6, z7], [], zhp v) r) (y1 : Option Value) (y6 : Option Value) : zEv (zXs Ls xs) (d + 4) zm_220 (80, [some (.ref 215), y1, some (.int x2), some (.int x3), some (.int x4), some (.int x5), y6, some (.int s.1)], [], zhp s.2) r := by
  unfold qM_wires_b80 at H
  refine zEv_k 4 (f' := (if (gI s.2 215 23) ≤ s.1 then 120 else 89, [some (.ref 215), y1, some (.int x2), some (.int x3), some (.int x4), some (.int x5), y6, some (.int s.1)], [], zhp s.2)) rfl (zEv_if (fun c14 => ?_) (fun c14 => ?_))
  · replace H := zif_t c14 H
    cases H
    exact K _ _ _
  · replace H := zif_f c14 H
    refine zEv_k 1 (f' := (90, [some (.ref 215), y1, some (.int x2), some (.int x3), some (.int x4), some (.int x5), y6, some (.int s.1)], [.ref 215], zhp s.2)) rfl ?_
    refine zRgr rfl rfl rfl (by decide) (b := 228) rfl ?_
    refine zEv_k 2 (f' := (96, [some (.ref 215), y1, some (.int x2), some (.int x3), some (.int x4), some (.int x5), y6, some (.int s.1)], [.int s.1, .ref 228, .int s.1, .ref 228], zhp s.2)) rfl ?_
    obtain ⟨j15, hj15, H⟩ := zbs H
    refine zRia rfl rfl (by decide) hj15 ?_
    obtain ⟨v17, hv17, H⟩ := zlets H
    have kv17 : zEv (zXs Ls xs) (d + 4) zm_220 (112, [some (.ref 215), y1, some (.int x2), some (.int x3), some (.int x4), some (.int x5), y6, some (.int s.1)], [.int v17, .int (gI s.2 228 j15), .int s.1, .ref 228], zhp s.2) r := by
      refine zEv_k 1 (f' := (113, [some (.ref 215), y1, some (.int x2), some (.int x3), some (.int x4), some (.int x5), y6, some (.int s.1)], [.int ((gI s.2 228 j15) + v17), .int s.1, .ref 228], zhp s.2)) rfl ?_
      obtain ⟨h18, eh18, H⟩ := zlets H
      refine zRis rfl rfl (by decide) hj15 eh18 ?_
      refine zEv_k 2 (f' := (80, [some (.ref 215), y1, some (.int x2), some (.int x3), some (.int x4), some (.int x5), zlost y6, some (.int (s.1 + 1))], [], zhp h18)) rfl ?_
      cases H
      exact K _ _
    clear H
    refine zEv_k 2 (f' := (101, [some (.ref 215), y1, some (.int x2), some (.int x3), some (.int x4), some (.int x5), y6, some (.int s.1)], [.int s.1, .int x5, .int (gI s.2 228 j15), .int s.1, .ref 228], zhp s.2)) rfl ?_
    refine zEv_c (fun _ => rfl) rfl ev_zf_has rfl rfl ?_
    refine zEv_k 1 (f' := (if (zf_has x5 s.1) = 0 then 111 else 107, [some (.ref 215), y1, some (.int x2), some (.int x3), some (.int x4), some (.int x5), y6, some (.int s.1)], [.int (gI s.2 228 j15), .int s.1, .ref 228], zhp s.2)) rfl (zEv_if (fun c16 => ?_) (fun c16 => ?_))
    · replace hv17 := zif_t c16 hv17
      refine zEv_k 1 (f' := (112, [some (.ref 215), y1, some (.int x2), some (.int x3), some (.int x4), some (.int x5), y6, some (.int s.1)], [.int 0, .int (gI s.2 228 j15), .int s.1, .ref 228], zhp s.2)) rfl ?_
      cases hv17
      exact kv17
    · replace hv17 := zif_f c16 hv17
      refine zEv_k 2 (f' := (112, [some (.ref 215), y1, some (.int x2), some (.int x3), some (.int x4), some (.int x5), y6, some (.int s.1)], [.int 5, .int (gI s.2 228 j15), .int s.1, .ref 228], zhp s.2)) rfl ?_
      cases hv17
      exact kv17
theorem t_qM_wires_b80 {Ls : Nat} {xs : Nat → Int32} {d : Nat} {x2 : Int32} {x3 : Int32} {x4 : Int32} {x5 : Int32} {r : zA} {t : zK} (K : ∀ (z1 : Option Value) (z6 : Option Value) (z7 : Option Value), zEv (zXs Ls xs) (d + 4) zm_220 (120, [some (.ref 215), z1, some (.int x2), some (.int x3), some (.int x4), some (.int x5), z6, z7], [], zhp t) r) (n : Nat) (s : Int32 × zK) (H : zloop (qM_wires_b80 x2 x3 x4 x5) n s = some t) (y1 : Option Value) (y6 : Option Value) : zEv (zXs Ls xs) (d + 4) zm_220 (80, [some (.ref 215), y1, some (.int x2), some (.int x3), some (.int x4), some (.int x5), y6, some (.int s.1)], [], zhp s.2) r := by
  have Z := zloop_P (P := fun s => ∀ (y1 : Option Value) (y6 : Option Value), zEv (zXs Ls xs) (d + 4) zm_220 (80, [some (.ref 215), y1, some (.int x2), some (.int x3), some (.int x4), some (.int x5), y6, some (.int s.1)], [], zhp s.2) r) (b := qM_wires_b80 x2 x3 x4 x5) (t := t) (fun s s2 hb hk => by intro y1 y6; exact t_qM_wires_b80b hb hk y1 y6) (fun s hb => by intro y1 y6; exact t_qM_wires_b80b hb K y1 y6) n s H
  exact Z y1 y6
def qM_wires_b123 (x2 : Int32) (x3 : Int32) (x4 : Int32) (x5 : Int32) (s : Int32 × zK) : Option ((Int32 × zK) ⊕ (zK)) :=
  if x2 ≤ s.1 then
    some (.inr s.2)
  else
    (qM_goesOn s.2).bind fun p22 =>
    some (.inl (s.1 + 1, p22.2))
theorem t_qM_wires_b123b {Ls : Nat} {xs : Nat → Int32} {d : Nat} {x2 : Int32} {x3 : Int32} {x4 : Int32} {x5 : Int32} {r : zA} {s : Int32 × zK} {e : (Int32 × zK) ⊕ (zK)} (H : qM_wires_b123 x2 x3 x4 x5 s = some e) (K : match (generalizing := false) e with | .inl s' => ∀ (z1 : Option Value) (z6 : Option Value), zEv (zXs Ls xs) (d + 4) zm_220 (123, [some (.ref 215), z1, some (.int x2), some (.int x3), some (.int x4), some (.int x5), z6, some (.int s'.1)], [], zhp s'.2) r | .inr v => ∀ (z1 : Option Value) (z6 : Option Value) (z7 : Option Value), zEv (zXs Ls xs) (d + 4) zm_220 (140, [some (.ref 215), z1, some (.int x2), some (.int x3), some (.int x4), some (.int x5), z6, z7], [], zhp v) r) (y1 : Option Value) (y6 : Option Value) : zEv (zXs Ls xs) (d + 4) zm_220 (123, [some (.ref 215), y1, some (.int x2), some (.int x3), some (.int x4), some (.int x5), y6, some (.int s.1)], [], zhp s.2) r := by
  unfold qM_wires_b123 at H
  refine zEv_k 3 (f' := (if x2 ≤ s.1 then 140 else 129, [some (.ref 215), y1, some (.int x2), some (.int x3), some (.int x4), some (.int x5), y6, some (.int s.1)], [], zhp s.2)) rfl (zEv_if (fun c21 => ?_) (fun c21 => ?_))
  · replace H := zif_t c21 H
    cases H
    exact K _ _ _
  · replace H := zif_f c21 H
    refine zEv_k 1 (f' := (130, [some (.ref 215), y1, some (.int x2), some (.int x3), some (.int x4), some (.int x5), y6, some (.int s.1)], [.ref 215], zhp s.2)) rfl ?_
    obtain ⟨p22, hp22, H⟩ := zbs H
    refine zEv_c (fun _ => rfl) rfl (t_qM_goesOn (h := s.2) (d := d) hp22) rfl rfl ?_
    refine zEv_k 3 (f' := (123, [some (.ref 215), y1, some (.int x2), some (.int x3), some (.int x4), some (.int x5), zlost y6, some (.int (s.1 + 1))], [], zhp p22.2)) rfl ?_
    cases H
    exact K _ _
theorem t_qM_wires_b123 {Ls : Nat} {xs : Nat → Int32} {d : Nat} {x2 : Int32} {x3 : Int32} {x4 : Int32} {x5 : Int32} {r : zA} {t : zK} (K : ∀ (z1 : Option Value) (z6 : Option Value) (z7 : Option Value), zEv (zXs Ls xs) (d + 4) zm_220 (140, [some (.ref 215), z1, some (.int x2), some (.int x3), some (.int x4), some (.int x5), z6, z7], [], zhp t) r) (n : Nat) (s : Int32 × zK) (H : zloop (qM_wires_b123 x2 x3 x4 x5) n s = some t) (y1 : Option Value) (y6 : Option Value) : zEv (zXs Ls xs) (d + 4) zm_220 (123, [some (.ref 215), y1, some (.int x2), some (.int x3), some (.int x4), some (.int x5), y6, some (.int s.1)], [], zhp s.2) r := by
  have Z := zloop_P (P := fun s => ∀ (y1 : Option Value) (y6 : Option Value), zEv (zXs Ls xs) (d + 4) zm_220 (123, [some (.ref 215), y1, some (.int x2), some (.int x3), some (.int x4), some (.int x5), y6, some (.int s.1)], [], zhp s.2) r) (b := qM_wires_b123 x2 x3 x4 x5) (t := t) (fun s s2 hb hk => by intro y1 y6; exact t_qM_wires_b123b hb hk y1 y6) (fun s hb => by intro y1 y6; exact t_qM_wires_b123b hb K y1 y6) n s H
  exact Z y1 y6
def qM_wires_b31 (x2 : Int32) (x3 : Int32) (s : Int32 × Int32 × zK) : Option ((Int32 × Int32 × zK) ⊕ (Int32 × zK)) :=
  if ((1 : Int32) <<< ((gI s.2.2 215 23) &&& 31)) ≤ s.2.1 then
    some (.inr (s.1, s.2.2))
  else
    Option.bind (
        if s.1 = (-1) then
          some 1
        else
          (qM_ones s.2.1).bind fun p8 =>
          (qM_ones s.1).bind fun p9 =>
          if p9 ≤ p8 then
            some 0
          else
            some 1
      ) fun (v7 : Int32) =>
    Option.bind (
        if v7 = 0 then
          some (s.1, s.2.2)
        else
          (qM_asTold s.2.2).bind fun p13 =>
          (zloop (qM_wires_b80 x2 x3 s.1 s.2.1) zfu (0, p13)).bind fun t19 =>
          (zloop (qM_wires_b123 x2 x3 s.1 s.2.1) zfu (0, t19)).bind fun t23 =>
          zlet (
              if ¬ (gI t23 215 28) = 0 then
                s.1
              else
                s.2.1
            ) fun (v26 : Int32) =>
          some (v26, t23)
      ) fun (v12 : Int32 × zK) =>
    some (.inl (v12.1, s.2.1 + 1, v12.2))
theorem t_qM_wires_b31b {Ls : Nat} {xs : Nat → Int32} {d : Nat} {x2 : Int32} {x3 : Int32} {r : zA} {s : Int32 × Int32 × zK} {e : (Int32 × Int32 × zK) ⊕ (Int32 × zK)} (H : qM_wires_b31 x2 x3 s = some e) (K : match (generalizing := false) e with | .inl s' => ∀ (z1 : Option Value) (z6 : Option Value) (z7 : Option Value), zEv (zXs Ls xs) (d + 4) zm_220 (31, [some (.ref 215), z1, some (.int x2), some (.int x3), some (.int s'.1), some (.int s'.2.1), z6, z7], [], zhp s'.2.2) r | .inr v => ∀ (z1 : Option Value) (z5 : Option Value) (z6 : Option Value) (z7 : Option Value), zEv (zXs Ls xs) (d + 4) zm_220 (162, [some (.ref 215), z1, some (.int x2), some (.int x3), some (.int v.1), z5, z6, z7], [], zhp v.2) r) (y1 : Option Value) (y6 : Option Value) (y7 : Option Value) : zEv (zXs Ls xs) (d + 4) zm_220 (31, [some (.ref 215), y1, some (.int x2), some (.int x3), some (.int s.1), some (.int s.2.1), y6, y7], [], zhp s.2.2) r := by
  unfold qM_wires_b31 at H
  refine zEv_k 6 (f' := (if ((1 : Int32) <<< ((gI s.2.2 215 23) &&& 31)) ≤ s.2.1 then 162 else 42, [some (.ref 215), y1, some (.int x2), some (.int x3), some (.int s.1), some (.int s.2.1), y6, y7], [], zhp s.2.2)) rfl (zEv_if (fun c5 => ?_) (fun c5 => ?_))
  · replace H := zif_t c5 H
    cases H
    exact K _ _ _ _
  · replace H := zif_f c5 H
    obtain ⟨v7, hv7, H⟩ := zbs H
    have kv7 : zEv (zXs Ls xs) (d + 4) zm_220 (66, [some (.ref 215), y1, some (.int x2), some (.int x3), some (.int s.1), some (.int s.2.1), y6, y7], [.int v7], zhp s.2.2) r := by
      obtain ⟨v12, hv12, H⟩ := zbs H
      have kv12 : ∀ (y1 : Option Value) (y6 : Option Value) (y7 : Option Value), zEv (zXs Ls xs) (d + 4) zm_220 (156, [some (.ref 215), y1, some (.int x2), some (.int x3), some (.int v12.1), some (.int s.2.1), y6, y7], [], zhp v12.2) r := by
        intro y1 y6 y7
        refine zEv_k 2 (f' := (31, [some (.ref 215), y1, some (.int x2), some (.int x3), some (.int v12.1), some (.int (s.2.1 + 1)), y6, y7], [], zhp v12.2)) rfl ?_
        cases H
        exact K _ _ _
      clear H
      refine zEv_k 3 (f' := (if v7 = 0 then 156 else 73, [some (.ref 215), y1, some (.int x2), some (.int x3), some (.int s.1), some (.int s.2.1), some (.int v7), y7], [], zhp s.2.2)) rfl (zEv_if (fun c11 => ?_) (fun c11 => ?_))
      · replace hv12 := zif_t c11 hv12
        cases hv12
        exact kv12 _ _ _
      · replace hv12 := zif_f c11 hv12
        refine zEv_k 1 (f' := (74, [some (.ref 215), y1, some (.int x2), some (.int x3), some (.int s.1), some (.int s.2.1), some (.int v7), y7], [.ref 215], zhp s.2.2)) rfl ?_
        obtain ⟨p13, hp13, hv12⟩ := zbs hv12
        refine zEv_c (fun _ => rfl) rfl (t_qM_asTold (h := s.2.2) (d := d + 2) hp13) rfl rfl ?_
        refine zEv_k 2 (f' := (80, [some (.ref 215), y1, some (.int x2), some (.int x3), some (.int s.1), some (.int s.2.1), some (.int v7), some (.int 0)], [], zhp p13)) rfl ?_
        obtain ⟨t19, ht19, hv12⟩ := zbs hv12
        refine t_qM_wires_b80 (x2 := x2) (x3 := x3) (x4 := s.1) (x5 := s.2.1) ?_ zfu _ ht19 _ _
        intro y1 y6 y7
        refine zEv_k 2 (f' := (123, [some (.ref 215), y1, some (.int x2), some (.int x3), some (.int s.1), some (.int s.2.1), zlost y6, some (.int 0)], [], zhp t19)) rfl ?_
        obtain ⟨t23, ht23, hv12⟩ := zbs hv12
        refine t_qM_wires_b123 (x2 := x2) (x3 := x3) (x4 := s.1) (x5 := s.2.1) ?_ zfu _ ht23 _ _
        intro y1 y6 y7
        obtain ⟨v26, hv26, hv12⟩ := zlets hv12
        have kv26 : zEv (zXs Ls xs) (d + 4) zm_220 (154, [some (.ref 215), y1, some (.int x2), some (.int x3), some (.int s.1), some (.int s.2.1), y6, y7], [.int v26], zhp t23) r := by
          refine zEv_k 1 (f' := (156, [some (.ref 215), y1, some (.int x2), some (.int x3), some (.int v26), some (.int s.2.1), y6, y7], [], zhp t23)) rfl ?_
          cases hv12
          exact kv12 _ _ _
        clear hv12
        refine zEv_k 3 (f' := (if ¬ (gI t23 215 28) = 0 then 152 else 147, [some (.ref 215), y1, some (.int x2), some (.int x3), some (.int s.1), some (.int s.2.1), y6, y7], [], zhp t23)) rfl (zEv_if (fun c25 => ?_) (fun c25 => ?_))
        · replace hv26 := zif_t c25 hv26
          refine zEv_k 1 (f' := (154, [some (.ref 215), y1, some (.int x2), some (.int x3), some (.int s.1), some (.int s.2.1), y6, y7], [.int s.1], zhp t23)) rfl ?_
          cases hv26
          exact kv26
        · replace hv26 := zif_f c25 hv26
          refine zEv_k 2 (f' := (154, [some (.ref 215), y1, some (.int x2), some (.int x3), some (.int s.1), some (.int s.2.1), y6, y7], [.int s.2.1], zhp t23)) rfl ?_
          cases hv26
          exact kv26
    clear H
    refine zEv_k 3 (f' := (if s.1 = (-1) then 61 else 48, [some (.ref 215), y1, some (.int x2), some (.int x3), some (.int s.1), some (.int s.2.1), y6, y7], [], zhp s.2.2)) rfl (zEv_if (fun c6 => ?_) (fun c6 => ?_))
    · replace hv7 := zif_t c6 hv7
      refine zEv_k 2 (f' := (66, [some (.ref 215), y1, some (.int x2), some (.int x3), some (.int s.1), some (.int s.2.1), y6, y7], [.int 1], zhp s.2.2)) rfl ?_
      cases hv7
      exact kv7
    · replace hv7 := zif_f c6 hv7
      refine zEv_k 1 (f' := (50, [some (.ref 215), y1, some (.int x2), some (.int x3), some (.int s.1), some (.int s.2.1), y6, y7], [.int s.2.1], zhp s.2.2)) rfl ?_
      obtain ⟨p8, hp8, hv7⟩ := zbs hv7
      refine zEv_c (fun _ => rfl) rfl (t_qM_ones (x0 := s.2.1) (h := s.2.2) (d := d + 2) hp8) rfl rfl ?_
      refine zEv_k 1 (f' := (55, [some (.ref 215), y1, some (.int x2), some (.int x3), some (.int s.1), some (.int s.2.1), y6, y7], [.int s.1, .int p8], zhp s.2.2)) rfl ?_
      obtain ⟨p9, hp9, hv7⟩ := zbs hv7
      refine zEv_c (fun _ => rfl) rfl (t_qM_ones (x0 := s.1) (h := s.2.2) (d := d + 2) hp9) rfl rfl ?_
      refine zEv_k 1 (f' := (if p9 ≤ p8 then 65 else 61, [some (.ref 215), y1, some (.int x2), some (.int x3), some (.int s.1), some (.int s.2.1), y6, y7], [], zhp s.2.2)) rfl (zEv_if (fun c10 => ?_) (fun c10 => ?_))
      · replace hv7 := zif_t c10 hv7
        refine zEv_k 1 (f' := (66, [some (.ref 215), y1, some (.int x2), some (.int x3), some (.int s.1), some (.int s.2.1), y6, y7], [.int 0], zhp s.2.2)) rfl ?_
        cases hv7
        exact kv7
      · replace hv7 := zif_f c10 hv7
        refine zEv_k 2 (f' := (66, [some (.ref 215), y1, some (.int x2), some (.int x3), some (.int s.1), some (.int s.2.1), y6, y7], [.int 1], zhp s.2.2)) rfl ?_
        cases hv7
        exact kv7
theorem t_qM_wires_b31 {Ls : Nat} {xs : Nat → Int32} {d : Nat} {x2 : Int32} {x3 : Int32} {r : zA} {t : Int32 × zK} (K : ∀ (z1 : Option Value) (z5 : Option Value) (z6 : Option Value) (z7 : Option Value), zEv (zXs Ls xs) (d + 4) zm_220 (162, [some (.ref 215), z1, some (.int x2), some (.int x3), some (.int t.1), z5, z6, z7], [], zhp t.2) r) (n : Nat) (s : Int32 × Int32 × zK) (H : zloop (qM_wires_b31 x2 x3) n s = some t) (y1 : Option Value) (y6 : Option Value) (y7 : Option Value) : zEv (zXs Ls xs) (d + 4) zm_220 (31, [some (.ref 215), y1, some (.int x2), some (.int x3), some (.int s.1), some (.int s.2.1), y6, y7], [], zhp s.2.2) r := by
  have Z := zloop_P (P := fun s => ∀ (y1 : Option Value) (y6 : Option Value) (y7 : Option Value), zEv (zXs Ls xs) (d + 4) zm_220 (31, [some (.ref 215), y1, some (.int x2), some (.int x3), some (.int s.1), some (.int s.2.1), y6, y7], [], zhp s.2.2) r) (b := qM_wires_b31 x2 x3) (t := t) (fun s s2 hb hk => by intro y1 y6 y7; exact t_qM_wires_b31b hb hk y1 y6 y7) (fun s hb => by intro y1 y6 y7; exact t_qM_wires_b31b hb K y1 y6 y7) n s H
  exact Z y1 y6 y7
def qM_wires (x1 : Int32) (x2 : Int32) (x3 : Int32) (h : zK) : Option (Int32 × zK) :=
  zlet (sI h 215 0 0) fun h1 =>
  if (zf_in x2 0 20) = 0 then
    some (-1, h1)
  else
    (qM_hand x1 h1).bind fun p3 =>
    if ¬ p3.1 = 0 then
      (zloop (qM_wires_b31 x2 x3) zfu (-1, 0, p3.2)).bind fun t27 =>
      if t27.1 = (-1) then
        some (t27.1, t27.2)
      else
        if x3 = 0 then
          (qM_ones t27.1).bind fun p31 =>
          some (p31, t27.2)
        else
          some (t27.1, t27.2)
    else
      some (-1, p3.2)
theorem t_qM_wires {Ls : Nat} {xs : Nat → Int32} {d : Nat} {x1 : Int32} {x2 : Int32} {x3 : Int32} {h : zK} {p : Int32 × zK} (H : qM_wires x1 x2 x3 h = some p) : zEv (zXs Ls xs) (d + 4) zm_220 (0, [some (.ref 215), some (.int x1), some (.int x2), some (.int x3), none, none, none, none], [], zhp h) (some (.int p.1), zhp p.2) := by
  unfold qM_wires at H
  obtain ⟨h1, eh1, H⟩ := zlets H
  refine zEv_w (F := fun z => (5, [some (.ref 215), some (.int x1), some (.int x2), some (.int x3), none, none, none, none], [], zhp z)) (h0 := sI h 215 0 0) 3 rfl eh1 ?_
  refine zEv_k 3 (f' := (9, [some (.ref 215), some (.int x1), some (.int x2), some (.int x3), none, none, none, none], [.int 20, .int 0, .int x2], zhp h1)) rfl ?_
  refine zEv_c (fun _ => rfl) rfl ev_zf_in rfl rfl ?_
  refine zEv_k 1 (f' := (if (zf_in x2 0 20) = 0 then 23 else 15, [some (.ref 215), some (.int x1), some (.int x2), some (.int x3), none, none, none, none], [], zhp h1)) rfl (zEv_if (fun c2 => ?_) (fun c2 => ?_))
  · replace H := zif_t c2 H
    refine zEv_k 1 (f' := (24, [some (.ref 215), some (.int x1), some (.int x2), some (.int x3), none, none, none, none], [.int (-1)], zhp h1)) rfl ?_
    cases H
    exact zEv_r rfl
  · replace H := zif_f c2 H
    refine zEv_k 2 (f' := (17, [some (.ref 215), some (.int x1), some (.int x2), some (.int x3), none, none, none, none], [.int x1, .ref 215], zhp h1)) rfl ?_
    obtain ⟨p3, hp3, H⟩ := zbs H
    refine zEv_c (fun _ => rfl) rfl (t_qM_hand (x1 := x1) (h := h1) (d := d + 1) hp3) rfl rfl ?_
    refine zEv_k 1 (f' := (if ¬ p3.1 = 0 then 25 else 23, [some (.ref 215), some (.int x1), some (.int x2), some (.int x3), none, none, none, none], [], zhp p3.2)) rfl (zEv_if (fun c4 => ?_) (fun c4 => ?_))
    · replace H := zif_t c4 H
      refine zEv_k 4 (f' := (31, [some (.ref 215), some (.int x1), some (.int x2), some (.int x3), some (.int (-1)), some (.int 0), none, none], [], zhp p3.2)) rfl ?_
      obtain ⟨t27, ht27, H⟩ := zbs H
      refine t_qM_wires_b31 (x2 := x2) (x3 := x3) ?_ zfu _ ht27 _ _ _
      intro y1 y5 y6 y7
      refine zEv_k 3 (f' := (if t27.1 = (-1) then 172 else 168, [some (.ref 215), y1, some (.int x2), some (.int x3), some (.int t27.1), y5, y6, y7], [], zhp t27.2)) rfl (zEv_if (fun c29 => ?_) (fun c29 => ?_))
      · replace H := zif_t c29 H
        refine zEv_k 2 (f' := (182, [some (.ref 215), y1, some (.int x2), some (.int x3), some (.int t27.1), y5, y6, y7], [.int t27.1], zhp t27.2)) rfl ?_
        cases H
        exact zEv_r rfl
      · replace H := zif_f c29 H
        refine zEv_k 2 (f' := (if x3 = 0 then 177 else 172, [some (.ref 215), y1, some (.int x2), some (.int x3), some (.int t27.1), y5, y6, y7], [], zhp t27.2)) rfl (zEv_if (fun c30 => ?_) (fun c30 => ?_))
        · replace H := zif_t c30 H
          refine zEv_k 1 (f' := (179, [some (.ref 215), y1, some (.int x2), some (.int x3), some (.int t27.1), y5, y6, y7], [.int t27.1], zhp t27.2)) rfl ?_
          obtain ⟨p31, hp31, H⟩ := zbs H
          refine zEv_c (fun _ => rfl) rfl (t_qM_ones (x0 := t27.1) (h := t27.2) (d := d + 2) hp31) rfl rfl ?_
          cases H
          exact zEv_r rfl
        · replace H := zif_f c30 H
          refine zEv_k 2 (f' := (182, [some (.ref 215), y1, some (.int x2), some (.int x3), some (.int t27.1), y5, y6, y7], [.int t27.1], zhp t27.2)) rfl ?_
          cases H
          exact zEv_r rfl
    · replace H := zif_f c4 H
      refine zEv_k 1 (f' := (24, [some (.ref 215), some (.int x1), some (.int x2), some (.int x3), none, none, none, none], [.int (-1)], zhp p3.2)) rfl ?_
      cases H
      exact zEv_r rfl
def qM_duelBy (x1 : Int32) (x2 : Int32) (x3 : Int32) (x4 : Int32) (h : zK) : Option (Int32) :=
  if ¬ x4 = 7 then
    if (gI h 215 23) ≤ x4 then
      some 1000000
    else
      if (zf_has x2 x4) = 0 then
        (qM_tellsBy x3 x4 h).bind fun p4 =>
        zlet (
            if ¬ (x1 - x1 / 2 * 2) = 0 then
              -p4
            else
              p4
          ) fun (v6 : Int32) =>
        (zix (((1024 * (x1 + 1)) + (128 * x4)) + (x2 ||| ((1 : Int32) <<< (x4 &&& 31)))) 6144).bind fun j7 =>
        some (v6 + (gI h 233 j7))
      else
        some 1000000
  else
    (zix (((1024 * (x1 + 1)) + (128 * x3)) + x2) 6144).bind fun j8 =>
    some (gI h 233 j8)
theorem t_qM_duelBy {Ls : Nat} {xs : Nat → Int32} {d : Nat} {x1 : Int32} {x2 : Int32} {x3 : Int32} {x4 : Int32} {h : zK} {p : Int32} (H : qM_duelBy x1 x2 x3 x4 h = some p) : zEv (zXs Ls xs) (d + 3) zm_221 (0, [some (.ref 215), some (.int x1), some (.int x2), some (.int x3), some (.int x4), none, none], [], zhp h) (some (.int p), zhp h) := by
  unfold qM_duelBy at H
  refine zEv_k 9 (f' := (if ¬ x4 = 7 then 32 else 16, [some (.ref 215), some (.int x1), some (.int x2), some (.int x3), some (.int x4), some (.int (1024 * (x1 + 1))), none], [], zhp h)) rfl (zEv_if (fun c1 => ?_) (fun c1 => ?_))
  · replace H := zif_t c1 H
    refine zEv_k 4 (f' := (if (gI h 215 23) ≤ x4 then 50 else 41, [some (.ref 215), some (.int x1), some (.int x2), some (.int x3), some (.int x4), some (.int (1024 * (x1 + 1))), none], [], zhp h)) rfl (zEv_if (fun c2 => ?_) (fun c2 => ?_))
    · replace H := zif_t c2 H
      refine zEv_k 1 (f' := (53, [some (.ref 215), some (.int x1), some (.int x2), some (.int x3), some (.int x4), some (.int (1024 * (x1 + 1))), none], [.int 1000000], zhp h)) rfl ?_
      cases H
      exact zEv_r rfl
    · replace H := zif_f c2 H
      refine zEv_k 2 (f' := (44, [some (.ref 215), some (.int x1), some (.int x2), some (.int x3), some (.int x4), some (.int (1024 * (x1 + 1))), none], [.int x4, .int x2], zhp h)) rfl ?_
      refine zEv_c (fun _ => rfl) rfl ev_zf_has rfl rfl ?_
      refine zEv_k 1 (f' := (if (zf_has x2 x4) = 0 then 54 else 50, [some (.ref 215), some (.int x1), some (.int x2), some (.int x3), some (.int x4), some (.int (1024 * (x1 + 1))), none], [], zhp h)) rfl (zEv_if (fun c3 => ?_) (fun c3 => ?_))
      · replace H := zif_t c3 H
        refine zEv_k 3 (f' := (58, [some (.ref 215), some (.int x1), some (.int x2), some (.int x3), some (.int x4), some (.int (1024 * (x1 + 1))), none], [.int x4, .int x3, .ref 215], zhp h)) rfl ?_
        obtain ⟨p4, hp4, H⟩ := zbs H
        refine zEv_c (fun _ => rfl) rfl (t_qM_tellsBy (x1 := x3) (x2 := x4) (h := h) (d := d) hp4) rfl rfl ?_
        obtain ⟨v6, hv6, H⟩ := zlets H
        have kv6 : zEv (zXs Ls xs) (d + 3) zm_221 (77, [some (.ref 215), some (.int x1), some (.int x2), some (.int x3), some (.int x4), some (.int (1024 * (x1 + 1))), some (.int p4)], [.int v6], zhp h) (some (.int p), zhp h) := by
          refine zEv_k 1 (f' := (78, [some (.ref 215), some (.int x1), some (.int x2), some (.int x3), some (.int x4), some (.int (1024 * (x1 + 1))), some (.int p4)], [.ref 215, .int v6], zhp h)) rfl ?_
          refine zRgr rfl rfl rfl (by decide) (b := 233) rfl ?_
          refine zEv_k 9 (f' := (95, [some (.ref 215), some (.int x1), some (.int x2), some (.int x3), some (.int x4), some (.int (1024 * (x1 + 1))), some (.int p4)], [.int ((1 : Int32) <<< (x4 &&& 31)), .int x2, .int ((1024 * (x1 + 1)) + (128 * x4)), .ref 233, .int v6], zhp h)) rfl ?_
          refine zEv_k 2 (f' := (97, [some (.ref 215), some (.int x1), some (.int x2), some (.int x3), some (.int x4), some (.int (1024 * (x1 + 1))), some (.int p4)], [.int (((1024 * (x1 + 1)) + (128 * x4)) + (x2 ||| ((1 : Int32) <<< (x4 &&& 31)))), .ref 233, .int v6], zhp h)) rfl ?_
          obtain ⟨j7, hj7, H⟩ := zbs H
          refine zRia rfl rfl (by decide) hj7 ?_
          refine zEv_k 1 (f' := (99, [some (.ref 215), some (.int x1), some (.int x2), some (.int x3), some (.int x4), some (.int (1024 * (x1 + 1))), some (.int p4)], [.int (v6 + (gI h 233 j7))], zhp h)) rfl ?_
          cases H
          exact zEv_r rfl
        clear H
        refine zEv_k 3 (f' := (65, [some (.ref 215), some (.int x1), some (.int x2), some (.int x3), some (.int x4), some (.int (1024 * (x1 + 1))), some (.int p4)], [.int 2, .int x1], zhp h)) rfl ?_
        refine zEv_rem rfl (by decide) ?_
        refine zEv_k 1 (f' := (if ¬ (x1 - x1 / 2 * 2) = 0 then 74 else 69, [some (.ref 215), some (.int x1), some (.int x2), some (.int x3), some (.int x4), some (.int (1024 * (x1 + 1))), some (.int p4)], [], zhp h)) rfl (zEv_if (fun c5 => ?_) (fun c5 => ?_))
        · replace hv6 := zif_t c5 hv6
          refine zEv_k 2 (f' := (77, [some (.ref 215), some (.int x1), some (.int x2), some (.int x3), some (.int x4), some (.int (1024 * (x1 + 1))), some (.int p4)], [.int (-p4)], zhp h)) rfl ?_
          cases hv6
          exact kv6
        · replace hv6 := zif_f c5 hv6
          refine zEv_k 2 (f' := (77, [some (.ref 215), some (.int x1), some (.int x2), some (.int x3), some (.int x4), some (.int (1024 * (x1 + 1))), some (.int p4)], [.int p4], zhp h)) rfl ?_
          cases hv6
          exact kv6
      · replace H := zif_f c3 H
        refine zEv_k 1 (f' := (53, [some (.ref 215), some (.int x1), some (.int x2), some (.int x3), some (.int x4), some (.int (1024 * (x1 + 1))), none], [.int 1000000], zhp h)) rfl ?_
        cases H
        exact zEv_r rfl
  · replace H := zif_f c1 H
    refine zEv_k 1 (f' := (17, [some (.ref 215), some (.int x1), some (.int x2), some (.int x3), some (.int x4), some (.int (1024 * (x1 + 1))), none], [.ref 215], zhp h)) rfl ?_
    refine zRgr rfl rfl rfl (by decide) (b := 233) rfl ?_
    refine zEv_k 7 (f' := (30, [some (.ref 215), some (.int x1), some (.int x2), some (.int x3), some (.int x4), some (.int (1024 * (x1 + 1))), none], [.int (((1024 * (x1 + 1)) + (128 * x3)) + x2), .ref 233], zhp h)) rfl ?_
    obtain ⟨j8, hj8, H⟩ := zbs H
    refine zRia rfl rfl (by decide) hj8 ?_
    cases H
    exact zEv_r rfl
def qM_findDuel_b11 (x1 : Int32) (x2 : Int32) (x3 : Int32) (s : Int32 × Int32 × zK) : Option ((Int32 × Int32 × zK) ⊕ (Int32 × zK)) :=
  if 7 < s.2.1 then
    some (.inr (s.1, s.2.2))
  else
    (qM_duelBy x1 x2 x3 s.2.1 s.2.2).bind fun p3 =>
    Option.bind (
        if p3 = 1000000 then
          some (s.1, s.2.2)
        else
          if (gI s.2.2 215 42) = (-1) then
            zlet (sI s.2.2 215 42 s.2.1) fun h7 =>
            some (p3, h7)
          else
            if ¬ (x1 - x1 / 2 * 2) = 0 then
              if s.1 ≤ p3 then
                some (s.1, s.2.2)
              else
                zlet (sI s.2.2 215 42 s.2.1) fun h10 =>
                some (p3, h10)
            else
              if p3 ≤ s.1 then
                some (s.1, s.2.2)
              else
                zlet (sI s.2.2 215 42 s.2.1) fun h12 =>
                some (p3, h12)
      ) fun (v5 : Int32 × zK) =>
    some (.inl (v5.1, s.2.1 + 1, v5.2))
theorem t_qM_findDuel_b11b {Ls : Nat} {xs : Nat → Int32} {d : Nat} {x1 : Int32} {x2 : Int32} {x3 : Int32} {r : zA} {s : Int32 × Int32 × zK} {e : (Int32 × Int32 × zK) ⊕ (Int32 × zK)} (H : qM_findDuel_b11 x1 x2 x3 s = some e) (K : match (generalizing := false) e with | .inl s' => ∀ (z6 : Option Value), zEv (zXs Ls xs) (d + 4) zm_222 (11, [some (.ref 215), some (.int x1), some (.int x2), some (.int x3), some (.int s'.1), some (.int s'.2.1), z6], [], zhp s'.2.2) r | .inr v => ∀ (z5 : Option Value) (z6 : Option Value), zEv (zXs Ls xs) (d + 4) zm_222 (84, [some (.ref 215), some (.int x1), some (.int x2), some (.int x3), some (.int v.1), z5, z6], [], zhp v.2) r) (y6 : Option Value) : zEv (zXs Ls xs) (d + 4) zm_222 (11, [some (.ref 215), some (.int x1), some (.int x2), some (.int x3), some (.int s.1), some (.int s.2.1), y6], [], zhp s.2.2) r := by
  unfold qM_findDuel_b11 at H
  refine zEv_k 3 (f' := (if 7 < s.2.1 then 84 else 18, [some (.ref 215), some (.int x1), some (.int x2), some (.int x3), some (.int s.1), some (.int s.2.1), y6], [], zhp s.2.2)) rfl (zEv_if (fun c2 => ?_) (fun c2 => ?_))
  · replace H := zif_t c2 H
    cases H
    exact K _ _
  · replace H := zif_f c2 H
    refine zEv_k 5 (f' := (24, [some (.ref 215), some (.int x1), some (.int x2), some (.int x3), some (.int s.1), some (.int s.2.1), y6], [.int s.2.1, .int x3, .int x2, .int x1, .ref 215], zhp s.2.2)) rfl ?_
    obtain ⟨p3, hp3, H⟩ := zbs H
    refine zEv_c (fun _ => rfl) rfl (t_qM_duelBy (x1 := x1) (x2 := x2) (x3 := x3) (x4 := s.2.1) (h := s.2.2) (d := d) hp3) rfl rfl ?_
    obtain ⟨v5, hv5, H⟩ := zbs H
    have kv5 : zEv (zXs Ls xs) (d + 4) zm_222 (78, [some (.ref 215), some (.int x1), some (.int x2), some (.int x3), some (.int v5.1), some (.int s.2.1), some (.int p3)], [], zhp v5.2) r := by
      refine zEv_k 2 (f' := (11, [some (.ref 215), some (.int x1), some (.int x2), some (.int x3), some (.int v5.1), some (.int (s.2.1 + 1)), some (.int p3)], [], zhp v5.2)) rfl ?_
      cases H
      exact K _
    clear H
    refine zEv_k 4 (f' := (if p3 = 1000000 then 78 else 37, [some (.ref 215), some (.int x1), some (.int x2), some (.int x3), some (.int s.1), some (.int s.2.1), some (.int p3)], [], zhp s.2.2)) rfl (zEv_if (fun c4 => ?_) (fun c4 => ?_))
    · replace hv5 := zif_t c4 hv5
      cases hv5
      exact kv5
    · replace hv5 := zif_f c4 hv5
      refine zEv_k 4 (f' := (if (gI s.2.2 215 42) = (-1) then 68 else 45, [some (.ref 215), some (.int x1), some (.int x2), some (.int x3), some (.int s.1), some (.int s.2.1), some (.int p3)], [], zhp s.2.2)) rfl (zEv_if (fun c6 => ?_) (fun c6 => ?_))
      · replace hv5 := zif_t c6 hv5
        obtain ⟨h7, eh7, hv5⟩ := zlets hv5
        refine zEv_w (F := fun z => (78, [some (.ref 215), some (.int x1), some (.int x2), some (.int x3), some (.int p3), some (.int s.2.1), some (.int p3)], [], zhp z)) (h0 := sI s.2.2 215 42 s.2.1) 5 rfl eh7 ?_
        cases hv5
        exact kv5
      · replace hv5 := zif_f c6 hv5
        refine zEv_k 2 (f' := (47, [some (.ref 215), some (.int x1), some (.int x2), some (.int x3), some (.int s.1), some (.int s.2.1), some (.int p3)], [.int 2, .int x1], zhp s.2.2)) rfl ?_
        refine zEv_rem rfl (by decide) ?_
        refine zEv_k 1 (f' := (if ¬ (x1 - x1 / 2 * 2) = 0 then 61 else 51, [some (.ref 215), some (.int x1), some (.int x2), some (.int x3), some (.int s.1), some (.int s.2.1), some (.int p3)], [], zhp s.2.2)) rfl (zEv_if (fun c8 => ?_) (fun c8 => ?_))
        · replace hv5 := zif_t c8 hv5
          refine zEv_k 3 (f' := (if s.1 ≤ p3 then 78 else 68, [some (.ref 215), some (.int x1), some (.int x2), some (.int x3), some (.int s.1), some (.int s.2.1), some (.int p3)], [], zhp s.2.2)) rfl (zEv_if (fun c9 => ?_) (fun c9 => ?_))
          · replace hv5 := zif_t c9 hv5
            cases hv5
            exact kv5
          · replace hv5 := zif_f c9 hv5
            obtain ⟨h10, eh10, hv5⟩ := zlets hv5
            refine zEv_w (F := fun z => (78, [some (.ref 215), some (.int x1), some (.int x2), some (.int x3), some (.int p3), some (.int s.2.1), some (.int p3)], [], zhp z)) (h0 := sI s.2.2 215 42 s.2.1) 5 rfl eh10 ?_
            cases hv5
            exact kv5
        · replace hv5 := zif_f c8 hv5
          refine zEv_k 3 (f' := (if p3 ≤ s.1 then 78 else 58, [some (.ref 215), some (.int x1), some (.int x2), some (.int x3), some (.int s.1), some (.int s.2.1), some (.int p3)], [], zhp s.2.2)) rfl (zEv_if (fun c11 => ?_) (fun c11 => ?_))
          · replace hv5 := zif_t c11 hv5
            cases hv5
            exact kv5
          · replace hv5 := zif_f c11 hv5
            obtain ⟨h12, eh12, hv5⟩ := zlets hv5
            refine zEv_w (F := fun z => (78, [some (.ref 215), some (.int x1), some (.int x2), some (.int x3), some (.int p3), some (.int s.2.1), some (.int p3)], [], zhp z)) (h0 := sI s.2.2 215 42 s.2.1) 6 rfl eh12 ?_
            cases hv5
            exact kv5
theorem t_qM_findDuel_b11 {Ls : Nat} {xs : Nat → Int32} {d : Nat} {x1 : Int32} {x2 : Int32} {x3 : Int32} {r : zA} {t : Int32 × zK} (K : ∀ (z5 : Option Value) (z6 : Option Value), zEv (zXs Ls xs) (d + 4) zm_222 (84, [some (.ref 215), some (.int x1), some (.int x2), some (.int x3), some (.int t.1), z5, z6], [], zhp t.2) r) (n : Nat) (s : Int32 × Int32 × zK) (H : zloop (qM_findDuel_b11 x1 x2 x3) n s = some t) (y6 : Option Value) : zEv (zXs Ls xs) (d + 4) zm_222 (11, [some (.ref 215), some (.int x1), some (.int x2), some (.int x3), some (.int s.1), some (.int s.2.1), y6], [], zhp s.2.2) r := by
  have Z := zloop_P (P := fun s => ∀ (y6 : Option Value), zEv (zXs Ls xs) (d + 4) zm_222 (11, [some (.ref 215), some (.int x1), some (.int x2), some (.int x3), some (.int s.1), some (.int s.2.1), y6], [], zhp s.2.2) r) (b := qM_findDuel_b11 x1 x2 x3) (t := t) (fun s s2 hb hk => by intro y6; exact t_qM_findDuel_b11b hb hk y6) (fun s hb => by intro y6; exact t_qM_findDuel_b11b hb K y6) n s H
  exact Z y6
def qM_findDuel (x1 : Int32) (x2 : Int32) (x3 : Int32) (h : zK) : Option (Int32 × zK) :=
  zlet (sI h 215 42 (-1)) fun h1 =>
  (zloop (qM_findDuel_b11 x1 x2 x3) zfu (0, 0, h1)).bind fun t13 =>
  some (t13.1, t13.2)
theorem t_qM_findDuel {Ls : Nat} {xs : Nat → Int32} {d : Nat} {x1 : Int32} {x2 : Int32} {x3 : Int32} {h : zK} {p : Int32 × zK} (H : qM_findDuel x1 x2 x3 h = some p) : zEv (zXs Ls xs) (d + 4) zm_222 (0, [some (.ref 215), some (.int x1), some (.int x2), some (.int x3), none, none, none], [], zhp h) (some (.int p.1), zhp p.2) := by
  unfold qM_findDuel at H
  obtain ⟨h1, eh1, H⟩ := zlets H
  refine zEv_w (F := fun z => (8, [some (.ref 215), some (.int x1), some (.int x2), some (.int x3), some (.int 0), none, none], [], zhp z)) (h0 := sI h 215 42 (-1)) 5 rfl eh1 ?_
  refine zEv_k 2 (f' := (11, [some (.ref 215), some (.int x1), some (.int x2), some (.int x3), some (.int 0), some (.int 0), none], [], zhp h1)) rfl ?_
  obtain ⟨t13, ht13, H⟩ := zbs H
  refine t_qM_findDuel_b11 (x1 := x1) (x2 := x2) (x3 := x3) ?_ zfu _ ht13 _
  intro y5 y6
  refine zEv_k 1 (f' := (86, [some (.ref 215), some (.int x1), some (.int x2), some (.int x3), some (.int t13.1), y5, y6], [.int t13.1], zhp t13.2)) rfl ?_
  cases H
  exact zEv_r rfl
def qM_duel_b29 (x2 : Int32) (x3 : Int32) (s : Int32 × zK) : Option ((Int32 × zK) ⊕ (zK)) :=
  if 1024 ≤ s.1 then
    some (.inr s.2)
  else
    (zix ((1024 * x2) + s.1) 6144).bind fun j6 =>
    zlet (sI s.2 233 j6 0) fun h7 =>
    some (.inl (s.1 + 1, h7))
theorem t_qM_duel_b29b {Ls : Nat} {xs : Nat → Int32} {d : Nat} {x2 : Int32} {x3 : Int32} {r : zA} {s : Int32 × zK} {e : (Int32 × zK) ⊕ (zK)} (H : qM_duel_b29 x2 x3 s = some e) (K : match (generalizing := false) e with | .inl s' => ∀ (z1 : Option Value), zEv (zXs Ls xs) (d + 5) zm_223 (29, [some (.ref 215), z1, some (.int x2), some (.int x3), some (.int s'.1), none], [], zhp s'.2) r | .inr v => ∀ (z1 : Option Value) (z4 : Option Value), zEv (zXs Ls xs) (d + 5) zm_223 (57, [some (.ref 215), z1, some (.int x2), some (.int x3), z4, none], [], zhp v) r) (y1 : Option Value) : zEv (zXs Ls xs) (d + 5) zm_223 (29, [some (.ref 215), y1, some (.int x2), some (.int x3), some (.int s.1), none], [], zhp s.2) r := by
  unfold qM_duel_b29 at H
  refine zEv_k 3 (f' := (if 1024 ≤ s.1 then 57 else 37, [some (.ref 215), y1, some (.int x2), some (.int x3), some (.int s.1), none], [], zhp s.2)) rfl (zEv_if (fun c5 => ?_) (fun c5 => ?_))
  · replace H := zif_t c5 H
    cases H
    exact K _ _
  · replace H := zif_f c5 H
    refine zEv_k 1 (f' := (38, [some (.ref 215), y1, some (.int x2), some (.int x3), some (.int s.1), none], [.ref 215], zhp s.2)) rfl ?_
    refine zRgr rfl rfl rfl (by decide) (b := 233) rfl ?_
    refine zEv_k 6 (f' := (50, [some (.ref 215), y1, some (.int x2), some (.int x3), some (.int s.1), none], [.int 0, .int ((1024 * x2) + s.1), .ref 233], zhp s.2)) rfl ?_
    obtain ⟨j6, hj6, H⟩ := zbs H
    obtain ⟨h7, eh7, H⟩ := zlets H
    refine zRis rfl rfl (by decide) hj6 eh7 ?_
    refine zEv_k 2 (f' := (29, [some (.ref 215), y1, some (.int x2), some (.int x3), some (.int (s.1 + 1)), none], [], zhp h7)) rfl ?_
    cases H
    exact K _
theorem t_qM_duel_b29 {Ls : Nat} {xs : Nat → Int32} {d : Nat} {x2 : Int32} {x3 : Int32} {r : zA} {t : zK} (K : ∀ (z1 : Option Value) (z4 : Option Value), zEv (zXs Ls xs) (d + 5) zm_223 (57, [some (.ref 215), z1, some (.int x2), some (.int x3), z4, none], [], zhp t) r) (n : Nat) (s : Int32 × zK) (H : zloop (qM_duel_b29 x2 x3) n s = some t) (y1 : Option Value) : zEv (zXs Ls xs) (d + 5) zm_223 (29, [some (.ref 215), y1, some (.int x2), some (.int x3), some (.int s.1), none], [], zhp s.2) r := by
  have Z := zloop_P (P := fun s => ∀ (y1 : Option Value), zEv (zXs Ls xs) (d + 5) zm_223 (29, [some (.ref 215), y1, some (.int x2), some (.int x3), some (.int s.1), none], [], zhp s.2) r) (b := qM_duel_b29 x2 x3) (t := t) (fun s s2 hb hk => by intro y1; exact t_qM_duel_b29b hb hk y1) (fun s hb => by intro y1; exact t_qM_duel_b29b hb K y1) n s H
  exact Z y1
def qM_duel_b70 (x2 : Int32) (x3 : Int32) (x4 : Int32) (s : Int32 × zK) : Option ((Int32 × zK) ⊕ (zK)) :=
  if 1024 ≤ s.1 then
    some (.inr s.2)
  else
    (qM_findDuel x4 (s.1 - s.1 / 128 * 128) (s.1 / 128) s.2).bind fun p12 =>
    (zix ((1024 * x4) + s.1) 6144).bind fun j13 =>
    zlet (sI p12.2 233 j13 p12.1) fun h14 =>
    some (.inl (s.1 + 1, h14))
theorem t_qM_duel_b70b {Ls : Nat} {xs : Nat → Int32} {d : Nat} {x2 : Int32} {x3 : Int32} {x4 : Int32} {r : zA} {s : Int32 × zK} {e : (Int32 × zK) ⊕ (zK)} (H : qM_duel_b70 x2 x3 x4 s = some e) (K : match (generalizing := false) e with | .inl s' => ∀ (z1 : Option Value), zEv (zXs Ls xs) (d + 5) zm_223 (70, [some (.ref 215), z1, some (.int x2), some (.int x3), some (.int x4), some (.int s'.1)], [], zhp s'.2) r | .inr v => ∀ (z1 : Option Value) (z5 : Option Value), zEv (zXs Ls xs) (d + 5) zm_223 (116, [some (.ref 215), z1, some (.int x2), some (.int x3), some (.int x4), z5], [], zhp v) r) (y1 : Option Value) : zEv (zXs Ls xs) (d + 5) zm_223 (70, [some (.ref 215), y1, some (.int x2), some (.int x3), some (.int x4), some (.int s.1)], [], zhp s.2) r := by
  unfold qM_duel_b70 at H
  refine zEv_k 3 (f' := (if 1024 ≤ s.1 then 116 else 78, [some (.ref 215), y1, some (.int x2), some (.int x3), some (.int x4), some (.int s.1)], [], zhp s.2)) rfl (zEv_if (fun c11 => ?_) (fun c11 => ?_))
  · replace H := zif_t c11 H
    cases H
    exact K _ _
  · replace H := zif_f c11 H
    refine zEv_k 1 (f' := (79, [some (.ref 215), y1, some (.int x2), some (.int x3), some (.int x4), some (.int s.1)], [.ref 215], zhp s.2)) rfl ?_
    refine zRgr rfl rfl rfl (by decide) (b := 233) rfl ?_
    refine zEv_k 9 (f' := (99, [some (.ref 215), y1, some (.int x2), some (.int x3), some (.int x4), some (.int s.1)], [.int 128, .int s.1, .int x4, .ref 215, .int ((1024 * x4) + s.1), .ref 233], zhp s.2)) rfl ?_
    refine zEv_rem rfl (by decide) ?_
    refine zEv_k 2 (f' := (105, [some (.ref 215), y1, some (.int x2), some (.int x3), some (.int x4), some (.int s.1)], [.int 128, .int s.1, .int (s.1 - s.1 / 128 * 128), .int x4, .ref 215, .int ((1024 * x4) + s.1), .ref 233], zhp s.2)) rfl ?_
    refine zEv_div rfl (by decide) ?_
    obtain ⟨p12, hp12, H⟩ := zbs H
    refine zEv_c (fun _ => rfl) rfl (t_qM_findDuel (x1 := x4) (x2 := s.1 - s.1 / 128 * 128) (x3 := s.1 / 128) (h := s.2) (d := d) hp12) rfl rfl ?_
    obtain ⟨j13, hj13, H⟩ := zbs H
    obtain ⟨h14, eh14, H⟩ := zlets H
    refine zRis rfl rfl (by decide) hj13 eh14 ?_
    refine zEv_k 2 (f' := (70, [some (.ref 215), y1, some (.int x2), some (.int x3), some (.int x4), some (.int (s.1 + 1))], [], zhp h14)) rfl ?_
    cases H
    exact K _
theorem t_qM_duel_b70 {Ls : Nat} {xs : Nat → Int32} {d : Nat} {x2 : Int32} {x3 : Int32} {x4 : Int32} {r : zA} {t : zK} (K : ∀ (z1 : Option Value) (z5 : Option Value), zEv (zXs Ls xs) (d + 5) zm_223 (116, [some (.ref 215), z1, some (.int x2), some (.int x3), some (.int x4), z5], [], zhp t) r) (n : Nat) (s : Int32 × zK) (H : zloop (qM_duel_b70 x2 x3 x4) n s = some t) (y1 : Option Value) : zEv (zXs Ls xs) (d + 5) zm_223 (70, [some (.ref 215), y1, some (.int x2), some (.int x3), some (.int x4), some (.int s.1)], [], zhp s.2) r := by
  have Z := zloop_P (P := fun s => ∀ (y1 : Option Value), zEv (zXs Ls xs) (d + 5) zm_223 (70, [some (.ref 215), y1, some (.int x2), some (.int x3), some (.int x4), some (.int s.1)], [], zhp s.2) r) (b := qM_duel_b70 x2 x3 x4) (t := t) (fun s s2 hb hk => by intro y1; exact t_qM_duel_b70b hb hk y1) (fun s hb => by intro y1; exact t_qM_duel_b70b hb K y1) n s H
  exact Z y1
def qM_duel_b62 (x2 : Int32) (x3 : Int32) (s : Int32 × zK) : Option ((Int32 × zK) ⊕ (zK)) :=
  if s.1 < 0 then
    some (.inr s.2)
  else
    (zloop (qM_duel_b70 x2 x3 s.1) zfu (0, s.2)).bind fun t15 =>
    some (.inl (s.1 + (-1), t15))
theorem t_qM_duel_b62b {Ls : Nat} {xs : Nat → Int32} {d : Nat} {x2 : Int32} {x3 : Int32} {r : zA} {s : Int32 × zK} {e : (Int32 × zK) ⊕ (zK)} (H : qM_duel_b62 x2 x3 s = some e) (K : match (generalizing := false) e with | .inl s' => ∀ (z1 : Option Value) (z5 : Option Value), zEv (zXs Ls xs) (d + 5) zm_223 (62, [some (.ref 215), z1, some (.int x2), some (.int x3), some (.int s'.1), z5], [], zhp s'.2) r | .inr v => ∀ (z1 : Option Value) (z4 : Option Value) (z5 : Option Value), zEv (zXs Ls xs) (d + 5) zm_223 (122, [some (.ref 215), z1, some (.int x2), some (.int x3), z4, z5], [], zhp v) r) (y1 : Option Value) (y5 : Option Value) : zEv (zXs Ls xs) (d + 5) zm_223 (62, [some (.ref 215), y1, some (.int x2), some (.int x3), some (.int s.1), y5], [], zhp s.2) r := by
  unfold qM_duel_b62 at H
  refine zEv_k 2 (f' := (if s.1 < 0 then 122 else 67, [some (.ref 215), y1, some (.int x2), some (.int x3), some (.int s.1), y5], [], zhp s.2)) rfl (zEv_if (fun c10 => ?_) (fun c10 => ?_))
  · replace H := zif_t c10 H
    cases H
    exact K _ _ _
  · replace H := zif_f c10 H
    refine zEv_k 2 (f' := (70, [some (.ref 215), y1, some (.int x2), some (.int x3), some (.int s.1), some (.int 0)], [], zhp s.2)) rfl ?_
    obtain ⟨t15, ht15, H⟩ := zbs H
    refine t_qM_duel_b70 (x2 := x2) (x3 := x3) (x4 := s.1) ?_ zfu _ ht15 _
    intro y1 y5
    refine zEv_k 2 (f' := (62, [some (.ref 215), y1, some (.int x2), some (.int x3), some (.int (s.1 + (-1))), y5], [], zhp t15)) rfl ?_
    cases H
    exact K _ _
theorem t_qM_duel_b62 {Ls : Nat} {xs : Nat → Int32} {d : Nat} {x2 : Int32} {x3 : Int32} {r : zA} {t : zK} (K : ∀ (z1 : Option Value) (z4 : Option Value) (z5 : Option Value), zEv (zXs Ls xs) (d + 5) zm_223 (122, [some (.ref 215), z1, some (.int x2), some (.int x3), z4, z5], [], zhp t) r) (n : Nat) (s : Int32 × zK) (H : zloop (qM_duel_b62 x2 x3) n s = some t) (y1 : Option Value) (y5 : Option Value) : zEv (zXs Ls xs) (d + 5) zm_223 (62, [some (.ref 215), y1, some (.int x2), some (.int x3), some (.int s.1), y5], [], zhp s.2) r := by
  have Z := zloop_P (P := fun s => ∀ (y1 : Option Value) (y5 : Option Value), zEv (zXs Ls xs) (d + 5) zm_223 (62, [some (.ref 215), y1, some (.int x2), some (.int x3), some (.int s.1), y5], [], zhp s.2) r) (b := qM_duel_b62 x2 x3) (t := t) (fun s s2 hb hk => by intro y1 y5; exact t_qM_duel_b62b hb hk y1 y5) (fun s hb => by intro y1 y5; exact t_qM_duel_b62b hb K y1 y5) n s H
  exact Z y1 y5
def qM_duel (x1 : Int32) (x2 : Int32) (x3 : Int32) (h : zK) : Option (Int32 × zK) :=
  zlet (sI h 215 0 0) fun h1 =>
  if (zf_in x2 0 5) = 0 then
    some (-999, h1)
  else
    (qM_hand x1 h1).bind fun p3 =>
    if ¬ p3.1 = 0 then
      (zloop (qM_duel_b29 x2 x3) zfu (0, p3.2)).bind fun t8 =>
      (zloop (qM_duel_b62 x2 x3) zfu (x2 - 1, t8)).bind fun t17 =>
      if x3 = 0 then
        some (gI t17 233 896, t17)
      else
        zlet (sI t17 215 42 (-1)) fun h20 =>
        Option.bind (
            if x2 ≤ 0 then
              some h20
            else
              (qM_findDuel 0 0 7 h20).bind fun p23 =>
              some p23.2
          ) fun (v22 : zK) =>
        some (gI v22 215 42, v22)
    else
      some (-999, p3.2)
theorem t_qM_duel {Ls : Nat} {xs : Nat → Int32} {d : Nat} {x1 : Int32} {x2 : Int32} {x3 : Int32} {h : zK} {p : Int32 × zK} (H : qM_duel x1 x2 x3 h = some p) : zEv (zXs Ls xs) (d + 5) zm_223 (0, [some (.ref 215), some (.int x1), some (.int x2), some (.int x3), none, none], [], zhp h) (some (.int p.1), zhp p.2) := by
  unfold qM_duel at H
  obtain ⟨h1, eh1, H⟩ := zlets H
  refine zEv_w (F := fun z => (5, [some (.ref 215), some (.int x1), some (.int x2), some (.int x3), none, none], [], zhp z)) (h0 := sI h 215 0 0) 3 rfl eh1 ?_
  refine zEv_k 3 (f' := (8, [some (.ref 215), some (.int x1), some (.int x2), some (.int x3), none, none], [.int 5, .int 0, .int x2], zhp h1)) rfl ?_
  refine zEv_c (fun _ => rfl) rfl ev_zf_in rfl rfl ?_
  refine zEv_k 1 (f' := (if (zf_in x2 0 5) = 0 then 22 else 14, [some (.ref 215), some (.int x1), some (.int x2), some (.int x3), none, none], [], zhp h1)) rfl (zEv_if (fun c2 => ?_) (fun c2 => ?_))
  · replace H := zif_t c2 H
    refine zEv_k 1 (f' := (25, [some (.ref 215), some (.int x1), some (.int x2), some (.int x3), none, none], [.int (-999)], zhp h1)) rfl ?_
    cases H
    exact zEv_r rfl
  · replace H := zif_f c2 H
    refine zEv_k 2 (f' := (16, [some (.ref 215), some (.int x1), some (.int x2), some (.int x3), none, none], [.int x1, .ref 215], zhp h1)) rfl ?_
    obtain ⟨p3, hp3, H⟩ := zbs H
    refine zEv_c (fun _ => rfl) rfl (t_qM_hand (x1 := x1) (h := h1) (d := d + 2) hp3) rfl rfl ?_
    refine zEv_k 1 (f' := (if ¬ p3.1 = 0 then 26 else 22, [some (.ref 215), some (.int x1), some (.int x2), some (.int x3), none, none], [], zhp p3.2)) rfl (zEv_if (fun c4 => ?_) (fun c4 => ?_))
    · replace H := zif_t c4 H
      refine zEv_k 2 (f' := (29, [some (.ref 215), some (.int x1), some (.int x2), some (.int x3), some (.int 0), none], [], zhp p3.2)) rfl ?_
      obtain ⟨t8, ht8, H⟩ := zbs H
      refine t_qM_duel_b29 (x2 := x2) (x3 := x3) ?_ zfu _ ht8 _
      intro y1 y4
      refine zEv_k 4 (f' := (62, [some (.ref 215), y1, some (.int x2), some (.int x3), some (.int (x2 - 1)), none], [], zhp t8)) rfl ?_
      obtain ⟨t17, ht17, H⟩ := zbs H
      refine t_qM_duel_b62 (x2 := x2) (x3 := x3) ?_ zfu _ ht17 _ _
      intro y1 y4 y5
      refine zEv_k 2 (f' := (if x3 = 0 then 149 else 126, [some (.ref 215), y1, some (.int x2), some (.int x3), y4, y5], [], zhp t17)) rfl (zEv_if (fun c19 => ?_) (fun c19 => ?_))
      · replace H := zif_t c19 H
        refine zEv_k 1 (f' := (150, [some (.ref 215), y1, some (.int x2), some (.int x3), y4, y5], [.ref 215], zhp t17)) rfl ?_
        refine zRgr rfl rfl rfl (by decide) (b := 233) rfl ?_
        refine zEv_k 1 (f' := (156, [some (.ref 215), y1, some (.int x2), some (.int x3), y4, y5], [.int 896, .ref 233], zhp t17)) rfl ?_
        refine zRia (j := 896) rfl rfl (by decide) (by decide) ?_
        cases H
        exact zEv_r rfl
      · replace H := zif_f c19 H
        obtain ⟨h20, eh20, H⟩ := zlets H
        refine zEv_w (F := fun z => (131, [some (.ref 215), y1, some (.int x2), some (.int x3), y4, y5], [], zhp z)) (h0 := sI t17 215 42 (-1)) 3 rfl eh20 ?_
        obtain ⟨v22, hv22, H⟩ := zbs H
        have kv22 : zEv (zXs Ls xs) (d + 5) zm_223 (144, [some (.ref 215), y1, some (.int x2), some (.int x3), y4, y5], [], zhp v22) (some (.int p.1), zhp p.2) := by
          refine zEv_k 2 (f' := (148, [some (.ref 215), y1, some (.int x2), some (.int x3), y4, y5], [.int (gI v22 215 42)], zhp v22)) rfl ?_
          cases H
          exact zEv_r rfl
        clear H
        refine zEv_k 2 (f' := (if x2 ≤ 0 then 144 else 135, [some (.ref 215), y1, some (.int x2), some (.int x3), y4, y5], [], zhp h20)) rfl (zEv_if (fun c21 => ?_) (fun c21 => ?_))
        · replace hv22 := zif_t c21 hv22
          cases hv22
          exact kv22
        · replace hv22 := zif_f c21 hv22
          refine zEv_k 4 (f' := (140, [some (.ref 215), y1, some (.int x2), some (.int x3), y4, y5], [.int 7, .int 0, .int 0, .ref 215], zhp h20)) rfl ?_
          obtain ⟨p23, hp23, hv22⟩ := zbs hv22
          refine zEv_c (fun _ => rfl) rfl (t_qM_findDuel (x1 := 0) (x2 := 0) (x3 := 7) (h := h20) (d := d) hp23) rfl rfl ?_
          refine zEv_k 1 (f' := (144, [some (.ref 215), y1, some (.int x2), some (.int x3), y4, y5], [], zhp p23.2)) rfl ?_
          cases hv22
          exact kv22
    · replace H := zif_f c4 H
      refine zEv_k 1 (f' := (25, [some (.ref 215), some (.int x1), some (.int x2), some (.int x3), none, none], [.int (-999)], zhp p3.2)) rfl ?_
      cases H
      exact zEv_r rfl
def qM_commonL_b6 (s : Int64 × Int64) : Option ((Int64 × Int64) ⊕ (Int64)) :=
  if (lg_cmp s.2 0) = 0 then
    some (.inr s.1)
  else
    if ¬ s.2 = 0 then
      some (.inl (s.2, s.1 - s.1 / s.2 * s.2))
    else none
theorem t_qM_commonL_b6b {Ls : Nat} {xs : Nat → Int32} {d : Nat} {h : zK} {r : zA} {s : Int64 × Int64} {e : (Int64 × Int64) ⊕ (Int64)} (H : qM_commonL_b6 s = some e) (K : match (generalizing := false) e with | .inl s' => ∀ (z0 : Option Value) (z2 : Option Value) (z8 : Option Value), zEv (zXs Ls xs) d zm_224 (6, [z0, none, z2, none, some (.long s'.1), none, some (.long s'.2), none, z8, none], [], zhp h) r | .inr v => ∀ (z0 : Option Value) (z2 : Option Value) (z6 : Option Value) (z8 : Option Value), zEv (zXs Ls xs) d zm_224 (31, [z0, none, z2, none, some (.long v), none, z6, none, z8, none], [], zhp h) r) (y0 : Option Value) (y2 : Option Value) (y8 : Option Value) : zEv (zXs Ls xs) d zm_224 (6, [y0, none, y2, none, some (.long s.1), none, some (.long s.2), none, y8, none], [], zhp h) r := by
  unfold qM_commonL_b6 at H
  refine zEv_k 4 (f' := (if (lg_cmp s.2 0) = 0 then 31 else 13, [y0, none, y2, none, some (.long s.1), none, some (.long s.2), none, y8, none], [], zhp h)) rfl (zEv_if (fun c1 => ?_) (fun c1 => ?_))
  · replace H := zif_t c1 H
    cases H
    exact K _ _ _ _
  · replace H := zif_f c1 H
    refine zEv_k 2 (f' := (17, [y0, none, y2, none, some (.long s.1), none, some (.long s.2), none, y8, none], [.long s.2, .long s.1], zhp h)) rfl ?_
    obtain ⟨c2, H⟩ := zifn H
    refine zEv_lrem rfl c2 ?_
    refine zEv_k 6 (f' := (6, [y0, none, y2, none, some (.long s.2), none, some (.long (s.1 - s.1 / s.2 * s.2)), none, some (.long (s.1 - s.1 / s.2 * s.2)), none], [], zhp h)) rfl ?_
    cases H
    exact K _ _ _
theorem t_qM_commonL_b6 {Ls : Nat} {xs : Nat → Int32} {d : Nat} {h : zK} {r : zA} {t : Int64} (K : ∀ (z0 : Option Value) (z2 : Option Value) (z6 : Option Value) (z8 : Option Value), zEv (zXs Ls xs) d zm_224 (31, [z0, none, z2, none, some (.long t), none, z6, none, z8, none], [], zhp h) r) (n : Nat) (s : Int64 × Int64) (H : zloop (qM_commonL_b6) n s = some t) (y0 : Option Value) (y2 : Option Value) (y8 : Option Value) : zEv (zXs Ls xs) d zm_224 (6, [y0, none, y2, none, some (.long s.1), none, some (.long s.2), none, y8, none], [], zhp h) r := by
  have Z := zloop_P (P := fun s => ∀ (y0 : Option Value) (y2 : Option Value) (y8 : Option Value), zEv (zXs Ls xs) d zm_224 (6, [y0, none, y2, none, some (.long s.1), none, some (.long s.2), none, y8, none], [], zhp h) r) (b := qM_commonL_b6) (t := t) (fun s s2 hb hk => by intro y0 y2 y8; exact t_qM_commonL_b6b hb hk y0 y2 y8) (fun s hb => by intro y0 y2 y8; exact t_qM_commonL_b6b hb K y0 y2 y8) n s H
  exact Z y0 y2 y8
def qM_commonL (x0 : Int64) (x2 : Int64) : Option (Int64) :=
  (zloop (qM_commonL_b6) zfu (x0, x2)).bind fun t3 =>
  some t3
theorem t_qM_commonL {Ls : Nat} {xs : Nat → Int32} {d : Nat} {x0 : Int64} {x2 : Int64} {h : zK} {p : Int64} (H : qM_commonL x0 x2 = some p) : zEv (zXs Ls xs) d zm_224 (0, [some (.long x0), none, some (.long x2), none, none, none, none, none, none, none], [], zhp h) (some (.long p), zhp h) := by
  unfold qM_commonL at H
  refine zEv_k 4 (f' := (6, [some (.long x0), none, some (.long x2), none, some (.long x0), none, some (.long x2), none, none, none], [], zhp h)) rfl ?_
  obtain ⟨t3, ht3, H⟩ := zbs H
  refine t_qM_commonL_b6 (h := h) ?_ zfu _ ht3 _ _ _
  intro y0 y2 y6 y8
  refine zEv_k 1 (f' := (33, [y0, none, y2, none, some (.long t3), none, y6, none, y8, none], [.long t3], zhp h)) rfl ?_
  cases H
  exact zEv_r rfl
def qM_partL (x0 : Int64) (x2 : Int64) (x4 : Int32) : Option (Int64) :=
  zlet (
      if x4 = 0 then
        x0
      else
        x2
    ) fun (v2 : Int64) =>
  (qM_commonL x2 x0).bind fun p3 =>
  if ¬ p3 = 0 then
    some (v2 / p3)
  else none
theorem t_qM_partL {Ls : Nat} {xs : Nat → Int32} {d : Nat} {x0 : Int64} {x2 : Int64} {x4 : Int32} {h : zK} {p : Int64} (H : qM_partL x0 x2 x4 = some p) : zEv (zXs Ls xs) (d + 1) zm_225 (0, [some (.long x0), none, some (.long x2), none, some (.int x4)], [], zhp h) (some (.long p), zhp h) := by
  unfold qM_partL at H
  obtain ⟨v2, hv2, H⟩ := zlets H
  have kv2 : zEv (zXs Ls xs) (d + 1) zm_225 (10, [some (.long x0), none, some (.long x2), none, some (.int x4)], [.long v2], zhp h) (some (.long p), zhp h) := by
    refine zEv_k 2 (f' := (12, [some (.long x0), none, some (.long x2), none, some (.int x4)], [.long x0, .long x2, .long v2], zhp h)) rfl ?_
    obtain ⟨p3, hp3, H⟩ := zbs H
    refine zEv_c (fun _ => rfl) rfl (t_qM_commonL (x0 := x2) (x2 := x0) (h := h) (d := d) hp3) rfl rfl ?_
    obtain ⟨c4, H⟩ := zifn H
    refine zEv_ldiv rfl c4 ?_
    cases H
    exact zEv_r rfl
  clear H
  refine zEv_k 2 (f' := (if x4 = 0 then 9 else 5, [some (.long x0), none, some (.long x2), none, some (.int x4)], [], zhp h)) rfl (zEv_if (fun c1 => ?_) (fun c1 => ?_))
  · replace hv2 := zif_t c1 hv2
    refine zEv_k 1 (f' := (10, [some (.long x0), none, some (.long x2), none, some (.int x4)], [.long x0], zhp h)) rfl ?_
    cases hv2
    exact kv2
  · replace hv2 := zif_f c1 hv2
    refine zEv_k 2 (f' := (10, [some (.long x0), none, some (.long x2), none, some (.int x4)], [.long x2], zhp h)) rfl ?_
    cases hv2
    exact kv2
def qM_times_b5 (x0 : Int64) (x2 : Int32) (s : Int64 × Int32) : Option ((Int64 × Int32) ⊕ (Int64)) :=
  if x2 ≤ s.2 then
    some (.inr s.1)
  else
    some (.inl (s.1 * x0, s.2 + 1))
theorem t_qM_times_b5b {Ls : Nat} {xs : Nat → Int32} {d : Nat} {x0 : Int64} {x2 : Int32} {h : zK} {r : zA} {s : Int64 × Int32} {e : (Int64 × Int32) ⊕ (Int64)} (H : qM_times_b5 x0 x2 s = some e) (K : match (generalizing := false) e with | .inl s' => zEv (zXs Ls xs) d zm_226 (5, [some (.long x0), none, some (.int x2), some (.long s'.1), none, some (.int s'.2)], [], zhp h) r | .inr v => ∀ (z5 : Option Value), zEv (zXs Ls xs) d zm_226 (21, [some (.long x0), none, some (.int x2), some (.long v), none, z5], [], zhp h) r) : zEv (zXs Ls xs) d zm_226 (5, [some (.long x0), none, some (.int x2), some (.long s.1), none, some (.int s.2)], [], zhp h) r := by
  unfold qM_times_b5 at H
  refine zEv_k 3 (f' := (if x2 ≤ s.2 then 21 else 11, [some (.long x0), none, some (.int x2), some (.long s.1), none, some (.int s.2)], [], zhp h)) rfl (zEv_if (fun c1 => ?_) (fun c1 => ?_))
  · replace H := zif_t c1 H
    cases H
    exact K _
  · replace H := zif_f c1 H
    refine zEv_k 6 (f' := (5, [some (.long x0), none, some (.int x2), some (.long (s.1 * x0)), none, some (.int (s.2 + 1))], [], zhp h)) rfl ?_
    cases H
    exact K
theorem t_qM_times_b5 {Ls : Nat} {xs : Nat → Int32} {d : Nat} {x0 : Int64} {x2 : Int32} {h : zK} {r : zA} {t : Int64} (K : ∀ (z5 : Option Value), zEv (zXs Ls xs) d zm_226 (21, [some (.long x0), none, some (.int x2), some (.long t), none, z5], [], zhp h) r) (n : Nat) (s : Int64 × Int32) (H : zloop (qM_times_b5 x0 x2) n s = some t) : zEv (zXs Ls xs) d zm_226 (5, [some (.long x0), none, some (.int x2), some (.long s.1), none, some (.int s.2)], [], zhp h) r := by
  have Z := zloop_P (P := fun s => zEv (zXs Ls xs) d zm_226 (5, [some (.long x0), none, some (.int x2), some (.long s.1), none, some (.int s.2)], [], zhp h) r) (b := qM_times_b5 x0 x2) (t := t) (fun s s2 hb hk => by exact t_qM_times_b5b hb hk) (fun s hb => by exact t_qM_times_b5b hb K) n s H
  exact Z
def qM_times (x0 : Int64) (x2 : Int32) : Option (Int64) :=
  (zloop (qM_times_b5 x0 x2) zfu (1, 0)).bind fun t2 =>
  some t2
theorem t_qM_times {Ls : Nat} {xs : Nat → Int32} {d : Nat} {x0 : Int64} {x2 : Int32} {h : zK} {p : Int64} (H : qM_times x0 x2 = some p) : zEv (zXs Ls xs) d zm_226 (0, [some (.long x0), none, some (.int x2), none, none, none], [], zhp h) (some (.long p), zhp h) := by
  unfold qM_times at H
  refine zEv_k 4 (f' := (5, [some (.long x0), none, some (.int x2), some (.long 1), none, some (.int 0)], [], zhp h)) rfl ?_
  obtain ⟨t2, ht2, H⟩ := zbs H
  refine t_qM_times_b5 (x0 := x0) (x2 := x2) (h := h) ?_ zfu _ ht2
  intro y5
  refine zEv_k 1 (f' := (22, [some (.long x0), none, some (.int x2), some (.long t2), none, y5], [.long t2], zhp h)) rfl ?_
  cases H
  exact zEv_r rfl
def qM_hold_b73 (x4 : Int32) (x5 : Int32) (x6 : Int64) (x8 : Int64) (h : zK) (s : Int64 × Int64 × Int32) : Option ((Int64 × Int64 × Int32) ⊕ (Int64)) :=
  if (gI h 215 23) < s.2.2 then
    some (.inr s.1)
  else
    Option.bind (
        if s.2.2 < x4 then
          some 0
        else
          (qM_times x8 s.2.2).bind fun p12 =>
          (qM_times (x6 - x8) ((gI h 215 23) - s.2.2)).bind fun p13 =>
          some ((s.2.1 * p12) * p13)
      ) fun (v11 : Int64) =>
    if ¬ (Int32.toInt64 (s.2.2 + 1)) = 0 then
      some (.inl (s.1 + v11, (s.2.1 * (Int32.toInt64 ((gI h 215 23) - s.2.2))) / (Int32.toInt64 (s.2.2 + 1)), s.2.2 + 1))
    else none
theorem t_qM_hold_b73b {Ls : Nat} {xs : Nat → Int32} {d : Nat} {x4 : Int32} {x5 : Int32} {x6 : Int64} {x8 : Int64} {h : zK} {r : zA} {s : Int64 × Int64 × Int32} {e : (Int64 × Int64 × Int32) ⊕ (Int64)} (H : qM_hold_b73 x4 x5 x6 x8 h s = some e) (K : match (generalizing := false) e with | .inl s' => ∀ (z1 : Option Value) (z2 : Option Value) (z3 : Option Value), zEv (zXs Ls xs) (d + 3) zm_227 (73, [some (.ref 215), z1, z2, z3, some (.int x4), some (.int x5), some (.long x6), none, some (.long x8), none, some (.long s'.1), none, some (.long s'.2.1), none, some (.int s'.2.2)], [], zhp h) r | .inr v => ∀ (z1 : Option Value) (z2 : Option Value) (z3 : Option Value) (z12 : Option Value) (z14 : Option Value), zEv (zXs Ls xs) (d + 3) zm_227 (149, [some (.ref 215), z1, z2, z3, some (.int x4), some (.int x5), some (.long x6), none, some (.long x8), none, some (.long v), none, z12, none, z14], [], zhp h) r) (y1 : Option Value) (y2 : Option Value) (y3 : Option Value) : zEv (zXs Ls xs) (d + 3) zm_227 (73, [some (.ref 215), y1, y2, y3, some (.int x4), some (.int x5), some (.long x6), none, some (.long x8), none, some (.long s.1), none, some (.long s.2.1), none, some (.int s.2.2)], [], zhp h) r := by
  unfold qM_hold_b73 at H
  refine zEv_k 4 (f' := (if (gI h 215 23) < s.2.2 then 149 else 82, [some (.ref 215), y1, y2, y3, some (.int x4), some (.int x5), some (.long x6), none, some (.long x8), none, some (.long s.1), none, some (.long s.2.1), none, some (.int s.2.2)], [], zhp h)) rfl (zEv_if (fun c9 => ?_) (fun c9 => ?_))
  · replace H := zif_t c9 H
    cases H
    exact K _ _ _ _ _
  · replace H := zif_f c9 H
    obtain ⟨v11, hv11, H⟩ := zbs H
    have kv11 : zEv (zXs Ls xs) (d + 3) zm_227 (121, [some (.ref 215), y1, y2, y3, some (.int x4), some (.int x5), some (.long x6), none, some (.long x8), none, some (.long s.1), none, some (.long s.2.1), none, some (.int s.2.2)], [.long v11, .long s.1], zhp h) r := by
      refine zEv_k 9 (f' := (135, [some (.ref 215), y1, y2, y3, some (.int x4), some (.int x5), some (.long x6), none, some (.long x8), none, some (.long (s.1 + v11)), none, some (.long s.2.1), none, some (.int s.2.2)], [.long (s.2.1 * (Int32.toInt64 ((gI h 215 23) - s.2.2)))], zhp h)) rfl ?_
      refine zEv_k 4 (f' := (140, [some (.ref 215), y1, y2, y3, some (.int x4), some (.int x5), some (.long x6), none, some (.long x8), none, some (.long (s.1 + v11)), none, some (.long s.2.1), none, some (.int s.2.2)], [.long (Int32.toInt64 (s.2.2 + 1)), .long (s.2.1 * (Int32.toInt64 ((gI h 215 23) - s.2.2)))], zhp h)) rfl ?_
      obtain ⟨c14, H⟩ := zifn H
      refine zEv_ldiv rfl c14 ?_
      refine zEv_k 3 (f' := (73, [some (.ref 215), y1, y2, y3, some (.int x4), some (.int x5), some (.long x6), none, some (.long x8), none, some (.long (s.1 + v11)), none, some (.long ((s.2.1 * (Int32.toInt64 ((gI h 215 23) - s.2.2))) / (Int32.toInt64 (s.2.2 + 1)))), none, some (.int (s.2.2 + 1))], [], zhp h)) rfl ?_
      cases H
      exact K _ _ _
    clear H
    refine zEv_k 4 (f' := (if s.2.2 < x4 then 120 else 91, [some (.ref 215), y1, y2, y3, some (.int x4), some (.int x5), some (.long x6), none, some (.long x8), none, some (.long s.1), none, some (.long s.2.1), none, some (.int s.2.2)], [.long s.1], zhp h)) rfl (zEv_if (fun c10 => ?_) (fun c10 => ?_))
    · replace hv11 := zif_t c10 hv11
      refine zEv_k 1 (f' := (121, [some (.ref 215), y1, y2, y3, some (.int x4), some (.int x5), some (.long x6), none, some (.long x8), none, some (.long s.1), none, some (.long s.2.1), none, some (.int s.2.2)], [.long 0, .long s.1], zhp h)) rfl ?_
      cases hv11
      exact kv11
    · replace hv11 := zif_f c10 hv11
      refine zEv_k 3 (f' := (97, [some (.ref 215), y1, y2, y3, some (.int x4), some (.int x5), some (.long x6), none, some (.long x8), none, some (.long s.1), none, some (.long s.2.1), none, some (.int s.2.2)], [.int s.2.2, .long x8, .long s.2.1, .long s.1], zhp h)) rfl ?_
      obtain ⟨p12, hp12, hv11⟩ := zbs hv11
      refine zEv_c (fun _ => rfl) rfl (t_qM_times (x0 := x8) (x2 := s.2.2) (h := h) (d := d + 2) hp12) rfl rfl ?_
      refine zEv_k 8 (f' := (113, [some (.ref 215), y1, y2, y3, some (.int x4), some (.int x5), some (.long x6), none, some (.long x8), none, some (.long s.1), none, some (.long s.2.1), none, some (.int s.2.2)], [.int ((gI h 215 23) - s.2.2), .long (x6 - x8), .long (s.2.1 * p12), .long s.1], zhp h)) rfl ?_
      obtain ⟨p13, hp13, hv11⟩ := zbs hv11
      refine zEv_c (fun _ => rfl) rfl (t_qM_times (x0 := x6 - x8) (x2 := (gI h 215 23) - s.2.2) (h := h) (d := d + 2) hp13) rfl rfl ?_
      refine zEv_k 2 (f' := (121, [some (.ref 215), y1, y2, y3, some (.int x4), some (.int x5), some (.long x6), none, some (.long x8), none, some (.long s.1), none, some (.long s.2.1), none, some (.int s.2.2)], [.long ((s.2.1 * p12) * p13), .long s.1], zhp h)) rfl ?_
      cases hv11
      exact kv11
theorem t_qM_hold_b73 {Ls : Nat} {xs : Nat → Int32} {d : Nat} {x4 : Int32} {x5 : Int32} {x6 : Int64} {x8 : Int64} {h : zK} {r : zA} {t : Int64} (K : ∀ (z1 : Option Value) (z2 : Option Value) (z3 : Option Value) (z12 : Option Value) (z14 : Option Value), zEv (zXs Ls xs) (d + 3) zm_227 (149, [some (.ref 215), z1, z2, z3, some (.int x4), some (.int x5), some (.long x6), none, some (.long x8), none, some (.long t), none, z12, none, z14], [], zhp h) r) (n : Nat) (s : Int64 × Int64 × Int32) (H : zloop (qM_hold_b73 x4 x5 x6 x8 h) n s = some t) (y1 : Option Value) (y2 : Option Value) (y3 : Option Value) : zEv (zXs Ls xs) (d + 3) zm_227 (73, [some (.ref 215), y1, y2, y3, some (.int x4), some (.int x5), some (.long x6), none, some (.long x8), none, some (.long s.1), none, some (.long s.2.1), none, some (.int s.2.2)], [], zhp h) r := by
  have Z := zloop_P (P := fun s => ∀ (y1 : Option Value) (y2 : Option Value) (y3 : Option Value), zEv (zXs Ls xs) (d + 3) zm_227 (73, [some (.ref 215), y1, y2, y3, some (.int x4), some (.int x5), some (.long x6), none, some (.long x8), none, some (.long s.1), none, some (.long s.2.1), none, some (.int s.2.2)], [], zhp h) r) (b := qM_hold_b73 x4 x5 x6 x8 h) (t := t) (fun s s2 hb hk => by intro y1 y2 y3; exact t_qM_hold_b73b hb hk y1 y2 y3) (fun s hb => by intro y1 y2 y3; exact t_qM_hold_b73b hb K y1 y2 y3) n s H
  exact Z y1 y2 y3
def qM_hold (x1 : Int32) (x2 : Int32) (x3 : Int32) (x4 : Int32) (x5 : Int32) (h : zK) : Option (Int64 × zK) :=
  zlet (sI h 215 0 0) fun h1 =>
  if (zf_in x2 0 10) = 0 then
    some (-1, h1)
  else
    if (zf_in x3 0 2) = 0 then
      some (-1, h1)
    else
      if (zf_in x4 0 7) = 0 then
        some (-1, h1)
      else
        (qM_hand x1 h1).bind fun p5 =>
        if ¬ p5.1 = 0 then
          (qM_times 10 x3).bind fun p7 =>
          (qM_times (Int32.toInt64 x2) x3).bind fun p8 =>
          (zloop (qM_hold_b73 x4 x5 p7 p8 p5.2) zfu (0, 1, 0)).bind fun t15 =>
          (qM_times p7 (gI p5.2 215 23)).bind fun p17 =>
          (qM_partL t15 p17 x5).bind fun p18 =>
          some (p18, p5.2)
        else
          some (-1, p5.2)
theorem t_qM_hold {Ls : Nat} {xs : Nat → Int32} {d : Nat} {x1 : Int32} {x2 : Int32} {x3 : Int32} {x4 : Int32} {x5 : Int32} {h : zK} {p : Int64 × zK} (H : qM_hold x1 x2 x3 x4 x5 h = some p) : zEv (zXs Ls xs) (d + 3) zm_227 (0, [some (.ref 215), some (.int x1), some (.int x2), some (.int x3), some (.int x4), some (.int x5), none, none, none, none, none, none, none, none, none], [], zhp h) (some (.long p.1), zhp p.2) := by
  unfold qM_hold at H
  obtain ⟨h1, eh1, H⟩ := zlets H
  refine zEv_w (F := fun z => (5, [some (.ref 215), some (.int x1), some (.int x2), some (.int x3), some (.int x4), some (.int x5), none, none, none, none, none, none, none, none, none], [], zhp z)) (h0 := sI h 215 0 0) 3 rfl eh1 ?_
  refine zEv_k 3 (f' := (9, [some (.ref 215), some (.int x1), some (.int x2), some (.int x3), some (.int x4), some (.int x5), none, none, none, none, none, none, none, none, none], [.int 10, .int 0, .int x2], zhp h1)) rfl ?_
  refine zEv_c (fun _ => rfl) rfl ev_zf_in rfl rfl ?_
  refine zEv_k 1 (f' := (if (zf_in x2 0 10) = 0 then 43 else 15, [some (.ref 215), some (.int x1), some (.int x2), some (.int x3), some (.int x4), some (.int x5), none, none, none, none, none, none, none, none, none], [], zhp h1)) rfl (zEv_if (fun c2 => ?_) (fun c2 => ?_))
  · replace H := zif_t c2 H
    refine zEv_k 1 (f' := (46, [some (.ref 215), some (.int x1), some (.int x2), some (.int x3), some (.int x4), some (.int x5), none, none, none, none, none, none, none, none, none], [.long (-1)], zhp h1)) rfl ?_
    cases H
    exact zEv_r rfl
  · replace H := zif_f c2 H
    refine zEv_k 3 (f' := (18, [some (.ref 215), some (.int x1), some (.int x2), some (.int x3), some (.int x4), some (.int x5), none, none, none, none, none, none, none, none, none], [.int 2, .int 0, .int x3], zhp h1)) rfl ?_
    refine zEv_c (fun _ => rfl) rfl ev_zf_in rfl rfl ?_
    refine zEv_k 1 (f' := (if (zf_in x3 0 2) = 0 then 43 else 24, [some (.ref 215), some (.int x1), some (.int x2), some (.int x3), some (.int x4), some (.int x5), none, none, none, none, none, none, none, none, none], [], zhp h1)) rfl (zEv_if (fun c3 => ?_) (fun c3 => ?_))
    · replace H := zif_t c3 H
      refine zEv_k 1 (f' := (46, [some (.ref 215), some (.int x1), some (.int x2), some (.int x3), some (.int x4), some (.int x5), none, none, none, none, none, none, none, none, none], [.long (-1)], zhp h1)) rfl ?_
      cases H
      exact zEv_r rfl
    · replace H := zif_f c3 H
      refine zEv_k 3 (f' := (29, [some (.ref 215), some (.int x1), some (.int x2), some (.int x3), some (.int x4), some (.int x5), none, none, none, none, none, none, none, none, none], [.int 7, .int 0, .int x4], zhp h1)) rfl ?_
      refine zEv_c (fun _ => rfl) rfl ev_zf_in rfl rfl ?_
      refine zEv_k 1 (f' := (if (zf_in x4 0 7) = 0 then 43 else 35, [some (.ref 215), some (.int x1), some (.int x2), some (.int x3), some (.int x4), some (.int x5), none, none, none, none, none, none, none, none, none], [], zhp h1)) rfl (zEv_if (fun c4 => ?_) (fun c4 => ?_))
      · replace H := zif_t c4 H
        refine zEv_k 1 (f' := (46, [some (.ref 215), some (.int x1), some (.int x2), some (.int x3), some (.int x4), some (.int x5), none, none, none, none, none, none, none, none, none], [.long (-1)], zhp h1)) rfl ?_
        cases H
        exact zEv_r rfl
      · replace H := zif_f c4 H
        refine zEv_k 2 (f' := (37, [some (.ref 215), some (.int x1), some (.int x2), some (.int x3), some (.int x4), some (.int x5), none, none, none, none, none, none, none, none, none], [.int x1, .ref 215], zhp h1)) rfl ?_
        obtain ⟨p5, hp5, H⟩ := zbs H
        refine zEv_c (fun _ => rfl) rfl (t_qM_hand (x1 := x1) (h := h1) (d := d) hp5) rfl rfl ?_
        refine zEv_k 1 (f' := (if ¬ p5.1 = 0 then 47 else 43, [some (.ref 215), some (.int x1), some (.int x2), some (.int x3), some (.int x4), some (.int x5), none, none, none, none, none, none, none, none, none], [], zhp p5.2)) rfl (zEv_if (fun c6 => ?_) (fun c6 => ?_))
        · replace H := zif_t c6 H
          refine zEv_k 2 (f' := (51, [some (.ref 215), some (.int x1), some (.int x2), some (.int x3), some (.int x4), some (.int x5), none, none, none, none, none, none, none, none, none], [.int x3, .long 10], zhp p5.2)) rfl ?_
          obtain ⟨p7, hp7, H⟩ := zbs H
          refine zEv_c (fun _ => rfl) rfl (t_qM_times (x0 := 10) (x2 := x3) (h := p5.2) (d := d + 2) hp7) rfl rfl ?_
          refine zEv_k 4 (f' := (59, [some (.ref 215), some (.int x1), some (.int x2), some (.int x3), some (.int x4), some (.int x5), some (.long p7), none, none, none, none, none, none, none, none], [.int x3, .long (Int32.toInt64 x2)], zhp p5.2)) rfl ?_
          obtain ⟨p8, hp8, H⟩ := zbs H
          refine zEv_c (fun _ => rfl) rfl (t_qM_times (x0 := Int32.toInt64 x2) (x2 := x3) (h := p5.2) (d := d + 2) hp8) rfl rfl ?_
          refine zEv_k 7 (f' := (73, [some (.ref 215), some (.int x1), some (.int x2), some (.int x3), some (.int x4), some (.int x5), some (.long p7), none, some (.long p8), none, some (.long 0), none, some (.long 1), none, some (.int 0)], [], zhp p5.2)) rfl ?_
          obtain ⟨t15, ht15, H⟩ := zbs H
          refine t_qM_hold_b73 (x4 := x4) (x5 := x5) (x6 := p7) (x8 := p8) (h := p5.2) ?_ zfu _ ht15 _ _ _
          intro y1 y2 y3 y12 y14
          refine zEv_k 4 (f' := (157, [some (.ref 215), y1, y2, y3, some (.int x4), some (.int x5), some (.long p7), none, some (.long p8), none, some (.long t15), none, y12, none, y14], [.int (gI p5.2 215 23), .long p7, .long t15], zhp p5.2)) rfl ?_
          obtain ⟨p17, hp17, H⟩ := zbs H
          refine zEv_c (fun _ => rfl) rfl (t_qM_times (x0 := p7) (x2 := gI p5.2 215 23) (h := p5.2) (d := d + 2) hp17) rfl rfl ?_
          refine zEv_k 1 (f' := (162, [some (.ref 215), y1, y2, y3, some (.int x4), some (.int x5), some (.long p7), none, some (.long p8), none, some (.long t15), none, y12, none, y14], [.int x5, .long p17, .long t15], zhp p5.2)) rfl ?_
          obtain ⟨p18, hp18, H⟩ := zbs H
          refine zEv_c (fun _ => rfl) rfl (t_qM_partL (x0 := t15) (x2 := p17) (x4 := x5) (h := p5.2) (d := d + 1) hp18) rfl rfl ?_
          cases H
          exact zEv_r rfl
        · replace H := zif_f c6 H
          refine zEv_k 1 (f' := (46, [some (.ref 215), some (.int x1), some (.int x2), some (.int x3), some (.int x4), some (.int x5), none, none, none, none, none, none, none, none, none], [.long (-1)], zhp p5.2)) rfl ?_
          cases H
          exact zEv_r rfl
def qM_factOf (x1 : Int32) (x2 : Int32) (h : zK) : Option (Int32) :=
  (zix ((((17 * (gI h 215 43)) + 1) + (2 * x1)) + x2) 136).bind fun j1 =>
  some (gI h 223 j1)
theorem t_qM_factOf {Ls : Nat} {xs : Nat → Int32} {d : Nat} {x1 : Int32} {x2 : Int32} {h : zK} {p : Int32} (H : qM_factOf x1 x2 h = some p) : zEv (zXs Ls xs) d zm_228 (0, [some (.ref 215), some (.int x1), some (.int x2)], [], zhp h) (some (.int p), zhp h) := by
  unfold qM_factOf at H
  refine zEv_k 1 (f' := (1, [some (.ref 215), some (.int x1), some (.int x2)], [.ref 215], zhp h)) rfl ?_
  refine zRgr rfl rfl rfl (by decide) (b := 223) rfl ?_
  refine zEv_k 9 (f' := (16, [some (.ref 215), some (.int x1), some (.int x2)], [.int (2 * x1), .int ((17 * (gI h 215 43)) + 1), .ref 223], zhp h)) rfl ?_
  refine zEv_k 3 (f' := (19, [some (.ref 215), some (.int x1), some (.int x2)], [.int ((((17 * (gI h 215 43)) + 1) + (2 * x1)) + x2), .ref 223], zhp h)) rfl ?_
  obtain ⟨j1, hj1, H⟩ := zbs H
  refine zRia rfl rfl (by decide) hj1 ?_
  cases H
  exact zEv_r rfl
def qM_facts (h : zK) : Option (Int32) :=
  (zix (17 * (gI h 215 43)) 136).bind fun j1 =>
  some (gI h 223 j1)
theorem t_qM_facts {Ls : Nat} {xs : Nat → Int32} {d : Nat} {h : zK} {p : Int32} (H : qM_facts h = some p) : zEv (zXs Ls xs) d zm_229 (0, [some (.ref 215)], [], zhp h) (some (.int p), zhp h) := by
  unfold qM_facts at H
  refine zEv_k 1 (f' := (1, [some (.ref 215)], [.ref 215], zhp h)) rfl ?_
  refine zRgr rfl rfl rfl (by decide) (b := 223) rfl ?_
  refine zEv_k 4 (f' := (11, [some (.ref 215)], [.int (17 * (gI h 215 43)), .ref 223], zhp h)) rfl ?_
  obtain ⟨j1, hj1, H⟩ := zbs H
  refine zRia rfl rfl (by decide) hj1 ?_
  cases H
  exact zEv_r rfl
def qM_hasLog (x1 : Int32) (h : zK) : Option (Int32 × zK) :=
  zlet (sI h 215 43 x1) fun h1 =>
  (qM_is 2 x1 h1).bind fun p2 =>
  if zbool p2 = true then
    some (p2, h1)
  else none
theorem t_qM_hasLog {Ls : Nat} {xs : Nat → Int32} {d : Nat} {x1 : Int32} {h : zK} {p : Int32 × zK} (H : qM_hasLog x1 h = some p) : zEv (zXs Ls xs) (d + 2) zm_230 (0, [some (.ref 215), some (.int x1)], [], zhp h) (some (.int p.1), zhp p.2) := by
  unfold qM_hasLog at H
  obtain ⟨h1, eh1, H⟩ := zlets H
  refine zEv_w (F := fun z => (5, [some (.ref 215), some (.int x1)], [], zhp z)) (h0 := sI h 215 43 x1) 3 rfl eh1 ?_
  refine zEv_k 3 (f' := (8, [some (.ref 215), some (.int x1)], [.int x1, .int 2, .ref 215], zhp h1)) rfl ?_
  obtain ⟨p2, hp2, H⟩ := zbs H
  refine zEv_c (fun _ => rfl) rfl (t_qM_is (x1 := 2) (x2 := x1) (h := h1) (d := d) hp2) rfl rfl ?_
  obtain ⟨c3, H⟩ := zifn H
  cases H
  exact zEv_rz rfl rfl c3
def qM_fact (x1 : Int32) (x2 : Int32) (x3 : Int32) (h : zK) : Option (Int32 × zK) :=
  zlet (sI h 215 0 0) fun h1 =>
  (qM_hasLog x1 h1).bind fun p2 =>
  if ¬ p2.1 = 0 then
    if ¬ x2 = (-1) then
      (qM_facts p2.2).bind fun p5 =>
      if (zf_in x2 0 (p5 - 1)) = 0 then
        some (-2, p2.2)
      else
        if (zf_in x3 0 1) = 0 then
          some (-2, p2.2)
        else
          (qM_factOf x2 x3 p2.2).bind fun p8 =>
          some (p8, p2.2)
    else
      if ¬ x3 = 0 then
        some (-2, p2.2)
      else
        (qM_facts p2.2).bind fun p10 =>
        some (p10, p2.2)
  else
    some (-2, p2.2)
theorem t_qM_fact {Ls : Nat} {xs : Nat → Int32} {d : Nat} {x1 : Int32} {x2 : Int32} {x3 : Int32} {h : zK} {p : Int32 × zK} (H : qM_fact x1 x2 x3 h = some p) : zEv (zXs Ls xs) (d + 3) zm_231 (0, [some (.ref 215), some (.int x1), some (.int x2), some (.int x3)], [], zhp h) (some (.int p.1), zhp p.2) := by
  unfold qM_fact at H
  obtain ⟨h1, eh1, H⟩ := zlets H
  refine zEv_w (F := fun z => (5, [some (.ref 215), some (.int x1), some (.int x2), some (.int x3)], [], zhp z)) (h0 := sI h 215 0 0) 3 rfl eh1 ?_
  refine zEv_k 2 (f' := (7, [some (.ref 215), some (.int x1), some (.int x2), some (.int x3)], [.int x1, .ref 215], zhp h1)) rfl ?_
  obtain ⟨p2, hp2, H⟩ := zbs H
  refine zEv_c (fun _ => rfl) rfl (t_qM_hasLog (x1 := x1) (h := h1) (d := d) hp2) rfl rfl ?_
  refine zEv_k 1 (f' := (if ¬ p2.1 = 0 then 16 else 13, [some (.ref 215), some (.int x1), some (.int x2), some (.int x3)], [], zhp p2.2)) rfl (zEv_if (fun c3 => ?_) (fun c3 => ?_))
  · replace H := zif_t c3 H
    refine zEv_k 3 (f' := (if ¬ x2 = (-1) then 35 else 21, [some (.ref 215), some (.int x1), some (.int x2), some (.int x3)], [], zhp p2.2)) rfl (zEv_if (fun c4 => ?_) (fun c4 => ?_))
    · replace H := zif_t c4 H
      refine zEv_k 3 (f' := (38, [some (.ref 215), some (.int x1), some (.int x2), some (.int x3)], [.ref 215, .int 0, .int x2], zhp p2.2)) rfl ?_
      obtain ⟨p5, hp5, H⟩ := zbs H
      refine zEv_c (fun _ => rfl) rfl (t_qM_facts (h := p2.2) (d := d + 2) hp5) rfl rfl ?_
      refine zEv_k 2 (f' := (43, [some (.ref 215), some (.int x1), some (.int x2), some (.int x3)], [.int (p5 - 1), .int 0, .int x2], zhp p2.2)) rfl ?_
      refine zEv_c (fun _ => rfl) rfl ev_zf_in rfl rfl ?_
      refine zEv_k 1 (f' := (if (zf_in x2 0 (p5 - 1)) = 0 then 67 else 49, [some (.ref 215), some (.int x1), some (.int x2), some (.int x3)], [], zhp p2.2)) rfl (zEv_if (fun c6 => ?_) (fun c6 => ?_))
      · replace H := zif_t c6 H
        refine zEv_k 1 (f' := (69, [some (.ref 215), some (.int x1), some (.int x2), some (.int x3)], [.int (-2)], zhp p2.2)) rfl ?_
        cases H
        exact zEv_r rfl
      · replace H := zif_f c6 H
        refine zEv_k 3 (f' := (52, [some (.ref 215), some (.int x1), some (.int x2), some (.int x3)], [.int 1, .int 0, .int x3], zhp p2.2)) rfl ?_
        refine zEv_c (fun _ => rfl) rfl ev_zf_in rfl rfl ?_
        refine zEv_k 1 (f' := (if (zf_in x3 0 1) = 0 then 67 else 58, [some (.ref 215), some (.int x1), some (.int x2), some (.int x3)], [], zhp p2.2)) rfl (zEv_if (fun c7 => ?_) (fun c7 => ?_))
        · replace H := zif_t c7 H
          refine zEv_k 1 (f' := (69, [some (.ref 215), some (.int x1), some (.int x2), some (.int x3)], [.int (-2)], zhp p2.2)) rfl ?_
          cases H
          exact zEv_r rfl
        · replace H := zif_f c7 H
          refine zEv_k 3 (f' := (61, [some (.ref 215), some (.int x1), some (.int x2), some (.int x3)], [.int x3, .int x2, .ref 215], zhp p2.2)) rfl ?_
          obtain ⟨p8, hp8, H⟩ := zbs H
          refine zEv_c (fun _ => rfl) rfl (t_qM_factOf (x1 := x2) (x2 := x3) (h := p2.2) (d := d + 2) hp8) rfl rfl ?_
          refine zEv_k 1 (f' := (69, [some (.ref 215), some (.int x1), some (.int x2), some (.int x3)], [.int p8], zhp p2.2)) rfl ?_
          cases H
          exact zEv_r rfl
    · replace H := zif_f c4 H
      refine zEv_k 2 (f' := (if ¬ x3 = 0 then 32 else 25, [some (.ref 215), some (.int x1), some (.int x2), some (.int x3)], [], zhp p2.2)) rfl (zEv_if (fun c9 => ?_) (fun c9 => ?_))
      · replace H := zif_t c9 H
        refine zEv_k 1 (f' := (34, [some (.ref 215), some (.int x1), some (.int x2), some (.int x3)], [.int (-2)], zhp p2.2)) rfl ?_
        cases H
        exact zEv_r rfl
      · replace H := zif_f c9 H
        refine zEv_k 1 (f' := (26, [some (.ref 215), some (.int x1), some (.int x2), some (.int x3)], [.ref 215], zhp p2.2)) rfl ?_
        obtain ⟨p10, hp10, H⟩ := zbs H
        refine zEv_c (fun _ => rfl) rfl (t_qM_facts (h := p2.2) (d := d + 2) hp10) rfl rfl ?_
        refine zEv_k 1 (f' := (34, [some (.ref 215), some (.int x1), some (.int x2), some (.int x3)], [.int p10], zhp p2.2)) rfl ?_
        cases H
        exact zEv_r rfl
  · replace H := zif_f c3 H
    refine zEv_k 1 (f' := (15, [some (.ref 215), some (.int x1), some (.int x2), some (.int x3)], [.int (-2)], zhp p2.2)) rfl ?_
    cases H
    exact zEv_r rfl
