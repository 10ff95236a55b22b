def qM_sortPlaces_b14 (x1 : Int32) (s : Int32 × zK) : Option ((Int32 × zK) ⊕ (zK)) :=
  if (gI s.2 215 23) ≤ s.1 then
    some (.inr s.2)
  else
    (zix s.1 7).bind fun j3 =>
    (zix x1 7).bind fun j4 =>
    Option.bind (
        if (gI s.2 229 j4) ≤ (gI s.2 229 j3) then
          some s.2
        else
          (qM_swapPlaces x1 s.1 s.2).bind fun p7 =>
          some p7
      ) fun (v6 : zK) =>
    some (.inl (s.1 + 1, v6))
theorem t_qM_sortPlaces_b14b {Ls : Nat} {xs : Nat → Int32} {d : Nat} {x1 : Int32} {r : zA} {s : Int32 × zK} {e : (Int32 × zK) ⊕ (zK)} (H : qM_sortPlaces_b14 x1 s = some e) (K : match (generalizing := false) e with | .inl s' => zEv (zXs Ls xs) (d + 1) zm_206 (14, [some (.ref 215), some (.int x1), some (.int s'.1)], [], zhp s'.2) r | .inr v => ∀ (z2 : Option Value), zEv (zXs Ls xs) (d + 1) zm_206 (49, [some (.ref 215), some (.int x1), z2], [], zhp v) r) : zEv (zXs Ls xs) (d + 1) zm_206 (14, [some (.ref 215), some (.int x1), some (.int s.1)], [], zhp s.2) r := by
  unfold qM_sortPlaces_b14 at H
  refine zEv_k 4 (f' := (if (gI s.2 215 23) ≤ s.1 then 49 else 22, [some (.ref 215), some (.int x1), some (.int s.1)], [], zhp s.2)) rfl (zEv_if (fun c2 => ?_) (fun c2 => ?_))
  · replace H := zif_t c2 H
    cases H
    exact K _
  · replace H := zif_f c2 H
    refine zEv_k 1 (f' := (23, [some (.ref 215), some (.int x1), some (.int s.1)], [.ref 215], zhp s.2)) rfl ?_
    refine zRgr rfl rfl rfl (by decide) (b := 229) rfl ?_
    refine zEv_k 1 (f' := (27, [some (.ref 215), some (.int x1), some (.int s.1)], [.int s.1, .ref 229], zhp s.2)) rfl ?_
    obtain ⟨j3, hj3, H⟩ := zbs H
    refine zRia rfl rfl (by decide) hj3 ?_
    refine zEv_k 1 (f' := (29, [some (.ref 215), some (.int x1), some (.int s.1)], [.ref 215, .int (gI s.2 229 j3)], zhp s.2)) rfl ?_
    refine zRgr rfl rfl rfl (by decide) (b := 229) rfl ?_
    refine zEv_k 1 (f' := (33, [some (.ref 215), some (.int x1), some (.int s.1)], [.int x1, .ref 229, .int (gI s.2 229 j3)], zhp s.2)) rfl ?_
    obtain ⟨j4, hj4, H⟩ := zbs H
    refine zRia rfl rfl (by decide) hj4 ?_
    obtain ⟨v6, hv6, H⟩ := zbs H
    have kv6 : zEv (zXs Ls xs) (d + 1) zm_206 (43, [some (.ref 215), some (.int x1), some (.int s.1)], [], zhp v6) r := by
      refine zEv_k 2 (f' := (14, [some (.ref 215), some (.int x1), some (.int (s.1 + 1))], [], zhp v6)) rfl ?_
      cases H
      exact K
    clear H
    refine zEv_k 1 (f' := (if (gI s.2 229 j4) ≤ (gI s.2 229 j3) then 43 else 37, [some (.ref 215), some (.int x1), some (.int s.1)], [], zhp s.2)) rfl (zEv_if (fun c5 => ?_) (fun c5 => ?_))
    · replace hv6 := zif_t c5 hv6
      cases hv6
      exact kv6
    · replace hv6 := zif_f c5 hv6
      refine zEv_k 3 (f' := (40, [some (.ref 215), some (.int x1), some (.int s.1)], [.int s.1, .int x1, .ref 215], zhp s.2)) rfl ?_
      obtain ⟨p7, hp7, hv6⟩ := zbs hv6
      refine zEv_c (fun _ => rfl) rfl (t_qM_swapPlaces (x1 := x1) (x2 := s.1) (h := s.2) (d := d) hp7) rfl rfl ?_
      cases hv6
      exact kv6
theorem t_qM_sortPlaces_b14 {Ls : Nat} {xs : Nat → Int32} {d : Nat} {x1 : Int32} {r : zA} {t : zK} (K : ∀ (z2 : Option Value), zEv (zXs Ls xs) (d + 1) zm_206 (49, [some (.ref 215), some (.int x1), z2], [], zhp t) r) (n : Nat) (s : Int32 × zK) (H : zloop (qM_sortPlaces_b14 x1) n s = some t) : zEv (zXs Ls xs) (d + 1) zm_206 (14, [some (.ref 215), some (.int x1), some (.int s.1)], [], zhp s.2) r := by
  have Z := zloop_P (P := fun s => zEv (zXs Ls xs) (d + 1) zm_206 (14, [some (.ref 215), some (.int x1), some (.int s.1)], [], zhp s.2) r) (b := qM_sortPlaces_b14 x1) (t := t) (fun s s2 hb hk => by exact t_qM_sortPlaces_b14b hb hk) (fun s hb => by exact t_qM_sortPlaces_b14b hb K) n s H
  exact Z
def qM_sortPlaces_b2 (s : Int32 × zK) : Option ((Int32 × zK) ⊕ (zK)) :=
  if (gI s.2 215 23) ≤ s.1 then
    some (.inr s.2)
  else
    (zloop (qM_sortPlaces_b14 s.1) zfu (s.1 + 1, s.2)).bind fun t8 =>
    some (.inl (s.1 + 1, t8))
theorem t_qM_sortPlaces_b2b {Ls : Nat} {xs : Nat → Int32} {d : Nat} {r : zA} {s : Int32 × zK} {e : (Int32 × zK) ⊕ (zK)} (H : qM_sortPlaces_b2 s = some e) (K : match (generalizing := false) e with | .inl s' => ∀ (z2 : Option Value), zEv (zXs Ls xs) (d + 1) zm_206 (2, [some (.ref 215), some (.int s'.1), z2], [], zhp s'.2) r | .inr v => ∀ (z1 : Option Value) (z2 : Option Value), zEv (zXs Ls xs) (d + 1) zm_206 (55, [some (.ref 215), z1, z2], [], zhp v) r) (y2 : Option Value) : zEv (zXs Ls xs) (d + 1) zm_206 (2, [some (.ref 215), some (.int s.1), y2], [], zhp s.2) r := by
  unfold qM_sortPlaces_b2 at H
  refine zEv_k 4 (f' := (if (gI s.2 215 23) ≤ s.1 then 55 else 10, [some (.ref 215), some (.int s.1), y2], [], zhp s.2)) rfl (zEv_if (fun c1 => ?_) (fun c1 => ?_))
  · replace H := zif_t c1 H
    cases H
    exact K _ _
  · replace H := zif_f c1 H
    refine zEv_k 4 (f' := (14, [some (.ref 215), some (.int s.1), some (.int (s.1 + 1))], [], zhp s.2)) rfl ?_
    obtain ⟨t8, ht8, H⟩ := zbs H
    refine t_qM_sortPlaces_b14 (x1 := s.1) ?_ zfu _ ht8
    intro y2
    refine zEv_k 2 (f' := (2, [some (.ref 215), some (.int (s.1 + 1)), y2], [], zhp t8)) rfl ?_
    cases H
    exact K _
theorem t_qM_sortPlaces_b2 {Ls : Nat} {xs : Nat → Int32} {d : Nat} {r : zA} {t : zK} (K : ∀ (z1 : Option Value) (z2 : Option Value), zEv (zXs Ls xs) (d + 1) zm_206 (55, [some (.ref 215), z1, z2], [], zhp t) r) (n : Nat) (s : Int32 × zK) (H : zloop (qM_sortPlaces_b2) n s = some t) (y2 : Option Value) : zEv (zXs Ls xs) (d + 1) zm_206 (2, [some (.ref 215), some (.int s.1), y2], [], zhp s.2) r := by
  have Z := zloop_P (P := fun s => ∀ (y2 : Option Value), zEv (zXs Ls xs) (d + 1) zm_206 (2, [some (.ref 215), some (.int s.1), y2], [], zhp s.2) r) (b := qM_sortPlaces_b2) (t := t) (fun s s2 hb hk => by intro y2; exact t_qM_sortPlaces_b2b hb hk y2) (fun s hb => by intro y2; exact t_qM_sortPlaces_b2b hb K y2) n s H
  exact Z y2
def qM_sortPlaces (h : zK) : Option (zK) :=
  (zloop (qM_sortPlaces_b2) zfu (0, h)).bind fun t10 =>
  some t10
theorem t_qM_sortPlaces {Ls : Nat} {xs : Nat → Int32} {d : Nat} {h : zK} {p : zK} (H : qM_sortPlaces h = some p) : zEv (zXs Ls xs) (d + 1) zm_206 (0, [some (.ref 215), none, none], [], zhp h) (none, zhp p) := by
  unfold qM_sortPlaces at H
  refine zEv_k 2 (f' := (2, [some (.ref 215), some (.int 0), none], [], zhp h)) rfl ?_
  obtain ⟨t10, ht10, H⟩ := zbs H
  refine t_qM_sortPlaces_b2 ?_ zfu _ ht10 _
  intro y1 y2
  cases H
  exact zEv_r rfl
def qM_nextPlaces_b7 (h : zK) (s : Int32) : Option ((Int32) ⊕ (Int32)) :=
  if s < 0 then
    some (.inr s)
  else
    (zix s 7).bind fun j2 =>
    (zix (s + 1) 7).bind fun j3 =>
    if (gI h 229 j2) < (gI h 229 j3) then
      some (.inr s)
    else
      some (.inl (s + (-1)))
theorem t_qM_nextPlaces_b7b {Ls : Nat} {xs : Nat → Int32} {d : Nat} {h : zK} {r : zA} {s : Int32} {e : (Int32) ⊕ (Int32)} (H : qM_nextPlaces_b7 h s = some e) (K : match (generalizing := false) e with | .inl s' => zEv (zXs Ls xs) (d + 1) zm_207 (7, [some (.ref 215), some (.int s'), none], [], zhp h) r | .inr v => zEv (zXs Ls xs) (d + 1) zm_207 (34, [some (.ref 215), some (.int v), none], [], zhp h) r) : zEv (zXs Ls xs) (d + 1) zm_207 (7, [some (.ref 215), some (.int s), none], [], zhp h) r := by
  unfold qM_nextPlaces_b7 at H
  refine zEv_k 2 (f' := (if s < 0 then 34 else 11, [some (.ref 215), some (.int s), none], [], zhp h)) rfl (zEv_if (fun c1 => ?_) (fun c1 => ?_))
  · replace H := zif_t c1 H
    cases H
    exact K
  · replace H := zif_f c1 H
    refine zEv_k 1 (f' := (12, [some (.ref 215), some (.int s), none], [.ref 215], zhp h)) rfl ?_
    refine zRgr rfl rfl rfl (by decide) (b := 229) rfl ?_
    refine zEv_k 1 (f' := (16, [some (.ref 215), some (.int s), none], [.int s, .ref 229], zhp h)) rfl ?_
    obtain ⟨j2, hj2, H⟩ := zbs H
    refine zRia rfl rfl (by decide) hj2 ?_
    refine zEv_k 1 (f' := (18, [some (.ref 215), some (.int s), none], [.ref 215, .int (gI h 229 j2)], zhp h)) rfl ?_
    refine zRgr rfl rfl rfl (by decide) (b := 229) rfl ?_
    refine zEv_k 3 (f' := (24, [some (.ref 215), some (.int s), none], [.int (s + 1), .ref 229, .int (gI h 229 j2)], zhp h)) rfl ?_
    obtain ⟨j3, hj3, H⟩ := zbs H
    refine zRia rfl rfl (by decide) hj3 ?_
    refine zEv_k 1 (f' := (if (gI h 229 j2) < (gI h 229 j3) then 34 else 28, [some (.ref 215), some (.int s), none], [], zhp h)) rfl (zEv_if (fun c4 => ?_) (fun c4 => ?_))
    · replace H := zif_t c4 H
      cases H
      exact K
    · replace H := zif_f c4 H
      refine zEv_k 2 (f' := (7, [some (.ref 215), some (.int (s + (-1))), none], [], zhp h)) rfl ?_
      cases H
      exact K
theorem t_qM_nextPlaces_b7 {Ls : Nat} {xs : Nat → Int32} {d : Nat} {h : zK} {r : zA} {t : Int32} (K : zEv (zXs Ls xs) (d + 1) zm_207 (34, [some (.ref 215), some (.int t), none], [], zhp h) r) (n : Nat) (s : Int32) (H : zloop (qM_nextPlaces_b7 h) n s = some t) : zEv (zXs Ls xs) (d + 1) zm_207 (7, [some (.ref 215), some (.int s), none], [], zhp h) r := by
  have Z := zloop_P (P := fun s => zEv (zXs Ls xs) (d + 1) zm_207 (7, [some (.ref 215), some (.int s), none], [], zhp h) r) (b := qM_nextPlaces_b7 h) (t := t) (fun s s2 hb hk => by exact t_qM_nextPlaces_b7b hb hk) (fun s hb => by exact t_qM_nextPlaces_b7b hb K) n s H
  exact Z
def qM_nextPlaces_b47 (x1 : Int32) (h : zK) (s : Int32) : Option ((Int32) ⊕ (Int32)) :=
  (zix s 7).bind fun j8 =>
  (zix x1 7).bind fun j9 =>
  if (gI h 229 j9) < (gI h 229 j8) then
    some (.inr s)
  else
    some (.inl (s + (-1)))
theorem t_qM_nextPlaces_b47b {Ls : Nat} {xs : Nat → Int32} {d : Nat} {x1 : Int32} {h : zK} {r : zA} {s : Int32} {e : (Int32) ⊕ (Int32)} (H : qM_nextPlaces_b47 x1 h s = some e) (K : match (generalizing := false) e with | .inl s' => zEv (zXs Ls xs) (d + 1) zm_207 (47, [some (.ref 215), some (.int x1), some (.int s')], [], zhp h) r | .inr v => zEv (zXs Ls xs) (d + 1) zm_207 (68, [some (.ref 215), some (.int x1), some (.int v)], [], zhp h) r) : zEv (zXs Ls xs) (d + 1) zm_207 (47, [some (.ref 215), some (.int x1), some (.int s)], [], zhp h) r := by
  unfold qM_nextPlaces_b47 at H
  refine zEv_k 1 (f' := (48, [some (.ref 215), some (.int x1), some (.int s)], [.ref 215], zhp h)) rfl ?_
  refine zRgr rfl rfl rfl (by decide) (b := 229) rfl ?_
  refine zEv_k 1 (f' := (52, [some (.ref 215), some (.int x1), some (.int s)], [.int s, .ref 229], zhp h)) rfl ?_
  obtain ⟨j8, hj8, H⟩ := zbs H
  refine zRia rfl rfl (by decide) hj8 ?_
  refine zEv_k 1 (f' := (54, [some (.ref 215), some (.int x1), some (.int s)], [.ref 215, .int (gI h 229 j8)], zhp h)) rfl ?_
  refine zRgr rfl rfl rfl (by decide) (b := 229) rfl ?_
  refine zEv_k 1 (f' := (58, [some (.ref 215), some (.int x1), some (.int s)], [.int x1, .ref 229, .int (gI h 229 j8)], zhp h)) rfl ?_
  obtain ⟨j9, hj9, H⟩ := zbs H
  refine zRia rfl rfl (by decide) hj9 ?_
  refine zEv_k 1 (f' := (if (gI h 229 j9) < (gI h 229 j8) then 68 else 62, [some (.ref 215), some (.int x1), some (.int s)], [], zhp h)) rfl (zEv_if (fun c10 => ?_) (fun c10 => ?_))
  · replace H := zif_t c10 H
    cases H
    exact K
  · replace H := zif_f c10 H
    refine zEv_k 2 (f' := (47, [some (.ref 215), some (.int x1), some (.int (s + (-1)))], [], zhp h)) rfl ?_
    cases H
    exact K
theorem t_qM_nextPlaces_b47 {Ls : Nat} {xs : Nat → Int32} {d : Nat} {x1 : Int32} {h : zK} {r : zA} {t : Int32} (K : zEv (zXs Ls xs) (d + 1) zm_207 (68, [some (.ref 215), some (.int x1), some (.int t)], [], zhp h) r) (n : Nat) (s : Int32) (H : zloop (qM_nextPlaces_b47 x1 h) n s = some t) : zEv (zXs Ls xs) (d + 1) zm_207 (47, [some (.ref 215), some (.int x1), some (.int s)], [], zhp h) r := by
  have Z := zloop_P (P := fun s => zEv (zXs Ls xs) (d + 1) zm_207 (47, [some (.ref 215), some (.int x1), some (.int s)], [], zhp h) r) (b := qM_nextPlaces_b47 x1 h) (t := t) (fun s s2 hb hk => by exact t_qM_nextPlaces_b47b hb hk) (fun s hb => by exact t_qM_nextPlaces_b47b hb K) n s H
  exact Z
def qM_nextPlaces_b84 (s : Int32 × Int32 × zK) : Option ((Int32 × Int32 × zK) ⊕ (zK)) :=
  if s.2.1 ≤ s.1 then
    some (.inr s.2.2)
  else
    (qM_swapPlaces s.1 s.2.1 s.2.2).bind fun p15 =>
    some (.inl (s.1 + 1, s.2.1 + (-1), p15))
theorem t_qM_nextPlaces_b84b {Ls : Nat} {xs : Nat → Int32} {d : Nat} {r : zA} {s : Int32 × Int32 × zK} {e : (Int32 × Int32 × zK) ⊕ (zK)} (H : qM_nextPlaces_b84 s = some e) (K : match (generalizing := false) e with | .inl s' => zEv (zXs Ls xs) (d + 1) zm_207 (84, [some (.ref 215), some (.int s'.1), some (.int s'.2.1)], [], zhp s'.2.2) r | .inr v => ∀ (z1 : Option Value) (z2 : Option Value), zEv (zXs Ls xs) (d + 1) zm_207 (104, [some (.ref 215), z1, z2], [], zhp v) r) : zEv (zXs Ls xs) (d + 1) zm_207 (84, [some (.ref 215), some (.int s.1), some (.int s.2.1)], [], zhp s.2.2) r := by
  unfold qM_nextPlaces_b84 at H
  refine zEv_k 3 (f' := (if s.2.1 ≤ s.1 then 104 else 89, [some (.ref 215), some (.int s.1), some (.int s.2.1)], [], zhp s.2.2)) rfl (zEv_if (fun c14 => ?_) (fun c14 => ?_))
  · replace H := zif_t c14 H
    cases H
    exact K _ _
  · replace H := zif_f c14 H
    refine zEv_k 3 (f' := (92, [some (.ref 215), some (.int s.1), some (.int s.2.1)], [.int s.2.1, .int s.1, .ref 215], zhp s.2.2)) rfl ?_
    obtain ⟨p15, hp15, H⟩ := zbs H
    refine zEv_c (fun _ => rfl) rfl (t_qM_swapPlaces (x1 := s.1) (x2 := s.2.1) (h := s.2.2) (d := d) hp15) rfl rfl ?_
    refine zEv_k 3 (f' := (84, [some (.ref 215), some (.int (s.1 + 1)), some (.int (s.2.1 + (-1)))], [], zhp p15)) rfl ?_
    cases H
    exact K
theorem t_qM_nextPlaces_b84 {Ls : Nat} {xs : Nat → Int32} {d : Nat} {r : zA} {t : zK} (K : ∀ (z1 : Option Value) (z2 : Option Value), zEv (zXs Ls xs) (d + 1) zm_207 (104, [some (.ref 215), z1, z2], [], zhp t) r) (n : Nat) (s : Int32 × Int32 × zK) (H : zloop (qM_nextPlaces_b84) n s = some t) : zEv (zXs Ls xs) (d + 1) zm_207 (84, [some (.ref 215), some (.int s.1), some (.int s.2.1)], [], zhp s.2.2) r := by
  have Z := zloop_P (P := fun s => zEv (zXs Ls xs) (d + 1) zm_207 (84, [some (.ref 215), some (.int s.1), some (.int s.2.1)], [], zhp s.2.2) r) (b := qM_nextPlaces_b84) (t := t) (fun s s2 hb hk => by exact t_qM_nextPlaces_b84b hb hk) (fun s hb => by exact t_qM_nextPlaces_b84b hb K) n s H
  exact Z
def qM_nextPlaces (h : zK) : Option (Int32 × zK) :=
  (zloop (qM_nextPlaces_b7 h) zfu ((gI h 215 23) - 2)).bind fun t5 =>
  if 0 ≤ t5 then
    (zloop (qM_nextPlaces_b47 t5 h) zfu ((gI h 215 23) - 1)).bind fun t11 =>
    (qM_swapPlaces t5 t11 h).bind fun p13 =>
    (zloop (qM_nextPlaces_b84) zfu (t5 + 1, (gI p13 215 23) - 1, p13)).bind fun t16 =>
    some (1, t16)
  else
    some (0, h)
theorem t_qM_nextPlaces {Ls : Nat} {xs : Nat → Int32} {d : Nat} {h : zK} {p : Int32 × zK} (H : qM_nextPlaces h = some p) : zEv (zXs Ls xs) (d + 1) zm_207 (0, [some (.ref 215), none, none], [], zhp h) (some (.int p.1), zhp p.2) := by
  unfold qM_nextPlaces at H
  refine zEv_k 5 (f' := (7, [some (.ref 215), some (.int ((gI h 215 23) - 2)), none], [], zhp h)) rfl ?_
  obtain ⟨t5, ht5, H⟩ := zbs H
  refine t_qM_nextPlaces_b7 (h := h) ?_ zfu _ ht5
  refine zEv_k 2 (f' := (if 0 ≤ t5 then 40 else 38, [some (.ref 215), some (.int t5), none], [], zhp h)) rfl (zEv_if (fun c7 => ?_) (fun c7 => ?_))
  · replace H := zif_t c7 H
    refine zEv_k 5 (f' := (47, [some (.ref 215), some (.int t5), some (.int ((gI h 215 23) - 1))], [], zhp h)) rfl ?_
    obtain ⟨t11, ht11, H⟩ := zbs H
    refine t_qM_nextPlaces_b47 (x1 := t5) (h := h) ?_ zfu _ ht11
    refine zEv_k 3 (f' := (71, [some (.ref 215), some (.int t5), some (.int t11)], [.int t11, .int t5, .ref 215], zhp h)) rfl ?_
    obtain ⟨p13, hp13, H⟩ := zbs H
    refine zEv_c (fun _ => rfl) rfl (t_qM_swapPlaces (x1 := t5) (x2 := t11) (h := h) (d := d) hp13) rfl rfl ?_
    refine zEv_k 6 (f' := (84, [some (.ref 215), some (.int (t5 + 1)), some (.int ((gI p13 215 23) - 1))], [], zhp p13)) rfl ?_
    obtain ⟨t16, ht16, H⟩ := zbs H
    refine t_qM_nextPlaces_b84 ?_ zfu _ ht16
    intro y1 y2
    refine zEv_k 1 (f' := (105, [some (.ref 215), y1, y2], [.int 1], zhp t16)) rfl ?_
    cases H
    exact zEv_r rfl
  · replace H := zif_f c7 H
    refine zEv_k 1 (f' := (39, [some (.ref 215), some (.int t5), none], [.int 0], zhp h)) rfl ?_
    cases H
    exact zEv_r rfl
def qM_laying_b54 (x2 : Int32) (x3 : Int32) (x5 : Int32) (s : Int32 × zK) : Option ((Int32 × zK) ⊕ (zK)) :=
  if (gI s.2 215 23) ≤ s.1 then
    some (.inr s.2)
  else
    if x3 ≤ x5 then
      some (.inr s.2)
    else
      (zix s.1 7).bind fun j10 =>
      zlet (sI s.2 230 j10 (gI s.2 229 j10)) fun h11 =>
      some (.inl (s.1 + 1, h11))
theorem t_qM_laying_b54b {Ls : Nat} {xs : Nat → Int32} {d : Nat} {x2 : Int32} {x3 : Int32} {x5 : Int32} {r : zA} {s : Int32 × zK} {e : (Int32 × zK) ⊕ (zK)} (H : qM_laying_b54 x2 x3 x5 s = some e) (K : match (generalizing := false) e with | .inl s' => ∀ (z1 : Option Value) (z4 : Option Value), zEv (zXs Ls xs) (d + 5) zm_208 (54, [some (.ref 215), z1, some (.int x2), some (.int x3), z4, some (.int x5), some (.int s'.1)], [], zhp s'.2) r | .inr v => ∀ (z1 : Option Value) (z4 : Option Value) (z6 : Option Value), zEv (zXs Ls xs) (d + 5) zm_208 (89, [some (.ref 215), z1, some (.int x2), some (.int x3), z4, some (.int x5), z6], [], zhp v) r) (y1 : Option Value) (y4 : Option Value) : zEv (zXs Ls xs) (d + 5) zm_208 (54, [some (.ref 215), y1, some (.int x2), some (.int x3), y4, some (.int x5), some (.int s.1)], [], zhp s.2) r := by
  unfold qM_laying_b54 at H
  refine zEv_k 4 (f' := (if (gI s.2 215 23) ≤ s.1 then 89 else 63, [some (.ref 215), y1, some (.int x2), some (.int x3), y4, some (.int x5), some (.int s.1)], [], zhp s.2)) rfl (zEv_if (fun c8 => ?_) (fun c8 => ?_))
  · replace H := zif_t c8 H
    cases H
    exact K _ _ _
  · replace H := zif_f c8 H
    refine zEv_k 3 (f' := (if x3 ≤ x5 then 89 else 69, [some (.ref 215), y1, some (.int x2), some (.int x3), y4, some (.int x5), some (.int s.1)], [], zhp s.2)) rfl (zEv_if (fun c9 => ?_) (fun c9 => ?_))
    · replace H := zif_t c9 H
      cases H
      exact K _ _ _
    · replace H := zif_f c9 H
      refine zEv_k 1 (f' := (70, [some (.ref 215), y1, some (.int x2), some (.int x3), y4, some (.int x5), some (.int s.1)], [.ref 215], zhp s.2)) rfl ?_
      refine zRgr rfl rfl rfl (by decide) (b := 230) rfl ?_
      refine zEv_k 2 (f' := (76, [some (.ref 215), y1, some (.int x2), some (.int x3), y4, some (.int x5), some (.int s.1)], [.ref 215, .int s.1, .ref 230], zhp s.2)) rfl ?_
      refine zRgr rfl rfl rfl (by decide) (b := 229) rfl ?_
      refine zEv_k 1 (f' := (81, [some (.ref 215), y1, some (.int x2), some (.int x3), y4, some (.int x5), some (.int s.1)], [.int s.1, .ref 229, .int s.1, .ref 230], zhp s.2)) rfl ?_
      obtain ⟨j10, hj10, H⟩ := zbs H
      refine zRia rfl rfl (by decide) hj10 ?_
      obtain ⟨h11, eh11, H⟩ := zlets H
      refine zRis rfl rfl (by decide) hj10 eh11 ?_
      refine zEv_k 2 (f' := (54, [some (.ref 215), y1, some (.int x2), some (.int x3), y4, some (.int x5), some (.int (s.1 + 1))], [], zhp h11)) rfl ?_
      cases H
      exact K _ _
theorem t_qM_laying_b54 {Ls : Nat} {xs : Nat → Int32} {d : Nat} {x2 : Int32} {x3 : Int32} {x5 : Int32} {r : zA} {t : zK} (K : ∀ (z1 : Option Value) (z4 : Option Value) (z6 : Option Value), zEv (zXs Ls xs) (d + 5) zm_208 (89, [some (.ref 215), z1, some (.int x2), some (.int x3), z4, some (.int x5), z6], [], zhp t) r) (n : Nat) (s : Int32 × zK) (H : zloop (qM_laying_b54 x2 x3 x5) n s = some t) (y1 : Option Value) (y4 : Option Value) : zEv (zXs Ls xs) (d + 5) zm_208 (54, [some (.ref 215), y1, some (.int x2), some (.int x3), y4, some (.int x5), some (.int s.1)], [], zhp s.2) r := by
  have Z := zloop_P (P := fun s => ∀ (y1 : Option Value) (y4 : Option Value), zEv (zXs Ls xs) (d + 5) zm_208 (54, [some (.ref 215), y1, some (.int x2), some (.int x3), y4, some (.int x5), some (.int s.1)], [], zhp s.2) r) (b := qM_laying_b54 x2 x3 x5) (t := t) (fun s s2 hb hk => by intro y1 y4; exact t_qM_laying_b54b hb hk y1 y4) (fun s hb => by intro y1 y4; exact t_qM_laying_b54b hb K y1 y4) n s H
  exact Z y1 y4
def qM_laying_b40 (x2 : Int32) (s : Int32 × Int32 × zK) : Option ((Int32 × Int32 × zK) ⊕ (Int32 × zK)) :=
  if s.2.1 = 0 then
    some (.inr (s.1, s.2.2))
  else
    (qM_greatestTrain s.2.2).bind fun p7 =>
    (zloop (qM_laying_b54 x2 s.1 p7.1) zfu (0, p7.2)).bind fun t12 =>
    (qM_nextPlaces t12).bind fun p14 =>
    some (.inl (zf_lesser s.1 p7.1, p14.1, p14.2))
theorem t_qM_laying_b40b {Ls : Nat} {xs : Nat → Int32} {d : Nat} {x2 : Int32} {r : zA} {s : Int32 × Int32 × zK} {e : (Int32 × Int32 × zK) ⊕ (Int32 × zK)} (H : qM_laying_b40 x2 s = some e) (K : match (generalizing := false) e with | .inl s' => ∀ (z1 : Option Value) (z5 : Option Value) (z6 : Option Value), zEv (zXs Ls xs) (d + 5) zm_208 (40, [some (.ref 215), z1, some (.int x2), some (.int s'.1), some (.int s'.2.1), z5, z6], [], zhp s'.2.2) r | .inr v => ∀ (z1 : Option Value) (z4 : Option Value) (z5 : Option Value) (z6 : Option Value), zEv (zXs Ls xs) (d + 5) zm_208 (105, [some (.ref 215), z1, some (.int x2), some (.int v.1), z4, z5, z6], [], zhp v.2) r) (y1 : Option Value) (y5 : Option Value) (y6 : Option Value) : zEv (zXs Ls xs) (d + 5) zm_208 (40, [some (.ref 215), y1, some (.int x2), some (.int s.1), some (.int s.2.1), y5, y6], [], zhp s.2.2) r := by
  unfold qM_laying_b40 at H
  refine zEv_k 2 (f' := (if s.2.1 = 0 then 105 else 45, [some (.ref 215), y1, some (.int x2), some (.int s.1), some (.int s.2.1), y5, y6], [], zhp s.2.2)) rfl (zEv_if (fun c6 => ?_) (fun c6 => ?_))
  · replace H := zif_t c6 H
    cases H
    exact K _ _ _ _
  · replace H := zif_f c6 H
    refine zEv_k 1 (f' := (46, [some (.ref 215), y1, some (.int x2), some (.int s.1), some (.int s.2.1), y5, y6], [.ref 215], zhp s.2.2)) rfl ?_
    obtain ⟨p7, hp7, H⟩ := zbs H
    refine zEv_c (fun _ => rfl) rfl (t_qM_greatestTrain (h := s.2.2) (d := d) hp7) rfl rfl ?_
    refine zEv_k 3 (f' := (54, [some (.ref 215), y1, some (.int x2), some (.int s.1), some (.int s.2.1), some (.int p7.1), some (.int 0)], [], zhp p7.2)) rfl ?_
    obtain ⟨t12, ht12, H⟩ := zbs H
    refine t_qM_laying_b54 (x2 := x2) (x3 := s.1) (x5 := p7.1) ?_ zfu _ ht12 _ _
    intro y1 y4 y6
    refine zEv_k 2 (f' := (92, [some (.ref 215), y1, some (.int x2), some (.int s.1), y4, some (.int p7.1), y6], [.int p7.1, .int s.1], zhp t12)) rfl ?_
    refine zEv_c (fun _ => rfl) rfl ev_zf_lesser rfl rfl ?_
    refine zEv_k 2 (f' := (97, [some (.ref 215), y1, some (.int x2), some (.int (zf_lesser s.1 p7.1)), y4, some (.int p7.1), y6], [.ref 215], zhp t12)) rfl ?_
    obtain ⟨p14, hp14, H⟩ := zbs H
    refine zEv_c (fun _ => rfl) rfl (t_qM_nextPlaces (h := t12) (d := d + 3) hp14) rfl rfl ?_
    refine zEv_k 2 (f' := (40, [some (.ref 215), y1, some (.int x2), some (.int (zf_lesser s.1 p7.1)), some (.int p14.1), some (.int p7.1), y6], [], zhp p14.2)) rfl ?_
    cases H
    exact K _ _ _
theorem t_qM_laying_b40 {Ls : Nat} {xs : Nat → Int32} {d : Nat} {x2 : Int32} {r : zA} {t : Int32 × zK} (K : ∀ (z1 : Option Value) (z4 : Option Value) (z5 : Option Value) (z6 : Option Value), zEv (zXs Ls xs) (d + 5) zm_208 (105, [some (.ref 215), z1, some (.int x2), some (.int t.1), z4, z5, z6], [], zhp t.2) r) (n : Nat) (s : Int32 × Int32 × zK) (H : zloop (qM_laying_b40 x2) n s = some t) (y1 : Option Value) (y5 : Option Value) (y6 : Option Value) : zEv (zXs Ls xs) (d + 5) zm_208 (40, [some (.ref 215), y1, some (.int x2), some (.int s.1), some (.int s.2.1), y5, y6], [], zhp s.2.2) r := by
  have Z := zloop_P (P := fun s => ∀ (y1 : Option Value) (y5 : Option Value) (y6 : Option Value), zEv (zXs Ls xs) (d + 5) zm_208 (40, [some (.ref 215), y1, some (.int x2), some (.int s.1), some (.int s.2.1), y5, y6], [], zhp s.2.2) r) (b := qM_laying_b40 x2) (t := t) (fun s s2 hb hk => by intro y1 y5 y6; exact t_qM_laying_b40b hb hk y1 y5 y6) (fun s hb => by intro y1 y5 y6; exact t_qM_laying_b40b hb K y1 y5 y6) n s H
  exact Z y1 y5 y6
def qM_laying (x1 : Int32) (x2 : Int32) (h : zK) : Option (Int32 × zK) :=
  zlet (sI h 215 0 0) fun h1 =>
  (qM_hand x1 h1).bind fun p2 =>
  if p2.1 = 0 then
    some (-1, p2.2)
  else
    if ¬ (zf_in x2 (-1) ((gI p2.2 215 23) - 1)) = 0 then
      (qM_sortPlaces p2.2).bind fun p5 =>
      (zloop (qM_laying_b40 x2) zfu (1000000, 1, p5)).bind fun t15 =>
      if ¬ x2 = (-1) then
        (zix x2 7).bind fun j18 =>
        some (gI t15.2 230 j18, t15.2)
      else
        some (t15.1, t15.2)
    else
      some (-1, p2.2)
theorem t_qM_laying {Ls : Nat} {xs : Nat → Int32} {d : Nat} {x1 : Int32} {x2 : Int32} {h : zK} {p : Int32 × zK} (H : qM_laying x1 x2 h = some p) : zEv (zXs Ls xs) (d + 5) zm_208 (0, [some (.ref 215), some (.int x1), some (.int x2), none, none, none, none], [], zhp h) (some (.int p.1), zhp p.2) := by
  unfold qM_laying at H
  obtain ⟨h1, eh1, H⟩ := zlets H
  refine zEv_w (F := fun z => (5, [some (.ref 215), some (.int x1), some (.int x2), none, none, none, none], [], zhp z)) (h0 := sI h 215 0 0) 3 rfl eh1 ?_
  refine zEv_k 2 (f' := (7, [some (.ref 215), some (.int x1), some (.int x2), none, none, none, none], [.int x1, .ref 215], zhp h1)) rfl ?_
  obtain ⟨p2, hp2, H⟩ := zbs H
  refine zEv_c (fun _ => rfl) rfl (t_qM_hand (x1 := x1) (h := h1) (d := d + 2) hp2) rfl rfl ?_
  refine zEv_k 1 (f' := (if p2.1 = 0 then 27 else 13, [some (.ref 215), some (.int x1), some (.int x2), none, none, none, none], [], zhp p2.2)) rfl (zEv_if (fun c3 => ?_) (fun c3 => ?_))
  · replace H := zif_t c3 H
    refine zEv_k 1 (f' := (28, [some (.ref 215), some (.int x1), some (.int x2), none, none, none, none], [.int (-1)], zhp p2.2)) rfl ?_
    cases H
    exact zEv_r rfl
  · replace H := zif_f c3 H
    refine zEv_k 6 (f' := (21, [some (.ref 215), some (.int x1), some (.int x2), none, none, none, none], [.int ((gI p2.2 215 23) - 1), .int (-1), .int x2], zhp p2.2)) rfl ?_
    refine zEv_c (fun _ => rfl) rfl ev_zf_in rfl rfl ?_
    refine zEv_k 1 (f' := (if ¬ (zf_in x2 (-1) ((gI p2.2 215 23) - 1)) = 0 then 29 else 27, [some (.ref 215), some (.int x1), some (.int x2), none, none, none, none], [], zhp p2.2)) rfl (zEv_if (fun c4 => ?_) (fun c4 => ?_))
    · replace H := zif_t c4 H
      refine zEv_k 3 (f' := (34, [some (.ref 215), some (.int x1), some (.int x2), some (.int 1000000), none, none, none], [.ref 215], zhp p2.2)) rfl ?_
      obtain ⟨p5, hp5, H⟩ := zbs H
      refine zEv_c (fun _ => rfl) rfl (t_qM_sortPlaces (h := p2.2) (d := d + 3) hp5) rfl rfl ?_
      refine zEv_k 2 (f' := (40, [some (.ref 215), some (.int x1), some (.int x2), some (.int 1000000), some (.int 1), none, none], [], zhp p5)) rfl ?_
      obtain ⟨t15, ht15, H⟩ := zbs H
      refine t_qM_laying_b40 (x2 := x2) ?_ zfu _ ht15 _ _ _
      intro y1 y4 y5 y6
      refine zEv_k 3 (f' := (if ¬ x2 = (-1) then 114 else 110, [some (.ref 215), y1, some (.int x2), some (.int t15.1), y4, y5, y6], [], zhp t15.2)) rfl (zEv_if (fun c17 => ?_) (fun c17 => ?_))
      · replace H := zif_t c17 H
        refine zEv_k 1 (f' := (115, [some (.ref 215), y1, some (.int x2), some (.int t15.1), y4, y5, y6], [.ref 215], zhp t15.2)) rfl ?_
        refine zRgr rfl rfl rfl (by decide) (b := 230) rfl ?_
        refine zEv_k 1 (f' := (119, [some (.ref 215), y1, some (.int x2), some (.int t15.1), y4, y5, y6], [.int x2, .ref 230], zhp t15.2)) rfl ?_
        obtain ⟨j18, hj18, H⟩ := zbs H
        refine zRia rfl rfl (by decide) hj18 ?_
        cases H
        exact zEv_r rfl
      · replace H := zif_f c17 H
        refine zEv_k 2 (f' := (120, [some (.ref 215), y1, some (.int x2), some (.int t15.1), y4, y5, y6], [.int t15.1], zhp t15.2)) rfl ?_
        cases H
        exact zEv_r rfl
    · replace H := zif_f c4 H
      refine zEv_k 1 (f' := (28, [some (.ref 215), some (.int x1), some (.int x2), none, none, none, none], [.int (-1)], zhp p2.2)) rfl ?_
      cases H
      exact zEv_r rfl
def qM_lifeOf_b2 (x1 : Int32) (h : zK) (s : Int32) : Option ((Int32) ⊕ ((Unit) ⊕ (Int32))) :=
  if 50 < s then
    some (.inr (.inl ()))
  else
    (qM_of (17 + x1) h).bind fun p2 =>
    (qM_of (24 + x1) h).bind fun p3 =>
    (qM_of (31 + x1) h).bind fun p4 =>
    if (p2 + (p3 * s)) ≤ p4 then
      some (.inl (s + 1))
    else
      some (.inr (.inr s))
theorem t_qM_lifeOf_b2b {Ls : Nat} {xs : Nat → Int32} {d : Nat} {x1 : Int32} {h : zK} {r : zA} {s : Int32} {e : (Int32) ⊕ ((Unit) ⊕ (Int32))} (H : qM_lifeOf_b2 x1 h s = some e) (K : match (generalizing := false) e with | .inl s' => zEv (zXs Ls xs) (d + 1) zm_209 (2, [some (.ref 215), some (.int x1), some (.int s')], [], zhp h) r | .inr (.inl v) => ∀ (z2 : Option Value), zEv (zXs Ls xs) (d + 1) zm_209 (46, [some (.ref 215), some (.int x1), z2], [], zhp h) r | .inr (.inr p) => (some (.int p), zhp h) = r) : zEv (zXs Ls xs) (d + 1) zm_209 (2, [some (.ref 215), some (.int x1), some (.int s)], [], zhp h) r := by
  unfold qM_lifeOf_b2 at H
  refine zEv_k 3 (f' := (if 50 < s then 46 else 8, [some (.ref 215), some (.int x1), some (.int s)], [], zhp h)) rfl (zEv_if (fun c1 => ?_) (fun c1 => ?_))
  · replace H := zif_t c1 H
    cases H
    exact K _
  · replace H := zif_f c1 H
    refine zEv_k 4 (f' := (13, [some (.ref 215), some (.int x1), some (.int s)], [.int (17 + x1), .ref 215], zhp h)) rfl ?_
    obtain ⟨p2, hp2, H⟩ := zbs H
    refine zEv_c (fun _ => rfl) rfl (t_qM_of (x1 := 17 + x1) (h := h) (d := d) hp2) rfl rfl ?_
    refine zEv_k 4 (f' := (21, [some (.ref 215), some (.int x1), some (.int s)], [.int (24 + x1), .ref 215, .int p2], zhp h)) rfl ?_
    obtain ⟨p3, hp3, H⟩ := zbs H
    refine zEv_c (fun _ => rfl) rfl (t_qM_of (x1 := 24 + x1) (h := h) (d := d) hp3) rfl rfl ?_
    refine zEv_k 7 (f' := (32, [some (.ref 215), some (.int x1), some (.int s)], [.int (31 + x1), .ref 215, .int (p2 + (p3 * s))], zhp h)) rfl ?_
    obtain ⟨p4, hp4, H⟩ := zbs H
    refine zEv_c (fun _ => rfl) rfl (t_qM_of (x1 := 31 + x1) (h := h) (d := d) hp4) rfl rfl ?_
    refine zEv_k 1 (f' := (if (p2 + (p3 * s)) ≤ p4 then 40 else 38, [some (.ref 215), some (.int x1), some (.int s)], [], zhp h)) rfl (zEv_if (fun c5 => ?_) (fun c5 => ?_))
    · replace H := zif_t c5 H
      refine zEv_k 2 (f' := (2, [some (.ref 215), some (.int x1), some (.int (s + 1))], [], zhp h)) rfl ?_
      cases H
      exact K
    · replace H := zif_f c5 H
      refine zEv_k 1 (f' := (39, [some (.ref 215), some (.int x1), some (.int s)], [.int s], zhp h)) rfl ?_
      cases H
      exact zEv_re K rfl
theorem t_qM_lifeOf_b2 {Ls : Nat} {xs : Nat → Int32} {d : Nat} {x1 : Int32} {h : zK} {r : zA} {t : (Unit) ⊕ (Int32)} (K : (match (generalizing := false) t with | .inl v => ∀ (z2 : Option Value), zEv (zXs Ls xs) (d + 1) zm_209 (46, [some (.ref 215), some (.int x1), z2], [], zhp h) r | .inr p => (some (.int p), zhp h) = r)) (n : Nat) (s : Int32) (H : zloop (qM_lifeOf_b2 x1 h) n s = some t) : zEv (zXs Ls xs) (d + 1) zm_209 (2, [some (.ref 215), some (.int x1), some (.int s)], [], zhp h) r := by
  have Z := zloop_P (P := fun s => zEv (zXs Ls xs) (d + 1) zm_209 (2, [some (.ref 215), some (.int x1), some (.int s)], [], zhp h) r) (b := qM_lifeOf_b2 x1 h) (t := t) (fun s s2 hb hk => by exact t_qM_lifeOf_b2b hb hk) (fun s hb => by rcases t with v | p <;> (exact t_qM_lifeOf_b2b hb K)) n s H
  exact Z
def qM_lifeOf (x1 : Int32) (h : zK) : Option (Int32) :=
  (zloop (qM_lifeOf_b2 x1 h) zfu 1).bind fun t6 => match t6 with
  | .inr p => some p
  | .inl v7 =>
    some (-1)
theorem t_qM_lifeOf {Ls : Nat} {xs : Nat → Int32} {d : Nat} {x1 : Int32} {h : zK} {p : Int32} (H : qM_lifeOf x1 h = some p) : zEv (zXs Ls xs) (d + 1) zm_209 (0, [some (.ref 215), some (.int x1), none], [], zhp h) (some (.int p), zhp h) := by
  unfold qM_lifeOf at H
  refine zEv_k 2 (f' := (2, [some (.ref 215), some (.int x1), some (.int 1)], [], zhp h)) rfl ?_
  obtain ⟨t6, ht6, H⟩ := zbs H
  refine t_qM_lifeOf_b2 (x1 := x1) (h := h) ?_ zfu _ ht6
  rcases t6 with v7 | p
  · intro y2
    dsimp only at H
    refine zEv_k 1 (f' := (47, [some (.ref 215), some (.int x1), y2], [.int (-1)], zhp h)) rfl ?_
    cases H
    exact zEv_r rfl
  · cases H
    exact rfl
def qM_life (x1 : Int32) (x2 : Int32) (h : zK) : Option (Int32 × zK) :=
  zlet (sI h 215 0 0) fun h1 =>
  (qM_hand x1 h1).bind fun p2 =>
  if p2.1 = 0 then
    some (-1, p2.2)
  else
    (qM_isSaying x2 p2.2).bind fun p4 =>
    if p4 = 0 then
      some (-1, p2.2)
    else
      (qM_lifeOf x2 p2.2).bind fun p6 =>
      some (p6, p2.2)
theorem t_qM_life {Ls : Nat} {xs : Nat → Int32} {d : Nat} {x1 : Int32} {x2 : Int32} {h : zK} {p : Int32 × zK} (H : qM_life x1 x2 h = some p) : zEv (zXs Ls xs) (d + 3) zm_210 (0, [some (.ref 215), some (.int x1), some (.int x2)], [], zhp h) (some (.int p.1), zhp p.2) := by
  unfold qM_life at H
  obtain ⟨h1, eh1, H⟩ := zlets H
  refine zEv_w (F := fun z => (5, [some (.ref 215), some (.int x1), some (.int x2)], [], zhp z)) (h0 := sI h 215 0 0) 3 rfl eh1 ?_
  refine zEv_k 2 (f' := (7, [some (.ref 215), some (.int x1), some (.int x2)], [.int x1, .ref 215], zhp h1)) rfl ?_
  obtain ⟨p2, hp2, H⟩ := zbs H
  refine zEv_c (fun _ => rfl) rfl (t_qM_hand (x1 := x1) (h := h1) (d := d) hp2) rfl rfl ?_
  refine zEv_k 1 (f' := (if p2.1 = 0 then 29 else 13, [some (.ref 215), some (.int x1), some (.int x2)], [], zhp p2.2)) rfl (zEv_if (fun c3 => ?_) (fun c3 => ?_))
  · replace H := zif_t c3 H
    refine zEv_k 1 (f' := (30, [some (.ref 215), some (.int x1), some (.int x2)], [.int (-1)], zhp p2.2)) rfl ?_
    cases H
    exact zEv_r rfl
  · replace H := zif_f c3 H
    refine zEv_k 2 (f' := (15, [some (.ref 215), some (.int x1), some (.int x2)], [.int x2, .ref 215], zhp p2.2)) rfl ?_
    obtain ⟨p4, hp4, H⟩ := zbs H
    refine zEv_c (fun _ => rfl) rfl (t_qM_isSaying (x1 := x2) (h := p2.2) (d := d + 1) hp4) rfl rfl ?_
    refine zEv_k 1 (f' := (if p4 = 0 then 29 else 21, [some (.ref 215), some (.int x1), some (.int x2)], [], zhp p2.2)) rfl (zEv_if (fun c5 => ?_) (fun c5 => ?_))
    · replace H := zif_t c5 H
      refine zEv_k 1 (f' := (30, [some (.ref 215), some (.int x1), some (.int x2)], [.int (-1)], zhp p2.2)) rfl ?_
      cases H
      exact zEv_r rfl
    · replace H := zif_f c5 H
      refine zEv_k 2 (f' := (23, [some (.ref 215), some (.int x1), some (.int x2)], [.int x2, .ref 215], zhp p2.2)) rfl ?_
      obtain ⟨p6, hp6, H⟩ := zbs H
      refine zEv_c (fun _ => rfl) rfl (t_qM_lifeOf (x1 := x2) (h := p2.2) (d := d + 1) hp6) rfl rfl ?_
      refine zEv_k 1 (f' := (30, [some (.ref 215), some (.int x1), some (.int x2)], [.int p6], zhp p2.2)) rfl ?_
      cases H
      exact zEv_r rfl
def qM_witIn (x1 : Int32) (x2 : Int32) (h : zK) : Option (Int32) :=
  (qM_of (3 + x1) h).bind fun p1 =>
  (qM_of (10 + x1) h).bind fun p2 =>
  some (zf_greater 0 (p1 - (p2 * x2)))
theorem t_qM_witIn {Ls : Nat} {xs : Nat → Int32} {d : Nat} {x1 : Int32} {x2 : Int32} {h : zK} {p : Int32} (H : qM_witIn x1 x2 h = some p) : zEv (zXs Ls xs) (d + 1) zm_211 (0, [some (.ref 215), some (.int x1), some (.int x2)], [], zhp h) (some (.int p), zhp h) := by
  unfold qM_witIn at H
  refine zEv_k 5 (f' := (5, [some (.ref 215), some (.int x1), some (.int x2)], [.int (3 + x1), .ref 215, .int 0], zhp h)) rfl ?_
  obtain ⟨p1, hp1, H⟩ := zbs H
  refine zEv_c (fun _ => rfl) rfl (t_qM_of (x1 := 3 + x1) (h := h) (d := d) hp1) rfl rfl ?_
  refine zEv_k 4 (f' := (13, [some (.ref 215), some (.int x1), some (.int x2)], [.int (10 + x1), .ref 215, .int p1, .int 0], zhp h)) rfl ?_
  obtain ⟨p2, hp2, H⟩ := zbs H
  refine zEv_c (fun _ => rfl) rfl (t_qM_of (x1 := 10 + x1) (h := h) (d := d) hp2) rfl rfl ?_
  refine zEv_k 3 (f' := (19, [some (.ref 215), some (.int x1), some (.int x2)], [.int (p1 - (p2 * x2)), .int 0], zhp h)) rfl ?_
  refine zEv_c (fun _ => rfl) rfl ev_zf_greater rfl rfl ?_
  cases H
  exact zEv_r rfl
def qM_planBy (x1 : Int32) (x2 : Int32) (x3 : Int32) (h : zK) : Option (Int32) :=
  if ¬ x3 = 7 then
    Option.bind (
        if (gI h 215 23) ≤ x3 then
          some 0
        else
          if ¬ (zf_has x2 x3) = 0 then
            some 0
          else
            (qM_lifeOf x3 h).bind fun p5 =>
            if p5 = (-1) then
              some 1
            else
              (qM_lifeOf x3 h).bind fun p7 =>
              if p7 ≤ x1 then
                some 0
              else
                some 1
      ) fun (v3 : Int32) =>
    if v3 = 0 then
      some (-1000000)
    else
      (qM_witIn x3 x1 h).bind fun p10 =>
      (zix ((128 * (x1 + 1)) + (x2 ||| ((1 : Int32) <<< (x3 &&& 31)))) 1408).bind fun j11 =>
      some (p10 + (gI h 231 j11))
  else
    (zix ((128 * (x1 + 1)) + x2) 1408).bind fun j12 =>
    some (gI h 231 j12)
theorem t_qM_planBy {Ls : Nat} {xs : Nat → Int32} {d : Nat} {x1 : Int32} {x2 : Int32} {x3 : Int32} {h : zK} {p : Int32} (H : qM_planBy x1 x2 x3 h = some p) : zEv (zXs Ls xs) (d + 2) zm_212 (0, [some (.ref 215), some (.int x1), some (.int x2), some (.int x3), none], [], zhp h) (some (.int p), zhp h) := by
  unfold qM_planBy at H
  refine zEv_k 3 (f' := (if ¬ x3 = 7 then 21 else 6, [some (.ref 215), some (.int x1), some (.int x2), some (.int x3), none], [], zhp h)) rfl (zEv_if (fun c1 => ?_) (fun c1 => ?_))
  · replace H := zif_t c1 H
    obtain ⟨v3, hv3, H⟩ := zbs H
    have kv3 : zEv (zXs Ls xs) (d + 2) zm_212 (60, [some (.ref 215), some (.int x1), some (.int x2), some (.int x3), none], [.int v3], zhp h) (some (.int p), zhp h) := by
      refine zEv_k 3 (f' := (if v3 = 0 then 95 else 67, [some (.ref 215), some (.int x1), some (.int x2), some (.int x3), some (.int v3)], [], zhp h)) rfl (zEv_if (fun c9 => ?_) (fun c9 => ?_))
      · replace H := zif_t c9 H
        refine zEv_k 1 (f' := (98, [some (.ref 215), some (.int x1), some (.int x2), some (.int x3), some (.int v3)], [.int (-1000000)], zhp h)) rfl ?_
        cases H
        exact zEv_r rfl
      · replace H := zif_f c9 H
        refine zEv_k 3 (f' := (70, [some (.ref 215), some (.int x1), some (.int x2), some (.int x3), some (.int v3)], [.int x1, .int x3, .ref 215], zhp h)) rfl ?_
        obtain ⟨p10, hp10, H⟩ := zbs H
        refine zEv_c (fun _ => rfl) rfl (t_qM_witIn (x1 := x3) (x2 := x1) (h := h) (d := d) hp10) rfl rfl ?_
        refine zEv_k 1 (f' := (74, [some (.ref 215), some (.int x1), some (.int x2), some (.int x3), some (.int v3)], [.ref 215, .int p10], zhp h)) rfl ?_
        refine zRgr rfl rfl rfl (by decide) (b := 231) rfl ?_
        refine zEv_k 9 (f' := (88, [some (.ref 215), some (.int x1), some (.int x2), some (.int x3), some (.int v3)], [.int ((1 : Int32) <<< (x3 &&& 31)), .int x2, .int (128 * (x1 + 1)), .ref 231, .int p10], zhp h)) rfl ?_
        refine zEv_k 2 (f' := (90, [some (.ref 215), some (.int x1), some (.int x2), some (.int x3), some (.int v3)], [.int ((128 * (x1 + 1)) + (x2 ||| ((1 : Int32) <<< (x3 &&& 31)))), .ref 231, .int p10], zhp h)) rfl ?_
        obtain ⟨j11, hj11, H⟩ := zbs H
        refine zRia rfl rfl (by decide) hj11 ?_
        refine zEv_k 2 (f' := (98, [some (.ref 215), some (.int x1), some (.int x2), some (.int x3), some (.int v3)], [.int (p10 + (gI h 231 j11))], zhp h)) rfl ?_
        cases H
        exact zEv_r rfl
    clear H
    refine zEv_k 4 (f' := (if (gI h 215 23) ≤ x3 then 59 else 29, [some (.ref 215), some (.int x1), some (.int x2), some (.int x3), none], [], zhp h)) rfl (zEv_if (fun c2 => ?_) (fun c2 => ?_))
    · replace hv3 := zif_t c2 hv3
      refine zEv_k 1 (f' := (60, [some (.ref 215), some (.int x1), some (.int x2), some (.int x3), none], [.int 0], zhp h)) rfl ?_
      cases hv3
      exact kv3
    · replace hv3 := zif_f c2 hv3
      refine zEv_k 2 (f' := (31, [some (.ref 215), some (.int x1), some (.int x2), some (.int x3), none], [.int x3, .int x2], zhp h)) rfl ?_
      refine zEv_c (fun _ => rfl) rfl ev_zf_has rfl rfl ?_
      refine zEv_k 1 (f' := (if ¬ (zf_has x2 x3) = 0 then 59 else 37, [some (.ref 215), some (.int x1), some (.int x2), some (.int x3), none], [], zhp h)) rfl (zEv_if (fun c4 => ?_) (fun c4 => ?_))
      · replace hv3 := zif_t c4 hv3
        refine zEv_k 1 (f' := (60, [some (.ref 215), some (.int x1), some (.int x2), some (.int x3), none], [.int 0], zhp h)) rfl ?_
        cases hv3
        exact kv3
      · replace hv3 := zif_f c4 hv3
        refine zEv_k 2 (f' := (39, [some (.ref 215), some (.int x1), some (.int x2), some (.int x3), none], [.int x3, .ref 215], zhp h)) rfl ?_
        obtain ⟨p5, hp5, hv3⟩ := zbs hv3
        refine zEv_c (fun _ => rfl) rfl (t_qM_lifeOf (x1 := x3) (h := h) (d := d) hp5) rfl rfl ?_
        refine zEv_k 2 (f' := (if p5 = (-1) then 55 else 46, [some (.ref 215), some (.int x1), some (.int x2), some (.int x3), none], [], zhp h)) rfl (zEv_if (fun c6 => ?_) (fun c6 => ?_))
        · replace hv3 := zif_t c6 hv3
          refine zEv_k 2 (f' := (60, [some (.ref 215), some (.int x1), some (.int x2), some (.int x3), none], [.int 1], zhp h)) rfl ?_
          cases hv3
          exact kv3
        · replace hv3 := zif_f c6 hv3
          refine zEv_k 2 (f' := (48, [some (.ref 215), some (.int x1), some (.int x2), some (.int x3), none], [.int x3, .ref 215], zhp h)) rfl ?_
          obtain ⟨p7, hp7, hv3⟩ := zbs hv3
          refine zEv_c (fun _ => rfl) rfl (t_qM_lifeOf (x1 := x3) (h := h) (d := d) hp7) rfl rfl ?_
          refine zEv_k 2 (f' := (if p7 ≤ x1 then 59 else 55, [some (.ref 215), some (.int x1), some (.int x2), some (.int x3), none], [], zhp h)) rfl (zEv_if (fun c8 => ?_) (fun c8 => ?_))
          · replace hv3 := zif_t c8 hv3
            refine zEv_k 1 (f' := (60, [some (.ref 215), some (.int x1), some (.int x2), some (.int x3), none], [.int 0], zhp h)) rfl ?_
            cases hv3
            exact kv3
          · replace hv3 := zif_f c8 hv3
            refine zEv_k 2 (f' := (60, [some (.ref 215), some (.int x1), some (.int x2), some (.int x3), none], [.int 1], zhp h)) rfl ?_
            cases hv3
            exact kv3
  · replace H := zif_f c1 H
    refine zEv_k 1 (f' := (7, [some (.ref 215), some (.int x1), some (.int x2), some (.int x3), none], [.ref 215], zhp h)) rfl ?_
    refine zRgr rfl rfl rfl (by decide) (b := 231) rfl ?_
    refine zEv_k 7 (f' := (19, [some (.ref 215), some (.int x1), some (.int x2), some (.int x3), none], [.int ((128 * (x1 + 1)) + x2), .ref 231], zhp h)) rfl ?_
    obtain ⟨j12, hj12, H⟩ := zbs H
    refine zRia rfl rfl (by decide) hj12 ?_
    cases H
    exact zEv_r rfl
def qM_plan_b39 (x2 : Int32) (x3 : Int32) (s : Int32 × zK) : Option ((Int32 × zK) ⊕ (zK)) :=
  if 128 ≤ s.1 then
    some (.inr s.2)
  else
    (zix ((128 * x2) + s.1) 1408).bind fun j7 =>
    zlet (sI s.2 231 j7 0) fun h8 =>
    some (.inl (s.1 + 1, h8))
theorem t_qM_plan_b39b {Ls : Nat} {xs : Nat → Int32} {d : Nat} {x2 : Int32} {x3 : Int32} {r : zA} {s : Int32 × zK} {e : (Int32 × zK) ⊕ (zK)} (H : qM_plan_b39 x2 x3 s = some e) (K : match (generalizing := false) e with | .inl s' => ∀ (z1 : Option Value), zEv (zXs Ls xs) (d + 3) zm_213 (39, [some (.ref 215), z1, some (.int x2), some (.int x3), some (.int s'.1), none, none, none], [], zhp s'.2) r | .inr v => ∀ (z1 : Option Value) (z4 : Option Value), zEv (zXs Ls xs) (d + 3) zm_213 (67, [some (.ref 215), z1, some (.int x2), some (.int x3), z4, none, none, none], [], zhp v) r) (y1 : Option Value) : zEv (zXs Ls xs) (d + 3) zm_213 (39, [some (.ref 215), y1, some (.int x2), some (.int x3), some (.int s.1), none, none, none], [], zhp s.2) r := by
  unfold qM_plan_b39 at H
  refine zEv_k 3 (f' := (if 128 ≤ s.1 then 67 else 47, [some (.ref 215), y1, some (.int x2), some (.int x3), some (.int s.1), none, none, none], [], zhp s.2)) rfl (zEv_if (fun c6 => ?_) (fun c6 => ?_))
  · replace H := zif_t c6 H
    cases H
    exact K _ _
  · replace H := zif_f c6 H
    refine zEv_k 1 (f' := (48, [some (.ref 215), y1, some (.int x2), some (.int x3), some (.int s.1), none, none, none], [.ref 215], zhp s.2)) rfl ?_
    refine zRgr rfl rfl rfl (by decide) (b := 231) rfl ?_
    refine zEv_k 6 (f' := (60, [some (.ref 215), y1, some (.int x2), some (.int x3), some (.int s.1), none, none, none], [.int 0, .int ((128 * x2) + s.1), .ref 231], zhp s.2)) rfl ?_
    obtain ⟨j7, hj7, H⟩ := zbs H
    obtain ⟨h8, eh8, H⟩ := zlets H
    refine zRis rfl rfl (by decide) hj7 eh8 ?_
    refine zEv_k 2 (f' := (39, [some (.ref 215), y1, some (.int x2), some (.int x3), some (.int (s.1 + 1)), none, none, none], [], zhp h8)) rfl ?_
    cases H
    exact K _
theorem t_qM_plan_b39 {Ls : Nat} {xs : Nat → Int32} {d : Nat} {x2 : Int32} {x3 : Int32} {r : zA} {t : zK} (K : ∀ (z1 : Option Value) (z4 : Option Value), zEv (zXs Ls xs) (d + 3) zm_213 (67, [some (.ref 215), z1, some (.int x2), some (.int x3), z4, none, none, none], [], zhp t) r) (n : Nat) (s : Int32 × zK) (H : zloop (qM_plan_b39 x2 x3) n s = some t) (y1 : Option Value) : zEv (zXs Ls xs) (d + 3) zm_213 (39, [some (.ref 215), y1, some (.int x2), some (.int x3), some (.int s.1), none, none, none], [], zhp s.2) r := by
  have Z := zloop_P (P := fun s => ∀ (y1 : Option Value), zEv (zXs Ls xs) (d + 3) zm_213 (39, [some (.ref 215), y1, some (.int x2), some (.int x3), some (.int s.1), none, none, none], [], zhp s.2) r) (b := qM_plan_b39 x2 x3) (t := t) (fun s s2 hb hk => by intro y1; exact t_qM_plan_b39b hb hk y1) (fun s hb => by intro y1; exact t_qM_plan_b39b hb K y1) n s H
  exact Z y1
def qM_plan_b96 (x3 : Int32) (x4 : Int32) (x5 : Int32) (h : zK) (s : Int32 × Int32) : Option ((Int32 × Int32) ⊕ (Int32)) :=
  if 7 < s.2 then
    some (.inr s.1)
  else
    (qM_planBy x4 x5 s.2 h).bind fun p14 =>
    some (.inl (zf_greater s.1 p14, s.2 + 1))
theorem t_qM_plan_b96b {Ls : Nat} {xs : Nat → Int32} {d : Nat} {x3 : Int32} {x4 : Int32} {x5 : Int32} {h : zK} {r : zA} {s : Int32 × Int32} {e : (Int32 × Int32) ⊕ (Int32)} (H : qM_plan_b96 x3 x4 x5 h s = some e) (K : match (generalizing := false) e with | .inl s' => ∀ (z1 : Option Value) (z2 : Option Value), zEv (zXs Ls xs) (d + 3) zm_213 (96, [some (.ref 215), z1, z2, some (.int x3), some (.int x4), some (.int x5), some (.int s'.1), some (.int s'.2)], [], zhp h) r | .inr v => ∀ (z1 : Option Value) (z2 : Option Value) (z7 : Option Value), zEv (zXs Ls xs) (d + 3) zm_213 (126, [some (.ref 215), z1, z2, some (.int x3), some (.int x4), some (.int x5), some (.int v), z7], [], zhp h) r) (y1 : Option Value) (y2 : Option Value) : zEv (zXs Ls xs) (d + 3) zm_213 (96, [some (.ref 215), y1, y2, some (.int x3), some (.int x4), some (.int x5), some (.int s.1), some (.int s.2)], [], zhp h) r := by
  unfold qM_plan_b96 at H
  refine zEv_k 3 (f' := (if 7 < s.2 then 126 else 103, [some (.ref 215), y1, y2, some (.int x3), some (.int x4), some (.int x5), some (.int s.1), some (.int s.2)], [], zhp h)) rfl (zEv_if (fun c13 => ?_) (fun c13 => ?_))
  · replace H := zif_t c13 H
    cases H
    exact K _ _ _
  · replace H := zif_f c13 H
    refine zEv_k 5 (f' := (112, [some (.ref 215), y1, y2, some (.int x3), some (.int x4), some (.int x5), some (.int s.1), some (.int s.2)], [.int s.2, .int x5, .int x4, .ref 215, .int s.1], zhp h)) rfl ?_
    obtain ⟨p14, hp14, H⟩ := zbs H
    refine zEv_c (fun _ => rfl) rfl (t_qM_planBy (x1 := x4) (x2 := x5) (x3 := s.2) (h := h) (d := d) hp14) rfl rfl ?_
    refine zEv_c (fun _ => rfl) rfl ev_zf_greater rfl rfl ?_
    refine zEv_k 3 (f' := (96, [some (.ref 215), y1, y2, some (.int x3), some (.int x4), some (.int x5), some (.int (zf_greater s.1 p14)), some (.int (s.2 + 1))], [], zhp h)) rfl ?_
    cases H
    exact K _ _
theorem t_qM_plan_b96 {Ls : Nat} {xs : Nat → Int32} {d : Nat} {x3 : Int32} {x4 : Int32} {x5 : Int32} {h : zK} {r : zA} {t : Int32} (K : ∀ (z1 : Option Value) (z2 : Option Value) (z7 : Option Value), zEv (zXs Ls xs) (d + 3) zm_213 (126, [some (.ref 215), z1, z2, some (.int x3), some (.int x4), some (.int x5), some (.int t), z7], [], zhp h) r) (n : Nat) (s : Int32 × Int32) (H : zloop (qM_plan_b96 x3 x4 x5 h) n s = some t) (y1 : Option Value) (y2 : Option Value) : zEv (zXs Ls xs) (d + 3) zm_213 (96, [some (.ref 215), y1, y2, some (.int x3), some (.int x4), some (.int x5), some (.int s.1), some (.int s.2)], [], zhp h) r := by
  have Z := zloop_P (P := fun s => ∀ (y1 : Option Value) (y2 : Option Value), zEv (zXs Ls xs) (d + 3) zm_213 (96, [some (.ref 215), y1, y2, some (.int x3), some (.int x4), some (.int x5), some (.int s.1), some (.int s.2)], [], zhp h) r) (b := qM_plan_b96 x3 x4 x5 h) (t := t) (fun s s2 hb hk => by intro y1 y2; exact t_qM_plan_b96b hb hk y1 y2) (fun s hb => by intro y1 y2; exact t_qM_plan_b96b hb K y1 y2) n s H
  exact Z y1 y2
def qM_plan_b80 (x3 : Int32) (x4 : Int32) (s : Int32 × zK) : Option ((Int32 × zK) ⊕ (zK)) :=
  if 128 ≤ s.1 then
    some (.inr s.2)
  else
    (zloop (qM_plan_b96 x3 x4 s.1 s.2) zfu (-1000000, 0)).bind fun t15 =>
    (zix ((128 * x4) + s.1) 1408).bind fun j17 =>
    zlet (sI s.2 231 j17 t15) fun h18 =>
    some (.inl (s.1 + 1, h18))
theorem t_qM_plan_b80b {Ls : Nat} {xs : Nat → Int32} {d : Nat} {x3 : Int32} {x4 : Int32} {r : zA} {s : Int32 × zK} {e : (Int32 × zK) ⊕ (zK)} (H : qM_plan_b80 x3 x4 s = some e) (K : match (generalizing := false) e with | .inl s' => ∀ (z1 : Option Value) (z2 : Option Value) (z6 : Option Value) (z7 : Option Value), zEv (zXs Ls xs) (d + 3) zm_213 (80, [some (.ref 215), z1, z2, some (.int x3), some (.int x4), some (.int s'.1), z6, z7], [], zhp s'.2) r | .inr v => ∀ (z1 : Option Value) (z2 : Option Value) (z5 : Option Value) (z6 : Option Value) (z7 : Option Value), zEv (zXs Ls xs) (d + 3) zm_213 (148, [some (.ref 215), z1, z2, some (.int x3), some (.int x4), z5, z6, z7], [], zhp v) r) (y1 : Option Value) (y2 : Option Value) (y6 : Option Value) (y7 : Option Value) : zEv (zXs Ls xs) (d + 3) zm_213 (80, [some (.ref 215), y1, y2, some (.int x3), some (.int x4), some (.int s.1), y6, y7], [], zhp s.2) r := by
  unfold qM_plan_b80 at H
  refine zEv_k 3 (f' := (if 128 ≤ s.1 then 148 else 88, [some (.ref 215), y1, y2, some (.int x3), some (.int x4), some (.int s.1), y6, y7], [], zhp s.2)) rfl (zEv_if (fun c12 => ?_) (fun c12 => ?_))
  · replace H := zif_t c12 H
    cases H
    exact K _ _ _ _ _
  · replace H := zif_f c12 H
    refine zEv_k 4 (f' := (96, [some (.ref 215), y1, y2, some (.int x3), some (.int x4), some (.int s.1), some (.int (-1000000)), some (.int 0)], [], zhp s.2)) rfl ?_
    obtain ⟨t15, ht15, H⟩ := zbs H
    refine t_qM_plan_b96 (x3 := x3) (x4 := x4) (x5 := s.1) (h := s.2) ?_ zfu _ ht15 _ _
    intro y1 y2 y7
    refine zEv_k 1 (f' := (127, [some (.ref 215), y1, y2, some (.int x3), some (.int x4), some (.int s.1), some (.int t15), y7], [.ref 215], zhp s.2)) rfl ?_
    refine zRgr rfl rfl rfl (by decide) (b := 231) rfl ?_
    refine zEv_k 6 (f' := (141, [some (.ref 215), y1, y2, some (.int x3), some (.int x4), some (.int s.1), some (.int t15), y7], [.int t15, .int ((128 * x4) + s.1), .ref 231], zhp s.2)) rfl ?_
    obtain ⟨j17, hj17, H⟩ := zbs H
    obtain ⟨h18, eh18, H⟩ := zlets H
    refine zRis rfl rfl (by decide) hj17 eh18 ?_
    refine zEv_k 2 (f' := (80, [some (.ref 215), y1, y2, some (.int x3), some (.int x4), some (.int (s.1 + 1)), some (.int t15), y7], [], zhp h18)) rfl ?_
    cases H
    exact K _ _ _ _
theorem t_qM_plan_b80 {Ls : Nat} {xs : Nat → Int32} {d : Nat} {x3 : Int32} {x4 : Int32} {r : zA} {t : zK} (K : ∀ (z1 : Option Value) (z2 : Option Value) (z5 : Option Value) (z6 : Option Value) (z7 : Option Value), zEv (zXs Ls xs) (d + 3) zm_213 (148, [some (.ref 215), z1, z2, some (.int x3), some (.int x4), z5, z6, z7], [], zhp t) r) (n : Nat) (s : Int32 × zK) (H : zloop (qM_plan_b80 x3 x4) n s = some t) (y1 : Option Value) (y2 : Option Value) (y6 : Option Value) (y7 : Option Value) : zEv (zXs Ls xs) (d + 3) zm_213 (80, [some (.ref 215), y1, y2, some (.int x3), some (.int x4), some (.int s.1), y6, y7], [], zhp s.2) r := by
  have Z := zloop_P (P := fun s => ∀ (y1 : Option Value) (y2 : Option Value) (y6 : Option Value) (y7 : Option Value), zEv (zXs Ls xs) (d + 3) zm_213 (80, [some (.ref 215), y1, y2, some (.int x3), some (.int x4), some (.int s.1), y6, y7], [], zhp s.2) r) (b := qM_plan_b80 x3 x4) (t := t) (fun s s2 hb hk => by intro y1 y2 y6 y7; exact t_qM_plan_b80b hb hk y1 y2 y6 y7) (fun s hb => by intro y1 y2 y6 y7; exact t_qM_plan_b80b hb K y1 y2 y6 y7) n s H
  exact Z y1 y2 y6 y7
def qM_plan_b72 (x3 : Int32) (s : Int32 × zK) : Option ((Int32 × zK) ⊕ (zK)) :=
  if s.1 < 0 then
    some (.inr s.2)
  else
    (zloop (qM_plan_b80 x3 s.1) zfu (0, s.2)).bind fun t19 =>
    some (.inl (s.1 + (-1), t19))
theorem t_qM_plan_b72b {Ls : Nat} {xs : Nat → Int32} {d : Nat} {x3 : Int32} {r : zA} {s : Int32 × zK} {e : (Int32 × zK) ⊕ (zK)} (H : qM_plan_b72 x3 s = some e) (K : match (generalizing := false) e with | .inl s' => ∀ (z1 : Option Value) (z2 : Option Value) (z5 : Option Value) (z6 : Option Value) (z7 : Option Value), zEv (zXs Ls xs) (d + 3) zm_213 (72, [some (.ref 215), z1, z2, some (.int x3), some (.int s'.1), z5, z6, z7], [], zhp s'.2) r | .inr v => ∀ (z1 : Option Value) (z2 : Option Value) (z4 : Option Value) (z5 : Option Value) (z6 : Option Value) (z7 : Option Value), zEv (zXs Ls xs) (d + 3) zm_213 (154, [some (.ref 215), z1, z2, some (.int x3), z4, z5, z6, z7], [], zhp v) r) (y1 : Option Value) (y2 : Option Value) (y5 : Option Value) (y6 : Option Value) (y7 : Option Value) : zEv (zXs Ls xs) (d + 3) zm_213 (72, [some (.ref 215), y1, y2, some (.int x3), some (.int s.1), y5, y6, y7], [], zhp s.2) r := by
  unfold qM_plan_b72 at H
  refine zEv_k 2 (f' := (if s.1 < 0 then 154 else 77, [some (.ref 215), y1, y2, some (.int x3), some (.int s.1), y5, y6, y7], [], zhp s.2)) rfl (zEv_if (fun c11 => ?_) (fun c11 => ?_))
  · replace H := zif_t c11 H
    cases H
    exact K _ _ _ _ _ _
  · replace H := zif_f c11 H
    refine zEv_k 2 (f' := (80, [some (.ref 215), y1, y2, some (.int x3), some (.int s.1), some (.int 0), y6, y7], [], zhp s.2)) rfl ?_
    obtain ⟨t19, ht19, H⟩ := zbs H
    refine t_qM_plan_b80 (x3 := x3) (x4 := s.1) ?_ zfu _ ht19 _ _ _ _
    intro y1 y2 y5 y6 y7
    refine zEv_k 2 (f' := (72, [some (.ref 215), y1, y2, some (.int x3), some (.int (s.1 + (-1))), y5, y6, y7], [], zhp t19)) rfl ?_
    cases H
    exact K _ _ _ _ _
theorem t_qM_plan_b72 {Ls : Nat} {xs : Nat → Int32} {d : Nat} {x3 : Int32} {r : zA} {t : zK} (K : ∀ (z1 : Option Value) (z2 : Option Value) (z4 : Option Value) (z5 : Option Value) (z6 : Option Value) (z7 : Option Value), zEv (zXs Ls xs) (d + 3) zm_213 (154, [some (.ref 215), z1, z2, some (.int x3), z4, z5, z6, z7], [], zhp t) r) (n : Nat) (s : Int32 × zK) (H : zloop (qM_plan_b72 x3) n s = some t) (y1 : Option Value) (y2 : Option Value) (y5 : Option Value) (y6 : Option Value) (y7 : Option Value) : zEv (zXs Ls xs) (d + 3) zm_213 (72, [some (.ref 215), y1, y2, some (.int x3), some (.int s.1), y5, y6, y7], [], zhp s.2) r := by
  have Z := zloop_P (P := fun s => ∀ (y1 : Option Value) (y2 : Option Value) (y5 : Option Value) (y6 : Option Value) (y7 : Option Value), zEv (zXs Ls xs) (d + 3) zm_213 (72, [some (.ref 215), y1, y2, some (.int x3), some (.int s.1), y5, y6, y7], [], zhp s.2) r) (b := qM_plan_b72 x3) (t := t) (fun s s2 hb hk => by intro y1 y2 y5 y6 y7; exact t_qM_plan_b72b hb hk y1 y2 y5 y6 y7) (fun s hb => by intro y1 y2 y5 y6 y7; exact t_qM_plan_b72b hb K y1 y2 y5 y6 y7) n s H
  exact Z y1 y2 y5 y6 y7
def qM_plan_b173 (x3 : Int32) (x4 : Int32) (x6 : Int32) (h : zK) (s : Int32) : Option ((Int32) ⊕ (Int32)) :=
  (qM_planBy x6 x4 s h).bind fun p24 =>
  (zix ((128 * x6) + x4) 1408).bind fun j25 =>
  if p24 = (gI h 231 j25) then
    some (.inr s)
  else
    some (.inl (s + 1))
theorem t_qM_plan_b173b {Ls : Nat} {xs : Nat → Int32} {d : Nat} {x3 : Int32} {x4 : Int32} {x6 : Int32} {h : zK} {r : zA} {s : Int32} {e : (Int32) ⊕ (Int32)} (H : qM_plan_b173 x3 x4 x6 h s = some e) (K : match (generalizing := false) e with | .inl s' => ∀ (z1 : Option Value) (z2 : Option Value) (z7 : Option Value), zEv (zXs Ls xs) (d + 3) zm_213 (173, [some (.ref 215), z1, z2, some (.int x3), some (.int x4), some (.int s'), some (.int x6), z7], [], zhp h) r | .inr v => ∀ (z1 : Option Value) (z2 : Option Value) (z7 : Option Value), zEv (zXs Ls xs) (d + 3) zm_213 (206, [some (.ref 215), z1, z2, some (.int x3), some (.int x4), some (.int v), some (.int x6), z7], [], zhp h) r) (y1 : Option Value) (y2 : Option Value) (y7 : Option Value) : zEv (zXs Ls xs) (d + 3) zm_213 (173, [some (.ref 215), y1, y2, some (.int x3), some (.int x4), some (.int s), some (.int x6), y7], [], zhp h) r := by
  unfold qM_plan_b173 at H
  refine zEv_k 4 (f' := (180, [some (.ref 215), y1, y2, some (.int x3), some (.int x4), some (.int s), some (.int x6), y7], [.int s, .int x4, .int x6, .ref 215], zhp h)) rfl ?_
  obtain ⟨p24, hp24, H⟩ := zbs H
  refine zEv_c (fun _ => rfl) rfl (t_qM_planBy (x1 := x6) (x2 := x4) (x3 := s) (h := h) (d := d) hp24) rfl rfl ?_
  refine zEv_k 1 (f' := (184, [some (.ref 215), y1, y2, some (.int x3), some (.int x4), some (.int s), some (.int x6), y7], [.ref 215, .int p24], zhp h)) rfl ?_
  refine zRgr rfl rfl rfl (by decide) (b := 231) rfl ?_
  refine zEv_k 5 (f' := (196, [some (.ref 215), y1, y2, some (.int x3), some (.int x4), some (.int s), some (.int x6), y7], [.int ((128 * x6) + x4), .ref 231, .int p24], zhp h)) rfl ?_
  obtain ⟨j25, hj25, H⟩ := zbs H
  refine zRia rfl rfl (by decide) hj25 ?_
  refine zEv_k 1 (f' := (if p24 = (gI h 231 j25) then 206 else 200, [some (.ref 215), y1, y2, some (.int x3), some (.int x4), some (.int s), some (.int x6), y7], [], zhp h)) rfl (zEv_if (fun c26 => ?_) (fun c26 => ?_))
  · replace H := zif_t c26 H
    cases H
    exact K _ _ _
  · replace H := zif_f c26 H
    refine zEv_k 2 (f' := (173, [some (.ref 215), y1, y2, some (.int x3), some (.int x4), some (.int (s + 1)), some (.int x6), y7], [], zhp h)) rfl ?_
    cases H
    exact K _ _ _
theorem t_qM_plan_b173 {Ls : Nat} {xs : Nat → Int32} {d : Nat} {x3 : Int32} {x4 : Int32} {x6 : Int32} {h : zK} {r : zA} {t : Int32} (K : ∀ (z1 : Option Value) (z2 : Option Value) (z7 : Option Value), zEv (zXs Ls xs) (d + 3) zm_213 (206, [some (.ref 215), z1, z2, some (.int x3), some (.int x4), some (.int t), some (.int x6), z7], [], zhp h) r) (n : Nat) (s : Int32) (H : zloop (qM_plan_b173 x3 x4 x6 h) n s = some t) (y1 : Option Value) (y2 : Option Value) (y7 : Option Value) : zEv (zXs Ls xs) (d + 3) zm_213 (173, [some (.ref 215), y1, y2, some (.int x3), some (.int x4), some (.int s), some (.int x6), y7], [], zhp h) r := by
  have Z := zloop_P (P := fun s => ∀ (y1 : Option Value) (y2 : Option Value) (y7 : Option Value), zEv (zXs Ls xs) (d + 3) zm_213 (173, [some (.ref 215), y1, y2, some (.int x3), some (.int x4), some (.int s), some (.int x6), y7], [], zhp h) r) (b := qM_plan_b173 x3 x4 x6 h) (t := t) (fun s s2 hb hk => by intro y1 y2 y7; exact t_qM_plan_b173b hb hk y1 y2 y7) (fun s hb => by intro y1 y2 y7; exact t_qM_plan_b173b hb K y1 y2 y7) n s H
  exact Z y1 y2 y7
def qM_plan_b164 (x3 : Int32) (h : zK) (s : Int32 × Int32 × Int32) : Option ((Int32 × Int32 × Int32) ⊕ (Int32)) :=
  if x3 < s.2.2 then
    some (.inr s.2.1)
  else
    (zloop (qM_plan_b173 x3 s.1 s.2.2 h) zfu 0).bind fun t27 =>
    zlet (
        if 7 ≤ t27 then
          0
        else
          (1 : Int32) <<< (t27 &&& 31)
      ) fun (v30 : Int32) =>
    some (.inl (s.1 ||| v30, t27, s.2.2 + 1))
theorem t_qM_plan_b164b {Ls : Nat} {xs : Nat → Int32} {d : Nat} {x3 : Int32} {h : zK} {r : zA} {s : Int32 × Int32 × Int32} {e : (Int32 × Int32 × Int32) ⊕ (Int32)} (H : qM_plan_b164 x3 h s = some e) (K : match (generalizing := false) e with | .inl s' => ∀ (z1 : Option Value) (z2 : Option Value) (z7 : Option Value), zEv (zXs Ls xs) (d + 3) zm_213 (164, [some (.ref 215), z1, z2, some (.int x3), some (.int s'.1), some (.int s'.2.1), some (.int s'.2.2), z7], [], zhp h) r | .inr v => ∀ (z1 : Option Value) (z2 : Option Value) (z4 : Option Value) (z6 : Option Value) (z7 : Option Value), zEv (zXs Ls xs) (d + 3) zm_213 (232, [some (.ref 215), z1, z2, some (.int x3), z4, some (.int v), z6, z7], [], zhp h) r) (y1 : Option Value) (y2 : Option Value) (y7 : Option Value) : zEv (zXs Ls xs) (d + 3) zm_213 (164, [some (.ref 215), y1, y2, some (.int x3), some (.int s.1), some (.int s.2.1), some (.int s.2.2), y7], [], zhp h) r := by
  unfold qM_plan_b164 at H
  refine zEv_k 3 (f' := (if x3 < s.2.2 then 232 else 170, [some (.ref 215), y1, y2, some (.int x3), some (.int s.1), some (.int s.2.1), some (.int s.2.2), y7], [], zhp h)) rfl (zEv_if (fun c23 => ?_) (fun c23 => ?_))
  · replace H := zif_t c23 H
    cases H
    exact K _ _ _ _ _
  · replace H := zif_f c23 H
    refine zEv_k 2 (f' := (173, [some (.ref 215), y1, y2, some (.int x3), some (.int s.1), some (.int 0), some (.int s.2.2), y7], [], zhp h)) rfl ?_
    obtain ⟨t27, ht27, H⟩ := zbs H
    refine t_qM_plan_b173 (x3 := x3) (x4 := s.1) (x6 := s.2.2) (h := h) ?_ zfu _ ht27 _ _ _
    intro y1 y2 y7
    obtain ⟨v30, hv30, H⟩ := zlets H
    have kv30 : zEv (zXs Ls xs) (d + 3) zm_213 (223, [some (.ref 215), y1, y2, some (.int x3), some (.int s.1), some (.int t27), some (.int s.2.2), y7], [.int v30, .int s.1], zhp h) r := by
      refine zEv_k 4 (f' := (164, [some (.ref 215), y1, y2, some (.int x3), some (.int (s.1 ||| v30)), some (.int t27), some (.int (s.2.2 + 1)), y7], [], zhp h)) rfl ?_
      cases H
      exact K _ _ _
    clear H
    refine zEv_k 4 (f' := (if 7 ≤ t27 then 222 else 215, [some (.ref 215), y1, y2, some (.int x3), some (.int s.1), some (.int t27), some (.int s.2.2), y7], [.int s.1], zhp h)) rfl (zEv_if (fun c29 => ?_) (fun c29 => ?_))
    · replace hv30 := zif_t c29 hv30
      refine zEv_k 1 (f' := (223, [some (.ref 215), y1, y2, some (.int x3), some (.int s.1), some (.int t27), some (.int s.2.2), y7], [.int 0, .int s.1], zhp h)) rfl ?_
      cases hv30
      exact kv30
    · replace hv30 := zif_f c29 hv30
      refine zEv_k 4 (f' := (223, [some (.ref 215), y1, y2, some (.int x3), some (.int s.1), some (.int t27), some (.int s.2.2), y7], [.int ((1 : Int32) <<< (t27 &&& 31)), .int s.1], zhp h)) rfl ?_
      cases hv30
      exact kv30
theorem t_qM_plan_b164 {Ls : Nat} {xs : Nat → Int32} {d : Nat} {x3 : Int32} {h : zK} {r : zA} {t : Int32} (K : ∀ (z1 : Option Value) (z2 : Option Value) (z4 : Option Value) (z6 : Option Value) (z7 : Option Value), zEv (zXs Ls xs) (d + 3) zm_213 (232, [some (.ref 215), z1, z2, some (.int x3), z4, some (.int t), z6, z7], [], zhp h) r) (n : Nat) (s : Int32 × Int32 × Int32) (H : zloop (qM_plan_b164 x3 h) n s = some t) (y1 : Option Value) (y2 : Option Value) (y7 : Option Value) : zEv (zXs Ls xs) (d + 3) zm_213 (164, [some (.ref 215), y1, y2, some (.int x3), some (.int s.1), some (.int s.2.1), some (.int s.2.2), y7], [], zhp h) r := by
  have Z := zloop_P (P := fun s => ∀ (y1 : Option Value) (y2 : Option Value) (y7 : Option Value), zEv (zXs Ls xs) (d + 3) zm_213 (164, [some (.ref 215), y1, y2, some (.int x3), some (.int s.1), some (.int s.2.1), some (.int s.2.2), y7], [], zhp h) r) (b := qM_plan_b164 x3 h) (t := t) (fun s s2 hb hk => by intro y1 y2 y7; exact t_qM_plan_b164b hb hk y1 y2 y7) (fun s hb => by intro y1 y2 y7; exact t_qM_plan_b164b hb K y1 y2 y7) n s H
  exact Z y1 y2 y7
def qM_plan (x1 : Int32) (x2 : Int32) (x3 : Int32) (h : zK) : Option (Int32 × zK) :=
  zlet (sI h 215 0 0) fun h1 =>
  if (zf_in x2 0 10) = 0 then
    some (-1, h1)
  else
    (qM_hand x1 h1).bind fun p3 =>
    if p3.1 = 0 then
      some (-1, p3.2)
    else
      if ¬ (zf_in x3 (-1) (x2 - 1)) = 0 then
        (zloop (qM_plan_b39 x2 x3) zfu (0, p3.2)).bind fun t9 =>
        (zloop (qM_plan_b72 x3) zfu (x2 - 1, t9)).bind fun t21 =>
        (zloop (qM_plan_b164 x3 t21) zfu (0, 7, 0)).bind fun t31 =>
        if ¬ x3 = (-1) then
          some (t31, t21)
        else
          some (gI t21 231 0, t21)
      else
        some (-1, p3.2)
theorem t_qM_plan {Ls : Nat} {xs : Nat → Int32} {d : Nat} {x1 : Int32} {x2 : Int32} {x3 : Int32} {h : zK} {p : Int32 × zK} (H : qM_plan x1 x2 x3 h = some p) : zEv (zXs Ls xs) (d + 3) zm_213 (0, [some (.ref 215), some (.int x1), some (.int x2), some (.int x3), none, none, none, none], [], zhp h) (some (.int p.1), zhp p.2) := by
  unfold qM_plan at H
  obtain ⟨h1, eh1, H⟩ := zlets H
  refine zEv_w (F := fun z => (5, [some (.ref 215), some (.int x1), some (.int x2), some (.int x3), none, none, none, none], [], zhp z)) (h0 := sI h 215 0 0) 3 rfl eh1 ?_
  refine zEv_k 3 (f' := (9, [some (.ref 215), some (.int x1), some (.int x2), some (.int x3), none, none, none, none], [.int 10, .int 0, .int x2], zhp h1)) rfl ?_
  refine zEv_c (fun _ => rfl) rfl ev_zf_in rfl rfl ?_
  refine zEv_k 1 (f' := (if (zf_in x2 0 10) = 0 then 34 else 15, [some (.ref 215), some (.int x1), some (.int x2), some (.int x3), none, none, none, none], [], zhp h1)) rfl (zEv_if (fun c2 => ?_) (fun c2 => ?_))
  · replace H := zif_t c2 H
    refine zEv_k 1 (f' := (35, [some (.ref 215), some (.int x1), some (.int x2), some (.int x3), none, none, none, none], [.int (-1)], zhp h1)) rfl ?_
    cases H
    exact zEv_r rfl
  · replace H := zif_f c2 H
    refine zEv_k 2 (f' := (17, [some (.ref 215), some (.int x1), some (.int x2), some (.int x3), none, none, none, none], [.int x1, .ref 215], zhp h1)) rfl ?_
    obtain ⟨p3, hp3, H⟩ := zbs H
    refine zEv_c (fun _ => rfl) rfl (t_qM_hand (x1 := x1) (h := h1) (d := d) hp3) rfl rfl ?_
    refine zEv_k 1 (f' := (if p3.1 = 0 then 34 else 23, [some (.ref 215), some (.int x1), some (.int x2), some (.int x3), none, none, none, none], [], zhp p3.2)) rfl (zEv_if (fun c4 => ?_) (fun c4 => ?_))
    · replace H := zif_t c4 H
      refine zEv_k 1 (f' := (35, [some (.ref 215), some (.int x1), some (.int x2), some (.int x3), none, none, none, none], [.int (-1)], zhp p3.2)) rfl ?_
      cases H
      exact zEv_r rfl
    · replace H := zif_f c4 H
      refine zEv_k 5 (f' := (28, [some (.ref 215), some (.int x1), some (.int x2), some (.int x3), none, none, none, none], [.int (x2 - 1), .int (-1), .int x3], zhp p3.2)) rfl ?_
      refine zEv_c (fun _ => rfl) rfl ev_zf_in rfl rfl ?_
      refine zEv_k 1 (f' := (if ¬ (zf_in x3 (-1) (x2 - 1)) = 0 then 36 else 34, [some (.ref 215), some (.int x1), some (.int x2), some (.int x3), none, none, none, none], [], zhp p3.2)) rfl (zEv_if (fun c5 => ?_) (fun c5 => ?_))
      · replace H := zif_t c5 H
        refine zEv_k 2 (f' := (39, [some (.ref 215), some (.int x1), some (.int x2), some (.int x3), some (.int 0), none, none, none], [], zhp p3.2)) rfl ?_
        obtain ⟨t9, ht9, H⟩ := zbs H
        refine t_qM_plan_b39 (x2 := x2) (x3 := x3) ?_ zfu _ ht9 _
        intro y1 y4
        refine zEv_k 4 (f' := (72, [some (.ref 215), y1, some (.int x2), some (.int x3), some (.int (x2 - 1)), none, none, none], [], zhp t9)) rfl ?_
        obtain ⟨t21, ht21, H⟩ := zbs H
        refine t_qM_plan_b72 (x3 := x3) ?_ zfu _ ht21 _ _ _ _ _
        intro y1 y2 y4 y5 y6 y7
        refine zEv_k 6 (f' := (164, [some (.ref 215), y1, y2, some (.int x3), some (.int 0), some (.int 7), some (.int 0), y7], [], zhp t21)) rfl ?_
        obtain ⟨t31, ht31, H⟩ := zbs H
        refine t_qM_plan_b164 (x3 := x3) (h := t21) ?_ zfu _ ht31 _ _ _
        intro y1 y2 y4 y6 y7
        refine zEv_k 3 (f' := (if ¬ x3 = (-1) then 246 else 237, [some (.ref 215), y1, y2, some (.int x3), y4, some (.int t31), y6, y7], [], zhp t21)) rfl (zEv_if (fun c33 => ?_) (fun c33 => ?_))
        · replace H := zif_t c33 H
          refine zEv_k 1 (f' := (248, [some (.ref 215), y1, y2, some (.int x3), y4, some (.int t31), y6, y7], [.int t31], zhp t21)) rfl ?_
          cases H
          exact zEv_r rfl
        · replace H := zif_f c33 H
          refine zEv_k 1 (f' := (238, [some (.ref 215), y1, y2, some (.int x3), y4, some (.int t31), y6, y7], [.ref 215], zhp t21)) rfl ?_
          refine zRgr rfl rfl rfl (by decide) (b := 231) rfl ?_
          refine zEv_k 1 (f' := (242, [some (.ref 215), y1, y2, some (.int x3), y4, some (.int t31), y6, y7], [.int 0, .ref 231], zhp t21)) rfl ?_
          refine zRia (j := 0) rfl rfl (by decide) (by decide) ?_
          refine zEv_k 1 (f' := (248, [some (.ref 215), y1, y2, some (.int x3), y4, some (.int t31), y6, y7], [.int (gI t21 231 0)], zhp t21)) rfl ?_
          cases H
          exact zEv_r rfl
      · replace H := zif_f c5 H
        refine zEv_k 1 (f' := (35, [some (.ref 215), some (.int x1), some (.int x2), some (.int x3), none, none, none, none], [.int (-1)], zhp p3.2)) rfl ?_
        cases H
        exact zEv_r rfl
def qM_answers (x1 : Int32) (x2 : Int32) (h : zK) : Option (Int32) :=
  if 7 ≤ x2 then
    some 0
  else
    (qM_of (45 + x1) h).bind fun p2 =>
    if (zf_has p2 x2) = 0 then
      some 0
    else
      some 1
theorem t_qM_answers {Ls : Nat} {xs : Nat → Int32} {d : Nat} {x1 : Int32} {x2 : Int32} {h : zK} {p : Int32} (H : qM_answers x1 x2 h = some p) : zEv (zXs Ls xs) (d + 1) zm_214 (0, [some (.ref 215), some (.int x1), some (.int x2)], [], zhp h) (some (.int p), zhp h) := by
  unfold qM_answers at H
  refine zEv_k 3 (f' := (if 7 ≤ x2 then 25 else 6, [some (.ref 215), some (.int x1), some (.int x2)], [], zhp h)) rfl (zEv_if (fun c1 => ?_) (fun c1 => ?_))
  · replace H := zif_t c1 H
    refine zEv_k 1 (f' := (26, [some (.ref 215), some (.int x1), some (.int x2)], [.int 0], zhp h)) rfl ?_
    cases H
    exact zEv_r rfl
  · replace H := zif_f c1 H
    refine zEv_k 4 (f' := (11, [some (.ref 215), some (.int x1), some (.int x2)], [.int (45 + x1), .ref 215], zhp h)) rfl ?_
    obtain ⟨p2, hp2, H⟩ := zbs H
    refine zEv_c (fun _ => rfl) rfl (t_qM_of (x1 := 45 + x1) (h := h) (d := d) hp2) rfl rfl ?_
    refine zEv_k 1 (f' := (15, [some (.ref 215), some (.int x1), some (.int x2)], [.int x2, .int p2], zhp h)) rfl ?_
    refine zEv_c (fun _ => rfl) rfl ev_zf_has rfl rfl ?_
    refine zEv_k 1 (f' := (if (zf_has p2 x2) = 0 then 25 else 21, [some (.ref 215), some (.int x1), some (.int x2)], [], zhp h)) rfl (zEv_if (fun c3 => ?_) (fun c3 => ?_))
    · replace H := zif_t c3 H
      refine zEv_k 1 (f' := (26, [some (.ref 215), some (.int x1), some (.int x2)], [.int 0], zhp h)) rfl ?_
      cases H
      exact zEv_r rfl
    · replace H := zif_f c3 H
      refine zEv_k 2 (f' := (26, [some (.ref 215), some (.int x1), some (.int x2)], [.int 1], zhp h)) rfl ?_
      cases H
      exact zEv_r rfl
def qM_talkBy_j27 (x1 : Int32) (x3 : Int32) (h : zK) : Option (Int32) :=
  (zix ((128 * x3) + (x1 ||| ((1 : Int32) <<< (x3 &&& 31)))) 1024).bind fun j3 =>
  some (1 + (gI h 232 j3))
theorem t_qM_talkBy_j27 {Ls : Nat} {xs : Nat → Int32} {d : Nat} {x1 : Int32} {x3 : Int32} {h : zK} {p : Int32} (H : qM_talkBy_j27 x1 x3 h = some p)  (y2 : Option Value) : zEv (zXs Ls xs) (d + 2) zm_215 (27, [some (.ref 215), some (.int x1), y2, some (.int x3)], [], zhp h) (some (.int p), zhp h) := by
  unfold qM_talkBy_j27 at H
  refine zEv_k 2 (f' := (29, [some (.ref 215), some (.int x1), y2, some (.int x3)], [.ref 215, .int 1], zhp h)) rfl ?_
  refine zRgr rfl rfl rfl (by decide) (b := 232) rfl ?_
  refine zEv_k 9 (f' := (43, [some (.ref 215), some (.int x1), y2, some (.int x3)], [.int ((128 * x3) + (x1 ||| ((1 : Int32) <<< (x3 &&& 31)))), .ref 232, .int 1], zhp h)) rfl ?_
  obtain ⟨j3, hj3, H⟩ := zbs H
  refine zRia rfl rfl (by decide) hj3 ?_
  refine zEv_k 1 (f' := (45, [some (.ref 215), some (.int x1), y2, some (.int x3)], [.int (1 + (gI h 232 j3))], zhp h)) rfl ?_
  cases H
  exact zEv_r rfl
def qM_talkBy (x1 : Int32) (x2 : Int32) (x3 : Int32) (h : zK) : Option (Int32) :=
  if ¬ (zf_has x1 x3) = 0 then
    some 0
  else
    if 7 ≤ x2 then
      qM_talkBy_j27 x1 x3 h
    else
      (qM_answers x3 x2 h).bind fun p4 =>
      if ¬ p4 = 0 then
        qM_talkBy_j27 x1 x3 h
      else
        some 0
theorem t_qM_talkBy {Ls : Nat} {xs : Nat → Int32} {d : Nat} {x1 : Int32} {x2 : Int32} {x3 : Int32} {h : zK} {p : Int32} (H : qM_talkBy x1 x2 x3 h = some p) : zEv (zXs Ls xs) (d + 2) zm_215 (0, [some (.ref 215), some (.int x1), some (.int x2), some (.int x3)], [], zhp h) (some (.int p), zhp h) := by
  unfold qM_talkBy at H
  refine zEv_k 2 (f' := (2, [some (.ref 215), some (.int x1), some (.int x2), some (.int x3)], [.int x3, .int x1], zhp h)) rfl ?_
  refine zEv_c (fun _ => rfl) rfl ev_zf_has rfl rfl ?_
  refine zEv_k 1 (f' := (if ¬ (zf_has x1 x3) = 0 then 23 else 8, [some (.ref 215), some (.int x1), some (.int x2), some (.int x3)], [], zhp h)) rfl (zEv_if (fun c1 => ?_) (fun c1 => ?_))
  · replace H := zif_t c1 H
    refine zEv_k 2 (f' := (45, [some (.ref 215), some (.int x1), some (.int x2), some (.int x3)], [.int 0], zhp h)) rfl ?_
    cases H
    exact zEv_r rfl
  · replace H := zif_f c1 H
    refine zEv_k 3 (f' := (if 7 ≤ x2 then 27 else 14, [some (.ref 215), some (.int x1), some (.int x2), some (.int x3)], [], zhp h)) rfl (zEv_if (fun c2 => ?_) (fun c2 => ?_))
    · replace H := zif_t c2 H
      exact t_qM_talkBy_j27 (x1 := x1) (x3 := x3) (h := h) H _
    · replace H := zif_f c2 H
      refine zEv_k 3 (f' := (17, [some (.ref 215), some (.int x1), some (.int x2), some (.int x3)], [.int x2, .int x3, .ref 215], zhp h)) rfl ?_
      obtain ⟨p4, hp4, H⟩ := zbs H
      refine zEv_c (fun _ => rfl) rfl (t_qM_answers (x1 := x3) (x2 := x2) (h := h) (d := d) hp4) rfl rfl ?_
      refine zEv_k 1 (f' := (if ¬ p4 = 0 then 27 else 23, [some (.ref 215), some (.int x1), some (.int x2), some (.int x3)], [], zhp h)) rfl (zEv_if (fun c5 => ?_) (fun c5 => ?_))
      · replace H := zif_t c5 H
        exact t_qM_talkBy_j27 (x1 := x1) (x3 := x3) (h := h) H _
      · replace H := zif_f c5 H
        refine zEv_k 2 (f' := (45, [some (.ref 215), some (.int x1), some (.int x2), some (.int x3)], [.int 0], zhp h)) rfl ?_
        cases H
        exact zEv_r rfl
def qM_talk_b44 (x2 : Int32) (x3 : Int32) (x4 : Int32) (h : zK) (s : Int32 × Int32) : Option ((Int32 × Int32) ⊕ (Int32)) :=
  if (gI h 215 23) ≤ s.2 then
    some (.inr s.1)
  else
    (qM_talkBy x3 x4 s.2 h).bind fun p7 =>
    some (.inl (zf_greater s.1 p7, s.2 + 1))
theorem t_qM_talk_b44b {Ls : Nat} {xs : Nat → Int32} {d : Nat} {x2 : Int32} {x3 : Int32} {x4 : Int32} {h : zK} {r : zA} {s : Int32 × Int32} {e : (Int32 × Int32) ⊕ (Int32)} (H : qM_talk_b44 x2 x3 x4 h s = some e) (K : match (generalizing := false) e with | .inl s' => ∀ (z1 : Option Value), zEv (zXs Ls xs) (d + 3) zm_216 (44, [some (.ref 215), z1, some (.int x2), some (.int x3), some (.int x4), some (.int s'.1), some (.int s'.2), none], [], zhp h) r | .inr v => ∀ (z1 : Option Value) (z6 : Option Value), zEv (zXs Ls xs) (d + 3) zm_216 (75, [some (.ref 215), z1, some (.int x2), some (.int x3), some (.int x4), some (.int v), z6, none], [], zhp h) r) (y1 : Option Value) : zEv (zXs Ls xs) (d + 3) zm_216 (44, [some (.ref 215), y1, some (.int x2), some (.int x3), some (.int x4), some (.int s.1), some (.int s.2), none], [], zhp h) r := by
  unfold qM_talk_b44 at H
  refine zEv_k 4 (f' := (if (gI h 215 23) ≤ s.2 then 75 else 53, [some (.ref 215), y1, some (.int x2), some (.int x3), some (.int x4), some (.int s.1), some (.int s.2), none], [], zhp h)) rfl (zEv_if (fun c6 => ?_) (fun c6 => ?_))
  · replace H := zif_t c6 H
    cases H
    exact K _ _
  · replace H := zif_f c6 H
    refine zEv_k 5 (f' := (61, [some (.ref 215), y1, some (.int x2), some (.int x3), some (.int x4), some (.int s.1), some (.int s.2), none], [.int s.2, .int x4, .int x3, .ref 215, .int s.1], zhp h)) rfl ?_
    obtain ⟨p7, hp7, H⟩ := zbs H
    refine zEv_c (fun _ => rfl) rfl (t_qM_talkBy (x1 := x3) (x2 := x4) (x3 := s.2) (h := h) (d := d) hp7) rfl rfl ?_
    refine zEv_c (fun _ => rfl) rfl ev_zf_greater rfl rfl ?_
    refine zEv_k 3 (f' := (44, [some (.ref 215), y1, some (.int x2), some (.int x3), some (.int x4), some (.int (zf_greater s.1 p7)), some (.int (s.2 + 1)), none], [], zhp h)) rfl ?_
    cases H
    exact K _
theorem t_qM_talk_b44 {Ls : Nat} {xs : Nat → Int32} {d : Nat} {x2 : Int32} {x3 : Int32} {x4 : Int32} {h : zK} {r : zA} {t : Int32} (K : ∀ (z1 : Option Value) (z6 : Option Value), zEv (zXs Ls xs) (d + 3) zm_216 (75, [some (.ref 215), z1, some (.int x2), some (.int x3), some (.int x4), some (.int t), z6, none], [], zhp h) r) (n : Nat) (s : Int32 × Int32) (H : zloop (qM_talk_b44 x2 x3 x4 h) n s = some t) (y1 : Option Value) : zEv (zXs Ls xs) (d + 3) zm_216 (44, [some (.ref 215), y1, some (.int x2), some (.int x3), some (.int x4), some (.int s.1), some (.int s.2), none], [], zhp h) r := by
  have Z := zloop_P (P := fun s => ∀ (y1 : Option Value), zEv (zXs Ls xs) (d + 3) zm_216 (44, [some (.ref 215), y1, some (.int x2), some (.int x3), some (.int x4), some (.int s.1), some (.int s.2), none], [], zhp h) r) (b := qM_talk_b44 x2 x3 x4 h) (t := t) (fun s s2 hb hk => by intro y1; exact t_qM_talk_b44b hb hk y1) (fun s hb => by intro y1; exact t_qM_talk_b44b hb K y1) n s H
  exact Z y1
def qM_talk_b31 (x2 : Int32) (x3 : Int32) (s : Int32 × zK) : Option ((Int32 × zK) ⊕ (zK)) :=
  if 7 < s.1 then
    some (.inr s.2)
  else
    (zloop (qM_talk_b44 x2 x3 s.1 s.2) zfu (0, 0)).bind fun t8 =>
    (zix ((128 * s.1) + x3) 1024).bind fun j10 =>
    zlet (sI s.2 232 j10 t8) fun h11 =>
    some (.inl (s.1 + 1, h11))
theorem t_qM_talk_b31b {Ls : Nat} {xs : Nat → Int32} {d : Nat} {x2 : Int32} {x3 : Int32} {r : zA} {s : Int32 × zK} {e : (Int32 × zK) ⊕ (zK)} (H : qM_talk_b31 x2 x3 s = some e) (K : match (generalizing := false) e with | .inl s' => ∀ (z1 : Option Value) (z5 : Option Value) (z6 : Option Value), zEv (zXs Ls xs) (d + 3) zm_216 (31, [some (.ref 215), z1, some (.int x2), some (.int x3), some (.int s'.1), z5, z6, none], [], zhp s'.2) r | .inr v => ∀ (z1 : Option Value) (z4 : Option Value) (z5 : Option Value) (z6 : Option Value), zEv (zXs Ls xs) (d + 3) zm_216 (96, [some (.ref 215), z1, some (.int x2), some (.int x3), z4, z5, z6, none], [], zhp v) r) (y1 : Option Value) (y5 : Option Value) (y6 : Option Value) : zEv (zXs Ls xs) (d + 3) zm_216 (31, [some (.ref 215), y1, some (.int x2), some (.int x3), some (.int s.1), y5, y6, none], [], zhp s.2) r := by
  unfold qM_talk_b31 at H
  refine zEv_k 3 (f' := (if 7 < s.1 then 96 else 38, [some (.ref 215), y1, some (.int x2), some (.int x3), some (.int s.1), y5, y6, none], [], zhp s.2)) rfl (zEv_if (fun c5 => ?_) (fun c5 => ?_))
  · replace H := zif_t c5 H
    cases H
    exact K _ _ _ _
  · replace H := zif_f c5 H
    refine zEv_k 4 (f' := (44, [some (.ref 215), y1, some (.int x2), some (.int x3), some (.int s.1), some (.int 0), some (.int 0), none], [], zhp s.2)) rfl ?_
    obtain ⟨t8, ht8, H⟩ := zbs H
    refine t_qM_talk_b44 (x2 := x2) (x3 := x3) (x4 := s.1) (h := s.2) ?_ zfu _ ht8 _
    intro y1 y6
    refine zEv_k 1 (f' := (76, [some (.ref 215), y1, some (.int x2), some (.int x3), some (.int s.1), some (.int t8), y6, none], [.ref 215], zhp s.2)) rfl ?_
    refine zRgr rfl rfl rfl (by decide) (b := 232) rfl ?_
    refine zEv_k 6 (f' := (89, [some (.ref 215), y1, some (.int x2), some (.int x3), some (.int s.1), some (.int t8), y6, none], [.int t8, .int ((128 * s.1) + x3), .ref 232], zhp s.2)) rfl ?_
    obtain ⟨j10, hj10, H⟩ := zbs H
    obtain ⟨h11, eh11, H⟩ := zlets H
    refine zRis rfl rfl (by decide) hj10 eh11 ?_
    refine zEv_k 2 (f' := (31, [some (.ref 215), y1, some (.int x2), some (.int x3), some (.int (s.1 + 1)), some (.int t8), y6, none], [], zhp h11)) rfl ?_
    cases H
    exact K _ _ _
theorem t_qM_talk_b31 {Ls : Nat} {xs : Nat → Int32} {d : Nat} {x2 : Int32} {x3 : Int32} {r : zA} {t : zK} (K : ∀ (z1 : Option Value) (z4 : Option Value) (z5 : Option Value) (z6 : Option Value), zEv (zXs Ls xs) (d + 3) zm_216 (96, [some (.ref 215), z1, some (.int x2), some (.int x3), z4, z5, z6, none], [], zhp t) r) (n : Nat) (s : Int32 × zK) (H : zloop (qM_talk_b31 x2 x3) n s = some t) (y1 : Option Value) (y5 : Option Value) (y6 : Option Value) : zEv (zXs Ls xs) (d + 3) zm_216 (31, [some (.ref 215), y1, some (.int x2), some (.int x3), some (.int s.1), y5, y6, none], [], zhp s.2) r := by
  have Z := zloop_P (P := fun s => ∀ (y1 : Option Value) (y5 : Option Value) (y6 : Option Value), zEv (zXs Ls xs) (d + 3) zm_216 (31, [some (.ref 215), y1, some (.int x2), some (.int x3), some (.int s.1), y5, y6, none], [], zhp s.2) r) (b := qM_talk_b31 x2 x3) (t := t) (fun s s2 hb hk => by intro y1 y5 y6; exact t_qM_talk_b31b hb hk y1 y5 y6) (fun s hb => by intro y1 y5 y6; exact t_qM_talk_b31b hb K y1 y5 y6) n s H
  exact Z y1 y5 y6
def qM_talk_b24 (x2 : Int32) (s : Int32 × zK) : Option ((Int32 × zK) ⊕ (zK)) :=
  if s.1 < 0 then
    some (.inr s.2)
  else
    (zloop (qM_talk_b31 x2 s.1) zfu (0, s.2)).bind fun t12 =>
    some (.inl (s.1 + (-1), t12))
theorem t_qM_talk_b24b {Ls : Nat} {xs : Nat → Int32} {d : Nat} {x2 : Int32} {r : zA} {s : Int32 × zK} {e : (Int32 × zK) ⊕ (zK)} (H : qM_talk_b24 x2 s = some e) (K : match (generalizing := false) e with | .inl s' => ∀ (z1 : Option Value) (z4 : Option Value) (z5 : Option Value) (z6 : Option Value), zEv (zXs Ls xs) (d + 3) zm_216 (24, [some (.ref 215), z1, some (.int x2), some (.int s'.1), z4, z5, z6, none], [], zhp s'.2) r | .inr v => ∀ (z1 : Option Value) (z3 : Option Value) (z4 : Option Value) (z5 : Option Value) (z6 : Option Value), zEv (zXs Ls xs) (d + 3) zm_216 (102, [some (.ref 215), z1, some (.int x2), z3, z4, z5, z6, none], [], zhp v) r) (y1 : Option Value) (y4 : Option Value) (y5 : Option Value) (y6 : Option Value) : zEv (zXs Ls xs) (d + 3) zm_216 (24, [some (.ref 215), y1, some (.int x2), some (.int s.1), y4, y5, y6, none], [], zhp s.2) r := by
  unfold qM_talk_b24 at H
  refine zEv_k 2 (f' := (if s.1 < 0 then 102 else 28, [some (.ref 215), y1, some (.int x2), some (.int s.1), y4, y5, y6, none], [], zhp s.2)) rfl (zEv_if (fun c4 => ?_) (fun c4 => ?_))
  · replace H := zif_t c4 H
    cases H
    exact K _ _ _ _ _
  · replace H := zif_f c4 H
    refine zEv_k 2 (f' := (31, [some (.ref 215), y1, some (.int x2), some (.int s.1), some (.int 0), y5, y6, none], [], zhp s.2)) rfl ?_
    obtain ⟨t12, ht12, H⟩ := zbs H
    refine t_qM_talk_b31 (x2 := x2) (x3 := s.1) ?_ zfu _ ht12 _ _ _
    intro y1 y4 y5 y6
    refine zEv_k 2 (f' := (24, [some (.ref 215), y1, some (.int x2), some (.int (s.1 + (-1))), y4, y5, y6, none], [], zhp t12)) rfl ?_
    cases H
    exact K _ _ _ _
theorem t_qM_talk_b24 {Ls : Nat} {xs : Nat → Int32} {d : Nat} {x2 : Int32} {r : zA} {t : zK} (K : ∀ (z1 : Option Value) (z3 : Option Value) (z4 : Option Value) (z5 : Option Value) (z6 : Option Value), zEv (zXs Ls xs) (d + 3) zm_216 (102, [some (.ref 215), z1, some (.int x2), z3, z4, z5, z6, none], [], zhp t) r) (n : Nat) (s : Int32 × zK) (H : zloop (qM_talk_b24 x2) n s = some t) (y1 : Option Value) (y4 : Option Value) (y5 : Option Value) (y6 : Option Value) : zEv (zXs Ls xs) (d + 3) zm_216 (24, [some (.ref 215), y1, some (.int x2), some (.int s.1), y4, y5, y6, none], [], zhp s.2) r := by
  have Z := zloop_P (P := fun s => ∀ (y1 : Option Value) (y4 : Option Value) (y5 : Option Value) (y6 : Option Value), zEv (zXs Ls xs) (d + 3) zm_216 (24, [some (.ref 215), y1, some (.int x2), some (.int s.1), y4, y5, y6, none], [], zhp s.2) r) (b := qM_talk_b24 x2) (t := t) (fun s s2 hb hk => by intro y1 y4 y5 y6; exact t_qM_talk_b24b hb hk y1 y4 y5 y6) (fun s hb => by intro y1 y4 y5 y6; exact t_qM_talk_b24b hb K y1 y4 y5 y6) n s H
  exact Z y1 y4 y5 y6
def qM_talk_j127 (x2 : Int32) (x3 : Int32) (h : zK) : Option (Int32 × zK) :=
  if ¬ x2 = (-1) then
    some (-1, h)
  else
    some (x3, h)
theorem t_qM_talk_j127 {Ls : Nat} {xs : Nat → Int32} {d : Nat} {x2 : Int32} {x3 : Int32} {h : zK} {p : Int32 × zK} (H : qM_talk_j127 x2 x3 h = some p)  (y1 : Option Value) (y4 : Option Value) (y5 : Option Value) (y6 : Option Value) (y7 : Option Value) : zEv (zXs Ls xs) (d + 3) zm_216 (127, [some (.ref 215), y1, some (.int x2), some (.int x3), y4, y5, y6, y7], [], zhp h) (some (.int p.1), zhp p.2) := by
  unfold qM_talk_j127 at H
  refine zEv_k 3 (f' := (if ¬ x2 = (-1) then 136 else 132, [some (.ref 215), y1, some (.int x2), some (.int x3), y4, y5, y6, y7], [], zhp h)) rfl (zEv_if (fun c17 => ?_) (fun c17 => ?_))
  · replace H := zif_t c17 H
    refine zEv_k 1 (f' := (137, [some (.ref 215), y1, some (.int x2), some (.int x3), y4, y5, y6, y7], [.int (-1)], zhp h)) rfl ?_
    cases H
    exact zEv_r rfl
  · replace H := zif_f c17 H
    refine zEv_k 2 (f' := (137, [some (.ref 215), y1, some (.int x2), some (.int x3), y4, y5, y6, y7], [.int x3], zhp h)) rfl ?_
    cases H
    exact zEv_r rfl
def qM_talk_b157 (x2 : Int32) (x4 : Int32) (x5 : Int32) (x6 : Int32) (h : zK) (s : Int32) : Option ((Int32) ⊕ (Int32)) :=
  (qM_talkBy x4 x5 s h).bind fun p20 =>
  (zix ((128 * x5) + x4) 1024).bind fun j21 =>
  if p20 = (gI h 232 j21) then
    some (.inr s)
  else
    some (.inl (s + 1))
theorem t_qM_talk_b157b {Ls : Nat} {xs : Nat → Int32} {d : Nat} {x2 : Int32} {x4 : Int32} {x5 : Int32} {x6 : Int32} {h : zK} {r : zA} {s : Int32} {e : (Int32) ⊕ (Int32)} (H : qM_talk_b157 x2 x4 x5 x6 h s = some e) (K : match (generalizing := false) e with | .inl s' => ∀ (z1 : Option Value) (z3 : Option Value), zEv (zXs Ls xs) (d + 3) zm_216 (157, [some (.ref 215), z1, some (.int x2), z3, some (.int x4), some (.int x5), some (.int x6), some (.int s')], [], zhp h) r | .inr v => ∀ (z1 : Option Value) (z3 : Option Value), zEv (zXs Ls xs) (d + 3) zm_216 (190, [some (.ref 215), z1, some (.int x2), z3, some (.int x4), some (.int x5), some (.int x6), some (.int v)], [], zhp h) r) (y1 : Option Value) (y3 : Option Value) : zEv (zXs Ls xs) (d + 3) zm_216 (157, [some (.ref 215), y1, some (.int x2), y3, some (.int x4), some (.int x5), some (.int x6), some (.int s)], [], zhp h) r := by
  unfold qM_talk_b157 at H
  refine zEv_k 4 (f' := (164, [some (.ref 215), y1, some (.int x2), y3, some (.int x4), some (.int x5), some (.int x6), some (.int s)], [.int s, .int x5, .int x4, .ref 215], zhp h)) rfl ?_
  obtain ⟨p20, hp20, H⟩ := zbs H
  refine zEv_c (fun _ => rfl) rfl (t_qM_talkBy (x1 := x4) (x2 := x5) (x3 := s) (h := h) (d := d) hp20) rfl rfl ?_
  refine zEv_k 1 (f' := (168, [some (.ref 215), y1, some (.int x2), y3, some (.int x4), some (.int x5), some (.int x6), some (.int s)], [.ref 215, .int p20], zhp h)) rfl ?_
  refine zRgr rfl rfl rfl (by decide) (b := 232) rfl ?_
  refine zEv_k 5 (f' := (180, [some (.ref 215), y1, some (.int x2), y3, some (.int x4), some (.int x5), some (.int x6), some (.int s)], [.int ((128 * x5) + x4), .ref 232, .int p20], zhp h)) rfl ?_
  obtain ⟨j21, hj21, H⟩ := zbs H
  refine zRia rfl rfl (by decide) hj21 ?_
  refine zEv_k 1 (f' := (if p20 = (gI h 232 j21) then 190 else 184, [some (.ref 215), y1, some (.int x2), y3, some (.int x4), some (.int x5), some (.int x6), some (.int s)], [], zhp h)) rfl (zEv_if (fun c22 => ?_) (fun c22 => ?_))
  · replace H := zif_t c22 H
    cases H
    exact K _ _
  · replace H := zif_f c22 H
    refine zEv_k 2 (f' := (157, [some (.ref 215), y1, some (.int x2), y3, some (.int x4), some (.int x5), some (.int x6), some (.int (s + 1))], [], zhp h)) rfl ?_
    cases H
    exact K _ _
theorem t_qM_talk_b157 {Ls : Nat} {xs : Nat → Int32} {d : Nat} {x2 : Int32} {x4 : Int32} {x5 : Int32} {x6 : Int32} {h : zK} {r : zA} {t : Int32} (K : ∀ (z1 : Option Value) (z3 : Option Value), zEv (zXs Ls xs) (d + 3) zm_216 (190, [some (.ref 215), z1, some (.int x2), z3, some (.int x4), some (.int x5), some (.int x6), some (.int t)], [], zhp h) r) (n : Nat) (s : Int32) (H : zloop (qM_talk_b157 x2 x4 x5 x6 h) n s = some t) (y1 : Option Value) (y3 : Option Value) : zEv (zXs Ls xs) (d + 3) zm_216 (157, [some (.ref 215), y1, some (.int x2), y3, some (.int x4), some (.int x5), some (.int x6), some (.int s)], [], zhp h) r := by
  have Z := zloop_P (P := fun s => ∀ (y1 : Option Value) (y3 : Option Value), zEv (zXs Ls xs) (d + 3) zm_216 (157, [some (.ref 215), y1, some (.int x2), y3, some (.int x4), some (.int x5), some (.int x6), some (.int s)], [], zhp h) r) (b := qM_talk_b157 x2 x4 x5 x6 h) (t := t) (fun s s2 hb hk => by intro y1 y3; exact t_qM_talk_b157b hb hk y1 y3) (fun s hb => by intro y1 y3; exact t_qM_talk_b157b hb K y1 y3) n s H
  exact Z y1 y3
def qM_talk_b148 (x2 : Int32) (h : zK) (s : Int32 × Int32 × Int32) : Option ((Int32 × Int32 × Int32) ⊕ (Int32)) :=
  if x2 < s.2.2 then
    some (.inr s.2.1)
  else
    (zloop (qM_talk_b157 x2 s.1 s.2.1 s.2.2 h) zfu 0).bind fun t23 =>
    some (.inl (s.1 ||| ((1 : Int32) <<< (t23 &&& 31)), t23, s.2.2 + 1))
theorem t_qM_talk_b148b {Ls : Nat} {xs : Nat → Int32} {d : Nat} {x2 : Int32} {h : zK} {r : zA} {s : Int32 × Int32 × Int32} {e : (Int32 × Int32 × Int32) ⊕ (Int32)} (H : qM_talk_b148 x2 h s = some e) (K : match (generalizing := false) e with | .inl s' => ∀ (z1 : Option Value) (z3 : Option Value) (z7 : Option Value), zEv (zXs Ls xs) (d + 3) zm_216 (148, [some (.ref 215), z1, some (.int x2), z3, some (.int s'.1), some (.int s'.2.1), some (.int s'.2.2), z7], [], zhp h) r | .inr v => ∀ (z1 : Option Value) (z3 : Option Value) (z4 : Option Value) (z6 : Option Value) (z7 : Option Value), zEv (zXs Ls xs) (d + 3) zm_216 (209, [some (.ref 215), z1, some (.int x2), z3, z4, some (.int v), z6, z7], [], zhp h) r) (y1 : Option Value) (y3 : Option Value) (y7 : Option Value) : zEv (zXs Ls xs) (d + 3) zm_216 (148, [some (.ref 215), y1, some (.int x2), y3, some (.int s.1), some (.int s.2.1), some (.int s.2.2), y7], [], zhp h) r := by
  unfold qM_talk_b148 at H
  refine zEv_k 3 (f' := (if x2 < s.2.2 then 209 else 154, [some (.ref 215), y1, some (.int x2), y3, some (.int s.1), some (.int s.2.1), some (.int s.2.2), y7], [], zhp h)) rfl (zEv_if (fun c19 => ?_) (fun c19 => ?_))
  · replace H := zif_t c19 H
    cases H
    exact K _ _ _ _ _
  · replace H := zif_f c19 H
    refine zEv_k 2 (f' := (157, [some (.ref 215), y1, some (.int x2), y3, some (.int s.1), some (.int s.2.1), some (.int s.2.2), some (.int 0)], [], zhp h)) rfl ?_
    obtain ⟨t23, ht23, H⟩ := zbs H
    refine t_qM_talk_b157 (x2 := x2) (x4 := s.1) (x5 := s.2.1) (x6 := s.2.2) (h := h) ?_ zfu _ ht23 _ _
    intro y1 y3
    refine zEv_k 9 (f' := (206, [some (.ref 215), y1, some (.int x2), zlost y3, some (.int (s.1 ||| ((1 : Int32) <<< (t23 &&& 31)))), some (.int t23), some (.int (s.2.2 + 1)), some (.int t23)], [], zhp h)) rfl ?_
    refine zEv_k 1 (f' := (148, [some (.ref 215), y1, some (.int x2), zlost y3, some (.int (s.1 ||| ((1 : Int32) <<< (t23 &&& 31)))), some (.int t23), some (.int (s.2.2 + 1)), some (.int t23)], [], zhp h)) rfl ?_
    cases H
    exact K _ _ _
theorem t_qM_talk_b148 {Ls : Nat} {xs : Nat → Int32} {d : Nat} {x2 : Int32} {h : zK} {r : zA} {t : Int32} (K : ∀ (z1 : Option Value) (z3 : Option Value) (z4 : Option Value) (z6 : Option Value) (z7 : Option Value), zEv (zXs Ls xs) (d + 3) zm_216 (209, [some (.ref 215), z1, some (.int x2), z3, z4, some (.int t), z6, z7], [], zhp h) r) (n : Nat) (s : Int32 × Int32 × Int32) (H : zloop (qM_talk_b148 x2 h) n s = some t) (y1 : Option Value) (y3 : Option Value) (y7 : Option Value) : zEv (zXs Ls xs) (d + 3) zm_216 (148, [some (.ref 215), y1, some (.int x2), y3, some (.int s.1), some (.int s.2.1), some (.int s.2.2), y7], [], zhp h) r := by
  have Z := zloop_P (P := fun s => ∀ (y1 : Option Value) (y3 : Option Value) (y7 : Option Value), zEv (zXs Ls xs) (d + 3) zm_216 (148, [some (.ref 215), y1, some (.int x2), y3, some (.int s.1), some (.int s.2.1), some (.int s.2.2), y7], [], zhp h) r) (b := qM_talk_b148 x2 h) (t := t) (fun s s2 hb hk => by intro y1 y3 y7; exact t_qM_talk_b148b hb hk y1 y3 y7) (fun s hb => by intro y1 y3 y7; exact t_qM_talk_b148b hb K y1 y3 y7) n s H
  exact Z y1 y3 y7
def qM_talk (x1 : Int32) (x2 : Int32) (h : zK) : Option (Int32 × zK) :=
  zlet (sI h 215 0 0) fun h1 =>
  (qM_hand x1 h1).bind fun p2 =>
  if ¬ p2.1 = 0 then
    (zloop (qM_talk_b24 x2) zfu (((1 : Int32) <<< ((gI p2.2 215 23) &&& 31)) - 1, p2.2)).bind fun t14 =>
    if x2 = (-1) then
      qM_talk_j127 x2 (gI t14 232 896) t14
    else
      if ¬ (zf_in x2 0 ((gI t14 232 896) - 1)) = 0 then
        (zloop (qM_talk_b148 x2 t14) zfu (0, 7, 0)).bind fun t25 =>
        some (t25, t14)
      else
        qM_talk_j127 x2 (gI t14 232 896) t14
  else
    some (-1, p2.2)
theorem t_qM_talk {Ls : Nat} {xs : Nat → Int32} {d : Nat} {x1 : Int32} {x2 : Int32} {h : zK} {p : Int32 × zK} (H : qM_talk x1 x2 h = some p) : zEv (zXs Ls xs) (d + 3) zm_216 (0, [some (.ref 215), some (.int x1), some (.int x2), none, none, none, none, none], [], zhp h) (some (.int p.1), zhp p.2) := by
  unfold qM_talk at H
  obtain ⟨h1, eh1, H⟩ := zlets H
  refine zEv_w (F := fun z => (5, [some (.ref 215), some (.int x1), some (.int x2), none, none, none, none, none], [], zhp z)) (h0 := sI h 215 0 0) 3 rfl eh1 ?_
  refine zEv_k 2 (f' := (7, [some (.ref 215), some (.int x1), some (.int x2), none, none, none, none, none], [.int x1, .ref 215], zhp h1)) rfl ?_
  obtain ⟨p2, hp2, H⟩ := zbs H
  refine zEv_c (fun _ => rfl) rfl (t_qM_hand (x1 := x1) (h := h1) (d := d) hp2) rfl rfl ?_
  refine zEv_k 1 (f' := (if ¬ p2.1 = 0 then 15 else 13, [some (.ref 215), some (.int x1), some (.int x2), none, none, none, none, none], [], zhp p2.2)) rfl (zEv_if (fun c3 => ?_) (fun c3 => ?_))
  · replace H := zif_t c3 H
    refine zEv_k 7 (f' := (24, [some (.ref 215), some (.int x1), some (.int x2), some (.int (((1 : Int32) <<< ((gI p2.2 215 23) &&& 31)) - 1)), none, none, none, none], [], zhp p2.2)) rfl ?_
    obtain ⟨t14, ht14, H⟩ := zbs H
    refine t_qM_talk_b24 (x2 := x2) ?_ zfu _ ht14 _ _ _ _
    intro y1 y3 y4 y5 y6
    refine zEv_k 1 (f' := (103, [some (.ref 215), y1, some (.int x2), y3, y4, y5, y6, none], [.ref 215], zhp t14)) rfl ?_
    refine zRgr rfl rfl rfl (by decide) (b := 232) rfl ?_
    refine zEv_k 1 (f' := (109, [some (.ref 215), y1, some (.int x2), y3, y4, y5, y6, none], [.int 896, .ref 232], zhp t14)) rfl ?_
    refine zRia (j := 896) rfl rfl (by decide) (by decide) ?_
    refine zEv_k 4 (f' := (if x2 = (-1) then 127 else 116, [some (.ref 215), y1, some (.int x2), some (.int (gI t14 232 896)), y4, y5, y6, none], [], zhp t14)) rfl (zEv_if (fun c16 => ?_) (fun c16 => ?_))
    · replace H := zif_t c16 H
      exact t_qM_talk_j127 (x2 := x2) (x3 := gI t14 232 896) (h := t14) H _ _ _ _ _
    · replace H := zif_f c16 H
      refine zEv_k 5 (f' := (121, [some (.ref 215), y1, some (.int x2), some (.int (gI t14 232 896)), y4, y5, y6, none], [.int ((gI t14 232 896) - 1), .int 0, .int x2], zhp t14)) rfl ?_
      refine zEv_c (fun _ => rfl) rfl ev_zf_in rfl rfl ?_
      refine zEv_k 1 (f' := (if ¬ (zf_in x2 0 ((gI t14 232 896) - 1)) = 0 then 138 else 127, [some (.ref 215), y1, some (.int x2), some (.int (gI t14 232 896)), y4, y5, y6, none], [], zhp t14)) rfl (zEv_if (fun c18 => ?_) (fun c18 => ?_))
      · replace H := zif_t c18 H
        refine zEv_k 6 (f' := (148, [some (.ref 215), y1, some (.int x2), some (.int (gI t14 232 896)), some (.int 0), some (.int 7), some (.int 0), none], [], zhp t14)) rfl ?_
        obtain ⟨t25, ht25, H⟩ := zbs H
        refine t_qM_talk_b148 (x2 := x2) (h := t14) ?_ zfu _ ht25 _ _ _
        intro y1 y3 y4 y6 y7
        refine zEv_k 1 (f' := (211, [some (.ref 215), y1, some (.int x2), y3, y4, some (.int t25), y6, y7], [.int t25], zhp t14)) rfl ?_
        cases H
        exact zEv_r rfl
      · replace H := zif_f c18 H
        exact t_qM_talk_j127 (x2 := x2) (x3 := gI t14 232 896) (h := t14) H _ _ _ _ _
  · replace H := zif_f c3 H
    refine zEv_k 1 (f' := (14, [some (.ref 215), some (.int x1), some (.int x2), none, none, none, none, none], [.int (-1)], zhp p2.2)) rfl ?_
    cases H
    exact zEv_r rfl
def qM_tellsBy (x1 : Int32) (x2 : Int32) (h : zK) : Option (Int32) :=
  (qM_answers x2 x1 h).bind fun p1 =>
  if p1 = 0 then
    (qM_of (3 + x2) h).bind fun p3 =>
    some p3
  else
    (qM_of (3 + x2) h).bind fun p4 =>
    some (2 * p4)
theorem t_qM_tellsBy {Ls : Nat} {xs : Nat → Int32} {d : Nat} {x1 : Int32} {x2 : Int32} {h : zK} {p : Int32} (H : qM_tellsBy x1 x2 h = some p) : zEv (zXs Ls xs) (d + 2) zm_217 (0, [some (.ref 215), some (.int x1), some (.int x2)], [], zhp h) (some (.int p), zhp h) := by
  unfold qM_tellsBy at H
  refine zEv_k 3 (f' := (3, [some (.ref 215), some (.int x1), some (.int x2)], [.int x1, .int x2, .ref 215], zhp h)) rfl ?_
  obtain ⟨p1, hp1, H⟩ := zbs H
  refine zEv_c (fun _ => rfl) rfl (t_qM_answers (x1 := x2) (x2 := x1) (h := h) (d := d) hp1) rfl rfl ?_
  refine zEv_k 1 (f' := (if p1 = 0 then 21 else 9, [some (.ref 215), some (.int x1), some (.int x2)], [], zhp h)) rfl (zEv_if (fun c2 => ?_) (fun c2 => ?_))
  · replace H := zif_t c2 H
    refine zEv_k 4 (f' := (25, [some (.ref 215), some (.int x1), some (.int x2)], [.int (3 + x2), .ref 215], zhp h)) rfl ?_
    obtain ⟨p3, hp3, H⟩ := zbs H
    refine zEv_c (fun _ => rfl) rfl (t_qM_of (x1 := 3 + x2) (h := h) (d := d + 1) hp3) rfl rfl ?_
    cases H
    exact zEv_r rfl
  · replace H := zif_f c2 H
    refine zEv_k 5 (f' := (14, [some (.ref 215), some (.int x1), some (.int x2)], [.int (3 + x2), .ref 215, .int 2], zhp h)) rfl ?_
    obtain ⟨p4, hp4, H⟩ := zbs H
    refine zEv_c (fun _ => rfl) rfl (t_qM_of (x1 := 3 + x2) (h := h) (d := d + 1) hp4) rfl rfl ?_
    refine zEv_k 2 (f' := (28, [some (.ref 215), some (.int x1), some (.int x2)], [.int (2 * p4)], zhp h)) rfl ?_
    cases H
    exact zEv_r rfl
def qM_dinnerBy (x1 : Int32) (x2 : Int32) (x3 : Int32) (h : zK) : Option (Int32) :=
  if (zf_has x1 x3) = 0 then
    (qM_tellsBy x2 x3 h).bind fun p2 =>
    (zix ((128 * x3) + (x1 ||| ((1 : Int32) <<< (x3 &&& 31)))) 1024).bind fun j3 =>
    some (p2 + (gI h 232 j3))
  else
    some (-1000000)
theorem t_qM_dinnerBy {Ls : Nat} {xs : Nat → Int32} {d : Nat} {x1 : Int32} {x2 : Int32} {x3 : Int32} {h : zK} {p : Int32} (H : qM_dinnerBy x1 x2 x3 h = some p) : zEv (zXs Ls xs) (d + 3) zm_218 (0, [some (.ref 215), some (.int x1), some (.int x2), some (.int x3)], [], zhp h) (some (.int p), zhp h) := by
  unfold qM_dinnerBy at H
  refine zEv_k 2 (f' := (2, [some (.ref 215), some (.int x1), some (.int x2), some (.int x3)], [.int x3, .int x1], zhp h)) rfl ?_
  refine zEv_c (fun _ => rfl) rfl ev_zf_has rfl rfl ?_
  refine zEv_k 1 (f' := (if (zf_has x1 x3) = 0 then 14 else 8, [some (.ref 215), some (.int x1), some (.int x2), some (.int x3)], [], zhp h)) rfl (zEv_if (fun c1 => ?_) (fun c1 => ?_))
  · replace H := zif_t c1 H
    refine zEv_k 3 (f' := (17, [some (.ref 215), some (.int x1), some (.int x2), some (.int x3)], [.int x3, .int x2, .ref 215], zhp h)) rfl ?_
    obtain ⟨p2, hp2, H⟩ := zbs H
    refine zEv_c (fun _ => rfl) rfl (t_qM_tellsBy (x1 := x2) (x2 := x3) (h := h) (d := d) hp2) rfl rfl ?_
    refine zEv_k 1 (f' := (21, [some (.ref 215), some (.int x1), some (.int x2), some (.int x3)], [.ref 215, .int p2], zhp h)) rfl ?_
    refine zRgr rfl rfl rfl (by decide) (b := 232) rfl ?_
    refine zEv_k 9 (f' := (35, [some (.ref 215), some (.int x1), some (.int x2), some (.int x3)], [.int ((128 * x3) + (x1 ||| ((1 : Int32) <<< (x3 &&& 31)))), .ref 232, .int p2], zhp h)) rfl ?_
    obtain ⟨j3, hj3, H⟩ := zbs H
    refine zRia rfl rfl (by decide) hj3 ?_
    refine zEv_k 1 (f' := (37, [some (.ref 215), some (.int x1), some (.int x2), some (.int x3)], [.int (p2 + (gI h 232 j3))], zhp h)) rfl ?_
    cases H
    exact zEv_r rfl
  · replace H := zif_f c1 H
    refine zEv_k 2 (f' := (37, [some (.ref 215), some (.int x1), some (.int x2), some (.int x3)], [.int (-1000000)], zhp h)) rfl ?_
    cases H
    exact zEv_r rfl
