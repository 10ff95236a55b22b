def qM_cut_b4 (s : Int32 × Int32 × zK) : Option ((Int32 × Int32 × zK) ⊕ (Int32 × zK)) :=
  if ((1 : Int32) <<< ((gI s.2.2 215 23) &&& 31)) ≤ s.2.1 then
    some (.inr (s.1, s.2.2))
  else
    Option.bind (
        if s.1 = (-1) then
          some 1
        else
          (qM_ones s.2.1).bind fun p4 =>
          (qM_ones s.1).bind fun p5 =>
          if p5 ≤ p4 then
            some 0
          else
            some 1
      ) fun (v3 : Int32) =>
    Option.bind (
        if v3 = 0 then
          some (s.1, s.2.2)
        else
          (qM_isCut s.2.1 s.2.2).bind fun p9 =>
          if p9.1 = 0 then
            some (s.1, p9.2)
          else
            some (s.2.1, p9.2)
      ) fun (v8 : Int32 × zK) =>
    some (.inl (v8.1, s.2.1 + 1, v8.2))
theorem t_qM_cut_b4b {Ls : Nat} {xs : Nat → Int32} {d : Nat} {r : zA} {s : Int32 × Int32 × zK} {e : (Int32 × Int32 × zK) ⊕ (Int32 × zK)} (H : qM_cut_b4 s = some e) (K : match (generalizing := false) e with | .inl s' => ∀ (z3 : Option Value), zEv (zXs Ls xs) (d + 5) zm_249 (4, [some (.ref 215), some (.int s'.1), some (.int s'.2.1), z3], [], zhp s'.2.2) r | .inr v => ∀ (z2 : Option Value) (z3 : Option Value), zEv (zXs Ls xs) (d + 5) zm_249 (60, [some (.ref 215), some (.int v.1), z2, z3], [], zhp v.2) r) (y3 : Option Value) : zEv (zXs Ls xs) (d + 5) zm_249 (4, [some (.ref 215), some (.int s.1), some (.int s.2.1), y3], [], zhp s.2.2) r := by
  unfold qM_cut_b4 at H
  refine zEv_k 6 (f' := (if ((1 : Int32) <<< ((gI s.2.2 215 23) &&& 31)) ≤ s.2.1 then 60 else 14, [some (.ref 215), some (.int s.1), some (.int s.2.1), y3], [], zhp s.2.2)) rfl (zEv_if (fun c1 => ?_) (fun c1 => ?_))
  · replace H := zif_t c1 H
    cases H
    exact K _ _
  · replace H := zif_f c1 H
    obtain ⟨v3, hv3, H⟩ := zbs H
    have kv3 : zEv (zXs Ls xs) (d + 5) zm_249 (35, [some (.ref 215), some (.int s.1), some (.int s.2.1), y3], [.int v3], zhp s.2.2) r := by
      obtain ⟨v8, hv8, H⟩ := zbs H
      have kv8 : zEv (zXs Ls xs) (d + 5) zm_249 (53, [some (.ref 215), some (.int s.1), some (.int s.2.1), some (.int v3)], [.int v8.1], zhp v8.2) r := by
        refine zEv_k 3 (f' := (4, [some (.ref 215), some (.int v8.1), some (.int (s.2.1 + 1)), some (.int v3)], [], zhp v8.2)) rfl ?_
        cases H
        exact K _
      clear H
      refine zEv_k 3 (f' := (if v3 = 0 then 52 else 40, [some (.ref 215), some (.int s.1), some (.int s.2.1), some (.int v3)], [], zhp s.2.2)) rfl (zEv_if (fun c7 => ?_) (fun c7 => ?_))
      · replace hv8 := zif_t c7 hv8
        refine zEv_k 1 (f' := (53, [some (.ref 215), some (.int s.1), some (.int s.2.1), some (.int v3)], [.int s.1], zhp s.2.2)) rfl ?_
        cases hv8
        exact kv8
      · replace hv8 := zif_f c7 hv8
        refine zEv_k 2 (f' := (42, [some (.ref 215), some (.int s.1), some (.int s.2.1), some (.int v3)], [.int s.2.1, .ref 215], zhp s.2.2)) rfl ?_
        obtain ⟨p9, hp9, hv8⟩ := zbs hv8
        refine zEv_c (fun _ => rfl) rfl (t_qM_isCut (x1 := s.2.1) (h := s.2.2) (d := d) hp9) rfl rfl ?_
        refine zEv_k 1 (f' := (if p9.1 = 0 then 52 else 48, [some (.ref 215), some (.int s.1), some (.int s.2.1), some (.int v3)], [], zhp p9.2)) rfl (zEv_if (fun c10 => ?_) (fun c10 => ?_))
        · replace hv8 := zif_t c10 hv8
          refine zEv_k 1 (f' := (53, [some (.ref 215), some (.int s.1), some (.int s.2.1), some (.int v3)], [.int s.1], zhp p9.2)) rfl ?_
          cases hv8
          exact kv8
        · replace hv8 := zif_f c10 hv8
          refine zEv_k 2 (f' := (53, [some (.ref 215), some (.int s.1), some (.int s.2.1), some (.int v3)], [.int s.2.1], zhp p9.2)) rfl ?_
          cases hv8
          exact kv8
    clear H
    refine zEv_k 3 (f' := (if s.1 = (-1) then 30 else 19, [some (.ref 215), some (.int s.1), some (.int s.2.1), y3], [], zhp s.2.2)) rfl (zEv_if (fun c2 => ?_) (fun c2 => ?_))
    · replace hv3 := zif_t c2 hv3
      refine zEv_k 2 (f' := (35, [some (.ref 215), some (.int s.1), some (.int s.2.1), y3], [.int 1], zhp s.2.2)) rfl ?_
      cases hv3
      exact kv3
    · replace hv3 := zif_f c2 hv3
      refine zEv_k 1 (f' := (20, [some (.ref 215), some (.int s.1), some (.int s.2.1), y3], [.int s.2.1], zhp s.2.2)) rfl ?_
      obtain ⟨p4, hp4, hv3⟩ := zbs hv3
      refine zEv_c (fun _ => rfl) rfl (t_qM_ones (x0 := s.2.1) (h := s.2.2) (d := d + 3) hp4) rfl rfl ?_
      refine zEv_k 1 (f' := (24, [some (.ref 215), some (.int s.1), some (.int s.2.1), y3], [.int s.1, .int p4], zhp s.2.2)) rfl ?_
      obtain ⟨p5, hp5, hv3⟩ := zbs hv3
      refine zEv_c (fun _ => rfl) rfl (t_qM_ones (x0 := s.1) (h := s.2.2) (d := d + 3) hp5) rfl rfl ?_
      refine zEv_k 1 (f' := (if p5 ≤ p4 then 34 else 30, [some (.ref 215), some (.int s.1), some (.int s.2.1), y3], [], zhp s.2.2)) rfl (zEv_if (fun c6 => ?_) (fun c6 => ?_))
      · replace hv3 := zif_t c6 hv3
        refine zEv_k 1 (f' := (35, [some (.ref 215), some (.int s.1), some (.int s.2.1), y3], [.int 0], zhp s.2.2)) rfl ?_
        cases hv3
        exact kv3
      · replace hv3 := zif_f c6 hv3
        refine zEv_k 2 (f' := (35, [some (.ref 215), some (.int s.1), some (.int s.2.1), y3], [.int 1], zhp s.2.2)) rfl ?_
        cases hv3
        exact kv3
theorem t_qM_cut_b4 {Ls : Nat} {xs : Nat → Int32} {d : Nat} {r : zA} {t : Int32 × zK} (K : ∀ (z2 : Option Value) (z3 : Option Value), zEv (zXs Ls xs) (d + 5) zm_249 (60, [some (.ref 215), some (.int t.1), z2, z3], [], zhp t.2) r) (n : Nat) (s : Int32 × Int32 × zK) (H : zloop (qM_cut_b4) n s = some t) (y3 : Option Value) : zEv (zXs Ls xs) (d + 5) zm_249 (4, [some (.ref 215), some (.int s.1), some (.int s.2.1), y3], [], zhp s.2.2) r := by
  have Z := zloop_P (P := fun s => ∀ (y3 : Option Value), zEv (zXs Ls xs) (d + 5) zm_249 (4, [some (.ref 215), some (.int s.1), some (.int s.2.1), y3], [], zhp s.2.2) r) (b := qM_cut_b4) (t := t) (fun s s2 hb hk => by intro y3; exact t_qM_cut_b4b hb hk y3) (fun s hb => by intro y3; exact t_qM_cut_b4b hb K y3) n s H
  exact Z y3
def qM_cut (h : zK) : Option (Int32 × zK) :=
  (zloop (qM_cut_b4) zfu (-1, 0, h)).bind fun t11 =>
  some (t11.1, t11.2)
theorem t_qM_cut {Ls : Nat} {xs : Nat → Int32} {d : Nat} {h : zK} {p : Int32 × zK} (H : qM_cut h = some p) : zEv (zXs Ls xs) (d + 5) zm_249 (0, [some (.ref 215), none, none, none], [], zhp h) (some (.int p.1), zhp p.2) := by
  unfold qM_cut at H
  refine zEv_k 4 (f' := (4, [some (.ref 215), some (.int (-1)), some (.int 0), none], [], zhp h)) rfl ?_
  obtain ⟨t11, ht11, H⟩ := zbs H
  refine t_qM_cut_b4 ?_ zfu _ ht11 _
  intro y2 y3
  refine zEv_k 1 (f' := (61, [some (.ref 215), some (.int t11.1), y2, y3], [.int t11.1], zhp t11.2)) rfl ?_
  cases H
  exact zEv_r rfl
def qM_good_b12 (x1 : Int32) (h : zK) (s : Int32 × Int32) : Option ((Int32 × Int32) ⊕ (Int32)) :=
  if (gI h 215 23) ≤ s.2 then
    some (.inr s.1)
  else
    (qM_witIn s.2 x1 h).bind fun p3 =>
    some (.inl (s.1 + p3, s.2 + 1))
theorem t_qM_good_b12b {Ls : Nat} {xs : Nat → Int32} {d : Nat} {x1 : Int32} {h : zK} {r : zA} {s : Int32 × Int32} {e : (Int32 × Int32) ⊕ (Int32)} (H : qM_good_b12 x1 h s = some e) (K : match (generalizing := false) e with | .inl s' => zEv (zXs Ls xs) (d + 2) zm_250 (12, [some (.ref 215), some (.int x1), some (.int s'.1), some (.int s'.2)], [], zhp h) r | .inr v => ∀ (z3 : Option Value), zEv (zXs Ls xs) (d + 2) zm_250 (35, [some (.ref 215), some (.int x1), some (.int v), z3], [], zhp h) r) : zEv (zXs Ls xs) (d + 2) zm_250 (12, [some (.ref 215), some (.int x1), some (.int s.1), some (.int s.2)], [], zhp h) r := by
  unfold qM_good_b12 at H
  refine zEv_k 4 (f' := (if (gI h 215 23) ≤ s.2 then 35 else 20, [some (.ref 215), some (.int x1), some (.int s.1), some (.int s.2)], [], zhp h)) rfl (zEv_if (fun c2 => ?_) (fun c2 => ?_))
  · replace H := zif_t c2 H
    cases H
    exact K _
  · replace H := zif_f c2 H
    refine zEv_k 4 (f' := (24, [some (.ref 215), some (.int x1), some (.int s.1), some (.int s.2)], [.int x1, .int s.2, .ref 215, .int s.1], zhp h)) rfl ?_
    obtain ⟨p3, hp3, H⟩ := zbs H
    refine zEv_c (fun _ => rfl) rfl (t_qM_witIn (x1 := s.2) (x2 := x1) (h := h) (d := d) hp3) rfl rfl ?_
    refine zEv_k 4 (f' := (12, [some (.ref 215), some (.int x1), some (.int (s.1 + p3)), some (.int (s.2 + 1))], [], zhp h)) rfl ?_
    cases H
    exact K
theorem t_qM_good_b12 {Ls : Nat} {xs : Nat → Int32} {d : Nat} {x1 : Int32} {h : zK} {r : zA} {t : Int32} (K : ∀ (z3 : Option Value), zEv (zXs Ls xs) (d + 2) zm_250 (35, [some (.ref 215), some (.int x1), some (.int t), z3], [], zhp h) r) (n : Nat) (s : Int32 × Int32) (H : zloop (qM_good_b12 x1 h) n s = some t) : zEv (zXs Ls xs) (d + 2) zm_250 (12, [some (.ref 215), some (.int x1), some (.int s.1), some (.int s.2)], [], zhp h) r := by
  have Z := zloop_P (P := fun s => zEv (zXs Ls xs) (d + 2) zm_250 (12, [some (.ref 215), some (.int x1), some (.int s.1), some (.int s.2)], [], zhp h) r) (b := qM_good_b12 x1 h) (t := t) (fun s s2 hb hk => by exact t_qM_good_b12b hb hk) (fun s hb => by exact t_qM_good_b12b hb K) n s H
  exact Z
def qM_good_b2 (h : zK) (s : Int32) : Option ((Int32) ⊕ ((Unit) ⊕ (Int32))) :=
  if 50 < s then
    some (.inr (.inl ()))
  else
    (zloop (qM_good_b12 s h) zfu (0, 0)).bind fun t4 =>
    (qM_witsOf 127 h).bind fun p6 =>
    if p6 ≤ (2 * t4) then
      some (.inl (s + 1))
    else
      some (.inr (.inr s))
theorem t_qM_good_b2b {Ls : Nat} {xs : Nat → Int32} {d : Nat} {h : zK} {r : zA} {s : Int32} {e : (Int32) ⊕ ((Unit) ⊕ (Int32))} (H : qM_good_b2 h s = some e) (K : match (generalizing := false) e with | .inl s' => ∀ (z2 : Option Value) (z3 : Option Value), zEv (zXs Ls xs) (d + 2) zm_250 (2, [some (.ref 215), some (.int s'), z2, z3], [], zhp h) r | .inr (.inl v) => ∀ (z1 : Option Value) (z2 : Option Value) (z3 : Option Value), zEv (zXs Ls xs) (d + 2) zm_250 (55, [some (.ref 215), z1, z2, z3], [], zhp h) r | .inr (.inr p) => (some (.int p), zhp h) = r) (y2 : Option Value) (y3 : Option Value) : zEv (zXs Ls xs) (d + 2) zm_250 (2, [some (.ref 215), some (.int s), y2, y3], [], zhp h) r := by
  unfold qM_good_b2 at H
  refine zEv_k 3 (f' := (if 50 < s then 55 else 8, [some (.ref 215), some (.int s), y2, y3], [], zhp h)) rfl (zEv_if (fun c1 => ?_) (fun c1 => ?_))
  · replace H := zif_t c1 H
    cases H
    exact K _ _ _
  · replace H := zif_f c1 H
    refine zEv_k 4 (f' := (12, [some (.ref 215), some (.int s), some (.int 0), some (.int 0)], [], zhp h)) rfl ?_
    obtain ⟨t4, ht4, H⟩ := zbs H
    refine t_qM_good_b12 (x1 := s) (h := h) ?_ zfu _ ht4
    intro y3
    refine zEv_k 5 (f' := (41, [some (.ref 215), some (.int s), some (.int t4), y3], [.int 127, .ref 215, .int (2 * t4)], zhp h)) rfl ?_
    obtain ⟨p6, hp6, H⟩ := zbs H
    refine zEv_c (fun _ => rfl) rfl (t_qM_witsOf (x1 := 127) (h := h) (d := d) hp6) rfl rfl ?_
    refine zEv_k 1 (f' := (if p6 ≤ (2 * t4) then 49 else 47, [some (.ref 215), some (.int s), some (.int t4), y3], [], zhp h)) rfl (zEv_if (fun c7 => ?_) (fun c7 => ?_))
    · replace H := zif_t c7 H
      refine zEv_k 2 (f' := (2, [some (.ref 215), some (.int (s + 1)), some (.int t4), y3], [], zhp h)) rfl ?_
      cases H
      exact K _ _
    · replace H := zif_f c7 H
      refine zEv_k 1 (f' := (48, [some (.ref 215), some (.int s), some (.int t4), y3], [.int s], zhp h)) rfl ?_
      cases H
      exact zEv_re K rfl
theorem t_qM_good_b2 {Ls : Nat} {xs : Nat → Int32} {d : Nat} {h : zK} {r : zA} {t : (Unit) ⊕ (Int32)} (K : (match (generalizing := false) t with | .inl v => ∀ (z1 : Option Value) (z2 : Option Value) (z3 : Option Value), zEv (zXs Ls xs) (d + 2) zm_250 (55, [some (.ref 215), z1, z2, z3], [], zhp h) r | .inr p => (some (.int p), zhp h) = r)) (n : Nat) (s : Int32) (H : zloop (qM_good_b2 h) n s = some t) (y2 : Option Value) (y3 : Option Value) : zEv (zXs Ls xs) (d + 2) zm_250 (2, [some (.ref 215), some (.int s), y2, y3], [], zhp h) r := by
  have Z := zloop_P (P := fun s => ∀ (y2 : Option Value) (y3 : Option Value), zEv (zXs Ls xs) (d + 2) zm_250 (2, [some (.ref 215), some (.int s), y2, y3], [], zhp h) r) (b := qM_good_b2 h) (t := t) (fun s s2 hb hk => by intro y2 y3; exact t_qM_good_b2b hb hk y2 y3) (fun s hb => by rcases t with v | p <;> (intro y2 y3; exact t_qM_good_b2b hb K y2 y3)) n s H
  exact Z y2 y3
def qM_good (h : zK) : Option (Int32) :=
  (zloop (qM_good_b2 h) zfu 0).bind fun t8 => match t8 with
  | .inr p => some p
  | .inl v9 =>
    some (-1)
theorem t_qM_good {Ls : Nat} {xs : Nat → Int32} {d : Nat} {h : zK} {p : Int32} (H : qM_good h = some p) : zEv (zXs Ls xs) (d + 2) zm_250 (0, [some (.ref 215), none, none, none], [], zhp h) (some (.int p), zhp h) := by
  unfold qM_good at H
  refine zEv_k 2 (f' := (2, [some (.ref 215), some (.int 0), none, none], [], zhp h)) rfl ?_
  obtain ⟨t8, ht8, H⟩ := zbs H
  refine t_qM_good_b2 (h := h) ?_ zfu _ ht8 _ _
  rcases t8 with v9 | p
  · intro y1 y2 y3
    dsimp only at H
    refine zEv_k 1 (f' := (56, [some (.ref 215), y1, y2, y3], [.int (-1)], zhp h)) rfl ?_
    cases H
    exact zEv_r rfl
  · cases H
    exact rfl
def qM_mute_b32 (x1 : Int32) (x2 : Int32) (h : zK) (s : Int32 × Int32) : Option ((Int32 × Int32) ⊕ (Int32)) :=
  if (gI h 215 23) ≤ s.2 then
    some (.inr s.1)
  else
    Option.bind (
        if s.1 = 0 then
          some 0
        else
          (qM_answers s.2 x2 h).bind fun p8 =>
          if ¬ p8 = 0 then
            some 0
          else
            some 1
      ) fun (v7 : Int32) =>
    some (.inl (v7, s.2 + 1))
theorem t_qM_mute_b32b {Ls : Nat} {xs : Nat → Int32} {d : Nat} {x1 : Int32} {x2 : Int32} {h : zK} {r : zA} {s : Int32 × Int32} {e : (Int32 × Int32) ⊕ (Int32)} (H : qM_mute_b32 x1 x2 h s = some e) (K : match (generalizing := false) e with | .inl s' => zEv (zXs Ls xs) (d + 2) zm_251 (32, [some (.ref 215), some (.int x1), some (.int x2), some (.int s'.1), some (.int s'.2)], [], zhp h) r | .inr v => ∀ (z4 : Option Value), zEv (zXs Ls xs) (d + 2) zm_251 (67, [some (.ref 215), some (.int x1), some (.int x2), some (.int v), z4], [], zhp h) r) : zEv (zXs Ls xs) (d + 2) zm_251 (32, [some (.ref 215), some (.int x1), some (.int x2), some (.int s.1), some (.int s.2)], [], zhp h) r := by
  unfold qM_mute_b32 at H
  refine zEv_k 4 (f' := (if (gI h 215 23) ≤ s.2 then 67 else 41, [some (.ref 215), some (.int x1), some (.int x2), some (.int s.1), some (.int s.2)], [], zhp h)) rfl (zEv_if (fun c5 => ?_) (fun c5 => ?_))
  · replace H := zif_t c5 H
    cases H
    exact K _
  · replace H := zif_f c5 H
    obtain ⟨v7, hv7, H⟩ := zbs H
    have kv7 : zEv (zXs Ls xs) (d + 2) zm_251 (60, [some (.ref 215), some (.int x1), some (.int x2), some (.int s.1), some (.int s.2)], [.int v7], zhp h) r := by
      refine zEv_k 3 (f' := (32, [some (.ref 215), some (.int x1), some (.int x2), some (.int v7), some (.int (s.2 + 1))], [], zhp h)) rfl ?_
      cases H
      exact K
    clear H
    refine zEv_k 2 (f' := (if s.1 = 0 then 59 else 45, [some (.ref 215), some (.int x1), some (.int x2), some (.int s.1), some (.int s.2)], [], zhp h)) rfl (zEv_if (fun c6 => ?_) (fun c6 => ?_))
    · replace hv7 := zif_t c6 hv7
      refine zEv_k 1 (f' := (60, [some (.ref 215), some (.int x1), some (.int x2), some (.int s.1), some (.int s.2)], [.int 0], zhp h)) rfl ?_
      cases hv7
      exact kv7
    · replace hv7 := zif_f c6 hv7
      refine zEv_k 3 (f' := (49, [some (.ref 215), some (.int x1), some (.int x2), some (.int s.1), some (.int s.2)], [.int x2, .int s.2, .ref 215], zhp h)) rfl ?_
      obtain ⟨p8, hp8, hv7⟩ := zbs hv7
      refine zEv_c (fun _ => rfl) rfl (t_qM_answers (x1 := s.2) (x2 := x2) (h := h) (d := d) hp8) rfl rfl ?_
      refine zEv_k 1 (f' := (if ¬ p8 = 0 then 59 else 55, [some (.ref 215), some (.int x1), some (.int x2), some (.int s.1), some (.int s.2)], [], zhp h)) rfl (zEv_if (fun c9 => ?_) (fun c9 => ?_))
      · replace hv7 := zif_t c9 hv7
        refine zEv_k 1 (f' := (60, [some (.ref 215), some (.int x1), some (.int x2), some (.int s.1), some (.int s.2)], [.int 0], zhp h)) rfl ?_
        cases hv7
        exact kv7
      · replace hv7 := zif_f c9 hv7
        refine zEv_k 2 (f' := (60, [some (.ref 215), some (.int x1), some (.int x2), some (.int s.1), some (.int s.2)], [.int 1], zhp h)) rfl ?_
        cases hv7
        exact kv7
theorem t_qM_mute_b32 {Ls : Nat} {xs : Nat → Int32} {d : Nat} {x1 : Int32} {x2 : Int32} {h : zK} {r : zA} {t : Int32} (K : ∀ (z4 : Option Value), zEv (zXs Ls xs) (d + 2) zm_251 (67, [some (.ref 215), some (.int x1), some (.int x2), some (.int t), z4], [], zhp h) r) (n : Nat) (s : Int32 × Int32) (H : zloop (qM_mute_b32 x1 x2 h) n s = some t) : zEv (zXs Ls xs) (d + 2) zm_251 (32, [some (.ref 215), some (.int x1), some (.int x2), some (.int s.1), some (.int s.2)], [], zhp h) r := by
  have Z := zloop_P (P := fun s => zEv (zXs Ls xs) (d + 2) zm_251 (32, [some (.ref 215), some (.int x1), some (.int x2), some (.int s.1), some (.int s.2)], [], zhp h) r) (b := qM_mute_b32 x1 x2 h) (t := t) (fun s s2 hb hk => by exact t_qM_mute_b32b hb hk) (fun s hb => by exact t_qM_mute_b32b hb K) n s H
  exact Z
def qM_mute_b4 (h : zK) (s : Int32 × Int32) : Option ((Int32 × Int32) ⊕ (Int32)) :=
  if (gI h 215 23) ≤ s.2 then
    some (.inr s.1)
  else
    (qM_of (45 + s.2) h).bind fun p2 =>
    zlet (
        if ¬ p2 = 0 then
          0
        else
          1
      ) fun (v4 : Int32) =>
    (zloop (qM_mute_b32 s.1 s.2 h) zfu (v4, 0)).bind fun t10 =>
    zlet (
        if t10 = 0 then
          0
        else
          (1 : Int32) <<< (s.2 &&& 31)
      ) fun (v13 : Int32) =>
    some (.inl (s.1 ||| v13, s.2 + 1))
theorem t_qM_mute_b4b {Ls : Nat} {xs : Nat → Int32} {d : Nat} {h : zK} {r : zA} {s : Int32 × Int32} {e : (Int32 × Int32) ⊕ (Int32)} (H : qM_mute_b4 h s = some e) (K : match (generalizing := false) e with | .inl s' => ∀ (z3 : Option Value) (z4 : Option Value), zEv (zXs Ls xs) (d + 2) zm_251 (4, [some (.ref 215), some (.int s'.1), some (.int s'.2), z3, z4], [], zhp h) r | .inr v => ∀ (z2 : Option Value) (z3 : Option Value) (z4 : Option Value), zEv (zXs Ls xs) (d + 2) zm_251 (87, [some (.ref 215), some (.int v), z2, z3, z4], [], zhp h) r) (y3 : Option Value) (y4 : Option Value) : zEv (zXs Ls xs) (d + 2) zm_251 (4, [some (.ref 215), some (.int s.1), some (.int s.2), y3, y4], [], zhp h) r := by
  unfold qM_mute_b4 at H
  refine zEv_k 4 (f' := (if (gI h 215 23) ≤ s.2 then 87 else 12, [some (.ref 215), some (.int s.1), some (.int s.2), y3, y4], [], zhp h)) rfl (zEv_if (fun c1 => ?_) (fun c1 => ?_))
  · replace H := zif_t c1 H
    cases H
    exact K _ _ _
  · replace H := zif_f c1 H
    refine zEv_k 4 (f' := (17, [some (.ref 215), some (.int s.1), some (.int s.2), y3, y4], [.int (45 + s.2), .ref 215], zhp h)) rfl ?_
    obtain ⟨p2, hp2, H⟩ := zbs H
    refine zEv_c (fun _ => rfl) rfl (t_qM_of (x1 := 45 + s.2) (h := h) (d := d + 1) hp2) rfl rfl ?_
    obtain ⟨v4, hv4, H⟩ := zlets H
    have kv4 : zEv (zXs Ls xs) (d + 2) zm_251 (28, [some (.ref 215), some (.int s.1), some (.int s.2), y3, y4], [.int v4], zhp h) r := by
      refine zEv_k 3 (f' := (32, [some (.ref 215), some (.int s.1), some (.int s.2), some (.int v4), some (.int 0)], [], zhp h)) rfl ?_
      obtain ⟨t10, ht10, H⟩ := zbs H
      refine t_qM_mute_b32 (x1 := s.1) (x2 := s.2) (h := h) ?_ zfu _ ht10
      intro y4
      obtain ⟨v13, hv13, H⟩ := zlets H
      have kv13 : zEv (zXs Ls xs) (d + 2) zm_251 (79, [some (.ref 215), some (.int s.1), some (.int s.2), some (.int t10), y4], [.int v13, .int s.1], zhp h) r := by
        refine zEv_k 4 (f' := (4, [some (.ref 215), some (.int (s.1 ||| v13)), some (.int (s.2 + 1)), some (.int t10), y4], [], zhp h)) rfl ?_
        cases H
        exact K _ _
      clear H
      refine zEv_k 3 (f' := (if t10 = 0 then 78 else 72, [some (.ref 215), some (.int s.1), some (.int s.2), some (.int t10), y4], [.int s.1], zhp h)) rfl (zEv_if (fun c12 => ?_) (fun c12 => ?_))
      · replace hv13 := zif_t c12 hv13
        refine zEv_k 1 (f' := (79, [some (.ref 215), some (.int s.1), some (.int s.2), some (.int t10), y4], [.int 0, .int s.1], zhp h)) rfl ?_
        cases hv13
        exact kv13
      · replace hv13 := zif_f c12 hv13
        refine zEv_k 4 (f' := (79, [some (.ref 215), some (.int s.1), some (.int s.2), some (.int t10), y4], [.int ((1 : Int32) <<< (s.2 &&& 31)), .int s.1], zhp h)) rfl ?_
        cases hv13
        exact kv13
    clear H
    refine zEv_k 1 (f' := (if ¬ p2 = 0 then 27 else 23, [some (.ref 215), some (.int s.1), some (.int s.2), y3, y4], [], zhp h)) rfl (zEv_if (fun c3 => ?_) (fun c3 => ?_))
    · replace hv4 := zif_t c3 hv4
      refine zEv_k 1 (f' := (28, [some (.ref 215), some (.int s.1), some (.int s.2), y3, y4], [.int 0], zhp h)) rfl ?_
      cases hv4
      exact kv4
    · replace hv4 := zif_f c3 hv4
      refine zEv_k 2 (f' := (28, [some (.ref 215), some (.int s.1), some (.int s.2), y3, y4], [.int 1], zhp h)) rfl ?_
      cases hv4
      exact kv4
theorem t_qM_mute_b4 {Ls : Nat} {xs : Nat → Int32} {d : Nat} {h : zK} {r : zA} {t : Int32} (K : ∀ (z2 : Option Value) (z3 : Option Value) (z4 : Option Value), zEv (zXs Ls xs) (d + 2) zm_251 (87, [some (.ref 215), some (.int t), z2, z3, z4], [], zhp h) r) (n : Nat) (s : Int32 × Int32) (H : zloop (qM_mute_b4 h) n s = some t) (y3 : Option Value) (y4 : Option Value) : zEv (zXs Ls xs) (d + 2) zm_251 (4, [some (.ref 215), some (.int s.1), some (.int s.2), y3, y4], [], zhp h) r := by
  have Z := zloop_P (P := fun s => ∀ (y3 : Option Value) (y4 : Option Value), zEv (zXs Ls xs) (d + 2) zm_251 (4, [some (.ref 215), some (.int s.1), some (.int s.2), y3, y4], [], zhp h) r) (b := qM_mute_b4 h) (t := t) (fun s s2 hb hk => by intro y3 y4; exact t_qM_mute_b4b hb hk y3 y4) (fun s hb => by intro y3 y4; exact t_qM_mute_b4b hb K y3 y4) n s H
  exact Z y3 y4
def qM_mute (h : zK) : Option (Int32) :=
  (zloop (qM_mute_b4 h) zfu (0, 0)).bind fun t14 =>
  some t14
theorem t_qM_mute {Ls : Nat} {xs : Nat → Int32} {d : Nat} {h : zK} {p : Int32} (H : qM_mute h = some p) : zEv (zXs Ls xs) (d + 2) zm_251 (0, [some (.ref 215), none, none, none, none], [], zhp h) (some (.int p), zhp h) := by
  unfold qM_mute at H
  refine zEv_k 4 (f' := (4, [some (.ref 215), some (.int 0), some (.int 0), none, none], [], zhp h)) rfl ?_
  obtain ⟨t14, ht14, H⟩ := zbs H
  refine t_qM_mute_b4 (h := h) ?_ zfu _ ht14 _ _
  intro y2 y3 y4
  refine zEv_k 1 (f' := (88, [some (.ref 215), some (.int t14), y2, y3, y4], [.int t14], zhp h)) rfl ?_
  cases H
  exact zEv_r rfl
def qM_answeredBy_b4 (x1 : Int32) (h : zK) (s : Int32 × Int32) : Option ((Int32 × Int32) ⊕ (Int32)) :=
  if (gI h 215 23) ≤ s.2 then
    some (.inr s.1)
  else
    Option.bind (
        if (zf_has x1 s.2) = 0 then
          some 0
        else
          (qM_of (45 + s.2) h).bind fun p4 =>
          some p4
      ) fun (v3 : Int32) =>
    some (.inl (s.1 ||| v3, s.2 + 1))
theorem t_qM_answeredBy_b4b {Ls : Nat} {xs : Nat → Int32} {d : Nat} {x1 : Int32} {h : zK} {r : zA} {s : Int32 × Int32} {e : (Int32 × Int32) ⊕ (Int32)} (H : qM_answeredBy_b4 x1 h s = some e) (K : match (generalizing := false) e with | .inl s' => zEv (zXs Ls xs) (d + 1) zm_252 (4, [some (.ref 215), some (.int x1), some (.int s'.1), some (.int s'.2)], [], zhp h) r | .inr v => ∀ (z3 : Option Value), zEv (zXs Ls xs) (d + 1) zm_252 (41, [some (.ref 215), some (.int x1), some (.int v), z3], [], zhp h) r) : zEv (zXs Ls xs) (d + 1) zm_252 (4, [some (.ref 215), some (.int x1), some (.int s.1), some (.int s.2)], [], zhp h) r := by
  unfold qM_answeredBy_b4 at H
  refine zEv_k 4 (f' := (if (gI h 215 23) ≤ s.2 then 41 else 12, [some (.ref 215), some (.int x1), some (.int s.1), some (.int s.2)], [], zhp h)) rfl (zEv_if (fun c1 => ?_) (fun c1 => ?_))
  · replace H := zif_t c1 H
    cases H
    exact K _
  · replace H := zif_f c1 H
    obtain ⟨v3, hv3, H⟩ := zbs H
    have kv3 : zEv (zXs Ls xs) (d + 1) zm_252 (33, [some (.ref 215), some (.int x1), some (.int s.1), some (.int s.2)], [.int v3, .int s.1], zhp h) r := by
      refine zEv_k 4 (f' := (4, [some (.ref 215), some (.int x1), some (.int (s.1 ||| v3)), some (.int (s.2 + 1))], [], zhp h)) rfl ?_
      cases H
      exact K
    clear H
    refine zEv_k 3 (f' := (15, [some (.ref 215), some (.int x1), some (.int s.1), some (.int s.2)], [.int s.2, .int x1, .int s.1], zhp h)) rfl ?_
    refine zEv_c (fun _ => rfl) rfl ev_zf_has rfl rfl ?_
    refine zEv_k 1 (f' := (if (zf_has x1 s.2) = 0 then 32 else 21, [some (.ref 215), some (.int x1), some (.int s.1), some (.int s.2)], [.int s.1], zhp h)) rfl (zEv_if (fun c2 => ?_) (fun c2 => ?_))
    · replace hv3 := zif_t c2 hv3
      refine zEv_k 1 (f' := (33, [some (.ref 215), some (.int x1), some (.int s.1), some (.int s.2)], [.int 0, .int s.1], zhp h)) rfl ?_
      cases hv3
      exact kv3
    · replace hv3 := zif_f c2 hv3
      refine zEv_k 4 (f' := (26, [some (.ref 215), some (.int x1), some (.int s.1), some (.int s.2)], [.int (45 + s.2), .ref 215, .int s.1], zhp h)) rfl ?_
      obtain ⟨p4, hp4, hv3⟩ := zbs hv3
      refine zEv_c (fun _ => rfl) rfl (t_qM_of (x1 := 45 + s.2) (h := h) (d := d) hp4) rfl rfl ?_
      refine zEv_k 1 (f' := (33, [some (.ref 215), some (.int x1), some (.int s.1), some (.int s.2)], [.int p4, .int s.1], zhp h)) rfl ?_
      cases hv3
      exact kv3
theorem t_qM_answeredBy_b4 {Ls : Nat} {xs : Nat → Int32} {d : Nat} {x1 : Int32} {h : zK} {r : zA} {t : Int32} (K : ∀ (z3 : Option Value), zEv (zXs Ls xs) (d + 1) zm_252 (41, [some (.ref 215), some (.int x1), some (.int t), z3], [], zhp h) r) (n : Nat) (s : Int32 × Int32) (H : zloop (qM_answeredBy_b4 x1 h) n s = some t) : zEv (zXs Ls xs) (d + 1) zm_252 (4, [some (.ref 215), some (.int x1), some (.int s.1), some (.int s.2)], [], zhp h) r := by
  have Z := zloop_P (P := fun s => zEv (zXs Ls xs) (d + 1) zm_252 (4, [some (.ref 215), some (.int x1), some (.int s.1), some (.int s.2)], [], zhp h) r) (b := qM_answeredBy_b4 x1 h) (t := t) (fun s s2 hb hk => by exact t_qM_answeredBy_b4b hb hk) (fun s hb => by exact t_qM_answeredBy_b4b hb K) n s H
  exact Z
def qM_answeredBy (x1 : Int32) (h : zK) : Option (Int32) :=
  (zloop (qM_answeredBy_b4 x1 h) zfu (0, 0)).bind fun t5 =>
  some t5
theorem t_qM_answeredBy {Ls : Nat} {xs : Nat → Int32} {d : Nat} {x1 : Int32} {h : zK} {p : Int32} (H : qM_answeredBy x1 h = some p) : zEv (zXs Ls xs) (d + 1) zm_252 (0, [some (.ref 215), some (.int x1), none, none], [], zhp h) (some (.int p), zhp h) := by
  unfold qM_answeredBy at H
  refine zEv_k 4 (f' := (4, [some (.ref 215), some (.int x1), some (.int 0), some (.int 0)], [], zhp h)) rfl ?_
  obtain ⟨t5, ht5, H⟩ := zbs H
  refine t_qM_answeredBy_b4 (x1 := x1) (h := h) ?_ zfu _ ht5
  intro y3
  refine zEv_k 1 (f' := (42, [some (.ref 215), some (.int x1), some (.int t5), y3], [.int t5], zhp h)) rfl ?_
  cases H
  exact zEv_r rfl
def qM_ring_b21 (x2 : Int32) (h : zK) (s : Int32 × Int32 × Int32) : Option ((Int32 × Int32 × Int32) ⊕ (Int32)) :=
  if 7 < s.2.2 then
    some (.inr s.1)
  else
    (qM_answeredBy s.2.1 h).bind fun p3 =>
    zlet (
        if (zf_has p3 x2) = 0 then
          s.1
        else
          zf_lesser s.1 s.2.2
      ) fun (v5 : Int32) =>
    some (.inl (v5, p3, s.2.2 + 1))
theorem t_qM_ring_b21b {Ls : Nat} {xs : Nat → Int32} {d : Nat} {x2 : Int32} {h : zK} {r : zA} {s : Int32 × Int32 × Int32} {e : (Int32 × Int32 × Int32) ⊕ (Int32)} (H : qM_ring_b21 x2 h s = some e) (K : match (generalizing := false) e with | .inl s' => zEv (zXs Ls xs) (d + 2) zm_253 (21, [some (.ref 215), some (.int s'.1), some (.int x2), some (.int s'.2.1), some (.int s'.2.2)], [], zhp h) r | .inr v => ∀ (z3 : Option Value) (z4 : Option Value), zEv (zXs Ls xs) (d + 2) zm_253 (59, [some (.ref 215), some (.int v), some (.int x2), z3, z4], [], zhp h) r) : zEv (zXs Ls xs) (d + 2) zm_253 (21, [some (.ref 215), some (.int s.1), some (.int x2), some (.int s.2.1), some (.int s.2.2)], [], zhp h) r := by
  unfold qM_ring_b21 at H
  refine zEv_k 3 (f' := (if 7 < s.2.2 then 59 else 28, [some (.ref 215), some (.int s.1), some (.int x2), some (.int s.2.1), some (.int s.2.2)], [], zhp h)) rfl (zEv_if (fun c2 => ?_) (fun c2 => ?_))
  · replace H := zif_t c2 H
    cases H
    exact K _ _
  · replace H := zif_f c2 H
    refine zEv_k 2 (f' := (30, [some (.ref 215), some (.int s.1), some (.int x2), some (.int s.2.1), some (.int s.2.2)], [.int s.2.1, .ref 215], zhp h)) rfl ?_
    obtain ⟨p3, hp3, H⟩ := zbs H
    refine zEv_c (fun _ => rfl) rfl (t_qM_answeredBy (x1 := s.2.1) (h := h) (d := d) hp3) rfl rfl ?_
    obtain ⟨v5, hv5, H⟩ := zlets H
    have kv5 : zEv (zXs Ls xs) (d + 2) zm_253 (52, [some (.ref 215), some (.int s.1), some (.int x2), some (.int p3), some (.int s.2.2)], [.int v5], zhp h) r := by
      refine zEv_k 3 (f' := (21, [some (.ref 215), some (.int v5), some (.int x2), some (.int p3), some (.int (s.2.2 + 1))], [], zhp h)) rfl ?_
      cases H
      exact K
    clear H
    refine zEv_k 3 (f' := (36, [some (.ref 215), some (.int s.1), some (.int x2), some (.int p3), some (.int s.2.2)], [.int x2, .int p3], zhp h)) rfl ?_
    refine zEv_c (fun _ => rfl) rfl ev_zf_has rfl rfl ?_
    refine zEv_k 1 (f' := (if (zf_has p3 x2) = 0 then 51 else 42, [some (.ref 215), some (.int s.1), some (.int x2), some (.int p3), some (.int s.2.2)], [], zhp h)) rfl (zEv_if (fun c4 => ?_) (fun c4 => ?_))
    · replace hv5 := zif_t c4 hv5
      refine zEv_k 1 (f' := (52, [some (.ref 215), some (.int s.1), some (.int x2), some (.int p3), some (.int s.2.2)], [.int s.1], zhp h)) rfl ?_
      cases hv5
      exact kv5
    · replace hv5 := zif_f c4 hv5
      refine zEv_k 2 (f' := (45, [some (.ref 215), some (.int s.1), some (.int x2), some (.int p3), some (.int s.2.2)], [.int s.2.2, .int s.1], zhp h)) rfl ?_
      refine zEv_c (fun _ => rfl) rfl ev_zf_lesser rfl rfl ?_
      refine zEv_k 1 (f' := (52, [some (.ref 215), some (.int s.1), some (.int x2), some (.int p3), some (.int s.2.2)], [.int (zf_lesser s.1 s.2.2)], zhp h)) rfl ?_
      cases hv5
      exact kv5
theorem t_qM_ring_b21 {Ls : Nat} {xs : Nat → Int32} {d : Nat} {x2 : Int32} {h : zK} {r : zA} {t : Int32} (K : ∀ (z3 : Option Value) (z4 : Option Value), zEv (zXs Ls xs) (d + 2) zm_253 (59, [some (.ref 215), some (.int t), some (.int x2), z3, z4], [], zhp h) r) (n : Nat) (s : Int32 × Int32 × Int32) (H : zloop (qM_ring_b21 x2 h) n s = some t) : zEv (zXs Ls xs) (d + 2) zm_253 (21, [some (.ref 215), some (.int s.1), some (.int x2), some (.int s.2.1), some (.int s.2.2)], [], zhp h) r := by
  have Z := zloop_P (P := fun s => zEv (zXs Ls xs) (d + 2) zm_253 (21, [some (.ref 215), some (.int s.1), some (.int x2), some (.int s.2.1), some (.int s.2.2)], [], zhp h) r) (b := qM_ring_b21 x2 h) (t := t) (fun s s2 hb hk => by exact t_qM_ring_b21b hb hk) (fun s hb => by exact t_qM_ring_b21b hb K) n s H
  exact Z
def qM_ring_b6 (h : zK) (s : Int32 × Int32) : Option ((Int32 × Int32) ⊕ (Int32)) :=
  if (gI h 215 23) ≤ s.2 then
    some (.inr s.1)
  else
    (zloop (qM_ring_b21 s.2 h) zfu (s.1, (1 : Int32) <<< (s.2 &&& 31), 1)).bind fun t6 =>
    some (.inl (t6, s.2 + 1))
theorem t_qM_ring_b6b {Ls : Nat} {xs : Nat → Int32} {d : Nat} {h : zK} {r : zA} {s : Int32 × Int32} {e : (Int32 × Int32) ⊕ (Int32)} (H : qM_ring_b6 h s = some e) (K : match (generalizing := false) e with | .inl s' => ∀ (z3 : Option Value) (z4 : Option Value), zEv (zXs Ls xs) (d + 2) zm_253 (6, [some (.ref 215), some (.int s'.1), some (.int s'.2), z3, z4], [], zhp h) r | .inr v => ∀ (z2 : Option Value) (z3 : Option Value) (z4 : Option Value), zEv (zXs Ls xs) (d + 2) zm_253 (65, [some (.ref 215), some (.int v), z2, z3, z4], [], zhp h) r) (y3 : Option Value) (y4 : Option Value) : zEv (zXs Ls xs) (d + 2) zm_253 (6, [some (.ref 215), some (.int s.1), some (.int s.2), y3, y4], [], zhp h) r := by
  unfold qM_ring_b6 at H
  refine zEv_k 4 (f' := (if (gI h 215 23) ≤ s.2 then 65 else 14, [some (.ref 215), some (.int s.1), some (.int s.2), y3, y4], [], zhp h)) rfl (zEv_if (fun c1 => ?_) (fun c1 => ?_))
  · replace H := zif_t c1 H
    cases H
    exact K _ _ _
  · replace H := zif_f c1 H
    refine zEv_k 6 (f' := (21, [some (.ref 215), some (.int s.1), some (.int s.2), some (.int ((1 : Int32) <<< (s.2 &&& 31))), some (.int 1)], [], zhp h)) rfl ?_
    obtain ⟨t6, ht6, H⟩ := zbs H
    refine t_qM_ring_b21 (x2 := s.2) (h := h) ?_ zfu _ ht6
    intro y3 y4
    refine zEv_k 2 (f' := (6, [some (.ref 215), some (.int t6), some (.int (s.2 + 1)), y3, y4], [], zhp h)) rfl ?_
    cases H
    exact K _ _
theorem t_qM_ring_b6 {Ls : Nat} {xs : Nat → Int32} {d : Nat} {h : zK} {r : zA} {t : Int32} (K : ∀ (z2 : Option Value) (z3 : Option Value) (z4 : Option Value), zEv (zXs Ls xs) (d + 2) zm_253 (65, [some (.ref 215), some (.int t), z2, z3, z4], [], zhp h) r) (n : Nat) (s : Int32 × Int32) (H : zloop (qM_ring_b6 h) n s = some t) (y3 : Option Value) (y4 : Option Value) : zEv (zXs Ls xs) (d + 2) zm_253 (6, [some (.ref 215), some (.int s.1), some (.int s.2), y3, y4], [], zhp h) r := by
  have Z := zloop_P (P := fun s => ∀ (y3 : Option Value) (y4 : Option Value), zEv (zXs Ls xs) (d + 2) zm_253 (6, [some (.ref 215), some (.int s.1), some (.int s.2), y3, y4], [], zhp h) r) (b := qM_ring_b6 h) (t := t) (fun s s2 hb hk => by intro y3 y4; exact t_qM_ring_b6b hb hk y3 y4) (fun s hb => by intro y3 y4; exact t_qM_ring_b6b hb K y3 y4) n s H
  exact Z y3 y4
def qM_ring (h : zK) : Option (Int32) :=
  (zloop (qM_ring_b6 h) zfu (1000000, 0)).bind fun t8 =>
  if ¬ t8 = 1000000 then
    some t8
  else
    some (-1)
theorem t_qM_ring {Ls : Nat} {xs : Nat → Int32} {d : Nat} {h : zK} {p : Int32} (H : qM_ring h = some p) : zEv (zXs Ls xs) (d + 2) zm_253 (0, [some (.ref 215), none, none, none, none], [], zhp h) (some (.int p), zhp h) := by
  unfold qM_ring at H
  refine zEv_k 4 (f' := (6, [some (.ref 215), some (.int 1000000), some (.int 0), none, none], [], zhp h)) rfl ?_
  obtain ⟨t8, ht8, H⟩ := zbs H
  refine t_qM_ring_b6 (h := h) ?_ zfu _ ht8 _ _
  intro y2 y3 y4
  refine zEv_k 3 (f' := (if ¬ t8 = 1000000 then 76 else 72, [some (.ref 215), some (.int t8), y2, y3, y4], [], zhp h)) rfl (zEv_if (fun c10 => ?_) (fun c10 => ?_))
  · replace H := zif_t c10 H
    refine zEv_k 1 (f' := (77, [some (.ref 215), some (.int t8), y2, y3, y4], [.int t8], zhp h)) rfl ?_
    cases H
    exact zEv_r rfl
  · replace H := zif_f c10 H
    refine zEv_k 2 (f' := (77, [some (.ref 215), some (.int t8), y2, y3, y4], [.int (-1)], zhp h)) rfl ?_
    cases H
    exact zEv_r rfl
def qM_calm_b10 (x1 : Int32) (s : Int32 × Int32 × Int32 × Int32 × zK) : Option ((Int32 × Int32 × Int32 × Int32 × zK) ⊕ (Int32 × Int32 × zK)) :=
  if 50 < s.2.2.2.1 then
    some (.inr (s.1, s.2.1, s.2.2.2.2))
  else
    (qM_goesOn s.2.2.2.2).bind fun p2 =>
    zlet (
        if ¬ (gI p2.2 215 28) = (gI s.2.2.2.2 215 28) then
          0
        else
          s.2.2.1 + 1
      ) fun (v4 : Int32) =>
    zlet (
        if v4 ≤ s.1 then
          s.2.1
        else
          (s.2.2.2.1 - v4) + 1
      ) fun (v6 : Int32) =>
    some (.inl (zf_greater s.1 v4, v6, v4, s.2.2.2.1 + 1, p2.2))
theorem t_qM_calm_b10b {Ls : Nat} {xs : Nat → Int32} {d : Nat} {x1 : Int32} {r : zA} {s : Int32 × Int32 × Int32 × Int32 × zK} {e : (Int32 × Int32 × Int32 × Int32 × zK) ⊕ (Int32 × Int32 × zK)} (H : qM_calm_b10 x1 s = some e) (K : match (generalizing := false) e with | .inl s' => ∀ (z6 : Option Value), zEv (zXs Ls xs) (d + 4) zm_254 (10, [some (.ref 215), some (.int x1), some (.int s'.1), some (.int s'.2.1), some (.int s'.2.2.1), some (.int s'.2.2.2.1), z6], [], zhp s'.2.2.2.2) r | .inr v => ∀ (z4 : Option Value) (z5 : Option Value) (z6 : Option Value), zEv (zXs Ls xs) (d + 4) zm_254 (78, [some (.ref 215), some (.int x1), some (.int v.1), some (.int v.2.1), z4, z5, z6], [], zhp v.2.2) r) (y6 : Option Value) : zEv (zXs Ls xs) (d + 4) zm_254 (10, [some (.ref 215), some (.int x1), some (.int s.1), some (.int s.2.1), some (.int s.2.2.1), some (.int s.2.2.2.1), y6], [], zhp s.2.2.2.2) r := by
  unfold qM_calm_b10 at H
  refine zEv_k 3 (f' := (if 50 < s.2.2.2.1 then 78 else 17, [some (.ref 215), some (.int x1), some (.int s.1), some (.int s.2.1), some (.int s.2.2.1), some (.int s.2.2.2.1), y6], [], zhp s.2.2.2.2)) rfl (zEv_if (fun c1 => ?_) (fun c1 => ?_))
  · replace H := zif_t c1 H
    cases H
    exact K _ _ _
  · replace H := zif_f c1 H
    refine zEv_k 4 (f' := (24, [some (.ref 215), some (.int x1), some (.int s.1), some (.int s.2.1), some (.int s.2.2.1), some (.int s.2.2.2.1), some (.int (gI s.2.2.2.2 215 28))], [.ref 215], zhp s.2.2.2.2)) rfl ?_
    obtain ⟨p2, hp2, H⟩ := zbs H
    refine zEv_c (fun _ => rfl) rfl (t_qM_goesOn (h := s.2.2.2.2) (d := d) hp2) rfl rfl ?_
    obtain ⟨v4, hv4, H⟩ := zlets H
    have kv4 : zEv (zXs Ls xs) (d + 4) zm_254 (45, [some (.ref 215), some (.int x1), some (.int s.1), some (.int s.2.1), some (.int s.2.2.1), some (.int s.2.2.2.1), some (.int (gI s.2.2.2.2 215 28))], [.int v4], zhp p2.2) r := by
      obtain ⟨v6, hv6, H⟩ := zlets H
      have kv6 : zEv (zXs Ls xs) (d + 4) zm_254 (64, [some (.ref 215), some (.int x1), some (.int s.1), some (.int s.2.1), some (.int v4), some (.int s.2.2.2.1), some (.int (gI s.2.2.2.2 215 28))], [.int v6], zhp p2.2) r := by
        refine zEv_k 3 (f' := (68, [some (.ref 215), some (.int x1), some (.int s.1), some (.int v6), some (.int v4), some (.int s.2.2.2.1), some (.int (gI s.2.2.2.2 215 28))], [.int v4, .int s.1], zhp p2.2)) rfl ?_
        refine zEv_c (fun _ => rfl) rfl ev_zf_greater rfl rfl ?_
        refine zEv_k 3 (f' := (10, [some (.ref 215), some (.int x1), some (.int (zf_greater s.1 v4)), some (.int v6), some (.int v4), some (.int (s.2.2.2.1 + 1)), some (.int (gI s.2.2.2.2 215 28))], [], zhp p2.2)) rfl ?_
        cases H
        exact K _
      clear H
      refine zEv_k 4 (f' := (if v4 ≤ s.1 then 63 else 53, [some (.ref 215), some (.int x1), some (.int s.1), some (.int s.2.1), some (.int v4), some (.int s.2.2.2.1), some (.int (gI s.2.2.2.2 215 28))], [], zhp p2.2)) rfl (zEv_if (fun c5 => ?_) (fun c5 => ?_))
      · replace hv6 := zif_t c5 hv6
        refine zEv_k 1 (f' := (64, [some (.ref 215), some (.int x1), some (.int s.1), some (.int s.2.1), some (.int v4), some (.int s.2.2.2.1), some (.int (gI s.2.2.2.2 215 28))], [.int s.2.1], zhp p2.2)) rfl ?_
        cases hv6
        exact kv6
      · replace hv6 := zif_f c5 hv6
        refine zEv_k 6 (f' := (64, [some (.ref 215), some (.int x1), some (.int s.1), some (.int s.2.1), some (.int v4), some (.int s.2.2.2.1), some (.int (gI s.2.2.2.2 215 28))], [.int ((s.2.2.2.1 - v4) + 1)], zhp p2.2)) rfl ?_
        cases hv6
        exact kv6
    clear H
    refine zEv_k 5 (f' := (if ¬ (gI p2.2 215 28) = (gI s.2.2.2.2 215 28) then 44 else 37, [some (.ref 215), some (.int x1), some (.int s.1), some (.int s.2.1), some (.int s.2.2.1), some (.int s.2.2.2.1), some (.int (gI s.2.2.2.2 215 28))], [], zhp p2.2)) rfl (zEv_if (fun c3 => ?_) (fun c3 => ?_))
    · replace hv4 := zif_t c3 hv4
      refine zEv_k 1 (f' := (45, [some (.ref 215), some (.int x1), some (.int s.1), some (.int s.2.1), some (.int s.2.2.1), some (.int s.2.2.2.1), some (.int (gI s.2.2.2.2 215 28))], [.int 0], zhp p2.2)) rfl ?_
      cases hv4
      exact kv4
    · replace hv4 := zif_f c3 hv4
      refine zEv_k 4 (f' := (45, [some (.ref 215), some (.int x1), some (.int s.1), some (.int s.2.1), some (.int s.2.2.1), some (.int s.2.2.2.1), some (.int (gI s.2.2.2.2 215 28))], [.int (s.2.2.1 + 1)], zhp p2.2)) rfl ?_
      cases hv4
      exact kv4
theorem t_qM_calm_b10 {Ls : Nat} {xs : Nat → Int32} {d : Nat} {x1 : Int32} {r : zA} {t : Int32 × Int32 × zK} (K : ∀ (z4 : Option Value) (z5 : Option Value) (z6 : Option Value), zEv (zXs Ls xs) (d + 4) zm_254 (78, [some (.ref 215), some (.int x1), some (.int t.1), some (.int t.2.1), z4, z5, z6], [], zhp t.2.2) r) (n : Nat) (s : Int32 × Int32 × Int32 × Int32 × zK) (H : zloop (qM_calm_b10 x1) n s = some t) (y6 : Option Value) : zEv (zXs Ls xs) (d + 4) zm_254 (10, [some (.ref 215), some (.int x1), some (.int s.1), some (.int s.2.1), some (.int s.2.2.1), some (.int s.2.2.2.1), y6], [], zhp s.2.2.2.2) r := by
  have Z := zloop_P (P := fun s => ∀ (y6 : Option Value), zEv (zXs Ls xs) (d + 4) zm_254 (10, [some (.ref 215), some (.int x1), some (.int s.1), some (.int s.2.1), some (.int s.2.2.1), some (.int s.2.2.2.1), y6], [], zhp s.2.2.2.2) r) (b := qM_calm_b10 x1) (t := t) (fun s s2 hb hk => by intro y6; exact t_qM_calm_b10b hb hk y6) (fun s hb => by intro y6; exact t_qM_calm_b10b hb K y6) n s H
  exact Z y6
def qM_calm (x1 : Int32) (h : zK) : Option (Int32 × zK) :=
  (zloop (qM_calm_b10 x1) zfu (0, -1, 0, 1, h)).bind fun t7 =>
  if x1 = 0 then
    some (t7.1, t7.2.2)
  else
    some (t7.2.1, t7.2.2)
theorem t_qM_calm {Ls : Nat} {xs : Nat → Int32} {d : Nat} {x1 : Int32} {h : zK} {p : Int32 × zK} (H : qM_calm x1 h = some p) : zEv (zXs Ls xs) (d + 4) zm_254 (0, [some (.ref 215), some (.int x1), none, none, none, none, none], [], zhp h) (some (.int p.1), zhp p.2) := by
  unfold qM_calm at H
  refine zEv_k 8 (f' := (10, [some (.ref 215), some (.int x1), some (.int 0), some (.int (-1)), some (.int 0), some (.int 1), none], [], zhp h)) rfl ?_
  obtain ⟨t7, ht7, H⟩ := zbs H
  refine t_qM_calm_b10 (x1 := x1) ?_ zfu _ ht7 _
  intro y4 y5 y6
  refine zEv_k 2 (f' := (if x1 = 0 then 86 else 82, [some (.ref 215), some (.int x1), some (.int t7.1), some (.int t7.2.1), y4, y5, y6], [], zhp t7.2.2)) rfl (zEv_if (fun c9 => ?_) (fun c9 => ?_))
  · replace H := zif_t c9 H
    refine zEv_k 1 (f' := (87, [some (.ref 215), some (.int x1), some (.int t7.1), some (.int t7.2.1), y4, y5, y6], [.int t7.1], zhp t7.2.2)) rfl ?_
    cases H
    exact zEv_r rfl
  · replace H := zif_f c9 H
    refine zEv_k 2 (f' := (87, [some (.ref 215), some (.int x1), some (.int t7.1), some (.int t7.2.1), y4, y5, y6], [.int t7.2.1], zhp t7.2.2)) rfl ?_
    cases H
    exact zEv_r rfl
def qM_pair_b22 (x3 : Int32) (s : Int32 × Int32 × Int32 × zK) : Option ((Int32 × Int32 × Int32 × zK) ⊕ (Int32 × Int32 × zK)) :=
  if (gI s.2.2.2 215 23) ≤ s.2.2.1 then
    some (.inr (s.1, s.2.1, s.2.2.2))
  else
    (qM_swapPlaces x3 s.2.2.1 s.2.2.2).bind fun p4 =>
    (qM_greatestTrain p4).bind fun p5 =>
    (qM_swapPlaces x3 s.2.2.1 p5.2).bind fun p6 =>
    zlet (
        if s.2.1 ≤ p5.1 then
          s.1
        else
          (10 * x3) + s.2.2.1
      ) fun (v8 : Int32) =>
    some (.inl (v8, zf_lesser s.2.1 p5.1, s.2.2.1 + 1, p6))
theorem t_qM_pair_b22b {Ls : Nat} {xs : Nat → Int32} {d : Nat} {x3 : Int32} {r : zA} {s : Int32 × Int32 × Int32 × zK} {e : (Int32 × Int32 × Int32 × zK) ⊕ (Int32 × Int32 × zK)} (H : qM_pair_b22 x3 s = some e) (K : match (generalizing := false) e with | .inl s' => ∀ (z5 : Option Value), zEv (zXs Ls xs) (d + 5) zm_255 (22, [some (.ref 215), some (.int s'.1), some (.int s'.2.1), some (.int x3), some (.int s'.2.2.1), z5], [], zhp s'.2.2.2) r | .inr v => ∀ (z4 : Option Value) (z5 : Option Value), zEv (zXs Ls xs) (d + 5) zm_255 (82, [some (.ref 215), some (.int v.1), some (.int v.2.1), some (.int x3), z4, z5], [], zhp v.2.2) r) (y5 : Option Value) : zEv (zXs Ls xs) (d + 5) zm_255 (22, [some (.ref 215), some (.int s.1), some (.int s.2.1), some (.int x3), some (.int s.2.2.1), y5], [], zhp s.2.2.2) r := by
  unfold qM_pair_b22 at H
  refine zEv_k 4 (f' := (if (gI s.2.2.2 215 23) ≤ s.2.2.1 then 82 else 31, [some (.ref 215), some (.int s.1), some (.int s.2.1), some (.int x3), some (.int s.2.2.1), y5], [], zhp s.2.2.2)) rfl (zEv_if (fun c3 => ?_) (fun c3 => ?_))
  · replace H := zif_t c3 H
    cases H
    exact K _ _
  · replace H := zif_f c3 H
    refine zEv_k 3 (f' := (35, [some (.ref 215), some (.int s.1), some (.int s.2.1), some (.int x3), some (.int s.2.2.1), y5], [.int s.2.2.1, .int x3, .ref 215], zhp s.2.2.2)) rfl ?_
    obtain ⟨p4, hp4, H⟩ := zbs H
    refine zEv_c (fun _ => rfl) rfl (t_qM_swapPlaces (x1 := x3) (x2 := s.2.2.1) (h := s.2.2.2) (d := d + 4) hp4) rfl rfl ?_
    refine zEv_k 1 (f' := (39, [some (.ref 215), some (.int s.1), some (.int s.2.1), some (.int x3), some (.int s.2.2.1), y5], [.ref 215], zhp p4)) rfl ?_
    obtain ⟨p5, hp5, H⟩ := zbs H
    refine zEv_c (fun _ => rfl) rfl (t_qM_greatestTrain (h := p4) (d := d) hp5) rfl rfl ?_
    refine zEv_k 4 (f' := (48, [some (.ref 215), some (.int s.1), some (.int s.2.1), some (.int x3), some (.int s.2.2.1), some (.int p5.1)], [.int s.2.2.1, .int x3, .ref 215], zhp p5.2)) rfl ?_
    obtain ⟨p6, hp6, H⟩ := zbs H
    refine zEv_c (fun _ => rfl) rfl (t_qM_swapPlaces (x1 := x3) (x2 := s.2.2.1) (h := p5.2) (d := d + 4) hp6) rfl rfl ?_
    obtain ⟨v8, hv8, H⟩ := zlets H
    have kv8 : zEv (zXs Ls xs) (d + 5) zm_255 (68, [some (.ref 215), some (.int s.1), some (.int s.2.1), some (.int x3), some (.int s.2.2.1), some (.int p5.1)], [.int v8], zhp p6) r := by
      refine zEv_k 3 (f' := (72, [some (.ref 215), some (.int v8), some (.int s.2.1), some (.int x3), some (.int s.2.2.1), some (.int p5.1)], [.int p5.1, .int s.2.1], zhp p6)) rfl ?_
      refine zEv_c (fun _ => rfl) rfl ev_zf_lesser rfl rfl ?_
      refine zEv_k 3 (f' := (22, [some (.ref 215), some (.int v8), some (.int (zf_lesser s.2.1 p5.1)), some (.int x3), some (.int (s.2.2.1 + 1)), some (.int p5.1)], [], zhp p6)) rfl ?_
      cases H
      exact K _
    clear H
    refine zEv_k 3 (f' := (if s.2.1 ≤ p5.1 then 67 else 57, [some (.ref 215), some (.int s.1), some (.int s.2.1), some (.int x3), some (.int s.2.2.1), some (.int p5.1)], [], zhp p6)) rfl (zEv_if (fun c7 => ?_) (fun c7 => ?_))
    · replace hv8 := zif_t c7 hv8
      refine zEv_k 1 (f' := (68, [some (.ref 215), some (.int s.1), some (.int s.2.1), some (.int x3), some (.int s.2.2.1), some (.int p5.1)], [.int s.1], zhp p6)) rfl ?_
      cases hv8
      exact kv8
    · replace hv8 := zif_f c7 hv8
      refine zEv_k 6 (f' := (68, [some (.ref 215), some (.int s.1), some (.int s.2.1), some (.int x3), some (.int s.2.2.1), some (.int p5.1)], [.int ((10 * x3) + s.2.2.1)], zhp p6)) rfl ?_
      cases hv8
      exact kv8
theorem t_qM_pair_b22 {Ls : Nat} {xs : Nat → Int32} {d : Nat} {x3 : Int32} {r : zA} {t : Int32 × Int32 × zK} (K : ∀ (z4 : Option Value) (z5 : Option Value), zEv (zXs Ls xs) (d + 5) zm_255 (82, [some (.ref 215), some (.int t.1), some (.int t.2.1), some (.int x3), z4, z5], [], zhp t.2.2) r) (n : Nat) (s : Int32 × Int32 × Int32 × zK) (H : zloop (qM_pair_b22 x3) n s = some t) (y5 : Option Value) : zEv (zXs Ls xs) (d + 5) zm_255 (22, [some (.ref 215), some (.int s.1), some (.int s.2.1), some (.int x3), some (.int s.2.2.1), y5], [], zhp s.2.2.2) r := by
  have Z := zloop_P (P := fun s => ∀ (y5 : Option Value), zEv (zXs Ls xs) (d + 5) zm_255 (22, [some (.ref 215), some (.int s.1), some (.int s.2.1), some (.int x3), some (.int s.2.2.1), y5], [], zhp s.2.2.2) r) (b := qM_pair_b22 x3) (t := t) (fun s s2 hb hk => by intro y5; exact t_qM_pair_b22b hb hk y5) (fun s hb => by intro y5; exact t_qM_pair_b22b hb K y5) n s H
  exact Z y5
def qM_pair_b9 (s : Int32 × Int32 × Int32 × zK) : Option ((Int32 × Int32 × Int32 × zK) ⊕ (Int32 × zK)) :=
  if (gI s.2.2.2 215 23) ≤ s.2.2.1 then
    some (.inr (s.1, s.2.2.2))
  else
    (zloop (qM_pair_b22 s.2.2.1) zfu (s.1, s.2.1, s.2.2.1 + 1, s.2.2.2)).bind fun t9 =>
    some (.inl (t9.1, t9.2.1, s.2.2.1 + 1, t9.2.2))
theorem t_qM_pair_b9b {Ls : Nat} {xs : Nat → Int32} {d : Nat} {r : zA} {s : Int32 × Int32 × Int32 × zK} {e : (Int32 × Int32 × Int32 × zK) ⊕ (Int32 × zK)} (H : qM_pair_b9 s = some e) (K : match (generalizing := false) e with | .inl s' => ∀ (z4 : Option Value) (z5 : Option Value), zEv (zXs Ls xs) (d + 5) zm_255 (9, [some (.ref 215), some (.int s'.1), some (.int s'.2.1), some (.int s'.2.2.1), z4, z5], [], zhp s'.2.2.2) r | .inr v => ∀ (z2 : Option Value) (z3 : Option Value) (z4 : Option Value) (z5 : Option Value), zEv (zXs Ls xs) (d + 5) zm_255 (88, [some (.ref 215), some (.int v.1), z2, z3, z4, z5], [], zhp v.2) r) (y4 : Option Value) (y5 : Option Value) : zEv (zXs Ls xs) (d + 5) zm_255 (9, [some (.ref 215), some (.int s.1), some (.int s.2.1), some (.int s.2.2.1), y4, y5], [], zhp s.2.2.2) r := by
  unfold qM_pair_b9 at H
  refine zEv_k 4 (f' := (if (gI s.2.2.2 215 23) ≤ s.2.2.1 then 88 else 17, [some (.ref 215), some (.int s.1), some (.int s.2.1), some (.int s.2.2.1), y4, y5], [], zhp s.2.2.2)) rfl (zEv_if (fun c2 => ?_) (fun c2 => ?_))
  · replace H := zif_t c2 H
    cases H
    exact K _ _ _ _
  · replace H := zif_f c2 H
    refine zEv_k 4 (f' := (22, [some (.ref 215), some (.int s.1), some (.int s.2.1), some (.int s.2.2.1), some (.int (s.2.2.1 + 1)), y5], [], zhp s.2.2.2)) rfl ?_
    obtain ⟨t9, ht9, H⟩ := zbs H
    refine t_qM_pair_b22 (x3 := s.2.2.1) ?_ zfu _ ht9 _
    intro y4 y5
    refine zEv_k 2 (f' := (9, [some (.ref 215), some (.int t9.1), some (.int t9.2.1), some (.int (s.2.2.1 + 1)), y4, y5], [], zhp t9.2.2)) rfl ?_
    cases H
    exact K _ _
theorem t_qM_pair_b9 {Ls : Nat} {xs : Nat → Int32} {d : Nat} {r : zA} {t : Int32 × zK} (K : ∀ (z2 : Option Value) (z3 : Option Value) (z4 : Option Value) (z5 : Option Value), zEv (zXs Ls xs) (d + 5) zm_255 (88, [some (.ref 215), some (.int t.1), z2, z3, z4, z5], [], zhp t.2) r) (n : Nat) (s : Int32 × Int32 × Int32 × zK) (H : zloop (qM_pair_b9) n s = some t) (y4 : Option Value) (y5 : Option Value) : zEv (zXs Ls xs) (d + 5) zm_255 (9, [some (.ref 215), some (.int s.1), some (.int s.2.1), some (.int s.2.2.1), y4, y5], [], zhp s.2.2.2) r := by
  have Z := zloop_P (P := fun s => ∀ (y4 : Option Value) (y5 : Option Value), zEv (zXs Ls xs) (d + 5) zm_255 (9, [some (.ref 215), some (.int s.1), some (.int s.2.1), some (.int s.2.2.1), y4, y5], [], zhp s.2.2.2) r) (b := qM_pair_b9) (t := t) (fun s s2 hb hk => by intro y4 y5; exact t_qM_pair_b9b hb hk y4 y5) (fun s hb => by intro y4 y5; exact t_qM_pair_b9b hb K y4 y5) n s H
  exact Z y4 y5
def qM_pair (h : zK) : Option (Int32 × zK) :=
  (qM_greatestTrain h).bind fun p1 =>
  (zloop (qM_pair_b9) zfu (-1, p1.1, 0, p1.2)).bind fun t11 =>
  some (t11.1, t11.2)
theorem t_qM_pair {Ls : Nat} {xs : Nat → Int32} {d : Nat} {h : zK} {p : Int32 × zK} (H : qM_pair h = some p) : zEv (zXs Ls xs) (d + 5) zm_255 (0, [some (.ref 215), none, none, none, none, none], [], zhp h) (some (.int p.1), zhp p.2) := by
  unfold qM_pair at H
  refine zEv_k 3 (f' := (3, [some (.ref 215), some (.int (-1)), none, none, none, none], [.ref 215], zhp h)) rfl ?_
  obtain ⟨p1, hp1, H⟩ := zbs H
  refine zEv_c (fun _ => rfl) rfl (t_qM_greatestTrain (h := h) (d := d) hp1) rfl rfl ?_
  refine zEv_k 3 (f' := (9, [some (.ref 215), some (.int (-1)), some (.int p1.1), some (.int 0), none, none], [], zhp p1.2)) rfl ?_
  obtain ⟨t11, ht11, H⟩ := zbs H
  refine t_qM_pair_b9 ?_ zfu _ ht11 _ _
  intro y2 y3 y4 y5
  refine zEv_k 1 (f' := (89, [some (.ref 215), some (.int t11.1), y2, y3, y4, y5], [.int t11.1], zhp t11.2)) rfl ?_
  cases H
  exact zEv_r rfl
def qM_earliest_b4 (h : zK) (s : Int32 × Int32) : Option ((Int32 × Int32) ⊕ (Int32)) :=
  if (gI h 215 23) ≤ s.2 then
    some (.inr s.1)
  else
    (qM_lifeOf s.2 h).bind fun p2 =>
    Option.bind (
        if p2 = (-1) then
          some 0
        else
          if s.1 = (-1) then
            some 1
          else
            (qM_lifeOf s.2 h).bind fun p6 =>
            (qM_lifeOf s.1 h).bind fun p7 =>
            if p7 ≤ p6 then
              some 0
            else
              some 1
      ) fun (v4 : Int32) =>
    zlet (
        if v4 = 0 then
          s.1
        else
          s.2
      ) fun (v10 : Int32) =>
    some (.inl (v10, s.2 + 1))
theorem t_qM_earliest_b4b {Ls : Nat} {xs : Nat → Int32} {d : Nat} {h : zK} {r : zA} {s : Int32 × Int32} {e : (Int32 × Int32) ⊕ (Int32)} (H : qM_earliest_b4 h s = some e) (K : match (generalizing := false) e with | .inl s' => ∀ (z3 : Option Value), zEv (zXs Ls xs) (d + 2) zm_256 (4, [some (.ref 215), some (.int s'.1), some (.int s'.2), z3], [], zhp h) r | .inr v => ∀ (z2 : Option Value) (z3 : Option Value), zEv (zXs Ls xs) (d + 2) zm_256 (61, [some (.ref 215), some (.int v), z2, z3], [], zhp h) r) (y3 : Option Value) : zEv (zXs Ls xs) (d + 2) zm_256 (4, [some (.ref 215), some (.int s.1), some (.int s.2), y3], [], zhp h) r := by
  unfold qM_earliest_b4 at H
  refine zEv_k 4 (f' := (if (gI h 215 23) ≤ s.2 then 61 else 12, [some (.ref 215), some (.int s.1), some (.int s.2), y3], [], zhp h)) rfl (zEv_if (fun c1 => ?_) (fun c1 => ?_))
  · replace H := zif_t c1 H
    cases H
    exact K _ _
  · replace H := zif_f c1 H
    refine zEv_k 2 (f' := (14, [some (.ref 215), some (.int s.1), some (.int s.2), y3], [.int s.2, .ref 215], zhp h)) rfl ?_
    obtain ⟨p2, hp2, H⟩ := zbs H
    refine zEv_c (fun _ => rfl) rfl (t_qM_lifeOf (x1 := s.2) (h := h) (d := d) hp2) rfl rfl ?_
    obtain ⟨v4, hv4, H⟩ := zbs H
    have kv4 : zEv (zXs Ls xs) (d + 2) zm_256 (44, [some (.ref 215), some (.int s.1), some (.int s.2), y3], [.int v4], zhp h) r := by
      obtain ⟨v10, hv10, H⟩ := zlets H
      have kv10 : zEv (zXs Ls xs) (d + 2) zm_256 (54, [some (.ref 215), some (.int s.1), some (.int s.2), some (.int v4)], [.int v10], zhp h) r := by
        refine zEv_k 3 (f' := (4, [some (.ref 215), some (.int v10), some (.int (s.2 + 1)), some (.int v4)], [], zhp h)) rfl ?_
        cases H
        exact K _
      clear H
      refine zEv_k 3 (f' := (if v4 = 0 then 53 else 49, [some (.ref 215), some (.int s.1), some (.int s.2), some (.int v4)], [], zhp h)) rfl (zEv_if (fun c9 => ?_) (fun c9 => ?_))
      · replace hv10 := zif_t c9 hv10
        refine zEv_k 1 (f' := (54, [some (.ref 215), some (.int s.1), some (.int s.2), some (.int v4)], [.int s.1], zhp h)) rfl ?_
        cases hv10
        exact kv10
      · replace hv10 := zif_f c9 hv10
        refine zEv_k 2 (f' := (54, [some (.ref 215), some (.int s.1), some (.int s.2), some (.int v4)], [.int s.2], zhp h)) rfl ?_
        cases hv10
        exact kv10
    clear H
    refine zEv_k 2 (f' := (if p2 = (-1) then 43 else 21, [some (.ref 215), some (.int s.1), some (.int s.2), y3], [], zhp h)) rfl (zEv_if (fun c3 => ?_) (fun c3 => ?_))
    · replace hv4 := zif_t c3 hv4
      refine zEv_k 1 (f' := (44, [some (.ref 215), some (.int s.1), some (.int s.2), y3], [.int 0], zhp h)) rfl ?_
      cases hv4
      exact kv4
    · replace hv4 := zif_f c3 hv4
      refine zEv_k 3 (f' := (if s.1 = (-1) then 39 else 26, [some (.ref 215), some (.int s.1), some (.int s.2), y3], [], zhp h)) rfl (zEv_if (fun c5 => ?_) (fun c5 => ?_))
      · replace hv4 := zif_t c5 hv4
        refine zEv_k 2 (f' := (44, [some (.ref 215), some (.int s.1), some (.int s.2), y3], [.int 1], zhp h)) rfl ?_
        cases hv4
        exact kv4
      · replace hv4 := zif_f c5 hv4
        refine zEv_k 2 (f' := (28, [some (.ref 215), some (.int s.1), some (.int s.2), y3], [.int s.2, .ref 215], zhp h)) rfl ?_
        obtain ⟨p6, hp6, hv4⟩ := zbs hv4
        refine zEv_c (fun _ => rfl) rfl (t_qM_lifeOf (x1 := s.2) (h := h) (d := d) hp6) rfl rfl ?_
        refine zEv_k 2 (f' := (33, [some (.ref 215), some (.int s.1), some (.int s.2), y3], [.int s.1, .ref 215, .int p6], zhp h)) rfl ?_
        obtain ⟨p7, hp7, hv4⟩ := zbs hv4
        refine zEv_c (fun _ => rfl) rfl (t_qM_lifeOf (x1 := s.1) (h := h) (d := d) hp7) rfl rfl ?_
        refine zEv_k 1 (f' := (if p7 ≤ p6 then 43 else 39, [some (.ref 215), some (.int s.1), some (.int s.2), y3], [], zhp h)) rfl (zEv_if (fun c8 => ?_) (fun c8 => ?_))
        · replace hv4 := zif_t c8 hv4
          refine zEv_k 1 (f' := (44, [some (.ref 215), some (.int s.1), some (.int s.2), y3], [.int 0], zhp h)) rfl ?_
          cases hv4
          exact kv4
        · replace hv4 := zif_f c8 hv4
          refine zEv_k 2 (f' := (44, [some (.ref 215), some (.int s.1), some (.int s.2), y3], [.int 1], zhp h)) rfl ?_
          cases hv4
          exact kv4
theorem t_qM_earliest_b4 {Ls : Nat} {xs : Nat → Int32} {d : Nat} {h : zK} {r : zA} {t : Int32} (K : ∀ (z2 : Option Value) (z3 : Option Value), zEv (zXs Ls xs) (d + 2) zm_256 (61, [some (.ref 215), some (.int t), z2, z3], [], zhp h) r) (n : Nat) (s : Int32 × Int32) (H : zloop (qM_earliest_b4 h) n s = some t) (y3 : Option Value) : zEv (zXs Ls xs) (d + 2) zm_256 (4, [some (.ref 215), some (.int s.1), some (.int s.2), y3], [], zhp h) r := by
  have Z := zloop_P (P := fun s => ∀ (y3 : Option Value), zEv (zXs Ls xs) (d + 2) zm_256 (4, [some (.ref 215), some (.int s.1), some (.int s.2), y3], [], zhp h) r) (b := qM_earliest_b4 h) (t := t) (fun s s2 hb hk => by intro y3; exact t_qM_earliest_b4b hb hk y3) (fun s hb => by intro y3; exact t_qM_earliest_b4b hb K y3) n s H
  exact Z y3
def qM_earliest (h : zK) : Option (Int32) :=
  (zloop (qM_earliest_b4 h) zfu (-1, 0)).bind fun t11 =>
  some t11
theorem t_qM_earliest {Ls : Nat} {xs : Nat → Int32} {d : Nat} {h : zK} {p : Int32} (H : qM_earliest h = some p) : zEv (zXs Ls xs) (d + 2) zm_256 (0, [some (.ref 215), none, none, none], [], zhp h) (some (.int p), zhp h) := by
  unfold qM_earliest at H
  refine zEv_k 4 (f' := (4, [some (.ref 215), some (.int (-1)), some (.int 0), none], [], zhp h)) rfl ?_
  obtain ⟨t11, ht11, H⟩ := zbs H
  refine t_qM_earliest_b4 (h := h) ?_ zfu _ ht11 _
  intro y2 y3
  refine zEv_k 1 (f' := (62, [some (.ref 215), some (.int t11), y2, y3], [.int t11], zhp h)) rfl ?_
  cases H
  exact zEv_r rfl
def qM_lasting_b4 (h : zK) (s : Int32 × Int32) : Option ((Int32 × Int32) ⊕ (Int32)) :=
  if (gI h 215 23) ≤ s.2 then
    some (.inr s.1)
  else
    (qM_lifeOf s.2 h).bind fun p2 =>
    zlet (
        if ¬ p2 = (-1) then
          0
        else
          (1 : Int32) <<< (s.2 &&& 31)
      ) fun (v4 : Int32) =>
    some (.inl (s.1 ||| v4, s.2 + 1))
theorem t_qM_lasting_b4b {Ls : Nat} {xs : Nat → Int32} {d : Nat} {h : zK} {r : zA} {s : Int32 × Int32} {e : (Int32 × Int32) ⊕ (Int32)} (H : qM_lasting_b4 h s = some e) (K : match (generalizing := false) e with | .inl s' => zEv (zXs Ls xs) (d + 2) zm_257 (4, [some (.ref 215), some (.int s'.1), some (.int s'.2)], [], zhp h) r | .inr v => ∀ (z2 : Option Value), zEv (zXs Ls xs) (d + 2) zm_257 (37, [some (.ref 215), some (.int v), z2], [], zhp h) r) : zEv (zXs Ls xs) (d + 2) zm_257 (4, [some (.ref 215), some (.int s.1), some (.int s.2)], [], zhp h) r := by
  unfold qM_lasting_b4 at H
  refine zEv_k 4 (f' := (if (gI h 215 23) ≤ s.2 then 37 else 12, [some (.ref 215), some (.int s.1), some (.int s.2)], [], zhp h)) rfl (zEv_if (fun c1 => ?_) (fun c1 => ?_))
  · replace H := zif_t c1 H
    cases H
    exact K _
  · replace H := zif_f c1 H
    refine zEv_k 3 (f' := (15, [some (.ref 215), some (.int s.1), some (.int s.2)], [.int s.2, .ref 215, .int s.1], zhp h)) rfl ?_
    obtain ⟨p2, hp2, H⟩ := zbs H
    refine zEv_c (fun _ => rfl) rfl (t_qM_lifeOf (x1 := s.2) (h := h) (d := d) hp2) rfl rfl ?_
    obtain ⟨v4, hv4, H⟩ := zlets H
    have kv4 : zEv (zXs Ls xs) (d + 2) zm_257 (29, [some (.ref 215), some (.int s.1), some (.int s.2)], [.int v4, .int s.1], zhp h) r := by
      refine zEv_k 4 (f' := (4, [some (.ref 215), some (.int (s.1 ||| v4)), some (.int (s.2 + 1))], [], zhp h)) rfl ?_
      cases H
      exact K
    clear H
    refine zEv_k 2 (f' := (if ¬ p2 = (-1) then 28 else 22, [some (.ref 215), some (.int s.1), some (.int s.2)], [.int s.1], zhp h)) rfl (zEv_if (fun c3 => ?_) (fun c3 => ?_))
    · replace hv4 := zif_t c3 hv4
      refine zEv_k 1 (f' := (29, [some (.ref 215), some (.int s.1), some (.int s.2)], [.int 0, .int s.1], zhp h)) rfl ?_
      cases hv4
      exact kv4
    · replace hv4 := zif_f c3 hv4
      refine zEv_k 4 (f' := (29, [some (.ref 215), some (.int s.1), some (.int s.2)], [.int ((1 : Int32) <<< (s.2 &&& 31)), .int s.1], zhp h)) rfl ?_
      cases hv4
      exact kv4
theorem t_qM_lasting_b4 {Ls : Nat} {xs : Nat → Int32} {d : Nat} {h : zK} {r : zA} {t : Int32} (K : ∀ (z2 : Option Value), zEv (zXs Ls xs) (d + 2) zm_257 (37, [some (.ref 215), some (.int t), z2], [], zhp h) r) (n : Nat) (s : Int32 × Int32) (H : zloop (qM_lasting_b4 h) n s = some t) : zEv (zXs Ls xs) (d + 2) zm_257 (4, [some (.ref 215), some (.int s.1), some (.int s.2)], [], zhp h) r := by
  have Z := zloop_P (P := fun s => zEv (zXs Ls xs) (d + 2) zm_257 (4, [some (.ref 215), some (.int s.1), some (.int s.2)], [], zhp h) r) (b := qM_lasting_b4 h) (t := t) (fun s s2 hb hk => by exact t_qM_lasting_b4b hb hk) (fun s hb => by exact t_qM_lasting_b4b hb K) n s H
  exact Z
def qM_lasting (h : zK) : Option (Int32) :=
  (zloop (qM_lasting_b4 h) zfu (0, 0)).bind fun t5 =>
  some t5
theorem t_qM_lasting {Ls : Nat} {xs : Nat → Int32} {d : Nat} {h : zK} {p : Int32} (H : qM_lasting h = some p) : zEv (zXs Ls xs) (d + 2) zm_257 (0, [some (.ref 215), none, none], [], zhp h) (some (.int p), zhp h) := by
  unfold qM_lasting at H
  refine zEv_k 4 (f' := (4, [some (.ref 215), some (.int 0), some (.int 0)], [], zhp h)) rfl ?_
  obtain ⟨t5, ht5, H⟩ := zbs H
  refine t_qM_lasting_b4 (h := h) ?_ zfu _ ht5
  intro y2
  refine zEv_k 1 (f' := (38, [some (.ref 215), some (.int t5), y2], [.int t5], zhp h)) rfl ?_
  cases H
  exact zEv_r rfl
def qM_ofWit (x1 : Int32) (h : zK) : Option (Int32 × zK) :=
  if x1 = 0 then
    (qM_wittiest h).bind fun p1 =>
    some (p1, h)
  else if x1 = 1 then
    (qM_witsOf 127 h).bind fun p2 =>
    some (p2, h)
  else if x1 = 2 then
    (qM_liveliest h).bind fun p3 =>
    some (p3, h)
  else if x1 = 3 then
    zlet (
        if ¬ x1 = 4 then
          0
        else
          1
      ) fun (v5 : Int32) =>
    (qM_ruin v5 h).bind fun p6 =>
    some (p6.1, p6.2)
  else if x1 = 4 then
    zlet (
        if ¬ x1 = 4 then
          0
        else
          1
      ) fun (v8 : Int32) =>
    (qM_ruin v8 h).bind fun p9 =>
    some (p9.1, p9.2)
  else if x1 = 5 then
    zlet (
        if ¬ x1 = 6 then
          0
        else
          1
      ) fun (v11 : Int32) =>
    (qM_close v11 h).bind fun p12 =>
    some (p12, h)
  else if x1 = 6 then
    zlet (
        if ¬ x1 = 6 then
          0
        else
          1
      ) fun (v14 : Int32) =>
    (qM_close v14 h).bind fun p15 =>
    some (p15, h)
  else if x1 = 7 then
    zlet (
        if ¬ x1 = 8 then
          0
        else
          1
      ) fun (v17 : Int32) =>
    (qM_rows v17 h).bind fun p18 =>
    some (p18, h)
  else if x1 = 8 then
    zlet (
        if ¬ x1 = 8 then
          0
        else
          1
      ) fun (v20 : Int32) =>
    (qM_rows v20 h).bind fun p21 =>
    some (p21, h)
  else if x1 = 9 then
    (qM_cut h).bind fun p22 =>
    (qM_ones p22.1).bind fun p23 =>
    some (p23, p22.2)
  else
    (qM_cut h).bind fun p24 =>
    some (p24.1, p24.2)
theorem t_qM_ofWit {Ls : Nat} {xs : Nat → Int32} {d : Nat} {x1 : Int32} {h : zK} {p : Int32 × zK} (H : qM_ofWit x1 h = some p) : zEv (zXs Ls xs) (d + 6) zm_258 (0, [some (.ref 215), some (.int x1)], [], zhp h) (some (.int p.1), zhp p.2) := by
  unfold qM_ofWit at H
  refine zEv_k 1 (f' := (1, [some (.ref 215), some (.int x1)], [.int x1], zhp h)) rfl ?_
  refine zEv_ts rfl (by decide) (by decide) (by decide) (fun hh => ?_) (fun j hj hh => ?_)
  · replace H := zif_f (fun e => (by rw [e] at hh; exact absurd hh (by decide))) H
    replace H := zif_f (fun e => (by rw [e] at hh; exact absurd hh (by decide))) H
    replace H := zif_f (fun e => (by rw [e] at hh; exact absurd hh (by decide))) H
    replace H := zif_f (fun e => (by rw [e] at hh; exact absurd hh (by decide))) H
    replace H := zif_f (fun e => (by rw [e] at hh; exact absurd hh (by decide))) H
    replace H := zif_f (fun e => (by rw [e] at hh; exact absurd hh (by decide))) H
    replace H := zif_f (fun e => (by rw [e] at hh; exact absurd hh (by decide))) H
    replace H := zif_f (fun e => (by rw [e] at hh; exact absurd hh (by decide))) H
    replace H := zif_f (fun e => (by rw [e] at hh; exact absurd hh (by decide))) H
    replace H := zif_f (fun e => (by rw [e] at hh; exact absurd hh (by decide))) H
    refine zEv_k 1 (f' := (129, [some (.ref 215), some (.int x1)], [.ref 215], zhp h)) rfl ?_
    obtain ⟨p24, hp24, H⟩ := zbs H
    refine zEv_c (fun _ => rfl) rfl (t_qM_cut (h := h) (d := d) hp24) rfl rfl ?_
    cases H
    exact zEv_r rfl
  · rcases (by have hj2 : j < 10 := hj; omega : j = 0 ∨ j = 1 ∨ j = 2 ∨ j = 3 ∨ j = 4 ∨ j = 5 ∨ j = 6 ∨ j = 7 ∨ j = 8 ∨ j = 9) with rfl | rfl | rfl | rfl | rfl | rfl | rfl | rfl | rfl | rfl
    · have ex : x1 = 0 := zeqI hh (by decide)
      replace H := zif_t ex H
      refine zEv_k 1 (f' := (57, [some (.ref 215), some (.int x1)], [.ref 215], zhp h)) rfl ?_
      obtain ⟨p1, hp1, H⟩ := zbs H
      refine zEv_c (fun _ => rfl) rfl (t_qM_wittiest (h := h) (d := d + 4) hp1) rfl rfl ?_
      cases H
      exact zEv_r rfl
    · have ex : x1 = 1 := zeqI hh (by decide)
      replace H := zif_f (fun e => by rw [ex] at e; exact absurd e (by decide)) H
      replace H := zif_t ex H
      refine zEv_k 2 (f' := (64, [some (.ref 215), some (.int x1)], [.int 127, .ref 215], zhp h)) rfl ?_
      obtain ⟨p2, hp2, H⟩ := zbs H
      refine zEv_c (fun _ => rfl) rfl (t_qM_witsOf (x1 := 127) (h := h) (d := d + 4) hp2) rfl rfl ?_
      cases H
      exact zEv_r rfl
    · have ex : x1 = 2 := zeqI hh (by decide)
      replace H := zif_f (fun e => by rw [ex] at e; exact absurd e (by decide)) H
      replace H := zif_f (fun e => by rw [ex] at e; exact absurd e (by decide)) H
      replace H := zif_t ex H
      refine zEv_k 1 (f' := (69, [some (.ref 215), some (.int x1)], [.ref 215], zhp h)) rfl ?_
      obtain ⟨p3, hp3, H⟩ := zbs H
      refine zEv_c (fun _ => rfl) rfl (t_qM_liveliest (h := h) (d := d + 4) hp3) rfl rfl ?_
      cases H
      exact zEv_r rfl
    · have ex : x1 = 3 := zeqI hh (by decide)
      replace H := zif_f (fun e => by rw [ex] at e; exact absurd e (by decide)) H
      replace H := zif_f (fun e => by rw [ex] at e; exact absurd e (by decide)) H
      replace H := zif_f (fun e => by rw [ex] at e; exact absurd e (by decide)) H
      replace H := zif_t ex H
      obtain ⟨v5, hv5, H⟩ := zlets H
      have kv5 : zEv (zXs Ls xs) (d + 6) zm_258 (84, [some (.ref 215), some (.int x1)], [.int v5, .ref 215], zhp h) (some (.int p.1), zhp p.2) := by
        obtain ⟨p6, hp6, H⟩ := zbs H
        refine zEv_c (fun _ => rfl) rfl (t_qM_ruin (x1 := v5) (h := h) (d := d + 1) hp6) rfl rfl ?_
        cases H
        exact zEv_r rfl
      clear H
      refine zEv_k 4 (f' := (if ¬ x1 = 4 then 83 else 79, [some (.ref 215), some (.int x1)], [.ref 215], zhp h)) rfl (zEv_if (fun c4 => ?_) (fun c4 => ?_))
      · replace hv5 := zif_t c4 hv5
        refine zEv_k 1 (f' := (84, [some (.ref 215), some (.int x1)], [.int 0, .ref 215], zhp h)) rfl ?_
        cases hv5
        exact kv5
      · replace hv5 := zif_f c4 hv5
        refine zEv_k 2 (f' := (84, [some (.ref 215), some (.int x1)], [.int 1, .ref 215], zhp h)) rfl ?_
        cases hv5
        exact kv5
    · have ex : x1 = 4 := zeqI hh (by decide)
      replace H := zif_f (fun e => by rw [ex] at e; exact absurd e (by decide)) H
      replace H := zif_f (fun e => by rw [ex] at e; exact absurd e (by decide)) H
      replace H := zif_f (fun e => by rw [ex] at e; exact absurd e (by decide)) H
      replace H := zif_f (fun e => by rw [ex] at e; exact absurd e (by decide)) H
      replace H := zif_t ex H
      obtain ⟨v8, hv8, H⟩ := zlets H
      have kv8 : zEv (zXs Ls xs) (d + 6) zm_258 (84, [some (.ref 215), some (.int x1)], [.int v8, .ref 215], zhp h) (some (.int p.1), zhp p.2) := by
        obtain ⟨p9, hp9, H⟩ := zbs H
        refine zEv_c (fun _ => rfl) rfl (t_qM_ruin (x1 := v8) (h := h) (d := d + 1) hp9) rfl rfl ?_
        cases H
        exact zEv_r rfl
      clear H
      refine zEv_k 4 (f' := (if ¬ x1 = 4 then 83 else 79, [some (.ref 215), some (.int x1)], [.ref 215], zhp h)) rfl (zEv_if (fun c7 => ?_) (fun c7 => ?_))
      · replace hv8 := zif_t c7 hv8
        refine zEv_k 1 (f' := (84, [some (.ref 215), some (.int x1)], [.int 0, .ref 215], zhp h)) rfl ?_
        cases hv8
        exact kv8
      · replace hv8 := zif_f c7 hv8
        refine zEv_k 2 (f' := (84, [some (.ref 215), some (.int x1)], [.int 1, .ref 215], zhp h)) rfl ?_
        cases hv8
        exact kv8
    · have ex : x1 = 5 := zeqI hh (by decide)
      replace H := zif_f (fun e => by rw [ex] at e; exact absurd e (by decide)) H
      replace H := zif_f (fun e => by rw [ex] at e; exact absurd e (by decide)) H
      replace H := zif_f (fun e => by rw [ex] at e; exact absurd e (by decide)) H
      replace H := zif_f (fun e => by rw [ex] at e; exact absurd e (by decide)) H
      replace H := zif_f (fun e => by rw [ex] at e; exact absurd e (by decide)) H
      replace H := zif_t ex H
      obtain ⟨v11, hv11, H⟩ := zlets H
      have kv11 : zEv (zXs Ls xs) (d + 6) zm_258 (100, [some (.ref 215), some (.int x1)], [.int v11, .ref 215], zhp h) (some (.int p.1), zhp p.2) := by
        obtain ⟨p12, hp12, H⟩ := zbs H
        refine zEv_c (fun _ => rfl) rfl (t_qM_close (x1 := v11) (h := h) (d := d + 4) hp12) rfl rfl ?_
        cases H
        exact zEv_r rfl
      clear H
      refine zEv_k 4 (f' := (if ¬ x1 = 6 then 99 else 95, [some (.ref 215), some (.int x1)], [.ref 215], zhp h)) rfl (zEv_if (fun c10 => ?_) (fun c10 => ?_))
      · replace hv11 := zif_t c10 hv11
        refine zEv_k 1 (f' := (100, [some (.ref 215), some (.int x1)], [.int 0, .ref 215], zhp h)) rfl ?_
        cases hv11
        exact kv11
      · replace hv11 := zif_f c10 hv11
        refine zEv_k 2 (f' := (100, [some (.ref 215), some (.int x1)], [.int 1, .ref 215], zhp h)) rfl ?_
        cases hv11
        exact kv11
    · have ex : x1 = 6 := zeqI hh (by decide)
      replace H := zif_f (fun e => by rw [ex] at e; exact absurd e (by decide)) H
      replace H := zif_f (fun e => by rw [ex] at e; exact absurd e (by decide)) H
      replace H := zif_f (fun e => by rw [ex] at e; exact absurd e (by decide)) H
      replace H := zif_f (fun e => by rw [ex] at e; exact absurd e (by decide)) H
      replace H := zif_f (fun e => by rw [ex] at e; exact absurd e (by decide)) H
      replace H := zif_f (fun e => by rw [ex] at e; exact absurd e (by decide)) H
      replace H := zif_t ex H
      obtain ⟨v14, hv14, H⟩ := zlets H
      have kv14 : zEv (zXs Ls xs) (d + 6) zm_258 (100, [some (.ref 215), some (.int x1)], [.int v14, .ref 215], zhp h) (some (.int p.1), zhp p.2) := by
        obtain ⟨p15, hp15, H⟩ := zbs H
        refine zEv_c (fun _ => rfl) rfl (t_qM_close (x1 := v14) (h := h) (d := d + 4) hp15) rfl rfl ?_
        cases H
        exact zEv_r rfl
      clear H
      refine zEv_k 4 (f' := (if ¬ x1 = 6 then 99 else 95, [some (.ref 215), some (.int x1)], [.ref 215], zhp h)) rfl (zEv_if (fun c13 => ?_) (fun c13 => ?_))
      · replace hv14 := zif_t c13 hv14
        refine zEv_k 1 (f' := (100, [some (.ref 215), some (.int x1)], [.int 0, .ref 215], zhp h)) rfl ?_
        cases hv14
        exact kv14
      · replace hv14 := zif_f c13 hv14
        refine zEv_k 2 (f' := (100, [some (.ref 215), some (.int x1)], [.int 1, .ref 215], zhp h)) rfl ?_
        cases hv14
        exact kv14
    · have ex : x1 = 7 := zeqI hh (by decide)
      replace H := zif_f (fun e => by rw [ex] at e; exact absurd e (by decide)) H
      replace H := zif_f (fun e => by rw [ex] at e; exact absurd e (by decide)) H
      replace H := zif_f (fun e => by rw [ex] at e; exact absurd e (by decide)) H
      replace H := zif_f (fun e => by rw [ex] at e; exact absurd e (by decide)) H
      replace H := zif_f (fun e => by rw [ex] at e; exact absurd e (by decide)) H
      replace H := zif_f (fun e => by rw [ex] at e; exact absurd e (by decide)) H
      replace H := zif_f (fun e => by rw [ex] at e; exact absurd e (by decide)) H
      replace H := zif_t ex H
      obtain ⟨v17, hv17, H⟩ := zlets H
      have kv17 : zEv (zXs Ls xs) (d + 6) zm_258 (116, [some (.ref 215), some (.int x1)], [.int v17, .ref 215], zhp h) (some (.int p.1), zhp p.2) := by
        obtain ⟨p18, hp18, H⟩ := zbs H
        refine zEv_c (fun _ => rfl) rfl (t_qM_rows (x1 := v17) (h := h) (d := d + 3) hp18) rfl rfl ?_
        cases H
        exact zEv_r rfl
      clear H
      refine zEv_k 4 (f' := (if ¬ x1 = 8 then 115 else 111, [some (.ref 215), some (.int x1)], [.ref 215], zhp h)) rfl (zEv_if (fun c16 => ?_) (fun c16 => ?_))
      · replace hv17 := zif_t c16 hv17
        refine zEv_k 1 (f' := (116, [some (.ref 215), some (.int x1)], [.int 0, .ref 215], zhp h)) rfl ?_
        cases hv17
        exact kv17
      · replace hv17 := zif_f c16 hv17
        refine zEv_k 2 (f' := (116, [some (.ref 215), some (.int x1)], [.int 1, .ref 215], zhp h)) rfl ?_
        cases hv17
        exact kv17
    · have ex : x1 = 8 := zeqI hh (by decide)
      replace H := zif_f (fun e => by rw [ex] at e; exact absurd e (by decide)) H
      replace H := zif_f (fun e => by rw [ex] at e; exact absurd e (by decide)) H
      replace H := zif_f (fun e => by rw [ex] at e; exact absurd e (by decide)) H
      replace H := zif_f (fun e => by rw [ex] at e; exact absurd e (by decide)) H
      replace H := zif_f (fun e => by rw [ex] at e; exact absurd e (by decide)) H
      replace H := zif_f (fun e => by rw [ex] at e; exact absurd e (by decide)) H
      replace H := zif_f (fun e => by rw [ex] at e; exact absurd e (by decide)) H
      replace H := zif_f (fun e => by rw [ex] at e; exact absurd e (by decide)) H
      replace H := zif_t ex H
      obtain ⟨v20, hv20, H⟩ := zlets H
      have kv20 : zEv (zXs Ls xs) (d + 6) zm_258 (116, [some (.ref 215), some (.int x1)], [.int v20, .ref 215], zhp h) (some (.int p.1), zhp p.2) := by
        obtain ⟨p21, hp21, H⟩ := zbs H
        refine zEv_c (fun _ => rfl) rfl (t_qM_rows (x1 := v20) (h := h) (d := d + 3) hp21) rfl rfl ?_
        cases H
        exact zEv_r rfl
      clear H
      refine zEv_k 4 (f' := (if ¬ x1 = 8 then 115 else 111, [some (.ref 215), some (.int x1)], [.ref 215], zhp h)) rfl (zEv_if (fun c19 => ?_) (fun c19 => ?_))
      · replace hv20 := zif_t c19 hv20
        refine zEv_k 1 (f' := (116, [some (.ref 215), some (.int x1)], [.int 0, .ref 215], zhp h)) rfl ?_
        cases hv20
        exact kv20
      · replace hv20 := zif_f c19 hv20
        refine zEv_k 2 (f' := (116, [some (.ref 215), some (.int x1)], [.int 1, .ref 215], zhp h)) rfl ?_
        cases hv20
        exact kv20
    · have ex : x1 = 9 := zeqI hh (by decide)
      replace H := zif_f (fun e => by rw [ex] at e; exact absurd e (by decide)) H
      replace H := zif_f (fun e => by rw [ex] at e; exact absurd e (by decide)) H
      replace H := zif_f (fun e => by rw [ex] at e; exact absurd e (by decide)) H
      replace H := zif_f (fun e => by rw [ex] at e; exact absurd e (by decide)) H
      replace H := zif_f (fun e => by rw [ex] at e; exact absurd e (by decide)) H
      replace H := zif_f (fun e => by rw [ex] at e; exact absurd e (by decide)) H
      replace H := zif_f (fun e => by rw [ex] at e; exact absurd e (by decide)) H
      replace H := zif_f (fun e => by rw [ex] at e; exact absurd e (by decide)) H
      replace H := zif_f (fun e => by rw [ex] at e; exact absurd e (by decide)) H
      replace H := zif_t ex H
      refine zEv_k 1 (f' := (121, [some (.ref 215), some (.int x1)], [.ref 215], zhp h)) rfl ?_
      obtain ⟨p22, hp22, H⟩ := zbs H
      refine zEv_c (fun _ => rfl) rfl (t_qM_cut (h := h) (d := d) hp22) rfl rfl ?_
      obtain ⟨p23, hp23, H⟩ := zbs H
      refine zEv_c (fun _ => rfl) rfl (t_qM_ones (x0 := p22.1) (h := p22.2) (d := d + 4) hp23) rfl rfl ?_
      cases H
      exact zEv_r rfl
def qM_wit (x1 : Int32) (x2 : Int32) (h : zK) : Option (Int32 × zK) :=
  zlet (sI h 215 0 0) fun h1 =>
  (qM_hand x1 h1).bind fun p2 =>
  if ¬ p2.1 = 0 then
    if (zf_in x2 0 10) = 0 then
      if x2 = 11 then
        (qM_good p2.2).bind fun p5 =>
        some (p5, p2.2)
      else if x2 = 12 then
        (qM_mute p2.2).bind fun p6 =>
        some (p6, p2.2)
      else if x2 = 13 then
        (qM_ring p2.2).bind fun p7 =>
        some (p7, p2.2)
      else if x2 = 14 then
        zlet (
            if ¬ x2 = 15 then
              0
            else
              1
          ) fun (v9 : Int32) =>
        (qM_calm v9 p2.2).bind fun p10 =>
        some (p10.1, p10.2)
      else if x2 = 15 then
        zlet (
            if ¬ x2 = 15 then
              0
            else
              1
          ) fun (v12 : Int32) =>
        (qM_calm v12 p2.2).bind fun p13 =>
        some (p13.1, p13.2)
      else if x2 = 16 then
        (qM_pair p2.2).bind fun p14 =>
        some (p14.1, p14.2)
      else if x2 = 17 then
        (qM_earliest p2.2).bind fun p15 =>
        some (p15, p2.2)
      else if x2 = 18 then
        (qM_lasting p2.2).bind fun p16 =>
        some (p16, p2.2)
      else
        some (-2, p2.2)
    else
      (qM_ofWit x2 p2.2).bind fun p17 =>
      some (p17.1, p17.2)
  else
    some (-2, p2.2)
theorem t_qM_wit {Ls : Nat} {xs : Nat → Int32} {d : Nat} {x1 : Int32} {x2 : Int32} {h : zK} {p : Int32 × zK} (H : qM_wit x1 x2 h = some p) : zEv (zXs Ls xs) (d + 7) zm_259 (0, [some (.ref 215), some (.int x1), some (.int x2)], [], zhp h) (some (.int p.1), zhp p.2) := by
  unfold qM_wit at H
  obtain ⟨h1, eh1, H⟩ := zlets H
  refine zEv_w (F := fun z => (5, [some (.ref 215), some (.int x1), some (.int x2)], [], zhp z)) (h0 := sI h 215 0 0) 3 rfl eh1 ?_
  refine zEv_k 2 (f' := (7, [some (.ref 215), some (.int x1), some (.int x2)], [.int x1, .ref 215], zhp h1)) rfl ?_
  obtain ⟨p2, hp2, H⟩ := zbs H
  refine zEv_c (fun _ => rfl) rfl (t_qM_hand (x1 := x1) (h := h1) (d := d + 4) hp2) rfl rfl ?_
  refine zEv_k 1 (f' := (if ¬ p2.1 = 0 then 16 else 13, [some (.ref 215), some (.int x1), some (.int x2)], [], zhp p2.2)) rfl (zEv_if (fun c3 => ?_) (fun c3 => ?_))
  · replace H := zif_t c3 H
    refine zEv_k 3 (f' := (20, [some (.ref 215), some (.int x1), some (.int x2)], [.int 10, .int 0, .int x2], zhp p2.2)) rfl ?_
    refine zEv_c (fun _ => rfl) rfl ev_zf_in rfl rfl ?_
    refine zEv_k 1 (f' := (if (zf_in x2 0 10) = 0 then 32 else 26, [some (.ref 215), some (.int x1), some (.int x2)], [], zhp p2.2)) rfl (zEv_if (fun c4 => ?_) (fun c4 => ?_))
    · replace H := zif_t c4 H
      refine zEv_k 1 (f' := (33, [some (.ref 215), some (.int x1), some (.int x2)], [.int x2], zhp p2.2)) rfl ?_
      refine zEv_ts rfl (by decide) (by decide) (by decide) (fun hh => ?_) (fun j hj hh => ?_)
      · replace H := zif_f (fun e => (by rw [e] at hh; exact absurd hh (by decide))) H
        replace H := zif_f (fun e => (by rw [e] at hh; exact absurd hh (by decide))) H
        replace H := zif_f (fun e => (by rw [e] at hh; exact absurd hh (by decide))) H
        replace H := zif_f (fun e => (by rw [e] at hh; exact absurd hh (by decide))) H
        replace H := zif_f (fun e => (by rw [e] at hh; exact absurd hh (by decide))) H
        replace H := zif_f (fun e => (by rw [e] at hh; exact absurd hh (by decide))) H
        replace H := zif_f (fun e => (by rw [e] at hh; exact absurd hh (by decide))) H
        replace H := zif_f (fun e => (by rw [e] at hh; exact absurd hh (by decide))) H
        refine zEv_k 1 (f' := (128, [some (.ref 215), some (.int x1), some (.int x2)], [.int (-2)], zhp p2.2)) rfl ?_
        cases H
        exact zEv_r rfl
      · rcases (by have hj2 : j < 8 := hj; omega : j = 0 ∨ j = 1 ∨ j = 2 ∨ j = 3 ∨ j = 4 ∨ j = 5 ∨ j = 6 ∨ j = 7) with rfl | rfl | rfl | rfl | rfl | rfl | rfl | rfl
        · have ex : x2 = 11 := zeqI hh (by decide)
          replace H := zif_t ex H
          refine zEv_k 1 (f' := (81, [some (.ref 215), some (.int x1), some (.int x2)], [.ref 215], zhp p2.2)) rfl ?_
          obtain ⟨p5, hp5, H⟩ := zbs H
          refine zEv_c (fun _ => rfl) rfl (t_qM_good (h := p2.2) (d := d + 4) hp5) rfl rfl ?_
          cases H
          exact zEv_r rfl
        · have ex : x2 = 12 := zeqI hh (by decide)
          replace H := zif_f (fun e => by rw [ex] at e; exact absurd e (by decide)) H
          replace H := zif_t ex H
          refine zEv_k 1 (f' := (86, [some (.ref 215), some (.int x1), some (.int x2)], [.ref 215], zhp p2.2)) rfl ?_
          obtain ⟨p6, hp6, H⟩ := zbs H
          refine zEv_c (fun _ => rfl) rfl (t_qM_mute (h := p2.2) (d := d + 4) hp6) rfl rfl ?_
          cases H
          exact zEv_r rfl
        · have ex : x2 = 13 := zeqI hh (by decide)
          replace H := zif_f (fun e => by rw [ex] at e; exact absurd e (by decide)) H
          replace H := zif_f (fun e => by rw [ex] at e; exact absurd e (by decide)) H
          replace H := zif_t ex H
          refine zEv_k 1 (f' := (91, [some (.ref 215), some (.int x1), some (.int x2)], [.ref 215], zhp p2.2)) rfl ?_
          obtain ⟨p7, hp7, H⟩ := zbs H
          refine zEv_c (fun _ => rfl) rfl (t_qM_ring (h := p2.2) (d := d + 4) hp7) rfl rfl ?_
          cases H
          exact zEv_r rfl
        · have ex : x2 = 14 := zeqI hh (by decide)
          replace H := zif_f (fun e => by rw [ex] at e; exact absurd e (by decide)) H
          replace H := zif_f (fun e => by rw [ex] at e; exact absurd e (by decide)) H
          replace H := zif_f (fun e => by rw [ex] at e; exact absurd e (by decide)) H
          replace H := zif_t ex H
          obtain ⟨v9, hv9, H⟩ := zlets H
          have kv9 : zEv (zXs Ls xs) (d + 7) zm_259 (107, [some (.ref 215), some (.int x1), some (.int x2)], [.int v9, .ref 215], zhp p2.2) (some (.int p.1), zhp p.2) := by
            obtain ⟨p10, hp10, H⟩ := zbs H
            refine zEv_c (fun _ => rfl) rfl (t_qM_calm (x1 := v9) (h := p2.2) (d := d + 2) hp10) rfl rfl ?_
            cases H
            exact zEv_r rfl
          clear H
          refine zEv_k 4 (f' := (if ¬ x2 = 15 then 106 else 102, [some (.ref 215), some (.int x1), some (.int x2)], [.ref 215], zhp p2.2)) rfl (zEv_if (fun c8 => ?_) (fun c8 => ?_))
          · replace hv9 := zif_t c8 hv9
            refine zEv_k 1 (f' := (107, [some (.ref 215), some (.int x1), some (.int x2)], [.int 0, .ref 215], zhp p2.2)) rfl ?_
            cases hv9
            exact kv9
          · replace hv9 := zif_f c8 hv9
            refine zEv_k 2 (f' := (107, [some (.ref 215), some (.int x1), some (.int x2)], [.int 1, .ref 215], zhp p2.2)) rfl ?_
            cases hv9
            exact kv9
        · have ex : x2 = 15 := zeqI hh (by decide)
          replace H := zif_f (fun e => by rw [ex] at e; exact absurd e (by decide)) H
          replace H := zif_f (fun e => by rw [ex] at e; exact absurd e (by decide)) H
          replace H := zif_f (fun e => by rw [ex] at e; exact absurd e (by decide)) H
          replace H := zif_f (fun e => by rw [ex] at e; exact absurd e (by decide)) H
          replace H := zif_t ex H
          obtain ⟨v12, hv12, H⟩ := zlets H
          have kv12 : zEv (zXs Ls xs) (d + 7) zm_259 (107, [some (.ref 215), some (.int x1), some (.int x2)], [.int v12, .ref 215], zhp p2.2) (some (.int p.1), zhp p.2) := by
            obtain ⟨p13, hp13, H⟩ := zbs H
            refine zEv_c (fun _ => rfl) rfl (t_qM_calm (x1 := v12) (h := p2.2) (d := d + 2) hp13) rfl rfl ?_
            cases H
            exact zEv_r rfl
          clear H
          refine zEv_k 4 (f' := (if ¬ x2 = 15 then 106 else 102, [some (.ref 215), some (.int x1), some (.int x2)], [.ref 215], zhp p2.2)) rfl (zEv_if (fun c11 => ?_) (fun c11 => ?_))
          · replace hv12 := zif_t c11 hv12
            refine zEv_k 1 (f' := (107, [some (.ref 215), some (.int x1), some (.int x2)], [.int 0, .ref 215], zhp p2.2)) rfl ?_
            cases hv12
            exact kv12
          · replace hv12 := zif_f c11 hv12
            refine zEv_k 2 (f' := (107, [some (.ref 215), some (.int x1), some (.int x2)], [.int 1, .ref 215], zhp p2.2)) rfl ?_
            cases hv12
            exact kv12
        · have ex : x2 = 16 := zeqI hh (by decide)
          replace H := zif_f (fun e => by rw [ex] at e; exact absurd e (by decide)) H
          replace H := zif_f (fun e => by rw [ex] at e; exact absurd e (by decide)) H
          replace H := zif_f (fun e => by rw [ex] at e; exact absurd e (by decide)) H
          replace H := zif_f (fun e => by rw [ex] at e; exact absurd e (by decide)) H
          replace H := zif_f (fun e => by rw [ex] at e; exact absurd e (by decide)) H
          replace H := zif_t ex H
          refine zEv_k 1 (f' := (112, [some (.ref 215), some (.int x1), some (.int x2)], [.ref 215], zhp p2.2)) rfl ?_
          obtain ⟨p14, hp14, H⟩ := zbs H
          refine zEv_c (fun _ => rfl) rfl (t_qM_pair (h := p2.2) (d := d + 1) hp14) rfl rfl ?_
          cases H
          exact zEv_r rfl
        · have ex : x2 = 17 := zeqI hh (by decide)
          replace H := zif_f (fun e => by rw [ex] at e; exact absurd e (by decide)) H
          replace H := zif_f (fun e => by rw [ex] at e; exact absurd e (by decide)) H
          replace H := zif_f (fun e => by rw [ex] at e; exact absurd e (by decide)) H
          replace H := zif_f (fun e => by rw [ex] at e; exact absurd e (by decide)) H
          replace H := zif_f (fun e => by rw [ex] at e; exact absurd e (by decide)) H
          replace H := zif_f (fun e => by rw [ex] at e; exact absurd e (by decide)) H
          replace H := zif_t ex H
          refine zEv_k 1 (f' := (117, [some (.ref 215), some (.int x1), some (.int x2)], [.ref 215], zhp p2.2)) rfl ?_
          obtain ⟨p15, hp15, H⟩ := zbs H
          refine zEv_c (fun _ => rfl) rfl (t_qM_earliest (h := p2.2) (d := d + 4) hp15) rfl rfl ?_
          cases H
          exact zEv_r rfl
        · have ex : x2 = 18 := zeqI hh (by decide)
          replace H := zif_f (fun e => by rw [ex] at e; exact absurd e (by decide)) H
          replace H := zif_f (fun e => by rw [ex] at e; exact absurd e (by decide)) H
          replace H := zif_f (fun e => by rw [ex] at e; exact absurd e (by decide)) H
          replace H := zif_f (fun e => by rw [ex] at e; exact absurd e (by decide)) H
          replace H := zif_f (fun e => by rw [ex] at e; exact absurd e (by decide)) H
          replace H := zif_f (fun e => by rw [ex] at e; exact absurd e (by decide)) H
          replace H := zif_f (fun e => by rw [ex] at e; exact absurd e (by decide)) H
          replace H := zif_t ex H
          refine zEv_k 1 (f' := (122, [some (.ref 215), some (.int x1), some (.int x2)], [.ref 215], zhp p2.2)) rfl ?_
          obtain ⟨p16, hp16, H⟩ := zbs H
          refine zEv_c (fun _ => rfl) rfl (t_qM_lasting (h := p2.2) (d := d + 4) hp16) rfl rfl ?_
          cases H
          exact zEv_r rfl
    · replace H := zif_f c4 H
      refine zEv_k 2 (f' := (28, [some (.ref 215), some (.int x1), some (.int x2)], [.int x2, .ref 215], zhp p2.2)) rfl ?_
      obtain ⟨p17, hp17, H⟩ := zbs H
      refine zEv_c (fun _ => rfl) rfl (t_qM_ofWit (x1 := x2) (h := p2.2) (d := d) hp17) rfl rfl ?_
      cases H
      exact zEv_r rfl
  · replace H := zif_f c3 H
    refine zEv_k 1 (f' := (15, [some (.ref 215), some (.int x1), some (.int x2)], [.int (-2)], zhp p2.2)) rfl ?_
    cases H
    exact zEv_r rfl
def qM_flat_b30 (x2 : Int32) (h : zK) (s : Int32 × Int32) : Option ((Int32 × Int32) ⊕ (Int32)) :=
  if (gI h 215 23) ≤ s.2 then
    some (.inr s.1)
  else
    (qM_witIn s.2 x2 h).bind fun p6 =>
    zlet (
        if ¬ p6 = 0 then
          0
        else
          1
      ) fun (v8 : Int32) =>
    some (.inl (s.1 + v8, s.2 + 1))
theorem t_qM_flat_b30b {Ls : Nat} {xs : Nat → Int32} {d : Nat} {x2 : Int32} {h : zK} {r : zA} {s : Int32 × Int32} {e : (Int32 × Int32) ⊕ (Int32)} (H : qM_flat_b30 x2 h s = some e) (K : match (generalizing := false) e with | .inl s' => ∀ (z1 : Option Value), zEv (zXs Ls xs) (d + 3) zm_260 (30, [some (.ref 215), z1, some (.int x2), some (.int s'.1), some (.int s'.2)], [], zhp h) r | .inr v => ∀ (z1 : Option Value) (z4 : Option Value), zEv (zXs Ls xs) (d + 3) zm_260 (63, [some (.ref 215), z1, some (.int x2), some (.int v), z4], [], zhp h) r) (y1 : Option Value) : zEv (zXs Ls xs) (d + 3) zm_260 (30, [some (.ref 215), y1, some (.int x2), some (.int s.1), some (.int s.2)], [], zhp h) r := by
  unfold qM_flat_b30 at H
  refine zEv_k 4 (f' := (if (gI h 215 23) ≤ s.2 then 63 else 39, [some (.ref 215), y1, some (.int x2), some (.int s.1), some (.int s.2)], [], zhp h)) rfl (zEv_if (fun c5 => ?_) (fun c5 => ?_))
  · replace H := zif_t c5 H
    cases H
    exact K _ _
  · replace H := zif_f c5 H
    refine zEv_k 4 (f' := (44, [some (.ref 215), y1, some (.int x2), some (.int s.1), some (.int s.2)], [.int x2, .int s.2, .ref 215, .int s.1], zhp h)) rfl ?_
    obtain ⟨p6, hp6, H⟩ := zbs H
    refine zEv_c (fun _ => rfl) rfl (t_qM_witIn (x1 := s.2) (x2 := x2) (h := h) (d := d + 1) hp6) rfl rfl ?_
    obtain ⟨v8, hv8, H⟩ := zlets H
    have kv8 : zEv (zXs Ls xs) (d + 3) zm_260 (55, [some (.ref 215), y1, some (.int x2), some (.int s.1), some (.int s.2)], [.int v8, .int s.1], zhp h) r := by
      refine zEv_k 4 (f' := (30, [some (.ref 215), y1, some (.int x2), some (.int (s.1 + v8)), some (.int (s.2 + 1))], [], zhp h)) rfl ?_
      cases H
      exact K _
    clear H
    refine zEv_k 1 (f' := (if ¬ p6 = 0 then 54 else 50, [some (.ref 215), y1, some (.int x2), some (.int s.1), some (.int s.2)], [.int s.1], zhp h)) rfl (zEv_if (fun c7 => ?_) (fun c7 => ?_))
    · replace hv8 := zif_t c7 hv8
      refine zEv_k 1 (f' := (55, [some (.ref 215), y1, some (.int x2), some (.int s.1), some (.int s.2)], [.int 0, .int s.1], zhp h)) rfl ?_
      cases hv8
      exact kv8
    · replace hv8 := zif_f c7 hv8
      refine zEv_k 2 (f' := (55, [some (.ref 215), y1, some (.int x2), some (.int s.1), some (.int s.2)], [.int 1, .int s.1], zhp h)) rfl ?_
      cases hv8
      exact kv8
theorem t_qM_flat_b30 {Ls : Nat} {xs : Nat → Int32} {d : Nat} {x2 : Int32} {h : zK} {r : zA} {t : Int32} (K : ∀ (z1 : Option Value) (z4 : Option Value), zEv (zXs Ls xs) (d + 3) zm_260 (63, [some (.ref 215), z1, some (.int x2), some (.int t), z4], [], zhp h) r) (n : Nat) (s : Int32 × Int32) (H : zloop (qM_flat_b30 x2 h) n s = some t) (y1 : Option Value) : zEv (zXs Ls xs) (d + 3) zm_260 (30, [some (.ref 215), y1, some (.int x2), some (.int s.1), some (.int s.2)], [], zhp h) r := by
  have Z := zloop_P (P := fun s => ∀ (y1 : Option Value), zEv (zXs Ls xs) (d + 3) zm_260 (30, [some (.ref 215), y1, some (.int x2), some (.int s.1), some (.int s.2)], [], zhp h) r) (b := qM_flat_b30 x2 h) (t := t) (fun s s2 hb hk => by intro y1; exact t_qM_flat_b30b hb hk y1) (fun s hb => by intro y1; exact t_qM_flat_b30b hb K y1) n s H
  exact Z y1
def qM_flat (x1 : Int32) (x2 : Int32) (h : zK) : Option (Int32 × zK) :=
  zlet (sI h 215 0 0) fun h1 =>
  if (zf_in x2 0 50) = 0 then
    some (-1, h1)
  else
    (qM_hand x1 h1).bind fun p3 =>
    if ¬ p3.1 = 0 then
      (zloop (qM_flat_b30 x2 p3.2) zfu (0, 0)).bind fun t9 =>
      some (t9, p3.2)
    else
      some (-1, p3.2)
theorem t_qM_flat {Ls : Nat} {xs : Nat → Int32} {d : Nat} {x1 : Int32} {x2 : Int32} {h : zK} {p : Int32 × zK} (H : qM_flat x1 x2 h = some p) : zEv (zXs Ls xs) (d + 3) zm_260 (0, [some (.ref 215), some (.int x1), some (.int x2), none, none], [], zhp h) (some (.int p.1), zhp p.2) := by
  unfold qM_flat at H
  obtain ⟨h1, eh1, H⟩ := zlets H
  refine zEv_w (F := fun z => (5, [some (.ref 215), some (.int x1), some (.int x2), none, none], [], zhp z)) (h0 := sI h 215 0 0) 3 rfl eh1 ?_
  refine zEv_k 3 (f' := (9, [some (.ref 215), some (.int x1), some (.int x2), none, none], [.int 50, .int 0, .int x2], zhp h1)) rfl ?_
  refine zEv_c (fun _ => rfl) rfl ev_zf_in rfl rfl ?_
  refine zEv_k 1 (f' := (if (zf_in x2 0 50) = 0 then 23 else 15, [some (.ref 215), some (.int x1), some (.int x2), none, none], [], zhp h1)) rfl (zEv_if (fun c2 => ?_) (fun c2 => ?_))
  · replace H := zif_t c2 H
    refine zEv_k 1 (f' := (24, [some (.ref 215), some (.int x1), some (.int x2), none, none], [.int (-1)], zhp h1)) rfl ?_
    cases H
    exact zEv_r rfl
  · replace H := zif_f c2 H
    refine zEv_k 2 (f' := (17, [some (.ref 215), some (.int x1), some (.int x2), none, none], [.int x1, .ref 215], zhp h1)) rfl ?_
    obtain ⟨p3, hp3, H⟩ := zbs H
    refine zEv_c (fun _ => rfl) rfl (t_qM_hand (x1 := x1) (h := h1) (d := d) hp3) rfl rfl ?_
    refine zEv_k 1 (f' := (if ¬ p3.1 = 0 then 25 else 23, [some (.ref 215), some (.int x1), some (.int x2), none, none], [], zhp p3.2)) rfl (zEv_if (fun c4 => ?_) (fun c4 => ?_))
    · replace H := zif_t c4 H
      refine zEv_k 4 (f' := (30, [some (.ref 215), some (.int x1), some (.int x2), some (.int 0), some (.int 0)], [], zhp p3.2)) rfl ?_
      obtain ⟨t9, ht9, H⟩ := zbs H
      refine t_qM_flat_b30 (x2 := x2) (h := p3.2) ?_ zfu _ ht9 _
      intro y1 y4
      refine zEv_k 1 (f' := (64, [some (.ref 215), y1, some (.int x2), some (.int t9), y4], [.int t9], zhp p3.2)) rfl ?_
      cases H
      exact zEv_r rfl
    · replace H := zif_f c4 H
      refine zEv_k 1 (f' := (24, [some (.ref 215), some (.int x1), some (.int x2), none, none], [.int (-1)], zhp p3.2)) rfl ?_
      cases H
      exact zEv_r rfl
def qM_next_b30 (x2 : Int32) (s : Int32 × Int32 × zK) : Option ((Int32 × Int32 × zK) ⊕ (Int32 × zK)) :=
  if x2 ≤ s.2.1 then
    some (.inr (s.1, s.2.2))
  else
    (qM_goesOn s.2.2).bind fun p6 =>
    some (.inl (gI s.2.2 215 28, s.2.1 + 1, p6.2))
theorem t_qM_next_b30b {Ls : Nat} {xs : Nat → Int32} {d : Nat} {x2 : Int32} {r : zA} {s : Int32 × Int32 × zK} {e : (Int32 × Int32 × zK) ⊕ (Int32 × zK)} (H : qM_next_b30 x2 s = some e) (K : match (generalizing := false) e with | .inl s' => ∀ (z1 : Option Value), zEv (zXs Ls xs) (d + 4) zm_261 (30, [some (.ref 215), z1, some (.int x2), some (.int s'.1), some (.int s'.2.1)], [], zhp s'.2.2) r | .inr v => ∀ (z1 : Option Value) (z4 : Option Value), zEv (zXs Ls xs) (d + 4) zm_261 (52, [some (.ref 215), z1, some (.int x2), some (.int v.1), z4], [], zhp v.2) r) (y1 : Option Value) : zEv (zXs Ls xs) (d + 4) zm_261 (30, [some (.ref 215), y1, some (.int x2), some (.int s.1), some (.int s.2.1)], [], zhp s.2.2) r := by
  unfold qM_next_b30 at H
  refine zEv_k 3 (f' := (if x2 ≤ s.2.1 then 52 else 36, [some (.ref 215), y1, some (.int x2), some (.int s.1), some (.int s.2.1)], [], zhp s.2.2)) rfl (zEv_if (fun c5 => ?_) (fun c5 => ?_))
  · replace H := zif_t c5 H
    cases H
    exact K _ _
  · replace H := zif_f c5 H
    refine zEv_k 4 (f' := (42, [some (.ref 215), y1, some (.int x2), some (.int (gI s.2.2 215 28)), some (.int s.2.1)], [.ref 215], zhp s.2.2)) rfl ?_
    obtain ⟨p6, hp6, H⟩ := zbs H
    refine zEv_c (fun _ => rfl) rfl (t_qM_goesOn (h := s.2.2) (d := d) hp6) rfl rfl ?_
    refine zEv_k 3 (f' := (30, [some (.ref 215), y1, some (.int x2), some (.int (gI s.2.2 215 28)), some (.int (s.2.1 + 1))], [], zhp p6.2)) rfl ?_
    cases H
    exact K _
theorem t_qM_next_b30 {Ls : Nat} {xs : Nat → Int32} {d : Nat} {x2 : Int32} {r : zA} {t : Int32 × zK} (K : ∀ (z1 : Option Value) (z4 : Option Value), zEv (zXs Ls xs) (d + 4) zm_261 (52, [some (.ref 215), z1, some (.int x2), some (.int t.1), z4], [], zhp t.2) r) (n : Nat) (s : Int32 × Int32 × zK) (H : zloop (qM_next_b30 x2) n s = some t) (y1 : Option Value) : zEv (zXs Ls xs) (d + 4) zm_261 (30, [some (.ref 215), y1, some (.int x2), some (.int s.1), some (.int s.2.1)], [], zhp s.2.2) r := by
  have Z := zloop_P (P := fun s => ∀ (y1 : Option Value), zEv (zXs Ls xs) (d + 4) zm_261 (30, [some (.ref 215), y1, some (.int x2), some (.int s.1), some (.int s.2.1)], [], zhp s.2.2) r) (b := qM_next_b30 x2) (t := t) (fun s s2 hb hk => by intro y1; exact t_qM_next_b30b hb hk y1) (fun s hb => by intro y1; exact t_qM_next_b30b hb K y1) n s H
  exact Z y1
def qM_next (x1 : Int32) (x2 : Int32) (h : zK) : Option (Int32 × zK) :=
  zlet (sI h 215 0 0) fun h1 =>
  if (zf_in x2 1 50) = 0 then
    some (-1, h1)
  else
    (qM_hand x1 h1).bind fun p3 =>
    if ¬ p3.1 = 0 then
      (zloop (qM_next_b30 x2) zfu (0, 0, p3.2)).bind fun t7 =>
      some ((gI t7.2 215 28) - t7.1, t7.2)
    else
      some (-1, p3.2)
theorem t_qM_next {Ls : Nat} {xs : Nat → Int32} {d : Nat} {x1 : Int32} {x2 : Int32} {h : zK} {p : Int32 × zK} (H : qM_next x1 x2 h = some p) : zEv (zXs Ls xs) (d + 4) zm_261 (0, [some (.ref 215), some (.int x1), some (.int x2), none, none], [], zhp h) (some (.int p.1), zhp p.2) := by
  unfold qM_next at H
  obtain ⟨h1, eh1, H⟩ := zlets H
  refine zEv_w (F := fun z => (5, [some (.ref 215), some (.int x1), some (.int x2), none, none], [], zhp z)) (h0 := sI h 215 0 0) 3 rfl eh1 ?_
  refine zEv_k 3 (f' := (9, [some (.ref 215), some (.int x1), some (.int x2), none, none], [.int 50, .int 1, .int x2], zhp h1)) rfl ?_
  refine zEv_c (fun _ => rfl) rfl ev_zf_in rfl rfl ?_
  refine zEv_k 1 (f' := (if (zf_in x2 1 50) = 0 then 23 else 15, [some (.ref 215), some (.int x1), some (.int x2), none, none], [], zhp h1)) rfl (zEv_if (fun c2 => ?_) (fun c2 => ?_))
  · replace H := zif_t c2 H
    refine zEv_k 1 (f' := (24, [some (.ref 215), some (.int x1), some (.int x2), none, none], [.int (-1)], zhp h1)) rfl ?_
    cases H
    exact zEv_r rfl
  · replace H := zif_f c2 H
    refine zEv_k 2 (f' := (17, [some (.ref 215), some (.int x1), some (.int x2), none, none], [.int x1, .ref 215], zhp h1)) rfl ?_
    obtain ⟨p3, hp3, H⟩ := zbs H
    refine zEv_c (fun _ => rfl) rfl (t_qM_hand (x1 := x1) (h := h1) (d := d + 1) hp3) rfl rfl ?_
    refine zEv_k 1 (f' := (if ¬ p3.1 = 0 then 25 else 23, [some (.ref 215), some (.int x1), some (.int x2), none, none], [], zhp p3.2)) rfl (zEv_if (fun c4 => ?_) (fun c4 => ?_))
    · replace H := zif_t c4 H
      refine zEv_k 4 (f' := (30, [some (.ref 215), some (.int x1), some (.int x2), some (.int 0), some (.int 0)], [], zhp p3.2)) rfl ?_
      obtain ⟨t7, ht7, H⟩ := zbs H
      refine t_qM_next_b30 (x2 := x2) ?_ zfu _ ht7 _
      intro y1 y4
      refine zEv_k 4 (f' := (58, [some (.ref 215), y1, some (.int x2), some (.int t7.1), y4], [.int ((gI t7.2 215 28) - t7.1)], zhp t7.2)) rfl ?_
      cases H
      exact zEv_r rfl
    · replace H := zif_f c4 H
      refine zEv_k 1 (f' := (24, [some (.ref 215), some (.int x1), some (.int x2), none, none], [.int (-1)], zhp p3.2)) rfl ?_
      cases H
      exact zEv_r rfl
def qM_isQuiet (x1 : Int32) (h : zK) : Option (Int32) :=
  (qM_answeredBy x1 h).bind fun p1 =>
  if ¬ (p1 &&& x1) = 0 then
    some 0
  else
    some 1
theorem t_qM_isQuiet {Ls : Nat} {xs : Nat → Int32} {d : Nat} {x1 : Int32} {h : zK} {p : Int32} (H : qM_isQuiet x1 h = some p) : zEv (zXs Ls xs) (d + 2) zm_262 (0, [some (.ref 215), some (.int x1)], [], zhp h) (some (.int p), zhp h) := by
  unfold qM_isQuiet at H
  refine zEv_k 2 (f' := (2, [some (.ref 215), some (.int x1)], [.int x1, .ref 215], zhp h)) rfl ?_
  obtain ⟨p1, hp1, H⟩ := zbs H
  refine zEv_c (fun _ => rfl) rfl (t_qM_answeredBy (x1 := x1) (h := h) (d := d) hp1) rfl rfl ?_
  refine zEv_k 3 (f' := (if ¬ (p1 &&& x1) = 0 then 14 else 10, [some (.ref 215), some (.int x1)], [], zhp h)) rfl (zEv_if (fun c2 => ?_) (fun c2 => ?_))
  · replace H := zif_t c2 H
    refine zEv_k 1 (f' := (15, [some (.ref 215), some (.int x1)], [.int 0], zhp h)) rfl ?_
    cases H
    exact zEv_r rfl
  · replace H := zif_f c2 H
    refine zEv_k 2 (f' := (15, [some (.ref 215), some (.int x1)], [.int 1], zhp h)) rfl ?_
    cases H
    exact zEv_r rfl
def qM_half_b31 (x2 : Int32) (x3 : Int32) (h : zK) (s : Int32 × Int32) : Option ((Int32 × Int32) ⊕ (Int32)) :=
  if ((1 : Int32) <<< ((gI h 215 23) &&& 31)) ≤ s.2 then
    some (.inr s.1)
  else
    (qM_ones s.2).bind fun p6 =>
    Option.bind (
        if ¬ p6 = x2 then
          some 0
        else
          (qM_isQuiet s.2 h).bind fun p9 =>
          if p9 = 0 then
            some 0
          else
            some 1
      ) fun (v8 : Int32) =>
    Option.bind (
        if v8 = 0 then
          some s.1
        else
          if s.1 = (-1) then
            some s.2
          else
            (qM_witsOf s.2 h).bind fun p14 =>
            (qM_witsOf s.1 h).bind fun p15 =>
            if p14 ≤ p15 then
              some s.1
            else
              some s.2
      ) fun (v12 : Int32) =>
    some (.inl (v12, s.2 + 1))
theorem t_qM_half_b31b {Ls : Nat} {xs : Nat → Int32} {d : Nat} {x2 : Int32} {x3 : Int32} {h : zK} {r : zA} {s : Int32 × Int32} {e : (Int32 × Int32) ⊕ (Int32)} (H : qM_half_b31 x2 x3 h s = some e) (K : match (generalizing := false) e with | .inl s' => ∀ (z1 : Option Value) (z6 : Option Value), zEv (zXs Ls xs) (d + 3) zm_263 (31, [some (.ref 215), z1, some (.int x2), some (.int x3), some (.int s'.1), some (.int s'.2), z6], [], zhp h) r | .inr v => ∀ (z1 : Option Value) (z5 : Option Value) (z6 : Option Value), zEv (zXs Ls xs) (d + 3) zm_263 (108, [some (.ref 215), z1, some (.int x2), some (.int x3), some (.int v), z5, z6], [], zhp h) r) (y1 : Option Value) (y6 : Option Value) : zEv (zXs Ls xs) (d + 3) zm_263 (31, [some (.ref 215), y1, some (.int x2), some (.int x3), some (.int s.1), some (.int s.2), y6], [], zhp h) r := by
  unfold qM_half_b31 at H
  refine zEv_k 6 (f' := (if ((1 : Int32) <<< ((gI h 215 23) &&& 31)) ≤ s.2 then 108 else 42, [some (.ref 215), y1, some (.int x2), some (.int x3), some (.int s.1), some (.int s.2), y6], [], zhp h)) rfl (zEv_if (fun c5 => ?_) (fun c5 => ?_))
  · replace H := zif_t c5 H
    cases H
    exact K _ _ _
  · replace H := zif_f c5 H
    refine zEv_k 1 (f' := (44, [some (.ref 215), y1, some (.int x2), some (.int x3), some (.int s.1), some (.int s.2), y6], [.int s.2], zhp h)) rfl ?_
    obtain ⟨p6, hp6, H⟩ := zbs H
    refine zEv_c (fun _ => rfl) rfl (t_qM_ones (x0 := s.2) (h := h) (d := d + 1) hp6) rfl rfl ?_
    obtain ⟨v8, hv8, H⟩ := zbs H
    have kv8 : zEv (zXs Ls xs) (d + 3) zm_263 (65, [some (.ref 215), y1, some (.int x2), some (.int x3), some (.int s.1), some (.int s.2), y6], [.int v8], zhp h) r := by
      obtain ⟨v12, hv12, H⟩ := zbs H
      have kv12 : zEv (zXs Ls xs) (d + 3) zm_263 (100, [some (.ref 215), y1, some (.int x2), some (.int x3), some (.int s.1), some (.int s.2), some (.int v8)], [.int v12], zhp h) r := by
        refine zEv_k 3 (f' := (31, [some (.ref 215), y1, some (.int x2), some (.int x3), some (.int v12), some (.int (s.2 + 1)), some (.int v8)], [], zhp h)) rfl ?_
        cases H
        exact K _ _
      clear H
      refine zEv_k 3 (f' := (if v8 = 0 then 98 else 72, [some (.ref 215), y1, some (.int x2), some (.int x3), some (.int s.1), some (.int s.2), some (.int v8)], [], zhp h)) rfl (zEv_if (fun c11 => ?_) (fun c11 => ?_))
      · replace hv12 := zif_t c11 hv12
        refine zEv_k 1 (f' := (100, [some (.ref 215), y1, some (.int x2), some (.int x3), some (.int s.1), some (.int s.2), some (.int v8)], [.int s.1], zhp h)) rfl ?_
        cases hv12
        exact kv12
      · replace hv12 := zif_f c11 hv12
        refine zEv_k 3 (f' := (if s.1 = (-1) then 93 else 78, [some (.ref 215), y1, some (.int x2), some (.int x3), some (.int s.1), some (.int s.2), some (.int v8)], [], zhp h)) rfl (zEv_if (fun c13 => ?_) (fun c13 => ?_))
        · replace hv12 := zif_t c13 hv12
          refine zEv_k 2 (f' := (100, [some (.ref 215), y1, some (.int x2), some (.int x3), some (.int s.1), some (.int s.2), some (.int v8)], [.int s.2], zhp h)) rfl ?_
          cases hv12
          exact kv12
        · replace hv12 := zif_f c13 hv12
          refine zEv_k 2 (f' := (81, [some (.ref 215), y1, some (.int x2), some (.int x3), some (.int s.1), some (.int s.2), some (.int v8)], [.int s.2, .ref 215], zhp h)) rfl ?_
          obtain ⟨p14, hp14, hv12⟩ := zbs hv12
          refine zEv_c (fun _ => rfl) rfl (t_qM_witsOf (x1 := s.2) (h := h) (d := d + 1) hp14) rfl rfl ?_
          refine zEv_k 2 (f' := (87, [some (.ref 215), y1, some (.int x2), some (.int x3), some (.int s.1), some (.int s.2), some (.int v8)], [.int s.1, .ref 215, .int p14], zhp h)) rfl ?_
          obtain ⟨p15, hp15, hv12⟩ := zbs hv12
          refine zEv_c (fun _ => rfl) rfl (t_qM_witsOf (x1 := s.1) (h := h) (d := d + 1) hp15) rfl rfl ?_
          refine zEv_k 1 (f' := (if p14 ≤ p15 then 98 else 93, [some (.ref 215), y1, some (.int x2), some (.int x3), some (.int s.1), some (.int s.2), some (.int v8)], [], zhp h)) rfl (zEv_if (fun c16 => ?_) (fun c16 => ?_))
          · replace hv12 := zif_t c16 hv12
            refine zEv_k 1 (f' := (100, [some (.ref 215), y1, some (.int x2), some (.int x3), some (.int s.1), some (.int s.2), some (.int v8)], [.int s.1], zhp h)) rfl ?_
            cases hv12
            exact kv12
          · replace hv12 := zif_f c16 hv12
            refine zEv_k 2 (f' := (100, [some (.ref 215), y1, some (.int x2), some (.int x3), some (.int s.1), some (.int s.2), some (.int v8)], [.int s.2], zhp h)) rfl ?_
            cases hv12
            exact kv12
    clear H
    refine zEv_k 2 (f' := (if ¬ p6 = x2 then 64 else 51, [some (.ref 215), y1, some (.int x2), some (.int x3), some (.int s.1), some (.int s.2), y6], [], zhp h)) rfl (zEv_if (fun c7 => ?_) (fun c7 => ?_))
    · replace hv8 := zif_t c7 hv8
      refine zEv_k 1 (f' := (65, [some (.ref 215), y1, some (.int x2), some (.int x3), some (.int s.1), some (.int s.2), y6], [.int 0], zhp h)) rfl ?_
      cases hv8
      exact kv8
    · replace hv8 := zif_f c7 hv8
      refine zEv_k 2 (f' := (54, [some (.ref 215), y1, some (.int x2), some (.int x3), some (.int s.1), some (.int s.2), y6], [.int s.2, .ref 215], zhp h)) rfl ?_
      obtain ⟨p9, hp9, hv8⟩ := zbs hv8
      refine zEv_c (fun _ => rfl) rfl (t_qM_isQuiet (x1 := s.2) (h := h) (d := d) hp9) rfl rfl ?_
      refine zEv_k 1 (f' := (if p9 = 0 then 64 else 60, [some (.ref 215), y1, some (.int x2), some (.int x3), some (.int s.1), some (.int s.2), y6], [], zhp h)) rfl (zEv_if (fun c10 => ?_) (fun c10 => ?_))
      · replace hv8 := zif_t c10 hv8
        refine zEv_k 1 (f' := (65, [some (.ref 215), y1, some (.int x2), some (.int x3), some (.int s.1), some (.int s.2), y6], [.int 0], zhp h)) rfl ?_
        cases hv8
        exact kv8
      · replace hv8 := zif_f c10 hv8
        refine zEv_k 2 (f' := (65, [some (.ref 215), y1, some (.int x2), some (.int x3), some (.int s.1), some (.int s.2), y6], [.int 1], zhp h)) rfl ?_
        cases hv8
        exact kv8
theorem t_qM_half_b31 {Ls : Nat} {xs : Nat → Int32} {d : Nat} {x2 : Int32} {x3 : Int32} {h : zK} {r : zA} {t : Int32} (K : ∀ (z1 : Option Value) (z5 : Option Value) (z6 : Option Value), zEv (zXs Ls xs) (d + 3) zm_263 (108, [some (.ref 215), z1, some (.int x2), some (.int x3), some (.int t), z5, z6], [], zhp h) r) (n : Nat) (s : Int32 × Int32) (H : zloop (qM_half_b31 x2 x3 h) n s = some t) (y1 : Option Value) (y6 : Option Value) : zEv (zXs Ls xs) (d + 3) zm_263 (31, [some (.ref 215), y1, some (.int x2), some (.int x3), some (.int s.1), some (.int s.2), y6], [], zhp h) r := by
  have Z := zloop_P (P := fun s => ∀ (y1 : Option Value) (y6 : Option Value), zEv (zXs Ls xs) (d + 3) zm_263 (31, [some (.ref 215), y1, some (.int x2), some (.int x3), some (.int s.1), some (.int s.2), y6], [], zhp h) r) (b := qM_half_b31 x2 x3 h) (t := t) (fun s s2 hb hk => by intro y1 y6; exact t_qM_half_b31b hb hk y1 y6) (fun s hb => by intro y1 y6; exact t_qM_half_b31b hb K y1 y6) n s H
  exact Z y1 y6
def qM_half (x1 : Int32) (x2 : Int32) (x3 : Int32) (h : zK) : Option (Int32 × zK) :=
  zlet (sI h 215 0 0) fun h1 =>
  if (zf_in x2 0 7) = 0 then
    some (-1, h1)
  else
    (qM_hand x1 h1).bind fun p3 =>
    if ¬ p3.1 = 0 then
      (zloop (qM_half_b31 x2 x3 p3.2) zfu (-1, 0)).bind fun t17 =>
      if t17 = (-1) then
        some (t17, p3.2)
      else
        if x3 = 0 then
          (qM_witsOf t17 p3.2).bind fun p21 =>
          some (p21, p3.2)
        else
          some (t17, p3.2)
    else
      some (-1, p3.2)
theorem t_qM_half {Ls : Nat} {xs : Nat → Int32} {d : Nat} {x1 : Int32} {x2 : Int32} {x3 : Int32} {h : zK} {p : Int32 × zK} (H : qM_half x1 x2 x3 h = some p) : zEv (zXs Ls xs) (d + 3) zm_263 (0, [some (.ref 215), some (.int x1), some (.int x2), some (.int x3), none, none, none], [], zhp h) (some (.int p.1), zhp p.2) := by
  unfold qM_half at H
  obtain ⟨h1, eh1, H⟩ := zlets H
  refine zEv_w (F := fun z => (5, [some (.ref 215), some (.int x1), some (.int x2), some (.int x3), none, none, none], [], zhp z)) (h0 := sI h 215 0 0) 3 rfl eh1 ?_
  refine zEv_k 3 (f' := (9, [some (.ref 215), some (.int x1), some (.int x2), some (.int x3), none, none, none], [.int 7, .int 0, .int x2], zhp h1)) rfl ?_
  refine zEv_c (fun _ => rfl) rfl ev_zf_in rfl rfl ?_
  refine zEv_k 1 (f' := (if (zf_in x2 0 7) = 0 then 23 else 15, [some (.ref 215), some (.int x1), some (.int x2), some (.int x3), none, none, none], [], zhp h1)) rfl (zEv_if (fun c2 => ?_) (fun c2 => ?_))
  · replace H := zif_t c2 H
    refine zEv_k 1 (f' := (24, [some (.ref 215), some (.int x1), some (.int x2), some (.int x3), none, none, none], [.int (-1)], zhp h1)) rfl ?_
    cases H
    exact zEv_r rfl
  · replace H := zif_f c2 H
    refine zEv_k 2 (f' := (17, [some (.ref 215), some (.int x1), some (.int x2), some (.int x3), none, none, none], [.int x1, .ref 215], zhp h1)) rfl ?_
    obtain ⟨p3, hp3, H⟩ := zbs H
    refine zEv_c (fun _ => rfl) rfl (t_qM_hand (x1 := x1) (h := h1) (d := d) hp3) rfl rfl ?_
    refine zEv_k 1 (f' := (if ¬ p3.1 = 0 then 25 else 23, [some (.ref 215), some (.int x1), some (.int x2), some (.int x3), none, none, none], [], zhp p3.2)) rfl (zEv_if (fun c4 => ?_) (fun c4 => ?_))
    · replace H := zif_t c4 H
      refine zEv_k 4 (f' := (31, [some (.ref 215), some (.int x1), some (.int x2), some (.int x3), some (.int (-1)), some (.int 0), none], [], zhp p3.2)) rfl ?_
      obtain ⟨t17, ht17, H⟩ := zbs H
      refine t_qM_half_b31 (x2 := x2) (x3 := x3) (h := p3.2) ?_ zfu _ ht17 _ _
      intro y1 y5 y6
      refine zEv_k 3 (f' := (if t17 = (-1) then 118 else 114, [some (.ref 215), y1, some (.int x2), some (.int x3), some (.int t17), y5, y6], [], zhp p3.2)) rfl (zEv_if (fun c19 => ?_) (fun c19 => ?_))
      · replace H := zif_t c19 H
        refine zEv_k 2 (f' := (129, [some (.ref 215), y1, some (.int x2), some (.int x3), some (.int t17), y5, y6], [.int t17], zhp p3.2)) rfl ?_
        cases H
        exact zEv_r rfl
      · replace H := zif_f c19 H
        refine zEv_k 2 (f' := (if x3 = 0 then 123 else 118, [some (.ref 215), y1, some (.int x2), some (.int x3), some (.int t17), y5, y6], [], zhp p3.2)) rfl (zEv_if (fun c20 => ?_) (fun c20 => ?_))
        · replace H := zif_t c20 H
          refine zEv_k 2 (f' := (126, [some (.ref 215), y1, some (.int x2), some (.int x3), some (.int t17), y5, y6], [.int t17, .ref 215], zhp p3.2)) rfl ?_
          obtain ⟨p21, hp21, H⟩ := zbs H
          refine zEv_c (fun _ => rfl) rfl (t_qM_witsOf (x1 := t17) (h := p3.2) (d := d + 1) hp21) rfl rfl ?_
          cases H
          exact zEv_r rfl
        · replace H := zif_f c20 H
          refine zEv_k 2 (f' := (129, [some (.ref 215), y1, some (.int x2), some (.int x3), some (.int t17), y5, y6], [.int t17], zhp p3.2)) rfl ?_
          cases H
          exact zEv_r rfl
    · replace H := zif_f c4 H
      refine zEv_k 1 (f' := (24, [some (.ref 215), some (.int x1), some (.int x2), some (.int x3), none, none, none], [.int (-1)], zhp p3.2)) rfl ?_
      cases H
      exact zEv_r rfl
