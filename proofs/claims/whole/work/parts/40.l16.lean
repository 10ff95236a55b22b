def qM_token_j18 (h : zK) : Option ((zK) ⊕ (zK)) :=
  zlet (sI h 215 9 ((gI h 215 9) + 1)) fun h3 =>
  some (.inl h3)
theorem t_qM_token_j18 {Ls : Nat} {xs : Nat → Int32} {d : Nat} {h : zK} {r : zA} {e : (zK) ⊕ (zK)} (H : qM_token_j18 h = some e) (K : match (generalizing := false) e with | .inl s' => zEv (zXs Ls xs) (d + 1) zm_163 (0, [some (.ref 215), none, none], [], zhp s') r | .inr v => zEv (zXs Ls xs) (d + 1) zm_163 (31, [some (.ref 215), none, none], [], zhp v) r) : zEv (zXs Ls xs) (d + 1) zm_163 (18, [some (.ref 215), none, none], [], zhp h) r := by
  unfold qM_token_j18 at H
  obtain ⟨h3, eh3, H⟩ := zlets H
  refine zEv_w (F := fun z => (28, [some (.ref 215), none, none], [], zhp z)) (h0 := sI h 215 9 ((gI h 215 9) + 1)) 6 rfl eh3 ?_
  refine zEv_k 1 (f' := (0, [some (.ref 215), none, none], [], zhp h3)) rfl ?_
  cases H
  exact K
def qM_token_b0 (s : zK) : Option ((zK) ⊕ (zK)) :=
  (qM_see s).bind fun p1 =>
  if p1 = 10 then
    qM_token_j18 s
  else
    (qM_see s).bind fun p4 =>
    if ¬ p4 = 32 then
      some (.inr s)
    else
      qM_token_j18 s
theorem t_qM_token_b0b {Ls : Nat} {xs : Nat → Int32} {d : Nat} {r : zA} {s : zK} {e : (zK) ⊕ (zK)} (H : qM_token_b0 s = some e) (K : match (generalizing := false) e with | .inl s' => zEv (zXs Ls xs) (d + 1) zm_163 (0, [some (.ref 215), none, none], [], zhp s') r | .inr v => zEv (zXs Ls xs) (d + 1) zm_163 (31, [some (.ref 215), none, none], [], zhp v) r) : zEv (zXs Ls xs) (d + 1) zm_163 (0, [some (.ref 215), none, none], [], zhp s) r := by
  unfold qM_token_b0 at H
  refine zEv_k 1 (f' := (1, [some (.ref 215), none, none], [.ref 215], zhp s)) rfl ?_
  obtain ⟨p1, hp1, H⟩ := zbs H
  refine zEv_c (fun _ => rfl) rfl (t_qM_see (h := s) (d := d) hp1) rfl rfl ?_
  refine zEv_k 2 (f' := (if p1 = 10 then 18 else 9, [some (.ref 215), none, none], [], zhp s)) rfl (zEv_if (fun c2 => ?_) (fun c2 => ?_))
  · replace H := zif_t c2 H
    exact t_qM_token_j18 (h := s) H K
  · replace H := zif_f c2 H
    refine zEv_k 1 (f' := (10, [some (.ref 215), none, none], [.ref 215], zhp s)) rfl ?_
    obtain ⟨p4, hp4, H⟩ := zbs H
    refine zEv_c (fun _ => rfl) rfl (t_qM_see (h := s) (d := d) hp4) rfl rfl ?_
    refine zEv_k 2 (f' := (if ¬ p4 = 32 then 31 else 18, [some (.ref 215), none, none], [], zhp s)) rfl (zEv_if (fun c5 => ?_) (fun c5 => ?_))
    · replace H := zif_t c5 H
      cases H
      exact K
    · replace H := zif_f c5 H
      exact t_qM_token_j18 (h := s) H K
theorem t_qM_token_b0 {Ls : Nat} {xs : Nat → Int32} {d : Nat} {r : zA} {t : zK} (K : zEv (zXs Ls xs) (d + 1) zm_163 (31, [some (.ref 215), none, none], [], zhp t) r) (n : Nat) (s : zK) (H : zloop (qM_token_b0) n s = some t) : zEv (zXs Ls xs) (d + 1) zm_163 (0, [some (.ref 215), none, none], [], zhp s) r := by
  have Z := zloop_P (P := fun s => zEv (zXs Ls xs) (d + 1) zm_163 (0, [some (.ref 215), none, none], [], zhp s) r) (b := qM_token_b0) (t := t) (fun s s2 hb hk => by exact t_qM_token_b0b hb hk) (fun s hb => by exact t_qM_token_b0b hb K) n s H
  exact Z
def qM_token_b163 (s : Int32 × zK) : Option ((Int32 × zK) ⊕ (Int32 × zK)) :=
  (qM_see s.2).bind fun p19 =>
  if (zf_in p19 48 57) = 0 then
    some (.inr (s.1, s.2))
  else
    Option.bind (
        if 2 ≤ s.1 then
          some (gI s.2 215 13)
        else
          (qM_see s.2).bind fun p23 =>
          some (((10 * (gI s.2 215 13)) + p23) - 48)
      ) fun (v22 : Int32) =>
    zlet (sI s.2 215 13 v22) fun h24 =>
    zlet (sI h24 215 9 ((gI h24 215 9) + 1)) fun h25 =>
    some (.inl (s.1 + 1, h25))
theorem t_qM_token_b163b {Ls : Nat} {xs : Nat → Int32} {d : Nat} {r : zA} {s : Int32 × zK} {e : (Int32 × zK) ⊕ (Int32 × zK)} (H : qM_token_b163 s = some e) (K : match (generalizing := false) e with | .inl s' => ∀ (z1 : Option Value), zEv (zXs Ls xs) (d + 1) zm_163 (163, [some (.ref 215), z1, some (.int s'.1)], [], zhp s'.2) r | .inr v => ∀ (z1 : Option Value), zEv (zXs Ls xs) (d + 1) zm_163 (224, [some (.ref 215), z1, some (.int v.1)], [], zhp v.2) r) (y1 : Option Value) : zEv (zXs Ls xs) (d + 1) zm_163 (163, [some (.ref 215), y1, some (.int s.1)], [], zhp s.2) r := by
  unfold qM_token_b163 at H
  refine zEv_k 1 (f' := (164, [some (.ref 215), y1, some (.int s.1)], [.ref 215], zhp s.2)) rfl ?_
  obtain ⟨p19, hp19, H⟩ := zbs H
  refine zEv_c (fun _ => rfl) rfl (t_qM_see (h := s.2) (d := d) hp19) rfl rfl ?_
  refine zEv_k 2 (f' := (171, [some (.ref 215), y1, some (.int s.1)], [.int 57, .int 48, .int p19], zhp s.2)) rfl ?_
  refine zEv_c (fun _ => rfl) rfl ev_zf_in rfl rfl ?_
  refine zEv_k 1 (f' := (if (zf_in p19 48 57) = 0 then 224 else 177, [some (.ref 215), y1, some (.int s.1)], [], zhp s.2)) rfl (zEv_if (fun c20 => ?_) (fun c20 => ?_))
  · replace H := zif_t c20 H
    cases H
    exact K _
  · replace H := zif_f c20 H
    obtain ⟨v22, hv22, H⟩ := zbs H
    have kv22 : zEv (zXs Ls xs) (d + 1) zm_163 (205, [some (.ref 215), y1, some (.int s.1)], [.int v22, .ref 215], zhp s.2) r := by
      obtain ⟨h24, eh24, H⟩ := zlets H
      refine zEv_w (F := fun z => (208, [some (.ref 215), y1, some (.int s.1)], [], zhp z)) (h0 := sI s.2 215 13 v22) 1 rfl eh24 ?_
      obtain ⟨h25, eh25, H⟩ := zlets H
      refine zEv_w (F := fun z => (218, [some (.ref 215), y1, some (.int s.1)], [], zhp z)) (h0 := sI h24 215 9 ((gI h24 215 9) + 1)) 6 rfl eh25 ?_
      refine zEv_k 2 (f' := (163, [some (.ref 215), zlost y1, some (.int (s.1 + 1))], [], zhp h25)) rfl ?_
      cases H
      exact K _
    clear H
    refine zEv_k 4 (f' := (if 2 ≤ s.1 then 201 else 183, [some (.ref 215), y1, some (.int s.1)], [.ref 215], zhp s.2)) rfl (zEv_if (fun c21 => ?_) (fun c21 => ?_))
    · replace hv22 := zif_t c21 hv22
      refine zEv_k 2 (f' := (205, [some (.ref 215), y1, some (.int s.1)], [.int (gI s.2 215 13), .ref 215], zhp s.2)) rfl ?_
      cases hv22
      exact kv22
    · replace hv22 := zif_f c21 hv22
      refine zEv_k 5 (f' := (191, [some (.ref 215), y1, some (.int s.1)], [.ref 215, .int (10 * (gI s.2 215 13)), .ref 215], zhp s.2)) rfl ?_
      obtain ⟨p23, hp23, hv22⟩ := zbs hv22
      refine zEv_c (fun _ => rfl) rfl (t_qM_see (h := s.2) (d := d) hp23) rfl rfl ?_
      refine zEv_k 4 (f' := (205, [some (.ref 215), y1, some (.int s.1)], [.int (((10 * (gI s.2 215 13)) + p23) - 48), .ref 215], zhp s.2)) rfl ?_
      cases hv22
      exact kv22
theorem t_qM_token_b163 {Ls : Nat} {xs : Nat → Int32} {d : Nat} {r : zA} {t : Int32 × zK} (K : ∀ (z1 : Option Value), zEv (zXs Ls xs) (d + 1) zm_163 (224, [some (.ref 215), z1, some (.int t.1)], [], zhp t.2) r) (n : Nat) (s : Int32 × zK) (H : zloop (qM_token_b163) n s = some t) (y1 : Option Value) : zEv (zXs Ls xs) (d + 1) zm_163 (163, [some (.ref 215), y1, some (.int s.1)], [], zhp s.2) r := by
  have Z := zloop_P (P := fun s => ∀ (y1 : Option Value), zEv (zXs Ls xs) (d + 1) zm_163 (163, [some (.ref 215), y1, some (.int s.1)], [], zhp s.2) r) (b := qM_token_b163) (t := t) (fun s s2 hb hk => by intro y1; exact t_qM_token_b163b hb hk y1) (fun s hb => by intro y1; exact t_qM_token_b163b hb K y1) n s H
  exact Z y1
def qM_token_b74 (s : Int32 × zK) : Option ((Int32 × zK) ⊕ (Int32 × zK)) :=
  (qM_see s.2).bind fun p31 =>
  if (zf_in p31 97 122) = 0 then
    some (.inr (s.1, s.2))
  else
    (qM_see s.2).bind fun p33 =>
    zlet (sJ s.2 215 14 (((gJ s.2 215 14) <<< (Int32.toInt64 8 &&& 63)) ||| (Int32.toInt64 p33))) fun h34 =>
    zlet (sI h34 215 9 ((gI h34 215 9) + 1)) fun h35 =>
    some (.inl (s.1 + 1, h35))
theorem t_qM_token_b74b {Ls : Nat} {xs : Nat → Int32} {d : Nat} {r : zA} {s : Int32 × zK} {e : (Int32 × zK) ⊕ (Int32 × zK)} (H : qM_token_b74 s = some e) (K : match (generalizing := false) e with | .inl s' => ∀ (z1 : Option Value), zEv (zXs Ls xs) (d + 1) zm_163 (74, [some (.ref 215), z1, some (.int s'.1)], [], zhp s'.2) r | .inr v => ∀ (z1 : Option Value), zEv (zXs Ls xs) (d + 1) zm_163 (121, [some (.ref 215), z1, some (.int v.1)], [], zhp v.2) r) (y1 : Option Value) : zEv (zXs Ls xs) (d + 1) zm_163 (74, [some (.ref 215), y1, some (.int s.1)], [], zhp s.2) r := by
  unfold qM_token_b74 at H
  refine zEv_k 1 (f' := (75, [some (.ref 215), y1, some (.int s.1)], [.ref 215], zhp s.2)) rfl ?_
  obtain ⟨p31, hp31, H⟩ := zbs H
  refine zEv_c (fun _ => rfl) rfl (t_qM_see (h := s.2) (d := d) hp31) rfl rfl ?_
  refine zEv_k 2 (f' := (82, [some (.ref 215), y1, some (.int s.1)], [.int 122, .int 97, .int p31], zhp s.2)) rfl ?_
  refine zEv_c (fun _ => rfl) rfl ev_zf_in rfl rfl ?_
  refine zEv_k 1 (f' := (if (zf_in p31 97 122) = 0 then 121 else 88, [some (.ref 215), y1, some (.int s.1)], [], zhp s.2)) rfl (zEv_if (fun c32 => ?_) (fun c32 => ?_))
  · replace H := zif_t c32 H
    cases H
    exact K _
  · replace H := zif_f c32 H
    refine zEv_k 6 (f' := (97, [some (.ref 215), y1, some (.int s.1)], [.ref 215, .long ((gJ s.2 215 14) <<< (Int32.toInt64 8 &&& 63)), .ref 215], zhp s.2)) rfl ?_
    obtain ⟨p33, hp33, H⟩ := zbs H
    refine zEv_c (fun _ => rfl) rfl (t_qM_see (h := s.2) (d := d) hp33) rfl rfl ?_
    obtain ⟨h34, eh34, H⟩ := zlets H
    refine zEv_w (F := fun z => (105, [some (.ref 215), y1, some (.int s.1)], [], zhp z)) (h0 := sJ s.2 215 14 (((gJ s.2 215 14) <<< (Int32.toInt64 8 &&& 63)) ||| (Int32.toInt64 p33))) 3 rfl eh34 ?_
    obtain ⟨h35, eh35, H⟩ := zlets H
    refine zEv_w (F := fun z => (115, [some (.ref 215), y1, some (.int s.1)], [], zhp z)) (h0 := sI h34 215 9 ((gI h34 215 9) + 1)) 6 rfl eh35 ?_
    refine zEv_k 2 (f' := (74, [some (.ref 215), zlost y1, some (.int (s.1 + 1))], [], zhp h35)) rfl ?_
    cases H
    exact K _
theorem t_qM_token_b74 {Ls : Nat} {xs : Nat → Int32} {d : Nat} {r : zA} {t : Int32 × zK} (K : ∀ (z1 : Option Value), zEv (zXs Ls xs) (d + 1) zm_163 (121, [some (.ref 215), z1, some (.int t.1)], [], zhp t.2) r) (n : Nat) (s : Int32 × zK) (H : zloop (qM_token_b74) n s = some t) (y1 : Option Value) : zEv (zXs Ls xs) (d + 1) zm_163 (74, [some (.ref 215), y1, some (.int s.1)], [], zhp s.2) r := by
  have Z := zloop_P (P := fun s => ∀ (y1 : Option Value), zEv (zXs Ls xs) (d + 1) zm_163 (74, [some (.ref 215), y1, some (.int s.1)], [], zhp s.2) r) (b := qM_token_b74) (t := t) (fun s s2 hb hk => by intro y1; exact t_qM_token_b74b hb hk y1) (fun s hb => by intro y1; exact t_qM_token_b74b hb K y1) n s H
  exact Z y1
def qM_token (h : zK) : Option (zK) :=
  (zloop (qM_token_b0) zfu h).bind fun t6 =>
  zlet (sI t6 215 11 (gI t6 215 9)) fun h8 =>
  (qM_see h8).bind fun p9 =>
  zlet (sJ h8 215 14 0) fun h10 =>
  if 0 ≤ p9 then
    if (zf_in p9 97 122) = 0 then
      if (zf_in p9 48 57) = 0 then
        zlet (sI h10 215 9 ((gI h10 215 9) + 1)) fun h14 =>
        if ¬ p9 = 59 then
          zlet (sI h14 215 12 1) fun h16 =>
          some h16
        else
          zlet (sI h14 215 12 4) fun h17 =>
          some h17
      else
        zlet (sI h10 215 13 0) fun h18 =>
        (zloop (qM_token_b163) zfu (0, h18)).bind fun t26 =>
        zlet (
            if t26.1 ≤ 2 then
              3
            else
              1
          ) fun (v29 : Int32) =>
        zlet (sI t26.2 215 12 v29) fun h30 =>
        some h30
    else
      (zloop (qM_token_b74) zfu (0, h10)).bind fun t36 =>
      zlet (
          if t36.1 ≤ 8 then
            gJ t36.2 215 14
          else
            0
        ) fun (v39 : Int64) =>
      zlet (sJ t36.2 215 14 v39) fun h40 =>
      zlet (sI h40 215 12 2) fun h41 =>
      some h41
  else
    zlet (sI h10 215 12 0) fun h42 =>
    some h42
theorem t_qM_token {Ls : Nat} {xs : Nat → Int32} {d : Nat} {h : zK} {p : zK} (H : qM_token h = some p) : zEv (zXs Ls xs) (d + 1) zm_163 (0, [some (.ref 215), none, none], [], zhp h) (none, zhp p) := by
  unfold qM_token at H
  obtain ⟨t6, ht6, H⟩ := zbs H
  refine t_qM_token_b0 ?_ zfu _ ht6
  obtain ⟨h8, eh8, H⟩ := zlets H
  refine zEv_w (F := fun z => (39, [some (.ref 215), none, none], [], zhp z)) (h0 := sI t6 215 11 (gI t6 215 9)) 4 rfl eh8 ?_
  refine zEv_k 1 (f' := (40, [some (.ref 215), none, none], [.ref 215], zhp h8)) rfl ?_
  obtain ⟨p9, hp9, H⟩ := zbs H
  refine zEv_c (fun _ => rfl) rfl (t_qM_see (h := h8) (d := d) hp9) rfl rfl ?_
  obtain ⟨h10, eh10, H⟩ := zlets H
  refine zEv_w (F := fun z => (49, [some (.ref 215), some (.int p9), none], [], zhp z)) (h0 := sJ h8 215 14 0) 4 rfl eh10 ?_
  refine zEv_k 4 (f' := (if 0 ≤ p9 then 63 else 55, [some (.ref 215), some (.int p9), some (.int 0)], [], zhp h10)) rfl (zEv_if (fun c11 => ?_) (fun c11 => ?_))
  · replace H := zif_t c11 H
    refine zEv_k 3 (f' := (68, [some (.ref 215), some (.int p9), some (.int 0)], [.int 122, .int 97, .int p9], zhp h10)) rfl ?_
    refine zEv_c (fun _ => rfl) rfl ev_zf_in rfl rfl ?_
    refine zEv_k 1 (f' := (if (zf_in p9 97 122) = 0 then 147 else 74, [some (.ref 215), some (.int p9), some (.int 0)], [], zhp h10)) rfl (zEv_if (fun c12 => ?_) (fun c12 => ?_))
    · replace H := zif_t c12 H
      refine zEv_k 3 (f' := (152, [some (.ref 215), some (.int p9), some (.int 0)], [.int 57, .int 48, .int p9], zhp h10)) rfl ?_
      refine zEv_c (fun _ => rfl) rfl ev_zf_in rfl rfl ?_
      refine zEv_k 1 (f' := (if (zf_in p9 48 57) = 0 then 241 else 158, [some (.ref 215), some (.int p9), some (.int 0)], [], zhp h10)) rfl (zEv_if (fun c13 => ?_) (fun c13 => ?_))
      · replace H := zif_t c13 H
        obtain ⟨h14, eh14, H⟩ := zlets H
        refine zEv_w (F := fun z => (251, [some (.ref 215), some (.int p9), some (.int 0)], [], zhp z)) (h0 := sI h10 215 9 ((gI h10 215 9) + 1)) 6 rfl eh14 ?_
        refine zEv_k 4 (f' := (if ¬ p9 = 59 then 262 else 258, [some (.ref 215), some (.int p9), some (.int 0)], [.ref 215], zhp h14)) rfl (zEv_if (fun c15 => ?_) (fun c15 => ?_))
        · replace H := zif_t c15 H
          obtain ⟨h16, eh16, H⟩ := zlets H
          refine zEv_w (F := fun z => (266, [some (.ref 215), some (.int p9), some (.int 0)], [], zhp z)) (h0 := sI h14 215 12 1) 2 rfl eh16 ?_
          cases H
          exact zEv_r rfl
        · replace H := zif_f c15 H
          obtain ⟨h17, eh17, H⟩ := zlets H
          refine zEv_w (F := fun z => (266, [some (.ref 215), some (.int p9), some (.int 0)], [], zhp z)) (h0 := sI h14 215 12 4) 3 rfl eh17 ?_
          cases H
          exact zEv_r rfl
      · replace H := zif_f c13 H
        obtain ⟨h18, eh18, H⟩ := zlets H
        refine zEv_w (F := fun z => (163, [some (.ref 215), some (.int p9), some (.int 0)], [], zhp z)) (h0 := sI h10 215 13 0) 3 rfl eh18 ?_
        obtain ⟨t26, ht26, H⟩ := zbs H
        refine t_qM_token_b163 ?_ zfu _ ht26 _
        intro y1
        obtain ⟨v29, hv29, H⟩ := zlets H
        have kv29 : zEv (zXs Ls xs) (d + 1) zm_163 (235, [some (.ref 215), y1, some (.int t26.1)], [.int v29, .ref 215], zhp t26.2) (none, zhp p) := by
          obtain ⟨h30, eh30, H⟩ := zlets H
          refine zEv_w (F := fun z => (238, [some (.ref 215), y1, some (.int t26.1)], [], zhp z)) (h0 := sI t26.2 215 12 v29) 1 rfl eh30 ?_
          refine zEv_k 1 (f' := (266, [some (.ref 215), y1, some (.int t26.1)], [], zhp h30)) rfl ?_
          cases H
          exact zEv_r rfl
        clear H
        refine zEv_k 4 (f' := (if t26.1 ≤ 2 then 234 else 230, [some (.ref 215), y1, some (.int t26.1)], [.ref 215], zhp t26.2)) rfl (zEv_if (fun c28 => ?_) (fun c28 => ?_))
        · replace hv29 := zif_t c28 hv29
          refine zEv_k 1 (f' := (235, [some (.ref 215), y1, some (.int t26.1)], [.int 3, .ref 215], zhp t26.2)) rfl ?_
          cases hv29
          exact kv29
        · replace hv29 := zif_f c28 hv29
          refine zEv_k 2 (f' := (235, [some (.ref 215), y1, some (.int t26.1)], [.int 1, .ref 215], zhp t26.2)) rfl ?_
          cases hv29
          exact kv29
    · replace H := zif_f c12 H
      obtain ⟨t36, ht36, H⟩ := zbs H
      refine t_qM_token_b74 ?_ zfu _ ht36 _
      intro y1
      obtain ⟨v39, hv39, H⟩ := zlets H
      have kv39 : zEv (zXs Ls xs) (d + 1) zm_163 (136, [some (.ref 215), y1, some (.int t36.1)], [.long v39, .ref 215], zhp t36.2) (none, zhp p) := by
        obtain ⟨h40, eh40, H⟩ := zlets H
        refine zEv_w (F := fun z => (139, [some (.ref 215), y1, some (.int t36.1)], [], zhp z)) (h0 := sJ t36.2 215 14 v39) 1 rfl eh40 ?_
        obtain ⟨h41, eh41, H⟩ := zlets H
        refine zEv_w (F := fun z => (144, [some (.ref 215), y1, some (.int t36.1)], [], zhp z)) (h0 := sI h40 215 12 2) 3 rfl eh41 ?_
        refine zEv_k 1 (f' := (266, [some (.ref 215), y1, some (.int t36.1)], [], zhp h41)) rfl ?_
        cases H
        exact zEv_r rfl
      clear H
      refine zEv_k 4 (f' := (if t36.1 ≤ 8 then 132 else 128, [some (.ref 215), y1, some (.int t36.1)], [.ref 215], zhp t36.2)) rfl (zEv_if (fun c38 => ?_) (fun c38 => ?_))
      · replace hv39 := zif_t c38 hv39
        refine zEv_k 2 (f' := (136, [some (.ref 215), y1, some (.int t36.1)], [.long (gJ t36.2 215 14), .ref 215], zhp t36.2)) rfl ?_
        cases hv39
        exact kv39
      · replace hv39 := zif_f c38 hv39
        refine zEv_k 2 (f' := (136, [some (.ref 215), y1, some (.int t36.1)], [.long 0, .ref 215], zhp t36.2)) rfl ?_
        cases hv39
        exact kv39
  · replace H := zif_f c11 H
    obtain ⟨h42, eh42, H⟩ := zlets H
    refine zEv_w (F := fun z => (60, [some (.ref 215), some (.int p9), some (.int 0)], [], zhp z)) (h0 := sI h10 215 12 0) 3 rfl eh42 ?_
    refine zEv_k 1 (f' := (266, [some (.ref 215), some (.int p9), some (.int 0)], [], zhp h42)) rfl ?_
    cases H
    exact zEv_r rfl
def qM_fails (h : zK) : Option (Int32 × zK) :=
  zlet (sI h 215 15 (gI h 215 11)) fun h1 =>
  some (0, h1)
theorem t_qM_fails {Ls : Nat} {xs : Nat → Int32} {d : Nat} {h : zK} {p : Int32 × zK} (H : qM_fails h = some p) : zEv (zXs Ls xs) d zm_164 (0, [some (.ref 215)], [], zhp h) (some (.int p.1), zhp p.2) := by
  unfold qM_fails at H
  obtain ⟨h1, eh1, H⟩ := zlets H
  refine zEv_w (F := fun z => (8, [some (.ref 215)], [], zhp z)) (h0 := sI h 215 15 (gI h 215 11)) 4 rfl eh1 ?_
  refine zEv_k 1 (f' := (9, [some (.ref 215)], [.int 0], zhp h1)) rfl ?_
  cases H
  exact zEv_r rfl
def qM_addsFault_j31 (x1 : Int32) (x2 : Int32) (h : zK) : Option (zK) :=
  zlet (sI h 215 16 x1) fun h2 =>
  zlet (sI h2 215 17 x2) fun h3 =>
  some h3
theorem t_qM_addsFault_j31 {Ls : Nat} {xs : Nat → Int32} {d : Nat} {x1 : Int32} {x2 : Int32} {h : zK} {p : zK} (H : qM_addsFault_j31 x1 x2 h = some p)  : zEv (zXs Ls xs) d zm_165 (31, [some (.ref 215), some (.int x1), some (.int x2)], [], zhp h) (none, zhp p) := by
  unfold qM_addsFault_j31 at H
  obtain ⟨h2, eh2, H⟩ := zlets H
  refine zEv_w (F := fun z => (36, [some (.ref 215), some (.int x1), some (.int x2)], [], zhp z)) (h0 := sI h 215 16 x1) 3 rfl eh2 ?_
  obtain ⟨h3, eh3, H⟩ := zlets H
  refine zEv_w (F := fun z => (41, [some (.ref 215), some (.int x1), some (.int x2)], [], zhp z)) (h0 := sI h2 215 17 x2) 3 rfl eh3 ?_
  cases H
  exact zEv_r rfl
def qM_addsFault (x1 : Int32) (x2 : Int32) (h : zK) : Option (zK) :=
  if (gI h 215 16) = 0 then
    qM_addsFault_j31 x1 x2 h
  else
    if x2 < (gI h 215 17) then
      qM_addsFault_j31 x1 x2 h
    else
      if ¬ x2 = (gI h 215 17) then
        some h
      else
        if (gI h 215 16) ≤ x1 then
          some h
        else
          qM_addsFault_j31 x1 x2 h
theorem t_qM_addsFault {Ls : Nat} {xs : Nat → Int32} {d : Nat} {x1 : Int32} {x2 : Int32} {h : zK} {p : zK} (H : qM_addsFault x1 x2 h = some p) : zEv (zXs Ls xs) d zm_165 (0, [some (.ref 215), some (.int x1), some (.int x2)], [], zhp h) (none, zhp p) := by
  unfold qM_addsFault at H
  refine zEv_k 3 (f' := (if (gI h 215 16) = 0 then 31 else 7, [some (.ref 215), some (.int x1), some (.int x2)], [], zhp h)) rfl (zEv_if (fun c1 => ?_) (fun c1 => ?_))
  · replace H := zif_t c1 H
    exact t_qM_addsFault_j31 (x1 := x1) (x2 := x2) (h := h) H
  · replace H := zif_f c1 H
    refine zEv_k 4 (f' := (if x2 < (gI h 215 17) then 31 else 15, [some (.ref 215), some (.int x1), some (.int x2)], [], zhp h)) rfl (zEv_if (fun c4 => ?_) (fun c4 => ?_))
    · replace H := zif_t c4 H
      exact t_qM_addsFault_j31 (x1 := x1) (x2 := x2) (h := h) H
    · replace H := zif_f c4 H
      refine zEv_k 4 (f' := (if ¬ x2 = (gI h 215 17) then 41 else 23, [some (.ref 215), some (.int x1), some (.int x2)], [], zhp h)) rfl (zEv_if (fun c5 => ?_) (fun c5 => ?_))
      · replace H := zif_t c5 H
        cases H
        exact zEv_r rfl
      · replace H := zif_f c5 H
        refine zEv_k 4 (f' := (if (gI h 215 16) ≤ x1 then 41 else 31, [some (.ref 215), some (.int x1), some (.int x2)], [], zhp h)) rfl (zEv_if (fun c6 => ?_) (fun c6 => ?_))
        · replace H := zif_t c6 H
          cases H
          exact zEv_r rfl
        · replace H := zif_f c6 H
          exact t_qM_addsFault_j31 (x1 := x1) (x2 := x2) (h := h) H
def qM_takeBut (x1 : Int32) (x2 : Int32) (x3 : Int32) (x4 : Int32) (h : zK) : Option (Int32 × zK) :=
  if (gI h 215 12) = 3 then
    (zix x1 6).bind fun j2 =>
    zlet (sI h 225 j2 (gI h 215 13)) fun h3 =>
    Option.bind (
        if (zf_in (gI h3 215 13) x2 x3) = 0 then
          (qM_addsFault 2 (gI h3 215 11) h3).bind fun p6 =>
          zlet (sI p6 215 21 0) fun h7 =>
          some h7
        else
          if ¬ (gI h3 215 13) = x4 then
            some h3
          else
            (qM_addsFault 2 (gI h3 215 11) h3).bind fun p9 =>
            zlet (sI p9 215 21 0) fun h10 =>
            some h10
      ) fun (v5 : zK) =>
    (qM_token v5).bind fun p11 =>
    some (1, p11)
  else
    (qM_fails h).bind fun p12 =>
    if zbool p12.1 = true then
      some (p12.1, p12.2)
    else none
theorem t_qM_takeBut {Ls : Nat} {xs : Nat → Int32} {d : Nat} {x1 : Int32} {x2 : Int32} {x3 : Int32} {x4 : Int32} {h : zK} {p : Int32 × zK} (H : qM_takeBut x1 x2 x3 x4 h = some p) : zEv (zXs Ls xs) (d + 2) zm_166 (0, [some (.ref 215), some (.int x1), some (.int x2), some (.int x3), some (.int x4)], [], zhp h) (some (.int p.1), zhp p.2) := by
  unfold qM_takeBut at H
  refine zEv_k 4 (f' := (if (gI h 215 12) = 3 then 13 else 8, [some (.ref 215), some (.int x1), some (.int x2), some (.int x3), some (.int x4)], [], zhp h)) rfl (zEv_if (fun c1 => ?_) (fun c1 => ?_))
  · replace H := zif_t c1 H
    refine zEv_k 1 (f' := (14, [some (.ref 215), some (.int x1), some (.int x2), some (.int x3), some (.int x4)], [.ref 215], zhp h)) rfl ?_
    refine zRgr rfl rfl rfl (by decide) (b := 225) rfl ?_
    refine zEv_k 3 (f' := (22, [some (.ref 215), some (.int x1), some (.int x2), some (.int x3), some (.int x4)], [.int (gI h 215 13), .int x1, .ref 225], zhp h)) rfl ?_
    obtain ⟨j2, hj2, H⟩ := zbs H
    obtain ⟨h3, eh3, H⟩ := zlets H
    refine zRis rfl rfl (by decide) hj2 eh3 ?_
    obtain ⟨v5, hv5, H⟩ := zbs H
    have kv5 : zEv (zXs Ls xs) (d + 2) zm_166 (58, [some (.ref 215), some (.int x1), some (.int x2), some (.int x3), some (.int x4)], [], zhp v5) (some (.int p.1), zhp p.2) := by
      refine zEv_k 1 (f' := (59, [some (.ref 215), some (.int x1), some (.int x2), some (.int x3), some (.int x4)], [.ref 215], zhp v5)) rfl ?_
      obtain ⟨p11, hp11, H⟩ := zbs H
      refine zEv_c (fun _ => rfl) rfl (t_qM_token (h := v5) (d := d) hp11) rfl rfl ?_
      refine zEv_k 1 (f' := (63, [some (.ref 215), some (.int x1), some (.int x2), some (.int x3), some (.int x4)], [.int 1], zhp p11)) rfl ?_
      cases H
      exact zEv_r rfl
    clear H
    refine zEv_k 4 (f' := (29, [some (.ref 215), some (.int x1), some (.int x2), some (.int x3), some (.int x4)], [.int x3, .int x2, .int (gI h3 215 13)], zhp h3)) rfl ?_
    refine zEv_c (fun _ => rfl) rfl ev_zf_in rfl rfl ?_
    refine zEv_k 1 (f' := (if (zf_in (gI h3 215 13) x2 x3) = 0 then 44 else 35, [some (.ref 215), some (.int x1), some (.int x2), some (.int x3), some (.int x4)], [], zhp h3)) rfl (zEv_if (fun c4 => ?_) (fun c4 => ?_))
    · replace hv5 := zif_t c4 hv5
      refine zEv_k 4 (f' := (50, [some (.ref 215), some (.int x1), some (.int x2), some (.int x3), some (.int x4)], [.int (gI h3 215 11), .int 2, .ref 215], zhp h3)) rfl ?_
      obtain ⟨p6, hp6, hv5⟩ := zbs hv5
      refine zEv_c (fun _ => rfl) rfl (t_qM_addsFault (x1 := 2) (x2 := gI h3 215 11) (h := h3) (d := d + 1) hp6) rfl rfl ?_
      obtain ⟨h7, eh7, hv5⟩ := zlets hv5
      refine zEv_w (F := fun z => (58, [some (.ref 215), some (.int x1), some (.int x2), some (.int x3), some (.int x4)], [], zhp z)) (h0 := sI p6 215 21 0) 3 rfl eh7 ?_
      cases hv5
      exact kv5
    · replace hv5 := zif_f c4 hv5
      refine zEv_k 4 (f' := (if ¬ (gI h3 215 13) = x4 then 58 else 44, [some (.ref 215), some (.int x1), some (.int x2), some (.int x3), some (.int x4)], [], zhp h3)) rfl (zEv_if (fun c8 => ?_) (fun c8 => ?_))
      · replace hv5 := zif_t c8 hv5
        cases hv5
        exact kv5
      · replace hv5 := zif_f c8 hv5
        refine zEv_k 4 (f' := (50, [some (.ref 215), some (.int x1), some (.int x2), some (.int x3), some (.int x4)], [.int (gI h3 215 11), .int 2, .ref 215], zhp h3)) rfl ?_
        obtain ⟨p9, hp9, hv5⟩ := zbs hv5
        refine zEv_c (fun _ => rfl) rfl (t_qM_addsFault (x1 := 2) (x2 := gI h3 215 11) (h := h3) (d := d + 1) hp9) rfl rfl ?_
        obtain ⟨h10, eh10, hv5⟩ := zlets hv5
        refine zEv_w (F := fun z => (58, [some (.ref 215), some (.int x1), some (.int x2), some (.int x3), some (.int x4)], [], zhp z)) (h0 := sI p9 215 21 0) 3 rfl eh10 ?_
        cases hv5
        exact kv5
  · replace H := zif_f c1 H
    refine zEv_k 1 (f' := (9, [some (.ref 215), some (.int x1), some (.int x2), some (.int x3), some (.int x4)], [.ref 215], zhp h)) rfl ?_
    obtain ⟨p12, hp12, H⟩ := zbs H
    refine zEv_c (fun _ => rfl) rfl (t_qM_fails (h := h) (d := d + 1) hp12) rfl rfl ?_
    obtain ⟨c13, H⟩ := zifn H
    cases H
    exact zEv_rz rfl rfl c13
def qM_take (x1 : Int32) (x2 : Int32) (x3 : Int32) (h : zK) : Option (Int32 × zK) :=
  (qM_takeBut x1 x2 x3 (-1) h).bind fun p1 =>
  if zbool p1.1 = true then
    some (p1.1, p1.2)
  else none
theorem t_qM_take {Ls : Nat} {xs : Nat → Int32} {d : Nat} {x1 : Int32} {x2 : Int32} {x3 : Int32} {h : zK} {p : Int32 × zK} (H : qM_take x1 x2 x3 h = some p) : zEv (zXs Ls xs) (d + 3) zm_167 (0, [some (.ref 215), some (.int x1), some (.int x2), some (.int x3)], [], zhp h) (some (.int p.1), zhp p.2) := by
  unfold qM_take at H
  refine zEv_k 5 (f' := (5, [some (.ref 215), some (.int x1), some (.int x2), some (.int x3)], [.int (-1), .int x3, .int x2, .int x1, .ref 215], zhp h)) rfl ?_
  obtain ⟨p1, hp1, H⟩ := zbs H
  refine zEv_c (fun _ => rfl) rfl (t_qM_takeBut (x1 := x1) (x2 := x2) (x3 := x3) (x4 := -1) (h := h) (d := d) hp1) rfl rfl ?_
  obtain ⟨c2, H⟩ := zifn H
  cases H
  exact zEv_rz rfl rfl c2
def qM_full (x1 : Int32) (x2 : Int32) (x3 : Int32) (h : zK) : Option (zK) :=
  (zix x1 121).bind fun j1 =>
  if ¬ (gI h 224 j1) = x2 then
    some h
  else
    (qM_addsFault 3 x3 h).bind fun p3 =>
    some p3
theorem t_qM_full {Ls : Nat} {xs : Nat → Int32} {d : Nat} {x1 : Int32} {x2 : Int32} {x3 : Int32} {h : zK} {p : zK} (H : qM_full x1 x2 x3 h = some p) : zEv (zXs Ls xs) (d + 1) zm_168 (0, [some (.ref 215), some (.int x1), some (.int x2), some (.int x3)], [], zhp h) (none, zhp p) := by
  unfold qM_full at H
  refine zEv_k 1 (f' := (1, [some (.ref 215), some (.int x1), some (.int x2), some (.int x3)], [.ref 215], zhp h)) rfl ?_
  refine zRgr rfl rfl rfl (by decide) (b := 224) rfl ?_
  refine zEv_k 1 (f' := (5, [some (.ref 215), some (.int x1), some (.int x2), some (.int x3)], [.int x1, .ref 224], zhp h)) rfl ?_
  obtain ⟨j1, hj1, H⟩ := zbs H
  refine zRia rfl rfl (by decide) hj1 ?_
  refine zEv_k 2 (f' := (if ¬ (gI h 224 j1) = x2 then 16 else 10, [some (.ref 215), some (.int x1), some (.int x2), some (.int x3)], [], zhp h)) rfl (zEv_if (fun c2 => ?_) (fun c2 => ?_))
  · replace H := zif_t c2 H
    cases H
    exact zEv_r rfl
  · replace H := zif_f c2 H
    refine zEv_k 3 (f' := (13, [some (.ref 215), some (.int x1), some (.int x2), some (.int x3)], [.int x3, .int 3, .ref 215], zhp h)) rfl ?_
    obtain ⟨p3, hp3, H⟩ := zbs H
    refine zEv_c (fun _ => rfl) rfl (t_qM_addsFault (x1 := 3) (x2 := x3) (h := h) (d := d) hp3) rfl rfl ?_
    cases H
    exact zEv_r rfl
def qM_sayingLine_b87 (x2 : Int32) (s : Int32 × zK) : Option ((Int32 × zK) ⊕ (zK)) :=
  if 6 ≤ s.1 then
    some (.inr s.2)
  else
    if 7 ≤ x2 then
      some (.inr s.2)
    else
      (zix s.1 6).bind fun j17 =>
      (zix ((3 + (7 * s.1)) + x2) 121).bind fun j18 =>
      zlet (sI s.2 224 j18 (gI s.2 225 j17)) fun h19 =>
      some (.inl (s.1 + 1, h19))
theorem t_qM_sayingLine_b87b {Ls : Nat} {xs : Nat → Int32} {d : Nat} {x2 : Int32} {r : zA} {s : Int32 × zK} {e : (Int32 × zK) ⊕ (zK)} (H : qM_sayingLine_b87 x2 s = some e) (K : match (generalizing := false) e with | .inl s' => ∀ (z1 : Option Value), zEv (zXs Ls xs) (d + 4) zm_169 (87, [some (.ref 215), z1, some (.int x2), some (.int s'.1)], [], zhp s'.2) r | .inr v => ∀ (z1 : Option Value) (z3 : Option Value), zEv (zXs Ls xs) (d + 4) zm_169 (124, [some (.ref 215), z1, some (.int x2), z3], [], zhp v) r) (y1 : Option Value) : zEv (zXs Ls xs) (d + 4) zm_169 (87, [some (.ref 215), y1, some (.int x2), some (.int s.1)], [], zhp s.2) r := by
  unfold qM_sayingLine_b87 at H
  refine zEv_k 3 (f' := (if 6 ≤ s.1 then 124 else 93, [some (.ref 215), y1, some (.int x2), some (.int s.1)], [], zhp s.2)) rfl (zEv_if (fun c15 => ?_) (fun c15 => ?_))
  · replace H := zif_t c15 H
    cases H
    exact K _ _
  · replace H := zif_f c15 H
    refine zEv_k 3 (f' := (if 7 ≤ x2 then 124 else 99, [some (.ref 215), y1, some (.int x2), some (.int s.1)], [], zhp s.2)) rfl (zEv_if (fun c16 => ?_) (fun c16 => ?_))
    · replace H := zif_t c16 H
      cases H
      exact K _ _
    · replace H := zif_f c16 H
      refine zEv_k 1 (f' := (100, [some (.ref 215), y1, some (.int x2), some (.int s.1)], [.ref 215], zhp s.2)) rfl ?_
      refine zRgr rfl rfl rfl (by decide) (b := 224) rfl ?_
      refine zEv_k 8 (f' := (112, [some (.ref 215), y1, some (.int x2), some (.int s.1)], [.ref 215, .int ((3 + (7 * s.1)) + x2), .ref 224], zhp s.2)) rfl ?_
      refine zRgr rfl rfl rfl (by decide) (b := 225) rfl ?_
      refine zEv_k 1 (f' := (116, [some (.ref 215), y1, some (.int x2), some (.int s.1)], [.int s.1, .ref 225, .int ((3 + (7 * s.1)) + x2), .ref 224], zhp s.2)) rfl ?_
      obtain ⟨j17, hj17, H⟩ := zbs H
      refine zRia rfl rfl (by decide) hj17 ?_
      obtain ⟨j18, hj18, H⟩ := zbs H
      obtain ⟨h19, eh19, H⟩ := zlets H
      refine zRis rfl rfl (by decide) hj18 eh19 ?_
      refine zEv_k 2 (f' := (87, [some (.ref 215), y1, some (.int x2), some (.int (s.1 + 1))], [], zhp h19)) rfl ?_
      cases H
      exact K _
theorem t_qM_sayingLine_b87 {Ls : Nat} {xs : Nat → Int32} {d : Nat} {x2 : Int32} {r : zA} {t : zK} (K : ∀ (z1 : Option Value) (z3 : Option Value), zEv (zXs Ls xs) (d + 4) zm_169 (124, [some (.ref 215), z1, some (.int x2), z3], [], zhp t) r) (n : Nat) (s : Int32 × zK) (H : zloop (qM_sayingLine_b87 x2) n s = some t) (y1 : Option Value) : zEv (zXs Ls xs) (d + 4) zm_169 (87, [some (.ref 215), y1, some (.int x2), some (.int s.1)], [], zhp s.2) r := by
  have Z := zloop_P (P := fun s => ∀ (y1 : Option Value), zEv (zXs Ls xs) (d + 4) zm_169 (87, [some (.ref 215), y1, some (.int x2), some (.int s.1)], [], zhp s.2) r) (b := qM_sayingLine_b87 x2) (t := t) (fun s s2 hb hk => by intro y1; exact t_qM_sayingLine_b87b hb hk y1) (fun s hb => by intro y1; exact t_qM_sayingLine_b87b hb K y1) n s H
  exact Z y1
def qM_sayingLine (x1 : Int32) (h : zK) : Option (Int32 × zK) :=
  (qM_full 2 7 x1 h).bind fun p1 =>
  (qM_token p1).bind fun p2 =>
  (qM_take 0 0 30 p2).bind fun p3 =>
  if p3.1 = 0 then
    some (0, p3.2)
  else
    (qM_take 1 0 5 p3.2).bind fun p5 =>
    if p5.1 = 0 then
      some (0, p5.2)
    else
      (qM_take 2 0 30 p5.2).bind fun p7 =>
      if p7.1 = 0 then
        some (0, p7.2)
      else
        (qM_take 3 0 5 p7.2).bind fun p9 =>
        if p9.1 = 0 then
          some (0, p9.2)
        else
          (qM_take 4 1 40 p9.2).bind fun p11 =>
          if p11.1 = 0 then
            some (0, p11.2)
          else
            (qM_take 5 0 20 p11.2).bind fun p13 =>
            if ¬ p13.1 = 0 then
              (zloop (qM_sayingLine_b87 (gI p13.2 224 2)) zfu (0, p13.2)).bind fun t20 =>
              zlet (sI t20 224 2 (zf_lesser 7 ((gI p13.2 224 2) + 1))) fun h22 =>
              some (1, h22)
            else
              some (0, p13.2)
theorem t_qM_sayingLine {Ls : Nat} {xs : Nat → Int32} {d : Nat} {x1 : Int32} {h : zK} {p : Int32 × zK} (H : qM_sayingLine x1 h = some p) : zEv (zXs Ls xs) (d + 4) zm_169 (0, [some (.ref 215), some (.int x1), none, none], [], zhp h) (some (.int p.1), zhp p.2) := by
  unfold qM_sayingLine at H
  refine zEv_k 4 (f' := (5, [some (.ref 215), some (.int x1), none, none], [.int x1, .int 7, .int 2, .ref 215], zhp h)) rfl ?_
  obtain ⟨p1, hp1, H⟩ := zbs H
  refine zEv_c (fun _ => rfl) rfl (t_qM_full (x1 := 2) (x2 := 7) (x3 := x1) (h := h) (d := d + 2) hp1) rfl rfl ?_
  refine zEv_k 1 (f' := (9, [some (.ref 215), some (.int x1), none, none], [.ref 215], zhp p1)) rfl ?_
  obtain ⟨p2, hp2, H⟩ := zbs H
  refine zEv_c (fun _ => rfl) rfl (t_qM_token (h := p1) (d := d + 2) hp2) rfl rfl ?_
  refine zEv_k 4 (f' := (17, [some (.ref 215), some (.int x1), none, none], [.int 30, .int 0, .int 0, .ref 215], zhp p2)) rfl ?_
  obtain ⟨p3, hp3, H⟩ := zbs H
  refine zEv_c (fun _ => rfl) rfl (t_qM_take (x1 := 0) (x2 := 0) (x3 := 30) (h := p2) (d := d) hp3) rfl rfl ?_
  refine zEv_k 1 (f' := (if p3.1 = 0 then 76 else 23, [some (.ref 215), some (.int x1), none, none], [], zhp p3.2)) rfl (zEv_if (fun c4 => ?_) (fun c4 => ?_))
  · replace H := zif_t c4 H
    refine zEv_k 1 (f' := (77, [some (.ref 215), some (.int x1), none, none], [.int 0], zhp p3.2)) rfl ?_
    cases H
    exact zEv_r rfl
  · replace H := zif_f c4 H
    refine zEv_k 4 (f' := (27, [some (.ref 215), some (.int x1), none, none], [.int 5, .int 0, .int 1, .ref 215], zhp p3.2)) rfl ?_
    obtain ⟨p5, hp5, H⟩ := zbs H
    refine zEv_c (fun _ => rfl) rfl (t_qM_take (x1 := 1) (x2 := 0) (x3 := 5) (h := p3.2) (d := d) hp5) rfl rfl ?_
    refine zEv_k 1 (f' := (if p5.1 = 0 then 76 else 33, [some (.ref 215), some (.int x1), none, none], [], zhp p5.2)) rfl (zEv_if (fun c6 => ?_) (fun c6 => ?_))
    · replace H := zif_t c6 H
      refine zEv_k 1 (f' := (77, [some (.ref 215), some (.int x1), none, none], [.int 0], zhp p5.2)) rfl ?_
      cases H
      exact zEv_r rfl
    · replace H := zif_f c6 H
      refine zEv_k 4 (f' := (38, [some (.ref 215), some (.int x1), none, none], [.int 30, .int 0, .int 2, .ref 215], zhp p5.2)) rfl ?_
      obtain ⟨p7, hp7, H⟩ := zbs H
      refine zEv_c (fun _ => rfl) rfl (t_qM_take (x1 := 2) (x2 := 0) (x3 := 30) (h := p5.2) (d := d) hp7) rfl rfl ?_
      refine zEv_k 1 (f' := (if p7.1 = 0 then 76 else 44, [some (.ref 215), some (.int x1), none, none], [], zhp p7.2)) rfl (zEv_if (fun c8 => ?_) (fun c8 => ?_))
      · replace H := zif_t c8 H
        refine zEv_k 1 (f' := (77, [some (.ref 215), some (.int x1), none, none], [.int 0], zhp p7.2)) rfl ?_
        cases H
        exact zEv_r rfl
      · replace H := zif_f c8 H
        refine zEv_k 4 (f' := (48, [some (.ref 215), some (.int x1), none, none], [.int 5, .int 0, .int 3, .ref 215], zhp p7.2)) rfl ?_
        obtain ⟨p9, hp9, H⟩ := zbs H
        refine zEv_c (fun _ => rfl) rfl (t_qM_take (x1 := 3) (x2 := 0) (x3 := 5) (h := p7.2) (d := d) hp9) rfl rfl ?_
        refine zEv_k 1 (f' := (if p9.1 = 0 then 76 else 54, [some (.ref 215), some (.int x1), none, none], [], zhp p9.2)) rfl (zEv_if (fun c10 => ?_) (fun c10 => ?_))
        · replace H := zif_t c10 H
          refine zEv_k 1 (f' := (77, [some (.ref 215), some (.int x1), none, none], [.int 0], zhp p9.2)) rfl ?_
          cases H
          exact zEv_r rfl
        · replace H := zif_f c10 H
          refine zEv_k 4 (f' := (59, [some (.ref 215), some (.int x1), none, none], [.int 40, .int 1, .int 4, .ref 215], zhp p9.2)) rfl ?_
          obtain ⟨p11, hp11, H⟩ := zbs H
          refine zEv_c (fun _ => rfl) rfl (t_qM_take (x1 := 4) (x2 := 1) (x3 := 40) (h := p9.2) (d := d) hp11) rfl rfl ?_
          refine zEv_k 1 (f' := (if p11.1 = 0 then 76 else 65, [some (.ref 215), some (.int x1), none, none], [], zhp p11.2)) rfl (zEv_if (fun c12 => ?_) (fun c12 => ?_))
          · replace H := zif_t c12 H
            refine zEv_k 1 (f' := (77, [some (.ref 215), some (.int x1), none, none], [.int 0], zhp p11.2)) rfl ?_
            cases H
            exact zEv_r rfl
          · replace H := zif_f c12 H
            refine zEv_k 4 (f' := (70, [some (.ref 215), some (.int x1), none, none], [.int 20, .int 0, .int 5, .ref 215], zhp p11.2)) rfl ?_
            obtain ⟨p13, hp13, H⟩ := zbs H
            refine zEv_c (fun _ => rfl) rfl (t_qM_take (x1 := 5) (x2 := 0) (x3 := 20) (h := p11.2) (d := d) hp13) rfl rfl ?_
            refine zEv_k 1 (f' := (if ¬ p13.1 = 0 then 78 else 76, [some (.ref 215), some (.int x1), none, none], [], zhp p13.2)) rfl (zEv_if (fun c14 => ?_) (fun c14 => ?_))
            · replace H := zif_t c14 H
              refine zEv_k 1 (f' := (79, [some (.ref 215), some (.int x1), none, none], [.ref 215], zhp p13.2)) rfl ?_
              refine zRgr rfl rfl rfl (by decide) (b := 224) rfl ?_
              refine zEv_k 1 (f' := (83, [some (.ref 215), some (.int x1), none, none], [.int 2, .ref 224], zhp p13.2)) rfl ?_
              refine zRia (j := 2) rfl rfl (by decide) (by decide) ?_
              refine zEv_k 3 (f' := (87, [some (.ref 215), some (.int x1), some (.int (gI p13.2 224 2)), some (.int 0)], [], zhp p13.2)) rfl ?_
              obtain ⟨t20, ht20, H⟩ := zbs H
              refine t_qM_sayingLine_b87 (x2 := gI p13.2 224 2) ?_ zfu _ ht20 _
              intro y1 y3
              refine zEv_k 1 (f' := (125, [some (.ref 215), y1, some (.int (gI p13.2 224 2)), y3], [.ref 215], zhp t20)) rfl ?_
              refine zRgr rfl rfl rfl (by decide) (b := 224) rfl ?_
              refine zEv_k 5 (f' := (134, [some (.ref 215), y1, some (.int (gI p13.2 224 2)), y3], [.int ((gI p13.2 224 2) + 1), .int 7, .int 2, .ref 224], zhp t20)) rfl ?_
              refine zEv_c (fun _ => rfl) rfl ev_zf_lesser rfl rfl ?_
              obtain ⟨h22, eh22, H⟩ := zlets H
              refine zRis (j := 2) rfl rfl (by decide) (by decide) eh22 ?_
              refine zEv_k 1 (f' := (139, [some (.ref 215), y1, some (.int (gI p13.2 224 2)), y3], [.int 1], zhp h22)) rfl ?_
              cases H
              exact zEv_r rfl
            · replace H := zif_f c14 H
              refine zEv_k 1 (f' := (77, [some (.ref 215), some (.int x1), none, none], [.int 0], zhp p13.2)) rfl ?_
              cases H
              exact zEv_r rfl
def qM_cellarLine_j43 (x1 : Int64) (h : zK) : Option (Int32 × zK) :=
  (qM_token h).bind fun p3 =>
  if (lg_cmp x1 27424514944365171) = 0 then
    (qM_take 0 0 6 p3).bind fun p5 =>
    if p5.1 = 0 then
      some (0, p5.2)
    else
      (qM_takeBut 1 0 6 (gI p5.2 225 0) p5.2).bind fun p7 =>
      if ¬ p7.1 = 0 then
        zlet (sI p7.2 215 20 (zf_greater (gI p7.2 215 20) (zf_greater (gI p7.2 225 0) (gI p7.2 225 1)))) fun h9 =>
        if (gI h9 215 21) = 0 then
          some (1, h9)
        else
          (zix (45 + (gI h9 225 0)) 121).bind fun j11 =>
          zlet (sI h9 224 j11 ((gI h9 224 j11) ||| ((1 : Int32) <<< ((gI h9 225 1) &&& 31)))) fun h12 =>
          some (1, h12)
      else
        some (0, p7.2)
  else
    zlet (
        if ¬ (lg_cmp x1 495673369451) = 0 then
          1
        else
          0
      ) fun (v14 : Int32) =>
    (qM_take 0 0 9 p3).bind fun p15 =>
    if ¬ p15.1 = 0 then
      Option.bind (
          if (gI p15.2 215 21) = 0 then
            (zix v14 121).bind fun j19 =>
            some (gI p15.2 224 j19)
          else
            some (gI p15.2 225 0)
        ) fun (v18 : Int32) =>
      (zix v14 121).bind fun j20 =>
      zlet (sI p15.2 224 j20 v18) fun h21 =>
      some (1, h21)
    else
      some (0, p15.2)
theorem t_qM_cellarLine_j43 {Ls : Nat} {xs : Nat → Int32} {d : Nat} {x1 : Int64} {h : zK} {p : Int32 × zK} (H : qM_cellarLine_j43 x1 h = some p)  (y3 : Option Value) (y4 : Option Value) : zEv (zXs Ls xs) (d + 5) zm_170 (43, [some (.ref 215), some (.long x1), none, y3, y4], [], zhp h) (some (.int p.1), zhp p.2) := by
  unfold qM_cellarLine_j43 at H
  refine zEv_k 1 (f' := (44, [some (.ref 215), some (.long x1), none, y3, y4], [.ref 215], zhp h)) rfl ?_
  obtain ⟨p3, hp3, H⟩ := zbs H
  refine zEv_c (fun _ => rfl) rfl (t_qM_token (h := h) (d := d + 3) hp3) rfl rfl ?_
  refine zEv_k 4 (f' := (if (lg_cmp x1 27424514944365171) = 0 then 115 else 55, [some (.ref 215), some (.long x1), none, y3, y4], [], zhp p3)) rfl (zEv_if (fun c4 => ?_) (fun c4 => ?_))
  · replace H := zif_t c4 H
    refine zEv_k 4 (f' := (120, [some (.ref 215), some (.long x1), none, y3, y4], [.int 6, .int 0, .int 0, .ref 215], zhp p3)) rfl ?_
    obtain ⟨p5, hp5, H⟩ := zbs H
    refine zEv_c (fun _ => rfl) rfl (t_qM_take (x1 := 0) (x2 := 0) (x3 := 6) (h := p3) (d := d + 1) hp5) rfl rfl ?_
    refine zEv_k 1 (f' := (if p5.1 = 0 then 143 else 126, [some (.ref 215), some (.long x1), none, y3, y4], [], zhp p5.2)) rfl (zEv_if (fun c6 => ?_) (fun c6 => ?_))
    · replace H := zif_t c6 H
      refine zEv_k 1 (f' := (144, [some (.ref 215), some (.long x1), none, y3, y4], [.int 0], zhp p5.2)) rfl ?_
      cases H
      exact zEv_r rfl
    · replace H := zif_f c6 H
      refine zEv_k 5 (f' := (132, [some (.ref 215), some (.long x1), none, y3, y4], [.ref 215, .int 6, .int 0, .int 1, .ref 215], zhp p5.2)) rfl ?_
      refine zRgr rfl rfl rfl (by decide) (b := 225) rfl ?_
      refine zEv_k 1 (f' := (136, [some (.ref 215), some (.long x1), none, y3, y4], [.int 0, .ref 225, .int 6, .int 0, .int 1, .ref 215], zhp p5.2)) rfl ?_
      refine zRia (j := 0) rfl rfl (by decide) (by decide) ?_
      obtain ⟨p7, hp7, H⟩ := zbs H
      refine zEv_c (fun _ => rfl) rfl (t_qM_takeBut (x1 := 1) (x2 := 0) (x3 := 6) (x4 := gI p5.2 225 0) (h := p5.2) (d := d + 2) hp7) rfl rfl ?_
      refine zEv_k 1 (f' := (if ¬ p7.1 = 0 then 145 else 143, [some (.ref 215), some (.long x1), none, y3, y4], [], zhp p7.2)) rfl (zEv_if (fun c8 => ?_) (fun c8 => ?_))
      · replace H := zif_t c8 H
        refine zEv_k 4 (f' := (151, [some (.ref 215), some (.long x1), none, y3, y4], [.ref 215, .int (gI p7.2 215 20), .ref 215], zhp p7.2)) rfl ?_
        refine zRgr rfl rfl rfl (by decide) (b := 225) rfl ?_
        refine zEv_k 1 (f' := (155, [some (.ref 215), some (.long x1), none, y3, y4], [.int 0, .ref 225, .int (gI p7.2 215 20), .ref 215], zhp p7.2)) rfl ?_
        refine zRia (j := 0) rfl rfl (by decide) (by decide) ?_
        refine zEv_k 1 (f' := (157, [some (.ref 215), some (.long x1), none, y3, y4], [.ref 215, .int (gI p7.2 225 0), .int (gI p7.2 215 20), .ref 215], zhp p7.2)) rfl ?_
        refine zRgr rfl rfl rfl (by decide) (b := 225) rfl ?_
        refine zEv_k 1 (f' := (161, [some (.ref 215), some (.long x1), none, y3, y4], [.int 1, .ref 225, .int (gI p7.2 225 0), .int (gI p7.2 215 20), .ref 215], zhp p7.2)) rfl ?_
        refine zRia (j := 1) rfl rfl (by decide) (by decide) ?_
        refine zEv_c (fun _ => rfl) rfl ev_zf_greater rfl rfl ?_
        refine zEv_c (fun _ => rfl) rfl ev_zf_greater rfl rfl ?_
        obtain ⟨h9, eh9, H⟩ := zlets H
        refine zEv_w (F := fun z => (171, [some (.ref 215), some (.long x1), none, y3, y4], [], zhp z)) (h0 := sI p7.2 215 20 (zf_greater (gI p7.2 215 20) (zf_greater (gI p7.2 225 0) (gI p7.2 225 1)))) 1 rfl eh9 ?_
        refine zEv_k 3 (f' := (if (gI h9 215 21) = 0 then 203 else 178, [some (.ref 215), some (.long x1), none, y3, y4], [], zhp h9)) rfl (zEv_if (fun c10 => ?_) (fun c10 => ?_))
        · replace H := zif_t c10 H
          refine zEv_k 1 (f' := (204, [some (.ref 215), some (.long x1), none, y3, y4], [.int 1], zhp h9)) rfl ?_
          cases H
          exact zEv_r rfl
        · replace H := zif_f c10 H
          refine zEv_k 1 (f' := (179, [some (.ref 215), some (.long x1), none, y3, y4], [.ref 215], zhp h9)) rfl ?_
          refine zRgr rfl rfl rfl (by decide) (b := 224) rfl ?_
          refine zEv_k 2 (f' := (185, [some (.ref 215), some (.long x1), none, y3, y4], [.ref 215, .int 45, .ref 224], zhp h9)) rfl ?_
          refine zRgr rfl rfl rfl (by decide) (b := 225) rfl ?_
          refine zEv_k 1 (f' := (189, [some (.ref 215), some (.long x1), none, y3, y4], [.int 0, .ref 225, .int 45, .ref 224], zhp h9)) rfl ?_
          refine zRia (j := 0) rfl rfl (by decide) (by decide) ?_
          refine zEv_k 2 (f' := (192, [some (.ref 215), some (.long x1), none, y3, y4], [.int (45 + (gI h9 225 0)), .ref 224, .int (45 + (gI h9 225 0)), .ref 224], zhp h9)) rfl ?_
          obtain ⟨j11, hj11, H⟩ := zbs H
          refine zRia rfl rfl (by decide) hj11 ?_
          refine zEv_k 2 (f' := (195, [some (.ref 215), some (.long x1), none, y3, y4], [.ref 215, .int 1, .int (gI h9 224 j11), .int (45 + (gI h9 225 0)), .ref 224], zhp h9)) rfl ?_
          refine zRgr rfl rfl rfl (by decide) (b := 225) rfl ?_
          refine zEv_k 1 (f' := (199, [some (.ref 215), some (.long x1), none, y3, y4], [.int 1, .ref 225, .int 1, .int (gI h9 224 j11), .int (45 + (gI h9 225 0)), .ref 224], zhp h9)) rfl ?_
          refine zRia (j := 1) rfl rfl (by decide) (by decide) ?_
          refine zEv_k 2 (f' := (202, [some (.ref 215), some (.long x1), none, y3, y4], [.int ((gI h9 224 j11) ||| ((1 : Int32) <<< ((gI h9 225 1) &&& 31))), .int (45 + (gI h9 225 0)), .ref 224], zhp h9)) rfl ?_
          obtain ⟨h12, eh12, H⟩ := zlets H
          refine zRis rfl rfl (by decide) hj11 eh12 ?_
          refine zEv_k 1 (f' := (204, [some (.ref 215), some (.long x1), none, y3, y4], [.int 1], zhp h12)) rfl ?_
          cases H
          exact zEv_r rfl
      · replace H := zif_f c8 H
        refine zEv_k 1 (f' := (144, [some (.ref 215), some (.long x1), none, y3, y4], [.int 0], zhp p7.2)) rfl ?_
        cases H
        exact zEv_r rfl
  · replace H := zif_f c4 H
    obtain ⟨v14, hv14, H⟩ := zlets H
    have kv14 : zEv (zXs Ls xs) (d + 5) zm_170 (68, [some (.ref 215), some (.long x1), none, y3, y4], [.int v14], zhp p3) (some (.int p.1), zhp p.2) := by
      refine zEv_k 5 (f' := (75, [some (.ref 215), some (.long x1), none, zlost y3, some (.int v14)], [.int 9, .int 0, .int 0, .ref 215], zhp p3)) rfl ?_
      obtain ⟨p15, hp15, H⟩ := zbs H
      refine zEv_c (fun _ => rfl) rfl (t_qM_take (x1 := 0) (x2 := 0) (x3 := 9) (h := p3) (d := d + 1) hp15) rfl rfl ?_
      refine zEv_k 1 (f' := (if ¬ p15.1 = 0 then 83 else 81, [some (.ref 215), some (.long x1), none, zlost y3, some (.int v14)], [], zhp p15.2)) rfl (zEv_if (fun c16 => ?_) (fun c16 => ?_))
      · replace H := zif_t c16 H
        obtain ⟨v18, hv18, H⟩ := zbs H
        have kv18 : zEv (zXs Ls xs) (d + 5) zm_170 (112, [some (.ref 215), some (.long x1), none, zlost y3, some (.int v14)], [.int v18, .int v14, .ref 224], zhp p15.2) (some (.int p.1), zhp p.2) := by
          obtain ⟨j20, hj20, H⟩ := zbs H
          obtain ⟨h21, eh21, H⟩ := zlets H
          refine zRis rfl rfl (by decide) hj20 eh21 ?_
          refine zEv_k 1 (f' := (114, [some (.ref 215), some (.long x1), none, zlost y3, some (.int v14)], [.int 1], zhp h21)) rfl ?_
          cases H
          exact zEv_r rfl
        clear H
        refine zEv_k 1 (f' := (84, [some (.ref 215), some (.long x1), none, zlost y3, some (.int v14)], [.ref 215], zhp p15.2)) rfl ?_
        refine zRgr rfl rfl rfl (by decide) (b := 224) rfl ?_
        refine zEv_k 4 (f' := (if (gI p15.2 215 21) = 0 then 105 else 96, [some (.ref 215), some (.long x1), none, zlost y3, some (.int v14)], [.int v14, .ref 224], zhp p15.2)) rfl (zEv_if (fun c17 => ?_) (fun c17 => ?_))
        · replace hv18 := zif_t c17 hv18
          refine zEv_k 1 (f' := (106, [some (.ref 215), some (.long x1), none, zlost y3, some (.int v14)], [.ref 215, .int v14, .ref 224], zhp p15.2)) rfl ?_
          refine zRgr rfl rfl rfl (by decide) (b := 224) rfl ?_
          refine zEv_k 1 (f' := (111, [some (.ref 215), some (.long x1), none, zlost y3, some (.int v14)], [.int v14, .ref 224, .int v14, .ref 224], zhp p15.2)) rfl ?_
          obtain ⟨j19, hj19, hv18⟩ := zbs hv18
          refine zRia rfl rfl (by decide) hj19 ?_
          cases hv18
          exact kv18
        · replace hv18 := zif_f c17 hv18
          refine zEv_k 1 (f' := (97, [some (.ref 215), some (.long x1), none, zlost y3, some (.int v14)], [.ref 215, .int v14, .ref 224], zhp p15.2)) rfl ?_
          refine zRgr rfl rfl rfl (by decide) (b := 225) rfl ?_
          refine zEv_k 1 (f' := (101, [some (.ref 215), some (.long x1), none, zlost y3, some (.int v14)], [.int 0, .ref 225, .int v14, .ref 224], zhp p15.2)) rfl ?_
          refine zRia (j := 0) rfl rfl (by decide) (by decide) ?_
          refine zEv_k 1 (f' := (112, [some (.ref 215), some (.long x1), none, zlost y3, some (.int v14)], [.int (gI p15.2 225 0), .int v14, .ref 224], zhp p15.2)) rfl ?_
          cases hv18
          exact kv18
      · replace H := zif_f c16 H
        refine zEv_k 1 (f' := (82, [some (.ref 215), some (.long x1), none, zlost y3, some (.int v14)], [.int 0], zhp p15.2)) rfl ?_
        cases H
        exact zEv_r rfl
    clear H
    refine zEv_k 4 (f' := (if ¬ (lg_cmp x1 495673369451) = 0 then 67 else 63, [some (.ref 215), some (.long x1), none, y3, y4], [], zhp p3)) rfl (zEv_if (fun c13 => ?_) (fun c13 => ?_))
    · replace hv14 := zif_t c13 hv14
      refine zEv_k 1 (f' := (68, [some (.ref 215), some (.long x1), none, y3, y4], [.int 1], zhp p3)) rfl ?_
      cases hv14
      exact kv14
    · replace hv14 := zif_f c13 hv14
      refine zEv_k 2 (f' := (68, [some (.ref 215), some (.long x1), none, y3, y4], [.int 0], zhp p3)) rfl ?_
      cases hv14
      exact kv14
def qM_cellarLine (x1 : Int64) (x3 : Int32) (h : zK) : Option (Int32 × zK) :=
  if ¬ (lg_cmp x1 126862485974631) = 0 then
    if (lg_cmp x1 495673369451) = 0 then
      qM_cellarLine_j43 x1 h
    else
      if (lg_cmp x1 491327153000) = 0 then
        qM_cellarLine_j43 x1 h
      else
        if (lg_cmp x1 27424514944365171) = 0 then
          qM_cellarLine_j43 x1 h
        else
          (qM_fails h).bind fun p24 =>
          if zbool p24.1 = true then
            some (p24.1, p24.2)
          else none
  else
    (qM_sayingLine x3 h).bind fun p26 =>
    if zbool p26.1 = true then
      some (p26.1, p26.2)
    else none
theorem t_qM_cellarLine {Ls : Nat} {xs : Nat → Int32} {d : Nat} {x1 : Int64} {x3 : Int32} {h : zK} {p : Int32 × zK} (H : qM_cellarLine x1 x3 h = some p) : zEv (zXs Ls xs) (d + 5) zm_170 (0, [some (.ref 215), some (.long x1), none, some (.int x3), none], [], zhp h) (some (.int p.1), zhp p.2) := by
  unfold qM_cellarLine at H
  refine zEv_k 4 (f' := (if ¬ (lg_cmp x1 126862485974631) = 0 then 14 else 8, [some (.ref 215), some (.long x1), none, some (.int x3), none], [], zhp h)) rfl (zEv_if (fun c1 => ?_) (fun c1 => ?_))
  · replace H := zif_t c1 H
    refine zEv_k 4 (f' := (if (lg_cmp x1 495673369451) = 0 then 43 else 22, [some (.ref 215), some (.long x1), none, some (.int x3), none], [], zhp h)) rfl (zEv_if (fun c2 => ?_) (fun c2 => ?_))
    · replace H := zif_t c2 H
      exact t_qM_cellarLine_j43 (x1 := x1) (h := h) H _ _
    · replace H := zif_f c2 H
      refine zEv_k 4 (f' := (if (lg_cmp x1 491327153000) = 0 then 43 else 30, [some (.ref 215), some (.long x1), none, some (.int x3), none], [], zhp h)) rfl (zEv_if (fun c22 => ?_) (fun c22 => ?_))
      · replace H := zif_t c22 H
        exact t_qM_cellarLine_j43 (x1 := x1) (h := h) H _ _
      · replace H := zif_f c22 H
        refine zEv_k 4 (f' := (if (lg_cmp x1 27424514944365171) = 0 then 43 else 38, [some (.ref 215), some (.long x1), none, some (.int x3), none], [], zhp h)) rfl (zEv_if (fun c23 => ?_) (fun c23 => ?_))
        · replace H := zif_t c23 H
          exact t_qM_cellarLine_j43 (x1 := x1) (h := h) H _ _
        · replace H := zif_f c23 H
          refine zEv_k 1 (f' := (39, [some (.ref 215), some (.long x1), none, some (.int x3), none], [.ref 215], zhp h)) rfl ?_
          obtain ⟨p24, hp24, H⟩ := zbs H
          refine zEv_c (fun _ => rfl) rfl (t_qM_fails (h := h) (d := d + 4) hp24) rfl rfl ?_
          obtain ⟨c25, H⟩ := zifn H
          cases H
          exact zEv_rz rfl rfl c25
  · replace H := zif_f c1 H
    refine zEv_k 2 (f' := (10, [some (.ref 215), some (.long x1), none, some (.int x3), none], [.int x3, .ref 215], zhp h)) rfl ?_
    obtain ⟨p26, hp26, H⟩ := zbs H
    refine zEv_c (fun _ => rfl) rfl (t_qM_sayingLine (x1 := x3) (h := h) (d := d) hp26) rfl rfl ?_
    obtain ⟨c27, H⟩ := zifn H
    cases H
    exact zEv_rz rfl rfl c27
def qM_keepRow_b16 (x1 : Int32) (x3 : Int32) (s : Int32 × zK) : Option ((Int32 × zK) ⊕ (zK)) :=
  if x1 ≤ s.1 then
    some (.inr s.2)
  else
    (zix s.1 6).bind fun j3 =>
    (zix ((1 + (x1 * x3)) + s.1) 121).bind fun j4 =>
    zlet (sI s.2 224 j4 (gI s.2 225 j3)) fun h5 =>
    some (.inl (s.1 + 1, h5))
theorem t_qM_keepRow_b16b {Ls : Nat} {xs : Nat → Int32} {d : Nat} {x1 : Int32} {x3 : Int32} {r : zA} {s : Int32 × zK} {e : (Int32 × zK) ⊕ (zK)} (H : qM_keepRow_b16 x1 x3 s = some e) (K : match (generalizing := false) e with | .inl s' => ∀ (z2 : Option Value), zEv (zXs Ls xs) d zm_171 (16, [some (.ref 215), some (.int x1), z2, some (.int x3), some (.int s'.1)], [], zhp s'.2) r | .inr v => ∀ (z2 : Option Value) (z4 : Option Value), zEv (zXs Ls xs) d zm_171 (48, [some (.ref 215), some (.int x1), z2, some (.int x3), z4], [], zhp v) r) (y2 : Option Value) : zEv (zXs Ls xs) d zm_171 (16, [some (.ref 215), some (.int x1), y2, some (.int x3), some (.int s.1)], [], zhp s.2) r := by
  unfold qM_keepRow_b16 at H
  refine zEv_k 3 (f' := (if x1 ≤ s.1 then 48 else 22, [some (.ref 215), some (.int x1), y2, some (.int x3), some (.int s.1)], [], zhp s.2)) rfl (zEv_if (fun c2 => ?_) (fun c2 => ?_))
  · replace H := zif_t c2 H
    cases H
    exact K _ _
  · replace H := zif_f c2 H
    refine zEv_k 1 (f' := (23, [some (.ref 215), some (.int x1), y2, some (.int x3), some (.int s.1)], [.ref 215], zhp s.2)) rfl ?_
    refine zRgr rfl rfl rfl (by decide) (b := 224) rfl ?_
    refine zEv_k 8 (f' := (35, [some (.ref 215), some (.int x1), y2, some (.int x3), some (.int s.1)], [.ref 215, .int ((1 + (x1 * x3)) + s.1), .ref 224], zhp s.2)) rfl ?_
    refine zRgr rfl rfl rfl (by decide) (b := 225) rfl ?_
    refine zEv_k 1 (f' := (40, [some (.ref 215), some (.int x1), y2, some (.int x3), some (.int s.1)], [.int s.1, .ref 225, .int ((1 + (x1 * x3)) + s.1), .ref 224], zhp s.2)) rfl ?_
    obtain ⟨j3, hj3, H⟩ := zbs H
    refine zRia rfl rfl (by decide) hj3 ?_
    obtain ⟨j4, hj4, H⟩ := zbs H
    obtain ⟨h5, eh5, H⟩ := zlets H
    refine zRis rfl rfl (by decide) hj4 eh5 ?_
    refine zEv_k 2 (f' := (16, [some (.ref 215), some (.int x1), y2, some (.int x3), some (.int (s.1 + 1))], [], zhp h5)) rfl ?_
    cases H
    exact K _
theorem t_qM_keepRow_b16 {Ls : Nat} {xs : Nat → Int32} {d : Nat} {x1 : Int32} {x3 : Int32} {r : zA} {t : zK} (K : ∀ (z2 : Option Value) (z4 : Option Value), zEv (zXs Ls xs) d zm_171 (48, [some (.ref 215), some (.int x1), z2, some (.int x3), z4], [], zhp t) r) (n : Nat) (s : Int32 × zK) (H : zloop (qM_keepRow_b16 x1 x3) n s = some t) (y2 : Option Value) : zEv (zXs Ls xs) d zm_171 (16, [some (.ref 215), some (.int x1), y2, some (.int x3), some (.int s.1)], [], zhp s.2) r := by
  have Z := zloop_P (P := fun s => ∀ (y2 : Option Value), zEv (zXs Ls xs) d zm_171 (16, [some (.ref 215), some (.int x1), y2, some (.int x3), some (.int s.1)], [], zhp s.2) r) (b := qM_keepRow_b16 x1 x3) (t := t) (fun s s2 hb hk => by intro y2; exact t_qM_keepRow_b16b hb hk y2) (fun s hb => by intro y2; exact t_qM_keepRow_b16b hb K y2) n s H
  exact Z y2
def qM_keepRow (x1 : Int32) (x2 : Int32) (h : zK) : Option (zK) :=
  if ¬ (gI h 224 0) = x2 then
    (zloop (qM_keepRow_b16 x1 (gI h 224 0)) zfu (0, h)).bind fun t6 =>
    zlet (sI t6 224 0 ((gI t6 224 0) + 1)) fun h8 =>
    some h8
  else
    some h
theorem t_qM_keepRow {Ls : Nat} {xs : Nat → Int32} {d : Nat} {x1 : Int32} {x2 : Int32} {h : zK} {p : zK} (H : qM_keepRow x1 x2 h = some p) : zEv (zXs Ls xs) d zm_171 (0, [some (.ref 215), some (.int x1), some (.int x2), none, none], [], zhp h) (none, zhp p) := by
  unfold qM_keepRow at H
  refine zEv_k 1 (f' := (1, [some (.ref 215), some (.int x1), some (.int x2), none, none], [.ref 215], zhp h)) rfl ?_
  refine zRgr rfl rfl rfl (by decide) (b := 224) rfl ?_
  refine zEv_k 1 (f' := (5, [some (.ref 215), some (.int x1), some (.int x2), none, none], [.int 0, .ref 224], zhp h)) rfl ?_
  refine zRia (j := 0) rfl rfl (by decide) (by decide) ?_
  refine zEv_k 4 (f' := (if ¬ (gI h 224 0) = x2 then 13 else 12, [some (.ref 215), some (.int x1), some (.int x2), some (.int (gI h 224 0)), none], [], zhp h)) rfl (zEv_if (fun c1 => ?_) (fun c1 => ?_))
  · replace H := zif_t c1 H
    refine zEv_k 2 (f' := (16, [some (.ref 215), some (.int x1), some (.int x2), some (.int (gI h 224 0)), some (.int 0)], [], zhp h)) rfl ?_
    obtain ⟨t6, ht6, H⟩ := zbs H
    refine t_qM_keepRow_b16 (x1 := x1) (x3 := gI h 224 0) ?_ zfu _ ht6 _
    intro y2 y4
    refine zEv_k 1 (f' := (49, [some (.ref 215), some (.int x1), y2, some (.int (gI h 224 0)), y4], [.ref 215], zhp t6)) rfl ?_
    refine zRgr rfl rfl rfl (by decide) (b := 224) rfl ?_
    refine zEv_k 2 (f' := (54, [some (.ref 215), some (.int x1), y2, some (.int (gI h 224 0)), y4], [.int 0, .ref 224, .int 0, .ref 224], zhp t6)) rfl ?_
    refine zRia (j := 0) rfl rfl (by decide) (by decide) ?_
    refine zEv_k 2 (f' := (57, [some (.ref 215), some (.int x1), y2, some (.int (gI h 224 0)), y4], [.int ((gI t6 224 0) + 1), .int 0, .ref 224], zhp t6)) rfl ?_
    obtain ⟨h8, eh8, H⟩ := zlets H
    refine zRis (j := 0) rfl rfl (by decide) (by decide) eh8 ?_
    cases H
    exact zEv_r rfl
  · replace H := zif_f c1 H
    cases H
    exact zEv_r rfl
def qM_deedBy (x1 : Int64) : Int32 :=
  if ¬ (lg_cmp x1 2036687218) = 0 then
    if ¬ (lg_cmp x1 1869636974) = 0 then
      if ¬ (lg_cmp x1 2003399269) = 0 then
        if ¬ (lg_cmp x1 499850505844) = 0 then
          if ¬ (lg_cmp x1 1836021349) = 0 then
            -1
          else
            4
        else
          3
      else
        2
    else
      1
  else
    0
theorem t_qM_deedBy {Ls : Nat} {xs : Nat → Int32} {d : Nat} {x1 : Int64} {h : zK} {p : Int32} (H : qM_deedBy x1 = p) : zEv (zXs Ls xs) d zm_172 (0, [some (.ref 215), some (.long x1), none], [], zhp h) (some (.int p), zhp h) := by
  unfold qM_deedBy at H
  refine zEv_k 4 (f' := (if ¬ (lg_cmp x1 2036687218) = 0 then 12 else 8, [some (.ref 215), some (.long x1), none], [], zhp h)) rfl (zEv_if (fun c1 => ?_) (fun c1 => ?_))
  · replace H := zif_t c1 H
    refine zEv_k 4 (f' := (if ¬ (lg_cmp x1 1869636974) = 0 then 24 else 20, [some (.ref 215), some (.long x1), none], [], zhp h)) rfl (zEv_if (fun c2 => ?_) (fun c2 => ?_))
    · replace H := zif_t c2 H
      refine zEv_k 4 (f' := (if ¬ (lg_cmp x1 2003399269) = 0 then 36 else 32, [some (.ref 215), some (.long x1), none], [], zhp h)) rfl (zEv_if (fun c3 => ?_) (fun c3 => ?_))
      · replace H := zif_t c3 H
        refine zEv_k 4 (f' := (if ¬ (lg_cmp x1 499850505844) = 0 then 48 else 44, [some (.ref 215), some (.long x1), none], [], zhp h)) rfl (zEv_if (fun c4 => ?_) (fun c4 => ?_))
        · replace H := zif_t c4 H
          refine zEv_k 4 (f' := (if ¬ (lg_cmp x1 1836021349) = 0 then 60 else 56, [some (.ref 215), some (.long x1), none], [], zhp h)) rfl (zEv_if (fun c5 => ?_) (fun c5 => ?_))
          · replace H := zif_t c5 H
            refine zEv_k 1 (f' := (61, [some (.ref 215), some (.long x1), none], [.int (-1)], zhp h)) rfl ?_
            cases H
            exact zEv_r rfl
          · replace H := zif_f c5 H
            refine zEv_k 2 (f' := (61, [some (.ref 215), some (.long x1), none], [.int 4], zhp h)) rfl ?_
            cases H
            exact zEv_r rfl
        · replace H := zif_f c4 H
          refine zEv_k 2 (f' := (61, [some (.ref 215), some (.long x1), none], [.int 3], zhp h)) rfl ?_
          cases H
          exact zEv_r rfl
      · replace H := zif_f c3 H
        refine zEv_k 2 (f' := (61, [some (.ref 215), some (.long x1), none], [.int 2], zhp h)) rfl ?_
        cases H
        exact zEv_r rfl
    · replace H := zif_f c2 H
      refine zEv_k 2 (f' := (61, [some (.ref 215), some (.long x1), none], [.int 1], zhp h)) rfl ?_
      cases H
      exact zEv_r rfl
  · replace H := zif_f c1 H
    refine zEv_k 2 (f' := (61, [some (.ref 215), some (.long x1), none], [.int 0], zhp h)) rfl ?_
    cases H
    exact zEv_r rfl
def qM_yearsLine_j79 (x4 : Int32) (h : zK) : Option (Int32 × zK) :=
  zlet (sI h 225 0 x4) fun h8 =>
  (qM_keepRow 3 40 h8).bind fun p9 =>
  some (1, p9)
theorem t_qM_yearsLine_j79 {Ls : Nat} {xs : Nat → Int32} {d : Nat} {x4 : Int32} {h : zK} {p : Int32 × zK} (H : qM_yearsLine_j79 x4 h = some p)  (y1 : Option Value) (y2 : Option Value) (y3 : Option Value) : zEv (zXs Ls xs) (d + 4) zm_173 (79, [some (.ref 215), y1, y2, y3, some (.int x4)], [], zhp h) (some (.int p.1), zhp p.2) := by
  unfold qM_yearsLine_j79 at H
  refine zEv_k 1 (f' := (80, [some (.ref 215), y1, y2, y3, some (.int x4)], [.ref 215], zhp h)) rfl ?_
  refine zRgr rfl rfl rfl (by decide) (b := 225) rfl ?_
  refine zEv_k 2 (f' := (86, [some (.ref 215), y1, y2, y3, some (.int x4)], [.int x4, .int 0, .ref 225], zhp h)) rfl ?_
  obtain ⟨h8, eh8, H⟩ := zlets H
  refine zRis (j := 0) rfl rfl (by decide) (by decide) eh8 ?_
  refine zEv_k 3 (f' := (91, [some (.ref 215), y1, y2, y3, some (.int x4)], [.int 40, .int 3, .ref 215], zhp h8)) rfl ?_
  obtain ⟨p9, hp9, H⟩ := zbs H
  refine zEv_c (fun _ => rfl) rfl (t_qM_keepRow (x1 := 3) (x2 := 40) (h := h8) (d := d + 3) hp9) rfl rfl ?_
  refine zEv_k 1 (f' := (95, [some (.ref 215), y1, y2, y3, some (.int x4)], [.int 1], zhp p9)) rfl ?_
  cases H
  exact zEv_r rfl
def qM_yearsLine_j60 (x4 : Int32) (h : zK) : Option (Int32 × zK) :=
  if ¬ x4 = 4 then
    qM_yearsLine_j79 x4 h
  else
    (qM_take 2 0 20 h).bind fun p10 =>
    if ¬ p10.1 = 0 then
      qM_yearsLine_j79 x4 p10.2
    else
      some (0, p10.2)
theorem t_qM_yearsLine_j60 {Ls : Nat} {xs : Nat → Int32} {d : Nat} {x4 : Int32} {h : zK} {p : Int32 × zK} (H : qM_yearsLine_j60 x4 h = some p)  (y1 : Option Value) (y2 : Option Value) (y3 : Option Value) : zEv (zXs Ls xs) (d + 4) zm_173 (60, [some (.ref 215), y1, y2, y3, some (.int x4)], [], zhp h) (some (.int p.1), zhp p.2) := by
  unfold qM_yearsLine_j60 at H
  refine zEv_k 3 (f' := (if ¬ x4 = 4 then 79 else 66, [some (.ref 215), y1, y2, y3, some (.int x4)], [], zhp h)) rfl (zEv_if (fun c7 => ?_) (fun c7 => ?_))
  · replace H := zif_t c7 H
    exact t_qM_yearsLine_j79 (x4 := x4) (h := h) H _ _ _
  · replace H := zif_f c7 H
    refine zEv_k 4 (f' := (71, [some (.ref 215), y1, y2, y3, some (.int x4)], [.int 20, .int 0, .int 2, .ref 215], zhp h)) rfl ?_
    obtain ⟨p10, hp10, H⟩ := zbs H
    refine zEv_c (fun _ => rfl) rfl (t_qM_take (x1 := 2) (x2 := 0) (x3 := 20) (h := h) (d := d) hp10) rfl rfl ?_
    refine zEv_k 1 (f' := (if ¬ p10.1 = 0 then 79 else 77, [some (.ref 215), y1, y2, y3, some (.int x4)], [], zhp p10.2)) rfl (zEv_if (fun c11 => ?_) (fun c11 => ?_))
    · replace H := zif_t c11 H
      exact t_qM_yearsLine_j79 (x4 := x4) (h := p10.2) H _ _ _
    · replace H := zif_f c11 H
      refine zEv_k 1 (f' := (78, [some (.ref 215), y1, y2, y3, some (.int x4)], [.int 0], zhp p10.2)) rfl ?_
      cases H
      exact zEv_r rfl
def qM_yearsLine (x1 : Int64) (x3 : Int32) (h : zK) : Option (Int32 × zK) :=
  if ¬ (qM_deedBy x1) = (-1) then
    (qM_full 0 40 x3 h).bind fun p2 =>
    (qM_token p2).bind fun p3 =>
    zlet (sI p3 225 1 (-1)) fun h4 =>
    zlet (sI h4 225 2 (-1)) fun h5 =>
    if (qM_deedBy x1) = 0 then
      qM_yearsLine_j60 (qM_deedBy x1) h5
    else
      (qM_take 1 0 6 h5).bind fun p12 =>
      if p12.1 = 0 then
        some (0, p12.2)
      else
        qM_yearsLine_j60 (qM_deedBy x1) p12.2
  else
    (qM_fails h).bind fun p14 =>
    if zbool p14.1 = true then
      some (p14.1, p14.2)
    else none
theorem t_qM_yearsLine {Ls : Nat} {xs : Nat → Int32} {d : Nat} {x1 : Int64} {x3 : Int32} {h : zK} {p : Int32 × zK} (H : qM_yearsLine x1 x3 h = some p) : zEv (zXs Ls xs) (d + 4) zm_173 (0, [some (.ref 215), some (.long x1), none, some (.int x3), none], [], zhp h) (some (.int p.1), zhp p.2) := by
  unfold qM_yearsLine at H
  refine zEv_k 2 (f' := (2, [some (.ref 215), some (.long x1), none, some (.int x3), none], [.long x1, .ref 215], zhp h)) rfl ?_
  refine zEv_c (fun _ => rfl) rfl (t_qM_deedBy (x1 := x1) (h := h) (d := d + 3) rfl) rfl rfl ?_
  refine zEv_k 4 (f' := (if ¬ (qM_deedBy x1) = (-1) then 18 else 13, [some (.ref 215), some (.long x1), none, some (.int x3), some (.int (qM_deedBy x1))], [], zhp h)) rfl (zEv_if (fun c1 => ?_) (fun c1 => ?_))
  · replace H := zif_t c1 H
    refine zEv_k 4 (f' := (23, [some (.ref 215), some (.long x1), none, some (.int x3), some (.int (qM_deedBy x1))], [.int x3, .int 40, .int 0, .ref 215], zhp h)) rfl ?_
    obtain ⟨p2, hp2, H⟩ := zbs H
    refine zEv_c (fun _ => rfl) rfl (t_qM_full (x1 := 0) (x2 := 40) (x3 := x3) (h := h) (d := d + 2) hp2) rfl rfl ?_
    refine zEv_k 1 (f' := (27, [some (.ref 215), some (.long x1), none, some (.int x3), some (.int (qM_deedBy x1))], [.ref 215], zhp p2)) rfl ?_
    obtain ⟨p3, hp3, H⟩ := zbs H
    refine zEv_c (fun _ => rfl) rfl (t_qM_token (h := p2) (d := d + 2) hp3) rfl rfl ?_
    refine zEv_k 1 (f' := (31, [some (.ref 215), some (.long x1), none, some (.int x3), some (.int (qM_deedBy x1))], [.ref 215], zhp p3)) rfl ?_
    refine zRgr rfl rfl rfl (by decide) (b := 225) rfl ?_
    refine zEv_k 2 (f' := (36, [some (.ref 215), some (.long x1), none, some (.int x3), some (.int (qM_deedBy x1))], [.int (-1), .int 1, .ref 225], zhp p3)) rfl ?_
    obtain ⟨h4, eh4, H⟩ := zlets H
    refine zRis (j := 1) rfl rfl (by decide) (by decide) eh4 ?_
    refine zEv_k 1 (f' := (38, [some (.ref 215), some (.long x1), none, some (.int x3), some (.int (qM_deedBy x1))], [.ref 215], zhp h4)) rfl ?_
    refine zRgr rfl rfl rfl (by decide) (b := 225) rfl ?_
    refine zEv_k 2 (f' := (43, [some (.ref 215), some (.long x1), none, some (.int x3), some (.int (qM_deedBy x1))], [.int (-1), .int 2, .ref 225], zhp h4)) rfl ?_
    obtain ⟨h5, eh5, H⟩ := zlets H
    refine zRis (j := 2) rfl rfl (by decide) (by decide) eh5 ?_
    refine zEv_k 2 (f' := (if (qM_deedBy x1) = 0 then 60 else 49, [some (.ref 215), some (.long x1), none, some (.int x3), some (.int (qM_deedBy x1))], [], zhp h5)) rfl (zEv_if (fun c6 => ?_) (fun c6 => ?_))
    · replace H := zif_t c6 H
      exact t_qM_yearsLine_j60 (x4 := qM_deedBy x1) (h := h5) H _ _ _
    · replace H := zif_f c6 H
      refine zEv_k 4 (f' := (54, [some (.ref 215), some (.long x1), none, some (.int x3), some (.int (qM_deedBy x1))], [.int 6, .int 0, .int 1, .ref 215], zhp h5)) rfl ?_
      obtain ⟨p12, hp12, H⟩ := zbs H
      refine zEv_c (fun _ => rfl) rfl (t_qM_take (x1 := 1) (x2 := 0) (x3 := 6) (h := h5) (d := d) hp12) rfl rfl ?_
      refine zEv_k 1 (f' := (if p12.1 = 0 then 77 else 60, [some (.ref 215), some (.long x1), none, some (.int x3), some (.int (qM_deedBy x1))], [], zhp p12.2)) rfl (zEv_if (fun c13 => ?_) (fun c13 => ?_))
      · replace H := zif_t c13 H
        refine zEv_k 1 (f' := (78, [some (.ref 215), some (.long x1), none, some (.int x3), some (.int (qM_deedBy x1))], [.int 0], zhp p12.2)) rfl ?_
        cases H
        exact zEv_r rfl
      · replace H := zif_f c13 H
        exact t_qM_yearsLine_j60 (x4 := qM_deedBy x1) (h := p12.2) H _ _ _
  · replace H := zif_f c1 H
    refine zEv_k 1 (f' := (14, [some (.ref 215), some (.long x1), none, some (.int x3), some (.int (qM_deedBy x1))], [.ref 215], zhp h)) rfl ?_
    obtain ⟨p14, hp14, H⟩ := zbs H
    refine zEv_c (fun _ => rfl) rfl (t_qM_fails (h := h) (d := d + 3) hp14) rfl rfl ?_
    obtain ⟨c15, H⟩ := zifn H
    cases H
    exact zEv_rz rfl rfl c15
def qM_logLine (x1 : Int64) (x3 : Int32) (h : zK) : Option (Int32 × zK) :=
  if (lg_cmp x1 448377483876) = 0 then
    (qM_full 0 8 x3 h).bind fun p2 =>
    (qM_token p2).bind fun p3 =>
    (qM_take 0 1 20 p3).bind fun p4 =>
    if p4.1 = 0 then
      some (0, p4.2)
    else
      (qM_take 1 0 7 p4.2).bind fun p6 =>
      if ¬ p6.1 = 0 then
        (qM_keepRow 2 8 p6.2).bind fun p8 =>
        some (1, p8)
      else
        some (0, p6.2)
  else
    (qM_fails h).bind fun p9 =>
    if zbool p9.1 = true then
      some (p9.1, p9.2)
    else none
theorem t_qM_logLine {Ls : Nat} {xs : Nat → Int32} {d : Nat} {x1 : Int64} {x3 : Int32} {h : zK} {p : Int32 × zK} (H : qM_logLine x1 x3 h = some p) : zEv (zXs Ls xs) (d + 4) zm_174 (0, [some (.ref 215), some (.long x1), none, some (.int x3)], [], zhp h) (some (.int p.1), zhp p.2) := by
  unfold qM_logLine at H
  refine zEv_k 4 (f' := (if (lg_cmp x1 448377483876) = 0 then 13 else 8, [some (.ref 215), some (.long x1), none, some (.int x3)], [], zhp h)) rfl (zEv_if (fun c1 => ?_) (fun c1 => ?_))
  · replace H := zif_t c1 H
    refine zEv_k 4 (f' := (18, [some (.ref 215), some (.long x1), none, some (.int x3)], [.int x3, .int 8, .int 0, .ref 215], zhp h)) rfl ?_
    obtain ⟨p2, hp2, H⟩ := zbs H
    refine zEv_c (fun _ => rfl) rfl (t_qM_full (x1 := 0) (x2 := 8) (x3 := x3) (h := h) (d := d + 2) hp2) rfl rfl ?_
    refine zEv_k 1 (f' := (22, [some (.ref 215), some (.long x1), none, some (.int x3)], [.ref 215], zhp p2)) rfl ?_
    obtain ⟨p3, hp3, H⟩ := zbs H
    refine zEv_c (fun _ => rfl) rfl (t_qM_token (h := p2) (d := d + 2) hp3) rfl rfl ?_
    refine zEv_k 4 (f' := (30, [some (.ref 215), some (.long x1), none, some (.int x3)], [.int 20, .int 1, .int 0, .ref 215], zhp p3)) rfl ?_
    obtain ⟨p4, hp4, H⟩ := zbs H
    refine zEv_c (fun _ => rfl) rfl (t_qM_take (x1 := 0) (x2 := 1) (x3 := 20) (h := p3) (d := d) hp4) rfl rfl ?_
    refine zEv_k 1 (f' := (if p4.1 = 0 then 47 else 36, [some (.ref 215), some (.long x1), none, some (.int x3)], [], zhp p4.2)) rfl (zEv_if (fun c5 => ?_) (fun c5 => ?_))
    · replace H := zif_t c5 H
      refine zEv_k 1 (f' := (48, [some (.ref 215), some (.long x1), none, some (.int x3)], [.int 0], zhp p4.2)) rfl ?_
      cases H
      exact zEv_r rfl
    · replace H := zif_f c5 H
      refine zEv_k 4 (f' := (41, [some (.ref 215), some (.long x1), none, some (.int x3)], [.int 7, .int 0, .int 1, .ref 215], zhp p4.2)) rfl ?_
      obtain ⟨p6, hp6, H⟩ := zbs H
      refine zEv_c (fun _ => rfl) rfl (t_qM_take (x1 := 1) (x2 := 0) (x3 := 7) (h := p4.2) (d := d) hp6) rfl rfl ?_
      refine zEv_k 1 (f' := (if ¬ p6.1 = 0 then 49 else 47, [some (.ref 215), some (.long x1), none, some (.int x3)], [], zhp p6.2)) rfl (zEv_if (fun c7 => ?_) (fun c7 => ?_))
      · replace H := zif_t c7 H
        refine zEv_k 3 (f' := (53, [some (.ref 215), some (.long x1), none, some (.int x3)], [.int 8, .int 2, .ref 215], zhp p6.2)) rfl ?_
        obtain ⟨p8, hp8, H⟩ := zbs H
        refine zEv_c (fun _ => rfl) rfl (t_qM_keepRow (x1 := 2) (x2 := 8) (h := p6.2) (d := d + 3) hp8) rfl rfl ?_
        refine zEv_k 1 (f' := (57, [some (.ref 215), some (.long x1), none, some (.int x3)], [.int 1], zhp p8)) rfl ?_
        cases H
        exact zEv_r rfl
      · replace H := zif_f c7 H
        refine zEv_k 1 (f' := (48, [some (.ref 215), some (.long x1), none, some (.int x3)], [.int 0], zhp p6.2)) rfl ?_
        cases H
        exact zEv_r rfl
  · replace H := zif_f c1 H
    refine zEv_k 1 (f' := (9, [some (.ref 215), some (.long x1), none, some (.int x3)], [.ref 215], zhp h)) rfl ?_
    obtain ⟨p9, hp9, H⟩ := zbs H
    refine zEv_c (fun _ => rfl) rfl (t_qM_fails (h := h) (d := d + 3) hp9) rfl rfl ?_
    obtain ⟨c10, H⟩ := zifn H
    cases H
    exact zEv_rz rfl rfl c10
def qM_allLines_b2 (x1 : Int32) (s : Int32 × zK) : Option ((Int32 × zK) ⊕ (Int32 × zK)) :=
  if s.1 = 0 then
    some (.inr (s.1, s.2))
  else
    if (gI s.2 215 12) = 0 then
      some (.inr (s.1, s.2))
    else
      zlet (
          if ¬ (gI s.2 215 12) = 2 then
            0
          else
            gJ s.2 215 14
        ) fun (v4 : Int64) =>
      zlet (sI s.2 215 21 1) fun h5 =>
      Option.bind (
          if ¬ x1 = 0 then
            if ¬ x1 = 1 then
              (qM_logLine v4 (gI s.2 215 11) h5).bind fun p9 =>
              some (p9.1, p9.2)
            else
              (qM_yearsLine v4 (gI s.2 215 11) h5).bind fun p10 =>
              some (p10.1, p10.2)
          else
            (qM_cellarLine v4 (gI s.2 215 11) h5).bind fun p11 =>
            some (p11.1, p11.2)
        ) fun (v7 : Int32 × zK) =>
      Option.bind (
          if v7.1 = 0 then
            some (v7.1, v7.2)
          else
            if (gI v7.2 215 12) = 4 then
              some (v7.1, v7.2)
            else
              (qM_fails v7.2).bind fun p15 =>
              some (p15.1, p15.2)
        ) fun (v13 : Int32 × zK) =>
      Option.bind (
          if v13.1 = 0 then
            some v13.2
          else
            (qM_token v13.2).bind fun p18 =>
            some p18
        ) fun (v17 : zK) =>
      some (.inl (v13.1, v17))
theorem t_qM_allLines_b2b {Ls : Nat} {xs : Nat → Int32} {d : Nat} {x1 : Int32} {r : zA} {s : Int32 × zK} {e : (Int32 × zK) ⊕ (Int32 × zK)} (H : qM_allLines_b2 x1 s = some e) (K : match (generalizing := false) e with | .inl s' => ∀ (z3 : Option Value) (z4 : Option Value), zEv (zXs Ls xs) (d + 6) zm_175 (2, [some (.ref 215), some (.int x1), some (.int s'.1), z3, z4, none], [], zhp s'.2) r | .inr v => ∀ (z3 : Option Value) (z4 : Option Value), zEv (zXs Ls xs) (d + 6) zm_175 (106, [some (.ref 215), some (.int x1), some (.int v.1), z3, z4, none], [], zhp v.2) r) (y3 : Option Value) (y4 : Option Value) : zEv (zXs Ls xs) (d + 6) zm_175 (2, [some (.ref 215), some (.int x1), some (.int s.1), y3, y4, none], [], zhp s.2) r := by
  unfold qM_allLines_b2 at H
  refine zEv_k 2 (f' := (if s.1 = 0 then 106 else 6, [some (.ref 215), some (.int x1), some (.int s.1), y3, y4, none], [], zhp s.2)) rfl (zEv_if (fun c1 => ?_) (fun c1 => ?_))
  · replace H := zif_t c1 H
    cases H
    exact K _ _
  · replace H := zif_f c1 H
    refine zEv_k 3 (f' := (if (gI s.2 215 12) = 0 then 106 else 13, [some (.ref 215), some (.int x1), some (.int s.1), y3, y4, none], [], zhp s.2)) rfl (zEv_if (fun c2 => ?_) (fun c2 => ?_))
    · replace H := zif_t c2 H
      cases H
      exact K _ _
    · replace H := zif_f c2 H
      obtain ⟨v4, hv4, H⟩ := zlets H
      have kv4 : zEv (zXs Ls xs) (d + 6) zm_175 (34, [some (.ref 215), some (.int x1), some (.int s.1), some (.int (gI s.2 215 11)), y4, none], [.long v4], zhp s.2) r := by
        obtain ⟨h5, eh5, H⟩ := zlets H
        refine zEv_w (F := fun z => (41, [some (.ref 215), some (.int x1), some (.int s.1), some (.int (gI s.2 215 11)), some (.long v4), none], [], zhp z)) (h0 := sI s.2 215 21 1) 4 rfl eh5 ?_
        obtain ⟨v7, hv7, H⟩ := zbs H
        have kv7 : zEv (zXs Ls xs) (d + 6) zm_175 (77, [some (.ref 215), some (.int x1), some (.int s.1), some (.int (gI s.2 215 11)), some (.long v4), none], [.int v7.1], zhp v7.2) r := by
          obtain ⟨v13, hv13, H⟩ := zbs H
          have kv13 : zEv (zXs Ls xs) (d + 6) zm_175 (95, [some (.ref 215), some (.int x1), some (.int v13.1), some (.int (gI s.2 215 11)), some (.long v4), none], [], zhp v13.2) r := by
            obtain ⟨v17, hv17, H⟩ := zbs H
            have kv17 : zEv (zXs Ls xs) (d + 6) zm_175 (103, [some (.ref 215), some (.int x1), some (.int v13.1), some (.int (gI s.2 215 11)), some (.long v4), none], [], zhp v17) r := by
              refine zEv_k 1 (f' := (2, [some (.ref 215), some (.int x1), some (.int v13.1), some (.int (gI s.2 215 11)), some (.long v4), none], [], zhp v17)) rfl ?_
              cases H
              exact K _ _
            clear H
            refine zEv_k 2 (f' := (if v13.1 = 0 then 103 else 99, [some (.ref 215), some (.int x1), some (.int v13.1), some (.int (gI s.2 215 11)), some (.long v4), none], [], zhp v13.2)) rfl (zEv_if (fun c16 => ?_) (fun c16 => ?_))
            · replace hv17 := zif_t c16 hv17
              cases hv17
              exact kv17
            · replace hv17 := zif_f c16 hv17
              refine zEv_k 1 (f' := (100, [some (.ref 215), some (.int x1), some (.int v13.1), some (.int (gI s.2 215 11)), some (.long v4), none], [.ref 215], zhp v13.2)) rfl ?_
              obtain ⟨p18, hp18, hv17⟩ := zbs hv17
              refine zEv_c (fun _ => rfl) rfl (t_qM_token (h := v13.2) (d := d + 4) hp18) rfl rfl ?_
              cases hv17
              exact kv17
          clear H
          refine zEv_k 3 (f' := (if v7.1 = 0 then 95 else 82, [some (.ref 215), some (.int x1), some (.int v7.1), some (.int (gI s.2 215 11)), some (.long v4), none], [], zhp v7.2)) rfl (zEv_if (fun c12 => ?_) (fun c12 => ?_))
          · replace hv13 := zif_t c12 hv13
            cases hv13
            exact kv13
          · replace hv13 := zif_f c12 hv13
            refine zEv_k 4 (f' := (if (gI v7.2 215 12) = 4 then 95 else 90, [some (.ref 215), some (.int x1), some (.int v7.1), some (.int (gI s.2 215 11)), some (.long v4), none], [], zhp v7.2)) rfl (zEv_if (fun c14 => ?_) (fun c14 => ?_))
            · replace hv13 := zif_t c14 hv13
              cases hv13
              exact kv13
            · replace hv13 := zif_f c14 hv13
              refine zEv_k 1 (f' := (91, [some (.ref 215), some (.int x1), some (.int v7.1), some (.int (gI s.2 215 11)), some (.long v4), none], [.ref 215], zhp v7.2)) rfl ?_
              obtain ⟨p15, hp15, hv13⟩ := zbs hv13
              refine zEv_c (fun _ => rfl) rfl (t_qM_fails (h := v7.2) (d := d + 5) hp15) rfl rfl ?_
              refine zEv_k 1 (f' := (95, [some (.ref 215), some (.int x1), some (.int p15.1), some (.int (gI s.2 215 11)), some (.long v4), none], [], zhp p15.2)) rfl ?_
              cases hv13
              exact kv13
        clear H
        refine zEv_k 2 (f' := (if ¬ x1 = 0 then 55 else 45, [some (.ref 215), some (.int x1), some (.int s.1), some (.int (gI s.2 215 11)), some (.long v4), none], [], zhp h5)) rfl (zEv_if (fun c6 => ?_) (fun c6 => ?_))
        · replace hv7 := zif_t c6 hv7
          refine zEv_k 3 (f' := (if ¬ x1 = 1 then 70 else 60, [some (.ref 215), some (.int x1), some (.int s.1), some (.int (gI s.2 215 11)), some (.long v4), none], [], zhp h5)) rfl (zEv_if (fun c8 => ?_) (fun c8 => ?_))
          · replace hv7 := zif_t c8 hv7
            refine zEv_k 3 (f' := (74, [some (.ref 215), some (.int x1), some (.int s.1), some (.int (gI s.2 215 11)), some (.long v4), none], [.int (gI s.2 215 11), .long v4, .ref 215], zhp h5)) rfl ?_
            obtain ⟨p9, hp9, hv7⟩ := zbs hv7
            refine zEv_c (fun _ => rfl) rfl (t_qM_logLine (x1 := v4) (x3 := gI s.2 215 11) (h := h5) (d := d + 1) hp9) rfl rfl ?_
            cases hv7
            exact kv7
          · replace hv7 := zif_f c8 hv7
            refine zEv_k 3 (f' := (64, [some (.ref 215), some (.int x1), some (.int s.1), some (.int (gI s.2 215 11)), some (.long v4), none], [.int (gI s.2 215 11), .long v4, .ref 215], zhp h5)) rfl ?_
            obtain ⟨p10, hp10, hv7⟩ := zbs hv7
            refine zEv_c (fun _ => rfl) rfl (t_qM_yearsLine (x1 := v4) (x3 := gI s.2 215 11) (h := h5) (d := d + 1) hp10) rfl rfl ?_
            refine zEv_k 1 (f' := (77, [some (.ref 215), some (.int x1), some (.int s.1), some (.int (gI s.2 215 11)), some (.long v4), none], [.int p10.1], zhp p10.2)) rfl ?_
            cases hv7
            exact kv7
        · replace hv7 := zif_f c6 hv7
          refine zEv_k 3 (f' := (49, [some (.ref 215), some (.int x1), some (.int s.1), some (.int (gI s.2 215 11)), some (.long v4), none], [.int (gI s.2 215 11), .long v4, .ref 215], zhp h5)) rfl ?_
          obtain ⟨p11, hp11, hv7⟩ := zbs hv7
          refine zEv_c (fun _ => rfl) rfl (t_qM_cellarLine (x1 := v4) (x3 := gI s.2 215 11) (h := h5) (d := d) hp11) rfl rfl ?_
          refine zEv_k 1 (f' := (77, [some (.ref 215), some (.int x1), some (.int s.1), some (.int (gI s.2 215 11)), some (.long v4), none], [.int p11.1], zhp p11.2)) rfl ?_
          cases hv7
          exact kv7
      clear H
      refine zEv_k 7 (f' := (if ¬ (gI s.2 215 12) = 2 then 33 else 26, [some (.ref 215), some (.int x1), some (.int s.1), some (.int (gI s.2 215 11)), y4, none], [], zhp s.2)) rfl (zEv_if (fun c3 => ?_) (fun c3 => ?_))
      · replace hv4 := zif_t c3 hv4
        refine zEv_k 1 (f' := (34, [some (.ref 215), some (.int x1), some (.int s.1), some (.int (gI s.2 215 11)), y4, none], [.long 0], zhp s.2)) rfl ?_
        cases hv4
        exact kv4
      · replace hv4 := zif_f c3 hv4
        refine zEv_k 3 (f' := (34, [some (.ref 215), some (.int x1), some (.int s.1), some (.int (gI s.2 215 11)), y4, none], [.long (gJ s.2 215 14)], zhp s.2)) rfl ?_
        cases hv4
        exact kv4
theorem t_qM_allLines_b2 {Ls : Nat} {xs : Nat → Int32} {d : Nat} {x1 : Int32} {r : zA} {t : Int32 × zK} (K : ∀ (z3 : Option Value) (z4 : Option Value), zEv (zXs Ls xs) (d + 6) zm_175 (106, [some (.ref 215), some (.int x1), some (.int t.1), z3, z4, none], [], zhp t.2) r) (n : Nat) (s : Int32 × zK) (H : zloop (qM_allLines_b2 x1) n s = some t) (y3 : Option Value) (y4 : Option Value) : zEv (zXs Ls xs) (d + 6) zm_175 (2, [some (.ref 215), some (.int x1), some (.int s.1), y3, y4, none], [], zhp s.2) r := by
  have Z := zloop_P (P := fun s => ∀ (y3 : Option Value) (y4 : Option Value), zEv (zXs Ls xs) (d + 6) zm_175 (2, [some (.ref 215), some (.int x1), some (.int s.1), y3, y4, none], [], zhp s.2) r) (b := qM_allLines_b2 x1) (t := t) (fun s s2 hb hk => by intro y3 y4; exact t_qM_allLines_b2b hb hk y3 y4) (fun s hb => by intro y3 y4; exact t_qM_allLines_b2b hb K y3 y4) n s H
  exact Z y3 y4
def qM_allLines (x1 : Int32) (h : zK) : Option (Int32 × zK) :=
  (zloop (qM_allLines_b2 x1) zfu (1, h)).bind fun t19 =>
  if zbool t19.1 = true then
    some (t19.1, t19.2)
  else none
theorem t_qM_allLines {Ls : Nat} {xs : Nat → Int32} {d : Nat} {x1 : Int32} {h : zK} {p : Int32 × zK} (H : qM_allLines x1 h = some p) : zEv (zXs Ls xs) (d + 6) zm_175 (0, [some (.ref 215), some (.int x1), none, none, none, none], [], zhp h) (some (.int p.1), zhp p.2) := by
  unfold qM_allLines at H
  refine zEv_k 2 (f' := (2, [some (.ref 215), some (.int x1), some (.int 1), none, none, none], [], zhp h)) rfl ?_
  obtain ⟨t19, ht19, H⟩ := zbs H
  refine t_qM_allLines_b2 (x1 := x1) ?_ zfu _ ht19 _ _
  intro y3 y4
  refine zEv_k 1 (f' := (107, [some (.ref 215), some (.int x1), some (.int t19.1), y3, y4, none], [.int t19.1], zhp t19.2)) rfl ?_
  obtain ⟨c21, H⟩ := zifn H
  cases H
  exact zEv_rz rfl rfl c21
def qM_readText_b2 (x1 : Int32) (s : Int32 × zK) : Option ((Int32 × zK) ⊕ (zK)) :=
  if 121 ≤ s.1 then
    some (.inr s.2)
  else
    (zix s.1 121).bind fun j2 =>
    zlet (sI s.2 224 j2 0) fun h3 =>
    some (.inl (s.1 + 1, h3))
theorem t_qM_readText_b2b {Ls : Nat} {xs : Nat → Int32} {d : Nat} {x1 : Int32} {r : zA} {s : Int32 × zK} {e : (Int32 × zK) ⊕ (zK)} (H : qM_readText_b2 x1 s = some e) (K : match (generalizing := false) e with | .inl s' => zEv (zXs Ls xs) (d + 7) zm_176 (2, [some (.ref 215), some (.int x1), some (.int s'.1)], [], zhp s'.2) r | .inr v => ∀ (z2 : Option Value), zEv (zXs Ls xs) (d + 7) zm_176 (21, [some (.ref 215), some (.int x1), z2], [], zhp v) r) : zEv (zXs Ls xs) (d + 7) zm_176 (2, [some (.ref 215), some (.int x1), some (.int s.1)], [], zhp s.2) r := by
  unfold qM_readText_b2 at H
  refine zEv_k 3 (f' := (if 121 ≤ s.1 then 21 else 8, [some (.ref 215), some (.int x1), some (.int s.1)], [], zhp s.2)) rfl (zEv_if (fun c1 => ?_) (fun c1 => ?_))
  · replace H := zif_t c1 H
    cases H
    exact K _
  · replace H := zif_f c1 H
    refine zEv_k 1 (f' := (9, [some (.ref 215), some (.int x1), some (.int s.1)], [.ref 215], zhp s.2)) rfl ?_
    refine zRgr rfl rfl rfl (by decide) (b := 224) rfl ?_
    refine zEv_k 2 (f' := (14, [some (.ref 215), some (.int x1), some (.int s.1)], [.int 0, .int s.1, .ref 224], zhp s.2)) rfl ?_
    obtain ⟨j2, hj2, H⟩ := zbs H
    obtain ⟨h3, eh3, H⟩ := zlets H
    refine zRis rfl rfl (by decide) hj2 eh3 ?_
    refine zEv_k 2 (f' := (2, [some (.ref 215), some (.int x1), some (.int (s.1 + 1))], [], zhp h3)) rfl ?_
    cases H
    exact K
theorem t_qM_readText_b2 {Ls : Nat} {xs : Nat → Int32} {d : Nat} {x1 : Int32} {r : zA} {t : zK} (K : ∀ (z2 : Option Value), zEv (zXs Ls xs) (d + 7) zm_176 (21, [some (.ref 215), some (.int x1), z2], [], zhp t) r) (n : Nat) (s : Int32 × zK) (H : zloop (qM_readText_b2 x1) n s = some t) : zEv (zXs Ls xs) (d + 7) zm_176 (2, [some (.ref 215), some (.int x1), some (.int s.1)], [], zhp s.2) r := by
  have Z := zloop_P (P := fun s => zEv (zXs Ls xs) (d + 7) zm_176 (2, [some (.ref 215), some (.int x1), some (.int s.1)], [], zhp s.2) r) (b := qM_readText_b2 x1) (t := t) (fun s s2 hb hk => by exact t_qM_readText_b2b hb hk) (fun s hb => by exact t_qM_readText_b2b hb K) n s H
  exact Z
def qM_readText (x1 : Int32) (h : zK) : Option (Int32 × zK) :=
  (zloop (qM_readText_b2 x1) zfu (0, h)).bind fun t4 =>
  zlet (
      if ¬ x1 = 0 then
        0
      else
        3
    ) fun (v7 : Int32) =>
  zlet (sI t4 224 0 v7) fun h8 =>
  zlet (
      if ¬ x1 = 0 then
        0
      else
        1
    ) fun (v10 : Int32) =>
  zlet (sI h8 224 1 v10) fun h11 =>
  zlet (sI h11 215 20 (-1)) fun h12 =>
  zlet (sI h12 215 9 0) fun h13 =>
  zlet (sI h13 215 16 0) fun h14 =>
  (qM_token h14).bind fun p15 =>
  (qM_allLines x1 p15).bind fun p16 =>
  Option.bind (
      if p16.1 = 0 then
        some p16.2
      else
        if ¬ x1 = 0 then
          some p16.2
        else
          if ¬ (gI p16.2 215 16) = 0 then
            some p16.2
          else
            if (gI p16.2 215 20) < (gI p16.2 224 2) then
              some p16.2
            else
              (qM_addsFault 4 (gI p16.2 215 11) p16.2).bind fun p22 =>
              some p22
    ) fun (v18 : zK) =>
  zlet (
      if p16.1 = 0 then
        1
      else
        gI v18 215 16
    ) fun (v24 : Int32) =>
  zlet (sI v18 218 0 v24) fun h25 =>
  zlet (
      if ¬ p16.1 = 0 then
        if (gI h25 215 16) ≤ 0 then
          -1
        else
          gI h25 215 17
      else
        gI h25 215 15
    ) fun (v27 : Int32) =>
  zlet (sI h25 219 0 v27) fun h29 =>
  if ¬ (gI h29 218 0) = 0 then
    some (0, h29)
  else
    some (1, h29)
theorem t_qM_readText {Ls : Nat} {xs : Nat → Int32} {d : Nat} {x1 : Int32} {h : zK} {p : Int32 × zK} (H : qM_readText x1 h = some p) : zEv (zXs Ls xs) (d + 7) zm_176 (0, [some (.ref 215), some (.int x1), none], [], zhp h) (some (.int p.1), zhp p.2) := by
  unfold qM_readText at H
  refine zEv_k 2 (f' := (2, [some (.ref 215), some (.int x1), some (.int 0)], [], zhp h)) rfl ?_
  obtain ⟨t4, ht4, H⟩ := zbs H
  refine t_qM_readText_b2 (x1 := x1) ?_ zfu _ ht4
  intro y2
  obtain ⟨v7, hv7, H⟩ := zlets H
  have kv7 : zEv (zXs Ls xs) (d + 7) zm_176 (35, [some (.ref 215), some (.int x1), y2], [.int v7, .int 0, .ref 224], zhp t4) (some (.int p.1), zhp p.2) := by
    obtain ⟨h8, eh8, H⟩ := zlets H
    refine zRis (j := 0) rfl rfl (by decide) (by decide) eh8 ?_
    obtain ⟨v10, hv10, H⟩ := zlets H
    have kv10 : zEv (zXs Ls xs) (d + 7) zm_176 (50, [some (.ref 215), some (.int x1), y2], [.int v10, .int 1, .ref 224], zhp h8) (some (.int p.1), zhp p.2) := by
      obtain ⟨h11, eh11, H⟩ := zlets H
      refine zRis (j := 1) rfl rfl (by decide) (by decide) eh11 ?_
      obtain ⟨h12, eh12, H⟩ := zlets H
      refine zEv_w (F := fun z => (56, [some (.ref 215), some (.int x1), y2], [], zhp z)) (h0 := sI h11 215 20 (-1)) 3 rfl eh12 ?_
      obtain ⟨h13, eh13, H⟩ := zlets H
      refine zEv_w (F := fun z => (61, [some (.ref 215), some (.int x1), y2], [], zhp z)) (h0 := sI h12 215 9 0) 3 rfl eh13 ?_
      obtain ⟨h14, eh14, H⟩ := zlets H
      refine zEv_w (F := fun z => (66, [some (.ref 215), some (.int x1), y2], [], zhp z)) (h0 := sI h13 215 16 0) 3 rfl eh14 ?_
      refine zEv_k 1 (f' := (67, [some (.ref 215), some (.int x1), y2], [.ref 215], zhp h14)) rfl ?_
      obtain ⟨p15, hp15, H⟩ := zbs H
      refine zEv_c (fun _ => rfl) rfl (t_qM_token (h := h14) (d := d + 5) hp15) rfl rfl ?_
      refine zEv_k 2 (f' := (72, [some (.ref 215), some (.int x1), y2], [.int x1, .ref 215], zhp p15)) rfl ?_
      obtain ⟨p16, hp16, H⟩ := zbs H
      refine zEv_c (fun _ => rfl) rfl (t_qM_allLines (x1 := x1) (h := p15) (d := d) hp16) rfl rfl ?_
      obtain ⟨v18, hv18, H⟩ := zbs H
      have kv18 : zEv (zXs Ls xs) (d + 7) zm_176 (113, [some (.ref 215), some (.int x1), some (.int p16.1)], [], zhp v18) (some (.int p.1), zhp p.2) := by
        obtain ⟨v24, hv24, H⟩ := zlets H
        have kv24 : zEv (zXs Ls xs) (d + 7) zm_176 (130, [some (.ref 215), some (.int x1), some (.int p16.1)], [.int v24, .int 0, .ref 218], zhp v18) (some (.int p.1), zhp p.2) := by
          obtain ⟨h25, eh25, H⟩ := zlets H
          refine zRis (j := 0) rfl rfl (by decide) (by decide) eh25 ?_
          obtain ⟨v27, hv27, H⟩ := zlets H
          have kv27 : zEv (zXs Ls xs) (d + 7) zm_176 (162, [some (.ref 215), some (.int x1), some (.int p16.1)], [.int v27, .int 0, .ref 219], zhp h25) (some (.int p.1), zhp p.2) := by
            obtain ⟨h29, eh29, H⟩ := zlets H
            refine zRis (j := 0) rfl rfl (by decide) (by decide) eh29 ?_
            refine zEv_k 1 (f' := (164, [some (.ref 215), some (.int x1), some (.int p16.1)], [.ref 215], zhp h29)) rfl ?_
            refine zRgr rfl rfl rfl (by decide) (b := 218) rfl ?_
            refine zEv_k 1 (f' := (168, [some (.ref 215), some (.int x1), some (.int p16.1)], [.int 0, .ref 218], zhp h29)) rfl ?_
            refine zRia (j := 0) rfl rfl (by decide) (by decide) ?_
            refine zEv_k 1 (f' := (if ¬ (gI h29 218 0) = 0 then 176 else 172, [some (.ref 215), some (.int x1), some (.int p16.1)], [], zhp h29)) rfl (zEv_if (fun c30 => ?_) (fun c30 => ?_))
            · replace H := zif_t c30 H
              refine zEv_k 1 (f' := (177, [some (.ref 215), some (.int x1), some (.int p16.1)], [.int 0], zhp h29)) rfl ?_
              cases H
              exact zEv_r rfl
            · replace H := zif_f c30 H
              refine zEv_k 2 (f' := (177, [some (.ref 215), some (.int x1), some (.int p16.1)], [.int 1], zhp h29)) rfl ?_
              cases H
              exact zEv_r rfl
          clear H
          refine zEv_k 1 (f' := (132, [some (.ref 215), some (.int x1), some (.int p16.1)], [.ref 215], zhp h25)) rfl ?_
          refine zRgr rfl rfl rfl (by decide) (b := 219) rfl ?_
          refine zEv_k 3 (f' := (if ¬ p16.1 = 0 then 147 else 140, [some (.ref 215), some (.int x1), some (.int p16.1)], [.int 0, .ref 219], zhp h25)) rfl (zEv_if (fun c26 => ?_) (fun c26 => ?_))
          · replace hv27 := zif_t c26 hv27
            refine zEv_k 3 (f' := (if (gI h25 215 16) ≤ 0 then 161 else 154, [some (.ref 215), some (.int x1), some (.int p16.1)], [.int 0, .ref 219], zhp h25)) rfl (zEv_if (fun c28 => ?_) (fun c28 => ?_))
            · replace hv27 := zif_t c28 hv27
              refine zEv_k 1 (f' := (162, [some (.ref 215), some (.int x1), some (.int p16.1)], [.int (-1), .int 0, .ref 219], zhp h25)) rfl ?_
              cases hv27
              exact kv27
            · replace hv27 := zif_f c28 hv27
              refine zEv_k 3 (f' := (162, [some (.ref 215), some (.int x1), some (.int p16.1)], [.int (gI h25 215 17), .int 0, .ref 219], zhp h25)) rfl ?_
              cases hv27
              exact kv27
          · replace hv27 := zif_f c26 hv27
            refine zEv_k 3 (f' := (162, [some (.ref 215), some (.int x1), some (.int p16.1)], [.int (gI h25 215 15), .int 0, .ref 219], zhp h25)) rfl ?_
            cases hv27
            exact kv27
        clear H
        refine zEv_k 1 (f' := (114, [some (.ref 215), some (.int x1), some (.int p16.1)], [.ref 215], zhp v18)) rfl ?_
        refine zRgr rfl rfl rfl (by decide) (b := 218) rfl ?_
        refine zEv_k 3 (f' := (if p16.1 = 0 then 129 else 122, [some (.ref 215), some (.int x1), some (.int p16.1)], [.int 0, .ref 218], zhp v18)) rfl (zEv_if (fun c23 => ?_) (fun c23 => ?_))
        · replace hv24 := zif_t c23 hv24
          refine zEv_k 1 (f' := (130, [some (.ref 215), some (.int x1), some (.int p16.1)], [.int 1, .int 0, .ref 218], zhp v18)) rfl ?_
          cases hv24
          exact kv24
        · replace hv24 := zif_f c23 hv24
          refine zEv_k 3 (f' := (130, [some (.ref 215), some (.int x1), some (.int p16.1)], [.int (gI v18 215 16), .int 0, .ref 218], zhp v18)) rfl ?_
          cases hv24
          exact kv24
      clear H
      refine zEv_k 3 (f' := (if p16.1 = 0 then 113 else 80, [some (.ref 215), some (.int x1), some (.int p16.1)], [], zhp p16.2)) rfl (zEv_if (fun c17 => ?_) (fun c17 => ?_))
      · replace hv18 := zif_t c17 hv18
        cases hv18
        exact kv18
      · replace hv18 := zif_f c17 hv18
        refine zEv_k 2 (f' := (if ¬ x1 = 0 then 113 else 84, [some (.ref 215), some (.int x1), some (.int p16.1)], [], zhp p16.2)) rfl (zEv_if (fun c19 => ?_) (fun c19 => ?_))
        · replace hv18 := zif_t c19 hv18
          cases hv18
          exact kv18
        · replace hv18 := zif_f c19 hv18
          refine zEv_k 3 (f' := (if ¬ (gI p16.2 215 16) = 0 then 113 else 91, [some (.ref 215), some (.int x1), some (.int p16.1)], [], zhp p16.2)) rfl (zEv_if (fun c20 => ?_) (fun c20 => ?_))
          · replace hv18 := zif_t c20 hv18
            cases hv18
            exact kv18
          · replace hv18 := zif_f c20 hv18
            refine zEv_k 3 (f' := (96, [some (.ref 215), some (.int x1), some (.int p16.1)], [.ref 215, .int (gI p16.2 215 20)], zhp p16.2)) rfl ?_
            refine zRgr rfl rfl rfl (by decide) (b := 224) rfl ?_
            refine zEv_k 1 (f' := (100, [some (.ref 215), some (.int x1), some (.int p16.1)], [.int 2, .ref 224, .int (gI p16.2 215 20)], zhp p16.2)) rfl ?_
            refine zRia (j := 2) rfl rfl (by decide) (by decide) ?_
            refine zEv_k 1 (f' := (if (gI p16.2 215 20) < (gI p16.2 224 2) then 113 else 104, [some (.ref 215), some (.int x1), some (.int p16.1)], [], zhp p16.2)) rfl (zEv_if (fun c21 => ?_) (fun c21 => ?_))
            · replace hv18 := zif_t c21 hv18
              cases hv18
              exact kv18
            · replace hv18 := zif_f c21 hv18
              refine zEv_k 4 (f' := (110, [some (.ref 215), some (.int x1), some (.int p16.1)], [.int (gI p16.2 215 11), .int 4, .ref 215], zhp p16.2)) rfl ?_
              obtain ⟨p22, hp22, hv18⟩ := zbs hv18
              refine zEv_c (fun _ => rfl) rfl (t_qM_addsFault (x1 := 4) (x2 := gI p16.2 215 11) (h := p16.2) (d := d + 6) hp22) rfl rfl ?_
              cases hv18
              exact kv18
    clear H
    refine zEv_k 1 (f' := (37, [some (.ref 215), some (.int x1), y2], [.ref 215], zhp h8)) rfl ?_
    refine zRgr rfl rfl rfl (by decide) (b := 224) rfl ?_
    refine zEv_k 3 (f' := (if ¬ x1 = 0 then 49 else 45, [some (.ref 215), some (.int x1), y2], [.int 1, .ref 224], zhp h8)) rfl (zEv_if (fun c9 => ?_) (fun c9 => ?_))
    · replace hv10 := zif_t c9 hv10
      refine zEv_k 1 (f' := (50, [some (.ref 215), some (.int x1), y2], [.int 0, .int 1, .ref 224], zhp h8)) rfl ?_
      cases hv10
      exact kv10
    · replace hv10 := zif_f c9 hv10
      refine zEv_k 2 (f' := (50, [some (.ref 215), some (.int x1), y2], [.int 1, .int 1, .ref 224], zhp h8)) rfl ?_
      cases hv10
      exact kv10
  clear H
  refine zEv_k 1 (f' := (22, [some (.ref 215), some (.int x1), y2], [.ref 215], zhp t4)) rfl ?_
  refine zRgr rfl rfl rfl (by decide) (b := 224) rfl ?_
  refine zEv_k 3 (f' := (if ¬ x1 = 0 then 34 else 30, [some (.ref 215), some (.int x1), y2], [.int 0, .ref 224], zhp t4)) rfl (zEv_if (fun c6 => ?_) (fun c6 => ?_))
  · replace hv7 := zif_t c6 hv7
    refine zEv_k 1 (f' := (35, [some (.ref 215), some (.int x1), y2], [.int 0, .int 0, .ref 224], zhp t4)) rfl ?_
    cases hv7
    exact kv7
  · replace hv7 := zif_f c6 hv7
    refine zEv_k 2 (f' := (35, [some (.ref 215), some (.int x1), y2], [.int 3, .int 0, .ref 224], zhp t4)) rfl ?_
    cases hv7
    exact kv7
def qM_store_b3 (oa : Nat) (x2 : Int32) (x3 : Int32) (s : Int32 × zK) : Option ((Int32 × zK) ⊕ (zK)) :=
  if x2 ≤ s.1 then
    some (.inr s.2)
  else
    (zix s.1 121).bind fun j2 =>
    (zix ((x2 * x3) + s.1) (zln oa)).bind fun j3 =>
    zlet (sI s.2 oa j3 (gI s.2 224 j2)) fun h4 =>
    some (.inl (s.1 + 1, h4))
theorem t_qM_store_b3b {Ls : Nat} {xs : Nat → Int32} {d : Nat} {oa : Nat} {x2 : Int32} {x3 : Int32} {r : zA} {s : Int32 × zK} {e : (Int32 × zK) ⊕ (zK)} (ho : oa = 221 ∨ oa = 222 ∨ oa = 223) (H : qM_store_b3 oa x2 x3 s = some e) (K : match (generalizing := false) e with | .inl s' => zEv (zXs Ls xs) d zm_177 (3, [some (.ref 215), some (.ref oa), some (.int x2), some (.int x3), some (.int s'.1)], [], zhp s'.2) r | .inr v => ∀ (z4 : Option Value), zEv (zXs Ls xs) d zm_177 (30, [some (.ref 215), some (.ref oa), some (.int x2), some (.int x3), z4], [], zhp v) r) : zEv (zXs Ls xs) d zm_177 (3, [some (.ref 215), some (.ref oa), some (.int x2), some (.int x3), some (.int s.1)], [], zhp s.2) r := by
  unfold qM_store_b3 at H
  rcases ho with rfl | rfl | rfl
  · refine zEv_k 3 (f' := (if x2 ≤ s.1 then 30 else 9, [some (.ref 215), some (.ref 221), some (.int x2), some (.int x3), some (.int s.1)], [], zhp s.2)) rfl (zEv_if (fun c1 => ?_) (fun c1 => ?_))
    · replace H := zif_t c1 H
      cases H
      exact K _
    · replace H := zif_f c1 H
      refine zEv_k 7 (f' := (17, [some (.ref 215), some (.ref 221), some (.int x2), some (.int x3), some (.int s.1)], [.ref 215, .int ((x2 * x3) + s.1), .ref 221], zhp s.2)) rfl ?_
      refine zRgr rfl rfl rfl (by decide) (b := 224) rfl ?_
      refine zEv_k 1 (f' := (22, [some (.ref 215), some (.ref 221), some (.int x2), some (.int x3), some (.int s.1)], [.int s.1, .ref 224, .int ((x2 * x3) + s.1), .ref 221], zhp s.2)) rfl ?_
      obtain ⟨j2, hj2, H⟩ := zbs H
      refine zRia rfl rfl (by decide) hj2 ?_
      obtain ⟨j3, hj3, H⟩ := zbs H
      obtain ⟨h4, eh4, H⟩ := zlets H
      refine zRis rfl rfl (by decide) hj3 eh4 ?_
      refine zEv_k 2 (f' := (3, [some (.ref 215), some (.ref 221), some (.int x2), some (.int x3), some (.int (s.1 + 1))], [], zhp h4)) rfl ?_
      cases H
      exact K
  · refine zEv_k 3 (f' := (if x2 ≤ s.1 then 30 else 9, [some (.ref 215), some (.ref 222), some (.int x2), some (.int x3), some (.int s.1)], [], zhp s.2)) rfl (zEv_if (fun c1 => ?_) (fun c1 => ?_))
    · replace H := zif_t c1 H
      cases H
      exact K _
    · replace H := zif_f c1 H
      refine zEv_k 7 (f' := (17, [some (.ref 215), some (.ref 222), some (.int x2), some (.int x3), some (.int s.1)], [.ref 215, .int ((x2 * x3) + s.1), .ref 222], zhp s.2)) rfl ?_
      refine zRgr rfl rfl rfl (by decide) (b := 224) rfl ?_
      refine zEv_k 1 (f' := (22, [some (.ref 215), some (.ref 222), some (.int x2), some (.int x3), some (.int s.1)], [.int s.1, .ref 224, .int ((x2 * x3) + s.1), .ref 222], zhp s.2)) rfl ?_
      obtain ⟨j2, hj2, H⟩ := zbs H
      refine zRia rfl rfl (by decide) hj2 ?_
      obtain ⟨j3, hj3, H⟩ := zbs H
      obtain ⟨h4, eh4, H⟩ := zlets H
      refine zRis rfl rfl (by decide) hj3 eh4 ?_
      refine zEv_k 2 (f' := (3, [some (.ref 215), some (.ref 222), some (.int x2), some (.int x3), some (.int (s.1 + 1))], [], zhp h4)) rfl ?_
      cases H
      exact K
  · refine zEv_k 3 (f' := (if x2 ≤ s.1 then 30 else 9, [some (.ref 215), some (.ref 223), some (.int x2), some (.int x3), some (.int s.1)], [], zhp s.2)) rfl (zEv_if (fun c1 => ?_) (fun c1 => ?_))
    · replace H := zif_t c1 H
      cases H
      exact K _
    · replace H := zif_f c1 H
      refine zEv_k 7 (f' := (17, [some (.ref 215), some (.ref 223), some (.int x2), some (.int x3), some (.int s.1)], [.ref 215, .int ((x2 * x3) + s.1), .ref 223], zhp s.2)) rfl ?_
      refine zRgr rfl rfl rfl (by decide) (b := 224) rfl ?_
      refine zEv_k 1 (f' := (22, [some (.ref 215), some (.ref 223), some (.int x2), some (.int x3), some (.int s.1)], [.int s.1, .ref 224, .int ((x2 * x3) + s.1), .ref 223], zhp s.2)) rfl ?_
      obtain ⟨j2, hj2, H⟩ := zbs H
      refine zRia rfl rfl (by decide) hj2 ?_
      obtain ⟨j3, hj3, H⟩ := zbs H
      obtain ⟨h4, eh4, H⟩ := zlets H
      refine zRis rfl rfl (by decide) hj3 eh4 ?_
      refine zEv_k 2 (f' := (3, [some (.ref 215), some (.ref 223), some (.int x2), some (.int x3), some (.int (s.1 + 1))], [], zhp h4)) rfl ?_
      cases H
      exact K
theorem t_qM_store_b3 {Ls : Nat} {xs : Nat → Int32} {d : Nat} {oa : Nat} {x2 : Int32} {x3 : Int32} {r : zA} (ho : oa = 221 ∨ oa = 222 ∨ oa = 223) {t : zK} (K : ∀ (z4 : Option Value), zEv (zXs Ls xs) d zm_177 (30, [some (.ref 215), some (.ref oa), some (.int x2), some (.int x3), z4], [], zhp t) r) (n : Nat) (s : Int32 × zK) (H : zloop (qM_store_b3 oa x2 x3) n s = some t) : zEv (zXs Ls xs) d zm_177 (3, [some (.ref 215), some (.ref oa), some (.int x2), some (.int x3), some (.int s.1)], [], zhp s.2) r := by
  have Z := zloop_P (P := fun s => zEv (zXs Ls xs) d zm_177 (3, [some (.ref 215), some (.ref oa), some (.int x2), some (.int x3), some (.int s.1)], [], zhp s.2) r) (b := qM_store_b3 oa x2 x3) (t := t) (fun s s2 hb hk => by exact t_qM_store_b3b ho hb hk) (fun s hb => by exact t_qM_store_b3b ho hb K) n s H
  exact Z
def qM_store (oa : Nat) (x2 : Int32) (x3 : Int32) (h : zK) : Option (zK) :=
  (zloop (qM_store_b3 oa x2 x3) zfu (0, h)).bind fun t5 =>
  some t5
theorem t_qM_store {Ls : Nat} {xs : Nat → Int32} {d : Nat} {oa : Nat} {x2 : Int32} {x3 : Int32} {h : zK} {p : zK} (ho : oa = 221 ∨ oa = 222 ∨ oa = 223) (H : qM_store oa x2 x3 h = some p) : zEv (zXs Ls xs) d zm_177 (0, [some (.ref 215), some (.ref oa), some (.int x2), some (.int x3), none], [], zhp h) (none, zhp p) := by
  unfold qM_store at H
  rcases ho with rfl | rfl | rfl
  · refine zEv_k 2 (f' := (3, [some (.ref 215), some (.ref 221), some (.int x2), some (.int x3), some (.int 0)], [], zhp h)) rfl ?_
    obtain ⟨t5, ht5, H⟩ := zbs H
    refine t_qM_store_b3 (oa := 221) (x2 := x2) (x3 := x3) (by decide) ?_ zfu _ ht5
    intro y4
    cases H
    exact zEv_r rfl
  · refine zEv_k 2 (f' := (3, [some (.ref 215), some (.ref 222), some (.int x2), some (.int x3), some (.int 0)], [], zhp h)) rfl ?_
    obtain ⟨t5, ht5, H⟩ := zbs H
    refine t_qM_store_b3 (oa := 222) (x2 := x2) (x3 := x3) (by decide) ?_ zfu _ ht5
    intro y4
    cases H
    exact zEv_r rfl
  · refine zEv_k 2 (f' := (3, [some (.ref 215), some (.ref 223), some (.int x2), some (.int x3), some (.int 0)], [], zhp h)) rfl ?_
    obtain ⟨t5, ht5, H⟩ := zbs H
    refine t_qM_store_b3 (oa := 223) (x2 := x2) (x3 := x3) (by decide) ?_ zfu _ ht5
    intro y4
    cases H
    exact zEv_r rfl
