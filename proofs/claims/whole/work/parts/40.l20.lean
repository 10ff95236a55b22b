def qM_isFit_b22 (s : Int32 × zK) : Option ((Int32 × zK) ⊕ (zK)) :=
  if 20 < s.1 then
    some (.inr s.2)
  else
    (qM_goesOn s.2).bind fun p5 =>
    (zix ((21 * (gI p5.2 215 46)) + s.1) 2100).bind fun j6 =>
    zlet (sI p5.2 235 j6 ((gI p5.2 215 28) - (gI s.2 215 28))) fun h7 =>
    some (.inl (s.1 + 1, h7))
theorem t_qM_isFit_b22b {Ls : Nat} {xs : Nat → Int32} {d : Nat} {r : zA} {s : Int32 × zK} {e : (Int32 × zK) ⊕ (zK)} (H : qM_isFit_b22 s = some e) (K : match (generalizing := false) e with | .inl s' => ∀ (z1 : Option Value) (z3 : Option Value), zEv (zXs Ls xs) (d + 4) zm_232 (22, [some (.ref 215), z1, some (.int s'.1), z3], [], zhp s'.2) r | .inr v => ∀ (z1 : Option Value) (z2 : Option Value) (z3 : Option Value), zEv (zXs Ls xs) (d + 4) zm_232 (64, [some (.ref 215), z1, z2, z3], [], zhp v) r) (y1 : Option Value) (y3 : Option Value) : zEv (zXs Ls xs) (d + 4) zm_232 (22, [some (.ref 215), y1, some (.int s.1), y3], [], zhp s.2) r := by
  unfold qM_isFit_b22 at H
  refine zEv_k 3 (f' := (if 20 < s.1 then 64 else 28, [some (.ref 215), y1, some (.int s.1), y3], [], zhp s.2)) rfl (zEv_if (fun c4 => ?_) (fun c4 => ?_))
  · replace H := zif_t c4 H
    cases H
    exact K _ _ _
  · replace H := zif_f c4 H
    refine zEv_k 4 (f' := (34, [some (.ref 215), y1, some (.int s.1), some (.int (gI s.2 215 28))], [.ref 215], zhp s.2)) rfl ?_
    obtain ⟨p5, hp5, H⟩ := zbs H
    refine zEv_c (fun _ => rfl) rfl (t_qM_goesOn (h := s.2) (d := d) hp5) rfl rfl ?_
    refine zEv_k 2 (f' := (39, [some (.ref 215), y1, some (.int s.1), some (.int (gI s.2 215 28))], [.ref 215], zhp p5.2)) rfl ?_
    refine zRgr rfl rfl rfl (by decide) (b := 235) rfl ?_
    refine zEv_k 9 (f' := (56, [some (.ref 215), y1, some (.int s.1), some (.int (gI s.2 215 28))], [.int (gI s.2 215 28), .int (gI p5.2 215 28), .int ((21 * (gI p5.2 215 46)) + s.1), .ref 235], zhp p5.2)) rfl ?_
    refine zEv_k 1 (f' := (57, [some (.ref 215), y1, some (.int s.1), some (.int (gI s.2 215 28))], [.int ((gI p5.2 215 28) - (gI s.2 215 28)), .int ((21 * (gI p5.2 215 46)) + s.1), .ref 235], zhp p5.2)) rfl ?_
    obtain ⟨j6, hj6, H⟩ := zbs H
    obtain ⟨h7, eh7, H⟩ := zlets H
    refine zRis rfl rfl (by decide) hj6 eh7 ?_
    refine zEv_k 2 (f' := (22, [some (.ref 215), zlost y1, some (.int (s.1 + 1)), some (.int (gI s.2 215 28))], [], zhp h7)) rfl ?_
    cases H
    exact K _ _
theorem t_qM_isFit_b22 {Ls : Nat} {xs : Nat → Int32} {d : Nat} {r : zA} {t : zK} (K : ∀ (z1 : Option Value) (z2 : Option Value) (z3 : Option Value), zEv (zXs Ls xs) (d + 4) zm_232 (64, [some (.ref 215), z1, z2, z3], [], zhp t) r) (n : Nat) (s : Int32 × zK) (H : zloop (qM_isFit_b22) n s = some t) (y1 : Option Value) (y3 : Option Value) : zEv (zXs Ls xs) (d + 4) zm_232 (22, [some (.ref 215), y1, some (.int s.1), y3], [], zhp s.2) r := by
  have Z := zloop_P (P := fun s => ∀ (y1 : Option Value) (y3 : Option Value), zEv (zXs Ls xs) (d + 4) zm_232 (22, [some (.ref 215), y1, some (.int s.1), y3], [], zhp s.2) r) (b := qM_isFit_b22) (t := t) (fun s s2 hb hk => by intro y1 y3; exact t_qM_isFit_b22b hb hk y1 y3) (fun s hb => by intro y1 y3; exact t_qM_isFit_b22b hb K y1 y3) n s H
  exact Z y1 y3
def qM_isFit_b68 (h : zK) (s : Int32 × Int32) : Option ((Int32 × Int32) ⊕ (Int32)) :=
  (qM_facts h).bind fun p10 =>
  if p10 ≤ s.2 then
    some (.inr s.1)
  else
    Option.bind (
        if s.1 = 0 then
          some 0
        else
          (qM_factOf s.2 0 h).bind fun p14 =>
          (zix ((21 * (gI h 215 46)) + p14) 2100).bind fun j15 =>
          (qM_factOf s.2 1 h).bind fun p16 =>
          if ¬ (gI h 235 j15) = p16 then
            some 0
          else
            some 1
      ) fun (v13 : Int32) =>
    some (.inl (v13, s.2 + 1))
theorem t_qM_isFit_b68b {Ls : Nat} {xs : Nat → Int32} {d : Nat} {h : zK} {r : zA} {s : Int32 × Int32} {e : (Int32 × Int32) ⊕ (Int32)} (H : qM_isFit_b68 h s = some e) (K : match (generalizing := false) e with | .inl s' => ∀ (z1 : Option Value), zEv (zXs Ls xs) (d + 4) zm_232 (68, [some (.ref 215), z1, some (.int s'.1), some (.int s'.2)], [], zhp h) r | .inr v => ∀ (z1 : Option Value) (z3 : Option Value), zEv (zXs Ls xs) (d + 4) zm_232 (120, [some (.ref 215), z1, some (.int v), z3], [], zhp h) r) (y1 : Option Value) : zEv (zXs Ls xs) (d + 4) zm_232 (68, [some (.ref 215), y1, some (.int s.1), some (.int s.2)], [], zhp h) r := by
  unfold qM_isFit_b68 at H
  refine zEv_k 2 (f' := (70, [some (.ref 215), y1, some (.int s.1), some (.int s.2)], [.ref 215, .int s.2], zhp h)) rfl ?_
  obtain ⟨p10, hp10, H⟩ := zbs H
  refine zEv_c (fun _ => rfl) rfl (t_qM_facts (h := h) (d := d + 3) hp10) rfl rfl ?_
  refine zEv_k 1 (f' := (if p10 ≤ s.2 then 120 else 76, [some (.ref 215), y1, some (.int s.1), some (.int s.2)], [], zhp h)) rfl (zEv_if (fun c11 => ?_) (fun c11 => ?_))
  · replace H := zif_t c11 H
    cases H
    exact K _ _
  · replace H := zif_f c11 H
    obtain ⟨v13, hv13, H⟩ := zbs H
    have kv13 : zEv (zXs Ls xs) (d + 4) zm_232 (113, [some (.ref 215), y1, some (.int s.1), some (.int s.2)], [.int v13], zhp h) r := by
      refine zEv_k 3 (f' := (68, [some (.ref 215), zlost y1, some (.int v13), some (.int (s.2 + 1))], [], zhp h)) rfl ?_
      cases H
      exact K _
    clear H
    refine zEv_k 2 (f' := (if s.1 = 0 then 112 else 80, [some (.ref 215), y1, some (.int s.1), some (.int s.2)], [], zhp h)) rfl (zEv_if (fun c12 => ?_) (fun c12 => ?_))
    · replace hv13 := zif_t c12 hv13
      refine zEv_k 1 (f' := (113, [some (.ref 215), y1, some (.int s.1), some (.int s.2)], [.int 0], zhp h)) rfl ?_
      cases hv13
      exact kv13
    · replace hv13 := zif_f c12 hv13
      refine zEv_k 1 (f' := (81, [some (.ref 215), y1, some (.int s.1), some (.int s.2)], [.ref 215], zhp h)) rfl ?_
      refine zRgr rfl rfl rfl (by decide) (b := 235) rfl ?_
      refine zEv_k 7 (f' := (94, [some (.ref 215), y1, some (.int s.1), some (.int s.2)], [.int 0, .int s.2, .ref 215, .int (21 * (gI h 215 46)), .ref 235], zhp h)) rfl ?_
      obtain ⟨p14, hp14, hv13⟩ := zbs hv13
      refine zEv_c (fun _ => rfl) rfl (t_qM_factOf (x1 := s.2) (x2 := 0) (h := h) (d := d + 3) hp14) rfl rfl ?_
      refine zEv_k 1 (f' := (98, [some (.ref 215), y1, some (.int s.1), some (.int s.2)], [.int ((21 * (gI h 215 46)) + p14), .ref 235], zhp h)) rfl ?_
      obtain ⟨j15, hj15, hv13⟩ := zbs hv13
      refine zRia rfl rfl (by decide) hj15 ?_
      refine zEv_k 3 (f' := (102, [some (.ref 215), y1, some (.int s.1), some (.int s.2)], [.int 1, .int s.2, .ref 215, .int (gI h 235 j15)], zhp h)) rfl ?_
      obtain ⟨p16, hp16, hv13⟩ := zbs hv13
      refine zEv_c (fun _ => rfl) rfl (t_qM_factOf (x1 := s.2) (x2 := 1) (h := h) (d := d + 3) hp16) rfl rfl ?_
      refine zEv_k 1 (f' := (if ¬ (gI h 235 j15) = p16 then 112 else 108, [some (.ref 215), y1, some (.int s.1), some (.int s.2)], [], zhp h)) rfl (zEv_if (fun c17 => ?_) (fun c17 => ?_))
      · replace hv13 := zif_t c17 hv13
        refine zEv_k 1 (f' := (113, [some (.ref 215), y1, some (.int s.1), some (.int s.2)], [.int 0], zhp h)) rfl ?_
        cases hv13
        exact kv13
      · replace hv13 := zif_f c17 hv13
        refine zEv_k 2 (f' := (113, [some (.ref 215), y1, some (.int s.1), some (.int s.2)], [.int 1], zhp h)) rfl ?_
        cases hv13
        exact kv13
theorem t_qM_isFit_b68 {Ls : Nat} {xs : Nat → Int32} {d : Nat} {h : zK} {r : zA} {t : Int32} (K : ∀ (z1 : Option Value) (z3 : Option Value), zEv (zXs Ls xs) (d + 4) zm_232 (120, [some (.ref 215), z1, some (.int t), z3], [], zhp h) r) (n : Nat) (s : Int32 × Int32) (H : zloop (qM_isFit_b68 h) n s = some t) (y1 : Option Value) : zEv (zXs Ls xs) (d + 4) zm_232 (68, [some (.ref 215), y1, some (.int s.1), some (.int s.2)], [], zhp h) r := by
  have Z := zloop_P (P := fun s => ∀ (y1 : Option Value), zEv (zXs Ls xs) (d + 4) zm_232 (68, [some (.ref 215), y1, some (.int s.1), some (.int s.2)], [], zhp h) r) (b := qM_isFit_b68 h) (t := t) (fun s s2 hb hk => by intro y1; exact t_qM_isFit_b68b hb hk y1) (fun s hb => by intro y1; exact t_qM_isFit_b68b hb K y1) n s H
  exact Z y1
def qM_isFit (x1 : Int32) (h : zK) : Option (Int32 × zK) :=
  zlet (sI h 215 25 (x1 / 10)) fun h1 =>
  zlet (sI h1 215 24 (x1 - x1 / 10 * 10)) fun h2 =>
  (qM_asTold h2).bind fun p3 =>
  (zloop (qM_isFit_b22) zfu (1, p3)).bind fun t8 =>
  (zloop (qM_isFit_b68 t8) zfu (1, 0)).bind fun t18 =>
  if zbool t18 = true then
    some (t18, t8)
  else none
theorem t_qM_isFit {Ls : Nat} {xs : Nat → Int32} {d : Nat} {x1 : Int32} {h : zK} {p : Int32 × zK} (H : qM_isFit x1 h = some p) : zEv (zXs Ls xs) (d + 4) zm_232 (0, [some (.ref 215), some (.int x1), none, none], [], zhp h) (some (.int p.1), zhp p.2) := by
  unfold qM_isFit at H
  refine zEv_k 3 (f' := (4, [some (.ref 215), some (.int x1), none, none], [.int 10, .int x1, .ref 215], zhp h)) rfl ?_
  refine zEv_div rfl (by decide) ?_
  obtain ⟨h1, eh1, H⟩ := zlets H
  refine zEv_w (F := fun z => (8, [some (.ref 215), some (.int x1), none, none], [], zhp z)) (h0 := sI h 215 25 (x1 / 10)) 1 rfl eh1 ?_
  refine zEv_k 3 (f' := (12, [some (.ref 215), some (.int x1), none, none], [.int 10, .int x1, .ref 215], zhp h1)) rfl ?_
  refine zEv_rem rfl (by decide) ?_
  obtain ⟨h2, eh2, H⟩ := zlets H
  refine zEv_w (F := fun z => (16, [some (.ref 215), some (.int x1), none, none], [], zhp z)) (h0 := sI h1 215 24 (x1 - x1 / 10 * 10)) 1 rfl eh2 ?_
  refine zEv_k 1 (f' := (17, [some (.ref 215), some (.int x1), none, none], [.ref 215], zhp h2)) rfl ?_
  obtain ⟨p3, hp3, H⟩ := zbs H
  refine zEv_c (fun _ => rfl) rfl (t_qM_asTold (h := h2) (d := d + 2) hp3) rfl rfl ?_
  refine zEv_k 2 (f' := (22, [some (.ref 215), some (.int x1), some (.int 1), none], [], zhp p3)) rfl ?_
  obtain ⟨t8, ht8, H⟩ := zbs H
  refine t_qM_isFit_b22 ?_ zfu _ ht8 _ _
  intro y1 y2 y3
  refine zEv_k 4 (f' := (68, [some (.ref 215), zlost y1, some (.int 1), some (.int 0)], [], zhp t8)) rfl ?_
  obtain ⟨t18, ht18, H⟩ := zbs H
  refine t_qM_isFit_b68 (h := t8) ?_ zfu _ ht18 _
  intro y1 y3
  refine zEv_k 1 (f' := (121, [some (.ref 215), y1, some (.int t18), y3], [.int t18], zhp t8)) rfl ?_
  obtain ⟨c20, H⟩ := zifn H
  cases H
  exact zEv_rz rfl rfl c20
def qM_layLog_b25 (s : Int32 × zK) : Option ((Int32 × zK) ⊕ (zK)) :=
  if 100 ≤ s.1 then
    some (.inr s.2)
  else
    (qM_isFit s.1 s.2).bind fun p7 =>
    Option.bind (
        if p7.1 = 0 then
          some p7.2
        else
          (zix (gI p7.2 215 46) 100).bind fun j10 =>
          zlet (sI p7.2 234 j10 s.1) fun h11 =>
          zlet (sI h11 215 46 ((gI h11 215 46) + 1)) fun h12 =>
          some h12
      ) fun (v9 : zK) =>
    some (.inl (s.1 + 1, v9))
theorem t_qM_layLog_b25b {Ls : Nat} {xs : Nat → Int32} {d : Nat} {r : zA} {s : Int32 × zK} {e : (Int32 × zK) ⊕ (zK)} (H : qM_layLog_b25 s = some e) (K : match (generalizing := false) e with | .inl s' => ∀ (z1 : Option Value) (z2 : Option Value), zEv (zXs Ls xs) (d + 5) zm_233 (25, [some (.ref 215), z1, z2, some (.int s'.1)], [], zhp s'.2) r | .inr v => ∀ (z1 : Option Value) (z2 : Option Value) (z3 : Option Value), zEv (zXs Ls xs) (d + 5) zm_233 (65, [some (.ref 215), z1, z2, z3], [], zhp v) r) (y1 : Option Value) (y2 : Option Value) : zEv (zXs Ls xs) (d + 5) zm_233 (25, [some (.ref 215), y1, y2, some (.int s.1)], [], zhp s.2) r := by
  unfold qM_layLog_b25 at H
  refine zEv_k 3 (f' := (if 100 ≤ s.1 then 65 else 31, [some (.ref 215), y1, y2, some (.int s.1)], [], zhp s.2)) rfl (zEv_if (fun c6 => ?_) (fun c6 => ?_))
  · replace H := zif_t c6 H
    cases H
    exact K _ _ _
  · replace H := zif_f c6 H
    refine zEv_k 2 (f' := (33, [some (.ref 215), y1, y2, some (.int s.1)], [.int s.1, .ref 215], zhp s.2)) rfl ?_
    obtain ⟨p7, hp7, H⟩ := zbs H
    refine zEv_c (fun _ => rfl) rfl (t_qM_isFit (x1 := s.1) (h := s.2) (d := d) hp7) rfl rfl ?_
    obtain ⟨v9, hv9, H⟩ := zbs H
    have kv9 : zEv (zXs Ls xs) (d + 5) zm_233 (59, [some (.ref 215), y1, y2, some (.int s.1)], [], zhp v9) r := by
      refine zEv_k 2 (f' := (25, [some (.ref 215), y1, zlost y2, some (.int (s.1 + 1))], [], zhp v9)) rfl ?_
      cases H
      exact K _ _
    clear H
    refine zEv_k 1 (f' := (if p7.1 = 0 then 59 else 39, [some (.ref 215), y1, y2, some (.int s.1)], [], zhp p7.2)) rfl (zEv_if (fun c8 => ?_) (fun c8 => ?_))
    · replace hv9 := zif_t c8 hv9
      cases hv9
      exact kv9
    · replace hv9 := zif_f c8 hv9
      refine zEv_k 1 (f' := (40, [some (.ref 215), y1, y2, some (.int s.1)], [.ref 215], zhp p7.2)) rfl ?_
      refine zRgr rfl rfl rfl (by decide) (b := 234) rfl ?_
      refine zEv_k 3 (f' := (48, [some (.ref 215), y1, y2, some (.int s.1)], [.int s.1, .int (gI p7.2 215 46), .ref 234], zhp p7.2)) rfl ?_
      obtain ⟨j10, hj10, hv9⟩ := zbs hv9
      obtain ⟨h11, eh11, hv9⟩ := zlets hv9
      refine zRis rfl rfl (by decide) hj10 eh11 ?_
      obtain ⟨h12, eh12, hv9⟩ := zlets hv9
      refine zEv_w (F := fun z => (59, [some (.ref 215), y1, y2, some (.int s.1)], [], zhp z)) (h0 := sI h11 215 46 ((gI h11 215 46) + 1)) 6 rfl eh12 ?_
      cases hv9
      exact kv9
theorem t_qM_layLog_b25 {Ls : Nat} {xs : Nat → Int32} {d : Nat} {r : zA} {t : zK} (K : ∀ (z1 : Option Value) (z2 : Option Value) (z3 : Option Value), zEv (zXs Ls xs) (d + 5) zm_233 (65, [some (.ref 215), z1, z2, z3], [], zhp t) r) (n : Nat) (s : Int32 × zK) (H : zloop (qM_layLog_b25) n s = some t) (y1 : Option Value) (y2 : Option Value) : zEv (zXs Ls xs) (d + 5) zm_233 (25, [some (.ref 215), y1, y2, some (.int s.1)], [], zhp s.2) r := by
  have Z := zloop_P (P := fun s => ∀ (y1 : Option Value) (y2 : Option Value), zEv (zXs Ls xs) (d + 5) zm_233 (25, [some (.ref 215), y1, y2, some (.int s.1)], [], zhp s.2) r) (b := qM_layLog_b25) (t := t) (fun s s2 hb hk => by intro y1 y2; exact t_qM_layLog_b25b hb hk y1 y2) (fun s hb => by intro y1 y2; exact t_qM_layLog_b25b hb K y1 y2) n s H
  exact Z y1 y2
def qM_layLog (x1 : Int32) (x2 : Int32) (h : zK) : Option (Int32 × zK) :=
  (qM_hasLog x2 h).bind fun p1 =>
  if p1.1 = 0 then
    some (0, p1.2)
  else
    (qM_hand x1 p1.2).bind fun p3 =>
    if ¬ p3.1 = 0 then
      zlet (sI p3.2 215 46 0) fun h5 =>
      (zloop (qM_layLog_b25) zfu (0, h5)).bind fun t13 =>
      some (1, t13)
    else
      some (0, p3.2)
theorem t_qM_layLog {Ls : Nat} {xs : Nat → Int32} {d : Nat} {x1 : Int32} {x2 : Int32} {h : zK} {p : Int32 × zK} (H : qM_layLog x1 x2 h = some p) : zEv (zXs Ls xs) (d + 5) zm_233 (0, [some (.ref 215), some (.int x1), some (.int x2), none], [], zhp h) (some (.int p.1), zhp p.2) := by
  unfold qM_layLog at H
  refine zEv_k 2 (f' := (2, [some (.ref 215), some (.int x1), some (.int x2), none], [.int x2, .ref 215], zhp h)) rfl ?_
  obtain ⟨p1, hp1, H⟩ := zbs H
  refine zEv_c (fun _ => rfl) rfl (t_qM_hasLog (x1 := x2) (h := h) (d := d + 2) hp1) rfl rfl ?_
  refine zEv_k 1 (f' := (if p1.1 = 0 then 16 else 8, [some (.ref 215), some (.int x1), some (.int x2), none], [], zhp p1.2)) rfl (zEv_if (fun c2 => ?_) (fun c2 => ?_))
  · replace H := zif_t c2 H
    refine zEv_k 1 (f' := (17, [some (.ref 215), some (.int x1), some (.int x2), none], [.int 0], zhp p1.2)) rfl ?_
    cases H
    exact zEv_r rfl
  · replace H := zif_f c2 H
    refine zEv_k 2 (f' := (10, [some (.ref 215), some (.int x1), some (.int x2), none], [.int x1, .ref 215], zhp p1.2)) rfl ?_
    obtain ⟨p3, hp3, H⟩ := zbs H
    refine zEv_c (fun _ => rfl) rfl (t_qM_hand (x1 := x1) (h := p1.2) (d := d + 2) hp3) rfl rfl ?_
    refine zEv_k 1 (f' := (if ¬ p3.1 = 0 then 18 else 16, [some (.ref 215), some (.int x1), some (.int x2), none], [], zhp p3.2)) rfl (zEv_if (fun c4 => ?_) (fun c4 => ?_))
    · replace H := zif_t c4 H
      obtain ⟨h5, eh5, H⟩ := zlets H
      refine zEv_w (F := fun z => (23, [some (.ref 215), some (.int x1), some (.int x2), none], [], zhp z)) (h0 := sI p3.2 215 46 0) 3 rfl eh5 ?_
      refine zEv_k 2 (f' := (25, [some (.ref 215), some (.int x1), some (.int x2), some (.int 0)], [], zhp h5)) rfl ?_
      obtain ⟨t13, ht13, H⟩ := zbs H
      refine t_qM_layLog_b25 ?_ zfu _ ht13 _ _
      intro y1 y2 y3
      refine zEv_k 1 (f' := (66, [some (.ref 215), y1, y2, y3], [.int 1], zhp t13)) rfl ?_
      cases H
      exact zEv_r rfl
    · replace H := zif_f c4 H
      refine zEv_k 1 (f' := (17, [some (.ref 215), some (.int x1), some (.int x2), none], [.int 0], zhp p3.2)) rfl ?_
      cases H
      exact zEv_r rfl
def qM_sure_b4 (x1 : Int32) (h : zK) (s : Int32 × Int32) : Option ((Int32 × Int32) ⊕ ((Int32) ⊕ (Int32))) :=
  if (gI h 215 46) ≤ s.2 then
    some (.inr (.inl s.1))
  else
    Option.bind (
        if x1 = 0 then
          (zix s.2 100).bind fun j4 =>
          some ((gI h 234 j4) - (gI h 234 j4) / 10 * 10)
        else
          (zix s.2 100).bind fun j5 =>
          some ((gI h 234 j5) / 10)
      ) fun (v3 : Int32) =>
    if s.2 ≤ 0 then
      some (.inl (v3, s.2 + 1))
    else
      if v3 = s.1 then
        some (.inl (v3, s.2 + 1))
      else
        some (.inr (.inr (-1)))
theorem t_qM_sure_b4b {Ls : Nat} {xs : Nat → Int32} {d : Nat} {x1 : Int32} {h : zK} {r : zA} {s : Int32 × Int32} {e : (Int32 × Int32) ⊕ ((Int32) ⊕ (Int32))} (H : qM_sure_b4 x1 h s = some e) (K : match (generalizing := false) e with | .inl s' => ∀ (z4 : Option Value), zEv (zXs Ls xs) d zm_234 (4, [some (.ref 215), some (.int x1), some (.int s'.1), some (.int s'.2), z4], [], zhp h) r | .inr (.inl v) => ∀ (z3 : Option Value) (z4 : Option Value), zEv (zXs Ls xs) d zm_234 (60, [some (.ref 215), some (.int x1), some (.int v), z3, z4], [], zhp h) r | .inr (.inr p) => (some (.int p), zhp h) = r) (y4 : Option Value) : zEv (zXs Ls xs) d zm_234 (4, [some (.ref 215), some (.int x1), some (.int s.1), some (.int s.2), y4], [], zhp h) r := by
  unfold qM_sure_b4 at H
  refine zEv_k 4 (f' := (if (gI h 215 46) ≤ s.2 then 60 else 12, [some (.ref 215), some (.int x1), some (.int s.1), some (.int s.2), y4], [], zhp h)) rfl (zEv_if (fun c1 => ?_) (fun c1 => ?_))
  · replace H := zif_t c1 H
    cases H
    exact K _ _
  · replace H := zif_f c1 H
    obtain ⟨v3, hv3, H⟩ := zbs H
    have kv3 : zEv (zXs Ls xs) d zm_234 (37, [some (.ref 215), some (.int x1), some (.int s.1), some (.int s.2), y4], [.int v3], zhp h) r := by
      refine zEv_k 3 (f' := (if s.2 ≤ 0 then 51 else 43, [some (.ref 215), some (.int x1), some (.int s.1), some (.int s.2), some (.int v3)], [], zhp h)) rfl (zEv_if (fun c6 => ?_) (fun c6 => ?_))
      · replace H := zif_t c6 H
        refine zEv_k 4 (f' := (4, [some (.ref 215), some (.int x1), some (.int v3), some (.int (s.2 + 1)), some (.int v3)], [], zhp h)) rfl ?_
        cases H
        exact K _
      · replace H := zif_f c6 H
        refine zEv_k 3 (f' := (if v3 = s.1 then 51 else 49, [some (.ref 215), some (.int x1), some (.int s.1), some (.int s.2), some (.int v3)], [], zhp h)) rfl (zEv_if (fun c7 => ?_) (fun c7 => ?_))
        · replace H := zif_t c7 H
          refine zEv_k 4 (f' := (4, [some (.ref 215), some (.int x1), some (.int v3), some (.int (s.2 + 1)), some (.int v3)], [], zhp h)) rfl ?_
          cases H
          exact K _
        · replace H := zif_f c7 H
          refine zEv_k 1 (f' := (50, [some (.ref 215), some (.int x1), some (.int s.1), some (.int s.2), some (.int v3)], [.int (-1)], zhp h)) rfl ?_
          cases H
          exact zEv_re K rfl
    clear H
    refine zEv_k 2 (f' := (if x1 = 0 then 28 else 16, [some (.ref 215), some (.int x1), some (.int s.1), some (.int s.2), y4], [], zhp h)) rfl (zEv_if (fun c2 => ?_) (fun c2 => ?_))
    · replace hv3 := zif_t c2 hv3
      refine zEv_k 1 (f' := (29, [some (.ref 215), some (.int x1), some (.int s.1), some (.int s.2), y4], [.ref 215], zhp h)) rfl ?_
      refine zRgr rfl rfl rfl (by decide) (b := 234) rfl ?_
      refine zEv_k 1 (f' := (33, [some (.ref 215), some (.int x1), some (.int s.1), some (.int s.2), y4], [.int s.2, .ref 234], zhp h)) rfl ?_
      obtain ⟨j4, hj4, hv3⟩ := zbs hv3
      refine zRia rfl rfl (by decide) hj4 ?_
      refine zEv_k 1 (f' := (36, [some (.ref 215), some (.int x1), some (.int s.1), some (.int s.2), y4], [.int 10, .int (gI h 234 j4)], zhp h)) rfl ?_
      refine zEv_rem rfl (by decide) ?_
      cases hv3
      exact kv3
    · replace hv3 := zif_f c2 hv3
      refine zEv_k 1 (f' := (17, [some (.ref 215), some (.int x1), some (.int s.1), some (.int s.2), y4], [.ref 215], zhp h)) rfl ?_
      refine zRgr rfl rfl rfl (by decide) (b := 234) rfl ?_
      refine zEv_k 1 (f' := (21, [some (.ref 215), some (.int x1), some (.int s.1), some (.int s.2), y4], [.int s.2, .ref 234], zhp h)) rfl ?_
      obtain ⟨j5, hj5, hv3⟩ := zbs hv3
      refine zRia rfl rfl (by decide) hj5 ?_
      refine zEv_k 1 (f' := (24, [some (.ref 215), some (.int x1), some (.int s.1), some (.int s.2), y4], [.int 10, .int (gI h 234 j5)], zhp h)) rfl ?_
      refine zEv_div rfl (by decide) ?_
      refine zEv_k 1 (f' := (37, [some (.ref 215), some (.int x1), some (.int s.1), some (.int s.2), y4], [.int ((gI h 234 j5) / 10)], zhp h)) rfl ?_
      cases hv3
      exact kv3
theorem t_qM_sure_b4 {Ls : Nat} {xs : Nat → Int32} {d : Nat} {x1 : Int32} {h : zK} {r : zA} {t : (Int32) ⊕ (Int32)} (K : (match (generalizing := false) t with | .inl v => ∀ (z3 : Option Value) (z4 : Option Value), zEv (zXs Ls xs) d zm_234 (60, [some (.ref 215), some (.int x1), some (.int v), z3, z4], [], zhp h) r | .inr p => (some (.int p), zhp h) = r)) (n : Nat) (s : Int32 × Int32) (H : zloop (qM_sure_b4 x1 h) n s = some t) (y4 : Option Value) : zEv (zXs Ls xs) d zm_234 (4, [some (.ref 215), some (.int x1), some (.int s.1), some (.int s.2), y4], [], zhp h) r := by
  have Z := zloop_P (P := fun s => ∀ (y4 : Option Value), zEv (zXs Ls xs) d zm_234 (4, [some (.ref 215), some (.int x1), some (.int s.1), some (.int s.2), y4], [], zhp h) r) (b := qM_sure_b4 x1 h) (t := t) (fun s s2 hb hk => by intro y4; exact t_qM_sure_b4b hb hk y4) (fun s hb => by rcases t with v | p <;> (intro y4; exact t_qM_sure_b4b hb K y4)) n s H
  exact Z y4
def qM_sure (x1 : Int32) (h : zK) : Option (Int32) :=
  (zloop (qM_sure_b4 x1 h) zfu (-1, 0)).bind fun t8 => match t8 with
  | .inr p => some p
  | .inl v9 =>
    some v9
theorem t_qM_sure {Ls : Nat} {xs : Nat → Int32} {d : Nat} {x1 : Int32} {h : zK} {p : Int32} (H : qM_sure x1 h = some p) : zEv (zXs Ls xs) d zm_234 (0, [some (.ref 215), some (.int x1), none, none, none], [], zhp h) (some (.int p), zhp h) := by
  unfold qM_sure at H
  refine zEv_k 4 (f' := (4, [some (.ref 215), some (.int x1), some (.int (-1)), some (.int 0), none], [], zhp h)) rfl ?_
  obtain ⟨t8, ht8, H⟩ := zbs H
  refine t_qM_sure_b4 (x1 := x1) (h := h) ?_ zfu _ ht8 _
  rcases t8 with v9 | p
  · intro y3 y4
    dsimp only at H
    refine zEv_k 1 (f' := (61, [some (.ref 215), some (.int x1), some (.int v9), y3, y4], [.int v9], zhp h)) rfl ?_
    cases H
    exact zEv_r rfl
  · cases H
    exact rfl
def qM_alike_b16 (x1 : Int32) (x2 : Int32) (x3 : Int32) (h : zK) (s : Int32 × Int32) : Option ((Int32 × Int32) ⊕ (Int32)) :=
  if (gI h 215 46) ≤ s.2 then
    some (.inr s.1)
  else
    (zix ((21 * s.2) + x1) 2100).bind fun j3 =>
    zlet (
        if ¬ (gI h 235 j3) = x3 then
          0
        else
          1
      ) fun (v5 : Int32) =>
    some (.inl (s.1 + v5, s.2 + 1))
theorem t_qM_alike_b16b {Ls : Nat} {xs : Nat → Int32} {d : Nat} {x1 : Int32} {x2 : Int32} {x3 : Int32} {h : zK} {r : zA} {s : Int32 × Int32} {e : (Int32 × Int32) ⊕ (Int32)} (H : qM_alike_b16 x1 x2 x3 h s = some e) (K : match (generalizing := false) e with | .inl s' => zEv (zXs Ls xs) (d + 1) zm_235 (16, [some (.ref 215), some (.int x1), some (.int x2), some (.int x3), some (.int s'.1), some (.int s'.2)], [], zhp h) r | .inr v => ∀ (z5 : Option Value), zEv (zXs Ls xs) (d + 1) zm_235 (57, [some (.ref 215), some (.int x1), some (.int x2), some (.int x3), some (.int v), z5], [], zhp h) r) : zEv (zXs Ls xs) (d + 1) zm_235 (16, [some (.ref 215), some (.int x1), some (.int x2), some (.int x3), some (.int s.1), some (.int s.2)], [], zhp h) r := by
  unfold qM_alike_b16 at H
  refine zEv_k 4 (f' := (if (gI h 215 46) ≤ s.2 then 57 else 25, [some (.ref 215), some (.int x1), some (.int x2), some (.int x3), some (.int s.1), some (.int s.2)], [], zhp h)) rfl (zEv_if (fun c2 => ?_) (fun c2 => ?_))
  · replace H := zif_t c2 H
    cases H
    exact K _
  · replace H := zif_f c2 H
    refine zEv_k 2 (f' := (28, [some (.ref 215), some (.int x1), some (.int x2), some (.int x3), some (.int s.1), some (.int s.2)], [.ref 215, .int s.1], zhp h)) rfl ?_
    refine zRgr rfl rfl rfl (by decide) (b := 235) rfl ?_
    refine zEv_k 5 (f' := (38, [some (.ref 215), some (.int x1), some (.int x2), some (.int x3), some (.int s.1), some (.int s.2)], [.int ((21 * s.2) + x1), .ref 235, .int s.1], zhp h)) rfl ?_
    obtain ⟨j3, hj3, H⟩ := zbs H
    refine zRia rfl rfl (by decide) hj3 ?_
    obtain ⟨v5, hv5, H⟩ := zlets H
    have kv5 : zEv (zXs Ls xs) (d + 1) zm_235 (48, [some (.ref 215), some (.int x1), some (.int x2), some (.int x3), some (.int s.1), some (.int s.2)], [.int v5, .int s.1], zhp h) r := by
      refine zEv_k 4 (f' := (16, [some (.ref 215), some (.int x1), some (.int x2), some (.int x3), some (.int (s.1 + v5)), some (.int (s.2 + 1))], [], zhp h)) rfl ?_
      cases H
      exact K
    clear H
    refine zEv_k 2 (f' := (if ¬ (gI h 235 j3) = x3 then 47 else 43, [some (.ref 215), some (.int x1), some (.int x2), some (.int x3), some (.int s.1), some (.int s.2)], [.int s.1], zhp h)) rfl (zEv_if (fun c4 => ?_) (fun c4 => ?_))
    · replace hv5 := zif_t c4 hv5
      refine zEv_k 1 (f' := (48, [some (.ref 215), some (.int x1), some (.int x2), some (.int x3), some (.int s.1), some (.int s.2)], [.int 0, .int s.1], zhp h)) rfl ?_
      cases hv5
      exact kv5
    · replace hv5 := zif_f c4 hv5
      refine zEv_k 2 (f' := (48, [some (.ref 215), some (.int x1), some (.int x2), some (.int x3), some (.int s.1), some (.int s.2)], [.int 1, .int s.1], zhp h)) rfl ?_
      cases hv5
      exact kv5
theorem t_qM_alike_b16 {Ls : Nat} {xs : Nat → Int32} {d : Nat} {x1 : Int32} {x2 : Int32} {x3 : Int32} {h : zK} {r : zA} {t : Int32} (K : ∀ (z5 : Option Value), zEv (zXs Ls xs) (d + 1) zm_235 (57, [some (.ref 215), some (.int x1), some (.int x2), some (.int x3), some (.int t), z5], [], zhp h) r) (n : Nat) (s : Int32 × Int32) (H : zloop (qM_alike_b16 x1 x2 x3 h) n s = some t) : zEv (zXs Ls xs) (d + 1) zm_235 (16, [some (.ref 215), some (.int x1), some (.int x2), some (.int x3), some (.int s.1), some (.int s.2)], [], zhp h) r := by
  have Z := zloop_P (P := fun s => zEv (zXs Ls xs) (d + 1) zm_235 (16, [some (.ref 215), some (.int x1), some (.int x2), some (.int x3), some (.int s.1), some (.int s.2)], [], zhp h) r) (b := qM_alike_b16 x1 x2 x3 h) (t := t) (fun s s2 hb hk => by exact t_qM_alike_b16b hb hk) (fun s hb => by exact t_qM_alike_b16b hb K) n s H
  exact Z
def qM_alike_b4 (x1 : Int32) (h : zK) (s : Int32 × Int32) : Option ((Int32 × Int32) ⊕ (Int32)) :=
  if 7 < s.2 then
    some (.inr s.1)
  else
    (zloop (qM_alike_b16 x1 s.1 s.2 h) zfu (0, 0)).bind fun t6 =>
    some (.inl (zf_greater s.1 t6, s.2 + 1))
theorem t_qM_alike_b4b {Ls : Nat} {xs : Nat → Int32} {d : Nat} {x1 : Int32} {h : zK} {r : zA} {s : Int32 × Int32} {e : (Int32 × Int32) ⊕ (Int32)} (H : qM_alike_b4 x1 h s = some e) (K : match (generalizing := false) e with | .inl s' => ∀ (z4 : Option Value) (z5 : Option Value), zEv (zXs Ls xs) (d + 1) zm_235 (4, [some (.ref 215), some (.int x1), some (.int s'.1), some (.int s'.2), z4, z5], [], zhp h) r | .inr v => ∀ (z3 : Option Value) (z4 : Option Value) (z5 : Option Value), zEv (zXs Ls xs) (d + 1) zm_235 (70, [some (.ref 215), some (.int x1), some (.int v), z3, z4, z5], [], zhp h) r) (y4 : Option Value) (y5 : Option Value) : zEv (zXs Ls xs) (d + 1) zm_235 (4, [some (.ref 215), some (.int x1), some (.int s.1), some (.int s.2), y4, y5], [], zhp h) r := by
  unfold qM_alike_b4 at H
  refine zEv_k 3 (f' := (if 7 < s.2 then 70 else 10, [some (.ref 215), some (.int x1), some (.int s.1), some (.int s.2), y4, y5], [], zhp h)) rfl (zEv_if (fun c1 => ?_) (fun c1 => ?_))
  · replace H := zif_t c1 H
    cases H
    exact K _ _ _
  · replace H := zif_f c1 H
    refine zEv_k 4 (f' := (16, [some (.ref 215), some (.int x1), some (.int s.1), some (.int s.2), some (.int 0), some (.int 0)], [], zhp h)) rfl ?_
    obtain ⟨t6, ht6, H⟩ := zbs H
    refine t_qM_alike_b16 (x1 := x1) (x2 := s.1) (x3 := s.2) (h := h) ?_ zfu _ ht6
    intro y5
    refine zEv_k 2 (f' := (60, [some (.ref 215), some (.int x1), some (.int s.1), some (.int s.2), some (.int t6), y5], [.int t6, .int s.1], zhp h)) rfl ?_
    refine zEv_c (fun _ => rfl) rfl ev_zf_greater rfl rfl ?_
    refine zEv_k 3 (f' := (4, [some (.ref 215), some (.int x1), some (.int (zf_greater s.1 t6)), some (.int (s.2 + 1)), some (.int t6), y5], [], zhp h)) rfl ?_
    cases H
    exact K _ _
theorem t_qM_alike_b4 {Ls : Nat} {xs : Nat → Int32} {d : Nat} {x1 : Int32} {h : zK} {r : zA} {t : Int32} (K : ∀ (z3 : Option Value) (z4 : Option Value) (z5 : Option Value), zEv (zXs Ls xs) (d + 1) zm_235 (70, [some (.ref 215), some (.int x1), some (.int t), z3, z4, z5], [], zhp h) r) (n : Nat) (s : Int32 × Int32) (H : zloop (qM_alike_b4 x1 h) n s = some t) (y4 : Option Value) (y5 : Option Value) : zEv (zXs Ls xs) (d + 1) zm_235 (4, [some (.ref 215), some (.int x1), some (.int s.1), some (.int s.2), y4, y5], [], zhp h) r := by
  have Z := zloop_P (P := fun s => ∀ (y4 : Option Value) (y5 : Option Value), zEv (zXs Ls xs) (d + 1) zm_235 (4, [some (.ref 215), some (.int x1), some (.int s.1), some (.int s.2), y4, y5], [], zhp h) r) (b := qM_alike_b4 x1 h) (t := t) (fun s s2 hb hk => by intro y4 y5; exact t_qM_alike_b4b hb hk y4 y5) (fun s hb => by intro y4 y5; exact t_qM_alike_b4b hb K y4 y5) n s H
  exact Z y4 y5
def qM_alike (x1 : Int32) (h : zK) : Option (Int32) :=
  (zloop (qM_alike_b4 x1 h) zfu (0, 0)).bind fun t8 =>
  some t8
theorem t_qM_alike {Ls : Nat} {xs : Nat → Int32} {d : Nat} {x1 : Int32} {h : zK} {p : Int32} (H : qM_alike x1 h = some p) : zEv (zXs Ls xs) (d + 1) zm_235 (0, [some (.ref 215), some (.int x1), none, none, none, none], [], zhp h) (some (.int p), zhp h) := by
  unfold qM_alike at H
  refine zEv_k 4 (f' := (4, [some (.ref 215), some (.int x1), some (.int 0), some (.int 0), none, none], [], zhp h)) rfl ?_
  obtain ⟨t8, ht8, H⟩ := zbs H
  refine t_qM_alike_b4 (x1 := x1) (h := h) ?_ zfu _ ht8 _ _
  intro y3 y4 y5
  refine zEv_k 1 (f' := (71, [some (.ref 215), some (.int x1), some (.int t8), y3, y4, y5], [.int t8], zhp h)) rfl ?_
  cases H
  exact zEv_r rfl
def qM_ask_b4 (h : zK) (s : Int32 × Int32) : Option ((Int32 × Int32) ⊕ (Int32)) :=
  if 20 < s.2 then
    some (.inr s.1)
  else
    if (gI h 215 46) ≤ 0 then
      some (.inr s.1)
    else
      Option.bind (
          if s.1 = (-1) then
            some s.2
          else
            (qM_alike s.2 h).bind fun p5 =>
            (qM_alike s.1 h).bind fun p6 =>
            if p6 ≤ p5 then
              some s.1
            else
              some s.2
        ) fun (v4 : Int32) =>
      some (.inl (v4, s.2 + 1))
theorem t_qM_ask_b4b {Ls : Nat} {xs : Nat → Int32} {d : Nat} {h : zK} {r : zA} {s : Int32 × Int32} {e : (Int32 × Int32) ⊕ (Int32)} (H : qM_ask_b4 h s = some e) (K : match (generalizing := false) e with | .inl s' => zEv (zXs Ls xs) (d + 2) zm_236 (4, [some (.ref 215), some (.int s'.1), some (.int s'.2)], [], zhp h) r | .inr v => ∀ (z2 : Option Value), zEv (zXs Ls xs) (d + 2) zm_236 (47, [some (.ref 215), some (.int v), z2], [], zhp h) r) : zEv (zXs Ls xs) (d + 2) zm_236 (4, [some (.ref 215), some (.int s.1), some (.int s.2)], [], zhp h) r := by
  unfold qM_ask_b4 at H
  refine zEv_k 3 (f' := (if 20 < s.2 then 47 else 10, [some (.ref 215), some (.int s.1), some (.int s.2)], [], zhp h)) rfl (zEv_if (fun c1 => ?_) (fun c1 => ?_))
  · replace H := zif_t c1 H
    cases H
    exact K _
  · replace H := zif_f c1 H
    refine zEv_k 3 (f' := (if (gI h 215 46) ≤ 0 then 47 else 17, [some (.ref 215), some (.int s.1), some (.int s.2)], [], zhp h)) rfl (zEv_if (fun c2 => ?_) (fun c2 => ?_))
    · replace H := zif_t c2 H
      cases H
      exact K _
    · replace H := zif_f c2 H
      obtain ⟨v4, hv4, H⟩ := zbs H
      have kv4 : zEv (zXs Ls xs) (d + 2) zm_236 (40, [some (.ref 215), some (.int s.1), some (.int s.2)], [.int v4], zhp h) r := by
        refine zEv_k 3 (f' := (4, [some (.ref 215), some (.int v4), some (.int (s.2 + 1))], [], zhp h)) rfl ?_
        cases H
        exact K
      clear H
      refine zEv_k 3 (f' := (if s.1 = (-1) then 35 else 22, [some (.ref 215), some (.int s.1), some (.int s.2)], [], zhp h)) rfl (zEv_if (fun c3 => ?_) (fun c3 => ?_))
      · replace hv4 := zif_t c3 hv4
        refine zEv_k 2 (f' := (40, [some (.ref 215), some (.int s.1), some (.int s.2)], [.int s.2], zhp h)) rfl ?_
        cases hv4
        exact kv4
      · replace hv4 := zif_f c3 hv4
        refine zEv_k 2 (f' := (24, [some (.ref 215), some (.int s.1), some (.int s.2)], [.int s.2, .ref 215], zhp h)) rfl ?_
        obtain ⟨p5, hp5, hv4⟩ := zbs hv4
        refine zEv_c (fun _ => rfl) rfl (t_qM_alike (x1 := s.2) (h := h) (d := d) hp5) rfl rfl ?_
        refine zEv_k 2 (f' := (29, [some (.ref 215), some (.int s.1), some (.int s.2)], [.int s.1, .ref 215, .int p5], zhp h)) rfl ?_
        obtain ⟨p6, hp6, hv4⟩ := zbs hv4
        refine zEv_c (fun _ => rfl) rfl (t_qM_alike (x1 := s.1) (h := h) (d := d) hp6) rfl rfl ?_
        refine zEv_k 1 (f' := (if p6 ≤ p5 then 39 else 35, [some (.ref 215), some (.int s.1), some (.int s.2)], [], zhp h)) rfl (zEv_if (fun c7 => ?_) (fun c7 => ?_))
        · replace hv4 := zif_t c7 hv4
          refine zEv_k 1 (f' := (40, [some (.ref 215), some (.int s.1), some (.int s.2)], [.int s.1], zhp h)) rfl ?_
          cases hv4
          exact kv4
        · replace hv4 := zif_f c7 hv4
          refine zEv_k 2 (f' := (40, [some (.ref 215), some (.int s.1), some (.int s.2)], [.int s.2], zhp h)) rfl ?_
          cases hv4
          exact kv4
theorem t_qM_ask_b4 {Ls : Nat} {xs : Nat → Int32} {d : Nat} {h : zK} {r : zA} {t : Int32} (K : ∀ (z2 : Option Value), zEv (zXs Ls xs) (d + 2) zm_236 (47, [some (.ref 215), some (.int t), z2], [], zhp h) r) (n : Nat) (s : Int32 × Int32) (H : zloop (qM_ask_b4 h) n s = some t) : zEv (zXs Ls xs) (d + 2) zm_236 (4, [some (.ref 215), some (.int s.1), some (.int s.2)], [], zhp h) r := by
  have Z := zloop_P (P := fun s => zEv (zXs Ls xs) (d + 2) zm_236 (4, [some (.ref 215), some (.int s.1), some (.int s.2)], [], zhp h) r) (b := qM_ask_b4 h) (t := t) (fun s s2 hb hk => by exact t_qM_ask_b4b hb hk) (fun s hb => by exact t_qM_ask_b4b hb K) n s H
  exact Z
def qM_ask (h : zK) : Option (Int32) :=
  (zloop (qM_ask_b4 h) zfu (-1, 1)).bind fun t8 =>
  some t8
theorem t_qM_ask {Ls : Nat} {xs : Nat → Int32} {d : Nat} {h : zK} {p : Int32} (H : qM_ask h = some p) : zEv (zXs Ls xs) (d + 2) zm_236 (0, [some (.ref 215), none, none], [], zhp h) (some (.int p), zhp h) := by
  unfold qM_ask at H
  refine zEv_k 4 (f' := (4, [some (.ref 215), some (.int (-1)), some (.int 1)], [], zhp h)) rfl ?_
  obtain ⟨t8, ht8, H⟩ := zbs H
  refine t_qM_ask_b4 (h := h) ?_ zfu _ ht8
  intro y2
  refine zEv_k 1 (f' := (48, [some (.ref 215), some (.int t8), y2], [.int t8], zhp h)) rfl ?_
  cases H
  exact zEv_r rfl
def qM_fits (x1 : Int32) (x2 : Int32) (x3 : Int32) (h : zK) : Option (Int32 × zK) :=
  zlet (sI h 215 0 0) fun h1 =>
  (qM_layLog x1 x2 h1).bind fun p2 =>
  if ¬ p2.1 = 0 then
    if x3 < 10 then
      if x3 = 0 then
        some (gI p2.2 215 46, p2.2)
      else if x3 = 1 then
        zlet (
            if ¬ x3 = 1 then
              0
            else
              1
          ) fun (v6 : Int32) =>
        (qM_sure v6 p2.2).bind fun p7 =>
        some (p7, p2.2)
      else if x3 = 2 then
        zlet (
            if ¬ x3 = 1 then
              0
            else
              1
          ) fun (v9 : Int32) =>
        (qM_sure v9 p2.2).bind fun p10 =>
        some (p10, p2.2)
      else if x3 = 3 then
        (qM_ask p2.2).bind fun p11 =>
        some (p11, p2.2)
      else
        some (-2, p2.2)
    else
      if (gI p2.2 215 46) ≤ (x3 - 10) then
        some (-2, p2.2)
      else
        (zix (x3 - 10) 100).bind fun j13 =>
        some (gI p2.2 234 j13, p2.2)
  else
    some (-2, p2.2)
theorem t_qM_fits {Ls : Nat} {xs : Nat → Int32} {d : Nat} {x1 : Int32} {x2 : Int32} {x3 : Int32} {h : zK} {p : Int32 × zK} (H : qM_fits x1 x2 x3 h = some p) : zEv (zXs Ls xs) (d + 6) zm_237 (0, [some (.ref 215), some (.int x1), some (.int x2), some (.int x3)], [], zhp h) (some (.int p.1), zhp p.2) := by
  unfold qM_fits at H
  obtain ⟨h1, eh1, H⟩ := zlets H
  refine zEv_w (F := fun z => (5, [some (.ref 215), some (.int x1), some (.int x2), some (.int x3)], [], zhp z)) (h0 := sI h 215 0 0) 3 rfl eh1 ?_
  refine zEv_k 3 (f' := (8, [some (.ref 215), some (.int x1), some (.int x2), some (.int x3)], [.int x2, .int x1, .ref 215], zhp h1)) rfl ?_
  obtain ⟨p2, hp2, H⟩ := zbs H
  refine zEv_c (fun _ => rfl) rfl (t_qM_layLog (x1 := x1) (x2 := x2) (h := h1) (d := d) hp2) rfl rfl ?_
  refine zEv_k 1 (f' := (if ¬ p2.1 = 0 then 17 else 14, [some (.ref 215), some (.int x1), some (.int x2), some (.int x3)], [], zhp p2.2)) rfl (zEv_if (fun c3 => ?_) (fun c3 => ?_))
  · replace H := zif_t c3 H
    refine zEv_k 3 (f' := (if x3 < 10 then 49 else 23, [some (.ref 215), some (.int x1), some (.int x2), some (.int x3)], [], zhp p2.2)) rfl (zEv_if (fun c4 => ?_) (fun c4 => ?_))
    · replace H := zif_t c4 H
      refine zEv_k 1 (f' := (50, [some (.ref 215), some (.int x1), some (.int x2), some (.int x3)], [.int x3], zhp p2.2)) rfl ?_
      refine zEv_ts rfl (by decide) (by decide) (by decide) (fun hh => ?_) (fun j hj hh => ?_)
      · replace H := zif_f (fun e => (by rw [e] at hh; exact absurd hh (by decide))) H
        replace H := zif_f (fun e => (by rw [e] at hh; exact absurd hh (by decide))) H
        replace H := zif_f (fun e => (by rw [e] at hh; exact absurd hh (by decide))) H
        replace H := zif_f (fun e => (by rw [e] at hh; exact absurd hh (by decide))) H
        refine zEv_k 1 (f' := (107, [some (.ref 215), some (.int x1), some (.int x2), some (.int x3)], [.int (-2)], zhp p2.2)) rfl ?_
        cases H
        exact zEv_r rfl
      · rcases (by have hj2 : j < 4 := hj; omega : j = 0 ∨ j = 1 ∨ j = 2 ∨ j = 3) with rfl | rfl | rfl | rfl
        · have ex : x3 = 0 := zeqI hh (by decide)
          replace H := zif_t ex H
          refine zEv_k 2 (f' := (84, [some (.ref 215), some (.int x1), some (.int x2), some (.int x3)], [.int (gI p2.2 215 46)], zhp p2.2)) rfl ?_
          cases H
          exact zEv_r rfl
        · have ex : x3 = 1 := zeqI hh (by decide)
          replace H := zif_f (fun e => by rw [ex] at e; exact absurd e (by decide)) H
          replace H := zif_t ex H
          obtain ⟨v6, hv6, H⟩ := zlets H
          have kv6 : zEv (zXs Ls xs) (d + 6) zm_237 (96, [some (.ref 215), some (.int x1), some (.int x2), some (.int x3)], [.int v6, .ref 215], zhp p2.2) (some (.int p.1), zhp p.2) := by
            obtain ⟨p7, hp7, H⟩ := zbs H
            refine zEv_c (fun _ => rfl) rfl (t_qM_sure (x1 := v6) (h := p2.2) (d := d + 5) hp7) rfl rfl ?_
            cases H
            exact zEv_r rfl
          clear H
          refine zEv_k 4 (f' := (if ¬ x3 = 1 then 95 else 91, [some (.ref 215), some (.int x1), some (.int x2), some (.int x3)], [.ref 215], zhp p2.2)) rfl (zEv_if (fun c5 => ?_) (fun c5 => ?_))
          · replace hv6 := zif_t c5 hv6
            refine zEv_k 1 (f' := (96, [some (.ref 215), some (.int x1), some (.int x2), some (.int x3)], [.int 0, .ref 215], zhp p2.2)) rfl ?_
            cases hv6
            exact kv6
          · replace hv6 := zif_f c5 hv6
            refine zEv_k 2 (f' := (96, [some (.ref 215), some (.int x1), some (.int x2), some (.int x3)], [.int 1, .ref 215], zhp p2.2)) rfl ?_
            cases hv6
            exact kv6
        · have ex : x3 = 2 := zeqI hh (by decide)
          replace H := zif_f (fun e => by rw [ex] at e; exact absurd e (by decide)) H
          replace H := zif_f (fun e => by rw [ex] at e; exact absurd e (by decide)) H
          replace H := zif_t ex H
          obtain ⟨v9, hv9, H⟩ := zlets H
          have kv9 : zEv (zXs Ls xs) (d + 6) zm_237 (96, [some (.ref 215), some (.int x1), some (.int x2), some (.int x3)], [.int v9, .ref 215], zhp p2.2) (some (.int p.1), zhp p.2) := by
            obtain ⟨p10, hp10, H⟩ := zbs H
            refine zEv_c (fun _ => rfl) rfl (t_qM_sure (x1 := v9) (h := p2.2) (d := d + 5) hp10) rfl rfl ?_
            cases H
            exact zEv_r rfl
          clear H
          refine zEv_k 4 (f' := (if ¬ x3 = 1 then 95 else 91, [some (.ref 215), some (.int x1), some (.int x2), some (.int x3)], [.ref 215], zhp p2.2)) rfl (zEv_if (fun c8 => ?_) (fun c8 => ?_))
          · replace hv9 := zif_t c8 hv9
            refine zEv_k 1 (f' := (96, [some (.ref 215), some (.int x1), some (.int x2), some (.int x3)], [.int 0, .ref 215], zhp p2.2)) rfl ?_
            cases hv9
            exact kv9
          · replace hv9 := zif_f c8 hv9
            refine zEv_k 2 (f' := (96, [some (.ref 215), some (.int x1), some (.int x2), some (.int x3)], [.int 1, .ref 215], zhp p2.2)) rfl ?_
            cases hv9
            exact kv9
        · have ex : x3 = 3 := zeqI hh (by decide)
          replace H := zif_f (fun e => by rw [ex] at e; exact absurd e (by decide)) H
          replace H := zif_f (fun e => by rw [ex] at e; exact absurd e (by decide)) H
          replace H := zif_f (fun e => by rw [ex] at e; exact absurd e (by decide)) H
          replace H := zif_t ex H
          refine zEv_k 1 (f' := (101, [some (.ref 215), some (.int x1), some (.int x2), some (.int x3)], [.ref 215], zhp p2.2)) rfl ?_
          obtain ⟨p11, hp11, H⟩ := zbs H
          refine zEv_c (fun _ => rfl) rfl (t_qM_ask (h := p2.2) (d := d + 3) hp11) rfl rfl ?_
          cases H
          exact zEv_r rfl
    · replace H := zif_f c4 H
      refine zEv_k 6 (f' := (if (gI p2.2 215 46) ≤ (x3 - 10) then 46 else 34, [some (.ref 215), some (.int x1), some (.int x2), some (.int x3)], [], zhp p2.2)) rfl (zEv_if (fun c12 => ?_) (fun c12 => ?_))
      · replace H := zif_t c12 H
        refine zEv_k 1 (f' := (48, [some (.ref 215), some (.int x1), some (.int x2), some (.int x3)], [.int (-2)], zhp p2.2)) rfl ?_
        cases H
        exact zEv_r rfl
      · replace H := zif_f c12 H
        refine zEv_k 1 (f' := (35, [some (.ref 215), some (.int x1), some (.int x2), some (.int x3)], [.ref 215], zhp p2.2)) rfl ?_
        refine zRgr rfl rfl rfl (by decide) (b := 234) rfl ?_
        refine zEv_k 3 (f' := (42, [some (.ref 215), some (.int x1), some (.int x2), some (.int x3)], [.int (x3 - 10), .ref 234], zhp p2.2)) rfl ?_
        obtain ⟨j13, hj13, H⟩ := zbs H
        refine zRia rfl rfl (by decide) hj13 ?_
        refine zEv_k 1 (f' := (48, [some (.ref 215), some (.int x1), some (.int x2), some (.int x3)], [.int (gI p2.2 234 j13)], zhp p2.2)) rfl ?_
        cases H
        exact zEv_r rfl
  · replace H := zif_f c3 H
    refine zEv_k 1 (f' := (16, [some (.ref 215), some (.int x1), some (.int x2), some (.int x3)], [.int (-2)], zhp p2.2)) rfl ?_
    cases H
    exact zEv_r rfl
def qM_draw (x1 : Int32) (h : zK) : Option (Int32 × zK) :=
  zlet (sI h 215 47 (((gI h 215 47) * 1103515245) + 12345)) fun h1 =>
  if ¬ x1 = 0 then
    some (((Int32.toUInt32 (gI h1 215 47) >>> (Int32.toUInt32 16 &&& Int32.toUInt32 31)).toInt32) - ((Int32.toUInt32 (gI h1 215 47) >>> (Int32.toUInt32 16 &&& Int32.toUInt32 31)).toInt32) / x1 * x1, h1)
  else none
theorem t_qM_draw {Ls : Nat} {xs : Nat → Int32} {d : Nat} {x1 : Int32} {h : zK} {p : Int32 × zK} (H : qM_draw x1 h = some p) : zEv (zXs Ls xs) d zm_238 (0, [some (.ref 215), some (.int x1)], [], zhp h) (some (.int p.1), zhp p.2) := by
  unfold qM_draw at H
  obtain ⟨h1, eh1, H⟩ := zlets H
  refine zEv_w (F := fun z => (16, [some (.ref 215), some (.int x1)], [], zhp z)) (h0 := sI h 215 47 (((gI h 215 47) * 1103515245) + 12345)) 8 rfl eh1 ?_
  refine zEv_k 5 (f' := (24, [some (.ref 215), some (.int x1)], [.int x1, .int ((Int32.toUInt32 (gI h1 215 47) >>> (Int32.toUInt32 16 &&& Int32.toUInt32 31)).toInt32)], zhp h1)) rfl ?_
  obtain ⟨c2, H⟩ := zifn H
  refine zEv_rem rfl c2 ?_
  cases H
  exact zEv_r rfl
def qM_drawDeed (h : zK) : Option (zK) :=
  (qM_draw 10 h).bind fun p1 =>
  if 4 ≤ p1.1 then
    if (gI p1.2 215 23) ≤ 0 then
      some p1.2
    else
      (qM_draw (gI p1.2 215 23) p1.2).bind fun p4 =>
      Option.bind (
          if p1.1 ≤ 7 then
            some (-1, p4.2)
          else
            (qM_draw 21 p4.2).bind fun p7 =>
            some (p7.1, p7.2)
        ) fun (v6 : Int32 × zK) =>
      zlet (
          if 6 ≤ p1.1 then
            if ¬ p1.1 = 6 then
              if ¬ p1.1 = 7 then
                4
              else
                3
            else
              2
          else
            1
        ) fun (v9 : Int32) =>
      (qM_does v9 p4.1 v6.1 v6.2).bind fun p12 =>
      some p12.2
  else
    (qM_does 0 (-1) (-1) p1.2).bind fun p13 =>
    some p13.2
theorem t_qM_drawDeed {Ls : Nat} {xs : Nat → Int32} {d : Nat} {h : zK} {p : zK} (H : qM_drawDeed h = some p) : zEv (zXs Ls xs) (d + 5) zm_239 (0, [some (.ref 215), none, none, none], [], zhp h) (none, zhp p) := by
  unfold qM_drawDeed at H
  refine zEv_k 2 (f' := (3, [some (.ref 215), none, none, none], [.int 10, .ref 215], zhp h)) rfl ?_
  obtain ⟨p1, hp1, H⟩ := zbs H
  refine zEv_c (fun _ => rfl) rfl (t_qM_draw (x1 := 10) (h := h) (d := d + 4) hp1) rfl rfl ?_
  refine zEv_k 4 (f' := (if 4 ≤ p1.1 then 23 else 12, [some (.ref 215), some (.int p1.1), none, none], [], zhp p1.2)) rfl (zEv_if (fun c2 => ?_) (fun c2 => ?_))
  · replace H := zif_t c2 H
    refine zEv_k 3 (f' := (if (gI p1.2 215 23) ≤ 0 then 94 else 30, [some (.ref 215), some (.int p1.1), none, none], [], zhp p1.2)) rfl (zEv_if (fun c3 => ?_) (fun c3 => ?_))
    · replace H := zif_t c3 H
      cases H
      exact zEv_r rfl
    · replace H := zif_f c3 H
      refine zEv_k 3 (f' := (35, [some (.ref 215), some (.int p1.1), none, none], [.int (gI p1.2 215 23), .ref 215], zhp p1.2)) rfl ?_
      obtain ⟨p4, hp4, H⟩ := zbs H
      refine zEv_c (fun _ => rfl) rfl (t_qM_draw (x1 := gI p1.2 215 23) (h := p1.2) (d := d + 4) hp4) rfl rfl ?_
      obtain ⟨v6, hv6, H⟩ := zbs H
      have kv6 : zEv (zXs Ls xs) (d + 5) zm_239 (55, [some (.ref 215), some (.int p1.1), some (.int p4.1), none], [.int v6.1], zhp v6.2) (none, zhp p) := by
        obtain ⟨v9, hv9, H⟩ := zlets H
        have kv9 : zEv (zXs Ls xs) (d + 5) zm_239 (88, [some (.ref 215), some (.int p1.1), some (.int p4.1), some (.int v6.1)], [.int v9, .ref 215], zhp v6.2) (none, zhp p) := by
          refine zEv_k 2 (f' := (90, [some (.ref 215), some (.int p1.1), some (.int p4.1), some (.int v6.1)], [.int v6.1, .int p4.1, .int v9, .ref 215], zhp v6.2)) rfl ?_
          obtain ⟨p12, hp12, H⟩ := zbs H
          refine zEv_c (fun _ => rfl) rfl (t_qM_does (x1 := v9) (x2 := p4.1) (x3 := v6.1) (h := v6.2) (d := d) hp12) rfl rfl ?_
          refine zEv_k 1 (f' := (94, [some (.ref 215), some (.int p1.1), some (.int p4.1), some (.int v6.1)], [], zhp p12.2)) rfl ?_
          cases H
          exact zEv_r rfl
        clear H
        refine zEv_k 5 (f' := (if 6 ≤ p1.1 then 67 else 63, [some (.ref 215), some (.int p1.1), some (.int p4.1), some (.int v6.1)], [.ref 215], zhp v6.2)) rfl (zEv_if (fun c8 => ?_) (fun c8 => ?_))
        · replace hv9 := zif_t c8 hv9
          refine zEv_k 3 (f' := (if ¬ p1.1 = 6 then 77 else 73, [some (.ref 215), some (.int p1.1), some (.int p4.1), some (.int v6.1)], [.ref 215], zhp v6.2)) rfl (zEv_if (fun c10 => ?_) (fun c10 => ?_))
          · replace hv9 := zif_t c10 hv9
            refine zEv_k 3 (f' := (if ¬ p1.1 = 7 then 87 else 83, [some (.ref 215), some (.int p1.1), some (.int p4.1), some (.int v6.1)], [.ref 215], zhp v6.2)) rfl (zEv_if (fun c11 => ?_) (fun c11 => ?_))
            · replace hv9 := zif_t c11 hv9
              refine zEv_k 1 (f' := (88, [some (.ref 215), some (.int p1.1), some (.int p4.1), some (.int v6.1)], [.int 4, .ref 215], zhp v6.2)) rfl ?_
              cases hv9
              exact kv9
            · replace hv9 := zif_f c11 hv9
              refine zEv_k 2 (f' := (88, [some (.ref 215), some (.int p1.1), some (.int p4.1), some (.int v6.1)], [.int 3, .ref 215], zhp v6.2)) rfl ?_
              cases hv9
              exact kv9
          · replace hv9 := zif_f c10 hv9
            refine zEv_k 2 (f' := (88, [some (.ref 215), some (.int p1.1), some (.int p4.1), some (.int v6.1)], [.int 2, .ref 215], zhp v6.2)) rfl ?_
            cases hv9
            exact kv9
        · replace hv9 := zif_f c8 hv9
          refine zEv_k 2 (f' := (88, [some (.ref 215), some (.int p1.1), some (.int p4.1), some (.int v6.1)], [.int 1, .ref 215], zhp v6.2)) rfl ?_
          cases hv9
          exact kv9
      clear H
      refine zEv_k 4 (f' := (if p1.1 ≤ 7 then 54 else 45, [some (.ref 215), some (.int p1.1), some (.int p4.1), none], [], zhp p4.2)) rfl (zEv_if (fun c5 => ?_) (fun c5 => ?_))
      · replace hv6 := zif_t c5 hv6
        refine zEv_k 1 (f' := (55, [some (.ref 215), some (.int p1.1), some (.int p4.1), none], [.int (-1)], zhp p4.2)) rfl ?_
        cases hv6
        exact kv6
      · replace hv6 := zif_f c5 hv6
        refine zEv_k 2 (f' := (48, [some (.ref 215), some (.int p1.1), some (.int p4.1), none], [.int 21, .ref 215], zhp p4.2)) rfl ?_
        obtain ⟨p7, hp7, hv6⟩ := zbs hv6
        refine zEv_c (fun _ => rfl) rfl (t_qM_draw (x1 := 21) (h := p4.2) (d := d + 4) hp7) rfl rfl ?_
        refine zEv_k 1 (f' := (55, [some (.ref 215), some (.int p1.1), some (.int p4.1), none], [.int p7.1], zhp p7.2)) rfl ?_
        cases hv6
        exact kv6
  · replace H := zif_f c2 H
    refine zEv_k 4 (f' := (16, [some (.ref 215), some (.int p1.1), none, none], [.int (-1), .int (-1), .int 0, .ref 215], zhp p1.2)) rfl ?_
    obtain ⟨p13, hp13, H⟩ := zbs H
    refine zEv_c (fun _ => rfl) rfl (t_qM_does (x1 := 0) (x2 := -1) (x3 := -1) (h := p1.2) (d := d) hp13) rfl rfl ?_
    refine zEv_k 2 (f' := (94, [some (.ref 215), some (.int p1.1), none, none], [], zhp p13.2)) rfl ?_
    cases H
    exact zEv_r rfl
def qM_drawn_b33 (x3 : Int32) (x4 : Int32) (s : Int32 × zK) : Option ((Int32 × zK) ⊕ (zK)) :=
  if x3 ≤ s.1 then
    some (.inr s.2)
  else
    (qM_drawDeed s.2).bind fun p7 =>
    some (.inl (s.1 + 1, p7))
theorem t_qM_drawn_b33b {Ls : Nat} {xs : Nat → Int32} {d : Nat} {x3 : Int32} {x4 : Int32} {r : zA} {s : Int32 × zK} {e : (Int32 × zK) ⊕ (zK)} (H : qM_drawn_b33 x3 x4 s = some e) (K : match (generalizing := false) e with | .inl s' => ∀ (z1 : Option Value) (z2 : Option Value), zEv (zXs Ls xs) (d + 6) zm_240 (33, [some (.ref 215), z1, z2, some (.int x3), some (.int x4), some (.int s'.1)], [], zhp s'.2) r | .inr v => ∀ (z1 : Option Value) (z2 : Option Value) (z5 : Option Value), zEv (zXs Ls xs) (d + 6) zm_240 (49, [some (.ref 215), z1, z2, some (.int x3), some (.int x4), z5], [], zhp v) r) (y1 : Option Value) (y2 : Option Value) : zEv (zXs Ls xs) (d + 6) zm_240 (33, [some (.ref 215), y1, y2, some (.int x3), some (.int x4), some (.int s.1)], [], zhp s.2) r := by
  unfold qM_drawn_b33 at H
  refine zEv_k 3 (f' := (if x3 ≤ s.1 then 49 else 39, [some (.ref 215), y1, y2, some (.int x3), some (.int x4), some (.int s.1)], [], zhp s.2)) rfl (zEv_if (fun c6 => ?_) (fun c6 => ?_))
  · replace H := zif_t c6 H
    cases H
    exact K _ _ _
  · replace H := zif_f c6 H
    refine zEv_k 1 (f' := (40, [some (.ref 215), y1, y2, some (.int x3), some (.int x4), some (.int s.1)], [.ref 215], zhp s.2)) rfl ?_
    obtain ⟨p7, hp7, H⟩ := zbs H
    refine zEv_c (fun _ => rfl) rfl (t_qM_drawDeed (h := s.2) (d := d) hp7) rfl rfl ?_
    refine zEv_k 2 (f' := (33, [some (.ref 215), y1, y2, some (.int x3), some (.int x4), some (.int (s.1 + 1))], [], zhp p7)) rfl ?_
    cases H
    exact K _ _
theorem t_qM_drawn_b33 {Ls : Nat} {xs : Nat → Int32} {d : Nat} {x3 : Int32} {x4 : Int32} {r : zA} {t : zK} (K : ∀ (z1 : Option Value) (z2 : Option Value) (z5 : Option Value), zEv (zXs Ls xs) (d + 6) zm_240 (49, [some (.ref 215), z1, z2, some (.int x3), some (.int x4), z5], [], zhp t) r) (n : Nat) (s : Int32 × zK) (H : zloop (qM_drawn_b33 x3 x4) n s = some t) (y1 : Option Value) (y2 : Option Value) : zEv (zXs Ls xs) (d + 6) zm_240 (33, [some (.ref 215), y1, y2, some (.int x3), some (.int x4), some (.int s.1)], [], zhp s.2) r := by
  have Z := zloop_P (P := fun s => ∀ (y1 : Option Value) (y2 : Option Value), zEv (zXs Ls xs) (d + 6) zm_240 (33, [some (.ref 215), y1, y2, some (.int x3), some (.int x4), some (.int s.1)], [], zhp s.2) r) (b := qM_drawn_b33 x3 x4) (t := t) (fun s s2 hb hk => by intro y1 y2; exact t_qM_drawn_b33b hb hk y1 y2) (fun s hb => by intro y1 y2; exact t_qM_drawn_b33b hb K y1 y2) n s H
  exact Z y1 y2
def qM_drawn (x1 : Int32) (x2 : Int32) (x3 : Int32) (x4 : Int32) (h : zK) : Option (Int32 × zK) :=
  zlet (sI h 215 0 0) fun h1 =>
  if (zf_in x3 0 60) = 0 then
    some (-1, h1)
  else
    (qM_hand x1 h1).bind fun p3 =>
    if ¬ p3.1 = 0 then
      zlet (sI p3.2 215 47 x2) fun h5 =>
      (zloop (qM_drawn_b33 x3 x4) zfu (0, h5)).bind fun t8 =>
      (qM_ofState x4 t8).bind fun p10 =>
      some (p10, t8)
    else
      some (-1, p3.2)
theorem t_qM_drawn {Ls : Nat} {xs : Nat → Int32} {d : Nat} {x1 : Int32} {x2 : Int32} {x3 : Int32} {x4 : Int32} {h : zK} {p : Int32 × zK} (H : qM_drawn x1 x2 x3 x4 h = some p) : zEv (zXs Ls xs) (d + 6) zm_240 (0, [some (.ref 215), some (.int x1), some (.int x2), some (.int x3), some (.int x4), none], [], zhp h) (some (.int p.1), zhp p.2) := by
  unfold qM_drawn at H
  obtain ⟨h1, eh1, H⟩ := zlets H
  refine zEv_w (F := fun z => (5, [some (.ref 215), some (.int x1), some (.int x2), some (.int x3), some (.int x4), none], [], zhp z)) (h0 := sI h 215 0 0) 3 rfl eh1 ?_
  refine zEv_k 3 (f' := (9, [some (.ref 215), some (.int x1), some (.int x2), some (.int x3), some (.int x4), none], [.int 60, .int 0, .int x3], zhp h1)) rfl ?_
  refine zEv_c (fun _ => rfl) rfl ev_zf_in rfl rfl ?_
  refine zEv_k 1 (f' := (if (zf_in x3 0 60) = 0 then 23 else 15, [some (.ref 215), some (.int x1), some (.int x2), some (.int x3), some (.int x4), none], [], zhp h1)) rfl (zEv_if (fun c2 => ?_) (fun c2 => ?_))
  · replace H := zif_t c2 H
    refine zEv_k 1 (f' := (24, [some (.ref 215), some (.int x1), some (.int x2), some (.int x3), some (.int x4), none], [.int (-1)], zhp h1)) rfl ?_
    cases H
    exact zEv_r rfl
  · replace H := zif_f c2 H
    refine zEv_k 2 (f' := (17, [some (.ref 215), some (.int x1), some (.int x2), some (.int x3), some (.int x4), none], [.int x1, .ref 215], zhp h1)) rfl ?_
    obtain ⟨p3, hp3, H⟩ := zbs H
    refine zEv_c (fun _ => rfl) rfl (t_qM_hand (x1 := x1) (h := h1) (d := d + 3) hp3) rfl rfl ?_
    refine zEv_k 1 (f' := (if ¬ p3.1 = 0 then 25 else 23, [some (.ref 215), some (.int x1), some (.int x2), some (.int x3), some (.int x4), none], [], zhp p3.2)) rfl (zEv_if (fun c4 => ?_) (fun c4 => ?_))
    · replace H := zif_t c4 H
      obtain ⟨h5, eh5, H⟩ := zlets H
      refine zEv_w (F := fun z => (30, [some (.ref 215), some (.int x1), some (.int x2), some (.int x3), some (.int x4), none], [], zhp z)) (h0 := sI p3.2 215 47 x2) 3 rfl eh5 ?_
      refine zEv_k 2 (f' := (33, [some (.ref 215), some (.int x1), some (.int x2), some (.int x3), some (.int x4), some (.int 0)], [], zhp h5)) rfl ?_
      obtain ⟨t8, ht8, H⟩ := zbs H
      refine t_qM_drawn_b33 (x3 := x3) (x4 := x4) ?_ zfu _ ht8 _ _
      intro y1 y2 y5
      refine zEv_k 2 (f' := (52, [some (.ref 215), y1, y2, some (.int x3), some (.int x4), y5], [.int x4, .ref 215], zhp t8)) rfl ?_
      obtain ⟨p10, hp10, H⟩ := zbs H
      refine zEv_c (fun _ => rfl) rfl (t_qM_ofState (x1 := x4) (h := t8) (d := d + 5) hp10) rfl rfl ?_
      cases H
      exact zEv_r rfl
    · replace H := zif_f c4 H
      refine zEv_k 1 (f' := (24, [some (.ref 215), some (.int x1), some (.int x2), some (.int x3), some (.int x4), none], [.int (-1)], zhp p3.2)) rfl ?_
      cases H
      exact zEv_r rfl
def qM_wittiest_b4 (h : zK) (s : Int32 × Int32) : Option ((Int32 × Int32) ⊕ (Int32)) :=
  if (gI h 215 23) ≤ s.2 then
    some (.inr s.1)
  else
    Option.bind (
        if s.1 = (-1) then
          some s.2
        else
          (qM_of (3 + s.2) h).bind fun p4 =>
          (qM_of (3 + s.1) h).bind fun p5 =>
          if p4 ≤ p5 then
            some s.1
          else
            some s.2
      ) fun (v3 : Int32) =>
    some (.inl (v3, s.2 + 1))
theorem t_qM_wittiest_b4b {Ls : Nat} {xs : Nat → Int32} {d : Nat} {h : zK} {r : zA} {s : Int32 × Int32} {e : (Int32 × Int32) ⊕ (Int32)} (H : qM_wittiest_b4 h s = some e) (K : match (generalizing := false) e with | .inl s' => zEv (zXs Ls xs) (d + 1) zm_241 (4, [some (.ref 215), some (.int s'.1), some (.int s'.2)], [], zhp h) r | .inr v => ∀ (z2 : Option Value), zEv (zXs Ls xs) (d + 1) zm_241 (46, [some (.ref 215), some (.int v), z2], [], zhp h) r) : zEv (zXs Ls xs) (d + 1) zm_241 (4, [some (.ref 215), some (.int s.1), some (.int s.2)], [], zhp h) r := by
  unfold qM_wittiest_b4 at H
  refine zEv_k 4 (f' := (if (gI h 215 23) ≤ s.2 then 46 else 12, [some (.ref 215), some (.int s.1), some (.int s.2)], [], zhp h)) rfl (zEv_if (fun c1 => ?_) (fun c1 => ?_))
  · replace H := zif_t c1 H
    cases H
    exact K _
  · replace H := zif_f c1 H
    obtain ⟨v3, hv3, H⟩ := zbs H
    have kv3 : zEv (zXs Ls xs) (d + 1) zm_241 (39, [some (.ref 215), some (.int s.1), some (.int s.2)], [.int v3], zhp h) r := by
      refine zEv_k 3 (f' := (4, [some (.ref 215), some (.int v3), some (.int (s.2 + 1))], [], zhp h)) rfl ?_
      cases H
      exact K
    clear H
    refine zEv_k 3 (f' := (if s.1 = (-1) then 34 else 17, [some (.ref 215), some (.int s.1), some (.int s.2)], [], zhp h)) rfl (zEv_if (fun c2 => ?_) (fun c2 => ?_))
    · replace hv3 := zif_t c2 hv3
      refine zEv_k 2 (f' := (39, [some (.ref 215), some (.int s.1), some (.int s.2)], [.int s.2], zhp h)) rfl ?_
      cases hv3
      exact kv3
    · replace hv3 := zif_f c2 hv3
      refine zEv_k 4 (f' := (21, [some (.ref 215), some (.int s.1), some (.int s.2)], [.int (3 + s.2), .ref 215], zhp h)) rfl ?_
      obtain ⟨p4, hp4, hv3⟩ := zbs hv3
      refine zEv_c (fun _ => rfl) rfl (t_qM_of (x1 := 3 + s.2) (h := h) (d := d) hp4) rfl rfl ?_
      refine zEv_k 4 (f' := (28, [some (.ref 215), some (.int s.1), some (.int s.2)], [.int (3 + s.1), .ref 215, .int p4], zhp h)) rfl ?_
      obtain ⟨p5, hp5, hv3⟩ := zbs hv3
      refine zEv_c (fun _ => rfl) rfl (t_qM_of (x1 := 3 + s.1) (h := h) (d := d) hp5) rfl rfl ?_
      refine zEv_k 1 (f' := (if p4 ≤ p5 then 38 else 34, [some (.ref 215), some (.int s.1), some (.int s.2)], [], zhp h)) rfl (zEv_if (fun c6 => ?_) (fun c6 => ?_))
      · replace hv3 := zif_t c6 hv3
        refine zEv_k 1 (f' := (39, [some (.ref 215), some (.int s.1), some (.int s.2)], [.int s.1], zhp h)) rfl ?_
        cases hv3
        exact kv3
      · replace hv3 := zif_f c6 hv3
        refine zEv_k 2 (f' := (39, [some (.ref 215), some (.int s.1), some (.int s.2)], [.int s.2], zhp h)) rfl ?_
        cases hv3
        exact kv3
theorem t_qM_wittiest_b4 {Ls : Nat} {xs : Nat → Int32} {d : Nat} {h : zK} {r : zA} {t : Int32} (K : ∀ (z2 : Option Value), zEv (zXs Ls xs) (d + 1) zm_241 (46, [some (.ref 215), some (.int t), z2], [], zhp h) r) (n : Nat) (s : Int32 × Int32) (H : zloop (qM_wittiest_b4 h) n s = some t) : zEv (zXs Ls xs) (d + 1) zm_241 (4, [some (.ref 215), some (.int s.1), some (.int s.2)], [], zhp h) r := by
  have Z := zloop_P (P := fun s => zEv (zXs Ls xs) (d + 1) zm_241 (4, [some (.ref 215), some (.int s.1), some (.int s.2)], [], zhp h) r) (b := qM_wittiest_b4 h) (t := t) (fun s s2 hb hk => by exact t_qM_wittiest_b4b hb hk) (fun s hb => by exact t_qM_wittiest_b4b hb K) n s H
  exact Z
def qM_wittiest (h : zK) : Option (Int32) :=
  (zloop (qM_wittiest_b4 h) zfu (-1, 0)).bind fun t7 =>
  some t7
theorem t_qM_wittiest {Ls : Nat} {xs : Nat → Int32} {d : Nat} {h : zK} {p : Int32} (H : qM_wittiest h = some p) : zEv (zXs Ls xs) (d + 1) zm_241 (0, [some (.ref 215), none, none], [], zhp h) (some (.int p), zhp h) := by
  unfold qM_wittiest at H
  refine zEv_k 4 (f' := (4, [some (.ref 215), some (.int (-1)), some (.int 0)], [], zhp h)) rfl ?_
  obtain ⟨t7, ht7, H⟩ := zbs H
  refine t_qM_wittiest_b4 (h := h) ?_ zfu _ ht7
  intro y2
  refine zEv_k 1 (f' := (47, [some (.ref 215), some (.int t7), y2], [.int t7], zhp h)) rfl ?_
  cases H
  exact zEv_r rfl
def qM_witsOf_b4 (x1 : Int32) (h : zK) (s : Int32 × Int32) : Option ((Int32 × Int32) ⊕ (Int32)) :=
  if (gI h 215 23) ≤ s.2 then
    some (.inr s.1)
  else
    Option.bind (
        if (zf_has x1 s.2) = 0 then
          some 0
        else
          (qM_of (3 + s.2) h).bind fun p4 =>
          some p4
      ) fun (v3 : Int32) =>
    some (.inl (s.1 + v3, s.2 + 1))
theorem t_qM_witsOf_b4b {Ls : Nat} {xs : Nat → Int32} {d : Nat} {x1 : Int32} {h : zK} {r : zA} {s : Int32 × Int32} {e : (Int32 × Int32) ⊕ (Int32)} (H : qM_witsOf_b4 x1 h s = some e) (K : match (generalizing := false) e with | .inl s' => zEv (zXs Ls xs) (d + 1) zm_242 (4, [some (.ref 215), some (.int x1), some (.int s'.1), some (.int s'.2)], [], zhp h) r | .inr v => ∀ (z3 : Option Value), zEv (zXs Ls xs) (d + 1) zm_242 (40, [some (.ref 215), some (.int x1), some (.int v), z3], [], zhp h) r) : zEv (zXs Ls xs) (d + 1) zm_242 (4, [some (.ref 215), some (.int x1), some (.int s.1), some (.int s.2)], [], zhp h) r := by
  unfold qM_witsOf_b4 at H
  refine zEv_k 4 (f' := (if (gI h 215 23) ≤ s.2 then 40 else 12, [some (.ref 215), some (.int x1), some (.int s.1), some (.int s.2)], [], zhp h)) rfl (zEv_if (fun c1 => ?_) (fun c1 => ?_))
  · replace H := zif_t c1 H
    cases H
    exact K _
  · replace H := zif_f c1 H
    obtain ⟨v3, hv3, H⟩ := zbs H
    have kv3 : zEv (zXs Ls xs) (d + 1) zm_242 (32, [some (.ref 215), some (.int x1), some (.int s.1), some (.int s.2)], [.int v3, .int s.1], zhp h) r := by
      refine zEv_k 4 (f' := (4, [some (.ref 215), some (.int x1), some (.int (s.1 + v3)), some (.int (s.2 + 1))], [], zhp h)) rfl ?_
      cases H
      exact K
    clear H
    refine zEv_k 3 (f' := (15, [some (.ref 215), some (.int x1), some (.int s.1), some (.int s.2)], [.int s.2, .int x1, .int s.1], zhp h)) rfl ?_
    refine zEv_c (fun _ => rfl) rfl ev_zf_has rfl rfl ?_
    refine zEv_k 1 (f' := (if (zf_has x1 s.2) = 0 then 31 else 21, [some (.ref 215), some (.int x1), some (.int s.1), some (.int s.2)], [.int s.1], zhp h)) rfl (zEv_if (fun c2 => ?_) (fun c2 => ?_))
    · replace hv3 := zif_t c2 hv3
      refine zEv_k 1 (f' := (32, [some (.ref 215), some (.int x1), some (.int s.1), some (.int s.2)], [.int 0, .int s.1], zhp h)) rfl ?_
      cases hv3
      exact kv3
    · replace hv3 := zif_f c2 hv3
      refine zEv_k 4 (f' := (25, [some (.ref 215), some (.int x1), some (.int s.1), some (.int s.2)], [.int (3 + s.2), .ref 215, .int s.1], zhp h)) rfl ?_
      obtain ⟨p4, hp4, hv3⟩ := zbs hv3
      refine zEv_c (fun _ => rfl) rfl (t_qM_of (x1 := 3 + s.2) (h := h) (d := d) hp4) rfl rfl ?_
      refine zEv_k 1 (f' := (32, [some (.ref 215), some (.int x1), some (.int s.1), some (.int s.2)], [.int p4, .int s.1], zhp h)) rfl ?_
      cases hv3
      exact kv3
theorem t_qM_witsOf_b4 {Ls : Nat} {xs : Nat → Int32} {d : Nat} {x1 : Int32} {h : zK} {r : zA} {t : Int32} (K : ∀ (z3 : Option Value), zEv (zXs Ls xs) (d + 1) zm_242 (40, [some (.ref 215), some (.int x1), some (.int t), z3], [], zhp h) r) (n : Nat) (s : Int32 × Int32) (H : zloop (qM_witsOf_b4 x1 h) n s = some t) : zEv (zXs Ls xs) (d + 1) zm_242 (4, [some (.ref 215), some (.int x1), some (.int s.1), some (.int s.2)], [], zhp h) r := by
  have Z := zloop_P (P := fun s => zEv (zXs Ls xs) (d + 1) zm_242 (4, [some (.ref 215), some (.int x1), some (.int s.1), some (.int s.2)], [], zhp h) r) (b := qM_witsOf_b4 x1 h) (t := t) (fun s s2 hb hk => by exact t_qM_witsOf_b4b hb hk) (fun s hb => by exact t_qM_witsOf_b4b hb K) n s H
  exact Z
def qM_witsOf (x1 : Int32) (h : zK) : Option (Int32) :=
  (zloop (qM_witsOf_b4 x1 h) zfu (0, 0)).bind fun t5 =>
  some t5
theorem t_qM_witsOf {Ls : Nat} {xs : Nat → Int32} {d : Nat} {x1 : Int32} {h : zK} {p : Int32} (H : qM_witsOf x1 h = some p) : zEv (zXs Ls xs) (d + 1) zm_242 (0, [some (.ref 215), some (.int x1), none, none], [], zhp h) (some (.int p), zhp h) := by
  unfold qM_witsOf at H
  refine zEv_k 4 (f' := (4, [some (.ref 215), some (.int x1), some (.int 0), some (.int 0)], [], zhp h)) rfl ?_
  obtain ⟨t5, ht5, H⟩ := zbs H
  refine t_qM_witsOf_b4 (x1 := x1) (h := h) ?_ zfu _ ht5
  intro y3
  refine zEv_k 1 (f' := (41, [some (.ref 215), some (.int x1), some (.int t5), y3], [.int t5], zhp h)) rfl ?_
  cases H
  exact zEv_r rfl
def qM_liveliest_b8 (h : zK) (s : Int32 × Int32 × Int32) : Option ((Int32 × Int32 × Int32) ⊕ (Int32)) :=
  if (gI h 215 23) ≤ s.2.2 then
    some (.inr s.1)
  else
    (qM_of (17 + s.2.2) h).bind fun p2 =>
    (qM_of (31 + s.2.2) h).bind fun p3 =>
    zlet (
        if (p2 - p3) ≤ s.2.1 then
          s.1
        else
          s.2.2
      ) fun (v5 : Int32) =>
    some (.inl (v5, zf_greater s.2.1 (p2 - p3), s.2.2 + 1))
theorem t_qM_liveliest_b8b {Ls : Nat} {xs : Nat → Int32} {d : Nat} {h : zK} {r : zA} {s : Int32 × Int32 × Int32} {e : (Int32 × Int32 × Int32) ⊕ (Int32)} (H : qM_liveliest_b8 h s = some e) (K : match (generalizing := false) e with | .inl s' => ∀ (z4 : Option Value), zEv (zXs Ls xs) (d + 1) zm_243 (8, [some (.ref 215), some (.int s'.1), some (.int s'.2.1), some (.int s'.2.2), z4], [], zhp h) r | .inr v => ∀ (z2 : Option Value) (z3 : Option Value) (z4 : Option Value), zEv (zXs Ls xs) (d + 1) zm_243 (60, [some (.ref 215), some (.int v), z2, z3, z4], [], zhp h) r) (y4 : Option Value) : zEv (zXs Ls xs) (d + 1) zm_243 (8, [some (.ref 215), some (.int s.1), some (.int s.2.1), some (.int s.2.2), y4], [], zhp h) r := by
  unfold qM_liveliest_b8 at H
  refine zEv_k 4 (f' := (if (gI h 215 23) ≤ s.2.2 then 60 else 16, [some (.ref 215), some (.int s.1), some (.int s.2.1), some (.int s.2.2), y4], [], zhp h)) rfl (zEv_if (fun c1 => ?_) (fun c1 => ?_))
  · replace H := zif_t c1 H
    cases H
    exact K _ _ _
  · replace H := zif_f c1 H
    refine zEv_k 4 (f' := (21, [some (.ref 215), some (.int s.1), some (.int s.2.1), some (.int s.2.2), y4], [.int (17 + s.2.2), .ref 215], zhp h)) rfl ?_
    obtain ⟨p2, hp2, H⟩ := zbs H
    refine zEv_c (fun _ => rfl) rfl (t_qM_of (x1 := 17 + s.2.2) (h := h) (d := d) hp2) rfl rfl ?_
    refine zEv_k 4 (f' := (29, [some (.ref 215), some (.int s.1), some (.int s.2.1), some (.int s.2.2), y4], [.int (31 + s.2.2), .ref 215, .int p2], zhp h)) rfl ?_
    obtain ⟨p3, hp3, H⟩ := zbs H
    refine zEv_c (fun _ => rfl) rfl (t_qM_of (x1 := 31 + s.2.2) (h := h) (d := d) hp3) rfl rfl ?_
    obtain ⟨v5, hv5, H⟩ := zlets H
    have kv5 : zEv (zXs Ls xs) (d + 1) zm_243 (46, [some (.ref 215), some (.int s.1), some (.int s.2.1), some (.int s.2.2), some (.int (p2 - p3))], [.int v5], zhp h) r := by
      refine zEv_k 3 (f' := (50, [some (.ref 215), some (.int v5), some (.int s.2.1), some (.int s.2.2), some (.int (p2 - p3))], [.int (p2 - p3), .int s.2.1], zhp h)) rfl ?_
      refine zEv_c (fun _ => rfl) rfl ev_zf_greater rfl rfl ?_
      refine zEv_k 3 (f' := (8, [some (.ref 215), some (.int v5), some (.int (zf_greater s.2.1 (p2 - p3))), some (.int (s.2.2 + 1)), some (.int (p2 - p3))], [], zhp h)) rfl ?_
      cases H
      exact K _
    clear H
    refine zEv_k 5 (f' := (if (p2 - p3) ≤ s.2.1 then 45 else 41, [some (.ref 215), some (.int s.1), some (.int s.2.1), some (.int s.2.2), some (.int (p2 - p3))], [], zhp h)) rfl (zEv_if (fun c4 => ?_) (fun c4 => ?_))
    · replace hv5 := zif_t c4 hv5
      refine zEv_k 1 (f' := (46, [some (.ref 215), some (.int s.1), some (.int s.2.1), some (.int s.2.2), some (.int (p2 - p3))], [.int s.1], zhp h)) rfl ?_
      cases hv5
      exact kv5
    · replace hv5 := zif_f c4 hv5
      refine zEv_k 2 (f' := (46, [some (.ref 215), some (.int s.1), some (.int s.2.1), some (.int s.2.2), some (.int (p2 - p3))], [.int s.2.2], zhp h)) rfl ?_
      cases hv5
      exact kv5
theorem t_qM_liveliest_b8 {Ls : Nat} {xs : Nat → Int32} {d : Nat} {h : zK} {r : zA} {t : Int32} (K : ∀ (z2 : Option Value) (z3 : Option Value) (z4 : Option Value), zEv (zXs Ls xs) (d + 1) zm_243 (60, [some (.ref 215), some (.int t), z2, z3, z4], [], zhp h) r) (n : Nat) (s : Int32 × Int32 × Int32) (H : zloop (qM_liveliest_b8 h) n s = some t) (y4 : Option Value) : zEv (zXs Ls xs) (d + 1) zm_243 (8, [some (.ref 215), some (.int s.1), some (.int s.2.1), some (.int s.2.2), y4], [], zhp h) r := by
  have Z := zloop_P (P := fun s => ∀ (y4 : Option Value), zEv (zXs Ls xs) (d + 1) zm_243 (8, [some (.ref 215), some (.int s.1), some (.int s.2.1), some (.int s.2.2), y4], [], zhp h) r) (b := qM_liveliest_b8 h) (t := t) (fun s s2 hb hk => by intro y4; exact t_qM_liveliest_b8b hb hk y4) (fun s hb => by intro y4; exact t_qM_liveliest_b8b hb K y4) n s H
  exact Z y4
def qM_liveliest (h : zK) : Option (Int32) :=
  (zloop (qM_liveliest_b8 h) zfu (-1, -1000000, 0)).bind fun t6 =>
  some t6
theorem t_qM_liveliest {Ls : Nat} {xs : Nat → Int32} {d : Nat} {h : zK} {p : Int32} (H : qM_liveliest h = some p) : zEv (zXs Ls xs) (d + 1) zm_243 (0, [some (.ref 215), none, none, none, none], [], zhp h) (some (.int p), zhp h) := by
  unfold qM_liveliest at H
  refine zEv_k 6 (f' := (8, [some (.ref 215), some (.int (-1)), some (.int (-1000000)), some (.int 0), none], [], zhp h)) rfl ?_
  obtain ⟨t6, ht6, H⟩ := zbs H
  refine t_qM_liveliest_b8 (h := h) ?_ zfu _ ht6 _
  intro y2 y3 y4
  refine zEv_k 1 (f' := (61, [some (.ref 215), some (.int t6), y2, y3, y4], [.int t6], zhp h)) rfl ?_
  cases H
  exact zEv_r rfl
def qM_ruin_b7 (x1 : Int32) (s : Int32 × Int32 × Int32 × zK) : Option ((Int32 × Int32 × Int32 × zK) ⊕ (Int32 × Int32 × zK)) :=
  if (gI s.2.2.2 215 23) ≤ s.2.2.1 then
    some (.inr (s.1, s.2.1, s.2.2.2))
  else
    (qM_trainOf s.2.2.1 0 s.2.2.2).bind fun p2 =>
    (qM_witsOf p2.1 p2.2).bind fun p3 =>
    zlet (
        if p3 ≤ s.2.1 then
          s.1
        else
          s.2.2.1
      ) fun (v5 : Int32) =>
    some (.inl (v5, zf_greater s.2.1 p3, s.2.2.1 + 1, p2.2))
theorem t_qM_ruin_b7b {Ls : Nat} {xs : Nat → Int32} {d : Nat} {x1 : Int32} {r : zA} {s : Int32 × Int32 × Int32 × zK} {e : (Int32 × Int32 × Int32 × zK) ⊕ (Int32 × Int32 × zK)} (H : qM_ruin_b7 x1 s = some e) (K : match (generalizing := false) e with | .inl s' => ∀ (z5 : Option Value), zEv (zXs Ls xs) (d + 4) zm_244 (7, [some (.ref 215), some (.int x1), some (.int s'.1), some (.int s'.2.1), some (.int s'.2.2.1), z5], [], zhp s'.2.2.2) r | .inr v => ∀ (z4 : Option Value) (z5 : Option Value), zEv (zXs Ls xs) (d + 4) zm_244 (55, [some (.ref 215), some (.int x1), some (.int v.1), some (.int v.2.1), z4, z5], [], zhp v.2.2) r) (y5 : Option Value) : zEv (zXs Ls xs) (d + 4) zm_244 (7, [some (.ref 215), some (.int x1), some (.int s.1), some (.int s.2.1), some (.int s.2.2.1), y5], [], zhp s.2.2.2) r := by
  unfold qM_ruin_b7 at H
  refine zEv_k 4 (f' := (if (gI s.2.2.2 215 23) ≤ s.2.2.1 then 55 else 16, [some (.ref 215), some (.int x1), some (.int s.1), some (.int s.2.1), some (.int s.2.2.1), y5], [], zhp s.2.2.2)) rfl (zEv_if (fun c1 => ?_) (fun c1 => ?_))
  · replace H := zif_t c1 H
    cases H
    exact K _ _
  · replace H := zif_f c1 H
    refine zEv_k 4 (f' := (21, [some (.ref 215), some (.int x1), some (.int s.1), some (.int s.2.1), some (.int s.2.2.1), y5], [.int 0, .int s.2.2.1, .ref 215, .ref 215], zhp s.2.2.2)) rfl ?_
    obtain ⟨p2, hp2, H⟩ := zbs H
    refine zEv_c (fun _ => rfl) rfl (t_qM_trainOf (x1 := s.2.2.1) (x2 := 0) (h := s.2.2.2) (d := d) hp2) rfl rfl ?_
    obtain ⟨p3, hp3, H⟩ := zbs H
    refine zEv_c (fun _ => rfl) rfl (t_qM_witsOf (x1 := p2.1) (h := p2.2) (d := d + 2) hp3) rfl rfl ?_
    obtain ⟨v5, hv5, H⟩ := zlets H
    have kv5 : zEv (zXs Ls xs) (d + 4) zm_244 (41, [some (.ref 215), some (.int x1), some (.int s.1), some (.int s.2.1), some (.int s.2.2.1), some (.int p3)], [.int v5], zhp p2.2) r := by
      refine zEv_k 3 (f' := (45, [some (.ref 215), some (.int x1), some (.int v5), some (.int s.2.1), some (.int s.2.2.1), some (.int p3)], [.int p3, .int s.2.1], zhp p2.2)) rfl ?_
      refine zEv_c (fun _ => rfl) rfl ev_zf_greater rfl rfl ?_
      refine zEv_k 3 (f' := (7, [some (.ref 215), some (.int x1), some (.int v5), some (.int (zf_greater s.2.1 p3)), some (.int (s.2.2.1 + 1)), some (.int p3)], [], zhp p2.2)) rfl ?_
      cases H
      exact K _
    clear H
    refine zEv_k 4 (f' := (if p3 ≤ s.2.1 then 40 else 35, [some (.ref 215), some (.int x1), some (.int s.1), some (.int s.2.1), some (.int s.2.2.1), some (.int p3)], [], zhp p2.2)) rfl (zEv_if (fun c4 => ?_) (fun c4 => ?_))
    · replace hv5 := zif_t c4 hv5
      refine zEv_k 1 (f' := (41, [some (.ref 215), some (.int x1), some (.int s.1), some (.int s.2.1), some (.int s.2.2.1), some (.int p3)], [.int s.1], zhp p2.2)) rfl ?_
      cases hv5
      exact kv5
    · replace hv5 := zif_f c4 hv5
      refine zEv_k 2 (f' := (41, [some (.ref 215), some (.int x1), some (.int s.1), some (.int s.2.1), some (.int s.2.2.1), some (.int p3)], [.int s.2.2.1], zhp p2.2)) rfl ?_
      cases hv5
      exact kv5
theorem t_qM_ruin_b7 {Ls : Nat} {xs : Nat → Int32} {d : Nat} {x1 : Int32} {r : zA} {t : Int32 × Int32 × zK} (K : ∀ (z4 : Option Value) (z5 : Option Value), zEv (zXs Ls xs) (d + 4) zm_244 (55, [some (.ref 215), some (.int x1), some (.int t.1), some (.int t.2.1), z4, z5], [], zhp t.2.2) r) (n : Nat) (s : Int32 × Int32 × Int32 × zK) (H : zloop (qM_ruin_b7 x1) n s = some t) (y5 : Option Value) : zEv (zXs Ls xs) (d + 4) zm_244 (7, [some (.ref 215), some (.int x1), some (.int s.1), some (.int s.2.1), some (.int s.2.2.1), y5], [], zhp s.2.2.2) r := by
  have Z := zloop_P (P := fun s => ∀ (y5 : Option Value), zEv (zXs Ls xs) (d + 4) zm_244 (7, [some (.ref 215), some (.int x1), some (.int s.1), some (.int s.2.1), some (.int s.2.2.1), y5], [], zhp s.2.2.2) r) (b := qM_ruin_b7 x1) (t := t) (fun s s2 hb hk => by intro y5; exact t_qM_ruin_b7b hb hk y5) (fun s hb => by intro y5; exact t_qM_ruin_b7b hb K y5) n s H
  exact Z y5
def qM_ruin (x1 : Int32) (h : zK) : Option (Int32 × zK) :=
  (zloop (qM_ruin_b7 x1) zfu (-1, -1, 0, h)).bind fun t6 =>
  if x1 = 0 then
    some (t6.1, t6.2.2)
  else
    some (zf_greater 0 t6.2.1, t6.2.2)
theorem t_qM_ruin {Ls : Nat} {xs : Nat → Int32} {d : Nat} {x1 : Int32} {h : zK} {p : Int32 × zK} (H : qM_ruin x1 h = some p) : zEv (zXs Ls xs) (d + 4) zm_244 (0, [some (.ref 215), some (.int x1), none, none, none, none], [], zhp h) (some (.int p.1), zhp p.2) := by
  unfold qM_ruin at H
  refine zEv_k 6 (f' := (7, [some (.ref 215), some (.int x1), some (.int (-1)), some (.int (-1)), some (.int 0), none], [], zhp h)) rfl ?_
  obtain ⟨t6, ht6, H⟩ := zbs H
  refine t_qM_ruin_b7 (x1 := x1) ?_ zfu _ ht6 _
  intro y4 y5
  refine zEv_k 2 (f' := (if x1 = 0 then 67 else 59, [some (.ref 215), some (.int x1), some (.int t6.1), some (.int t6.2.1), y4, y5], [], zhp t6.2.2)) rfl (zEv_if (fun c8 => ?_) (fun c8 => ?_))
  · replace H := zif_t c8 H
    refine zEv_k 1 (f' := (68, [some (.ref 215), some (.int x1), some (.int t6.1), some (.int t6.2.1), y4, y5], [.int t6.1], zhp t6.2.2)) rfl ?_
    cases H
    exact zEv_r rfl
  · replace H := zif_f c8 H
    refine zEv_k 2 (f' := (61, [some (.ref 215), some (.int x1), some (.int t6.1), some (.int t6.2.1), y4, y5], [.int t6.2.1, .int 0], zhp t6.2.2)) rfl ?_
    refine zEv_c (fun _ => rfl) rfl ev_zf_greater rfl rfl ?_
    refine zEv_k 1 (f' := (68, [some (.ref 215), some (.int x1), some (.int t6.1), some (.int t6.2.1), y4, y5], [.int (zf_greater 0 t6.2.1)], zhp t6.2.2)) rfl ?_
    cases H
    exact zEv_r rfl
def qM_close_b24 (x1 : Int32) (x4 : Int32) (h : zK) (s : Int32 × Int32 × Int32) : Option ((Int32 × Int32 × Int32) ⊕ (Int32 × Int32)) :=
  if (gI h 215 23) ≤ s.2.2 then
    some (.inr (s.1, s.2.1))
  else
    (zix x4 7).bind fun j3 =>
    (zix s.2.2 7).bind fun j4 =>
    zlet (
        if s.2.1 ≤ (zf_away (gI h 229 j3) (gI h 229 j4)) then
          s.1
        else
          (10 * x4) + s.2.2
      ) fun (v6 : Int32) =>
    some (.inl (v6, zf_lesser s.2.1 (zf_away (gI h 229 j3) (gI h 229 j4)), s.2.2 + 1))
theorem t_qM_close_b24b {Ls : Nat} {xs : Nat → Int32} {d : Nat} {x1 : Int32} {x4 : Int32} {h : zK} {r : zA} {s : Int32 × Int32 × Int32} {e : (Int32 × Int32 × Int32) ⊕ (Int32 × Int32)} (H : qM_close_b24 x1 x4 h s = some e) (K : match (generalizing := false) e with | .inl s' => ∀ (z6 : Option Value), zEv (zXs Ls xs) (d + 1) zm_245 (24, [some (.ref 215), some (.int x1), some (.int s'.1), some (.int s'.2.1), some (.int x4), some (.int s'.2.2), z6], [], zhp h) r | .inr v => ∀ (z5 : Option Value) (z6 : Option Value), zEv (zXs Ls xs) (d + 1) zm_245 (84, [some (.ref 215), some (.int x1), some (.int v.1), some (.int v.2), some (.int x4), z5, z6], [], zhp h) r) (y6 : Option Value) : zEv (zXs Ls xs) (d + 1) zm_245 (24, [some (.ref 215), some (.int x1), some (.int s.1), some (.int s.2.1), some (.int x4), some (.int s.2.2), y6], [], zhp h) r := by
  unfold qM_close_b24 at H
  refine zEv_k 4 (f' := (if (gI h 215 23) ≤ s.2.2 then 84 else 33, [some (.ref 215), some (.int x1), some (.int s.1), some (.int s.2.1), some (.int x4), some (.int s.2.2), y6], [], zhp h)) rfl (zEv_if (fun c2 => ?_) (fun c2 => ?_))
  · replace H := zif_t c2 H
    cases H
    exact K _ _
  · replace H := zif_f c2 H
    refine zEv_k 1 (f' := (34, [some (.ref 215), some (.int x1), some (.int s.1), some (.int s.2.1), some (.int x4), some (.int s.2.2), y6], [.ref 215], zhp h)) rfl ?_
    refine zRgr rfl rfl rfl (by decide) (b := 229) rfl ?_
    refine zEv_k 1 (f' := (39, [some (.ref 215), some (.int x1), some (.int s.1), some (.int s.2.1), some (.int x4), some (.int s.2.2), y6], [.int x4, .ref 229], zhp h)) rfl ?_
    obtain ⟨j3, hj3, H⟩ := zbs H
    refine zRia rfl rfl (by decide) hj3 ?_
    refine zEv_k 1 (f' := (41, [some (.ref 215), some (.int x1), some (.int s.1), some (.int s.2.1), some (.int x4), some (.int s.2.2), y6], [.ref 215, .int (gI h 229 j3)], zhp h)) rfl ?_
    refine zRgr rfl rfl rfl (by decide) (b := 229) rfl ?_
    refine zEv_k 1 (f' := (46, [some (.ref 215), some (.int x1), some (.int s.1), some (.int s.2.1), some (.int x4), some (.int s.2.2), y6], [.int s.2.2, .ref 229, .int (gI h 229 j3)], zhp h)) rfl ?_
    obtain ⟨j4, hj4, H⟩ := zbs H
    refine zRia rfl rfl (by decide) hj4 ?_
    obtain ⟨v6, hv6, H⟩ := zlets H
    have kv6 : zEv (zXs Ls xs) (d + 1) zm_245 (70, [some (.ref 215), some (.int x1), some (.int s.1), some (.int s.2.1), some (.int x4), some (.int s.2.2), some (.int (zf_away (gI h 229 j3) (gI h 229 j4)))], [.int v6], zhp h) r := by
      refine zEv_k 3 (f' := (74, [some (.ref 215), some (.int x1), some (.int v6), some (.int s.2.1), some (.int x4), some (.int s.2.2), some (.int (zf_away (gI h 229 j3) (gI h 229 j4)))], [.int (zf_away (gI h 229 j3) (gI h 229 j4)), .int s.2.1], zhp h)) rfl ?_
      refine zEv_c (fun _ => rfl) rfl ev_zf_lesser rfl rfl ?_
      refine zEv_k 3 (f' := (24, [some (.ref 215), some (.int x1), some (.int v6), some (.int (zf_lesser s.2.1 (zf_away (gI h 229 j3) (gI h 229 j4)))), some (.int x4), some (.int (s.2.2 + 1)), some (.int (zf_away (gI h 229 j3) (gI h 229 j4)))], [], zhp h)) rfl ?_
      cases H
      exact K _
    clear H
    refine zEv_c (fun _ => rfl) rfl ev_zf_away rfl rfl ?_
    refine zEv_k 4 (f' := (if s.2.1 ≤ (zf_away (gI h 229 j3) (gI h 229 j4)) then 69 else 58, [some (.ref 215), some (.int x1), some (.int s.1), some (.int s.2.1), some (.int x4), some (.int s.2.2), some (.int (zf_away (gI h 229 j3) (gI h 229 j4)))], [], zhp h)) rfl (zEv_if (fun c5 => ?_) (fun c5 => ?_))
    · replace hv6 := zif_t c5 hv6
      refine zEv_k 1 (f' := (70, [some (.ref 215), some (.int x1), some (.int s.1), some (.int s.2.1), some (.int x4), some (.int s.2.2), some (.int (zf_away (gI h 229 j3) (gI h 229 j4)))], [.int s.1], zhp h)) rfl ?_
      cases hv6
      exact kv6
    · replace hv6 := zif_f c5 hv6
      refine zEv_k 6 (f' := (70, [some (.ref 215), some (.int x1), some (.int s.1), some (.int s.2.1), some (.int x4), some (.int s.2.2), some (.int (zf_away (gI h 229 j3) (gI h 229 j4)))], [.int ((10 * x4) + s.2.2)], zhp h)) rfl ?_
      cases hv6
      exact kv6
theorem t_qM_close_b24 {Ls : Nat} {xs : Nat → Int32} {d : Nat} {x1 : Int32} {x4 : Int32} {h : zK} {r : zA} {t : Int32 × Int32} (K : ∀ (z5 : Option Value) (z6 : Option Value), zEv (zXs Ls xs) (d + 1) zm_245 (84, [some (.ref 215), some (.int x1), some (.int t.1), some (.int t.2), some (.int x4), z5, z6], [], zhp h) r) (n : Nat) (s : Int32 × Int32 × Int32) (H : zloop (qM_close_b24 x1 x4 h) n s = some t) (y6 : Option Value) : zEv (zXs Ls xs) (d + 1) zm_245 (24, [some (.ref 215), some (.int x1), some (.int s.1), some (.int s.2.1), some (.int x4), some (.int s.2.2), y6], [], zhp h) r := by
  have Z := zloop_P (P := fun s => ∀ (y6 : Option Value), zEv (zXs Ls xs) (d + 1) zm_245 (24, [some (.ref 215), some (.int x1), some (.int s.1), some (.int s.2.1), some (.int x4), some (.int s.2.2), y6], [], zhp h) r) (b := qM_close_b24 x1 x4 h) (t := t) (fun s s2 hb hk => by intro y6; exact t_qM_close_b24b hb hk y6) (fun s hb => by intro y6; exact t_qM_close_b24b hb K y6) n s H
  exact Z y6
def qM_close_b9 (x1 : Int32) (h : zK) (s : Int32 × Int32 × Int32) : Option ((Int32 × Int32 × Int32) ⊕ (Int32 × Int32)) :=
  if (gI h 215 23) ≤ s.2.2 then
    some (.inr (s.1, s.2.1))
  else
    (zloop (qM_close_b24 x1 s.2.2 h) zfu (s.1, s.2.1, s.2.2 + 1)).bind fun t7 =>
    some (.inl (t7.1, t7.2, s.2.2 + 1))
theorem t_qM_close_b9b {Ls : Nat} {xs : Nat → Int32} {d : Nat} {x1 : Int32} {h : zK} {r : zA} {s : Int32 × Int32 × Int32} {e : (Int32 × Int32 × Int32) ⊕ (Int32 × Int32)} (H : qM_close_b9 x1 h s = some e) (K : match (generalizing := false) e with | .inl s' => ∀ (z5 : Option Value) (z6 : Option Value), zEv (zXs Ls xs) (d + 1) zm_245 (9, [some (.ref 215), some (.int x1), some (.int s'.1), some (.int s'.2.1), some (.int s'.2.2), z5, z6], [], zhp h) r | .inr v => ∀ (z4 : Option Value) (z5 : Option Value) (z6 : Option Value), zEv (zXs Ls xs) (d + 1) zm_245 (90, [some (.ref 215), some (.int x1), some (.int v.1), some (.int v.2), z4, z5, z6], [], zhp h) r) (y5 : Option Value) (y6 : Option Value) : zEv (zXs Ls xs) (d + 1) zm_245 (9, [some (.ref 215), some (.int x1), some (.int s.1), some (.int s.2.1), some (.int s.2.2), y5, y6], [], zhp h) r := by
  unfold qM_close_b9 at H
  refine zEv_k 4 (f' := (if (gI h 215 23) ≤ s.2.2 then 90 else 18, [some (.ref 215), some (.int x1), some (.int s.1), some (.int s.2.1), some (.int s.2.2), y5, y6], [], zhp h)) rfl (zEv_if (fun c1 => ?_) (fun c1 => ?_))
  · replace H := zif_t c1 H
    cases H
    exact K _ _ _
  · replace H := zif_f c1 H
    refine zEv_k 4 (f' := (24, [some (.ref 215), some (.int x1), some (.int s.1), some (.int s.2.1), some (.int s.2.2), some (.int (s.2.2 + 1)), y6], [], zhp h)) rfl ?_
    obtain ⟨t7, ht7, H⟩ := zbs H
    refine t_qM_close_b24 (x1 := x1) (x4 := s.2.2) (h := h) ?_ zfu _ ht7 _
    intro y5 y6
    refine zEv_k 2 (f' := (9, [some (.ref 215), some (.int x1), some (.int t7.1), some (.int t7.2), some (.int (s.2.2 + 1)), y5, y6], [], zhp h)) rfl ?_
    cases H
    exact K _ _
theorem t_qM_close_b9 {Ls : Nat} {xs : Nat → Int32} {d : Nat} {x1 : Int32} {h : zK} {r : zA} {t : Int32 × Int32} (K : ∀ (z4 : Option Value) (z5 : Option Value) (z6 : Option Value), zEv (zXs Ls xs) (d + 1) zm_245 (90, [some (.ref 215), some (.int x1), some (.int t.1), some (.int t.2), z4, z5, z6], [], zhp h) r) (n : Nat) (s : Int32 × Int32 × Int32) (H : zloop (qM_close_b9 x1 h) n s = some t) (y5 : Option Value) (y6 : Option Value) : zEv (zXs Ls xs) (d + 1) zm_245 (9, [some (.ref 215), some (.int x1), some (.int s.1), some (.int s.2.1), some (.int s.2.2), y5, y6], [], zhp h) r := by
  have Z := zloop_P (P := fun s => ∀ (y5 : Option Value) (y6 : Option Value), zEv (zXs Ls xs) (d + 1) zm_245 (9, [some (.ref 215), some (.int x1), some (.int s.1), some (.int s.2.1), some (.int s.2.2), y5, y6], [], zhp h) r) (b := qM_close_b9 x1 h) (t := t) (fun s s2 hb hk => by intro y5 y6; exact t_qM_close_b9b hb hk y5 y6) (fun s hb => by intro y5 y6; exact t_qM_close_b9b hb K y5 y6) n s H
  exact Z y5 y6
def qM_close (x1 : Int32) (h : zK) : Option (Int32) :=
  (zloop (qM_close_b9 x1 h) zfu (-1, 1000000, 0)).bind fun t9 =>
  if ¬ x1 = 0 then
    if ¬ t9.1 = (-1) then
      some t9.2
    else
      some 0
  else
    some t9.1
theorem t_qM_close {Ls : Nat} {xs : Nat → Int32} {d : Nat} {x1 : Int32} {h : zK} {p : Int32} (H : qM_close x1 h = some p) : zEv (zXs Ls xs) (d + 1) zm_245 (0, [some (.ref 215), some (.int x1), none, none, none, none, none], [], zhp h) (some (.int p), zhp h) := by
  unfold qM_close at H
  refine zEv_k 6 (f' := (9, [some (.ref 215), some (.int x1), some (.int (-1)), some (.int 1000000), some (.int 0), none, none], [], zhp h)) rfl ?_
  obtain ⟨t9, ht9, H⟩ := zbs H
  refine t_qM_close_b9 (x1 := x1) (h := h) ?_ zfu _ ht9 _ _
  intro y4 y5 y6
  refine zEv_k 2 (f' := (if ¬ x1 = 0 then 98 else 94, [some (.ref 215), some (.int x1), some (.int t9.1), some (.int t9.2), y4, y5, y6], [], zhp h)) rfl (zEv_if (fun c11 => ?_) (fun c11 => ?_))
  · replace H := zif_t c11 H
    refine zEv_k 3 (f' := (if ¬ t9.1 = (-1) then 107 else 103, [some (.ref 215), some (.int x1), some (.int t9.1), some (.int t9.2), y4, y5, y6], [], zhp h)) rfl (zEv_if (fun c12 => ?_) (fun c12 => ?_))
    · replace H := zif_t c12 H
      refine zEv_k 1 (f' := (108, [some (.ref 215), some (.int x1), some (.int t9.1), some (.int t9.2), y4, y5, y6], [.int t9.2], zhp h)) rfl ?_
      cases H
      exact zEv_r rfl
    · replace H := zif_f c12 H
      refine zEv_k 2 (f' := (108, [some (.ref 215), some (.int x1), some (.int t9.1), some (.int t9.2), y4, y5, y6], [.int 0], zhp h)) rfl ?_
      cases H
      exact zEv_r rfl
  · replace H := zif_f c11 H
    refine zEv_k 2 (f' := (108, [some (.ref 215), some (.int x1), some (.int t9.1), some (.int t9.2), y4, y5, y6], [.int t9.1], zhp h)) rfl ?_
    cases H
    exact zEv_r rfl
def qM_rowOf_b15 (x3 : Int32) (h : zK) (s : Int32 × Int32) : Option ((Int32 × Int32) ⊕ (Int32)) :=
  if 49 ≤ s.2 then
    some (.inr s.1)
  else
    Option.bind (
        if (gI h 215 23) ≤ (s.2 / 7) then
          some 0
        else
          if (gI h 215 23) ≤ (s.2 - s.2 / 7 * 7) then
            some 0
          else
            if (zf_has s.1 (s.2 / 7)) = 0 then
              some 0
            else
              (zix (s.2 / 7) 7).bind fun j7 =>
              (zix (s.2 - s.2 / 7 * 7) 7).bind fun j8 =>
              if (gI h 215 25) < (zf_away (gI h 229 j7) (gI h 229 j8)) then
                some 0
              else
                some 1
      ) fun (v4 : Int32) =>
    zlet (
        if v4 = 0 then
          0
        else
          (1 : Int32) <<< ((s.2 - s.2 / 7 * 7) &&& 31)
      ) fun (v11 : Int32) =>
    some (.inl (s.1 ||| v11, s.2 + 1))
theorem t_qM_rowOf_b15b {Ls : Nat} {xs : Nat → Int32} {d : Nat} {x3 : Int32} {h : zK} {r : zA} {s : Int32 × Int32} {e : (Int32 × Int32) ⊕ (Int32)} (H : qM_rowOf_b15 x3 h s = some e) (K : match (generalizing := false) e with | .inl s' => ∀ (z1 : Option Value) (z5 : Option Value), zEv (zXs Ls xs) (d + 1) zm_246 (15, [some (.ref 215), z1, some (.int s'.1), some (.int x3), some (.int s'.2), z5], [], zhp h) r | .inr v => ∀ (z1 : Option Value) (z4 : Option Value) (z5 : Option Value), zEv (zXs Ls xs) (d + 1) zm_246 (120, [some (.ref 215), z1, some (.int v), some (.int x3), z4, z5], [], zhp h) r) (y1 : Option Value) (y5 : Option Value) : zEv (zXs Ls xs) (d + 1) zm_246 (15, [some (.ref 215), y1, some (.int s.1), some (.int x3), some (.int s.2), y5], [], zhp h) r := by
  unfold qM_rowOf_b15 at H
  refine zEv_k 3 (f' := (if 49 ≤ s.2 then 120 else 22, [some (.ref 215), y1, some (.int s.1), some (.int x3), some (.int s.2), y5], [], zhp h)) rfl (zEv_if (fun c2 => ?_) (fun c2 => ?_))
  · replace H := zif_t c2 H
    cases H
    exact K _ _ _
  · replace H := zif_f c2 H
    obtain ⟨v4, hv4, H⟩ := zbs H
    have kv4 : zEv (zXs Ls xs) (d + 1) zm_246 (93, [some (.ref 215), y1, some (.int s.1), some (.int x3), some (.int s.2), y5], [.int v4], zhp h) r := by
      obtain ⟨v11, hv11, H⟩ := zlets H
      have kv11 : zEv (zXs Ls xs) (d + 1) zm_246 (112, [some (.ref 215), y1, some (.int s.1), some (.int x3), some (.int s.2), some (.int v4)], [.int v11, .int s.1], zhp h) r := by
        refine zEv_k 4 (f' := (15, [some (.ref 215), zlost y1, some (.int (s.1 ||| v11)), some (.int x3), some (.int (s.2 + 1)), some (.int v4)], [], zhp h)) rfl ?_
        cases H
        exact K _ _
      clear H
      refine zEv_k 4 (f' := (if v4 = 0 then 111 else 101, [some (.ref 215), y1, some (.int s.1), some (.int x3), some (.int s.2), some (.int v4)], [.int s.1], zhp h)) rfl (zEv_if (fun c10 => ?_) (fun c10 => ?_))
      · replace hv11 := zif_t c10 hv11
        refine zEv_k 1 (f' := (112, [some (.ref 215), y1, some (.int s.1), some (.int x3), some (.int s.2), some (.int v4)], [.int 0, .int s.1], zhp h)) rfl ?_
        cases hv11
        exact kv11
      · replace hv11 := zif_f c10 hv11
        refine zEv_k 3 (f' := (106, [some (.ref 215), y1, some (.int s.1), some (.int x3), some (.int s.2), some (.int v4)], [.int 7, .int s.2, .int 1, .int s.1], zhp h)) rfl ?_
        refine zEv_rem rfl (by decide) ?_
        refine zEv_k 2 (f' := (112, [some (.ref 215), y1, some (.int s.1), some (.int x3), some (.int s.2), some (.int v4)], [.int ((1 : Int32) <<< ((s.2 - s.2 / 7 * 7) &&& 31)), .int s.1], zhp h)) rfl ?_
        cases hv11
        exact kv11
    clear H
    refine zEv_k 2 (f' := (26, [some (.ref 215), y1, some (.int s.1), some (.int x3), some (.int s.2), y5], [.int 7, .int s.2], zhp h)) rfl ?_
    refine zEv_div rfl (by decide) ?_
    refine zEv_k 3 (f' := (if (gI h 215 23) ≤ (s.2 / 7) then 92 else 34, [some (.ref 215), y1, some (.int s.1), some (.int x3), some (.int s.2), y5], [], zhp h)) rfl (zEv_if (fun c3 => ?_) (fun c3 => ?_))
    · replace hv4 := zif_t c3 hv4
      refine zEv_k 1 (f' := (93, [some (.ref 215), y1, some (.int s.1), some (.int x3), some (.int s.2), y5], [.int 0], zhp h)) rfl ?_
      cases hv4
      exact kv4
    · replace hv4 := zif_f c3 hv4
      refine zEv_k 2 (f' := (38, [some (.ref 215), y1, some (.int s.1), some (.int x3), some (.int s.2), y5], [.int 7, .int s.2], zhp h)) rfl ?_
      refine zEv_rem rfl (by decide) ?_
      refine zEv_k 3 (f' := (if (gI h 215 23) ≤ (s.2 - s.2 / 7 * 7) then 92 else 46, [some (.ref 215), y1, some (.int s.1), some (.int x3), some (.int s.2), y5], [], zhp h)) rfl (zEv_if (fun c5 => ?_) (fun c5 => ?_))
      · replace hv4 := zif_t c5 hv4
        refine zEv_k 1 (f' := (93, [some (.ref 215), y1, some (.int s.1), some (.int x3), some (.int s.2), y5], [.int 0], zhp h)) rfl ?_
        cases hv4
        exact kv4
      · replace hv4 := zif_f c5 hv4
        refine zEv_k 3 (f' := (51, [some (.ref 215), y1, some (.int s.1), some (.int x3), some (.int s.2), y5], [.int 7, .int s.2, .int s.1], zhp h)) rfl ?_
        refine zEv_div rfl (by decide) ?_
        refine zEv_c (fun _ => rfl) rfl ev_zf_has rfl rfl ?_
        refine zEv_k 1 (f' := (if (zf_has s.1 (s.2 / 7)) = 0 then 92 else 58, [some (.ref 215), y1, some (.int s.1), some (.int x3), some (.int s.2), y5], [], zhp h)) rfl (zEv_if (fun c6 => ?_) (fun c6 => ?_))
        · replace hv4 := zif_t c6 hv4
          refine zEv_k 1 (f' := (93, [some (.ref 215), y1, some (.int s.1), some (.int x3), some (.int s.2), y5], [.int 0], zhp h)) rfl ?_
          cases hv4
          exact kv4
        · replace hv4 := zif_f c6 hv4
          refine zEv_k 1 (f' := (59, [some (.ref 215), y1, some (.int s.1), some (.int x3), some (.int s.2), y5], [.ref 215], zhp h)) rfl ?_
          refine zRgr rfl rfl rfl (by decide) (b := 229) rfl ?_
          refine zEv_k 2 (f' := (66, [some (.ref 215), y1, some (.int s.1), some (.int x3), some (.int s.2), y5], [.int 7, .int s.2, .ref 229], zhp h)) rfl ?_
          refine zEv_div rfl (by decide) ?_
          obtain ⟨j7, hj7, hv4⟩ := zbs hv4
          refine zRia rfl rfl (by decide) hj7 ?_
          refine zEv_k 1 (f' := (69, [some (.ref 215), y1, some (.int s.1), some (.int x3), some (.int s.2), y5], [.ref 215, .int (gI h 229 j7)], zhp h)) rfl ?_
          refine zRgr rfl rfl rfl (by decide) (b := 229) rfl ?_
          refine zEv_k 2 (f' := (76, [some (.ref 215), y1, some (.int s.1), some (.int x3), some (.int s.2), y5], [.int 7, .int s.2, .ref 229, .int (gI h 229 j7)], zhp h)) rfl ?_
          refine zEv_rem rfl (by decide) ?_
          obtain ⟨j8, hj8, hv4⟩ := zbs hv4
          refine zRia rfl rfl (by decide) hj8 ?_
          refine zEv_c (fun _ => rfl) rfl ev_zf_away rfl rfl ?_
          refine zEv_k 3 (f' := (if (gI h 215 25) < (zf_away (gI h 229 j7) (gI h 229 j8)) then 92 else 88, [some (.ref 215), y1, some (.int s.1), some (.int x3), some (.int s.2), y5], [], zhp h)) rfl (zEv_if (fun c9 => ?_) (fun c9 => ?_))
          · replace hv4 := zif_t c9 hv4
            refine zEv_k 1 (f' := (93, [some (.ref 215), y1, some (.int s.1), some (.int x3), some (.int s.2), y5], [.int 0], zhp h)) rfl ?_
            cases hv4
            exact kv4
          · replace hv4 := zif_f c9 hv4
            refine zEv_k 2 (f' := (93, [some (.ref 215), y1, some (.int s.1), some (.int x3), some (.int s.2), y5], [.int 1], zhp h)) rfl ?_
            cases hv4
            exact kv4
theorem t_qM_rowOf_b15 {Ls : Nat} {xs : Nat → Int32} {d : Nat} {x3 : Int32} {h : zK} {r : zA} {t : Int32} (K : ∀ (z1 : Option Value) (z4 : Option Value) (z5 : Option Value), zEv (zXs Ls xs) (d + 1) zm_246 (120, [some (.ref 215), z1, some (.int t), some (.int x3), z4, z5], [], zhp h) r) (n : Nat) (s : Int32 × Int32) (H : zloop (qM_rowOf_b15 x3 h) n s = some t) (y1 : Option Value) (y5 : Option Value) : zEv (zXs Ls xs) (d + 1) zm_246 (15, [some (.ref 215), y1, some (.int s.1), some (.int x3), some (.int s.2), y5], [], zhp h) r := by
  have Z := zloop_P (P := fun s => ∀ (y1 : Option Value) (y5 : Option Value), zEv (zXs Ls xs) (d + 1) zm_246 (15, [some (.ref 215), y1, some (.int s.1), some (.int x3), some (.int s.2), y5], [], zhp h) r) (b := qM_rowOf_b15 x3 h) (t := t) (fun s s2 hb hk => by intro y1 y5; exact t_qM_rowOf_b15b hb hk y1 y5) (fun s hb => by intro y1 y5; exact t_qM_rowOf_b15b hb K y1 y5) n s H
  exact Z y1 y5
def qM_rowOf_b6 (h : zK) (s : Int32 × Int32) : Option ((Int32 × Int32) ⊕ (Int32)) :=
  if 7 ≤ s.2 then
    some (.inr s.1)
  else
    (zloop (qM_rowOf_b15 s.2 h) zfu (s.1, 0)).bind fun t12 =>
    some (.inl (t12, s.2 + 1))
theorem t_qM_rowOf_b6b {Ls : Nat} {xs : Nat → Int32} {d : Nat} {h : zK} {r : zA} {s : Int32 × Int32} {e : (Int32 × Int32) ⊕ (Int32)} (H : qM_rowOf_b6 h s = some e) (K : match (generalizing := false) e with | .inl s' => ∀ (z1 : Option Value) (z4 : Option Value) (z5 : Option Value), zEv (zXs Ls xs) (d + 1) zm_246 (6, [some (.ref 215), z1, some (.int s'.1), some (.int s'.2), z4, z5], [], zhp h) r | .inr v => ∀ (z1 : Option Value) (z3 : Option Value) (z4 : Option Value) (z5 : Option Value), zEv (zXs Ls xs) (d + 1) zm_246 (126, [some (.ref 215), z1, some (.int v), z3, z4, z5], [], zhp h) r) (y1 : Option Value) (y4 : Option Value) (y5 : Option Value) : zEv (zXs Ls xs) (d + 1) zm_246 (6, [some (.ref 215), y1, some (.int s.1), some (.int s.2), y4, y5], [], zhp h) r := by
  unfold qM_rowOf_b6 at H
  refine zEv_k 3 (f' := (if 7 ≤ s.2 then 126 else 12, [some (.ref 215), y1, some (.int s.1), some (.int s.2), y4, y5], [], zhp h)) rfl (zEv_if (fun c1 => ?_) (fun c1 => ?_))
  · replace H := zif_t c1 H
    cases H
    exact K _ _ _ _
  · replace H := zif_f c1 H
    refine zEv_k 2 (f' := (15, [some (.ref 215), y1, some (.int s.1), some (.int s.2), some (.int 0), y5], [], zhp h)) rfl ?_
    obtain ⟨t12, ht12, H⟩ := zbs H
    refine t_qM_rowOf_b15 (x3 := s.2) (h := h) ?_ zfu _ ht12 _ _
    intro y1 y4 y5
    refine zEv_k 2 (f' := (6, [some (.ref 215), y1, some (.int t12), some (.int (s.2 + 1)), y4, y5], [], zhp h)) rfl ?_
    cases H
    exact K _ _ _
theorem t_qM_rowOf_b6 {Ls : Nat} {xs : Nat → Int32} {d : Nat} {h : zK} {r : zA} {t : Int32} (K : ∀ (z1 : Option Value) (z3 : Option Value) (z4 : Option Value) (z5 : Option Value), zEv (zXs Ls xs) (d + 1) zm_246 (126, [some (.ref 215), z1, some (.int t), z3, z4, z5], [], zhp h) r) (n : Nat) (s : Int32 × Int32) (H : zloop (qM_rowOf_b6 h) n s = some t) (y1 : Option Value) (y4 : Option Value) (y5 : Option Value) : zEv (zXs Ls xs) (d + 1) zm_246 (6, [some (.ref 215), y1, some (.int s.1), some (.int s.2), y4, y5], [], zhp h) r := by
  have Z := zloop_P (P := fun s => ∀ (y1 : Option Value) (y4 : Option Value) (y5 : Option Value), zEv (zXs Ls xs) (d + 1) zm_246 (6, [some (.ref 215), y1, some (.int s.1), some (.int s.2), y4, y5], [], zhp h) r) (b := qM_rowOf_b6 h) (t := t) (fun s s2 hb hk => by intro y1 y4 y5; exact t_qM_rowOf_b6b hb hk y1 y4 y5) (fun s hb => by intro y1 y4 y5; exact t_qM_rowOf_b6b hb K y1 y4 y5) n s H
  exact Z y1 y4 y5
def qM_rowOf (x1 : Int32) (h : zK) : Option (Int32) :=
  (zloop (qM_rowOf_b6 h) zfu ((1 : Int32) <<< (x1 &&& 31), 0)).bind fun t14 =>
  some t14
theorem t_qM_rowOf {Ls : Nat} {xs : Nat → Int32} {d : Nat} {x1 : Int32} {h : zK} {p : Int32} (H : qM_rowOf x1 h = some p) : zEv (zXs Ls xs) (d + 1) zm_246 (0, [some (.ref 215), some (.int x1), none, none, none, none], [], zhp h) (some (.int p), zhp h) := by
  unfold qM_rowOf at H
  refine zEv_k 6 (f' := (6, [some (.ref 215), some (.int x1), some (.int ((1 : Int32) <<< (x1 &&& 31))), some (.int 0), none, none], [], zhp h)) rfl ?_
  obtain ⟨t14, ht14, H⟩ := zbs H
  refine t_qM_rowOf_b6 (h := h) ?_ zfu _ ht14 _ _ _
  intro y1 y3 y4 y5
  refine zEv_k 1 (f' := (127, [some (.ref 215), y1, some (.int t14), y3, y4, y5], [.int t14], zhp h)) rfl ?_
  cases H
  exact zEv_r rfl
def qM_rows_b7 (x1 : Int32) (h : zK) (s : Int32 × Int32 × Int32) : Option ((Int32 × Int32 × Int32) ⊕ (Int32 × Int32)) :=
  if (gI h 215 23) ≤ s.2.2 then
    some (.inr (s.1, s.2.1))
  else
    (qM_rowOf s.2.2 h).bind fun p2 =>
    zlet (
        if ¬ (p2 &&& (((1 : Int32) <<< (s.2.2 &&& 31)) - 1)) = 0 then
          0
        else
          1
      ) fun (v4 : Int32) =>
    (qM_ones p2).bind fun p5 =>
    some (.inl (s.1 + v4, zf_greater s.2.1 p5, s.2.2 + 1))
theorem t_qM_rows_b7b {Ls : Nat} {xs : Nat → Int32} {d : Nat} {x1 : Int32} {h : zK} {r : zA} {s : Int32 × Int32 × Int32} {e : (Int32 × Int32 × Int32) ⊕ (Int32 × Int32)} (H : qM_rows_b7 x1 h s = some e) (K : match (generalizing := false) e with | .inl s' => ∀ (z5 : Option Value), zEv (zXs Ls xs) (d + 2) zm_247 (7, [some (.ref 215), some (.int x1), some (.int s'.1), some (.int s'.2.1), some (.int s'.2.2), z5], [], zhp h) r | .inr v => ∀ (z4 : Option Value) (z5 : Option Value), zEv (zXs Ls xs) (d + 2) zm_247 (60, [some (.ref 215), some (.int x1), some (.int v.1), some (.int v.2), z4, z5], [], zhp h) r) (y5 : Option Value) : zEv (zXs Ls xs) (d + 2) zm_247 (7, [some (.ref 215), some (.int x1), some (.int s.1), some (.int s.2.1), some (.int s.2.2), y5], [], zhp h) r := by
  unfold qM_rows_b7 at H
  refine zEv_k 4 (f' := (if (gI h 215 23) ≤ s.2.2 then 60 else 16, [some (.ref 215), some (.int x1), some (.int s.1), some (.int s.2.1), some (.int s.2.2), y5], [], zhp h)) rfl (zEv_if (fun c1 => ?_) (fun c1 => ?_))
  · replace H := zif_t c1 H
    cases H
    exact K _ _
  · replace H := zif_f c1 H
    refine zEv_k 2 (f' := (19, [some (.ref 215), some (.int x1), some (.int s.1), some (.int s.2.1), some (.int s.2.2), y5], [.int s.2.2, .ref 215], zhp h)) rfl ?_
    obtain ⟨p2, hp2, H⟩ := zbs H
    refine zEv_c (fun _ => rfl) rfl (t_qM_rowOf (x1 := s.2.2) (h := h) (d := d) hp2) rfl rfl ?_
    obtain ⟨v4, hv4, H⟩ := zlets H
    have kv4 : zEv (zXs Ls xs) (d + 2) zm_247 (42, [some (.ref 215), some (.int x1), some (.int s.1), some (.int s.2.1), some (.int s.2.2), some (.int p2)], [.int v4, .int s.1], zhp h) r := by
      refine zEv_k 4 (f' := (47, [some (.ref 215), some (.int x1), some (.int (s.1 + v4)), some (.int s.2.1), some (.int s.2.2), some (.int p2)], [.int p2, .int s.2.1], zhp h)) rfl ?_
      obtain ⟨p5, hp5, H⟩ := zbs H
      refine zEv_c (fun _ => rfl) rfl (t_qM_ones (x0 := p2) (h := h) (d := d) hp5) rfl rfl ?_
      refine zEv_c (fun _ => rfl) rfl ev_zf_greater rfl rfl ?_
      refine zEv_k 3 (f' := (7, [some (.ref 215), some (.int x1), some (.int (s.1 + v4)), some (.int (zf_greater s.2.1 p5)), some (.int (s.2.2 + 1)), some (.int p2)], [], zhp h)) rfl ?_
      cases H
      exact K _
    clear H
    refine zEv_k 9 (f' := (34, [some (.ref 215), some (.int x1), some (.int s.1), some (.int s.2.1), some (.int s.2.2), some (.int p2)], [.int (p2 &&& (((1 : Int32) <<< (s.2.2 &&& 31)) - 1)), .int s.1], zhp h)) rfl ?_
    refine zEv_k 1 (f' := (if ¬ (p2 &&& (((1 : Int32) <<< (s.2.2 &&& 31)) - 1)) = 0 then 41 else 37, [some (.ref 215), some (.int x1), some (.int s.1), some (.int s.2.1), some (.int s.2.2), some (.int p2)], [.int s.1], zhp h)) rfl (zEv_if (fun c3 => ?_) (fun c3 => ?_))
    · replace hv4 := zif_t c3 hv4
      refine zEv_k 1 (f' := (42, [some (.ref 215), some (.int x1), some (.int s.1), some (.int s.2.1), some (.int s.2.2), some (.int p2)], [.int 0, .int s.1], zhp h)) rfl ?_
      cases hv4
      exact kv4
    · replace hv4 := zif_f c3 hv4
      refine zEv_k 2 (f' := (42, [some (.ref 215), some (.int x1), some (.int s.1), some (.int s.2.1), some (.int s.2.2), some (.int p2)], [.int 1, .int s.1], zhp h)) rfl ?_
      cases hv4
      exact kv4
theorem t_qM_rows_b7 {Ls : Nat} {xs : Nat → Int32} {d : Nat} {x1 : Int32} {h : zK} {r : zA} {t : Int32 × Int32} (K : ∀ (z4 : Option Value) (z5 : Option Value), zEv (zXs Ls xs) (d + 2) zm_247 (60, [some (.ref 215), some (.int x1), some (.int t.1), some (.int t.2), z4, z5], [], zhp h) r) (n : Nat) (s : Int32 × Int32 × Int32) (H : zloop (qM_rows_b7 x1 h) n s = some t) (y5 : Option Value) : zEv (zXs Ls xs) (d + 2) zm_247 (7, [some (.ref 215), some (.int x1), some (.int s.1), some (.int s.2.1), some (.int s.2.2), y5], [], zhp h) r := by
  have Z := zloop_P (P := fun s => ∀ (y5 : Option Value), zEv (zXs Ls xs) (d + 2) zm_247 (7, [some (.ref 215), some (.int x1), some (.int s.1), some (.int s.2.1), some (.int s.2.2), y5], [], zhp h) r) (b := qM_rows_b7 x1 h) (t := t) (fun s s2 hb hk => by intro y5; exact t_qM_rows_b7b hb hk y5) (fun s hb => by intro y5; exact t_qM_rows_b7b hb K y5) n s H
  exact Z y5
def qM_rows (x1 : Int32) (h : zK) : Option (Int32) :=
  (zloop (qM_rows_b7 x1 h) zfu (0, 0, 0)).bind fun t6 =>
  if x1 = 0 then
    some t6.1
  else
    some t6.2
theorem t_qM_rows {Ls : Nat} {xs : Nat → Int32} {d : Nat} {x1 : Int32} {h : zK} {p : Int32} (H : qM_rows x1 h = some p) : zEv (zXs Ls xs) (d + 2) zm_247 (0, [some (.ref 215), some (.int x1), none, none, none, none], [], zhp h) (some (.int p), zhp h) := by
  unfold qM_rows at H
  refine zEv_k 6 (f' := (7, [some (.ref 215), some (.int x1), some (.int 0), some (.int 0), some (.int 0), none], [], zhp h)) rfl ?_
  obtain ⟨t6, ht6, H⟩ := zbs H
  refine t_qM_rows_b7 (x1 := x1) (h := h) ?_ zfu _ ht6 _
  intro y4 y5
  refine zEv_k 2 (f' := (if x1 = 0 then 68 else 64, [some (.ref 215), some (.int x1), some (.int t6.1), some (.int t6.2), y4, y5], [], zhp h)) rfl (zEv_if (fun c8 => ?_) (fun c8 => ?_))
  · replace H := zif_t c8 H
    refine zEv_k 1 (f' := (69, [some (.ref 215), some (.int x1), some (.int t6.1), some (.int t6.2), y4, y5], [.int t6.1], zhp h)) rfl ?_
    cases H
    exact zEv_r rfl
  · replace H := zif_f c8 H
    refine zEv_k 2 (f' := (69, [some (.ref 215), some (.int x1), some (.int t6.1), some (.int t6.2), y4, y5], [.int t6.2], zhp h)) rfl ?_
    cases H
    exact zEv_r rfl
def qM_isCut_b2 (x1 : Int32) (s : Int32 × zK) : Option ((Int32 × zK) ⊕ ((zK) ⊕ (Int32 × zK))) :=
  if (gI s.2 215 23) ≤ s.1 then
    some (.inr (.inl s.2))
  else
    if ¬ (zf_has x1 s.1) = 0 then
      some (.inl (s.1 + 1, s.2))
    else
      (qM_trainOf s.1 x1 s.2).bind fun p3 =>
      if p3.1 = ((1 : Int32) <<< (s.1 &&& 31)) then
        some (.inl (s.1 + 1, p3.2))
      else
        some (.inr (.inr (0, p3.2)))
theorem t_qM_isCut_b2b {Ls : Nat} {xs : Nat → Int32} {d : Nat} {x1 : Int32} {r : zA} {s : Int32 × zK} {e : (Int32 × zK) ⊕ ((zK) ⊕ (Int32 × zK))} (H : qM_isCut_b2 x1 s = some e) (K : match (generalizing := false) e with | .inl s' => zEv (zXs Ls xs) (d + 4) zm_248 (2, [some (.ref 215), some (.int x1), some (.int s'.1)], [], zhp s'.2) r | .inr (.inl v) => ∀ (z2 : Option Value), zEv (zXs Ls xs) (d + 4) zm_248 (38, [some (.ref 215), some (.int x1), z2], [], zhp v) r | .inr (.inr p) => (some (.int p.1), zhp p.2) = r) : zEv (zXs Ls xs) (d + 4) zm_248 (2, [some (.ref 215), some (.int x1), some (.int s.1)], [], zhp s.2) r := by
  unfold qM_isCut_b2 at H
  refine zEv_k 4 (f' := (if (gI s.2 215 23) ≤ s.1 then 38 else 10, [some (.ref 215), some (.int x1), some (.int s.1)], [], zhp s.2)) rfl (zEv_if (fun c1 => ?_) (fun c1 => ?_))
  · replace H := zif_t c1 H
    cases H
    exact K _
  · replace H := zif_f c1 H
    refine zEv_k 2 (f' := (12, [some (.ref 215), some (.int x1), some (.int s.1)], [.int s.1, .int x1], zhp s.2)) rfl ?_
    refine zEv_c (fun _ => rfl) rfl ev_zf_has rfl rfl ?_
    refine zEv_k 1 (f' := (if ¬ (zf_has x1 s.1) = 0 then 32 else 18, [some (.ref 215), some (.int x1), some (.int s.1)], [], zhp s.2)) rfl (zEv_if (fun c2 => ?_) (fun c2 => ?_))
    · replace H := zif_t c2 H
      refine zEv_k 2 (f' := (2, [some (.ref 215), some (.int x1), some (.int (s.1 + 1))], [], zhp s.2)) rfl ?_
      cases H
      exact K
    · replace H := zif_f c2 H
      refine zEv_k 3 (f' := (21, [some (.ref 215), some (.int x1), some (.int s.1)], [.int x1, .int s.1, .ref 215], zhp s.2)) rfl ?_
      obtain ⟨p3, hp3, H⟩ := zbs H
      refine zEv_c (fun _ => rfl) rfl (t_qM_trainOf (x1 := s.1) (x2 := x1) (h := s.2) (d := d) hp3) rfl rfl ?_
      refine zEv_k 4 (f' := (if p3.1 = ((1 : Int32) <<< (s.1 &&& 31)) then 32 else 30, [some (.ref 215), some (.int x1), some (.int s.1)], [], zhp p3.2)) rfl (zEv_if (fun c4 => ?_) (fun c4 => ?_))
      · replace H := zif_t c4 H
        refine zEv_k 2 (f' := (2, [some (.ref 215), some (.int x1), some (.int (s.1 + 1))], [], zhp p3.2)) rfl ?_
        cases H
        exact K
      · replace H := zif_f c4 H
        refine zEv_k 1 (f' := (31, [some (.ref 215), some (.int x1), some (.int s.1)], [.int 0], zhp p3.2)) rfl ?_
        cases H
        exact zEv_re K rfl
theorem t_qM_isCut_b2 {Ls : Nat} {xs : Nat → Int32} {d : Nat} {x1 : Int32} {r : zA} {t : (zK) ⊕ (Int32 × zK)} (K : (match (generalizing := false) t with | .inl v => ∀ (z2 : Option Value), zEv (zXs Ls xs) (d + 4) zm_248 (38, [some (.ref 215), some (.int x1), z2], [], zhp v) r | .inr p => (some (.int p.1), zhp p.2) = r)) (n : Nat) (s : Int32 × zK) (H : zloop (qM_isCut_b2 x1) n s = some t) : zEv (zXs Ls xs) (d + 4) zm_248 (2, [some (.ref 215), some (.int x1), some (.int s.1)], [], zhp s.2) r := by
  have Z := zloop_P (P := fun s => zEv (zXs Ls xs) (d + 4) zm_248 (2, [some (.ref 215), some (.int x1), some (.int s.1)], [], zhp s.2) r) (b := qM_isCut_b2 x1) (t := t) (fun s s2 hb hk => by exact t_qM_isCut_b2b hb hk) (fun s hb => by rcases t with v | p <;> (exact t_qM_isCut_b2b hb K)) n s H
  exact Z
def qM_isCut (x1 : Int32) (h : zK) : Option (Int32 × zK) :=
  (zloop (qM_isCut_b2 x1) zfu (0, h)).bind fun t5 => match t5 with
  | .inr p => some p
  | .inl v6 =>
    some (1, v6)
theorem t_qM_isCut {Ls : Nat} {xs : Nat → Int32} {d : Nat} {x1 : Int32} {h : zK} {p : Int32 × zK} (H : qM_isCut x1 h = some p) : zEv (zXs Ls xs) (d + 4) zm_248 (0, [some (.ref 215), some (.int x1), none], [], zhp h) (some (.int p.1), zhp p.2) := by
  unfold qM_isCut at H
  refine zEv_k 2 (f' := (2, [some (.ref 215), some (.int x1), some (.int 0)], [], zhp h)) rfl ?_
  obtain ⟨t5, ht5, H⟩ := zbs H
  refine t_qM_isCut_b2 (x1 := x1) ?_ zfu _ ht5
  rcases t5 with v6 | p
  · intro y2
    dsimp only at H
    refine zEv_k 1 (f' := (39, [some (.ref 215), some (.int x1), y2], [.int 1], zhp v6)) rfl ?_
    cases H
    exact zEv_r rfl
  · cases H
    exact rfl
