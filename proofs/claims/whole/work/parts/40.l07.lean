def qOr_playTurn_b29 (oc : Nat) (x2 : Int32) (x3 : Int32) (x4 : Int32) (s : Int32 × zK) : Option ((Int32 × zK) ⊕ (zK)) :=
  if 7 < s.1 then
    some (.inr s.2)
  else
    zlet (
        if ¬ s.1 = 7 then
          zf_cin x4 s.1
        else
          if ¬ x4 = 0 then
            0
          else
            1
      ) fun (v6 : Int32) =>
    Option.bind (
        if v6 = 0 then
          some s.2
        else
          (qOr_bestMove oc x4 s.1 s.2).bind fun p10 =>
          (qOr_lead oc x4 s.1 p10 s.2).bind fun p11 =>
          (zix ((x4 * 8) + s.1) 1408).bind fun j12 =>
          zlet (sI s.2 194 j12 p11) fun h13 =>
          some h13
      ) fun (v9 : zK) =>
    some (.inl (s.1 + 1, v9))
theorem t_qOr_playTurn_b29b {Ls : Nat} {xs : Nat → Int32} {d : Nat} {oc : Nat} {x2 : Int32} {x3 : Int32} {x4 : Int32} {r : zA} {s : Int32 × zK} {e : (Int32 × zK) ⊕ (zK)} (ho : oc = 7 ∨ oc = 22) (H : qOr_playTurn_b29 oc x2 x3 x4 s = some e) (K : match (generalizing := false) e with | .inl s' => ∀ (z6 : Option Value), zEv (zXs Ls xs) (d + 4) zm_51 (29, [some (.ref 192), some (.ref oc), some (.int x2), some (.int x3), some (.int x4), some (.int s'.1), z6], [], zhp s'.2) r | .inr v => ∀ (z5 : Option Value) (z6 : Option Value), zEv (zXs Ls xs) (d + 4) zm_51 (107, [some (.ref 192), some (.ref oc), some (.int x2), some (.int x3), some (.int x4), z5, z6], [], zhp v) r) (y6 : Option Value) : zEv (zXs Ls xs) (d + 4) zm_51 (29, [some (.ref 192), some (.ref oc), some (.int x2), some (.int x3), some (.int x4), some (.int s.1), y6], [], zhp s.2) r := by
  unfold qOr_playTurn_b29 at H
  rcases ho with rfl | rfl
  · refine zEv_k 3 (f' := (if 7 < s.1 then 107 else 36, [some (.ref 192), some (.ref 7), some (.int x2), some (.int x3), some (.int x4), some (.int s.1), y6], [], zhp s.2)) rfl (zEv_if (fun c4 => ?_) (fun c4 => ?_))
    · replace H := zif_t c4 H
      cases H
      exact K _ _
    · replace H := zif_f c4 H
      obtain ⟨v6, hv6, H⟩ := zlets H
      have kv6 : zEv (zXs Ls xs) (d + 4) zm_51 (63, [some (.ref 192), some (.ref 7), some (.int x2), some (.int x3), some (.int x4), some (.int s.1), y6], [.int v6], zhp s.2) r := by
        obtain ⟨v9, hv9, H⟩ := zbs H
        have kv9 : zEv (zXs Ls xs) (d + 4) zm_51 (101, [some (.ref 192), some (.ref 7), some (.int x2), some (.int x3), some (.int x4), some (.int s.1), some (.int v6)], [], zhp v9) r := by
          refine zEv_k 2 (f' := (29, [some (.ref 192), some (.ref 7), some (.int x2), some (.int x3), some (.int x4), some (.int (s.1 + 1)), some (.int v6)], [], zhp v9)) rfl ?_
          cases H
          exact K _
        clear H
        refine zEv_k 3 (f' := (if v6 = 0 then 101 else 70, [some (.ref 192), some (.ref 7), some (.int x2), some (.int x3), some (.int x4), some (.int s.1), some (.int v6)], [], zhp s.2)) rfl (zEv_if (fun c8 => ?_) (fun c8 => ?_))
        · replace hv9 := zif_t c8 hv9
          cases hv9
          exact kv9
        · replace hv9 := zif_f c8 hv9
          refine zEv_k 1 (f' := (71, [some (.ref 192), some (.ref 7), some (.int x2), some (.int x3), some (.int x4), some (.int s.1), some (.int v6)], [.ref 192], zhp s.2)) rfl ?_
          refine zRgr rfl rfl rfl (by decide) (b := 194) rfl ?_
          refine zEv_k 9 (f' := (88, [some (.ref 192), some (.ref 7), some (.int x2), some (.int x3), some (.int x4), some (.int s.1), some (.int v6)], [.int s.1, .int x4, .ref 7, .ref 192, .int ((x4 * 8) + s.1), .ref 194], zhp s.2)) rfl ?_
          refine zEv_k 4 (f' := (94, [some (.ref 192), some (.ref 7), some (.int x2), some (.int x3), some (.int x4), some (.int s.1), some (.int v6)], [.int s.1, .int x4, .ref 7, .ref 192, .int s.1, .int x4, .ref 7, .ref 192, .int ((x4 * 8) + s.1), .ref 194], zhp s.2)) rfl ?_
          obtain ⟨p10, hp10, hv9⟩ := zbs hv9
          refine zEv_c (fun _ => rfl) rfl (t_qOr_bestMove (oc := 7) (x2 := x4) (x3 := s.1) (h := s.2) (d := d) (by decide) hp10) rfl rfl ?_
          obtain ⟨p11, hp11, hv9⟩ := zbs hv9
          refine zEv_c (fun _ => rfl) rfl (t_qOr_lead (oc := 7) (x2 := x4) (x3 := s.1) (x4 := p10) (h := s.2) (d := d + 1) (by decide) hp11) rfl rfl ?_
          obtain ⟨j12, hj12, hv9⟩ := zbs hv9
          obtain ⟨h13, eh13, hv9⟩ := zlets hv9
          refine zRis rfl rfl (by decide) hj12 eh13 ?_
          cases hv9
          exact kv9
      clear H
      refine zEv_k 3 (f' := (if ¬ s.1 = 7 then 56 else 43, [some (.ref 192), some (.ref 7), some (.int x2), some (.int x3), some (.int x4), some (.int s.1), y6], [], zhp s.2)) rfl (zEv_if (fun c5 => ?_) (fun c5 => ?_))
      · replace hv6 := zif_t c5 hv6
        refine zEv_k 2 (f' := (60, [some (.ref 192), some (.ref 7), some (.int x2), some (.int x3), some (.int x4), some (.int s.1), y6], [.int s.1, .int x4], zhp s.2)) rfl ?_
        refine zEv_c (fun _ => rfl) rfl ev_zf_cin rfl rfl ?_
        cases hv6
        exact kv6
      · replace hv6 := zif_f c5 hv6
        refine zEv_k 2 (f' := (if ¬ x4 = 0 then 52 else 48, [some (.ref 192), some (.ref 7), some (.int x2), some (.int x3), some (.int x4), some (.int s.1), y6], [], zhp s.2)) rfl (zEv_if (fun c7 => ?_) (fun c7 => ?_))
        · replace hv6 := zif_t c7 hv6
          refine zEv_k 2 (f' := (63, [some (.ref 192), some (.ref 7), some (.int x2), some (.int x3), some (.int x4), some (.int s.1), y6], [.int 0], zhp s.2)) rfl ?_
          cases hv6
          exact kv6
        · replace hv6 := zif_f c7 hv6
          refine zEv_k 2 (f' := (63, [some (.ref 192), some (.ref 7), some (.int x2), some (.int x3), some (.int x4), some (.int s.1), y6], [.int 1], zhp s.2)) rfl ?_
          cases hv6
          exact kv6
  · refine zEv_k 3 (f' := (if 7 < s.1 then 107 else 36, [some (.ref 192), some (.ref 22), some (.int x2), some (.int x3), some (.int x4), some (.int s.1), y6], [], zhp s.2)) rfl (zEv_if (fun c4 => ?_) (fun c4 => ?_))
    · replace H := zif_t c4 H
      cases H
      exact K _ _
    · replace H := zif_f c4 H
      obtain ⟨v6, hv6, H⟩ := zlets H
      have kv6 : zEv (zXs Ls xs) (d + 4) zm_51 (63, [some (.ref 192), some (.ref 22), some (.int x2), some (.int x3), some (.int x4), some (.int s.1), y6], [.int v6], zhp s.2) r := by
        obtain ⟨v9, hv9, H⟩ := zbs H
        have kv9 : zEv (zXs Ls xs) (d + 4) zm_51 (101, [some (.ref 192), some (.ref 22), some (.int x2), some (.int x3), some (.int x4), some (.int s.1), some (.int v6)], [], zhp v9) r := by
          refine zEv_k 2 (f' := (29, [some (.ref 192), some (.ref 22), some (.int x2), some (.int x3), some (.int x4), some (.int (s.1 + 1)), some (.int v6)], [], zhp v9)) rfl ?_
          cases H
          exact K _
        clear H
        refine zEv_k 3 (f' := (if v6 = 0 then 101 else 70, [some (.ref 192), some (.ref 22), some (.int x2), some (.int x3), some (.int x4), some (.int s.1), some (.int v6)], [], zhp s.2)) rfl (zEv_if (fun c8 => ?_) (fun c8 => ?_))
        · replace hv9 := zif_t c8 hv9
          cases hv9
          exact kv9
        · replace hv9 := zif_f c8 hv9
          refine zEv_k 1 (f' := (71, [some (.ref 192), some (.ref 22), some (.int x2), some (.int x3), some (.int x4), some (.int s.1), some (.int v6)], [.ref 192], zhp s.2)) rfl ?_
          refine zRgr rfl rfl rfl (by decide) (b := 194) rfl ?_
          refine zEv_k 9 (f' := (88, [some (.ref 192), some (.ref 22), some (.int x2), some (.int x3), some (.int x4), some (.int s.1), some (.int v6)], [.int s.1, .int x4, .ref 22, .ref 192, .int ((x4 * 8) + s.1), .ref 194], zhp s.2)) rfl ?_
          refine zEv_k 4 (f' := (94, [some (.ref 192), some (.ref 22), some (.int x2), some (.int x3), some (.int x4), some (.int s.1), some (.int v6)], [.int s.1, .int x4, .ref 22, .ref 192, .int s.1, .int x4, .ref 22, .ref 192, .int ((x4 * 8) + s.1), .ref 194], zhp s.2)) rfl ?_
          obtain ⟨p10, hp10, hv9⟩ := zbs hv9
          refine zEv_c (fun _ => rfl) rfl (t_qOr_bestMove (oc := 22) (x2 := x4) (x3 := s.1) (h := s.2) (d := d) (by decide) hp10) rfl rfl ?_
          obtain ⟨p11, hp11, hv9⟩ := zbs hv9
          refine zEv_c (fun _ => rfl) rfl (t_qOr_lead (oc := 22) (x2 := x4) (x3 := s.1) (x4 := p10) (h := s.2) (d := d + 1) (by decide) hp11) rfl rfl ?_
          obtain ⟨j12, hj12, hv9⟩ := zbs hv9
          obtain ⟨h13, eh13, hv9⟩ := zlets hv9
          refine zRis rfl rfl (by decide) hj12 eh13 ?_
          cases hv9
          exact kv9
      clear H
      refine zEv_k 3 (f' := (if ¬ s.1 = 7 then 56 else 43, [some (.ref 192), some (.ref 22), some (.int x2), some (.int x3), some (.int x4), some (.int s.1), y6], [], zhp s.2)) rfl (zEv_if (fun c5 => ?_) (fun c5 => ?_))
      · replace hv6 := zif_t c5 hv6
        refine zEv_k 2 (f' := (60, [some (.ref 192), some (.ref 22), some (.int x2), some (.int x3), some (.int x4), some (.int s.1), y6], [.int s.1, .int x4], zhp s.2)) rfl ?_
        refine zEv_c (fun _ => rfl) rfl ev_zf_cin rfl rfl ?_
        cases hv6
        exact kv6
      · replace hv6 := zif_f c5 hv6
        refine zEv_k 2 (f' := (if ¬ x4 = 0 then 52 else 48, [some (.ref 192), some (.ref 22), some (.int x2), some (.int x3), some (.int x4), some (.int s.1), y6], [], zhp s.2)) rfl (zEv_if (fun c7 => ?_) (fun c7 => ?_))
        · replace hv6 := zif_t c7 hv6
          refine zEv_k 2 (f' := (63, [some (.ref 192), some (.ref 22), some (.int x2), some (.int x3), some (.int x4), some (.int s.1), y6], [.int 0], zhp s.2)) rfl ?_
          cases hv6
          exact kv6
        · replace hv6 := zif_f c7 hv6
          refine zEv_k 2 (f' := (63, [some (.ref 192), some (.ref 22), some (.int x2), some (.int x3), some (.int x4), some (.int s.1), y6], [.int 1], zhp s.2)) rfl ?_
          cases hv6
          exact kv6
theorem t_qOr_playTurn_b29 {Ls : Nat} {xs : Nat → Int32} {d : Nat} {oc : Nat} {x2 : Int32} {x3 : Int32} {x4 : Int32} {r : zA} (ho : oc = 7 ∨ oc = 22) {t : zK} (K : ∀ (z5 : Option Value) (z6 : Option Value), zEv (zXs Ls xs) (d + 4) zm_51 (107, [some (.ref 192), some (.ref oc), some (.int x2), some (.int x3), some (.int x4), z5, z6], [], zhp t) r) (n : Nat) (s : Int32 × zK) (H : zloop (qOr_playTurn_b29 oc x2 x3 x4) n s = some t) (y6 : Option Value) : zEv (zXs Ls xs) (d + 4) zm_51 (29, [some (.ref 192), some (.ref oc), some (.int x2), some (.int x3), some (.int x4), some (.int s.1), y6], [], zhp s.2) r := by
  have Z := zloop_P (P := fun s => ∀ (y6 : Option Value), zEv (zXs Ls xs) (d + 4) zm_51 (29, [some (.ref 192), some (.ref oc), some (.int x2), some (.int x3), some (.int x4), some (.int s.1), y6], [], zhp s.2) r) (b := qOr_playTurn_b29 oc x2 x3 x4) (t := t) (fun s s2 hb hk => by intro y6; exact t_qOr_playTurn_b29b ho hb hk y6) (fun s hb => by intro y6; exact t_qOr_playTurn_b29b ho hb K y6) n s H
  exact Z y6
def qOr_playTurn_b3 (oc : Nat) (x2 : Int32) (x3 : Int32) (s : Int32 × zK) : Option ((Int32 × zK) ⊕ (zK)) :=
  if (qCe_all oc s.2) < s.1 then
    some (.inr s.2)
  else
    Option.bind (
        if (qIn_bitCount s.1) ≤ (x2 - x3) then
          (zloop (qOr_playTurn_b29 oc x2 x3 s.1) zfu (0, s.2)).bind fun t14 =>
          some t14
        else
          some s.2
      ) fun (v3 : zK) =>
    some (.inl (s.1 + 1, v3))
theorem t_qOr_playTurn_b3b {Ls : Nat} {xs : Nat → Int32} {d : Nat} {oc : Nat} {x2 : Int32} {x3 : Int32} {r : zA} {s : Int32 × zK} {e : (Int32 × zK) ⊕ (zK)} (ho : oc = 7 ∨ oc = 22) (H : qOr_playTurn_b3 oc x2 x3 s = some e) (K : match (generalizing := false) e with | .inl s' => ∀ (z5 : Option Value) (z6 : Option Value), zEv (zXs Ls xs) (d + 4) zm_51 (3, [some (.ref 192), some (.ref oc), some (.int x2), some (.int x3), some (.int s'.1), z5, z6], [], zhp s'.2) r | .inr v => ∀ (z4 : Option Value) (z5 : Option Value) (z6 : Option Value), zEv (zXs Ls xs) (d + 4) zm_51 (113, [some (.ref 192), some (.ref oc), some (.int x2), some (.int x3), z4, z5, z6], [], zhp v) r) (y5 : Option Value) (y6 : Option Value) : zEv (zXs Ls xs) (d + 4) zm_51 (3, [some (.ref 192), some (.ref oc), some (.int x2), some (.int x3), some (.int s.1), y5, y6], [], zhp s.2) r := by
  unfold qOr_playTurn_b3 at H
  rcases ho with rfl | rfl
  · refine zEv_k 2 (f' := (6, [some (.ref 192), some (.ref 7), some (.int x2), some (.int x3), some (.int s.1), y5, y6], [.ref 7, .int s.1], zhp s.2)) rfl ?_
    refine zEv_c (fun _ => rfl) rfl (t_qCe_all (oo := 7) (h := s.2) (d := d + 3) (by decide) rfl) rfl rfl ?_
    refine zEv_k 1 (f' := (if (qCe_all 7 s.2) < s.1 then 113 else 12, [some (.ref 192), some (.ref 7), some (.int x2), some (.int x3), some (.int s.1), y5, y6], [], zhp s.2)) rfl (zEv_if (fun c1 => ?_) (fun c1 => ?_))
    · replace H := zif_t c1 H
      cases H
      exact K _ _ _
    · replace H := zif_f c1 H
      obtain ⟨v3, hv3, H⟩ := zbs H
      have kv3 : ∀ (y5 : Option Value) (y6 : Option Value), zEv (zXs Ls xs) (d + 4) zm_51 (107, [some (.ref 192), some (.ref 7), some (.int x2), some (.int x3), some (.int s.1), y5, y6], [], zhp v3) r := by
        intro y5 y6
        refine zEv_k 2 (f' := (3, [some (.ref 192), some (.ref 7), some (.int x2), some (.int x3), some (.int (s.1 + 1)), y5, y6], [], zhp v3)) rfl ?_
        cases H
        exact K _ _
      clear H
      refine zEv_k 1 (f' := (14, [some (.ref 192), some (.ref 7), some (.int x2), some (.int x3), some (.int s.1), y5, y6], [.int s.1], zhp s.2)) rfl ?_
      refine zEv_c (fun _ => rfl) rfl (t_qIn_bitCount (x0 := s.1) (h := s.2) (d := d + 3) rfl) rfl rfl ?_
      refine zEv_k 4 (f' := (if (qIn_bitCount s.1) ≤ (x2 - x3) then 26 else 23, [some (.ref 192), some (.ref 7), some (.int x2), some (.int x3), some (.int s.1), y5, y6], [], zhp s.2)) rfl (zEv_if (fun c2 => ?_) (fun c2 => ?_))
      · replace hv3 := zif_t c2 hv3
        refine zEv_k 2 (f' := (29, [some (.ref 192), some (.ref 7), some (.int x2), some (.int x3), some (.int s.1), some (.int 0), y6], [], zhp s.2)) rfl ?_
        obtain ⟨t14, ht14, hv3⟩ := zbs hv3
        refine t_qOr_playTurn_b29 (oc := 7) (x2 := x2) (x3 := x3) (x4 := s.1) (by decide) ?_ zfu _ ht14 _
        intro y5 y6
        cases hv3
        exact kv3 _ _
      · replace hv3 := zif_f c2 hv3
        refine zEv_k 1 (f' := (107, [some (.ref 192), some (.ref 7), some (.int x2), some (.int x3), some (.int s.1), y5, y6], [], zhp s.2)) rfl ?_
        cases hv3
        exact kv3 _ _
  · refine zEv_k 2 (f' := (6, [some (.ref 192), some (.ref 22), some (.int x2), some (.int x3), some (.int s.1), y5, y6], [.ref 22, .int s.1], zhp s.2)) rfl ?_
    refine zEv_c (fun _ => rfl) rfl (t_qCe_all (oo := 22) (h := s.2) (d := d + 3) (by decide) rfl) rfl rfl ?_
    refine zEv_k 1 (f' := (if (qCe_all 22 s.2) < s.1 then 113 else 12, [some (.ref 192), some (.ref 22), some (.int x2), some (.int x3), some (.int s.1), y5, y6], [], zhp s.2)) rfl (zEv_if (fun c1 => ?_) (fun c1 => ?_))
    · replace H := zif_t c1 H
      cases H
      exact K _ _ _
    · replace H := zif_f c1 H
      obtain ⟨v3, hv3, H⟩ := zbs H
      have kv3 : ∀ (y5 : Option Value) (y6 : Option Value), zEv (zXs Ls xs) (d + 4) zm_51 (107, [some (.ref 192), some (.ref 22), some (.int x2), some (.int x3), some (.int s.1), y5, y6], [], zhp v3) r := by
        intro y5 y6
        refine zEv_k 2 (f' := (3, [some (.ref 192), some (.ref 22), some (.int x2), some (.int x3), some (.int (s.1 + 1)), y5, y6], [], zhp v3)) rfl ?_
        cases H
        exact K _ _
      clear H
      refine zEv_k 1 (f' := (14, [some (.ref 192), some (.ref 22), some (.int x2), some (.int x3), some (.int s.1), y5, y6], [.int s.1], zhp s.2)) rfl ?_
      refine zEv_c (fun _ => rfl) rfl (t_qIn_bitCount (x0 := s.1) (h := s.2) (d := d + 3) rfl) rfl rfl ?_
      refine zEv_k 4 (f' := (if (qIn_bitCount s.1) ≤ (x2 - x3) then 26 else 23, [some (.ref 192), some (.ref 22), some (.int x2), some (.int x3), some (.int s.1), y5, y6], [], zhp s.2)) rfl (zEv_if (fun c2 => ?_) (fun c2 => ?_))
      · replace hv3 := zif_t c2 hv3
        refine zEv_k 2 (f' := (29, [some (.ref 192), some (.ref 22), some (.int x2), some (.int x3), some (.int s.1), some (.int 0), y6], [], zhp s.2)) rfl ?_
        obtain ⟨t14, ht14, hv3⟩ := zbs hv3
        refine t_qOr_playTurn_b29 (oc := 22) (x2 := x2) (x3 := x3) (x4 := s.1) (by decide) ?_ zfu _ ht14 _
        intro y5 y6
        cases hv3
        exact kv3 _ _
      · replace hv3 := zif_f c2 hv3
        refine zEv_k 1 (f' := (107, [some (.ref 192), some (.ref 22), some (.int x2), some (.int x3), some (.int s.1), y5, y6], [], zhp s.2)) rfl ?_
        cases hv3
        exact kv3 _ _
theorem t_qOr_playTurn_b3 {Ls : Nat} {xs : Nat → Int32} {d : Nat} {oc : Nat} {x2 : Int32} {x3 : Int32} {r : zA} (ho : oc = 7 ∨ oc = 22) {t : zK} (K : ∀ (z4 : Option Value) (z5 : Option Value) (z6 : Option Value), zEv (zXs Ls xs) (d + 4) zm_51 (113, [some (.ref 192), some (.ref oc), some (.int x2), some (.int x3), z4, z5, z6], [], zhp t) r) (n : Nat) (s : Int32 × zK) (H : zloop (qOr_playTurn_b3 oc x2 x3) n s = some t) (y5 : Option Value) (y6 : Option Value) : zEv (zXs Ls xs) (d + 4) zm_51 (3, [some (.ref 192), some (.ref oc), some (.int x2), some (.int x3), some (.int s.1), y5, y6], [], zhp s.2) r := by
  have Z := zloop_P (P := fun s => ∀ (y5 : Option Value) (y6 : Option Value), zEv (zXs Ls xs) (d + 4) zm_51 (3, [some (.ref 192), some (.ref oc), some (.int x2), some (.int x3), some (.int s.1), y5, y6], [], zhp s.2) r) (b := qOr_playTurn_b3 oc x2 x3) (t := t) (fun s s2 hb hk => by intro y5 y6; exact t_qOr_playTurn_b3b ho hb hk y5 y6) (fun s hb => by intro y5 y6; exact t_qOr_playTurn_b3b ho hb K y5 y6) n s H
  exact Z y5 y6
def qOr_playTurn (oc : Nat) (x2 : Int32) (x3 : Int32) (h : zK) : Option (zK) :=
  (zloop (qOr_playTurn_b3 oc x2 x3) zfu (0, h)).bind fun t16 =>
  some t16
theorem t_qOr_playTurn {Ls : Nat} {xs : Nat → Int32} {d : Nat} {oc : Nat} {x2 : Int32} {x3 : Int32} {h : zK} {p : zK} (ho : oc = 7 ∨ oc = 22) (H : qOr_playTurn oc x2 x3 h = some p) : zEv (zXs Ls xs) (d + 4) zm_51 (0, [some (.ref 192), some (.ref oc), some (.int x2), some (.int x3), none, none, none], [], zhp h) (none, zhp p) := by
  unfold qOr_playTurn at H
  rcases ho with rfl | rfl
  · refine zEv_k 2 (f' := (3, [some (.ref 192), some (.ref 7), some (.int x2), some (.int x3), some (.int 0), none, none], [], zhp h)) rfl ?_
    obtain ⟨t16, ht16, H⟩ := zbs H
    refine t_qOr_playTurn_b3 (oc := 7) (x2 := x2) (x3 := x3) (by decide) ?_ zfu _ ht16 _ _
    intro y4 y5 y6
    cases H
    exact zEv_r rfl
  · refine zEv_k 2 (f' := (3, [some (.ref 192), some (.ref 22), some (.int x2), some (.int x3), some (.int 0), none, none], [], zhp h)) rfl ?_
    obtain ⟨t16, ht16, H⟩ := zbs H
    refine t_qOr_playTurn_b3 (oc := 22) (x2 := x2) (x3 := x3) (by decide) ?_ zfu _ ht16 _ _
    intro y4 y5 y6
    cases H
    exact zEv_r rfl
def qOr_playOut_b12 (oc : Nat) (x2 : Int32) (s : Int32 × zK) : Option ((Int32 × zK) ⊕ (zK)) :=
  if 1024 ≤ s.1 then
    some (.inr s.2)
  else
    (zix s.1 1408).bind fun j4 =>
    zlet (sI s.2 194 j4 0) fun h5 =>
    some (.inl (s.1 + 1, h5))
theorem t_qOr_playOut_b12b {Ls : Nat} {xs : Nat → Int32} {d : Nat} {oc : Nat} {x2 : Int32} {r : zA} {s : Int32 × zK} {e : (Int32 × zK) ⊕ (zK)} (ho : oc = 7 ∨ oc = 22) (H : qOr_playOut_b12 oc x2 s = some e) (K : match (generalizing := false) e with | .inl s' => zEv (zXs Ls xs) (d + 5) zm_50 (12, [some (.ref 192), some (.ref oc), some (.int x2), some (.int s'.1)], [], zhp s'.2) r | .inr v => ∀ (z3 : Option Value), zEv (zXs Ls xs) (d + 5) zm_50 (32, [some (.ref 192), some (.ref oc), some (.int x2), z3], [], zhp v) r) : zEv (zXs Ls xs) (d + 5) zm_50 (12, [some (.ref 192), some (.ref oc), some (.int x2), some (.int s.1)], [], zhp s.2) r := by
  unfold qOr_playOut_b12 at H
  rcases ho with rfl | rfl
  · refine zEv_k 3 (f' := (if 1024 ≤ s.1 then 32 else 19, [some (.ref 192), some (.ref 7), some (.int x2), some (.int s.1)], [], zhp s.2)) rfl (zEv_if (fun c3 => ?_) (fun c3 => ?_))
    · replace H := zif_t c3 H
      cases H
      exact K _
    · replace H := zif_f c3 H
      refine zEv_k 1 (f' := (20, [some (.ref 192), some (.ref 7), some (.int x2), some (.int s.1)], [.ref 192], zhp s.2)) rfl ?_
      refine zRgr rfl rfl rfl (by decide) (b := 194) rfl ?_
      refine zEv_k 2 (f' := (25, [some (.ref 192), some (.ref 7), some (.int x2), some (.int s.1)], [.int 0, .int s.1, .ref 194], zhp s.2)) rfl ?_
      obtain ⟨j4, hj4, H⟩ := zbs H
      obtain ⟨h5, eh5, H⟩ := zlets H
      refine zRis rfl rfl (by decide) hj4 eh5 ?_
      refine zEv_k 2 (f' := (12, [some (.ref 192), some (.ref 7), some (.int x2), some (.int (s.1 + 1))], [], zhp h5)) rfl ?_
      cases H
      exact K
  · refine zEv_k 3 (f' := (if 1024 ≤ s.1 then 32 else 19, [some (.ref 192), some (.ref 22), some (.int x2), some (.int s.1)], [], zhp s.2)) rfl (zEv_if (fun c3 => ?_) (fun c3 => ?_))
    · replace H := zif_t c3 H
      cases H
      exact K _
    · replace H := zif_f c3 H
      refine zEv_k 1 (f' := (20, [some (.ref 192), some (.ref 22), some (.int x2), some (.int s.1)], [.ref 192], zhp s.2)) rfl ?_
      refine zRgr rfl rfl rfl (by decide) (b := 194) rfl ?_
      refine zEv_k 2 (f' := (25, [some (.ref 192), some (.ref 22), some (.int x2), some (.int s.1)], [.int 0, .int s.1, .ref 194], zhp s.2)) rfl ?_
      obtain ⟨j4, hj4, H⟩ := zbs H
      obtain ⟨h5, eh5, H⟩ := zlets H
      refine zRis rfl rfl (by decide) hj4 eh5 ?_
      refine zEv_k 2 (f' := (12, [some (.ref 192), some (.ref 22), some (.int x2), some (.int (s.1 + 1))], [], zhp h5)) rfl ?_
      cases H
      exact K
theorem t_qOr_playOut_b12 {Ls : Nat} {xs : Nat → Int32} {d : Nat} {oc : Nat} {x2 : Int32} {r : zA} (ho : oc = 7 ∨ oc = 22) {t : zK} (K : ∀ (z3 : Option Value), zEv (zXs Ls xs) (d + 5) zm_50 (32, [some (.ref 192), some (.ref oc), some (.int x2), z3], [], zhp t) r) (n : Nat) (s : Int32 × zK) (H : zloop (qOr_playOut_b12 oc x2) n s = some t) : zEv (zXs Ls xs) (d + 5) zm_50 (12, [some (.ref 192), some (.ref oc), some (.int x2), some (.int s.1)], [], zhp s.2) r := by
  have Z := zloop_P (P := fun s => zEv (zXs Ls xs) (d + 5) zm_50 (12, [some (.ref 192), some (.ref oc), some (.int x2), some (.int s.1)], [], zhp s.2) r) (b := qOr_playOut_b12 oc x2) (t := t) (fun s s2 hb hk => by exact t_qOr_playOut_b12b ho hb hk) (fun s hb => by exact t_qOr_playOut_b12b ho hb K) n s H
  exact Z
def qOr_playOut_b34 (oc : Nat) (x2 : Int32) (s : Int32 × zK) : Option ((Int32 × zK) ⊕ (zK)) :=
  if x2 ≤ s.1 then
    some (.inr s.2)
  else
    (qOr_playTurn oc x2 s.1 s.2).bind fun p9 =>
    some (.inl (s.1 + 1, p9))
theorem t_qOr_playOut_b34b {Ls : Nat} {xs : Nat → Int32} {d : Nat} {oc : Nat} {x2 : Int32} {r : zA} {s : Int32 × zK} {e : (Int32 × zK) ⊕ (zK)} (ho : oc = 7 ∨ oc = 22) (H : qOr_playOut_b34 oc x2 s = some e) (K : match (generalizing := false) e with | .inl s' => zEv (zXs Ls xs) (d + 5) zm_50 (34, [some (.ref 192), some (.ref oc), some (.int x2), some (.int s'.1)], [], zhp s'.2) r | .inr v => ∀ (z3 : Option Value), zEv (zXs Ls xs) (d + 5) zm_50 (52, [some (.ref 192), some (.ref oc), some (.int x2), z3], [], zhp v) r) : zEv (zXs Ls xs) (d + 5) zm_50 (34, [some (.ref 192), some (.ref oc), some (.int x2), some (.int s.1)], [], zhp s.2) r := by
  unfold qOr_playOut_b34 at H
  rcases ho with rfl | rfl
  · refine zEv_k 3 (f' := (if x2 ≤ s.1 then 52 else 39, [some (.ref 192), some (.ref 7), some (.int x2), some (.int s.1)], [], zhp s.2)) rfl (zEv_if (fun c8 => ?_) (fun c8 => ?_))
    · replace H := zif_t c8 H
      cases H
      exact K _
    · replace H := zif_f c8 H
      refine zEv_k 4 (f' := (43, [some (.ref 192), some (.ref 7), some (.int x2), some (.int s.1)], [.int s.1, .int x2, .ref 7, .ref 192], zhp s.2)) rfl ?_
      obtain ⟨p9, hp9, H⟩ := zbs H
      refine zEv_c (fun _ => rfl) rfl (t_qOr_playTurn (oc := 7) (x2 := x2) (x3 := s.1) (h := s.2) (d := d) (by decide) hp9) rfl rfl ?_
      refine zEv_k 2 (f' := (34, [some (.ref 192), some (.ref 7), some (.int x2), some (.int (s.1 + 1))], [], zhp p9)) rfl ?_
      cases H
      exact K
  · refine zEv_k 3 (f' := (if x2 ≤ s.1 then 52 else 39, [some (.ref 192), some (.ref 22), some (.int x2), some (.int s.1)], [], zhp s.2)) rfl (zEv_if (fun c8 => ?_) (fun c8 => ?_))
    · replace H := zif_t c8 H
      cases H
      exact K _
    · replace H := zif_f c8 H
      refine zEv_k 4 (f' := (43, [some (.ref 192), some (.ref 22), some (.int x2), some (.int s.1)], [.int s.1, .int x2, .ref 22, .ref 192], zhp s.2)) rfl ?_
      obtain ⟨p9, hp9, H⟩ := zbs H
      refine zEv_c (fun _ => rfl) rfl (t_qOr_playTurn (oc := 22) (x2 := x2) (x3 := s.1) (h := s.2) (d := d) (by decide) hp9) rfl rfl ?_
      refine zEv_k 2 (f' := (34, [some (.ref 192), some (.ref 22), some (.int x2), some (.int (s.1 + 1))], [], zhp p9)) rfl ?_
      cases H
      exact K
theorem t_qOr_playOut_b34 {Ls : Nat} {xs : Nat → Int32} {d : Nat} {oc : Nat} {x2 : Int32} {r : zA} (ho : oc = 7 ∨ oc = 22) {t : zK} (K : ∀ (z3 : Option Value), zEv (zXs Ls xs) (d + 5) zm_50 (52, [some (.ref 192), some (.ref oc), some (.int x2), z3], [], zhp t) r) (n : Nat) (s : Int32 × zK) (H : zloop (qOr_playOut_b34 oc x2) n s = some t) : zEv (zXs Ls xs) (d + 5) zm_50 (34, [some (.ref 192), some (.ref oc), some (.int x2), some (.int s.1)], [], zhp s.2) r := by
  have Z := zloop_P (P := fun s => zEv (zXs Ls xs) (d + 5) zm_50 (34, [some (.ref 192), some (.ref oc), some (.int x2), some (.int s.1)], [], zhp s.2) r) (b := qOr_playOut_b34 oc x2) (t := t) (fun s s2 hb hk => by exact t_qOr_playOut_b34b ho hb hk) (fun s hb => by exact t_qOr_playOut_b34b ho hb K) n s H
  exact Z
def qOr_playOut (oc : Nat) (x2 : Int32) (h : zK) : Option (zK) :=
  zlet (sI h 192 0 0) fun h1 =>
  zlet (sI h1 192 1 (-1)) fun h2 =>
  (zloop (qOr_playOut_b12 oc x2) zfu (0, h2)).bind fun t6 =>
  (zloop (qOr_playOut_b34 oc x2) zfu (1, t6)).bind fun t10 =>
  if x2 ≤ 0 then
    some t10
  else
    (qOr_bestMove oc 0 7 t10).bind fun p13 =>
    zlet (sI t10 192 1 p13) fun h14 =>
    (qOr_lead oc 0 7 (gI h14 192 1) h14).bind fun p15 =>
    zlet (sI h14 192 0 p15) fun h16 =>
    some h16
theorem t_qOr_playOut {Ls : Nat} {xs : Nat → Int32} {d : Nat} {oc : Nat} {x2 : Int32} {h : zK} {p : zK} (ho : oc = 7 ∨ oc = 22) (H : qOr_playOut oc x2 h = some p) : zEv (zXs Ls xs) (d + 5) zm_50 (0, [some (.ref 192), some (.ref oc), some (.int x2), none], [], zhp h) (none, zhp p) := by
  unfold qOr_playOut at H
  rcases ho with rfl | rfl
  · obtain ⟨h1, eh1, H⟩ := zlets H
    refine zEv_w (F := fun z => (5, [some (.ref 192), some (.ref 7), some (.int x2), none], [], zhp z)) (h0 := sI h 192 0 0) 3 rfl eh1 ?_
    obtain ⟨h2, eh2, H⟩ := zlets H
    refine zEv_w (F := fun z => (10, [some (.ref 192), some (.ref 7), some (.int x2), none], [], zhp z)) (h0 := sI h1 192 1 (-1)) 3 rfl eh2 ?_
    refine zEv_k 2 (f' := (12, [some (.ref 192), some (.ref 7), some (.int x2), some (.int 0)], [], zhp h2)) rfl ?_
    obtain ⟨t6, ht6, H⟩ := zbs H
    refine t_qOr_playOut_b12 (oc := 7) (x2 := x2) (by decide) ?_ zfu _ ht6
    intro y3
    refine zEv_k 2 (f' := (34, [some (.ref 192), some (.ref 7), some (.int x2), some (.int 1)], [], zhp t6)) rfl ?_
    obtain ⟨t10, ht10, H⟩ := zbs H
    refine t_qOr_playOut_b34 (oc := 7) (x2 := x2) (by decide) ?_ zfu _ ht10
    intro y3
    refine zEv_k 2 (f' := (if x2 ≤ 0 then 84 else 56, [some (.ref 192), some (.ref 7), some (.int x2), y3], [], zhp t10)) rfl (zEv_if (fun c12 => ?_) (fun c12 => ?_))
    · replace H := zif_t c12 H
      cases H
      exact zEv_r rfl
    · replace H := zif_f c12 H
      refine zEv_k 5 (f' := (62, [some (.ref 192), some (.ref 7), some (.int x2), y3], [.int 7, .int 0, .ref 7, .ref 192, .ref 192], zhp t10)) rfl ?_
      obtain ⟨p13, hp13, H⟩ := zbs H
      refine zEv_c (fun _ => rfl) rfl (t_qOr_bestMove (oc := 7) (x2 := 0) (x3 := 7) (h := t10) (d := d + 1) (by decide) hp13) rfl rfl ?_
      obtain ⟨h14, eh14, H⟩ := zlets H
      refine zEv_w (F := fun z => (68, [some (.ref 192), some (.ref 7), some (.int x2), y3], [], zhp z)) (h0 := sI t10 192 1 p13) 1 rfl eh14 ?_
      refine zEv_k 7 (f' := (78, [some (.ref 192), some (.ref 7), some (.int x2), y3], [.int (gI h14 192 1), .int 7, .int 0, .ref 7, .ref 192, .ref 192], zhp h14)) rfl ?_
      obtain ⟨p15, hp15, H⟩ := zbs H
      refine zEv_c (fun _ => rfl) rfl (t_qOr_lead (oc := 7) (x2 := 0) (x3 := 7) (x4 := gI h14 192 1) (h := h14) (d := d + 2) (by decide) hp15) rfl rfl ?_
      obtain ⟨h16, eh16, H⟩ := zlets H
      refine zEv_w (F := fun z => (84, [some (.ref 192), some (.ref 7), some (.int x2), y3], [], zhp z)) (h0 := sI h14 192 0 p15) 1 rfl eh16 ?_
      cases H
      exact zEv_r rfl
  · obtain ⟨h1, eh1, H⟩ := zlets H
    refine zEv_w (F := fun z => (5, [some (.ref 192), some (.ref 22), some (.int x2), none], [], zhp z)) (h0 := sI h 192 0 0) 3 rfl eh1 ?_
    obtain ⟨h2, eh2, H⟩ := zlets H
    refine zEv_w (F := fun z => (10, [some (.ref 192), some (.ref 22), some (.int x2), none], [], zhp z)) (h0 := sI h1 192 1 (-1)) 3 rfl eh2 ?_
    refine zEv_k 2 (f' := (12, [some (.ref 192), some (.ref 22), some (.int x2), some (.int 0)], [], zhp h2)) rfl ?_
    obtain ⟨t6, ht6, H⟩ := zbs H
    refine t_qOr_playOut_b12 (oc := 22) (x2 := x2) (by decide) ?_ zfu _ ht6
    intro y3
    refine zEv_k 2 (f' := (34, [some (.ref 192), some (.ref 22), some (.int x2), some (.int 1)], [], zhp t6)) rfl ?_
    obtain ⟨t10, ht10, H⟩ := zbs H
    refine t_qOr_playOut_b34 (oc := 22) (x2 := x2) (by decide) ?_ zfu _ ht10
    intro y3
    refine zEv_k 2 (f' := (if x2 ≤ 0 then 84 else 56, [some (.ref 192), some (.ref 22), some (.int x2), y3], [], zhp t10)) rfl (zEv_if (fun c12 => ?_) (fun c12 => ?_))
    · replace H := zif_t c12 H
      cases H
      exact zEv_r rfl
    · replace H := zif_f c12 H
      refine zEv_k 5 (f' := (62, [some (.ref 192), some (.ref 22), some (.int x2), y3], [.int 7, .int 0, .ref 22, .ref 192, .ref 192], zhp t10)) rfl ?_
      obtain ⟨p13, hp13, H⟩ := zbs H
      refine zEv_c (fun _ => rfl) rfl (t_qOr_bestMove (oc := 22) (x2 := 0) (x3 := 7) (h := t10) (d := d + 1) (by decide) hp13) rfl rfl ?_
      obtain ⟨h14, eh14, H⟩ := zlets H
      refine zEv_w (F := fun z => (68, [some (.ref 192), some (.ref 22), some (.int x2), y3], [], zhp z)) (h0 := sI t10 192 1 p13) 1 rfl eh14 ?_
      refine zEv_k 7 (f' := (78, [some (.ref 192), some (.ref 22), some (.int x2), y3], [.int (gI h14 192 1), .int 7, .int 0, .ref 22, .ref 192, .ref 192], zhp h14)) rfl ?_
      obtain ⟨p15, hp15, H⟩ := zbs H
      refine zEv_c (fun _ => rfl) rfl (t_qOr_lead (oc := 22) (x2 := 0) (x3 := 7) (x4 := gI h14 192 1) (h := h14) (d := d + 2) (by decide) hp15) rfl rfl ?_
      obtain ⟨h16, eh16, H⟩ := zlets H
      refine zEv_w (F := fun z => (84, [some (.ref 192), some (.ref 22), some (.int x2), y3], [], zhp z)) (h0 := sI h14 192 0 p15) 1 rfl eh16 ?_
      cases H
      exact zEv_r rfl
def qRe_begin (x2 : Int32) (h : zK) : Option (zK) :=
  zlet (sI h 147 8 (zf_max 0 (zf_min x2 (zf_min 600 600)))) fun h1 =>
  if zcpb 0 0 (gI h1 147 8) 600 600 = true then
    zlet (cI h1 2 163 0 0 ((gI h1 147 8).toNatClampNeg)) fun h2 =>
    zlet (sI h2 147 9 0) fun h4 =>
    zlet (sI h4 147 3 0) fun h5 =>
    zlet (sI h5 147 4 (-1)) fun h6 =>
    zlet (sI h6 147 13 0) fun h7 =>
    (qCe_clear h7).bind fun p8 =>
    zlet (sI p8 156 0 0) fun h9 =>
    zlet (sI h9 160 0 0) fun h10 =>
    some h10
  else none
theorem t_qRe_begin {Ls : Nat} {xs : Nat → Int32} {d : Nat} {x2 : Int32} {h : zK} {p : zK} (H : qRe_begin x2 h = some p) : zEv (zXs Ls xs) (d + 1) zm_56 (0, [some (.ref 147), some (.ref 2), some (.int x2)], [], zhp h) (none, zhp p) := by
  unfold qRe_begin at H
  refine zEv_k 9 (f' := (17, [some (.ref 147), some (.ref 2), some (.int x2)], [.int (zf_max 0 (zf_min x2 (zf_min 600 600))), .ref 147], zhp h)) rfl ?_
  obtain ⟨h1, eh1, H⟩ := zlets H
  refine zEv_w (F := fun z => (20, [some (.ref 147), some (.ref 2), some (.int x2)], [], zhp z)) (h0 := sI h 147 8 (zf_max 0 (zf_min x2 (zf_min 600 600)))) 1 rfl eh1 ?_
  refine zEv_k 3 (f' := (23, [some (.ref 147), some (.ref 2), some (.int x2)], [.ref 147, .int 0, .ref 2], zhp h1)) rfl ?_
  refine zRgr rfl rfl rfl (by decide) (b := 163) rfl ?_
  refine zEv_k 3 (f' := (31, [some (.ref 147), some (.ref 2), some (.int x2)], [.int (gI h1 147 8), .int 0, .ref 163, .int 0, .ref 2], zhp h1)) rfl ?_
  obtain ⟨c3, H⟩ := zifn H
  obtain ⟨h2, eh2, H⟩ := zlets H
  refine zRcp rfl rfl rfl (by decide) (by decide) (by decide) (zcpb_ok c3) (by decide) eh2 ?_
  obtain ⟨h4, eh4, H⟩ := zlets H
  refine zEv_w (F := fun z => (39, [some (.ref 147), some (.ref 2), some (.int x2)], [], zhp z)) (h0 := sI h2 147 9 0) 3 rfl eh4 ?_
  obtain ⟨h5, eh5, H⟩ := zlets H
  refine zEv_w (F := fun z => (44, [some (.ref 147), some (.ref 2), some (.int x2)], [], zhp z)) (h0 := sI h4 147 3 0) 3 rfl eh5 ?_
  obtain ⟨h6, eh6, H⟩ := zlets H
  refine zEv_w (F := fun z => (49, [some (.ref 147), some (.ref 2), some (.int x2)], [], zhp z)) (h0 := sI h5 147 4 (-1)) 3 rfl eh6 ?_
  obtain ⟨h7, eh7, H⟩ := zlets H
  refine zEv_w (F := fun z => (54, [some (.ref 147), some (.ref 2), some (.int x2)], [], zhp z)) (h0 := sI h6 147 13 0) 3 rfl eh7 ?_
  refine zEv_k 1 (f' := (55, [some (.ref 147), some (.ref 2), some (.int x2)], [.ref 147], zhp h7)) rfl ?_
  refine zRgr rfl rfl rfl (by decide) (b := 148) rfl ?_
  obtain ⟨p8, hp8, H⟩ := zbs H
  refine zEv_c (fun _ => rfl) rfl (t_qCe_clear (h := h7) (d := d) hp8) rfl rfl ?_
  refine zEv_k 1 (f' := (62, [some (.ref 147), some (.ref 2), some (.int x2)], [.ref 147], zhp p8)) rfl ?_
  refine zRgr rfl rfl rfl (by decide) (b := 156) rfl ?_
  obtain ⟨h9, eh9, H⟩ := zlets H
  refine zEv_w (F := fun z => (69, [some (.ref 147), some (.ref 2), some (.int x2)], [], zhp z)) (h0 := sI p8 156 0 0) 2 rfl eh9 ?_
  refine zEv_k 1 (f' := (70, [some (.ref 147), some (.ref 2), some (.int x2)], [.ref 147], zhp h9)) rfl ?_
  refine zRgr rfl rfl rfl (by decide) (b := 160) rfl ?_
  obtain ⟨h10, eh10, H⟩ := zlets H
  refine zEv_w (F := fun z => (77, [some (.ref 147), some (.ref 2), some (.int x2)], [], zhp z)) (h0 := sI h9 160 0 0) 2 rfl eh10 ?_
  cases H
  exact zEv_r rfl
def qRe_isLetter (x0 : Int32) : Int32 :=
  if x0 < 97 then
    0
  else
    if 122 < x0 then
      0
    else
      1
theorem t_qRe_isLetter {Ls : Nat} {xs : Nat → Int32} {d : Nat} {x0 : Int32} {h : zK} {p : Int32} (H : qRe_isLetter x0 = p) : zEv (zXs Ls xs) d zm_65 (0, [some (.int x0)], [], zhp h) (some (.int p), zhp h) := by
  unfold qRe_isLetter at H
  refine zEv_k 3 (f' := (if x0 < 97 then 16 else 6, [some (.int x0)], [], zhp h)) rfl (zEv_if (fun c1 => ?_) (fun c1 => ?_))
  · replace H := zif_t c1 H
    refine zEv_k 1 (f' := (17, [some (.int x0)], [.int 0], zhp h)) rfl ?_
    cases H
    exact zEv_r rfl
  · replace H := zif_f c1 H
    refine zEv_k 3 (f' := (if 122 < x0 then 16 else 12, [some (.int x0)], [], zhp h)) rfl (zEv_if (fun c2 => ?_) (fun c2 => ?_))
    · replace H := zif_t c2 H
      refine zEv_k 1 (f' := (17, [some (.int x0)], [.int 0], zhp h)) rfl ?_
      cases H
      exact zEv_r rfl
    · replace H := zif_f c2 H
      refine zEv_k 2 (f' := (17, [some (.int x0)], [.int 1], zhp h)) rfl ?_
      cases H
      exact zEv_r rfl
def qRe_isDigit (x0 : Int32) : Int32 :=
  if x0 < 48 then
    0
  else
    if 57 < x0 then
      0
    else
      1
theorem t_qRe_isDigit {Ls : Nat} {xs : Nat → Int32} {d : Nat} {x0 : Int32} {h : zK} {p : Int32} (H : qRe_isDigit x0 = p) : zEv (zXs Ls xs) d zm_66 (0, [some (.int x0)], [], zhp h) (some (.int p), zhp h) := by
  unfold qRe_isDigit at H
  refine zEv_k 3 (f' := (if x0 < 48 then 16 else 6, [some (.int x0)], [], zhp h)) rfl (zEv_if (fun c1 => ?_) (fun c1 => ?_))
  · replace H := zif_t c1 H
    refine zEv_k 1 (f' := (17, [some (.int x0)], [.int 0], zhp h)) rfl ?_
    cases H
    exact zEv_r rfl
  · replace H := zif_f c1 H
    refine zEv_k 3 (f' := (if 57 < x0 then 16 else 12, [some (.int x0)], [], zhp h)) rfl (zEv_if (fun c2 => ?_) (fun c2 => ?_))
    · replace H := zif_t c2 H
      refine zEv_k 1 (f' := (17, [some (.int x0)], [.int 0], zhp h)) rfl ?_
      cases H
      exact zEv_r rfl
    · replace H := zif_f c2 H
      refine zEv_k 2 (f' := (17, [some (.int x0)], [.int 1], zhp h)) rfl ?_
      cases H
      exact zEv_r rfl
def qRe_stepNumber_b5 (s : zK) : Option ((zK) ⊕ (zK)) :=
  if (gI s 147 8) ≤ (gI s 147 9) then
    some (.inr s)
  else
    (zix (gI s 147 9) 600).bind fun j3 =>
    if (qRe_isDigit (gI s 163 j3)) = 0 then
      some (.inr s)
    else
      zlet (sI s 147 12 ((((gI s 147 12) * 10) + (gI s 163 j3)) - 48)) fun h5 =>
      zlet (sI h5 147 9 ((gI h5 147 9) + 1)) fun h6 =>
      some (.inl h6)
theorem t_qRe_stepNumber_b5b {Ls : Nat} {xs : Nat → Int32} {d : Nat} {r : zA} {s : zK} {e : (zK) ⊕ (zK)} (H : qRe_stepNumber_b5 s = some e) (K : match (generalizing := false) e with | .inl s' => zEv (zXs Ls xs) (d + 1) zm_64 (5, [some (.ref 147)], [], zhp s') r | .inr v => zEv (zXs Ls xs) (d + 1) zm_64 (68, [some (.ref 147)], [], zhp v) r) : zEv (zXs Ls xs) (d + 1) zm_64 (5, [some (.ref 147)], [], zhp s) r := by
  unfold qRe_stepNumber_b5 at H
  refine zEv_k 5 (f' := (if (gI s 147 8) ≤ (gI s 147 9) then 68 else 16, [some (.ref 147)], [], zhp s)) rfl (zEv_if (fun c2 => ?_) (fun c2 => ?_))
  · replace H := zif_t c2 H
    cases H
    exact K
  · replace H := zif_f c2 H
    refine zEv_k 1 (f' := (17, [some (.ref 147)], [.ref 147], zhp s)) rfl ?_
    refine zRgr rfl rfl rfl (by decide) (b := 163) rfl ?_
    refine zEv_k 2 (f' := (24, [some (.ref 147)], [.int (gI s 147 9), .ref 163], zhp s)) rfl ?_
    obtain ⟨j3, hj3, H⟩ := zbs H
    refine zRba rfl rfl (by decide) hj3 ?_
    refine zEv_c (fun _ => rfl) rfl (t_qRe_isDigit (x0 := gI s 163 j3) (h := s) (d := d) rfl) rfl rfl ?_
    refine zEv_k 1 (f' := (if (qRe_isDigit (gI s 163 j3)) = 0 then 68 else 31, [some (.ref 147)], [], zhp s)) rfl (zEv_if (fun c4 => ?_) (fun c4 => ?_))
    · replace H := zif_t c4 H
      cases H
      exact K
    · replace H := zif_f c4 H
      refine zEv_k 6 (f' := (40, [some (.ref 147)], [.ref 147, .int ((gI s 147 12) * 10), .ref 147], zhp s)) rfl ?_
      refine zRgr rfl rfl rfl (by decide) (b := 163) rfl ?_
      refine zEv_k 2 (f' := (47, [some (.ref 147)], [.int (gI s 147 9), .ref 163, .int ((gI s 147 12) * 10), .ref 147], zhp s)) rfl ?_
      refine zRba rfl rfl (by decide) hj3 ?_
      obtain ⟨h5, eh5, H⟩ := zlets H
      refine zEv_w (F := fun z => (55, [some (.ref 147)], [], zhp z)) (h0 := sI s 147 12 ((((gI s 147 12) * 10) + (gI s 163 j3)) - 48)) 4 rfl eh5 ?_
      obtain ⟨h6, eh6, H⟩ := zlets H
      refine zEv_w (F := fun z => (65, [some (.ref 147)], [], zhp z)) (h0 := sI h5 147 9 ((gI h5 147 9) + 1)) 6 rfl eh6 ?_
      refine zEv_k 1 (f' := (5, [some (.ref 147)], [], zhp h6)) rfl ?_
      cases H
      exact K
theorem t_qRe_stepNumber_b5 {Ls : Nat} {xs : Nat → Int32} {d : Nat} {r : zA} {t : zK} (K : zEv (zXs Ls xs) (d + 1) zm_64 (68, [some (.ref 147)], [], zhp t) r) (n : Nat) (s : zK) (H : zloop (qRe_stepNumber_b5) n s = some t) : zEv (zXs Ls xs) (d + 1) zm_64 (5, [some (.ref 147)], [], zhp s) r := by
  have Z := zloop_P (P := fun s => zEv (zXs Ls xs) (d + 1) zm_64 (5, [some (.ref 147)], [], zhp s) r) (b := qRe_stepNumber_b5) (t := t) (fun s s2 hb hk => by exact t_qRe_stepNumber_b5b hb hk) (fun s hb => by exact t_qRe_stepNumber_b5b hb K) n s H
  exact Z
def qRe_stepNumber (h : zK) : Option (zK) :=
  zlet (sI h 147 12 0) fun h1 =>
  (zloop (qRe_stepNumber_b5) zfu h1).bind fun t7 =>
  if 2 < ((gI t7 147 9) - (gI t7 147 11)) then
    zlet (sI t7 147 10 4) fun h10 =>
    some h10
  else
    zlet (sI t7 147 10 2) fun h11 =>
    some h11
theorem t_qRe_stepNumber {Ls : Nat} {xs : Nat → Int32} {d : Nat} {h : zK} {p : zK} (H : qRe_stepNumber h = some p) : zEv (zXs Ls xs) (d + 1) zm_64 (0, [some (.ref 147)], [], zhp h) (none, zhp p) := by
  unfold qRe_stepNumber at H
  obtain ⟨h1, eh1, H⟩ := zlets H
  refine zEv_w (F := fun z => (5, [some (.ref 147)], [], zhp z)) (h0 := sI h 147 12 0) 3 rfl eh1 ?_
  obtain ⟨t7, ht7, H⟩ := zbs H
  refine t_qRe_stepNumber_b5 ?_ zfu _ ht7
  refine zEv_k 8 (f' := (if 2 < ((gI t7 147 9) - (gI t7 147 11)) then 86 else 82, [some (.ref 147)], [.ref 147], zhp t7)) rfl (zEv_if (fun c9 => ?_) (fun c9 => ?_))
  · replace H := zif_t c9 H
    obtain ⟨h10, eh10, H⟩ := zlets H
    refine zEv_w (F := fun z => (90, [some (.ref 147)], [], zhp z)) (h0 := sI t7 147 10 4) 2 rfl eh10 ?_
    cases H
    exact zEv_r rfl
  · replace H := zif_f c9 H
    obtain ⟨h11, eh11, H⟩ := zlets H
    refine zEv_w (F := fun z => (90, [some (.ref 147)], [], zhp z)) (h0 := sI t7 147 10 2) 3 rfl eh11 ?_
    cases H
    exact zEv_r rfl
def qRe_step_j39 (h : zK) : Option ((zK) ⊕ (zK)) :=
  zlet (sI h 147 9 ((gI h 147 9) + 1)) fun h4 =>
  some (.inl h4)
theorem t_qRe_step_j39 {Ls : Nat} {xs : Nat → Int32} {d : Nat} {h : zK} {r : zA} {e : (zK) ⊕ (zK)} (H : qRe_step_j39 h = some e) (K : match (generalizing := false) e with | .inl s' => zEv (zXs Ls xs) (d + 2) zm_63 (0, [some (.ref 147)], [], zhp s') r | .inr v => zEv (zXs Ls xs) (d + 2) zm_63 (52, [some (.ref 147)], [], zhp v) r) : zEv (zXs Ls xs) (d + 2) zm_63 (39, [some (.ref 147)], [], zhp h) r := by
  unfold qRe_step_j39 at H
  obtain ⟨h4, eh4, H⟩ := zlets H
  refine zEv_w (F := fun z => (49, [some (.ref 147)], [], zhp z)) (h0 := sI h 147 9 ((gI h 147 9) + 1)) 6 rfl eh4 ?_
  refine zEv_k 1 (f' := (0, [some (.ref 147)], [], zhp h4)) rfl ?_
  cases H
  exact K
def qRe_step_b0 (s : zK) : Option ((zK) ⊕ (zK)) :=
  if (gI s 147 8) ≤ (gI s 147 9) then
    some (.inr s)
  else
    (zix (gI s 147 9) 600).bind fun j2 =>
    if (gI s 163 j2) = 32 then
      qRe_step_j39 s
    else
      if ¬ (gI s 163 j2) = 10 then
        some (.inr s)
      else
        qRe_step_j39 s
theorem t_qRe_step_b0b {Ls : Nat} {xs : Nat → Int32} {d : Nat} {r : zA} {s : zK} {e : (zK) ⊕ (zK)} (H : qRe_step_b0 s = some e) (K : match (generalizing := false) e with | .inl s' => zEv (zXs Ls xs) (d + 2) zm_63 (0, [some (.ref 147)], [], zhp s') r | .inr v => zEv (zXs Ls xs) (d + 2) zm_63 (52, [some (.ref 147)], [], zhp v) r) : zEv (zXs Ls xs) (d + 2) zm_63 (0, [some (.ref 147)], [], zhp s) r := by
  unfold qRe_step_b0 at H
  refine zEv_k 5 (f' := (if (gI s 147 8) ≤ (gI s 147 9) then 52 else 11, [some (.ref 147)], [], zhp s)) rfl (zEv_if (fun c1 => ?_) (fun c1 => ?_))
  · replace H := zif_t c1 H
    cases H
    exact K
  · replace H := zif_f c1 H
    refine zEv_k 1 (f' := (12, [some (.ref 147)], [.ref 147], zhp s)) rfl ?_
    refine zRgr rfl rfl rfl (by decide) (b := 163) rfl ?_
    refine zEv_k 2 (f' := (19, [some (.ref 147)], [.int (gI s 147 9), .ref 163], zhp s)) rfl ?_
    obtain ⟨j2, hj2, H⟩ := zbs H
    refine zRba rfl rfl (by decide) hj2 ?_
    refine zEv_k 2 (f' := (if (gI s 163 j2) = 32 then 39 else 25, [some (.ref 147)], [], zhp s)) rfl (zEv_if (fun c3 => ?_) (fun c3 => ?_))
    · replace H := zif_t c3 H
      exact t_qRe_step_j39 (h := s) H K
    · replace H := zif_f c3 H
      refine zEv_k 1 (f' := (26, [some (.ref 147)], [.ref 147], zhp s)) rfl ?_
      refine zRgr rfl rfl rfl (by decide) (b := 163) rfl ?_
      refine zEv_k 2 (f' := (33, [some (.ref 147)], [.int (gI s 147 9), .ref 163], zhp s)) rfl ?_
      refine zRba rfl rfl (by decide) hj2 ?_
      refine zEv_k 2 (f' := (if ¬ (gI s 163 j2) = 10 then 52 else 39, [some (.ref 147)], [], zhp s)) rfl (zEv_if (fun c5 => ?_) (fun c5 => ?_))
      · replace H := zif_t c5 H
        cases H
        exact K
      · replace H := zif_f c5 H
        exact t_qRe_step_j39 (h := s) H K
theorem t_qRe_step_b0 {Ls : Nat} {xs : Nat → Int32} {d : Nat} {r : zA} {t : zK} (K : zEv (zXs Ls xs) (d + 2) zm_63 (52, [some (.ref 147)], [], zhp t) r) (n : Nat) (s : zK) (H : zloop (qRe_step_b0) n s = some t) : zEv (zXs Ls xs) (d + 2) zm_63 (0, [some (.ref 147)], [], zhp s) r := by
  have Z := zloop_P (P := fun s => zEv (zXs Ls xs) (d + 2) zm_63 (0, [some (.ref 147)], [], zhp s) r) (b := qRe_step_b0) (t := t) (fun s s2 hb hk => by exact t_qRe_step_b0b hb hk) (fun s hb => by exact t_qRe_step_b0b hb K) n s H
  exact Z
def qRe_step_b99 (s : zK) : Option ((zK) ⊕ (zK)) :=
  if (gI s 147 8) ≤ (gI s 147 9) then
    some (.inr s)
  else
    (zix (gI s 147 9) 600).bind fun j20 =>
    if (qRe_isLetter (gI s 163 j20)) = 0 then
      some (.inr s)
    else
      zlet (sI s 147 9 ((gI s 147 9) + 1)) fun h22 =>
      some (.inl h22)
theorem t_qRe_step_b99b {Ls : Nat} {xs : Nat → Int32} {d : Nat} {r : zA} {s : zK} {e : (zK) ⊕ (zK)} (H : qRe_step_b99 s = some e) (K : match (generalizing := false) e with | .inl s' => zEv (zXs Ls xs) (d + 2) zm_63 (99, [some (.ref 147)], [], zhp s') r | .inr v => zEv (zXs Ls xs) (d + 2) zm_63 (193, [some (.ref 147)], [], zhp v) r) : zEv (zXs Ls xs) (d + 2) zm_63 (99, [some (.ref 147)], [], zhp s) r := by
  unfold qRe_step_b99 at H
  refine zEv_k 5 (f' := (if (gI s 147 8) ≤ (gI s 147 9) then 193 else 110, [some (.ref 147)], [], zhp s)) rfl (zEv_if (fun c19 => ?_) (fun c19 => ?_))
  · replace H := zif_t c19 H
    cases H
    exact K
  · replace H := zif_f c19 H
    refine zEv_k 1 (f' := (111, [some (.ref 147)], [.ref 147], zhp s)) rfl ?_
    refine zRgr rfl rfl rfl (by decide) (b := 163) rfl ?_
    refine zEv_k 2 (f' := (118, [some (.ref 147)], [.int (gI s 147 9), .ref 163], zhp s)) rfl ?_
    obtain ⟨j20, hj20, H⟩ := zbs H
    refine zRba rfl rfl (by decide) hj20 ?_
    refine zEv_c (fun _ => rfl) rfl (t_qRe_isLetter (x0 := gI s 163 j20) (h := s) (d := d + 1) rfl) rfl rfl ?_
    refine zEv_k 1 (f' := (if (qRe_isLetter (gI s 163 j20)) = 0 then 193 else 125, [some (.ref 147)], [], zhp s)) rfl (zEv_if (fun c21 => ?_) (fun c21 => ?_))
    · replace H := zif_t c21 H
      cases H
      exact K
    · replace H := zif_f c21 H
      obtain ⟨h22, eh22, H⟩ := zlets H
      refine zEv_w (F := fun z => (135, [some (.ref 147)], [], zhp z)) (h0 := sI s 147 9 ((gI s 147 9) + 1)) 6 rfl eh22 ?_
      refine zEv_k 1 (f' := (99, [some (.ref 147)], [], zhp h22)) rfl ?_
      cases H
      exact K
theorem t_qRe_step_b99 {Ls : Nat} {xs : Nat → Int32} {d : Nat} {r : zA} {t : zK} (K : zEv (zXs Ls xs) (d + 2) zm_63 (193, [some (.ref 147)], [], zhp t) r) (n : Nat) (s : zK) (H : zloop (qRe_step_b99) n s = some t) : zEv (zXs Ls xs) (d + 2) zm_63 (99, [some (.ref 147)], [], zhp s) r := by
  have Z := zloop_P (P := fun s => zEv (zXs Ls xs) (d + 2) zm_63 (99, [some (.ref 147)], [], zhp s) r) (b := qRe_step_b99) (t := t) (fun s s2 hb hk => by exact t_qRe_step_b99b hb hk) (fun s hb => by exact t_qRe_step_b99b hb K) n s H
  exact Z
def qRe_step (h : zK) : Option (zK) :=
  (zloop (qRe_step_b0) zfu h).bind fun t6 =>
  zlet (sI t6 147 11 (gI t6 147 9)) fun h8 =>
  if (gI h8 147 9) < (gI h8 147 8) then
    (zix (gI h8 147 9) 600).bind fun j10 =>
    if (qRe_isLetter (gI h8 163 j10)) = 0 then
      if (qRe_isDigit (gI h8 163 j10)) = 0 then
        zlet (
            if ¬ (gI h8 163 j10) = 59 then
              4
            else
              3
          ) fun (v14 : Int32) =>
        zlet (sI h8 147 10 v14) fun h15 =>
        zlet (sI h15 147 9 ((gI h15 147 9) + 1)) fun h16 =>
        some h16
      else
        (qRe_stepNumber h8).bind fun p17 =>
        some p17
    else
      zlet (sI h8 147 10 1) fun h18 =>
      (zloop (qRe_step_b99) zfu h18).bind fun t23 =>
      some t23
  else
    zlet (sI h8 147 10 0) fun h25 =>
    some h25
theorem t_qRe_step {Ls : Nat} {xs : Nat → Int32} {d : Nat} {h : zK} {p : zK} (H : qRe_step h = some p) : zEv (zXs Ls xs) (d + 2) zm_63 (0, [some (.ref 147)], [], zhp h) (none, zhp p) := by
  unfold qRe_step at H
  obtain ⟨t6, ht6, H⟩ := zbs H
  refine t_qRe_step_b0 ?_ zfu _ ht6
  obtain ⟨h8, eh8, H⟩ := zlets H
  refine zEv_w (F := fun z => (60, [some (.ref 147)], [], zhp z)) (h0 := sI t6 147 11 (gI t6 147 9)) 4 rfl eh8 ?_
  refine zEv_k 5 (f' := (if (gI h8 147 9) < (gI h8 147 8) then 79 else 71, [some (.ref 147)], [], zhp h8)) rfl (zEv_if (fun c9 => ?_) (fun c9 => ?_))
  · replace H := zif_t c9 H
    refine zEv_k 1 (f' := (80, [some (.ref 147)], [.ref 147], zhp h8)) rfl ?_
    refine zRgr rfl rfl rfl (by decide) (b := 163) rfl ?_
    refine zEv_k 2 (f' := (87, [some (.ref 147)], [.int (gI h8 147 9), .ref 163], zhp h8)) rfl ?_
    obtain ⟨j10, hj10, H⟩ := zbs H
    refine zRba rfl rfl (by decide) hj10 ?_
    refine zEv_c (fun _ => rfl) rfl (t_qRe_isLetter (x0 := gI h8 163 j10) (h := h8) (d := d + 1) rfl) rfl rfl ?_
    refine zEv_k 1 (f' := (if (qRe_isLetter (gI h8 163 j10)) = 0 then 138 else 94, [some (.ref 147)], [], zhp h8)) rfl (zEv_if (fun c11 => ?_) (fun c11 => ?_))
    · replace H := zif_t c11 H
      refine zEv_k 1 (f' := (139, [some (.ref 147)], [.ref 147], zhp h8)) rfl ?_
      refine zRgr rfl rfl rfl (by decide) (b := 163) rfl ?_
      refine zEv_k 2 (f' := (146, [some (.ref 147)], [.int (gI h8 147 9), .ref 163], zhp h8)) rfl ?_
      refine zRba rfl rfl (by decide) hj10 ?_
      refine zEv_c (fun _ => rfl) rfl (t_qRe_isDigit (x0 := gI h8 163 j10) (h := h8) (d := d + 1) rfl) rfl rfl ?_
      refine zEv_k 1 (f' := (if (qRe_isDigit (gI h8 163 j10)) = 0 then 160 else 153, [some (.ref 147)], [], zhp h8)) rfl (zEv_if (fun c12 => ?_) (fun c12 => ?_))
      · replace H := zif_t c12 H
        obtain ⟨v14, hv14, H⟩ := zlets H
        have kv14 : zEv (zXs Ls xs) (d + 2) zm_63 (180, [some (.ref 147)], [.int v14, .ref 147], zhp h8) (none, zhp p) := by
          obtain ⟨h15, eh15, H⟩ := zlets H
          refine zEv_w (F := fun z => (183, [some (.ref 147)], [], zhp z)) (h0 := sI h8 147 10 v14) 1 rfl eh15 ?_
          obtain ⟨h16, eh16, H⟩ := zlets H
          refine zEv_w (F := fun z => (193, [some (.ref 147)], [], zhp z)) (h0 := sI h15 147 9 ((gI h15 147 9) + 1)) 6 rfl eh16 ?_
          cases H
          exact zEv_r rfl
        clear H
        refine zEv_k 2 (f' := (162, [some (.ref 147)], [.ref 147, .ref 147], zhp h8)) rfl ?_
        refine zRgr rfl rfl rfl (by decide) (b := 163) rfl ?_
        refine zEv_k 2 (f' := (169, [some (.ref 147)], [.int (gI h8 147 9), .ref 163, .ref 147], zhp h8)) rfl ?_
        refine zRba rfl rfl (by decide) hj10 ?_
        refine zEv_k 2 (f' := (if ¬ (gI h8 163 j10) = 59 then 179 else 175, [some (.ref 147)], [.ref 147], zhp h8)) rfl (zEv_if (fun c13 => ?_) (fun c13 => ?_))
        · replace hv14 := zif_t c13 hv14
          refine zEv_k 1 (f' := (180, [some (.ref 147)], [.int 4, .ref 147], zhp h8)) rfl ?_
          cases hv14
          exact kv14
        · replace hv14 := zif_f c13 hv14
          refine zEv_k 2 (f' := (180, [some (.ref 147)], [.int 3, .ref 147], zhp h8)) rfl ?_
          cases hv14
          exact kv14
      · replace H := zif_f c12 H
        refine zEv_k 1 (f' := (154, [some (.ref 147)], [.ref 147], zhp h8)) rfl ?_
        obtain ⟨p17, hp17, H⟩ := zbs H
        refine zEv_c (fun _ => rfl) rfl (t_qRe_stepNumber (h := h8) (d := d) hp17) rfl rfl ?_
        refine zEv_k 1 (f' := (193, [some (.ref 147)], [], zhp p17)) rfl ?_
        cases H
        exact zEv_r rfl
    · replace H := zif_f c11 H
      obtain ⟨h18, eh18, H⟩ := zlets H
      refine zEv_w (F := fun z => (99, [some (.ref 147)], [], zhp z)) (h0 := sI h8 147 10 1) 3 rfl eh18 ?_
      obtain ⟨t23, ht23, H⟩ := zbs H
      refine t_qRe_step_b99 ?_ zfu _ ht23
      cases H
      exact zEv_r rfl
  · replace H := zif_f c9 H
    obtain ⟨h25, eh25, H⟩ := zlets H
    refine zEv_w (F := fun z => (76, [some (.ref 147)], [], zhp z)) (h0 := sI h8 147 10 0) 3 rfl eh25 ?_
    refine zEv_k 1 (f' := (193, [some (.ref 147)], [], zhp h25)) rfl ?_
    cases H
    exact zEv_r rfl
def qRe_spelling (x0 : Int32) : Option (Nat) :=
  if x0 = 0 then
    some 0
  else if x0 = 1 then
    some 1
  else if x0 = 2 then
    some 2
  else if x0 = 3 then
    some 3
  else if x0 = 4 then
    some 4
  else if x0 = 5 then
    some 5
  else if x0 = 6 then
    some 6
  else if x0 = 7 then
    some 7
  else if x0 = 8 then
    some 8
  else if x0 = 9 then
    some 9
  else
    some 10
theorem t_qRe_spelling {Ls : Nat} {xs : Nat → Int32} {d : Nat} {x0 : Int32} {h : zK} {p : Nat} (H : qRe_spelling x0 = some p) : zEv (zXs Ls xs) d zm_69 (0, [some (.int x0)], [], zhp h) (some (.ref (zstr + p)), zhp h) := by
  unfold qRe_spelling at H
  refine zEv_k 1 (f' := (1, [some (.int x0)], [.int x0], zhp h)) rfl ?_
  refine zEv_ts rfl (by decide) (by decide) (by decide) (fun hh => ?_) (fun j hj hh => ?_)
  · replace H := zif_f (fun e => (by rw [e] at hh; exact absurd hh (by decide))) H
    replace H := zif_f (fun e => (by rw [e] at hh; exact absurd hh (by decide))) H
    replace H := zif_f (fun e => (by rw [e] at hh; exact absurd hh (by decide))) H
    replace H := zif_f (fun e => (by rw [e] at hh; exact absurd hh (by decide))) H
    replace H := zif_f (fun e => (by rw [e] at hh; exact absurd hh (by decide))) H
    replace H := zif_f (fun e => (by rw [e] at hh; exact absurd hh (by decide))) H
    replace H := zif_f (fun e => (by rw [e] at hh; exact absurd hh (by decide))) H
    replace H := zif_f (fun e => (by rw [e] at hh; exact absurd hh (by decide))) H
    replace H := zif_f (fun e => (by rw [e] at hh; exact absurd hh (by decide))) H
    replace H := zif_f (fun e => (by rw [e] at hh; exact absurd hh (by decide))) H
    refine zEv_k 1 (f' := (88, [some (.int x0)], [.ref (zstr + 10)], zhp h)) rfl ?_
    cases H
    exact zEv_r rfl
  · rcases (by have hj2 : j < 10 := hj; omega : j = 0 ∨ j = 1 ∨ j = 2 ∨ j = 3 ∨ j = 4 ∨ j = 5 ∨ j = 6 ∨ j = 7 ∨ j = 8 ∨ j = 9) with rfl | rfl | rfl | rfl | rfl | rfl | rfl | rfl | rfl | rfl
    · have ex : x0 = 0 := zeqI hh (by decide)
      replace H := zif_t ex H
      refine zEv_k 1 (f' := (58, [some (.int x0)], [.ref (zstr + 0)], zhp h)) rfl ?_
      cases H
      exact zEv_r rfl
    · have ex : x0 = 1 := zeqI hh (by decide)
      replace H := zif_f (fun e => by rw [ex] at e; exact absurd e (by decide)) H
      replace H := zif_t ex H
      refine zEv_k 1 (f' := (61, [some (.int x0)], [.ref (zstr + 1)], zhp h)) rfl ?_
      cases H
      exact zEv_r rfl
    · have ex : x0 = 2 := zeqI hh (by decide)
      replace H := zif_f (fun e => by rw [ex] at e; exact absurd e (by decide)) H
      replace H := zif_f (fun e => by rw [ex] at e; exact absurd e (by decide)) H
      replace H := zif_t ex H
      refine zEv_k 1 (f' := (64, [some (.int x0)], [.ref (zstr + 2)], zhp h)) rfl ?_
      cases H
      exact zEv_r rfl
    · have ex : x0 = 3 := zeqI hh (by decide)
      replace H := zif_f (fun e => by rw [ex] at e; exact absurd e (by decide)) H
      replace H := zif_f (fun e => by rw [ex] at e; exact absurd e (by decide)) H
      replace H := zif_f (fun e => by rw [ex] at e; exact absurd e (by decide)) H
      replace H := zif_t ex H
      refine zEv_k 1 (f' := (67, [some (.int x0)], [.ref (zstr + 3)], zhp h)) rfl ?_
      cases H
      exact zEv_r rfl
    · have ex : x0 = 4 := zeqI hh (by decide)
      replace H := zif_f (fun e => by rw [ex] at e; exact absurd e (by decide)) H
      replace H := zif_f (fun e => by rw [ex] at e; exact absurd e (by decide)) H
      replace H := zif_f (fun e => by rw [ex] at e; exact absurd e (by decide)) H
      replace H := zif_f (fun e => by rw [ex] at e; exact absurd e (by decide)) H
      replace H := zif_t ex H
      refine zEv_k 1 (f' := (70, [some (.int x0)], [.ref (zstr + 4)], zhp h)) rfl ?_
      cases H
      exact zEv_r rfl
    · have ex : x0 = 5 := zeqI hh (by decide)
      replace H := zif_f (fun e => by rw [ex] at e; exact absurd e (by decide)) H
      replace H := zif_f (fun e => by rw [ex] at e; exact absurd e (by decide)) H
      replace H := zif_f (fun e => by rw [ex] at e; exact absurd e (by decide)) H
      replace H := zif_f (fun e => by rw [ex] at e; exact absurd e (by decide)) H
      replace H := zif_f (fun e => by rw [ex] at e; exact absurd e (by decide)) H
      replace H := zif_t ex H
      refine zEv_k 1 (f' := (73, [some (.int x0)], [.ref (zstr + 5)], zhp h)) rfl ?_
      cases H
      exact zEv_r rfl
    · have ex : x0 = 6 := zeqI hh (by decide)
      replace H := zif_f (fun e => by rw [ex] at e; exact absurd e (by decide)) H
      replace H := zif_f (fun e => by rw [ex] at e; exact absurd e (by decide)) H
      replace H := zif_f (fun e => by rw [ex] at e; exact absurd e (by decide)) H
      replace H := zif_f (fun e => by rw [ex] at e; exact absurd e (by decide)) H
      replace H := zif_f (fun e => by rw [ex] at e; exact absurd e (by decide)) H
      replace H := zif_f (fun e => by rw [ex] at e; exact absurd e (by decide)) H
      replace H := zif_t ex H
      refine zEv_k 1 (f' := (76, [some (.int x0)], [.ref (zstr + 6)], zhp h)) rfl ?_
      cases H
      exact zEv_r rfl
    · have ex : x0 = 7 := zeqI hh (by decide)
      replace H := zif_f (fun e => by rw [ex] at e; exact absurd e (by decide)) H
      replace H := zif_f (fun e => by rw [ex] at e; exact absurd e (by decide)) H
      replace H := zif_f (fun e => by rw [ex] at e; exact absurd e (by decide)) H
      replace H := zif_f (fun e => by rw [ex] at e; exact absurd e (by decide)) H
      replace H := zif_f (fun e => by rw [ex] at e; exact absurd e (by decide)) H
      replace H := zif_f (fun e => by rw [ex] at e; exact absurd e (by decide)) H
      replace H := zif_f (fun e => by rw [ex] at e; exact absurd e (by decide)) H
      replace H := zif_t ex H
      refine zEv_k 1 (f' := (79, [some (.int x0)], [.ref (zstr + 7)], zhp h)) rfl ?_
      cases H
      exact zEv_r rfl
    · have ex : x0 = 8 := zeqI hh (by decide)
      replace H := zif_f (fun e => by rw [ex] at e; exact absurd e (by decide)) H
      replace H := zif_f (fun e => by rw [ex] at e; exact absurd e (by decide)) H
      replace H := zif_f (fun e => by rw [ex] at e; exact absurd e (by decide)) H
      replace H := zif_f (fun e => by rw [ex] at e; exact absurd e (by decide)) H
      replace H := zif_f (fun e => by rw [ex] at e; exact absurd e (by decide)) H
      replace H := zif_f (fun e => by rw [ex] at e; exact absurd e (by decide)) H
      replace H := zif_f (fun e => by rw [ex] at e; exact absurd e (by decide)) H
      replace H := zif_f (fun e => by rw [ex] at e; exact absurd e (by decide)) H
      replace H := zif_t ex H
      refine zEv_k 1 (f' := (82, [some (.int x0)], [.ref (zstr + 8)], zhp h)) rfl ?_
      cases H
      exact zEv_r rfl
    · have ex : x0 = 9 := zeqI hh (by decide)
      replace H := zif_f (fun e => by rw [ex] at e; exact absurd e (by decide)) H
      replace H := zif_f (fun e => by rw [ex] at e; exact absurd e (by decide)) H
      replace H := zif_f (fun e => by rw [ex] at e; exact absurd e (by decide)) H
      replace H := zif_f (fun e => by rw [ex] at e; exact absurd e (by decide)) H
      replace H := zif_f (fun e => by rw [ex] at e; exact absurd e (by decide)) H
      replace H := zif_f (fun e => by rw [ex] at e; exact absurd e (by decide)) H
      replace H := zif_f (fun e => by rw [ex] at e; exact absurd e (by decide)) H
      replace H := zif_f (fun e => by rw [ex] at e; exact absurd e (by decide)) H
      replace H := zif_f (fun e => by rw [ex] at e; exact absurd e (by decide)) H
      replace H := zif_t ex H
      refine zEv_k 1 (f' := (85, [some (.int x0)], [.ref (zstr + 9)], zhp h)) rfl ?_
      cases H
      exact zEv_r rfl
def qRe_isHere_b20 (x1 : Nat) (h : zK) (s : Int32) : Option ((Int32) ⊕ ((Unit) ⊕ (Int32))) :=
  (zwords[x1]?).bind fun w3 =>
  if (Int32.ofNat w3.length) ≤ s then
    some (.inr (.inl ()))
  else
    (zix ((gI h 147 11) + s) 600).bind fun j5 =>
    (zwords[x1]?).bind fun w6 =>
    (zix s w6.length).bind fun j7 =>
    if (gI h 163 j5) = (w6.getD j7 0) then
      some (.inl (s + 1))
    else
      some (.inr (.inr 0))
theorem t_qRe_isHere_b20b {Ls : Nat} {xs : Nat → Int32} {d : Nat} {x1 : Nat} {h : zK} {r : zA} {s : Int32} {e : (Int32) ⊕ ((Unit) ⊕ (Int32))} (H : qRe_isHere_b20 x1 h s = some e) (K : match (generalizing := false) e with | .inl s' => zEv (zXs Ls xs) d zm_68 (20, [some (.ref 147), some (.ref (zstr + x1)), some (.int s')], [], zhp h) r | .inr (.inl v) => ∀ (z2 : Option Value), zEv (zXs Ls xs) d zm_68 (55, [some (.ref 147), some (.ref (zstr + x1)), z2], [], zhp h) r | .inr (.inr p) => (some (.int p), zhp h) = r) : zEv (zXs Ls xs) d zm_68 (20, [some (.ref 147), some (.ref (zstr + x1)), some (.int s)], [], zhp h) r := by
  unfold qRe_isHere_b20 at H
  refine zEv_k 2 (f' := (22, [some (.ref 147), some (.ref (zstr + x1)), some (.int s)], [.ref (zstr + x1), .int s], zhp h)) rfl ?_
  obtain ⟨w3, hw3, H⟩ := zbs H
  refine zRsl rfl hw3 (Nat.le_of_ble_eq_true rfl) ?_
  refine zEv_k 1 (f' := (if (Int32.ofNat w3.length) ≤ s then 55 else 28, [some (.ref 147), some (.ref (zstr + x1)), some (.int s)], [], zhp h)) rfl (zEv_if (fun c4 => ?_) (fun c4 => ?_))
  · replace H := zif_t c4 H
    cases H
    exact K _
  · replace H := zif_f c4 H
    refine zEv_k 1 (f' := (29, [some (.ref 147), some (.ref (zstr + x1)), some (.int s)], [.ref 147], zhp h)) rfl ?_
    refine zRgr rfl rfl rfl (by decide) (b := 163) rfl ?_
    refine zEv_k 4 (f' := (38, [some (.ref 147), some (.ref (zstr + x1)), some (.int s)], [.int ((gI h 147 11) + s), .ref 163], zhp h)) rfl ?_
    obtain ⟨j5, hj5, H⟩ := zbs H
    refine zRba rfl rfl (by decide) hj5 ?_
    refine zEv_k 2 (f' := (41, [some (.ref 147), some (.ref (zstr + x1)), some (.int s)], [.int s, .ref (zstr + x1), .int (gI h 163 j5)], zhp h)) rfl ?_
    obtain ⟨w6, hw6, H⟩ := zbs H
    obtain ⟨j7, hj7, H⟩ := zbs H
    refine zRsc rfl hw6 hj7 (Nat.le_of_ble_eq_true rfl) ?_
    refine zEv_k 1 (f' := (if (gI h 163 j5) = (w6.getD j7 0) then 49 else 47, [some (.ref 147), some (.ref (zstr + x1)), some (.int s)], [], zhp h)) rfl (zEv_if (fun c8 => ?_) (fun c8 => ?_))
    · replace H := zif_t c8 H
      refine zEv_k 2 (f' := (20, [some (.ref 147), some (.ref (zstr + x1)), some (.int (s + 1))], [], zhp h)) rfl ?_
      cases H
      exact K
    · replace H := zif_f c8 H
      refine zEv_k 1 (f' := (48, [some (.ref 147), some (.ref (zstr + x1)), some (.int s)], [.int 0], zhp h)) rfl ?_
      cases H
      exact zEv_re K rfl
theorem t_qRe_isHere_b20 {Ls : Nat} {xs : Nat → Int32} {d : Nat} {x1 : Nat} {h : zK} {r : zA} {t : (Unit) ⊕ (Int32)} (K : (match (generalizing := false) t with | .inl v => ∀ (z2 : Option Value), zEv (zXs Ls xs) d zm_68 (55, [some (.ref 147), some (.ref (zstr + x1)), z2], [], zhp h) r | .inr p => (some (.int p), zhp h) = r)) (n : Nat) (s : Int32) (H : zloop (qRe_isHere_b20 x1 h) n s = some t) : zEv (zXs Ls xs) d zm_68 (20, [some (.ref 147), some (.ref (zstr + x1)), some (.int s)], [], zhp h) r := by
  have Z := zloop_P (P := fun s => zEv (zXs Ls xs) d zm_68 (20, [some (.ref 147), some (.ref (zstr + x1)), some (.int s)], [], zhp h) r) (b := qRe_isHere_b20 x1 h) (t := t) (fun s s2 hb hk => by exact t_qRe_isHere_b20b hb hk) (fun s hb => by rcases t with v | p <;> (exact t_qRe_isHere_b20b hb K)) n s H
  exact Z
def qRe_isHere (x1 : Nat) (h : zK) : Option (Int32) :=
  (zwords[x1]?).bind fun w1 =>
  if ((gI h 147 9) - (gI h 147 11)) = (Int32.ofNat w1.length) then
    (zloop (qRe_isHere_b20 x1 h) zfu 0).bind fun t9 => match t9 with
    | .inr p => some p
    | .inl v10 =>
      some 1
  else
    some 0
theorem t_qRe_isHere {Ls : Nat} {xs : Nat → Int32} {d : Nat} {x1 : Nat} {h : zK} {p : Int32} (H : qRe_isHere x1 h = some p) : zEv (zXs Ls xs) d zm_68 (0, [some (.ref 147), some (.ref (zstr + x1)), none], [], zhp h) (some (.int p), zhp h) := by
  unfold qRe_isHere at H
  refine zEv_k 6 (f' := (10, [some (.ref 147), some (.ref (zstr + x1)), none], [.ref (zstr + x1), .int ((gI h 147 9) - (gI h 147 11))], zhp h)) rfl ?_
  obtain ⟨w1, hw1, H⟩ := zbs H
  refine zRsl rfl hw1 (Nat.le_of_ble_eq_true rfl) ?_
  refine zEv_k 1 (f' := (if ((gI h 147 9) - (gI h 147 11)) = (Int32.ofNat w1.length) then 18 else 16, [some (.ref 147), some (.ref (zstr + x1)), none], [], zhp h)) rfl (zEv_if (fun c2 => ?_) (fun c2 => ?_))
  · replace H := zif_t c2 H
    refine zEv_k 2 (f' := (20, [some (.ref 147), some (.ref (zstr + x1)), some (.int 0)], [], zhp h)) rfl ?_
    obtain ⟨t9, ht9, H⟩ := zbs H
    refine t_qRe_isHere_b20 (x1 := x1) (h := h) ?_ zfu _ ht9
    rcases t9 with v10 | p
    · intro y2
      dsimp only at H
      refine zEv_k 1 (f' := (56, [some (.ref 147), some (.ref (zstr + x1)), y2], [.int 1], zhp h)) rfl ?_
      cases H
      exact zEv_r rfl
    · cases H
      exact rfl
  · replace H := zif_f c2 H
    refine zEv_k 1 (f' := (17, [some (.ref 147), some (.ref (zstr + x1)), none], [.int 0], zhp h)) rfl ?_
    cases H
    exact zEv_r rfl
def qRe_wordHere_b2 (x1 : Int32) (h : zK) (s : Int32) : Option ((Int32) ⊕ ((Unit) ⊕ (Int32))) :=
  if ¬ (gI h 147 10) = 1 then
    some (.inr (.inl ()))
  else
    if 10 ≤ s then
      some (.inr (.inl ()))
    else
      (zix s 10).bind fun j3 =>
      if ¬ (List.getD zA_SORT_OF j3 0) = x1 then
        some (.inl (s + 1))
      else
        (qRe_spelling s).bind fun p5 =>
        (qRe_isHere p5 h).bind fun p6 =>
        if p6 = 0 then
          some (.inl (s + 1))
        else
          some (.inr (.inr s))
theorem t_qRe_wordHere_b2b {Ls : Nat} {xs : Nat → Int32} {d : Nat} {x1 : Int32} {h : zK} {r : zA} {s : Int32} {e : (Int32) ⊕ ((Unit) ⊕ (Int32))} (H : qRe_wordHere_b2 x1 h s = some e) (K : match (generalizing := false) e with | .inl s' => zEv (zXs Ls xs) (d + 1) zm_67 (2, [some (.ref 147), some (.int x1), some (.int s')], [], zhp h) r | .inr (.inl v) => ∀ (z2 : Option Value), zEv (zXs Ls xs) (d + 1) zm_67 (44, [some (.ref 147), some (.int x1), z2], [], zhp h) r | .inr (.inr p) => (some (.int p), zhp h) = r) : zEv (zXs Ls xs) (d + 1) zm_67 (2, [some (.ref 147), some (.int x1), some (.int s)], [], zhp h) r := by
  unfold qRe_wordHere_b2 at H
  refine zEv_k 4 (f' := (if ¬ (gI h 147 10) = 1 then 44 else 10, [some (.ref 147), some (.int x1), some (.int s)], [], zhp h)) rfl (zEv_if (fun c1 => ?_) (fun c1 => ?_))
  · replace H := zif_t c1 H
    cases H
    exact K _
  · replace H := zif_f c1 H
    refine zEv_k 3 (f' := (if 10 ≤ s then 44 else 16, [some (.ref 147), some (.int x1), some (.int s)], [], zhp h)) rfl (zEv_if (fun c2 => ?_) (fun c2 => ?_))
    · replace H := zif_t c2 H
      cases H
      exact K _
    · replace H := zif_f c2 H
      refine zEv_k 2 (f' := (20, [some (.ref 147), some (.int x1), some (.int s)], [.int s, .ref (zro + 1)], zhp h)) rfl ?_
      obtain ⟨j3, hj3, H⟩ := zbs H
      refine zRix rfl rfl hj3 ?_
      refine zEv_k 2 (f' := (if ¬ (List.getD zA_SORT_OF j3 0) = x1 then 38 else 25, [some (.ref 147), some (.int x1), some (.int s)], [], zhp h)) rfl (zEv_if (fun c4 => ?_) (fun c4 => ?_))
      · replace H := zif_t c4 H
        refine zEv_k 2 (f' := (2, [some (.ref 147), some (.int x1), some (.int (s + 1))], [], zhp h)) rfl ?_
        cases H
        exact K
      · replace H := zif_f c4 H
        refine zEv_k 2 (f' := (27, [some (.ref 147), some (.int x1), some (.int s)], [.int s, .ref 147], zhp h)) rfl ?_
        obtain ⟨p5, hp5, H⟩ := zbs H
        refine zEv_c (fun _ => rfl) rfl (t_qRe_spelling (x0 := s) (h := h) (d := d) hp5) rfl rfl ?_
        obtain ⟨p6, hp6, H⟩ := zbs H
        refine zEv_c (fun _ => rfl) rfl (t_qRe_isHere (x1 := p5) (h := h) (d := d) hp6) rfl rfl ?_
        refine zEv_k 1 (f' := (if p6 = 0 then 38 else 36, [some (.ref 147), some (.int x1), some (.int s)], [], zhp h)) rfl (zEv_if (fun c7 => ?_) (fun c7 => ?_))
        · replace H := zif_t c7 H
          refine zEv_k 2 (f' := (2, [some (.ref 147), some (.int x1), some (.int (s + 1))], [], zhp h)) rfl ?_
          cases H
          exact K
        · replace H := zif_f c7 H
          refine zEv_k 1 (f' := (37, [some (.ref 147), some (.int x1), some (.int s)], [.int s], zhp h)) rfl ?_
          cases H
          exact zEv_re K rfl
theorem t_qRe_wordHere_b2 {Ls : Nat} {xs : Nat → Int32} {d : Nat} {x1 : Int32} {h : zK} {r : zA} {t : (Unit) ⊕ (Int32)} (K : (match (generalizing := false) t with | .inl v => ∀ (z2 : Option Value), zEv (zXs Ls xs) (d + 1) zm_67 (44, [some (.ref 147), some (.int x1), z2], [], zhp h) r | .inr p => (some (.int p), zhp h) = r)) (n : Nat) (s : Int32) (H : zloop (qRe_wordHere_b2 x1 h) n s = some t) : zEv (zXs Ls xs) (d + 1) zm_67 (2, [some (.ref 147), some (.int x1), some (.int s)], [], zhp h) r := by
  have Z := zloop_P (P := fun s => zEv (zXs Ls xs) (d + 1) zm_67 (2, [some (.ref 147), some (.int x1), some (.int s)], [], zhp h) r) (b := qRe_wordHere_b2 x1 h) (t := t) (fun s s2 hb hk => by exact t_qRe_wordHere_b2b hb hk) (fun s hb => by rcases t with v | p <;> (exact t_qRe_wordHere_b2b hb K)) n s H
  exact Z
def qRe_wordHere (x1 : Int32) (h : zK) : Option (Int32) :=
  (zloop (qRe_wordHere_b2 x1 h) zfu 0).bind fun t8 => match t8 with
  | .inr p => some p
  | .inl v9 =>
    some (-1)
theorem t_qRe_wordHere {Ls : Nat} {xs : Nat → Int32} {d : Nat} {x1 : Int32} {h : zK} {p : Int32} (H : qRe_wordHere x1 h = some p) : zEv (zXs Ls xs) (d + 1) zm_67 (0, [some (.ref 147), some (.int x1), none], [], zhp h) (some (.int p), zhp h) := by
  unfold qRe_wordHere at H
  refine zEv_k 2 (f' := (2, [some (.ref 147), some (.int x1), some (.int 0)], [], zhp h)) rfl ?_
  obtain ⟨t8, ht8, H⟩ := zbs H
  refine t_qRe_wordHere_b2 (x1 := x1) (h := h) ?_ zfu _ ht8
  rcases t8 with v9 | p
  · intro y2
    dsimp only at H
    refine zEv_k 1 (f' := (45, [some (.ref 147), some (.int x1), y2], [.int (-1)], zhp h)) rfl ?_
    cases H
    exact zEv_r rfl
  · cases H
    exact rfl
def qRe_stopHere (h : zK) : Option (zK) :=
  zlet (sI h 147 3 1) fun h1 =>
  zlet (sI h1 147 4 (gI h1 147 11)) fun h2 =>
  some h2
theorem t_qRe_stopHere {Ls : Nat} {xs : Nat → Int32} {d : Nat} {h : zK} {p : zK} (H : qRe_stopHere h = some p) : zEv (zXs Ls xs) d zm_58 (0, [some (.ref 147)], [], zhp h) (none, zhp p) := by
  unfold qRe_stopHere at H
  obtain ⟨h1, eh1, H⟩ := zlets H
  refine zEv_w (F := fun z => (5, [some (.ref 147)], [], zhp z)) (h0 := sI h 147 3 1) 3 rfl eh1 ?_
  obtain ⟨h2, eh2, H⟩ := zlets H
  refine zEv_w (F := fun z => (13, [some (.ref 147)], [], zhp z)) (h0 := sI h1 147 4 (gI h1 147 11)) 4 rfl eh2 ?_
  cases H
  exact zEv_r rfl
def qRe_isFullFor (x1 : Int32) (h : zK) : Option (Int32) :=
  if ¬ x1 = 2 then
    if ¬ x1 = 9 then
      if x1 < 4 then
        some 0
      else
        if (qDe_isFull h) = 0 then
          some 0
        else
          some 1
    else
      if zbool (qLo_isFull h) = true then
        some (qLo_isFull h)
      else none
  else
    if zbool (qCe_isFull h) = true then
      some (qCe_isFull h)
    else none
theorem t_qRe_isFullFor {Ls : Nat} {xs : Nat → Int32} {d : Nat} {x1 : Int32} {h : zK} {p : Int32} (H : qRe_isFullFor x1 h = some p) : zEv (zXs Ls xs) (d + 1) zm_61 (0, [some (.ref 147), some (.int x1)], [], zhp h) (some (.int p), zhp h) := by
  unfold qRe_isFullFor at H
  refine zEv_k 3 (f' := (if ¬ x1 = 2 then 13 else 5, [some (.ref 147), some (.int x1)], [], zhp h)) rfl (zEv_if (fun c1 => ?_) (fun c1 => ?_))
  · replace H := zif_t c1 H
    refine zEv_k 3 (f' := (if ¬ x1 = 9 then 27 else 19, [some (.ref 147), some (.int x1)], [], zhp h)) rfl (zEv_if (fun c2 => ?_) (fun c2 => ?_))
    · replace H := zif_t c2 H
      refine zEv_k 3 (f' := (if x1 < 4 then 46 else 32, [some (.ref 147), some (.int x1)], [], zhp h)) rfl (zEv_if (fun c3 => ?_) (fun c3 => ?_))
      · replace H := zif_t c3 H
        refine zEv_k 1 (f' := (47, [some (.ref 147), some (.int x1)], [.int 0], zhp h)) rfl ?_
        cases H
        exact zEv_r rfl
      · replace H := zif_f c3 H
        refine zEv_k 1 (f' := (33, [some (.ref 147), some (.int x1)], [.ref 147], zhp h)) rfl ?_
        refine zRgr rfl rfl rfl (by decide) (b := 156) rfl ?_
        refine zEv_c (fun _ => rfl) rfl (t_qDe_isFull (h := h) (d := d) rfl) rfl rfl ?_
        refine zEv_k 1 (f' := (if (qDe_isFull h) = 0 then 46 else 42, [some (.ref 147), some (.int x1)], [], zhp h)) rfl (zEv_if (fun c4 => ?_) (fun c4 => ?_))
        · replace H := zif_t c4 H
          refine zEv_k 1 (f' := (47, [some (.ref 147), some (.int x1)], [.int 0], zhp h)) rfl ?_
          cases H
          exact zEv_r rfl
        · replace H := zif_f c4 H
          refine zEv_k 2 (f' := (47, [some (.ref 147), some (.int x1)], [.int 1], zhp h)) rfl ?_
          cases H
          exact zEv_r rfl
    · replace H := zif_f c2 H
      refine zEv_k 1 (f' := (20, [some (.ref 147), some (.int x1)], [.ref 147], zhp h)) rfl ?_
      refine zRgr rfl rfl rfl (by decide) (b := 160) rfl ?_
      refine zEv_c (fun _ => rfl) rfl (t_qLo_isFull (h := h) (d := d) rfl) rfl rfl ?_
      obtain ⟨c5, H⟩ := zifn H
      cases H
      exact zEv_rz rfl rfl c5
  · replace H := zif_f c1 H
    refine zEv_k 1 (f' := (6, [some (.ref 147), some (.int x1)], [.ref 147], zhp h)) rfl ?_
    refine zRgr rfl rfl rfl (by decide) (b := 148) rfl ?_
    refine zEv_c (fun _ => rfl) rfl (t_qCe_isFull (h := h) (d := d) rfl) rfl rfl ?_
    obtain ⟨c6, H⟩ := zifn H
    cases H
    exact zEv_rz rfl rfl c6
def qRe_note (x1 : Int32) (x2 : Int32) (h : zK) : Option (zK) :=
  if ¬ (gI h 147 3) = 0 then
    some h
  else
    zlet (sI h 147 3 x1) fun h2 =>
    zlet (sI h2 147 4 x2) fun h3 =>
    some h3
theorem t_qRe_note {Ls : Nat} {xs : Nat → Int32} {d : Nat} {x1 : Int32} {x2 : Int32} {h : zK} {p : zK} (H : qRe_note x1 x2 h = some p) : zEv (zXs Ls xs) d zm_59 (0, [some (.ref 147), some (.int x1), some (.int x2)], [], zhp h) (none, zhp p) := by
  unfold qRe_note at H
  refine zEv_k 3 (f' := (if ¬ (gI h 147 3) = 0 then 17 else 7, [some (.ref 147), some (.int x1), some (.int x2)], [], zhp h)) rfl (zEv_if (fun c1 => ?_) (fun c1 => ?_))
  · replace H := zif_t c1 H
    cases H
    exact zEv_r rfl
  · replace H := zif_f c1 H
    obtain ⟨h2, eh2, H⟩ := zlets H
    refine zEv_w (F := fun z => (12, [some (.ref 147), some (.int x1), some (.int x2)], [], zhp z)) (h0 := sI h 147 3 x1) 3 rfl eh2 ?_
    obtain ⟨h3, eh3, H⟩ := zlets H
    refine zEv_w (F := fun z => (17, [some (.ref 147), some (.int x1), some (.int x2)], [], zhp z)) (h0 := sI h2 147 4 x2) 3 rfl eh3 ?_
    cases H
    exact zEv_r rfl
def qRe_judge_b16 (x1 : Int32) (s : Int32 × zK) : Option ((Int32 × zK) ⊕ (zK)) :=
  (zix x1 10).bind fun j5 =>
  if (List.getD zA_NUMBERS j5 0) ≤ s.1 then
    some (.inr s.2)
  else
    (zix s.1 6).bind fun j7 =>
    (zix ((x1 * 6) + s.1) 60).bind fun j8 =>
    Option.bind (
        if (gI s.2 164 j7) < (List.getD zA_LOW j8 0) then
          (qRe_note 2 (gI s.2 165 j7) s.2).bind fun p11 =>
          some p11
        else
          if (gI s.2 164 j7) ≤ (List.getD zA_HIGH j8 0) then
            some s.2
          else
            (qRe_note 2 (gI s.2 165 j7) s.2).bind fun p13 =>
            some p13
      ) fun (v10 : zK) =>
    some (.inl (s.1 + 1, v10))
theorem t_qRe_judge_b16b {Ls : Nat} {xs : Nat → Int32} {d : Nat} {x1 : Int32} {r : zA} {s : Int32 × zK} {e : (Int32 × zK) ⊕ (zK)} (H : qRe_judge_b16 x1 s = some e) (K : match (generalizing := false) e with | .inl s' => ∀ (z2 : Option Value) (z4 : Option Value), zEv (zXs Ls xs) (d + 2) zm_60 (16, [some (.ref 147), some (.int x1), z2, some (.int s'.1), z4], [], zhp s'.2) r | .inr v => ∀ (z2 : Option Value) (z3 : Option Value) (z4 : Option Value), zEv (zXs Ls xs) (d + 2) zm_60 (80, [some (.ref 147), some (.int x1), z2, z3, z4], [], zhp v) r) (y2 : Option Value) (y4 : Option Value) : zEv (zXs Ls xs) (d + 2) zm_60 (16, [some (.ref 147), some (.int x1), y2, some (.int s.1), y4], [], zhp s.2) r := by
  unfold qRe_judge_b16 at H
  refine zEv_k 3 (f' := (21, [some (.ref 147), some (.int x1), y2, some (.int s.1), y4], [.int x1, .ref (zro + 2), .int s.1], zhp s.2)) rfl ?_
  obtain ⟨j5, hj5, H⟩ := zbs H
  refine zRix rfl rfl hj5 ?_
  refine zEv_k 1 (f' := (if (List.getD zA_NUMBERS j5 0) ≤ s.1 then 80 else 25, [some (.ref 147), some (.int x1), y2, some (.int s.1), y4], [], zhp s.2)) rfl (zEv_if (fun c6 => ?_) (fun c6 => ?_))
  · replace H := zif_t c6 H
    cases H
    exact K _ _ _
  · replace H := zif_f c6 H
    refine zEv_k 7 (f' := (34, [some (.ref 147), some (.int x1), y2, some (.int s.1), some (.int ((x1 * 6) + s.1))], [.ref 147], zhp s.2)) rfl ?_
    refine zRgr rfl rfl rfl (by decide) (b := 164) rfl ?_
    refine zEv_k 1 (f' := (38, [some (.ref 147), some (.int x1), y2, some (.int s.1), some (.int ((x1 * 6) + s.1))], [.int s.1, .ref 164], zhp s.2)) rfl ?_
    obtain ⟨j7, hj7, H⟩ := zbs H
    refine zRia rfl rfl (by decide) hj7 ?_
    refine zEv_k 2 (f' := (44, [some (.ref 147), some (.int x1), y2, some (.int s.1), some (.int ((x1 * 6) + s.1))], [.int ((x1 * 6) + s.1), .ref (zro + 3), .int (gI s.2 164 j7)], zhp s.2)) rfl ?_
    obtain ⟨j8, hj8, H⟩ := zbs H
    refine zRix rfl rfl hj8 ?_
    obtain ⟨v10, hv10, H⟩ := zbs H
    have kv10 : zEv (zXs Ls xs) (d + 2) zm_60 (74, [some (.ref 147), some (.int x1), y2, some (.int s.1), some (.int ((x1 * 6) + s.1))], [], zhp v10) r := by
      refine zEv_k 2 (f' := (16, [some (.ref 147), some (.int x1), zlost y2, some (.int (s.1 + 1)), some (.int ((x1 * 6) + s.1))], [], zhp v10)) rfl ?_
      cases H
      exact K _ _
    clear H
    refine zEv_k 1 (f' := (if (gI s.2 164 j7) < (List.getD zA_LOW j8 0) then 63 else 48, [some (.ref 147), some (.int x1), y2, some (.int s.1), some (.int ((x1 * 6) + s.1))], [], zhp s.2)) rfl (zEv_if (fun c9 => ?_) (fun c9 => ?_))
    · replace hv10 := zif_t c9 hv10
      refine zEv_k 3 (f' := (66, [some (.ref 147), some (.int x1), y2, some (.int s.1), some (.int ((x1 * 6) + s.1))], [.ref 147, .int 2, .ref 147], zhp s.2)) rfl ?_
      refine zRgr rfl rfl rfl (by decide) (b := 165) rfl ?_
      refine zEv_k 1 (f' := (70, [some (.ref 147), some (.int x1), y2, some (.int s.1), some (.int ((x1 * 6) + s.1))], [.int s.1, .ref 165, .int 2, .ref 147], zhp s.2)) rfl ?_
      refine zRia rfl rfl (by decide) hj7 ?_
      obtain ⟨p11, hp11, hv10⟩ := zbs hv10
      refine zEv_c (fun _ => rfl) rfl (t_qRe_note (x1 := 2) (x2 := gI s.2 165 j7) (h := s.2) (d := d + 1) hp11) rfl rfl ?_
      cases hv10
      exact kv10
    · replace hv10 := zif_f c9 hv10
      refine zEv_k 1 (f' := (49, [some (.ref 147), some (.int x1), y2, some (.int s.1), some (.int ((x1 * 6) + s.1))], [.ref 147], zhp s.2)) rfl ?_
      refine zRgr rfl rfl rfl (by decide) (b := 164) rfl ?_
      refine zEv_k 1 (f' := (53, [some (.ref 147), some (.int x1), y2, some (.int s.1), some (.int ((x1 * 6) + s.1))], [.int s.1, .ref 164], zhp s.2)) rfl ?_
      refine zRia rfl rfl (by decide) hj7 ?_
      refine zEv_k 2 (f' := (59, [some (.ref 147), some (.int x1), y2, some (.int s.1), some (.int ((x1 * 6) + s.1))], [.int ((x1 * 6) + s.1), .ref (zro + 4), .int (gI s.2 164 j7)], zhp s.2)) rfl ?_
      refine zRix rfl rfl hj8 ?_
      refine zEv_k 1 (f' := (if (gI s.2 164 j7) ≤ (List.getD zA_HIGH j8 0) then 74 else 63, [some (.ref 147), some (.int x1), y2, some (.int s.1), some (.int ((x1 * 6) + s.1))], [], zhp s.2)) rfl (zEv_if (fun c12 => ?_) (fun c12 => ?_))
      · replace hv10 := zif_t c12 hv10
        cases hv10
        exact kv10
      · replace hv10 := zif_f c12 hv10
        refine zEv_k 3 (f' := (66, [some (.ref 147), some (.int x1), y2, some (.int s.1), some (.int ((x1 * 6) + s.1))], [.ref 147, .int 2, .ref 147], zhp s.2)) rfl ?_
        refine zRgr rfl rfl rfl (by decide) (b := 165) rfl ?_
        refine zEv_k 1 (f' := (70, [some (.ref 147), some (.int x1), y2, some (.int s.1), some (.int ((x1 * 6) + s.1))], [.int s.1, .ref 165, .int 2, .ref 147], zhp s.2)) rfl ?_
        refine zRia rfl rfl (by decide) hj7 ?_
        obtain ⟨p13, hp13, hv10⟩ := zbs hv10
        refine zEv_c (fun _ => rfl) rfl (t_qRe_note (x1 := 2) (x2 := gI s.2 165 j7) (h := s.2) (d := d + 1) hp13) rfl rfl ?_
        cases hv10
        exact kv10
theorem t_qRe_judge_b16 {Ls : Nat} {xs : Nat → Int32} {d : Nat} {x1 : Int32} {r : zA} {t : zK} (K : ∀ (z2 : Option Value) (z3 : Option Value) (z4 : Option Value), zEv (zXs Ls xs) (d + 2) zm_60 (80, [some (.ref 147), some (.int x1), z2, z3, z4], [], zhp t) r) (n : Nat) (s : Int32 × zK) (H : zloop (qRe_judge_b16 x1) n s = some t) (y2 : Option Value) (y4 : Option Value) : zEv (zXs Ls xs) (d + 2) zm_60 (16, [some (.ref 147), some (.int x1), y2, some (.int s.1), y4], [], zhp s.2) r := by
  have Z := zloop_P (P := fun s => ∀ (y2 : Option Value) (y4 : Option Value), zEv (zXs Ls xs) (d + 2) zm_60 (16, [some (.ref 147), some (.int x1), y2, some (.int s.1), y4], [], zhp s.2) r) (b := qRe_judge_b16 x1) (t := t) (fun s s2 hb hk => by intro y2 y4; exact t_qRe_judge_b16b hb hk y2 y4) (fun s hb => by intro y2 y4; exact t_qRe_judge_b16b hb K y2 y4) n s H
  exact Z y2 y4
def qRe_judge (x1 : Int32) (x2 : Int32) (h : zK) : Option (zK) :=
  (qRe_isFullFor x1 h).bind fun p1 =>
  Option.bind (
      if p1 = 0 then
        some h
      else
        (qRe_note 3 x2 h).bind fun p4 =>
        some p4
    ) fun (v3 : zK) =>
  (zloop (qRe_judge_b16 x1) zfu (0, v3)).bind fun t14 =>
  if ¬ x1 = 3 then
    some t14
  else
    if ¬ (gI t14 164 0) = (gI t14 164 1) then
      some t14
    else
      (qRe_note 2 (gI t14 165 1) t14).bind fun p18 =>
      some p18
theorem t_qRe_judge {Ls : Nat} {xs : Nat → Int32} {d : Nat} {x1 : Int32} {x2 : Int32} {h : zK} {p : zK} (H : qRe_judge x1 x2 h = some p) : zEv (zXs Ls xs) (d + 2) zm_60 (0, [some (.ref 147), some (.int x1), some (.int x2), none, none], [], zhp h) (none, zhp p) := by
  unfold qRe_judge at H
  refine zEv_k 2 (f' := (2, [some (.ref 147), some (.int x1), some (.int x2), none, none], [.int x1, .ref 147], zhp h)) rfl ?_
  obtain ⟨p1, hp1, H⟩ := zbs H
  refine zEv_c (fun _ => rfl) rfl (t_qRe_isFullFor (x1 := x1) (h := h) (d := d) hp1) rfl rfl ?_
  obtain ⟨v3, hv3, H⟩ := zbs H
  have kv3 : zEv (zXs Ls xs) (d + 2) zm_60 (14, [some (.ref 147), some (.int x1), some (.int x2), none, none], [], zhp v3) (none, zhp p) := by
    refine zEv_k 2 (f' := (16, [some (.ref 147), some (.int x1), some (.int x2), some (.int 0), none], [], zhp v3)) rfl ?_
    obtain ⟨t14, ht14, H⟩ := zbs H
    refine t_qRe_judge_b16 (x1 := x1) ?_ zfu _ ht14 _ _
    intro y2 y3 y4
    refine zEv_k 3 (f' := (if ¬ x1 = 3 then 111 else 85, [some (.ref 147), some (.int x1), y2, y3, y4], [], zhp t14)) rfl (zEv_if (fun c16 => ?_) (fun c16 => ?_))
    · replace H := zif_t c16 H
      cases H
      exact zEv_r rfl
    · replace H := zif_f c16 H
      refine zEv_k 1 (f' := (86, [some (.ref 147), some (.int x1), y2, y3, y4], [.ref 147], zhp t14)) rfl ?_
      refine zRgr rfl rfl rfl (by decide) (b := 164) rfl ?_
      refine zEv_k 1 (f' := (90, [some (.ref 147), some (.int x1), y2, y3, y4], [.int 0, .ref 164], zhp t14)) rfl ?_
      refine zRia (j := 0) rfl rfl (by decide) (by decide) ?_
      refine zEv_k 1 (f' := (92, [some (.ref 147), some (.int x1), y2, y3, y4], [.ref 147, .int (gI t14 164 0)], zhp t14)) rfl ?_
      refine zRgr rfl rfl rfl (by decide) (b := 164) rfl ?_
      refine zEv_k 1 (f' := (96, [some (.ref 147), some (.int x1), y2, y3, y4], [.int 1, .ref 164, .int (gI t14 164 0)], zhp t14)) rfl ?_
      refine zRia (j := 1) rfl rfl (by decide) (by decide) ?_
      refine zEv_k 1 (f' := (if ¬ (gI t14 164 0) = (gI t14 164 1) then 111 else 100, [some (.ref 147), some (.int x1), y2, y3, y4], [], zhp t14)) rfl (zEv_if (fun c17 => ?_) (fun c17 => ?_))
      · replace H := zif_t c17 H
        cases H
        exact zEv_r rfl
      · replace H := zif_f c17 H
        refine zEv_k 3 (f' := (103, [some (.ref 147), some (.int x1), y2, y3, y4], [.ref 147, .int 2, .ref 147], zhp t14)) rfl ?_
        refine zRgr rfl rfl rfl (by decide) (b := 165) rfl ?_
        refine zEv_k 1 (f' := (107, [some (.ref 147), some (.int x1), y2, y3, y4], [.int 1, .ref 165, .int 2, .ref 147], zhp t14)) rfl ?_
        refine zRia (j := 1) rfl rfl (by decide) (by decide) ?_
        obtain ⟨p18, hp18, H⟩ := zbs H
        refine zEv_c (fun _ => rfl) rfl (t_qRe_note (x1 := 2) (x2 := gI t14 165 1) (h := t14) (d := d + 1) hp18) rfl rfl ?_
        cases H
        exact zEv_r rfl
  clear H
  refine zEv_k 1 (f' := (if p1 = 0 then 14 else 8, [some (.ref 147), some (.int x1), some (.int x2), none, none], [], zhp h)) rfl (zEv_if (fun c2 => ?_) (fun c2 => ?_))
  · replace hv3 := zif_t c2 hv3
    cases hv3
    exact kv3
  · replace hv3 := zif_f c2 hv3
    refine zEv_k 3 (f' := (11, [some (.ref 147), some (.int x1), some (.int x2), none, none], [.int x2, .int 3, .ref 147], zhp h)) rfl ?_
    obtain ⟨p4, hp4, hv3⟩ := zbs hv3
    refine zEv_c (fun _ => rfl) rfl (t_qRe_note (x1 := 3) (x2 := x2) (h := h) (d := d + 1) hp4) rfl rfl ?_
    cases hv3
    exact kv3
