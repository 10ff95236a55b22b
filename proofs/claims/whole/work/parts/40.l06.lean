def qOr_bestPlan_b2 (oc : Nat) (x2 : Int32) (s : Int32 × zK) : Option ((Int32 × zK) ⊕ (zK)) :=
  if (gI s.2 oc 2) ≤ s.1 then
    some (.inr s.2)
  else
    (qCe_lifeOf oc s.1 s.2).bind fun p2 =>
    zlet (
        if ¬ p2 = (-1) then
          p2
        else
          51
      ) fun (v4 : Int32) =>
    (zix s.1 7).bind fun j5 =>
    zlet (sI s.2 195 j5 v4) fun h6 =>
    some (.inl (s.1 + 1, h6))
theorem t_qOr_bestPlan_b2b {Ls : Nat} {xs : Nat → Int32} {d : Nat} {oc : Nat} {x2 : Int32} {r : zA} {s : Int32 × zK} {e : (Int32 × zK) ⊕ (zK)} (ho : oc = 7 ∨ oc = 22) (H : qOr_bestPlan_b2 oc x2 s = some e) (K : match (generalizing := false) e with | .inl s' => ∀ (z4 : Option Value), zEv (zXs Ls xs) (d + 3) zm_42 (2, [some (.ref 192), some (.ref oc), some (.int x2), some (.int s'.1), z4], [], zhp s'.2) r | .inr v => ∀ (z3 : Option Value) (z4 : Option Value), zEv (zXs Ls xs) (d + 3) zm_42 (42, [some (.ref 192), some (.ref oc), some (.int x2), z3, z4], [], zhp v) r) (y4 : Option Value) : zEv (zXs Ls xs) (d + 3) zm_42 (2, [some (.ref 192), some (.ref oc), some (.int x2), some (.int s.1), y4], [], zhp s.2) r := by
  unfold qOr_bestPlan_b2 at H
  rcases ho with rfl | rfl
  · refine zEv_k 4 (f' := (if (gI s.2 7 2) ≤ s.1 then 42 else 10, [some (.ref 192), some (.ref 7), some (.int x2), some (.int s.1), y4], [], zhp s.2)) rfl (zEv_if (fun c1 => ?_) (fun c1 => ?_))
    · replace H := zif_t c1 H
      cases H
      exact K _ _
    · replace H := zif_f c1 H
      refine zEv_k 2 (f' := (12, [some (.ref 192), some (.ref 7), some (.int x2), some (.int s.1), y4], [.int s.1, .ref 7], zhp s.2)) rfl ?_
      obtain ⟨p2, hp2, H⟩ := zbs H
      refine zEv_c (fun _ => rfl) rfl (t_qCe_lifeOf (oo := 7) (x1 := s.1) (h := s.2) (d := d + 2) (by decide) hp2) rfl rfl ?_
      obtain ⟨v4, hv4, H⟩ := zlets H
      have kv4 : zEv (zXs Ls xs) (d + 3) zm_42 (35, [some (.ref 192), some (.ref 7), some (.int x2), some (.int s.1), some (.int p2)], [.int v4, .int s.1, .ref 195], zhp s.2) r := by
        obtain ⟨j5, hj5, H⟩ := zbs H
        obtain ⟨h6, eh6, H⟩ := zlets H
        refine zRis rfl rfl (by decide) hj5 eh6 ?_
        refine zEv_k 2 (f' := (2, [some (.ref 192), some (.ref 7), some (.int x2), some (.int (s.1 + 1)), some (.int p2)], [], zhp h6)) rfl ?_
        cases H
        exact K _
      clear H
      refine zEv_k 2 (f' := (18, [some (.ref 192), some (.ref 7), some (.int x2), some (.int s.1), some (.int p2)], [.ref 192], zhp s.2)) rfl ?_
      refine zRgr rfl rfl rfl (by decide) (b := 195) rfl ?_
      refine zEv_k 4 (f' := (if ¬ p2 = (-1) then 33 else 28, [some (.ref 192), some (.ref 7), some (.int x2), some (.int s.1), some (.int p2)], [.int s.1, .ref 195], zhp s.2)) rfl (zEv_if (fun c3 => ?_) (fun c3 => ?_))
      · replace hv4 := zif_t c3 hv4
        refine zEv_k 1 (f' := (35, [some (.ref 192), some (.ref 7), some (.int x2), some (.int s.1), some (.int p2)], [.int p2, .int s.1, .ref 195], zhp s.2)) rfl ?_
        cases hv4
        exact kv4
      · replace hv4 := zif_f c3 hv4
        refine zEv_k 2 (f' := (35, [some (.ref 192), some (.ref 7), some (.int x2), some (.int s.1), some (.int p2)], [.int 51, .int s.1, .ref 195], zhp s.2)) rfl ?_
        cases hv4
        exact kv4
  · refine zEv_k 4 (f' := (if (gI s.2 22 2) ≤ s.1 then 42 else 10, [some (.ref 192), some (.ref 22), some (.int x2), some (.int s.1), y4], [], zhp s.2)) rfl (zEv_if (fun c1 => ?_) (fun c1 => ?_))
    · replace H := zif_t c1 H
      cases H
      exact K _ _
    · replace H := zif_f c1 H
      refine zEv_k 2 (f' := (12, [some (.ref 192), some (.ref 22), some (.int x2), some (.int s.1), y4], [.int s.1, .ref 22], zhp s.2)) rfl ?_
      obtain ⟨p2, hp2, H⟩ := zbs H
      refine zEv_c (fun _ => rfl) rfl (t_qCe_lifeOf (oo := 22) (x1 := s.1) (h := s.2) (d := d + 2) (by decide) hp2) rfl rfl ?_
      obtain ⟨v4, hv4, H⟩ := zlets H
      have kv4 : zEv (zXs Ls xs) (d + 3) zm_42 (35, [some (.ref 192), some (.ref 22), some (.int x2), some (.int s.1), some (.int p2)], [.int v4, .int s.1, .ref 195], zhp s.2) r := by
        obtain ⟨j5, hj5, H⟩ := zbs H
        obtain ⟨h6, eh6, H⟩ := zlets H
        refine zRis rfl rfl (by decide) hj5 eh6 ?_
        refine zEv_k 2 (f' := (2, [some (.ref 192), some (.ref 22), some (.int x2), some (.int (s.1 + 1)), some (.int p2)], [], zhp h6)) rfl ?_
        cases H
        exact K _
      clear H
      refine zEv_k 2 (f' := (18, [some (.ref 192), some (.ref 22), some (.int x2), some (.int s.1), some (.int p2)], [.ref 192], zhp s.2)) rfl ?_
      refine zRgr rfl rfl rfl (by decide) (b := 195) rfl ?_
      refine zEv_k 4 (f' := (if ¬ p2 = (-1) then 33 else 28, [some (.ref 192), some (.ref 22), some (.int x2), some (.int s.1), some (.int p2)], [.int s.1, .ref 195], zhp s.2)) rfl (zEv_if (fun c3 => ?_) (fun c3 => ?_))
      · replace hv4 := zif_t c3 hv4
        refine zEv_k 1 (f' := (35, [some (.ref 192), some (.ref 22), some (.int x2), some (.int s.1), some (.int p2)], [.int p2, .int s.1, .ref 195], zhp s.2)) rfl ?_
        cases hv4
        exact kv4
      · replace hv4 := zif_f c3 hv4
        refine zEv_k 2 (f' := (35, [some (.ref 192), some (.ref 22), some (.int x2), some (.int s.1), some (.int p2)], [.int 51, .int s.1, .ref 195], zhp s.2)) rfl ?_
        cases hv4
        exact kv4
theorem t_qOr_bestPlan_b2 {Ls : Nat} {xs : Nat → Int32} {d : Nat} {oc : Nat} {x2 : Int32} {r : zA} (ho : oc = 7 ∨ oc = 22) {t : zK} (K : ∀ (z3 : Option Value) (z4 : Option Value), zEv (zXs Ls xs) (d + 3) zm_42 (42, [some (.ref 192), some (.ref oc), some (.int x2), z3, z4], [], zhp t) r) (n : Nat) (s : Int32 × zK) (H : zloop (qOr_bestPlan_b2 oc x2) n s = some t) (y4 : Option Value) : zEv (zXs Ls xs) (d + 3) zm_42 (2, [some (.ref 192), some (.ref oc), some (.int x2), some (.int s.1), y4], [], zhp s.2) r := by
  have Z := zloop_P (P := fun s => ∀ (y4 : Option Value), zEv (zXs Ls xs) (d + 3) zm_42 (2, [some (.ref 192), some (.ref oc), some (.int x2), some (.int s.1), y4], [], zhp s.2) r) (b := qOr_bestPlan_b2 oc x2) (t := t) (fun s s2 hb hk => by intro y4; exact t_qOr_bestPlan_b2b ho hb hk y4) (fun s hb => by intro y4; exact t_qOr_bestPlan_b2b ho hb K y4) n s H
  exact Z y4
def qOr_bestPlan_b44 (oc : Nat) (x2 : Int32) (s : Int32 × zK) : Option ((Int32 × zK) ⊕ (zK)) :=
  if (qCe_all oc s.2) < s.1 then
    some (.inr s.2)
  else
    (zix ((x2 * 128) + s.1) 1408).bind fun j10 =>
    zlet (sI s.2 194 j10 0) fun h11 =>
    some (.inl (s.1 + 1, h11))
theorem t_qOr_bestPlan_b44b {Ls : Nat} {xs : Nat → Int32} {d : Nat} {oc : Nat} {x2 : Int32} {r : zA} {s : Int32 × zK} {e : (Int32 × zK) ⊕ (zK)} (ho : oc = 7 ∨ oc = 22) (H : qOr_bestPlan_b44 oc x2 s = some e) (K : match (generalizing := false) e with | .inl s' => ∀ (z4 : Option Value), zEv (zXs Ls xs) (d + 3) zm_42 (44, [some (.ref 192), some (.ref oc), some (.int x2), some (.int s'.1), z4], [], zhp s'.2) r | .inr v => ∀ (z3 : Option Value) (z4 : Option Value), zEv (zXs Ls xs) (d + 3) zm_42 (71, [some (.ref 192), some (.ref oc), some (.int x2), z3, z4], [], zhp v) r) (y4 : Option Value) : zEv (zXs Ls xs) (d + 3) zm_42 (44, [some (.ref 192), some (.ref oc), some (.int x2), some (.int s.1), y4], [], zhp s.2) r := by
  unfold qOr_bestPlan_b44 at H
  rcases ho with rfl | rfl
  · refine zEv_k 2 (f' := (46, [some (.ref 192), some (.ref 7), some (.int x2), some (.int s.1), y4], [.ref 7, .int s.1], zhp s.2)) rfl ?_
    refine zEv_c (fun _ => rfl) rfl (t_qCe_all (oo := 7) (h := s.2) (d := d + 2) (by decide) rfl) rfl rfl ?_
    refine zEv_k 1 (f' := (if (qCe_all 7 s.2) < s.1 then 71 else 52, [some (.ref 192), some (.ref 7), some (.int x2), some (.int s.1), y4], [], zhp s.2)) rfl (zEv_if (fun c9 => ?_) (fun c9 => ?_))
    · replace H := zif_t c9 H
      cases H
      exact K _ _
    · replace H := zif_f c9 H
      refine zEv_k 1 (f' := (53, [some (.ref 192), some (.ref 7), some (.int x2), some (.int s.1), y4], [.ref 192], zhp s.2)) rfl ?_
      refine zRgr rfl rfl rfl (by decide) (b := 194) rfl ?_
      refine zEv_k 6 (f' := (64, [some (.ref 192), some (.ref 7), some (.int x2), some (.int s.1), y4], [.int 0, .int ((x2 * 128) + s.1), .ref 194], zhp s.2)) rfl ?_
      obtain ⟨j10, hj10, H⟩ := zbs H
      obtain ⟨h11, eh11, H⟩ := zlets H
      refine zRis rfl rfl (by decide) hj10 eh11 ?_
      refine zEv_k 2 (f' := (44, [some (.ref 192), some (.ref 7), some (.int x2), some (.int (s.1 + 1)), y4], [], zhp h11)) rfl ?_
      cases H
      exact K _
  · refine zEv_k 2 (f' := (46, [some (.ref 192), some (.ref 22), some (.int x2), some (.int s.1), y4], [.ref 22, .int s.1], zhp s.2)) rfl ?_
    refine zEv_c (fun _ => rfl) rfl (t_qCe_all (oo := 22) (h := s.2) (d := d + 2) (by decide) rfl) rfl rfl ?_
    refine zEv_k 1 (f' := (if (qCe_all 22 s.2) < s.1 then 71 else 52, [some (.ref 192), some (.ref 22), some (.int x2), some (.int s.1), y4], [], zhp s.2)) rfl (zEv_if (fun c9 => ?_) (fun c9 => ?_))
    · replace H := zif_t c9 H
      cases H
      exact K _ _
    · replace H := zif_f c9 H
      refine zEv_k 1 (f' := (53, [some (.ref 192), some (.ref 22), some (.int x2), some (.int s.1), y4], [.ref 192], zhp s.2)) rfl ?_
      refine zRgr rfl rfl rfl (by decide) (b := 194) rfl ?_
      refine zEv_k 6 (f' := (64, [some (.ref 192), some (.ref 22), some (.int x2), some (.int s.1), y4], [.int 0, .int ((x2 * 128) + s.1), .ref 194], zhp s.2)) rfl ?_
      obtain ⟨j10, hj10, H⟩ := zbs H
      obtain ⟨h11, eh11, H⟩ := zlets H
      refine zRis rfl rfl (by decide) hj10 eh11 ?_
      refine zEv_k 2 (f' := (44, [some (.ref 192), some (.ref 22), some (.int x2), some (.int (s.1 + 1)), y4], [], zhp h11)) rfl ?_
      cases H
      exact K _
theorem t_qOr_bestPlan_b44 {Ls : Nat} {xs : Nat → Int32} {d : Nat} {oc : Nat} {x2 : Int32} {r : zA} (ho : oc = 7 ∨ oc = 22) {t : zK} (K : ∀ (z3 : Option Value) (z4 : Option Value), zEv (zXs Ls xs) (d + 3) zm_42 (71, [some (.ref 192), some (.ref oc), some (.int x2), z3, z4], [], zhp t) r) (n : Nat) (s : Int32 × zK) (H : zloop (qOr_bestPlan_b44 oc x2) n s = some t) (y4 : Option Value) : zEv (zXs Ls xs) (d + 3) zm_42 (44, [some (.ref 192), some (.ref oc), some (.int x2), some (.int s.1), y4], [], zhp s.2) r := by
  have Z := zloop_P (P := fun s => ∀ (y4 : Option Value), zEv (zXs Ls xs) (d + 3) zm_42 (44, [some (.ref 192), some (.ref oc), some (.int x2), some (.int s.1), y4], [], zhp s.2) r) (b := qOr_bestPlan_b44 oc x2) (t := t) (fun s s2 hb hk => by intro y4; exact t_qOr_bestPlan_b44b ho hb hk y4) (fun s hb => by intro y4; exact t_qOr_bestPlan_b44b ho hb K y4) n s H
  exact Z y4
def qOr_bestPlan_b82 (oc : Nat) (x2 : Int32) (x3 : Int32) (s : Int32 × zK) : Option ((Int32 × zK) ⊕ (zK)) :=
  if (qCe_all oc s.2) < s.1 then
    some (.inr s.2)
  else
    Option.bind (
        if x3 < (qIn_bitCount s.1) then
          some s.2
        else
          (qOr_bestOf oc x3 s.1 s.2).bind fun p18 =>
          (qOr_worthFrom oc x3 s.1 p18 s.2).bind fun p19 =>
          (zix ((x3 * 128) + s.1) 1408).bind fun j20 =>
          zlet (sI s.2 194 j20 p19) fun h21 =>
          some h21
      ) fun (v17 : zK) =>
    some (.inl (s.1 + 1, v17))
theorem t_qOr_bestPlan_b82b {Ls : Nat} {xs : Nat → Int32} {d : Nat} {oc : Nat} {x2 : Int32} {x3 : Int32} {r : zA} {s : Int32 × zK} {e : (Int32 × zK) ⊕ (zK)} (ho : oc = 7 ∨ oc = 22) (H : qOr_bestPlan_b82 oc x2 x3 s = some e) (K : match (generalizing := false) e with | .inl s' => zEv (zXs Ls xs) (d + 3) zm_42 (82, [some (.ref 192), some (.ref oc), some (.int x2), some (.int x3), some (.int s'.1)], [], zhp s'.2) r | .inr v => ∀ (z4 : Option Value), zEv (zXs Ls xs) (d + 3) zm_42 (135, [some (.ref 192), some (.ref oc), some (.int x2), some (.int x3), z4], [], zhp v) r) : zEv (zXs Ls xs) (d + 3) zm_42 (82, [some (.ref 192), some (.ref oc), some (.int x2), some (.int x3), some (.int s.1)], [], zhp s.2) r := by
  unfold qOr_bestPlan_b82 at H
  rcases ho with rfl | rfl
  · refine zEv_k 2 (f' := (85, [some (.ref 192), some (.ref 7), some (.int x2), some (.int x3), some (.int s.1)], [.ref 7, .int s.1], zhp s.2)) rfl ?_
    refine zEv_c (fun _ => rfl) rfl (t_qCe_all (oo := 7) (h := s.2) (d := d + 2) (by decide) rfl) rfl rfl ?_
    refine zEv_k 1 (f' := (if (qCe_all 7 s.2) < s.1 then 135 else 91, [some (.ref 192), some (.ref 7), some (.int x2), some (.int x3), some (.int s.1)], [], zhp s.2)) rfl (zEv_if (fun c15 => ?_) (fun c15 => ?_))
    · replace H := zif_t c15 H
      cases H
      exact K _
    · replace H := zif_f c15 H
      obtain ⟨v17, hv17, H⟩ := zbs H
      have kv17 : zEv (zXs Ls xs) (d + 3) zm_42 (129, [some (.ref 192), some (.ref 7), some (.int x2), some (.int x3), some (.int s.1)], [], zhp v17) r := by
        refine zEv_k 2 (f' := (82, [some (.ref 192), some (.ref 7), some (.int x2), some (.int x3), some (.int (s.1 + 1))], [], zhp v17)) rfl ?_
        cases H
        exact K
      clear H
      refine zEv_k 1 (f' := (93, [some (.ref 192), some (.ref 7), some (.int x2), some (.int x3), some (.int s.1)], [.int s.1], zhp s.2)) rfl ?_
      refine zEv_c (fun _ => rfl) rfl (t_qIn_bitCount (x0 := s.1) (h := s.2) (d := d + 2) rfl) rfl rfl ?_
      refine zEv_k 2 (f' := (if x3 < (qIn_bitCount s.1) then 129 else 100, [some (.ref 192), some (.ref 7), some (.int x2), some (.int x3), some (.int s.1)], [], zhp s.2)) rfl (zEv_if (fun c16 => ?_) (fun c16 => ?_))
      · replace hv17 := zif_t c16 hv17
        cases hv17
        exact kv17
      · replace hv17 := zif_f c16 hv17
        refine zEv_k 1 (f' := (101, [some (.ref 192), some (.ref 7), some (.int x2), some (.int x3), some (.int s.1)], [.ref 192], zhp s.2)) rfl ?_
        refine zRgr rfl rfl rfl (by decide) (b := 194) rfl ?_
        refine zEv_k 9 (f' := (117, [some (.ref 192), some (.ref 7), some (.int x2), some (.int x3), some (.int s.1)], [.int s.1, .int x3, .ref 7, .ref 192, .int ((x3 * 128) + s.1), .ref 194], zhp s.2)) rfl ?_
        refine zEv_k 4 (f' := (122, [some (.ref 192), some (.ref 7), some (.int x2), some (.int x3), some (.int s.1)], [.int s.1, .int x3, .ref 7, .ref 192, .int s.1, .int x3, .ref 7, .ref 192, .int ((x3 * 128) + s.1), .ref 194], zhp s.2)) rfl ?_
        obtain ⟨p18, hp18, hv17⟩ := zbs hv17
        refine zEv_c (fun _ => rfl) rfl (t_qOr_bestOf (oc := 7) (x2 := x3) (x3 := s.1) (h := s.2) (d := d) (by decide) hp18) rfl rfl ?_
        obtain ⟨p19, hp19, hv17⟩ := zbs hv17
        refine zEv_c (fun _ => rfl) rfl (t_qOr_worthFrom (oc := 7) (x2 := x3) (x3 := s.1) (x4 := p18) (h := s.2) (d := d + 1) (by decide) hp19) rfl rfl ?_
        obtain ⟨j20, hj20, hv17⟩ := zbs hv17
        obtain ⟨h21, eh21, hv17⟩ := zlets hv17
        refine zRis rfl rfl (by decide) hj20 eh21 ?_
        cases hv17
        exact kv17
  · refine zEv_k 2 (f' := (85, [some (.ref 192), some (.ref 22), some (.int x2), some (.int x3), some (.int s.1)], [.ref 22, .int s.1], zhp s.2)) rfl ?_
    refine zEv_c (fun _ => rfl) rfl (t_qCe_all (oo := 22) (h := s.2) (d := d + 2) (by decide) rfl) rfl rfl ?_
    refine zEv_k 1 (f' := (if (qCe_all 22 s.2) < s.1 then 135 else 91, [some (.ref 192), some (.ref 22), some (.int x2), some (.int x3), some (.int s.1)], [], zhp s.2)) rfl (zEv_if (fun c15 => ?_) (fun c15 => ?_))
    · replace H := zif_t c15 H
      cases H
      exact K _
    · replace H := zif_f c15 H
      obtain ⟨v17, hv17, H⟩ := zbs H
      have kv17 : zEv (zXs Ls xs) (d + 3) zm_42 (129, [some (.ref 192), some (.ref 22), some (.int x2), some (.int x3), some (.int s.1)], [], zhp v17) r := by
        refine zEv_k 2 (f' := (82, [some (.ref 192), some (.ref 22), some (.int x2), some (.int x3), some (.int (s.1 + 1))], [], zhp v17)) rfl ?_
        cases H
        exact K
      clear H
      refine zEv_k 1 (f' := (93, [some (.ref 192), some (.ref 22), some (.int x2), some (.int x3), some (.int s.1)], [.int s.1], zhp s.2)) rfl ?_
      refine zEv_c (fun _ => rfl) rfl (t_qIn_bitCount (x0 := s.1) (h := s.2) (d := d + 2) rfl) rfl rfl ?_
      refine zEv_k 2 (f' := (if x3 < (qIn_bitCount s.1) then 129 else 100, [some (.ref 192), some (.ref 22), some (.int x2), some (.int x3), some (.int s.1)], [], zhp s.2)) rfl (zEv_if (fun c16 => ?_) (fun c16 => ?_))
      · replace hv17 := zif_t c16 hv17
        cases hv17
        exact kv17
      · replace hv17 := zif_f c16 hv17
        refine zEv_k 1 (f' := (101, [some (.ref 192), some (.ref 22), some (.int x2), some (.int x3), some (.int s.1)], [.ref 192], zhp s.2)) rfl ?_
        refine zRgr rfl rfl rfl (by decide) (b := 194) rfl ?_
        refine zEv_k 9 (f' := (117, [some (.ref 192), some (.ref 22), some (.int x2), some (.int x3), some (.int s.1)], [.int s.1, .int x3, .ref 22, .ref 192, .int ((x3 * 128) + s.1), .ref 194], zhp s.2)) rfl ?_
        refine zEv_k 4 (f' := (122, [some (.ref 192), some (.ref 22), some (.int x2), some (.int x3), some (.int s.1)], [.int s.1, .int x3, .ref 22, .ref 192, .int s.1, .int x3, .ref 22, .ref 192, .int ((x3 * 128) + s.1), .ref 194], zhp s.2)) rfl ?_
        obtain ⟨p18, hp18, hv17⟩ := zbs hv17
        refine zEv_c (fun _ => rfl) rfl (t_qOr_bestOf (oc := 22) (x2 := x3) (x3 := s.1) (h := s.2) (d := d) (by decide) hp18) rfl rfl ?_
        obtain ⟨p19, hp19, hv17⟩ := zbs hv17
        refine zEv_c (fun _ => rfl) rfl (t_qOr_worthFrom (oc := 22) (x2 := x3) (x3 := s.1) (x4 := p18) (h := s.2) (d := d + 1) (by decide) hp19) rfl rfl ?_
        obtain ⟨j20, hj20, hv17⟩ := zbs hv17
        obtain ⟨h21, eh21, hv17⟩ := zlets hv17
        refine zRis rfl rfl (by decide) hj20 eh21 ?_
        cases hv17
        exact kv17
theorem t_qOr_bestPlan_b82 {Ls : Nat} {xs : Nat → Int32} {d : Nat} {oc : Nat} {x2 : Int32} {x3 : Int32} {r : zA} (ho : oc = 7 ∨ oc = 22) {t : zK} (K : ∀ (z4 : Option Value), zEv (zXs Ls xs) (d + 3) zm_42 (135, [some (.ref 192), some (.ref oc), some (.int x2), some (.int x3), z4], [], zhp t) r) (n : Nat) (s : Int32 × zK) (H : zloop (qOr_bestPlan_b82 oc x2 x3) n s = some t) : zEv (zXs Ls xs) (d + 3) zm_42 (82, [some (.ref 192), some (.ref oc), some (.int x2), some (.int x3), some (.int s.1)], [], zhp s.2) r := by
  have Z := zloop_P (P := fun s => zEv (zXs Ls xs) (d + 3) zm_42 (82, [some (.ref 192), some (.ref oc), some (.int x2), some (.int x3), some (.int s.1)], [], zhp s.2) r) (b := qOr_bestPlan_b82 oc x2 x3) (t := t) (fun s s2 hb hk => by exact t_qOr_bestPlan_b82b ho hb hk) (fun s hb => by exact t_qOr_bestPlan_b82b ho hb K) n s H
  exact Z
def qOr_bestPlan_b75 (oc : Nat) (x2 : Int32) (s : Int32 × zK) : Option ((Int32 × zK) ⊕ (zK)) :=
  if s.1 < 0 then
    some (.inr s.2)
  else
    (zloop (qOr_bestPlan_b82 oc x2 s.1) zfu (0, s.2)).bind fun t22 =>
    some (.inl (s.1 + (-1), t22))
theorem t_qOr_bestPlan_b75b {Ls : Nat} {xs : Nat → Int32} {d : Nat} {oc : Nat} {x2 : Int32} {r : zA} {s : Int32 × zK} {e : (Int32 × zK) ⊕ (zK)} (ho : oc = 7 ∨ oc = 22) (H : qOr_bestPlan_b75 oc x2 s = some e) (K : match (generalizing := false) e with | .inl s' => ∀ (z4 : Option Value), zEv (zXs Ls xs) (d + 3) zm_42 (75, [some (.ref 192), some (.ref oc), some (.int x2), some (.int s'.1), z4], [], zhp s'.2) r | .inr v => ∀ (z3 : Option Value) (z4 : Option Value), zEv (zXs Ls xs) (d + 3) zm_42 (141, [some (.ref 192), some (.ref oc), some (.int x2), z3, z4], [], zhp v) r) (y4 : Option Value) : zEv (zXs Ls xs) (d + 3) zm_42 (75, [some (.ref 192), some (.ref oc), some (.int x2), some (.int s.1), y4], [], zhp s.2) r := by
  unfold qOr_bestPlan_b75 at H
  rcases ho with rfl | rfl
  · refine zEv_k 2 (f' := (if s.1 < 0 then 141 else 79, [some (.ref 192), some (.ref 7), some (.int x2), some (.int s.1), y4], [], zhp s.2)) rfl (zEv_if (fun c14 => ?_) (fun c14 => ?_))
    · replace H := zif_t c14 H
      cases H
      exact K _ _
    · replace H := zif_f c14 H
      refine zEv_k 2 (f' := (82, [some (.ref 192), some (.ref 7), some (.int x2), some (.int s.1), some (.int 0)], [], zhp s.2)) rfl ?_
      obtain ⟨t22, ht22, H⟩ := zbs H
      refine t_qOr_bestPlan_b82 (oc := 7) (x2 := x2) (x3 := s.1) (by decide) ?_ zfu _ ht22
      intro y4
      refine zEv_k 2 (f' := (75, [some (.ref 192), some (.ref 7), some (.int x2), some (.int (s.1 + (-1))), y4], [], zhp t22)) rfl ?_
      cases H
      exact K _
  · refine zEv_k 2 (f' := (if s.1 < 0 then 141 else 79, [some (.ref 192), some (.ref 22), some (.int x2), some (.int s.1), y4], [], zhp s.2)) rfl (zEv_if (fun c14 => ?_) (fun c14 => ?_))
    · replace H := zif_t c14 H
      cases H
      exact K _ _
    · replace H := zif_f c14 H
      refine zEv_k 2 (f' := (82, [some (.ref 192), some (.ref 22), some (.int x2), some (.int s.1), some (.int 0)], [], zhp s.2)) rfl ?_
      obtain ⟨t22, ht22, H⟩ := zbs H
      refine t_qOr_bestPlan_b82 (oc := 22) (x2 := x2) (x3 := s.1) (by decide) ?_ zfu _ ht22
      intro y4
      refine zEv_k 2 (f' := (75, [some (.ref 192), some (.ref 22), some (.int x2), some (.int (s.1 + (-1))), y4], [], zhp t22)) rfl ?_
      cases H
      exact K _
theorem t_qOr_bestPlan_b75 {Ls : Nat} {xs : Nat → Int32} {d : Nat} {oc : Nat} {x2 : Int32} {r : zA} (ho : oc = 7 ∨ oc = 22) {t : zK} (K : ∀ (z3 : Option Value) (z4 : Option Value), zEv (zXs Ls xs) (d + 3) zm_42 (141, [some (.ref 192), some (.ref oc), some (.int x2), z3, z4], [], zhp t) r) (n : Nat) (s : Int32 × zK) (H : zloop (qOr_bestPlan_b75 oc x2) n s = some t) (y4 : Option Value) : zEv (zXs Ls xs) (d + 3) zm_42 (75, [some (.ref 192), some (.ref oc), some (.int x2), some (.int s.1), y4], [], zhp s.2) r := by
  have Z := zloop_P (P := fun s => ∀ (y4 : Option Value), zEv (zXs Ls xs) (d + 3) zm_42 (75, [some (.ref 192), some (.ref oc), some (.int x2), some (.int s.1), y4], [], zhp s.2) r) (b := qOr_bestPlan_b75 oc x2) (t := t) (fun s s2 hb hk => by intro y4; exact t_qOr_bestPlan_b75b ho hb hk y4) (fun s hb => by intro y4; exact t_qOr_bestPlan_b75b ho hb K y4) n s H
  exact Z y4
def qOr_bestPlan_b156 (oc : Nat) (x2 : Int32) (s : Int32 × Int32 × zK) : Option ((Int32 × Int32 × zK) ⊕ (zK)) :=
  if x2 ≤ s.2.1 then
    some (.inr s.2.2)
  else
    (qOr_bestOf oc s.2.1 s.1 s.2.2).bind fun p28 =>
    (zix s.2.1 10).bind fun j29 =>
    zlet (sI s.2.2 193 j29 p28) fun h30 =>
    some (.inl (qOr_with s.1 (gI h30 193 j29), s.2.1 + 1, h30))
theorem t_qOr_bestPlan_b156b {Ls : Nat} {xs : Nat → Int32} {d : Nat} {oc : Nat} {x2 : Int32} {r : zA} {s : Int32 × Int32 × zK} {e : (Int32 × Int32 × zK) ⊕ (zK)} (ho : oc = 7 ∨ oc = 22) (H : qOr_bestPlan_b156 oc x2 s = some e) (K : match (generalizing := false) e with | .inl s' => zEv (zXs Ls xs) (d + 3) zm_42 (156, [some (.ref 192), some (.ref oc), some (.int x2), some (.int s'.1), some (.int s'.2.1)], [], zhp s'.2.2) r | .inr v => ∀ (z3 : Option Value) (z4 : Option Value), zEv (zXs Ls xs) (d + 3) zm_42 (195, [some (.ref 192), some (.ref oc), some (.int x2), z3, z4], [], zhp v) r) : zEv (zXs Ls xs) (d + 3) zm_42 (156, [some (.ref 192), some (.ref oc), some (.int x2), some (.int s.1), some (.int s.2.1)], [], zhp s.2.2) r := by
  unfold qOr_bestPlan_b156 at H
  rcases ho with rfl | rfl
  · refine zEv_k 3 (f' := (if x2 ≤ s.2.1 then 195 else 162, [some (.ref 192), some (.ref 7), some (.int x2), some (.int s.1), some (.int s.2.1)], [], zhp s.2.2)) rfl (zEv_if (fun c27 => ?_) (fun c27 => ?_))
    · replace H := zif_t c27 H
      cases H
      exact K _ _
    · replace H := zif_f c27 H
      refine zEv_k 1 (f' := (163, [some (.ref 192), some (.ref 7), some (.int x2), some (.int s.1), some (.int s.2.1)], [.ref 192], zhp s.2.2)) rfl ?_
      refine zRgr rfl rfl rfl (by decide) (b := 193) rfl ?_
      refine zEv_k 5 (f' := (173, [some (.ref 192), some (.ref 7), some (.int x2), some (.int s.1), some (.int s.2.1)], [.int s.1, .int s.2.1, .ref 7, .ref 192, .int s.2.1, .ref 193], zhp s.2.2)) rfl ?_
      obtain ⟨p28, hp28, H⟩ := zbs H
      refine zEv_c (fun _ => rfl) rfl (t_qOr_bestOf (oc := 7) (x2 := s.2.1) (x3 := s.1) (h := s.2.2) (d := d) (by decide) hp28) rfl rfl ?_
      obtain ⟨j29, hj29, H⟩ := zbs H
      obtain ⟨h30, eh30, H⟩ := zlets H
      refine zRis rfl rfl (by decide) hj29 eh30 ?_
      refine zEv_k 2 (f' := (179, [some (.ref 192), some (.ref 7), some (.int x2), some (.int s.1), some (.int s.2.1)], [.ref 192, .int s.1], zhp h30)) rfl ?_
      refine zRgr rfl rfl rfl (by decide) (b := 193) rfl ?_
      refine zEv_k 1 (f' := (184, [some (.ref 192), some (.ref 7), some (.int x2), some (.int s.1), some (.int s.2.1)], [.int s.2.1, .ref 193, .int s.1], zhp h30)) rfl ?_
      refine zRia rfl rfl (by decide) hj29 ?_
      refine zEv_c (fun _ => rfl) rfl (t_qOr_with (x0 := s.1) (x1 := gI h30 193 j29) (h := h30) (d := d + 2) rfl) rfl rfl ?_
      refine zEv_k 3 (f' := (156, [some (.ref 192), some (.ref 7), some (.int x2), some (.int (qOr_with s.1 (gI h30 193 j29))), some (.int (s.2.1 + 1))], [], zhp h30)) rfl ?_
      cases H
      exact K
  · refine zEv_k 3 (f' := (if x2 ≤ s.2.1 then 195 else 162, [some (.ref 192), some (.ref 22), some (.int x2), some (.int s.1), some (.int s.2.1)], [], zhp s.2.2)) rfl (zEv_if (fun c27 => ?_) (fun c27 => ?_))
    · replace H := zif_t c27 H
      cases H
      exact K _ _
    · replace H := zif_f c27 H
      refine zEv_k 1 (f' := (163, [some (.ref 192), some (.ref 22), some (.int x2), some (.int s.1), some (.int s.2.1)], [.ref 192], zhp s.2.2)) rfl ?_
      refine zRgr rfl rfl rfl (by decide) (b := 193) rfl ?_
      refine zEv_k 5 (f' := (173, [some (.ref 192), some (.ref 22), some (.int x2), some (.int s.1), some (.int s.2.1)], [.int s.1, .int s.2.1, .ref 22, .ref 192, .int s.2.1, .ref 193], zhp s.2.2)) rfl ?_
      obtain ⟨p28, hp28, H⟩ := zbs H
      refine zEv_c (fun _ => rfl) rfl (t_qOr_bestOf (oc := 22) (x2 := s.2.1) (x3 := s.1) (h := s.2.2) (d := d) (by decide) hp28) rfl rfl ?_
      obtain ⟨j29, hj29, H⟩ := zbs H
      obtain ⟨h30, eh30, H⟩ := zlets H
      refine zRis rfl rfl (by decide) hj29 eh30 ?_
      refine zEv_k 2 (f' := (179, [some (.ref 192), some (.ref 22), some (.int x2), some (.int s.1), some (.int s.2.1)], [.ref 192, .int s.1], zhp h30)) rfl ?_
      refine zRgr rfl rfl rfl (by decide) (b := 193) rfl ?_
      refine zEv_k 1 (f' := (184, [some (.ref 192), some (.ref 22), some (.int x2), some (.int s.1), some (.int s.2.1)], [.int s.2.1, .ref 193, .int s.1], zhp h30)) rfl ?_
      refine zRia rfl rfl (by decide) hj29 ?_
      refine zEv_c (fun _ => rfl) rfl (t_qOr_with (x0 := s.1) (x1 := gI h30 193 j29) (h := h30) (d := d + 2) rfl) rfl rfl ?_
      refine zEv_k 3 (f' := (156, [some (.ref 192), some (.ref 22), some (.int x2), some (.int (qOr_with s.1 (gI h30 193 j29))), some (.int (s.2.1 + 1))], [], zhp h30)) rfl ?_
      cases H
      exact K
theorem t_qOr_bestPlan_b156 {Ls : Nat} {xs : Nat → Int32} {d : Nat} {oc : Nat} {x2 : Int32} {r : zA} (ho : oc = 7 ∨ oc = 22) {t : zK} (K : ∀ (z3 : Option Value) (z4 : Option Value), zEv (zXs Ls xs) (d + 3) zm_42 (195, [some (.ref 192), some (.ref oc), some (.int x2), z3, z4], [], zhp t) r) (n : Nat) (s : Int32 × Int32 × zK) (H : zloop (qOr_bestPlan_b156 oc x2) n s = some t) : zEv (zXs Ls xs) (d + 3) zm_42 (156, [some (.ref 192), some (.ref oc), some (.int x2), some (.int s.1), some (.int s.2.1)], [], zhp s.2.2) r := by
  have Z := zloop_P (P := fun s => zEv (zXs Ls xs) (d + 3) zm_42 (156, [some (.ref 192), some (.ref oc), some (.int x2), some (.int s.1), some (.int s.2.1)], [], zhp s.2.2) r) (b := qOr_bestPlan_b156 oc x2) (t := t) (fun s s2 hb hk => by exact t_qOr_bestPlan_b156b ho hb hk) (fun s hb => by exact t_qOr_bestPlan_b156b ho hb K) n s H
  exact Z
def qOr_bestPlan (oc : Nat) (x2 : Int32) (h : zK) : Option (zK) :=
  (zloop (qOr_bestPlan_b2 oc x2) zfu (0, h)).bind fun t7 =>
  (zloop (qOr_bestPlan_b44 oc x2) zfu (0, t7)).bind fun t12 =>
  (zloop (qOr_bestPlan_b75 oc x2) zfu (x2 - 1, t12)).bind fun t24 =>
  zlet (sI t24 192 0 (gI t24 194 0)) fun h26 =>
  (zloop (qOr_bestPlan_b156 oc x2) zfu (0, 0, h26)).bind fun t31 =>
  some t31
theorem t_qOr_bestPlan {Ls : Nat} {xs : Nat → Int32} {d : Nat} {oc : Nat} {x2 : Int32} {h : zK} {p : zK} (ho : oc = 7 ∨ oc = 22) (H : qOr_bestPlan oc x2 h = some p) : zEv (zXs Ls xs) (d + 3) zm_42 (0, [some (.ref 192), some (.ref oc), some (.int x2), none, none], [], zhp h) (none, zhp p) := by
  unfold qOr_bestPlan at H
  rcases ho with rfl | rfl
  · refine zEv_k 2 (f' := (2, [some (.ref 192), some (.ref 7), some (.int x2), some (.int 0), none], [], zhp h)) rfl ?_
    obtain ⟨t7, ht7, H⟩ := zbs H
    refine t_qOr_bestPlan_b2 (oc := 7) (x2 := x2) (by decide) ?_ zfu _ ht7 _
    intro y3 y4
    refine zEv_k 2 (f' := (44, [some (.ref 192), some (.ref 7), some (.int x2), some (.int 0), y4], [], zhp t7)) rfl ?_
    obtain ⟨t12, ht12, H⟩ := zbs H
    refine t_qOr_bestPlan_b44 (oc := 7) (x2 := x2) (by decide) ?_ zfu _ ht12 _
    intro y3 y4
    refine zEv_k 4 (f' := (75, [some (.ref 192), some (.ref 7), some (.int x2), some (.int (x2 - 1)), y4], [], zhp t12)) rfl ?_
    obtain ⟨t24, ht24, H⟩ := zbs H
    refine t_qOr_bestPlan_b75 (oc := 7) (x2 := x2) (by decide) ?_ zfu _ ht24 _
    intro y3 y4
    refine zEv_k 2 (f' := (143, [some (.ref 192), some (.ref 7), some (.int x2), y3, y4], [.ref 192, .ref 192], zhp t24)) rfl ?_
    refine zRgr rfl rfl rfl (by decide) (b := 194) rfl ?_
    refine zEv_k 1 (f' := (147, [some (.ref 192), some (.ref 7), some (.int x2), y3, y4], [.int 0, .ref 194, .ref 192], zhp t24)) rfl ?_
    refine zRia (j := 0) rfl rfl (by decide) (by decide) ?_
    obtain ⟨h26, eh26, H⟩ := zlets H
    refine zEv_w (F := fun z => (151, [some (.ref 192), some (.ref 7), some (.int x2), y3, y4], [], zhp z)) (h0 := sI t24 192 0 (gI t24 194 0)) 1 rfl eh26 ?_
    refine zEv_k 4 (f' := (156, [some (.ref 192), some (.ref 7), some (.int x2), some (.int 0), some (.int 0)], [], zhp h26)) rfl ?_
    obtain ⟨t31, ht31, H⟩ := zbs H
    refine t_qOr_bestPlan_b156 (oc := 7) (x2 := x2) (by decide) ?_ zfu _ ht31
    intro y3 y4
    cases H
    exact zEv_r rfl
  · refine zEv_k 2 (f' := (2, [some (.ref 192), some (.ref 22), some (.int x2), some (.int 0), none], [], zhp h)) rfl ?_
    obtain ⟨t7, ht7, H⟩ := zbs H
    refine t_qOr_bestPlan_b2 (oc := 22) (x2 := x2) (by decide) ?_ zfu _ ht7 _
    intro y3 y4
    refine zEv_k 2 (f' := (44, [some (.ref 192), some (.ref 22), some (.int x2), some (.int 0), y4], [], zhp t7)) rfl ?_
    obtain ⟨t12, ht12, H⟩ := zbs H
    refine t_qOr_bestPlan_b44 (oc := 22) (x2 := x2) (by decide) ?_ zfu _ ht12 _
    intro y3 y4
    refine zEv_k 4 (f' := (75, [some (.ref 192), some (.ref 22), some (.int x2), some (.int (x2 - 1)), y4], [], zhp t12)) rfl ?_
    obtain ⟨t24, ht24, H⟩ := zbs H
    refine t_qOr_bestPlan_b75 (oc := 22) (x2 := x2) (by decide) ?_ zfu _ ht24 _
    intro y3 y4
    refine zEv_k 2 (f' := (143, [some (.ref 192), some (.ref 22), some (.int x2), y3, y4], [.ref 192, .ref 192], zhp t24)) rfl ?_
    refine zRgr rfl rfl rfl (by decide) (b := 194) rfl ?_
    refine zEv_k 1 (f' := (147, [some (.ref 192), some (.ref 22), some (.int x2), y3, y4], [.int 0, .ref 194, .ref 192], zhp t24)) rfl ?_
    refine zRia (j := 0) rfl rfl (by decide) (by decide) ?_
    obtain ⟨h26, eh26, H⟩ := zlets H
    refine zEv_w (F := fun z => (151, [some (.ref 192), some (.ref 22), some (.int x2), y3, y4], [], zhp z)) (h0 := sI t24 192 0 (gI t24 194 0)) 1 rfl eh26 ?_
    refine zEv_k 4 (f' := (156, [some (.ref 192), some (.ref 22), some (.int x2), some (.int 0), some (.int 0)], [], zhp h26)) rfl ?_
    obtain ⟨t31, ht31, H⟩ := zbs H
    refine t_qOr_bestPlan_b156 (oc := 22) (x2 := x2) (by decide) ?_ zfu _ ht31
    intro y3 y4
    cases H
    exact zEv_r rfl
def qOr_worthBehind (oc : Nat) (x1 : Int32) (x2 : Int32) (h : zK) : Option (Int32) :=
  Option.bind (
      if x1 = 7 then
        some 0
      else
        (zix x2 7).bind fun j3 =>
        if (zf_cin (gI h (oc + 7) j3) x1) = 0 then
          some 0
        else
          some 1
    ) fun (v2 : Int32) =>
  if v2 = 0 then
    (zix x2 7).bind fun j6 =>
    some (gI h (oc + 1) j6)
  else
    (zix x2 7).bind fun j7 =>
    some (2 * (gI h (oc + 1) j7))
theorem t_qOr_worthBehind {Ls : Nat} {xs : Nat → Int32} {d : Nat} {oc : Nat} {x1 : Int32} {x2 : Int32} {h : zK} {p : Int32} (ho : oc = 7 ∨ oc = 22) (H : qOr_worthBehind oc x1 x2 h = some p) : zEv (zXs Ls xs) (d + 1) zm_49 (0, [some (.ref oc), some (.int x1), some (.int x2), none], [], zhp h) (some (.int p), zhp h) := by
  unfold qOr_worthBehind at H
  rcases ho with rfl | rfl
  · obtain ⟨v2, hv2, H⟩ := zbs H
    have kv2 : zEv (zXs Ls xs) (d + 1) zm_49 (24, [some (.ref 7), some (.int x1), some (.int x2), none], [.int v2], zhp h) (some (.int p), zhp h) := by
      refine zEv_k 3 (f' := (if v2 = 0 then 40 else 29, [some (.ref 7), some (.int x1), some (.int x2), some (.int v2)], [], zhp h)) rfl (zEv_if (fun c5 => ?_) (fun c5 => ?_))
      · replace H := zif_t c5 H
        refine zEv_k 1 (f' := (41, [some (.ref 7), some (.int x1), some (.int x2), some (.int v2)], [.ref 7], zhp h)) rfl ?_
        refine zRgr rfl rfl rfl (by decide) (b := 7 + 1) rfl ?_
        refine zEv_k 1 (f' := (45, [some (.ref 7), some (.int x1), some (.int x2), some (.int v2)], [.int x2, .ref (7 + 1)], zhp h)) rfl ?_
        obtain ⟨j6, hj6, H⟩ := zbs H
        refine zRia rfl rfl (by decide) hj6 ?_
        cases H
        exact zEv_r rfl
      · replace H := zif_f c5 H
        refine zEv_k 2 (f' := (31, [some (.ref 7), some (.int x1), some (.int x2), some (.int v2)], [.ref 7, .int 2], zhp h)) rfl ?_
        refine zRgr rfl rfl rfl (by decide) (b := 7 + 1) rfl ?_
        refine zEv_k 1 (f' := (35, [some (.ref 7), some (.int x1), some (.int x2), some (.int v2)], [.int x2, .ref (7 + 1), .int 2], zhp h)) rfl ?_
        obtain ⟨j7, hj7, H⟩ := zbs H
        refine zRia rfl rfl (by decide) hj7 ?_
        refine zEv_k 2 (f' := (46, [some (.ref 7), some (.int x1), some (.int x2), some (.int v2)], [.int (2 * (gI h (7 + 1) j7))], zhp h)) rfl ?_
        cases H
        exact zEv_r rfl
    clear H
    refine zEv_k 3 (f' := (if x1 = 7 then 23 else 6, [some (.ref 7), some (.int x1), some (.int x2), none], [], zhp h)) rfl (zEv_if (fun c1 => ?_) (fun c1 => ?_))
    · replace hv2 := zif_t c1 hv2
      refine zEv_k 1 (f' := (24, [some (.ref 7), some (.int x1), some (.int x2), none], [.int 0], zhp h)) rfl ?_
      cases hv2
      exact kv2
    · replace hv2 := zif_f c1 hv2
      refine zEv_k 1 (f' := (7, [some (.ref 7), some (.int x1), some (.int x2), none], [.ref 7], zhp h)) rfl ?_
      refine zRgr rfl rfl rfl (by decide) (b := 7 + 7) rfl ?_
      refine zEv_k 1 (f' := (11, [some (.ref 7), some (.int x1), some (.int x2), none], [.int x2, .ref (7 + 7)], zhp h)) rfl ?_
      obtain ⟨j3, hj3, hv2⟩ := zbs hv2
      refine zRia rfl rfl (by decide) hj3 ?_
      refine zEv_k 1 (f' := (13, [some (.ref 7), some (.int x1), some (.int x2), none], [.int x1, .int (gI h (7 + 7) j3)], zhp h)) rfl ?_
      refine zEv_c (fun _ => rfl) rfl ev_zf_cin rfl rfl ?_
      refine zEv_k 1 (f' := (if (zf_cin (gI h (7 + 7) j3) x1) = 0 then 23 else 19, [some (.ref 7), some (.int x1), some (.int x2), none], [], zhp h)) rfl (zEv_if (fun c4 => ?_) (fun c4 => ?_))
      · replace hv2 := zif_t c4 hv2
        refine zEv_k 1 (f' := (24, [some (.ref 7), some (.int x1), some (.int x2), none], [.int 0], zhp h)) rfl ?_
        cases hv2
        exact kv2
      · replace hv2 := zif_f c4 hv2
        refine zEv_k 2 (f' := (24, [some (.ref 7), some (.int x1), some (.int x2), none], [.int 1], zhp h)) rfl ?_
        cases hv2
        exact kv2
  · obtain ⟨v2, hv2, H⟩ := zbs H
    have kv2 : zEv (zXs Ls xs) (d + 1) zm_49 (24, [some (.ref 22), some (.int x1), some (.int x2), none], [.int v2], zhp h) (some (.int p), zhp h) := by
      refine zEv_k 3 (f' := (if v2 = 0 then 40 else 29, [some (.ref 22), some (.int x1), some (.int x2), some (.int v2)], [], zhp h)) rfl (zEv_if (fun c5 => ?_) (fun c5 => ?_))
      · replace H := zif_t c5 H
        refine zEv_k 1 (f' := (41, [some (.ref 22), some (.int x1), some (.int x2), some (.int v2)], [.ref 22], zhp h)) rfl ?_
        refine zRgr rfl rfl rfl (by decide) (b := 22 + 1) rfl ?_
        refine zEv_k 1 (f' := (45, [some (.ref 22), some (.int x1), some (.int x2), some (.int v2)], [.int x2, .ref (22 + 1)], zhp h)) rfl ?_
        obtain ⟨j6, hj6, H⟩ := zbs H
        refine zRia rfl rfl (by decide) hj6 ?_
        cases H
        exact zEv_r rfl
      · replace H := zif_f c5 H
        refine zEv_k 2 (f' := (31, [some (.ref 22), some (.int x1), some (.int x2), some (.int v2)], [.ref 22, .int 2], zhp h)) rfl ?_
        refine zRgr rfl rfl rfl (by decide) (b := 22 + 1) rfl ?_
        refine zEv_k 1 (f' := (35, [some (.ref 22), some (.int x1), some (.int x2), some (.int v2)], [.int x2, .ref (22 + 1), .int 2], zhp h)) rfl ?_
        obtain ⟨j7, hj7, H⟩ := zbs H
        refine zRia rfl rfl (by decide) hj7 ?_
        refine zEv_k 2 (f' := (46, [some (.ref 22), some (.int x1), some (.int x2), some (.int v2)], [.int (2 * (gI h (22 + 1) j7))], zhp h)) rfl ?_
        cases H
        exact zEv_r rfl
    clear H
    refine zEv_k 3 (f' := (if x1 = 7 then 23 else 6, [some (.ref 22), some (.int x1), some (.int x2), none], [], zhp h)) rfl (zEv_if (fun c1 => ?_) (fun c1 => ?_))
    · replace hv2 := zif_t c1 hv2
      refine zEv_k 1 (f' := (24, [some (.ref 22), some (.int x1), some (.int x2), none], [.int 0], zhp h)) rfl ?_
      cases hv2
      exact kv2
    · replace hv2 := zif_f c1 hv2
      refine zEv_k 1 (f' := (7, [some (.ref 22), some (.int x1), some (.int x2), none], [.ref 22], zhp h)) rfl ?_
      refine zRgr rfl rfl rfl (by decide) (b := 22 + 7) rfl ?_
      refine zEv_k 1 (f' := (11, [some (.ref 22), some (.int x1), some (.int x2), none], [.int x2, .ref (22 + 7)], zhp h)) rfl ?_
      obtain ⟨j3, hj3, hv2⟩ := zbs hv2
      refine zRia rfl rfl (by decide) hj3 ?_
      refine zEv_k 1 (f' := (13, [some (.ref 22), some (.int x1), some (.int x2), none], [.int x1, .int (gI h (22 + 7) j3)], zhp h)) rfl ?_
      refine zEv_c (fun _ => rfl) rfl ev_zf_cin rfl rfl ?_
      refine zEv_k 1 (f' := (if (zf_cin (gI h (22 + 7) j3) x1) = 0 then 23 else 19, [some (.ref 22), some (.int x1), some (.int x2), none], [], zhp h)) rfl (zEv_if (fun c4 => ?_) (fun c4 => ?_))
      · replace hv2 := zif_t c4 hv2
        refine zEv_k 1 (f' := (24, [some (.ref 22), some (.int x1), some (.int x2), none], [.int 0], zhp h)) rfl ?_
        cases hv2
        exact kv2
      · replace hv2 := zif_f c4 hv2
        refine zEv_k 2 (f' := (24, [some (.ref 22), some (.int x1), some (.int x2), none], [.int 1], zhp h)) rfl ?_
        cases hv2
        exact kv2
def qOr_worthOnward (oc : Nat) (x2 : Int32) (x3 : Int32) (x4 : Int32) (x5 : Int32) (h : zK) : Option (Int32) :=
  Option.bind (
      if x2 = 0 then
        (qOr_worthBehind oc x4 x5 h).bind fun p3 =>
        some p3
      else
        some 1
    ) fun (v2 : Int32) =>
  (zix (((x3 ||| ((1 : Int32) <<< (x5 &&& 31))) * 8) + x5) 1408).bind fun j4 =>
  some (v2 + (gI h 194 j4))
theorem t_qOr_worthOnward {Ls : Nat} {xs : Nat → Int32} {d : Nat} {oc : Nat} {x2 : Int32} {x3 : Int32} {x4 : Int32} {x5 : Int32} {h : zK} {p : Int32} (ho : oc = 7 ∨ oc = 22) (H : qOr_worthOnward oc x2 x3 x4 x5 h = some p) : zEv (zXs Ls xs) (d + 2) zm_48 (0, [some (.ref 192), some (.ref oc), some (.int x2), some (.int x3), some (.int x4), some (.int x5), none], [], zhp h) (some (.int p), zhp h) := by
  unfold qOr_worthOnward at H
  rcases ho with rfl | rfl
  · obtain ⟨v2, hv2, H⟩ := zbs H
    have kv2 : zEv (zXs Ls xs) (d + 2) zm_48 (16, [some (.ref 192), some (.ref 7), some (.int x2), some (.int x3), some (.int x4), some (.int x5), none], [.int v2], zhp h) (some (.int p), zhp h) := by
      refine zEv_k 3 (f' := (21, [some (.ref 192), some (.ref 7), some (.int x2), some (.int x3), some (.int x4), some (.int x5), some (.int v2)], [.ref 192, .int v2], zhp h)) rfl ?_
      refine zRgr rfl rfl rfl (by decide) (b := 194) rfl ?_
      refine zEv_k 9 (f' := (36, [some (.ref 192), some (.ref 7), some (.int x2), some (.int x3), some (.int x4), some (.int x5), some (.int v2)], [.int (((x3 ||| ((1 : Int32) <<< (x5 &&& 31))) * 8) + x5), .ref 194, .int v2], zhp h)) rfl ?_
      obtain ⟨j4, hj4, H⟩ := zbs H
      refine zRia rfl rfl (by decide) hj4 ?_
      refine zEv_k 1 (f' := (38, [some (.ref 192), some (.ref 7), some (.int x2), some (.int x3), some (.int x4), some (.int x5), some (.int v2)], [.int (v2 + (gI h 194 j4))], zhp h)) rfl ?_
      cases H
      exact zEv_r rfl
    clear H
    refine zEv_k 2 (f' := (if x2 = 0 then 8 else 4, [some (.ref 192), some (.ref 7), some (.int x2), some (.int x3), some (.int x4), some (.int x5), none], [], zhp h)) rfl (zEv_if (fun c1 => ?_) (fun c1 => ?_))
    · replace hv2 := zif_t c1 hv2
      refine zEv_k 3 (f' := (13, [some (.ref 192), some (.ref 7), some (.int x2), some (.int x3), some (.int x4), some (.int x5), none], [.int x5, .int x4, .ref 7], zhp h)) rfl ?_
      obtain ⟨p3, hp3, hv2⟩ := zbs hv2
      refine zEv_c (fun _ => rfl) rfl (t_qOr_worthBehind (oc := 7) (x1 := x4) (x2 := x5) (h := h) (d := d) (by decide) hp3) rfl rfl ?_
      cases hv2
      exact kv2
    · replace hv2 := zif_f c1 hv2
      refine zEv_k 2 (f' := (16, [some (.ref 192), some (.ref 7), some (.int x2), some (.int x3), some (.int x4), some (.int x5), none], [.int 1], zhp h)) rfl ?_
      cases hv2
      exact kv2
  · obtain ⟨v2, hv2, H⟩ := zbs H
    have kv2 : zEv (zXs Ls xs) (d + 2) zm_48 (16, [some (.ref 192), some (.ref 22), some (.int x2), some (.int x3), some (.int x4), some (.int x5), none], [.int v2], zhp h) (some (.int p), zhp h) := by
      refine zEv_k 3 (f' := (21, [some (.ref 192), some (.ref 22), some (.int x2), some (.int x3), some (.int x4), some (.int x5), some (.int v2)], [.ref 192, .int v2], zhp h)) rfl ?_
      refine zRgr rfl rfl rfl (by decide) (b := 194) rfl ?_
      refine zEv_k 9 (f' := (36, [some (.ref 192), some (.ref 22), some (.int x2), some (.int x3), some (.int x4), some (.int x5), some (.int v2)], [.int (((x3 ||| ((1 : Int32) <<< (x5 &&& 31))) * 8) + x5), .ref 194, .int v2], zhp h)) rfl ?_
      obtain ⟨j4, hj4, H⟩ := zbs H
      refine zRia rfl rfl (by decide) hj4 ?_
      refine zEv_k 1 (f' := (38, [some (.ref 192), some (.ref 22), some (.int x2), some (.int x3), some (.int x4), some (.int x5), some (.int v2)], [.int (v2 + (gI h 194 j4))], zhp h)) rfl ?_
      cases H
      exact zEv_r rfl
    clear H
    refine zEv_k 2 (f' := (if x2 = 0 then 8 else 4, [some (.ref 192), some (.ref 22), some (.int x2), some (.int x3), some (.int x4), some (.int x5), none], [], zhp h)) rfl (zEv_if (fun c1 => ?_) (fun c1 => ?_))
    · replace hv2 := zif_t c1 hv2
      refine zEv_k 3 (f' := (13, [some (.ref 192), some (.ref 22), some (.int x2), some (.int x3), some (.int x4), some (.int x5), none], [.int x5, .int x4, .ref 22], zhp h)) rfl ?_
      obtain ⟨p3, hp3, hv2⟩ := zbs hv2
      refine zEv_c (fun _ => rfl) rfl (t_qOr_worthBehind (oc := 22) (x1 := x4) (x2 := x5) (h := h) (d := d) (by decide) hp3) rfl rfl ?_
      cases hv2
      exact kv2
    · replace hv2 := zif_f c1 hv2
      refine zEv_k 2 (f' := (16, [some (.ref 192), some (.ref 22), some (.int x2), some (.int x3), some (.int x4), some (.int x5), none], [.int 1], zhp h)) rfl ?_
      cases hv2
      exact kv2
def qOr_bestBehind_b10 (oc : Nat) (x2 : Int32) (x3 : Int32) (x4 : Int32) (h : zK) (s : Int32 × Int32 × Int32) : Option ((Int32 × Int32 × Int32) ⊕ (Int32)) :=
  if (gI h oc 2) ≤ s.2.2 then
    some (.inr s.1)
  else
    Option.bind (
        if ¬ (zf_cin x3 s.2.2) = 0 then
          some 0
        else
          if x2 = 0 then
            some 1
          else
            if x4 = 7 then
              some 1
            else
              (zix s.2.2 7).bind fun j6 =>
              if (zf_cin (gI h (oc + 7) j6) x4) = 0 then
                some 0
              else
                some 1
      ) fun (v3 : Int32) =>
    Option.bind (
        if v3 = 0 then
          some (s.1, s.2.1)
        else
          (qOr_worthOnward oc x2 x3 x4 s.2.2 h).bind fun p10 =>
          if p10 ≤ s.2.1 then
            some (s.1, s.2.1)
          else
            (qOr_worthOnward oc x2 x3 x4 s.2.2 h).bind fun p12 =>
            some (s.2.2, p12)
      ) fun (v9 : Int32 × Int32) =>
    some (.inl (v9.1, v9.2, s.2.2 + 1))
theorem t_qOr_bestBehind_b10b {Ls : Nat} {xs : Nat → Int32} {d : Nat} {oc : Nat} {x2 : Int32} {x3 : Int32} {x4 : Int32} {h : zK} {r : zA} {s : Int32 × Int32 × Int32} {e : (Int32 × Int32 × Int32) ⊕ (Int32)} (ho : oc = 7 ∨ oc = 22) (H : qOr_bestBehind_b10 oc x2 x3 x4 h s = some e) (K : match (generalizing := false) e with | .inl s' => ∀ (z8 : Option Value), zEv (zXs Ls xs) (d + 3) zm_47 (10, [some (.ref 192), some (.ref oc), some (.int x2), some (.int x3), some (.int x4), some (.int s'.1), some (.int s'.2.1), some (.int s'.2.2), z8], [], zhp h) r | .inr v => ∀ (z6 : Option Value) (z7 : Option Value) (z8 : Option Value), zEv (zXs Ls xs) (d + 3) zm_47 (105, [some (.ref 192), some (.ref oc), some (.int x2), some (.int x3), some (.int x4), some (.int v), z6, z7, z8], [], zhp h) r) (y8 : Option Value) : zEv (zXs Ls xs) (d + 3) zm_47 (10, [some (.ref 192), some (.ref oc), some (.int x2), some (.int x3), some (.int x4), some (.int s.1), some (.int s.2.1), some (.int s.2.2), y8], [], zhp h) r := by
  unfold qOr_bestBehind_b10 at H
  rcases ho with rfl | rfl
  · refine zEv_k 4 (f' := (if (gI h 7 2) ≤ s.2.2 then 105 else 19, [some (.ref 192), some (.ref 7), some (.int x2), some (.int x3), some (.int x4), some (.int s.1), some (.int s.2.1), some (.int s.2.2), y8], [], zhp h)) rfl (zEv_if (fun c1 => ?_) (fun c1 => ?_))
    · replace H := zif_t c1 H
      cases H
      exact K _ _ _
    · replace H := zif_f c1 H
      obtain ⟨v3, hv3, H⟩ := zbs H
      have kv3 : zEv (zXs Ls xs) (d + 3) zm_47 (59, [some (.ref 192), some (.ref 7), some (.int x2), some (.int x3), some (.int x4), some (.int s.1), some (.int s.2.1), some (.int s.2.2), y8], [.int v3], zhp h) r := by
        obtain ⟨v9, hv9, H⟩ := zbs H
        have kv9 : zEv (zXs Ls xs) (d + 3) zm_47 (99, [some (.ref 192), some (.ref 7), some (.int x2), some (.int x3), some (.int x4), some (.int v9.1), some (.int v9.2), some (.int s.2.2), some (.int v3)], [], zhp h) r := by
          refine zEv_k 2 (f' := (10, [some (.ref 192), some (.ref 7), some (.int x2), some (.int x3), some (.int x4), some (.int v9.1), some (.int v9.2), some (.int (s.2.2 + 1)), some (.int v3)], [], zhp h)) rfl ?_
          cases H
          exact K _
        clear H
        refine zEv_k 3 (f' := (if v3 = 0 then 99 else 66, [some (.ref 192), some (.ref 7), some (.int x2), some (.int x3), some (.int x4), some (.int s.1), some (.int s.2.1), some (.int s.2.2), some (.int v3)], [], zhp h)) rfl (zEv_if (fun c8 => ?_) (fun c8 => ?_))
        · replace hv9 := zif_t c8 hv9
          cases hv9
          exact kv9
        · replace hv9 := zif_f c8 hv9
          refine zEv_k 6 (f' := (74, [some (.ref 192), some (.ref 7), some (.int x2), some (.int x3), some (.int x4), some (.int s.1), some (.int s.2.1), some (.int s.2.2), some (.int v3)], [.int s.2.2, .int x4, .int x3, .int x2, .ref 7, .ref 192], zhp h)) rfl ?_
          obtain ⟨p10, hp10, hv9⟩ := zbs hv9
          refine zEv_c (fun _ => rfl) rfl (t_qOr_worthOnward (oc := 7) (x2 := x2) (x3 := x3) (x4 := x4) (x5 := s.2.2) (h := h) (d := d) (by decide) hp10) rfl rfl ?_
          refine zEv_k 2 (f' := (if p10 ≤ s.2.1 then 99 else 82, [some (.ref 192), some (.ref 7), some (.int x2), some (.int x3), some (.int x4), some (.int s.1), some (.int s.2.1), some (.int s.2.2), some (.int v3)], [], zhp h)) rfl (zEv_if (fun c11 => ?_) (fun c11 => ?_))
          · replace hv9 := zif_t c11 hv9
            cases hv9
            exact kv9
          · replace hv9 := zif_f c11 hv9
            refine zEv_k 6 (f' := (90, [some (.ref 192), some (.ref 7), some (.int x2), some (.int x3), some (.int x4), some (.int s.1), some (.int s.2.1), some (.int s.2.2), some (.int v3)], [.int s.2.2, .int x4, .int x3, .int x2, .ref 7, .ref 192], zhp h)) rfl ?_
            obtain ⟨p12, hp12, hv9⟩ := zbs hv9
            refine zEv_c (fun _ => rfl) rfl (t_qOr_worthOnward (oc := 7) (x2 := x2) (x3 := x3) (x4 := x4) (x5 := s.2.2) (h := h) (d := d) (by decide) hp12) rfl rfl ?_
            refine zEv_k 3 (f' := (99, [some (.ref 192), some (.ref 7), some (.int x2), some (.int x3), some (.int x4), some (.int s.2.2), some (.int p12), some (.int s.2.2), some (.int v3)], [], zhp h)) rfl ?_
            cases hv9
            exact kv9
      clear H
      refine zEv_k 2 (f' := (22, [some (.ref 192), some (.ref 7), some (.int x2), some (.int x3), some (.int x4), some (.int s.1), some (.int s.2.1), some (.int s.2.2), y8], [.int s.2.2, .int x3], zhp h)) rfl ?_
      refine zEv_c (fun _ => rfl) rfl ev_zf_cin rfl rfl ?_
      refine zEv_k 1 (f' := (if ¬ (zf_cin x3 s.2.2) = 0 then 58 else 28, [some (.ref 192), some (.ref 7), some (.int x2), some (.int x3), some (.int x4), some (.int s.1), some (.int s.2.1), some (.int s.2.2), y8], [], zhp h)) rfl (zEv_if (fun c2 => ?_) (fun c2 => ?_))
      · replace hv3 := zif_t c2 hv3
        refine zEv_k 1 (f' := (59, [some (.ref 192), some (.ref 7), some (.int x2), some (.int x3), some (.int x4), some (.int s.1), some (.int s.2.1), some (.int s.2.2), y8], [.int 0], zhp h)) rfl ?_
        cases hv3
        exact kv3
      · replace hv3 := zif_f c2 hv3
        refine zEv_k 2 (f' := (if x2 = 0 then 54 else 32, [some (.ref 192), some (.ref 7), some (.int x2), some (.int x3), some (.int x4), some (.int s.1), some (.int s.2.1), some (.int s.2.2), y8], [], zhp h)) rfl (zEv_if (fun c4 => ?_) (fun c4 => ?_))
        · replace hv3 := zif_t c4 hv3
          refine zEv_k 2 (f' := (59, [some (.ref 192), some (.ref 7), some (.int x2), some (.int x3), some (.int x4), some (.int s.1), some (.int s.2.1), some (.int s.2.2), y8], [.int 1], zhp h)) rfl ?_
          cases hv3
          exact kv3
        · replace hv3 := zif_f c4 hv3
          refine zEv_k 3 (f' := (if x4 = 7 then 54 else 39, [some (.ref 192), some (.ref 7), some (.int x2), some (.int x3), some (.int x4), some (.int s.1), some (.int s.2.1), some (.int s.2.2), y8], [], zhp h)) rfl (zEv_if (fun c5 => ?_) (fun c5 => ?_))
          · replace hv3 := zif_t c5 hv3
            refine zEv_k 2 (f' := (59, [some (.ref 192), some (.ref 7), some (.int x2), some (.int x3), some (.int x4), some (.int s.1), some (.int s.2.1), some (.int s.2.2), y8], [.int 1], zhp h)) rfl ?_
            cases hv3
            exact kv3
          · replace hv3 := zif_f c5 hv3
            refine zEv_k 1 (f' := (40, [some (.ref 192), some (.ref 7), some (.int x2), some (.int x3), some (.int x4), some (.int s.1), some (.int s.2.1), some (.int s.2.2), y8], [.ref 7], zhp h)) rfl ?_
            refine zRgr rfl rfl rfl (by decide) (b := 7 + 7) rfl ?_
            refine zEv_k 1 (f' := (45, [some (.ref 192), some (.ref 7), some (.int x2), some (.int x3), some (.int x4), some (.int s.1), some (.int s.2.1), some (.int s.2.2), y8], [.int s.2.2, .ref (7 + 7)], zhp h)) rfl ?_
            obtain ⟨j6, hj6, hv3⟩ := zbs hv3
            refine zRia rfl rfl (by decide) hj6 ?_
            refine zEv_k 1 (f' := (48, [some (.ref 192), some (.ref 7), some (.int x2), some (.int x3), some (.int x4), some (.int s.1), some (.int s.2.1), some (.int s.2.2), y8], [.int x4, .int (gI h (7 + 7) j6)], zhp h)) rfl ?_
            refine zEv_c (fun _ => rfl) rfl ev_zf_cin rfl rfl ?_
            refine zEv_k 1 (f' := (if (zf_cin (gI h (7 + 7) j6) x4) = 0 then 58 else 54, [some (.ref 192), some (.ref 7), some (.int x2), some (.int x3), some (.int x4), some (.int s.1), some (.int s.2.1), some (.int s.2.2), y8], [], zhp h)) rfl (zEv_if (fun c7 => ?_) (fun c7 => ?_))
            · replace hv3 := zif_t c7 hv3
              refine zEv_k 1 (f' := (59, [some (.ref 192), some (.ref 7), some (.int x2), some (.int x3), some (.int x4), some (.int s.1), some (.int s.2.1), some (.int s.2.2), y8], [.int 0], zhp h)) rfl ?_
              cases hv3
              exact kv3
            · replace hv3 := zif_f c7 hv3
              refine zEv_k 2 (f' := (59, [some (.ref 192), some (.ref 7), some (.int x2), some (.int x3), some (.int x4), some (.int s.1), some (.int s.2.1), some (.int s.2.2), y8], [.int 1], zhp h)) rfl ?_
              cases hv3
              exact kv3
  · refine zEv_k 4 (f' := (if (gI h 22 2) ≤ s.2.2 then 105 else 19, [some (.ref 192), some (.ref 22), some (.int x2), some (.int x3), some (.int x4), some (.int s.1), some (.int s.2.1), some (.int s.2.2), y8], [], zhp h)) rfl (zEv_if (fun c1 => ?_) (fun c1 => ?_))
    · replace H := zif_t c1 H
      cases H
      exact K _ _ _
    · replace H := zif_f c1 H
      obtain ⟨v3, hv3, H⟩ := zbs H
      have kv3 : zEv (zXs Ls xs) (d + 3) zm_47 (59, [some (.ref 192), some (.ref 22), some (.int x2), some (.int x3), some (.int x4), some (.int s.1), some (.int s.2.1), some (.int s.2.2), y8], [.int v3], zhp h) r := by
        obtain ⟨v9, hv9, H⟩ := zbs H
        have kv9 : zEv (zXs Ls xs) (d + 3) zm_47 (99, [some (.ref 192), some (.ref 22), some (.int x2), some (.int x3), some (.int x4), some (.int v9.1), some (.int v9.2), some (.int s.2.2), some (.int v3)], [], zhp h) r := by
          refine zEv_k 2 (f' := (10, [some (.ref 192), some (.ref 22), some (.int x2), some (.int x3), some (.int x4), some (.int v9.1), some (.int v9.2), some (.int (s.2.2 + 1)), some (.int v3)], [], zhp h)) rfl ?_
          cases H
          exact K _
        clear H
        refine zEv_k 3 (f' := (if v3 = 0 then 99 else 66, [some (.ref 192), some (.ref 22), some (.int x2), some (.int x3), some (.int x4), some (.int s.1), some (.int s.2.1), some (.int s.2.2), some (.int v3)], [], zhp h)) rfl (zEv_if (fun c8 => ?_) (fun c8 => ?_))
        · replace hv9 := zif_t c8 hv9
          cases hv9
          exact kv9
        · replace hv9 := zif_f c8 hv9
          refine zEv_k 6 (f' := (74, [some (.ref 192), some (.ref 22), some (.int x2), some (.int x3), some (.int x4), some (.int s.1), some (.int s.2.1), some (.int s.2.2), some (.int v3)], [.int s.2.2, .int x4, .int x3, .int x2, .ref 22, .ref 192], zhp h)) rfl ?_
          obtain ⟨p10, hp10, hv9⟩ := zbs hv9
          refine zEv_c (fun _ => rfl) rfl (t_qOr_worthOnward (oc := 22) (x2 := x2) (x3 := x3) (x4 := x4) (x5 := s.2.2) (h := h) (d := d) (by decide) hp10) rfl rfl ?_
          refine zEv_k 2 (f' := (if p10 ≤ s.2.1 then 99 else 82, [some (.ref 192), some (.ref 22), some (.int x2), some (.int x3), some (.int x4), some (.int s.1), some (.int s.2.1), some (.int s.2.2), some (.int v3)], [], zhp h)) rfl (zEv_if (fun c11 => ?_) (fun c11 => ?_))
          · replace hv9 := zif_t c11 hv9
            cases hv9
            exact kv9
          · replace hv9 := zif_f c11 hv9
            refine zEv_k 6 (f' := (90, [some (.ref 192), some (.ref 22), some (.int x2), some (.int x3), some (.int x4), some (.int s.1), some (.int s.2.1), some (.int s.2.2), some (.int v3)], [.int s.2.2, .int x4, .int x3, .int x2, .ref 22, .ref 192], zhp h)) rfl ?_
            obtain ⟨p12, hp12, hv9⟩ := zbs hv9
            refine zEv_c (fun _ => rfl) rfl (t_qOr_worthOnward (oc := 22) (x2 := x2) (x3 := x3) (x4 := x4) (x5 := s.2.2) (h := h) (d := d) (by decide) hp12) rfl rfl ?_
            refine zEv_k 3 (f' := (99, [some (.ref 192), some (.ref 22), some (.int x2), some (.int x3), some (.int x4), some (.int s.2.2), some (.int p12), some (.int s.2.2), some (.int v3)], [], zhp h)) rfl ?_
            cases hv9
            exact kv9
      clear H
      refine zEv_k 2 (f' := (22, [some (.ref 192), some (.ref 22), some (.int x2), some (.int x3), some (.int x4), some (.int s.1), some (.int s.2.1), some (.int s.2.2), y8], [.int s.2.2, .int x3], zhp h)) rfl ?_
      refine zEv_c (fun _ => rfl) rfl ev_zf_cin rfl rfl ?_
      refine zEv_k 1 (f' := (if ¬ (zf_cin x3 s.2.2) = 0 then 58 else 28, [some (.ref 192), some (.ref 22), some (.int x2), some (.int x3), some (.int x4), some (.int s.1), some (.int s.2.1), some (.int s.2.2), y8], [], zhp h)) rfl (zEv_if (fun c2 => ?_) (fun c2 => ?_))
      · replace hv3 := zif_t c2 hv3
        refine zEv_k 1 (f' := (59, [some (.ref 192), some (.ref 22), some (.int x2), some (.int x3), some (.int x4), some (.int s.1), some (.int s.2.1), some (.int s.2.2), y8], [.int 0], zhp h)) rfl ?_
        cases hv3
        exact kv3
      · replace hv3 := zif_f c2 hv3
        refine zEv_k 2 (f' := (if x2 = 0 then 54 else 32, [some (.ref 192), some (.ref 22), some (.int x2), some (.int x3), some (.int x4), some (.int s.1), some (.int s.2.1), some (.int s.2.2), y8], [], zhp h)) rfl (zEv_if (fun c4 => ?_) (fun c4 => ?_))
        · replace hv3 := zif_t c4 hv3
          refine zEv_k 2 (f' := (59, [some (.ref 192), some (.ref 22), some (.int x2), some (.int x3), some (.int x4), some (.int s.1), some (.int s.2.1), some (.int s.2.2), y8], [.int 1], zhp h)) rfl ?_
          cases hv3
          exact kv3
        · replace hv3 := zif_f c4 hv3
          refine zEv_k 3 (f' := (if x4 = 7 then 54 else 39, [some (.ref 192), some (.ref 22), some (.int x2), some (.int x3), some (.int x4), some (.int s.1), some (.int s.2.1), some (.int s.2.2), y8], [], zhp h)) rfl (zEv_if (fun c5 => ?_) (fun c5 => ?_))
          · replace hv3 := zif_t c5 hv3
            refine zEv_k 2 (f' := (59, [some (.ref 192), some (.ref 22), some (.int x2), some (.int x3), some (.int x4), some (.int s.1), some (.int s.2.1), some (.int s.2.2), y8], [.int 1], zhp h)) rfl ?_
            cases hv3
            exact kv3
          · replace hv3 := zif_f c5 hv3
            refine zEv_k 1 (f' := (40, [some (.ref 192), some (.ref 22), some (.int x2), some (.int x3), some (.int x4), some (.int s.1), some (.int s.2.1), some (.int s.2.2), y8], [.ref 22], zhp h)) rfl ?_
            refine zRgr rfl rfl rfl (by decide) (b := 22 + 7) rfl ?_
            refine zEv_k 1 (f' := (45, [some (.ref 192), some (.ref 22), some (.int x2), some (.int x3), some (.int x4), some (.int s.1), some (.int s.2.1), some (.int s.2.2), y8], [.int s.2.2, .ref (22 + 7)], zhp h)) rfl ?_
            obtain ⟨j6, hj6, hv3⟩ := zbs hv3
            refine zRia rfl rfl (by decide) hj6 ?_
            refine zEv_k 1 (f' := (48, [some (.ref 192), some (.ref 22), some (.int x2), some (.int x3), some (.int x4), some (.int s.1), some (.int s.2.1), some (.int s.2.2), y8], [.int x4, .int (gI h (22 + 7) j6)], zhp h)) rfl ?_
            refine zEv_c (fun _ => rfl) rfl ev_zf_cin rfl rfl ?_
            refine zEv_k 1 (f' := (if (zf_cin (gI h (22 + 7) j6) x4) = 0 then 58 else 54, [some (.ref 192), some (.ref 22), some (.int x2), some (.int x3), some (.int x4), some (.int s.1), some (.int s.2.1), some (.int s.2.2), y8], [], zhp h)) rfl (zEv_if (fun c7 => ?_) (fun c7 => ?_))
            · replace hv3 := zif_t c7 hv3
              refine zEv_k 1 (f' := (59, [some (.ref 192), some (.ref 22), some (.int x2), some (.int x3), some (.int x4), some (.int s.1), some (.int s.2.1), some (.int s.2.2), y8], [.int 0], zhp h)) rfl ?_
              cases hv3
              exact kv3
            · replace hv3 := zif_f c7 hv3
              refine zEv_k 2 (f' := (59, [some (.ref 192), some (.ref 22), some (.int x2), some (.int x3), some (.int x4), some (.int s.1), some (.int s.2.1), some (.int s.2.2), y8], [.int 1], zhp h)) rfl ?_
              cases hv3
              exact kv3
theorem t_qOr_bestBehind_b10 {Ls : Nat} {xs : Nat → Int32} {d : Nat} {oc : Nat} {x2 : Int32} {x3 : Int32} {x4 : Int32} {h : zK} {r : zA} (ho : oc = 7 ∨ oc = 22) {t : Int32} (K : ∀ (z6 : Option Value) (z7 : Option Value) (z8 : Option Value), zEv (zXs Ls xs) (d + 3) zm_47 (105, [some (.ref 192), some (.ref oc), some (.int x2), some (.int x3), some (.int x4), some (.int t), z6, z7, z8], [], zhp h) r) (n : Nat) (s : Int32 × Int32 × Int32) (H : zloop (qOr_bestBehind_b10 oc x2 x3 x4 h) n s = some t) (y8 : Option Value) : zEv (zXs Ls xs) (d + 3) zm_47 (10, [some (.ref 192), some (.ref oc), some (.int x2), some (.int x3), some (.int x4), some (.int s.1), some (.int s.2.1), some (.int s.2.2), y8], [], zhp h) r := by
  have Z := zloop_P (P := fun s => ∀ (y8 : Option Value), zEv (zXs Ls xs) (d + 3) zm_47 (10, [some (.ref 192), some (.ref oc), some (.int x2), some (.int x3), some (.int x4), some (.int s.1), some (.int s.2.1), some (.int s.2.2), y8], [], zhp h) r) (b := qOr_bestBehind_b10 oc x2 x3 x4 h) (t := t) (fun s s2 hb hk => by intro y8; exact t_qOr_bestBehind_b10b ho hb hk y8) (fun s hb => by intro y8; exact t_qOr_bestBehind_b10b ho hb K y8) n s H
  exact Z y8
def qOr_bestBehind (oc : Nat) (x2 : Int32) (x3 : Int32) (x4 : Int32) (h : zK) : Option (Int32) :=
  (zloop (qOr_bestBehind_b10 oc x2 x3 x4 h) zfu (7, -1, 0)).bind fun t13 =>
  some t13
theorem t_qOr_bestBehind {Ls : Nat} {xs : Nat → Int32} {d : Nat} {oc : Nat} {x2 : Int32} {x3 : Int32} {x4 : Int32} {h : zK} {p : Int32} (ho : oc = 7 ∨ oc = 22) (H : qOr_bestBehind oc x2 x3 x4 h = some p) : zEv (zXs Ls xs) (d + 3) zm_47 (0, [some (.ref 192), some (.ref oc), some (.int x2), some (.int x3), some (.int x4), none, none, none, none], [], zhp h) (some (.int p), zhp h) := by
  unfold qOr_bestBehind at H
  rcases ho with rfl | rfl
  · refine zEv_k 6 (f' := (10, [some (.ref 192), some (.ref 7), some (.int x2), some (.int x3), some (.int x4), some (.int 7), some (.int (-1)), some (.int 0), none], [], zhp h)) rfl ?_
    obtain ⟨t13, ht13, H⟩ := zbs H
    refine t_qOr_bestBehind_b10 (oc := 7) (x2 := x2) (x3 := x3) (x4 := x4) (h := h) (by decide) ?_ zfu _ ht13 _
    intro y6 y7 y8
    refine zEv_k 1 (f' := (107, [some (.ref 192), some (.ref 7), some (.int x2), some (.int x3), some (.int x4), some (.int t13), y6, y7, y8], [.int t13], zhp h)) rfl ?_
    cases H
    exact zEv_r rfl
  · refine zEv_k 6 (f' := (10, [some (.ref 192), some (.ref 22), some (.int x2), some (.int x3), some (.int x4), some (.int 7), some (.int (-1)), some (.int 0), none], [], zhp h)) rfl ?_
    obtain ⟨t13, ht13, H⟩ := zbs H
    refine t_qOr_bestBehind_b10 (oc := 22) (x2 := x2) (x3 := x3) (x4 := x4) (h := h) (by decide) ?_ zfu _ ht13 _
    intro y6 y7 y8
    refine zEv_k 1 (f' := (107, [some (.ref 192), some (.ref 22), some (.int x2), some (.int x3), some (.int x4), some (.int t13), y6, y7, y8], [.int t13], zhp h)) rfl ?_
    cases H
    exact zEv_r rfl
def qOr_bestRow_b12 (oc : Nat) (x2 : Int32) (x3 : Int32) (s : Int32 × zK) : Option ((Int32 × zK) ⊕ (zK)) :=
  if (gI s.2 oc 2) ≤ s.1 then
    some (.inr s.2)
  else
    Option.bind (
        if (zf_cin x3 s.1) = 0 then
          some s.2
        else
          (qOr_bestBehind oc x2 x3 s.1 s.2).bind fun p5 =>
          Option.bind (
              if ¬ p5 = 7 then
                (qOr_worthOnward oc x2 x3 s.1 p5 s.2).bind fun p8 =>
                some p8
              else
                some 0
            ) fun (v7 : Int32) =>
          (zix ((x3 * 8) + s.1) 1408).bind fun j9 =>
          zlet (sI s.2 194 j9 v7) fun h10 =>
          some h10
      ) fun (v4 : zK) =>
    some (.inl (s.1 + 1, v4))
theorem t_qOr_bestRow_b12b {Ls : Nat} {xs : Nat → Int32} {d : Nat} {oc : Nat} {x2 : Int32} {x3 : Int32} {r : zA} {s : Int32 × zK} {e : (Int32 × zK) ⊕ (zK)} (ho : oc = 7 ∨ oc = 22) (H : qOr_bestRow_b12 oc x2 x3 s = some e) (K : match (generalizing := false) e with | .inl s' => ∀ (z5 : Option Value), zEv (zXs Ls xs) (d + 4) zm_46 (12, [some (.ref 192), some (.ref oc), some (.int x2), some (.int x3), some (.int s'.1), z5, none], [], zhp s'.2) r | .inr v => ∀ (z4 : Option Value) (z5 : Option Value), zEv (zXs Ls xs) (d + 4) zm_46 (81, [some (.ref 192), some (.ref oc), some (.int x2), some (.int x3), z4, z5, none], [], zhp v) r) (y5 : Option Value) : zEv (zXs Ls xs) (d + 4) zm_46 (12, [some (.ref 192), some (.ref oc), some (.int x2), some (.int x3), some (.int s.1), y5, none], [], zhp s.2) r := by
  unfold qOr_bestRow_b12 at H
  rcases ho with rfl | rfl
  · refine zEv_k 4 (f' := (if (gI s.2 7 2) ≤ s.1 then 81 else 21, [some (.ref 192), some (.ref 7), some (.int x2), some (.int x3), some (.int s.1), y5, none], [], zhp s.2)) rfl (zEv_if (fun c2 => ?_) (fun c2 => ?_))
    · replace H := zif_t c2 H
      cases H
      exact K _ _
    · replace H := zif_f c2 H
      obtain ⟨v4, hv4, H⟩ := zbs H
      have kv4 : ∀ (y5 : Option Value), zEv (zXs Ls xs) (d + 4) zm_46 (75, [some (.ref 192), some (.ref 7), some (.int x2), some (.int x3), some (.int s.1), y5, none], [], zhp v4) r := by
        intro y5
        refine zEv_k 2 (f' := (12, [some (.ref 192), some (.ref 7), some (.int x2), some (.int x3), some (.int (s.1 + 1)), y5, none], [], zhp v4)) rfl ?_
        cases H
        exact K _
      clear H
      refine zEv_k 2 (f' := (24, [some (.ref 192), some (.ref 7), some (.int x2), some (.int x3), some (.int s.1), y5, none], [.int s.1, .int x3], zhp s.2)) rfl ?_
      refine zEv_c (fun _ => rfl) rfl ev_zf_cin rfl rfl ?_
      refine zEv_k 1 (f' := (if (zf_cin x3 s.1) = 0 then 75 else 30, [some (.ref 192), some (.ref 7), some (.int x2), some (.int x3), some (.int s.1), y5, none], [], zhp s.2)) rfl (zEv_if (fun c3 => ?_) (fun c3 => ?_))
      · replace hv4 := zif_t c3 hv4
        cases hv4
        exact kv4 _
      · replace hv4 := zif_f c3 hv4
        refine zEv_k 5 (f' := (36, [some (.ref 192), some (.ref 7), some (.int x2), some (.int x3), some (.int s.1), y5, none], [.int s.1, .int x3, .int x2, .ref 7, .ref 192], zhp s.2)) rfl ?_
        obtain ⟨p5, hp5, hv4⟩ := zbs hv4
        refine zEv_c (fun _ => rfl) rfl (t_qOr_bestBehind (oc := 7) (x2 := x2) (x3 := x3) (x4 := s.1) (h := s.2) (d := d) (by decide) hp5) rfl rfl ?_
        obtain ⟨v7, hv7, hv4⟩ := zbs hv4
        have kv7 : zEv (zXs Ls xs) (d + 4) zm_46 (74, [some (.ref 192), some (.ref 7), some (.int x2), some (.int x3), some (.int s.1), some (.int p5), none], [.int v7, .int ((x3 * 8) + s.1), .ref 194], zhp s.2) r := by
          obtain ⟨j9, hj9, hv4⟩ := zbs hv4
          obtain ⟨h10, eh10, hv4⟩ := zlets hv4
          refine zRis rfl rfl (by decide) hj9 eh10 ?_
          cases hv4
          exact kv4 _
        clear hv4
        refine zEv_k 2 (f' := (42, [some (.ref 192), some (.ref 7), some (.int x2), some (.int x3), some (.int s.1), some (.int p5), none], [.ref 192], zhp s.2)) rfl ?_
        refine zRgr rfl rfl rfl (by decide) (b := 194) rfl ?_
        refine zEv_k 8 (f' := (if ¬ p5 = 7 then 63 else 59, [some (.ref 192), some (.ref 7), some (.int x2), some (.int x3), some (.int s.1), some (.int p5), none], [.int ((x3 * 8) + s.1), .ref 194], zhp s.2)) rfl (zEv_if (fun c6 => ?_) (fun c6 => ?_))
        · replace hv7 := zif_t c6 hv7
          refine zEv_k 6 (f' := (71, [some (.ref 192), some (.ref 7), some (.int x2), some (.int x3), some (.int s.1), some (.int p5), none], [.int p5, .int s.1, .int x3, .int x2, .ref 7, .ref 192, .int ((x3 * 8) + s.1), .ref 194], zhp s.2)) rfl ?_
          obtain ⟨p8, hp8, hv7⟩ := zbs hv7
          refine zEv_c (fun _ => rfl) rfl (t_qOr_worthOnward (oc := 7) (x2 := x2) (x3 := x3) (x4 := s.1) (x5 := p5) (h := s.2) (d := d + 1) (by decide) hp8) rfl rfl ?_
          cases hv7
          exact kv7
        · replace hv7 := zif_f c6 hv7
          refine zEv_k 2 (f' := (74, [some (.ref 192), some (.ref 7), some (.int x2), some (.int x3), some (.int s.1), some (.int p5), none], [.int 0, .int ((x3 * 8) + s.1), .ref 194], zhp s.2)) rfl ?_
          cases hv7
          exact kv7
  · refine zEv_k 4 (f' := (if (gI s.2 22 2) ≤ s.1 then 81 else 21, [some (.ref 192), some (.ref 22), some (.int x2), some (.int x3), some (.int s.1), y5, none], [], zhp s.2)) rfl (zEv_if (fun c2 => ?_) (fun c2 => ?_))
    · replace H := zif_t c2 H
      cases H
      exact K _ _
    · replace H := zif_f c2 H
      obtain ⟨v4, hv4, H⟩ := zbs H
      have kv4 : ∀ (y5 : Option Value), zEv (zXs Ls xs) (d + 4) zm_46 (75, [some (.ref 192), some (.ref 22), some (.int x2), some (.int x3), some (.int s.1), y5, none], [], zhp v4) r := by
        intro y5
        refine zEv_k 2 (f' := (12, [some (.ref 192), some (.ref 22), some (.int x2), some (.int x3), some (.int (s.1 + 1)), y5, none], [], zhp v4)) rfl ?_
        cases H
        exact K _
      clear H
      refine zEv_k 2 (f' := (24, [some (.ref 192), some (.ref 22), some (.int x2), some (.int x3), some (.int s.1), y5, none], [.int s.1, .int x3], zhp s.2)) rfl ?_
      refine zEv_c (fun _ => rfl) rfl ev_zf_cin rfl rfl ?_
      refine zEv_k 1 (f' := (if (zf_cin x3 s.1) = 0 then 75 else 30, [some (.ref 192), some (.ref 22), some (.int x2), some (.int x3), some (.int s.1), y5, none], [], zhp s.2)) rfl (zEv_if (fun c3 => ?_) (fun c3 => ?_))
      · replace hv4 := zif_t c3 hv4
        cases hv4
        exact kv4 _
      · replace hv4 := zif_f c3 hv4
        refine zEv_k 5 (f' := (36, [some (.ref 192), some (.ref 22), some (.int x2), some (.int x3), some (.int s.1), y5, none], [.int s.1, .int x3, .int x2, .ref 22, .ref 192], zhp s.2)) rfl ?_
        obtain ⟨p5, hp5, hv4⟩ := zbs hv4
        refine zEv_c (fun _ => rfl) rfl (t_qOr_bestBehind (oc := 22) (x2 := x2) (x3 := x3) (x4 := s.1) (h := s.2) (d := d) (by decide) hp5) rfl rfl ?_
        obtain ⟨v7, hv7, hv4⟩ := zbs hv4
        have kv7 : zEv (zXs Ls xs) (d + 4) zm_46 (74, [some (.ref 192), some (.ref 22), some (.int x2), some (.int x3), some (.int s.1), some (.int p5), none], [.int v7, .int ((x3 * 8) + s.1), .ref 194], zhp s.2) r := by
          obtain ⟨j9, hj9, hv4⟩ := zbs hv4
          obtain ⟨h10, eh10, hv4⟩ := zlets hv4
          refine zRis rfl rfl (by decide) hj9 eh10 ?_
          cases hv4
          exact kv4 _
        clear hv4
        refine zEv_k 2 (f' := (42, [some (.ref 192), some (.ref 22), some (.int x2), some (.int x3), some (.int s.1), some (.int p5), none], [.ref 192], zhp s.2)) rfl ?_
        refine zRgr rfl rfl rfl (by decide) (b := 194) rfl ?_
        refine zEv_k 8 (f' := (if ¬ p5 = 7 then 63 else 59, [some (.ref 192), some (.ref 22), some (.int x2), some (.int x3), some (.int s.1), some (.int p5), none], [.int ((x3 * 8) + s.1), .ref 194], zhp s.2)) rfl (zEv_if (fun c6 => ?_) (fun c6 => ?_))
        · replace hv7 := zif_t c6 hv7
          refine zEv_k 6 (f' := (71, [some (.ref 192), some (.ref 22), some (.int x2), some (.int x3), some (.int s.1), some (.int p5), none], [.int p5, .int s.1, .int x3, .int x2, .ref 22, .ref 192, .int ((x3 * 8) + s.1), .ref 194], zhp s.2)) rfl ?_
          obtain ⟨p8, hp8, hv7⟩ := zbs hv7
          refine zEv_c (fun _ => rfl) rfl (t_qOr_worthOnward (oc := 22) (x2 := x2) (x3 := x3) (x4 := s.1) (x5 := p5) (h := s.2) (d := d + 1) (by decide) hp8) rfl rfl ?_
          cases hv7
          exact kv7
        · replace hv7 := zif_f c6 hv7
          refine zEv_k 2 (f' := (74, [some (.ref 192), some (.ref 22), some (.int x2), some (.int x3), some (.int s.1), some (.int p5), none], [.int 0, .int ((x3 * 8) + s.1), .ref 194], zhp s.2)) rfl ?_
          cases hv7
          exact kv7
theorem t_qOr_bestRow_b12 {Ls : Nat} {xs : Nat → Int32} {d : Nat} {oc : Nat} {x2 : Int32} {x3 : Int32} {r : zA} (ho : oc = 7 ∨ oc = 22) {t : zK} (K : ∀ (z4 : Option Value) (z5 : Option Value), zEv (zXs Ls xs) (d + 4) zm_46 (81, [some (.ref 192), some (.ref oc), some (.int x2), some (.int x3), z4, z5, none], [], zhp t) r) (n : Nat) (s : Int32 × zK) (H : zloop (qOr_bestRow_b12 oc x2 x3) n s = some t) (y5 : Option Value) : zEv (zXs Ls xs) (d + 4) zm_46 (12, [some (.ref 192), some (.ref oc), some (.int x2), some (.int x3), some (.int s.1), y5, none], [], zhp s.2) r := by
  have Z := zloop_P (P := fun s => ∀ (y5 : Option Value), zEv (zXs Ls xs) (d + 4) zm_46 (12, [some (.ref 192), some (.ref oc), some (.int x2), some (.int x3), some (.int s.1), y5, none], [], zhp s.2) r) (b := qOr_bestRow_b12 oc x2 x3) (t := t) (fun s s2 hb hk => by intro y5; exact t_qOr_bestRow_b12b ho hb hk y5) (fun s hb => by intro y5; exact t_qOr_bestRow_b12b ho hb K y5) n s H
  exact Z y5
def qOr_bestRow_b5 (oc : Nat) (x2 : Int32) (s : Int32 × zK) : Option ((Int32 × zK) ⊕ (zK)) :=
  if s.1 ≤ 0 then
    some (.inr s.2)
  else
    (zloop (qOr_bestRow_b12 oc x2 s.1) zfu (0, s.2)).bind fun t11 =>
    some (.inl (s.1 + (-1), t11))
theorem t_qOr_bestRow_b5b {Ls : Nat} {xs : Nat → Int32} {d : Nat} {oc : Nat} {x2 : Int32} {r : zA} {s : Int32 × zK} {e : (Int32 × zK) ⊕ (zK)} (ho : oc = 7 ∨ oc = 22) (H : qOr_bestRow_b5 oc x2 s = some e) (K : match (generalizing := false) e with | .inl s' => ∀ (z4 : Option Value) (z5 : Option Value), zEv (zXs Ls xs) (d + 4) zm_46 (5, [some (.ref 192), some (.ref oc), some (.int x2), some (.int s'.1), z4, z5, none], [], zhp s'.2) r | .inr v => ∀ (z3 : Option Value) (z4 : Option Value) (z5 : Option Value), zEv (zXs Ls xs) (d + 4) zm_46 (87, [some (.ref 192), some (.ref oc), some (.int x2), z3, z4, z5, none], [], zhp v) r) (y4 : Option Value) (y5 : Option Value) : zEv (zXs Ls xs) (d + 4) zm_46 (5, [some (.ref 192), some (.ref oc), some (.int x2), some (.int s.1), y4, y5, none], [], zhp s.2) r := by
  unfold qOr_bestRow_b5 at H
  rcases ho with rfl | rfl
  · refine zEv_k 2 (f' := (if s.1 ≤ 0 then 87 else 9, [some (.ref 192), some (.ref 7), some (.int x2), some (.int s.1), y4, y5, none], [], zhp s.2)) rfl (zEv_if (fun c1 => ?_) (fun c1 => ?_))
    · replace H := zif_t c1 H
      cases H
      exact K _ _ _
    · replace H := zif_f c1 H
      refine zEv_k 2 (f' := (12, [some (.ref 192), some (.ref 7), some (.int x2), some (.int s.1), some (.int 0), y5, none], [], zhp s.2)) rfl ?_
      obtain ⟨t11, ht11, H⟩ := zbs H
      refine t_qOr_bestRow_b12 (oc := 7) (x2 := x2) (x3 := s.1) (by decide) ?_ zfu _ ht11 _
      intro y4 y5
      refine zEv_k 2 (f' := (5, [some (.ref 192), some (.ref 7), some (.int x2), some (.int (s.1 + (-1))), y4, y5, none], [], zhp t11)) rfl ?_
      cases H
      exact K _ _
  · refine zEv_k 2 (f' := (if s.1 ≤ 0 then 87 else 9, [some (.ref 192), some (.ref 22), some (.int x2), some (.int s.1), y4, y5, none], [], zhp s.2)) rfl (zEv_if (fun c1 => ?_) (fun c1 => ?_))
    · replace H := zif_t c1 H
      cases H
      exact K _ _ _
    · replace H := zif_f c1 H
      refine zEv_k 2 (f' := (12, [some (.ref 192), some (.ref 22), some (.int x2), some (.int s.1), some (.int 0), y5, none], [], zhp s.2)) rfl ?_
      obtain ⟨t11, ht11, H⟩ := zbs H
      refine t_qOr_bestRow_b12 (oc := 22) (x2 := x2) (x3 := s.1) (by decide) ?_ zfu _ ht11 _
      intro y4 y5
      refine zEv_k 2 (f' := (5, [some (.ref 192), some (.ref 22), some (.int x2), some (.int (s.1 + (-1))), y4, y5, none], [], zhp t11)) rfl ?_
      cases H
      exact K _ _
theorem t_qOr_bestRow_b5 {Ls : Nat} {xs : Nat → Int32} {d : Nat} {oc : Nat} {x2 : Int32} {r : zA} (ho : oc = 7 ∨ oc = 22) {t : zK} (K : ∀ (z3 : Option Value) (z4 : Option Value) (z5 : Option Value), zEv (zXs Ls xs) (d + 4) zm_46 (87, [some (.ref 192), some (.ref oc), some (.int x2), z3, z4, z5, none], [], zhp t) r) (n : Nat) (s : Int32 × zK) (H : zloop (qOr_bestRow_b5 oc x2) n s = some t) (y4 : Option Value) (y5 : Option Value) : zEv (zXs Ls xs) (d + 4) zm_46 (5, [some (.ref 192), some (.ref oc), some (.int x2), some (.int s.1), y4, y5, none], [], zhp s.2) r := by
  have Z := zloop_P (P := fun s => ∀ (y4 : Option Value) (y5 : Option Value), zEv (zXs Ls xs) (d + 4) zm_46 (5, [some (.ref 192), some (.ref oc), some (.int x2), some (.int s.1), y4, y5, none], [], zhp s.2) r) (b := qOr_bestRow_b5 oc x2) (t := t) (fun s s2 hb hk => by intro y4 y5; exact t_qOr_bestRow_b5b ho hb hk y4 y5) (fun s hb => by intro y4 y5; exact t_qOr_bestRow_b5b ho hb K y4 y5) n s H
  exact Z y4 y5
def qOr_bestRow_b106 (oc : Nat) (x2 : Int32) (s : Int32 × Int32 × Int32 × zK) : Option ((Int32 × Int32 × Int32 × zK) ⊕ ((zK) ⊕ (zK))) :=
  if (gI s.2.2.2 oc 2) ≤ s.2.2.1 then
    some (.inr (.inl s.2.2.2))
  else
    (qOr_bestBehind oc x2 s.1 s.2.1 s.2.2.2).bind fun p18 =>
    if ¬ p18 = 7 then
      Option.bind (
          if ¬ s.2.2.1 = 0 then
            some (gI s.2.2.2 192 0)
          else
            (qOr_worthOnward oc x2 s.1 s.2.1 p18 s.2.2.2).bind fun p22 =>
            some p22
        ) fun (v21 : Int32) =>
      zlet (sI s.2.2.2 192 0 v21) fun h23 =>
      (zix s.2.2.1 10).bind fun j24 =>
      zlet (sI h23 193 j24 p18) fun h25 =>
      zlet (sI h25 192 3 ((gI h25 192 3) + 1)) fun h26 =>
      some (.inl (s.1 ||| ((1 : Int32) <<< (p18 &&& 31)), p18, s.2.2.1 + 1, h26))
    else
      some (.inr (.inl s.2.2.2))
theorem t_qOr_bestRow_b106b {Ls : Nat} {xs : Nat → Int32} {d : Nat} {oc : Nat} {x2 : Int32} {r : zA} {s : Int32 × Int32 × Int32 × zK} {e : (Int32 × Int32 × Int32 × zK) ⊕ ((zK) ⊕ (zK))} (ho : oc = 7 ∨ oc = 22) (H : qOr_bestRow_b106 oc x2 s = some e) (K : match (generalizing := false) e with | .inl s' => ∀ (z6 : Option Value), zEv (zXs Ls xs) (d + 4) zm_46 (106, [some (.ref 192), some (.ref oc), some (.int x2), some (.int s'.1), some (.int s'.2.1), some (.int s'.2.2.1), z6], [], zhp s'.2.2.2) r | .inr (.inl v) => ∀ (z3 : Option Value) (z4 : Option Value) (z5 : Option Value) (z6 : Option Value), zEv (zXs Ls xs) (d + 4) zm_46 (199, [some (.ref 192), some (.ref oc), some (.int x2), z3, z4, z5, z6], [], zhp v) r | .inr (.inr p) => (none, zhp p) = r) (y6 : Option Value) : zEv (zXs Ls xs) (d + 4) zm_46 (106, [some (.ref 192), some (.ref oc), some (.int x2), some (.int s.1), some (.int s.2.1), some (.int s.2.2.1), y6], [], zhp s.2.2.2) r := by
  unfold qOr_bestRow_b106 at H
  rcases ho with rfl | rfl
  · refine zEv_k 4 (f' := (if (gI s.2.2.2 7 2) ≤ s.2.2.1 then 199 else 115, [some (.ref 192), some (.ref 7), some (.int x2), some (.int s.1), some (.int s.2.1), some (.int s.2.2.1), y6], [], zhp s.2.2.2)) rfl (zEv_if (fun c17 => ?_) (fun c17 => ?_))
    · replace H := zif_t c17 H
      cases H
      exact K _ _ _ _
    · replace H := zif_f c17 H
      refine zEv_k 5 (f' := (121, [some (.ref 192), some (.ref 7), some (.int x2), some (.int s.1), some (.int s.2.1), some (.int s.2.2.1), y6], [.int s.2.1, .int s.1, .int x2, .ref 7, .ref 192], zhp s.2.2.2)) rfl ?_
      obtain ⟨p18, hp18, H⟩ := zbs H
      refine zEv_c (fun _ => rfl) rfl (t_qOr_bestBehind (oc := 7) (x2 := x2) (x3 := s.1) (x4 := s.2.1) (h := s.2.2.2) (d := d) (by decide) hp18) rfl rfl ?_
      refine zEv_k 4 (f' := (if ¬ p18 = 7 then 136 else 133, [some (.ref 192), some (.ref 7), some (.int x2), some (.int s.1), some (.int s.2.1), some (.int s.2.2.1), some (.int p18)], [], zhp s.2.2.2)) rfl (zEv_if (fun c19 => ?_) (fun c19 => ?_))
      · replace H := zif_t c19 H
        obtain ⟨v21, hv21, H⟩ := zbs H
        have kv21 : zEv (zXs Ls xs) (d + 4) zm_46 (160, [some (.ref 192), some (.ref 7), some (.int x2), some (.int s.1), some (.int s.2.1), some (.int s.2.2.1), some (.int p18)], [.int v21, .ref 192], zhp s.2.2.2) r := by
          obtain ⟨h23, eh23, H⟩ := zlets H
          refine zEv_w (F := fun z => (163, [some (.ref 192), some (.ref 7), some (.int x2), some (.int s.1), some (.int s.2.1), some (.int s.2.2.1), some (.int p18)], [], zhp z)) (h0 := sI s.2.2.2 192 0 v21) 1 rfl eh23 ?_
          refine zEv_k 1 (f' := (164, [some (.ref 192), some (.ref 7), some (.int x2), some (.int s.1), some (.int s.2.1), some (.int s.2.2.1), some (.int p18)], [.ref 192], zhp h23)) rfl ?_
          refine zRgr rfl rfl rfl (by decide) (b := 193) rfl ?_
          refine zEv_k 2 (f' := (171, [some (.ref 192), some (.ref 7), some (.int x2), some (.int s.1), some (.int s.2.1), some (.int s.2.2.1), some (.int p18)], [.int p18, .int s.2.2.1, .ref 193], zhp h23)) rfl ?_
          obtain ⟨j24, hj24, H⟩ := zbs H
          obtain ⟨h25, eh25, H⟩ := zlets H
          refine zRis rfl rfl (by decide) hj24 eh25 ?_
          obtain ⟨h26, eh26, H⟩ := zlets H
          refine zEv_w (F := fun z => (182, [some (.ref 192), some (.ref 7), some (.int x2), some (.int s.1), some (.int s.2.1), some (.int s.2.2.1), some (.int p18)], [], zhp z)) (h0 := sI h25 192 3 ((gI h25 192 3) + 1)) 6 rfl eh26 ?_
          refine zEv_k 9 (f' := (196, [some (.ref 192), some (.ref 7), some (.int x2), some (.int (s.1 ||| ((1 : Int32) <<< (p18 &&& 31)))), some (.int p18), some (.int (s.2.2.1 + 1)), some (.int p18)], [], zhp h26)) rfl ?_
          refine zEv_k 1 (f' := (106, [some (.ref 192), some (.ref 7), some (.int x2), some (.int (s.1 ||| ((1 : Int32) <<< (p18 &&& 31)))), some (.int p18), some (.int (s.2.2.1 + 1)), some (.int p18)], [], zhp h26)) rfl ?_
          cases H
          exact K _
        clear H
        refine zEv_k 3 (f' := (if ¬ s.2.2.1 = 0 then 156 else 142, [some (.ref 192), some (.ref 7), some (.int x2), some (.int s.1), some (.int s.2.1), some (.int s.2.2.1), some (.int p18)], [.ref 192], zhp s.2.2.2)) rfl (zEv_if (fun c20 => ?_) (fun c20 => ?_))
        · replace hv21 := zif_t c20 hv21
          refine zEv_k 2 (f' := (160, [some (.ref 192), some (.ref 7), some (.int x2), some (.int s.1), some (.int s.2.1), some (.int s.2.2.1), some (.int p18)], [.int (gI s.2.2.2 192 0), .ref 192], zhp s.2.2.2)) rfl ?_
          cases hv21
          exact kv21
        · replace hv21 := zif_f c20 hv21
          refine zEv_k 6 (f' := (150, [some (.ref 192), some (.ref 7), some (.int x2), some (.int s.1), some (.int s.2.1), some (.int s.2.2.1), some (.int p18)], [.int p18, .int s.2.1, .int s.1, .int x2, .ref 7, .ref 192, .ref 192], zhp s.2.2.2)) rfl ?_
          obtain ⟨p22, hp22, hv21⟩ := zbs hv21
          refine zEv_c (fun _ => rfl) rfl (t_qOr_worthOnward (oc := 7) (x2 := x2) (x3 := s.1) (x4 := s.2.1) (x5 := p18) (h := s.2.2.2) (d := d + 1) (by decide) hp22) rfl rfl ?_
          refine zEv_k 1 (f' := (160, [some (.ref 192), some (.ref 7), some (.int x2), some (.int s.1), some (.int s.2.1), some (.int s.2.2.1), some (.int p18)], [.int p22, .ref 192], zhp s.2.2.2)) rfl ?_
          cases hv21
          exact kv21
      · replace H := zif_f c19 H
        refine zEv_k 1 (f' := (199, [some (.ref 192), some (.ref 7), some (.int x2), some (.int s.1), some (.int s.2.1), some (.int s.2.2.1), some (.int p18)], [], zhp s.2.2.2)) rfl ?_
        cases H
        exact K _ _ _ _
  · refine zEv_k 4 (f' := (if (gI s.2.2.2 22 2) ≤ s.2.2.1 then 199 else 115, [some (.ref 192), some (.ref 22), some (.int x2), some (.int s.1), some (.int s.2.1), some (.int s.2.2.1), y6], [], zhp s.2.2.2)) rfl (zEv_if (fun c17 => ?_) (fun c17 => ?_))
    · replace H := zif_t c17 H
      cases H
      exact K _ _ _ _
    · replace H := zif_f c17 H
      refine zEv_k 5 (f' := (121, [some (.ref 192), some (.ref 22), some (.int x2), some (.int s.1), some (.int s.2.1), some (.int s.2.2.1), y6], [.int s.2.1, .int s.1, .int x2, .ref 22, .ref 192], zhp s.2.2.2)) rfl ?_
      obtain ⟨p18, hp18, H⟩ := zbs H
      refine zEv_c (fun _ => rfl) rfl (t_qOr_bestBehind (oc := 22) (x2 := x2) (x3 := s.1) (x4 := s.2.1) (h := s.2.2.2) (d := d) (by decide) hp18) rfl rfl ?_
      refine zEv_k 4 (f' := (if ¬ p18 = 7 then 136 else 133, [some (.ref 192), some (.ref 22), some (.int x2), some (.int s.1), some (.int s.2.1), some (.int s.2.2.1), some (.int p18)], [], zhp s.2.2.2)) rfl (zEv_if (fun c19 => ?_) (fun c19 => ?_))
      · replace H := zif_t c19 H
        obtain ⟨v21, hv21, H⟩ := zbs H
        have kv21 : zEv (zXs Ls xs) (d + 4) zm_46 (160, [some (.ref 192), some (.ref 22), some (.int x2), some (.int s.1), some (.int s.2.1), some (.int s.2.2.1), some (.int p18)], [.int v21, .ref 192], zhp s.2.2.2) r := by
          obtain ⟨h23, eh23, H⟩ := zlets H
          refine zEv_w (F := fun z => (163, [some (.ref 192), some (.ref 22), some (.int x2), some (.int s.1), some (.int s.2.1), some (.int s.2.2.1), some (.int p18)], [], zhp z)) (h0 := sI s.2.2.2 192 0 v21) 1 rfl eh23 ?_
          refine zEv_k 1 (f' := (164, [some (.ref 192), some (.ref 22), some (.int x2), some (.int s.1), some (.int s.2.1), some (.int s.2.2.1), some (.int p18)], [.ref 192], zhp h23)) rfl ?_
          refine zRgr rfl rfl rfl (by decide) (b := 193) rfl ?_
          refine zEv_k 2 (f' := (171, [some (.ref 192), some (.ref 22), some (.int x2), some (.int s.1), some (.int s.2.1), some (.int s.2.2.1), some (.int p18)], [.int p18, .int s.2.2.1, .ref 193], zhp h23)) rfl ?_
          obtain ⟨j24, hj24, H⟩ := zbs H
          obtain ⟨h25, eh25, H⟩ := zlets H
          refine zRis rfl rfl (by decide) hj24 eh25 ?_
          obtain ⟨h26, eh26, H⟩ := zlets H
          refine zEv_w (F := fun z => (182, [some (.ref 192), some (.ref 22), some (.int x2), some (.int s.1), some (.int s.2.1), some (.int s.2.2.1), some (.int p18)], [], zhp z)) (h0 := sI h25 192 3 ((gI h25 192 3) + 1)) 6 rfl eh26 ?_
          refine zEv_k 9 (f' := (196, [some (.ref 192), some (.ref 22), some (.int x2), some (.int (s.1 ||| ((1 : Int32) <<< (p18 &&& 31)))), some (.int p18), some (.int (s.2.2.1 + 1)), some (.int p18)], [], zhp h26)) rfl ?_
          refine zEv_k 1 (f' := (106, [some (.ref 192), some (.ref 22), some (.int x2), some (.int (s.1 ||| ((1 : Int32) <<< (p18 &&& 31)))), some (.int p18), some (.int (s.2.2.1 + 1)), some (.int p18)], [], zhp h26)) rfl ?_
          cases H
          exact K _
        clear H
        refine zEv_k 3 (f' := (if ¬ s.2.2.1 = 0 then 156 else 142, [some (.ref 192), some (.ref 22), some (.int x2), some (.int s.1), some (.int s.2.1), some (.int s.2.2.1), some (.int p18)], [.ref 192], zhp s.2.2.2)) rfl (zEv_if (fun c20 => ?_) (fun c20 => ?_))
        · replace hv21 := zif_t c20 hv21
          refine zEv_k 2 (f' := (160, [some (.ref 192), some (.ref 22), some (.int x2), some (.int s.1), some (.int s.2.1), some (.int s.2.2.1), some (.int p18)], [.int (gI s.2.2.2 192 0), .ref 192], zhp s.2.2.2)) rfl ?_
          cases hv21
          exact kv21
        · replace hv21 := zif_f c20 hv21
          refine zEv_k 6 (f' := (150, [some (.ref 192), some (.ref 22), some (.int x2), some (.int s.1), some (.int s.2.1), some (.int s.2.2.1), some (.int p18)], [.int p18, .int s.2.1, .int s.1, .int x2, .ref 22, .ref 192, .ref 192], zhp s.2.2.2)) rfl ?_
          obtain ⟨p22, hp22, hv21⟩ := zbs hv21
          refine zEv_c (fun _ => rfl) rfl (t_qOr_worthOnward (oc := 22) (x2 := x2) (x3 := s.1) (x4 := s.2.1) (x5 := p18) (h := s.2.2.2) (d := d + 1) (by decide) hp22) rfl rfl ?_
          refine zEv_k 1 (f' := (160, [some (.ref 192), some (.ref 22), some (.int x2), some (.int s.1), some (.int s.2.1), some (.int s.2.2.1), some (.int p18)], [.int p22, .ref 192], zhp s.2.2.2)) rfl ?_
          cases hv21
          exact kv21
      · replace H := zif_f c19 H
        refine zEv_k 1 (f' := (199, [some (.ref 192), some (.ref 22), some (.int x2), some (.int s.1), some (.int s.2.1), some (.int s.2.2.1), some (.int p18)], [], zhp s.2.2.2)) rfl ?_
        cases H
        exact K _ _ _ _
theorem t_qOr_bestRow_b106 {Ls : Nat} {xs : Nat → Int32} {d : Nat} {oc : Nat} {x2 : Int32} {r : zA} (ho : oc = 7 ∨ oc = 22) {t : (zK) ⊕ (zK)} (K : (match (generalizing := false) t with | .inl v => ∀ (z3 : Option Value) (z4 : Option Value) (z5 : Option Value) (z6 : Option Value), zEv (zXs Ls xs) (d + 4) zm_46 (199, [some (.ref 192), some (.ref oc), some (.int x2), z3, z4, z5, z6], [], zhp v) r | .inr p => (none, zhp p) = r)) (n : Nat) (s : Int32 × Int32 × Int32 × zK) (H : zloop (qOr_bestRow_b106 oc x2) n s = some t) (y6 : Option Value) : zEv (zXs Ls xs) (d + 4) zm_46 (106, [some (.ref 192), some (.ref oc), some (.int x2), some (.int s.1), some (.int s.2.1), some (.int s.2.2.1), y6], [], zhp s.2.2.2) r := by
  have Z := zloop_P (P := fun s => ∀ (y6 : Option Value), zEv (zXs Ls xs) (d + 4) zm_46 (106, [some (.ref 192), some (.ref oc), some (.int x2), some (.int s.1), some (.int s.2.1), some (.int s.2.2.1), y6], [], zhp s.2.2.2) r) (b := qOr_bestRow_b106 oc x2) (t := t) (fun s s2 hb hk => by intro y6; exact t_qOr_bestRow_b106b ho hb hk y6) (fun s hb => by rcases t with v | p <;> (intro y6; exact t_qOr_bestRow_b106b ho hb K y6)) n s H
  exact Z y6
def qOr_bestRow (oc : Nat) (x2 : Int32) (h : zK) : Option (zK) :=
  (zloop (qOr_bestRow_b5 oc x2) zfu (qCe_all oc h, h)).bind fun t13 =>
  zlet (sI t13 192 0 0) fun h15 =>
  zlet (sI h15 192 3 0) fun h16 =>
  (zloop (qOr_bestRow_b106 oc x2) zfu (0, 7, 0, h16)).bind fun t27 => match t27 with
  | .inr p => some p
  | .inl v28 =>
    some v28
theorem t_qOr_bestRow {Ls : Nat} {xs : Nat → Int32} {d : Nat} {oc : Nat} {x2 : Int32} {h : zK} {p : zK} (ho : oc = 7 ∨ oc = 22) (H : qOr_bestRow oc x2 h = some p) : zEv (zXs Ls xs) (d + 4) zm_46 (0, [some (.ref 192), some (.ref oc), some (.int x2), none, none, none, none], [], zhp h) (none, zhp p) := by
  unfold qOr_bestRow at H
  rcases ho with rfl | rfl
  · refine zEv_k 1 (f' := (1, [some (.ref 192), some (.ref 7), some (.int x2), none, none, none, none], [.ref 7], zhp h)) rfl ?_
    refine zEv_c (fun _ => rfl) rfl (t_qCe_all (oo := 7) (h := h) (d := d + 3) (by decide) rfl) rfl rfl ?_
    refine zEv_k 1 (f' := (5, [some (.ref 192), some (.ref 7), some (.int x2), some (.int (qCe_all 7 h)), none, none, none], [], zhp h)) rfl ?_
    obtain ⟨t13, ht13, H⟩ := zbs H
    refine t_qOr_bestRow_b5 (oc := 7) (x2 := x2) (by decide) ?_ zfu _ ht13 _ _
    intro y3 y4 y5
    obtain ⟨h15, eh15, H⟩ := zlets H
    refine zEv_w (F := fun z => (92, [some (.ref 192), some (.ref 7), some (.int x2), y3, y4, y5, none], [], zhp z)) (h0 := sI t13 192 0 0) 3 rfl eh15 ?_
    obtain ⟨h16, eh16, H⟩ := zlets H
    refine zEv_w (F := fun z => (97, [some (.ref 192), some (.ref 7), some (.int x2), y3, y4, y5, none], [], zhp z)) (h0 := sI h15 192 3 0) 3 rfl eh16 ?_
    refine zEv_k 6 (f' := (106, [some (.ref 192), some (.ref 7), some (.int x2), some (.int 0), some (.int 7), some (.int 0), none], [], zhp h16)) rfl ?_
    obtain ⟨t27, ht27, H⟩ := zbs H
    refine t_qOr_bestRow_b106 (oc := 7) (x2 := x2) (by decide) ?_ zfu _ ht27 _
    rcases t27 with v28 | p
    · intro y3 y4 y5 y6
      dsimp only at H
      cases H
      exact zEv_r rfl
    · cases H
      exact rfl
  · refine zEv_k 1 (f' := (1, [some (.ref 192), some (.ref 22), some (.int x2), none, none, none, none], [.ref 22], zhp h)) rfl ?_
    refine zEv_c (fun _ => rfl) rfl (t_qCe_all (oo := 22) (h := h) (d := d + 3) (by decide) rfl) rfl rfl ?_
    refine zEv_k 1 (f' := (5, [some (.ref 192), some (.ref 22), some (.int x2), some (.int (qCe_all 22 h)), none, none, none], [], zhp h)) rfl ?_
    obtain ⟨t13, ht13, H⟩ := zbs H
    refine t_qOr_bestRow_b5 (oc := 22) (x2 := x2) (by decide) ?_ zfu _ ht13 _ _
    intro y3 y4 y5
    obtain ⟨h15, eh15, H⟩ := zlets H
    refine zEv_w (F := fun z => (92, [some (.ref 192), some (.ref 22), some (.int x2), y3, y4, y5, none], [], zhp z)) (h0 := sI t13 192 0 0) 3 rfl eh15 ?_
    obtain ⟨h16, eh16, H⟩ := zlets H
    refine zEv_w (F := fun z => (97, [some (.ref 192), some (.ref 22), some (.int x2), y3, y4, y5, none], [], zhp z)) (h0 := sI h15 192 3 0) 3 rfl eh16 ?_
    refine zEv_k 6 (f' := (106, [some (.ref 192), some (.ref 22), some (.int x2), some (.int 0), some (.int 7), some (.int 0), none], [], zhp h16)) rfl ?_
    obtain ⟨t27, ht27, H⟩ := zbs H
    refine t_qOr_bestRow_b106 (oc := 22) (x2 := x2) (by decide) ?_ zfu _ ht27 _
    rcases t27 with v28 | p
    · intro y3 y4 y5 y6
      dsimp only at H
      cases H
      exact zEv_r rfl
    · cases H
      exact rfl
def qOr_lead (oc : Nat) (x2 : Int32) (x3 : Int32) (x4 : Int32) (h : zK) : Option (Int32) :=
  if ¬ x4 = 7 then
    (qOr_worthBehind oc x3 x4 h).bind fun p2 =>
    (zix (((x2 ||| ((1 : Int32) <<< (x4 &&& 31))) * 8) + x4) 1408).bind fun j3 =>
    some (p2 - (gI h 194 j3))
  else
    (zix ((x2 * 8) + x3) 1408).bind fun j4 =>
    some (-(gI h 194 j4))
theorem t_qOr_lead {Ls : Nat} {xs : Nat → Int32} {d : Nat} {oc : Nat} {x2 : Int32} {x3 : Int32} {x4 : Int32} {h : zK} {p : Int32} (ho : oc = 7 ∨ oc = 22) (H : qOr_lead oc x2 x3 x4 h = some p) : zEv (zXs Ls xs) (d + 2) zm_53 (0, [some (.ref 192), some (.ref oc), some (.int x2), some (.int x3), some (.int x4)], [], zhp h) (some (.int p), zhp h) := by
  unfold qOr_lead at H
  rcases ho with rfl | rfl
  · refine zEv_k 3 (f' := (if ¬ x4 = 7 then 20 else 7, [some (.ref 192), some (.ref 7), some (.int x2), some (.int x3), some (.int x4)], [], zhp h)) rfl (zEv_if (fun c1 => ?_) (fun c1 => ?_))
    · replace H := zif_t c1 H
      refine zEv_k 3 (f' := (24, [some (.ref 192), some (.ref 7), some (.int x2), some (.int x3), some (.int x4)], [.int x4, .int x3, .ref 7], zhp h)) rfl ?_
      obtain ⟨p2, hp2, H⟩ := zbs H
      refine zEv_c (fun _ => rfl) rfl (t_qOr_worthBehind (oc := 7) (x1 := x3) (x2 := x4) (h := h) (d := d) (by decide) hp2) rfl rfl ?_
      refine zEv_k 1 (f' := (28, [some (.ref 192), some (.ref 7), some (.int x2), some (.int x3), some (.int x4)], [.ref 192, .int p2], zhp h)) rfl ?_
      refine zRgr rfl rfl rfl (by decide) (b := 194) rfl ?_
      refine zEv_k 9 (f' := (43, [some (.ref 192), some (.ref 7), some (.int x2), some (.int x3), some (.int x4)], [.int (((x2 ||| ((1 : Int32) <<< (x4 &&& 31))) * 8) + x4), .ref 194, .int p2], zhp h)) rfl ?_
      obtain ⟨j3, hj3, H⟩ := zbs H
      refine zRia rfl rfl (by decide) hj3 ?_
      refine zEv_k 1 (f' := (45, [some (.ref 192), some (.ref 7), some (.int x2), some (.int x3), some (.int x4)], [.int (p2 - (gI h 194 j3))], zhp h)) rfl ?_
      cases H
      exact zEv_r rfl
    · replace H := zif_f c1 H
      refine zEv_k 1 (f' := (8, [some (.ref 192), some (.ref 7), some (.int x2), some (.int x3), some (.int x4)], [.ref 192], zhp h)) rfl ?_
      refine zRgr rfl rfl rfl (by decide) (b := 194) rfl ?_
      refine zEv_k 5 (f' := (17, [some (.ref 192), some (.ref 7), some (.int x2), some (.int x3), some (.int x4)], [.int ((x2 * 8) + x3), .ref 194], zhp h)) rfl ?_
      obtain ⟨j4, hj4, H⟩ := zbs H
      refine zRia rfl rfl (by decide) hj4 ?_
      refine zEv_k 1 (f' := (19, [some (.ref 192), some (.ref 7), some (.int x2), some (.int x3), some (.int x4)], [.int (-(gI h 194 j4))], zhp h)) rfl ?_
      cases H
      exact zEv_r rfl
  · refine zEv_k 3 (f' := (if ¬ x4 = 7 then 20 else 7, [some (.ref 192), some (.ref 22), some (.int x2), some (.int x3), some (.int x4)], [], zhp h)) rfl (zEv_if (fun c1 => ?_) (fun c1 => ?_))
    · replace H := zif_t c1 H
      refine zEv_k 3 (f' := (24, [some (.ref 192), some (.ref 22), some (.int x2), some (.int x3), some (.int x4)], [.int x4, .int x3, .ref 22], zhp h)) rfl ?_
      obtain ⟨p2, hp2, H⟩ := zbs H
      refine zEv_c (fun _ => rfl) rfl (t_qOr_worthBehind (oc := 22) (x1 := x3) (x2 := x4) (h := h) (d := d) (by decide) hp2) rfl rfl ?_
      refine zEv_k 1 (f' := (28, [some (.ref 192), some (.ref 22), some (.int x2), some (.int x3), some (.int x4)], [.ref 192, .int p2], zhp h)) rfl ?_
      refine zRgr rfl rfl rfl (by decide) (b := 194) rfl ?_
      refine zEv_k 9 (f' := (43, [some (.ref 192), some (.ref 22), some (.int x2), some (.int x3), some (.int x4)], [.int (((x2 ||| ((1 : Int32) <<< (x4 &&& 31))) * 8) + x4), .ref 194, .int p2], zhp h)) rfl ?_
      obtain ⟨j3, hj3, H⟩ := zbs H
      refine zRia rfl rfl (by decide) hj3 ?_
      refine zEv_k 1 (f' := (45, [some (.ref 192), some (.ref 22), some (.int x2), some (.int x3), some (.int x4)], [.int (p2 - (gI h 194 j3))], zhp h)) rfl ?_
      cases H
      exact zEv_r rfl
    · replace H := zif_f c1 H
      refine zEv_k 1 (f' := (8, [some (.ref 192), some (.ref 22), some (.int x2), some (.int x3), some (.int x4)], [.ref 192], zhp h)) rfl ?_
      refine zRgr rfl rfl rfl (by decide) (b := 194) rfl ?_
      refine zEv_k 5 (f' := (17, [some (.ref 192), some (.ref 22), some (.int x2), some (.int x3), some (.int x4)], [.int ((x2 * 8) + x3), .ref 194], zhp h)) rfl ?_
      obtain ⟨j4, hj4, H⟩ := zbs H
      refine zRia rfl rfl (by decide) hj4 ?_
      refine zEv_k 1 (f' := (19, [some (.ref 192), some (.ref 22), some (.int x2), some (.int x3), some (.int x4)], [.int (-(gI h 194 j4))], zhp h)) rfl ?_
      cases H
      exact zEv_r rfl
def qOr_bestMove_b23 (oc : Nat) (x2 : Int32) (x3 : Int32) (h : zK) (s : Int32 × Int32 × Int32) : Option ((Int32 × Int32 × Int32) ⊕ (Int32)) :=
  if s.2.2 < 0 then
    some (.inr s.1)
  else
    Option.bind (
        if ¬ (zf_cin x2 s.2.2) = 0 then
          some (s.1, s.2.1)
        else
          (qOr_lead oc x2 x3 s.2.2 h).bind fun p5 =>
          if p5 < s.2.1 then
            some (s.1, s.2.1)
          else
            (qOr_lead oc x2 x3 s.2.2 h).bind fun p7 =>
            some (s.2.2, p7)
      ) fun (v4 : Int32 × Int32) =>
    some (.inl (v4.1, v4.2, s.2.2 + (-1)))
theorem t_qOr_bestMove_b23b {Ls : Nat} {xs : Nat → Int32} {d : Nat} {oc : Nat} {x2 : Int32} {x3 : Int32} {h : zK} {r : zA} {s : Int32 × Int32 × Int32} {e : (Int32 × Int32 × Int32) ⊕ (Int32)} (ho : oc = 7 ∨ oc = 22) (H : qOr_bestMove_b23 oc x2 x3 h s = some e) (K : match (generalizing := false) e with | .inl s' => zEv (zXs Ls xs) (d + 3) zm_52 (23, [some (.ref 192), some (.ref oc), some (.int x2), some (.int x3), some (.int s'.1), some (.int s'.2.1), some (.int s'.2.2)], [], zhp h) r | .inr v => ∀ (z5 : Option Value) (z6 : Option Value), zEv (zXs Ls xs) (d + 3) zm_52 (72, [some (.ref 192), some (.ref oc), some (.int x2), some (.int x3), some (.int v), z5, z6], [], zhp h) r) : zEv (zXs Ls xs) (d + 3) zm_52 (23, [some (.ref 192), some (.ref oc), some (.int x2), some (.int x3), some (.int s.1), some (.int s.2.1), some (.int s.2.2)], [], zhp h) r := by
  unfold qOr_bestMove_b23 at H
  rcases ho with rfl | rfl
  · refine zEv_k 2 (f' := (if s.2.2 < 0 then 72 else 28, [some (.ref 192), some (.ref 7), some (.int x2), some (.int x3), some (.int s.1), some (.int s.2.1), some (.int s.2.2)], [], zhp h)) rfl (zEv_if (fun c2 => ?_) (fun c2 => ?_))
    · replace H := zif_t c2 H
      cases H
      exact K _ _
    · replace H := zif_f c2 H
      obtain ⟨v4, hv4, H⟩ := zbs H
      have kv4 : zEv (zXs Ls xs) (d + 3) zm_52 (66, [some (.ref 192), some (.ref 7), some (.int x2), some (.int x3), some (.int v4.1), some (.int v4.2), some (.int s.2.2)], [], zhp h) r := by
        refine zEv_k 2 (f' := (23, [some (.ref 192), some (.ref 7), some (.int x2), some (.int x3), some (.int v4.1), some (.int v4.2), some (.int (s.2.2 + (-1)))], [], zhp h)) rfl ?_
        cases H
        exact K
      clear H
      refine zEv_k 2 (f' := (31, [some (.ref 192), some (.ref 7), some (.int x2), some (.int x3), some (.int s.1), some (.int s.2.1), some (.int s.2.2)], [.int s.2.2, .int x2], zhp h)) rfl ?_
      refine zEv_c (fun _ => rfl) rfl ev_zf_cin rfl rfl ?_
      refine zEv_k 1 (f' := (if ¬ (zf_cin x2 s.2.2) = 0 then 66 else 37, [some (.ref 192), some (.ref 7), some (.int x2), some (.int x3), some (.int s.1), some (.int s.2.1), some (.int s.2.2)], [], zhp h)) rfl (zEv_if (fun c3 => ?_) (fun c3 => ?_))
      · replace hv4 := zif_t c3 hv4
        cases hv4
        exact kv4
      · replace hv4 := zif_f c3 hv4
        refine zEv_k 5 (f' := (43, [some (.ref 192), some (.ref 7), some (.int x2), some (.int x3), some (.int s.1), some (.int s.2.1), some (.int s.2.2)], [.int s.2.2, .int x3, .int x2, .ref 7, .ref 192], zhp h)) rfl ?_
        obtain ⟨p5, hp5, hv4⟩ := zbs hv4
        refine zEv_c (fun _ => rfl) rfl (t_qOr_lead (oc := 7) (x2 := x2) (x3 := x3) (x4 := s.2.2) (h := h) (d := d) (by decide) hp5) rfl rfl ?_
        refine zEv_k 2 (f' := (if p5 < s.2.1 then 66 else 51, [some (.ref 192), some (.ref 7), some (.int x2), some (.int x3), some (.int s.1), some (.int s.2.1), some (.int s.2.2)], [], zhp h)) rfl (zEv_if (fun c6 => ?_) (fun c6 => ?_))
        · replace hv4 := zif_t c6 hv4
          cases hv4
          exact kv4
        · replace hv4 := zif_f c6 hv4
          refine zEv_k 5 (f' := (57, [some (.ref 192), some (.ref 7), some (.int x2), some (.int x3), some (.int s.1), some (.int s.2.1), some (.int s.2.2)], [.int s.2.2, .int x3, .int x2, .ref 7, .ref 192], zhp h)) rfl ?_
          obtain ⟨p7, hp7, hv4⟩ := zbs hv4
          refine zEv_c (fun _ => rfl) rfl (t_qOr_lead (oc := 7) (x2 := x2) (x3 := x3) (x4 := s.2.2) (h := h) (d := d) (by decide) hp7) rfl rfl ?_
          refine zEv_k 3 (f' := (66, [some (.ref 192), some (.ref 7), some (.int x2), some (.int x3), some (.int s.2.2), some (.int p7), some (.int s.2.2)], [], zhp h)) rfl ?_
          cases hv4
          exact kv4
  · refine zEv_k 2 (f' := (if s.2.2 < 0 then 72 else 28, [some (.ref 192), some (.ref 22), some (.int x2), some (.int x3), some (.int s.1), some (.int s.2.1), some (.int s.2.2)], [], zhp h)) rfl (zEv_if (fun c2 => ?_) (fun c2 => ?_))
    · replace H := zif_t c2 H
      cases H
      exact K _ _
    · replace H := zif_f c2 H
      obtain ⟨v4, hv4, H⟩ := zbs H
      have kv4 : zEv (zXs Ls xs) (d + 3) zm_52 (66, [some (.ref 192), some (.ref 22), some (.int x2), some (.int x3), some (.int v4.1), some (.int v4.2), some (.int s.2.2)], [], zhp h) r := by
        refine zEv_k 2 (f' := (23, [some (.ref 192), some (.ref 22), some (.int x2), some (.int x3), some (.int v4.1), some (.int v4.2), some (.int (s.2.2 + (-1)))], [], zhp h)) rfl ?_
        cases H
        exact K
      clear H
      refine zEv_k 2 (f' := (31, [some (.ref 192), some (.ref 22), some (.int x2), some (.int x3), some (.int s.1), some (.int s.2.1), some (.int s.2.2)], [.int s.2.2, .int x2], zhp h)) rfl ?_
      refine zEv_c (fun _ => rfl) rfl ev_zf_cin rfl rfl ?_
      refine zEv_k 1 (f' := (if ¬ (zf_cin x2 s.2.2) = 0 then 66 else 37, [some (.ref 192), some (.ref 22), some (.int x2), some (.int x3), some (.int s.1), some (.int s.2.1), some (.int s.2.2)], [], zhp h)) rfl (zEv_if (fun c3 => ?_) (fun c3 => ?_))
      · replace hv4 := zif_t c3 hv4
        cases hv4
        exact kv4
      · replace hv4 := zif_f c3 hv4
        refine zEv_k 5 (f' := (43, [some (.ref 192), some (.ref 22), some (.int x2), some (.int x3), some (.int s.1), some (.int s.2.1), some (.int s.2.2)], [.int s.2.2, .int x3, .int x2, .ref 22, .ref 192], zhp h)) rfl ?_
        obtain ⟨p5, hp5, hv4⟩ := zbs hv4
        refine zEv_c (fun _ => rfl) rfl (t_qOr_lead (oc := 22) (x2 := x2) (x3 := x3) (x4 := s.2.2) (h := h) (d := d) (by decide) hp5) rfl rfl ?_
        refine zEv_k 2 (f' := (if p5 < s.2.1 then 66 else 51, [some (.ref 192), some (.ref 22), some (.int x2), some (.int x3), some (.int s.1), some (.int s.2.1), some (.int s.2.2)], [], zhp h)) rfl (zEv_if (fun c6 => ?_) (fun c6 => ?_))
        · replace hv4 := zif_t c6 hv4
          cases hv4
          exact kv4
        · replace hv4 := zif_f c6 hv4
          refine zEv_k 5 (f' := (57, [some (.ref 192), some (.ref 22), some (.int x2), some (.int x3), some (.int s.1), some (.int s.2.1), some (.int s.2.2)], [.int s.2.2, .int x3, .int x2, .ref 22, .ref 192], zhp h)) rfl ?_
          obtain ⟨p7, hp7, hv4⟩ := zbs hv4
          refine zEv_c (fun _ => rfl) rfl (t_qOr_lead (oc := 22) (x2 := x2) (x3 := x3) (x4 := s.2.2) (h := h) (d := d) (by decide) hp7) rfl rfl ?_
          refine zEv_k 3 (f' := (66, [some (.ref 192), some (.ref 22), some (.int x2), some (.int x3), some (.int s.2.2), some (.int p7), some (.int s.2.2)], [], zhp h)) rfl ?_
          cases hv4
          exact kv4
theorem t_qOr_bestMove_b23 {Ls : Nat} {xs : Nat → Int32} {d : Nat} {oc : Nat} {x2 : Int32} {x3 : Int32} {h : zK} {r : zA} (ho : oc = 7 ∨ oc = 22) {t : Int32} (K : ∀ (z5 : Option Value) (z6 : Option Value), zEv (zXs Ls xs) (d + 3) zm_52 (72, [some (.ref 192), some (.ref oc), some (.int x2), some (.int x3), some (.int t), z5, z6], [], zhp h) r) (n : Nat) (s : Int32 × Int32 × Int32) (H : zloop (qOr_bestMove_b23 oc x2 x3 h) n s = some t) : zEv (zXs Ls xs) (d + 3) zm_52 (23, [some (.ref 192), some (.ref oc), some (.int x2), some (.int x3), some (.int s.1), some (.int s.2.1), some (.int s.2.2)], [], zhp h) r := by
  have Z := zloop_P (P := fun s => zEv (zXs Ls xs) (d + 3) zm_52 (23, [some (.ref 192), some (.ref oc), some (.int x2), some (.int x3), some (.int s.1), some (.int s.2.1), some (.int s.2.2)], [], zhp h) r) (b := qOr_bestMove_b23 oc x2 x3 h) (t := t) (fun s s2 hb hk => by exact t_qOr_bestMove_b23b ho hb hk) (fun s hb => by exact t_qOr_bestMove_b23b ho hb K) n s H
  exact Z
def qOr_bestMove (oc : Nat) (x2 : Int32) (x3 : Int32) (h : zK) : Option (Int32) :=
  (qOr_lead oc x2 x3 7 h).bind fun p1 =>
  (zloop (qOr_bestMove_b23 oc x2 x3 h) zfu (7, p1, (gI h oc 2) - 1)).bind fun t8 =>
  some t8
theorem t_qOr_bestMove {Ls : Nat} {xs : Nat → Int32} {d : Nat} {oc : Nat} {x2 : Int32} {x3 : Int32} {h : zK} {p : Int32} (ho : oc = 7 ∨ oc = 22) (H : qOr_bestMove oc x2 x3 h = some p) : zEv (zXs Ls xs) (d + 3) zm_52 (0, [some (.ref 192), some (.ref oc), some (.int x2), some (.int x3), none, none, none], [], zhp h) (some (.int p), zhp h) := by
  unfold qOr_bestMove at H
  rcases ho with rfl | rfl
  · refine zEv_k 7 (f' := (10, [some (.ref 192), some (.ref 7), some (.int x2), some (.int x3), some (.int 7), none, none], [.int 7, .int x3, .int x2, .ref 7, .ref 192], zhp h)) rfl ?_
    obtain ⟨p1, hp1, H⟩ := zbs H
    refine zEv_c (fun _ => rfl) rfl (t_qOr_lead (oc := 7) (x2 := x2) (x3 := x3) (x4 := 7) (h := h) (d := d) (by decide) hp1) rfl rfl ?_
    refine zEv_k 6 (f' := (23, [some (.ref 192), some (.ref 7), some (.int x2), some (.int x3), some (.int 7), some (.int p1), some (.int ((gI h 7 2) - 1))], [], zhp h)) rfl ?_
    obtain ⟨t8, ht8, H⟩ := zbs H
    refine t_qOr_bestMove_b23 (oc := 7) (x2 := x2) (x3 := x3) (h := h) (by decide) ?_ zfu _ ht8
    intro y5 y6
    refine zEv_k 1 (f' := (74, [some (.ref 192), some (.ref 7), some (.int x2), some (.int x3), some (.int t8), y5, y6], [.int t8], zhp h)) rfl ?_
    cases H
    exact zEv_r rfl
  · refine zEv_k 7 (f' := (10, [some (.ref 192), some (.ref 22), some (.int x2), some (.int x3), some (.int 7), none, none], [.int 7, .int x3, .int x2, .ref 22, .ref 192], zhp h)) rfl ?_
    obtain ⟨p1, hp1, H⟩ := zbs H
    refine zEv_c (fun _ => rfl) rfl (t_qOr_lead (oc := 22) (x2 := x2) (x3 := x3) (x4 := 7) (h := h) (d := d) (by decide) hp1) rfl rfl ?_
    refine zEv_k 6 (f' := (23, [some (.ref 192), some (.ref 22), some (.int x2), some (.int x3), some (.int 7), some (.int p1), some (.int ((gI h 22 2) - 1))], [], zhp h)) rfl ?_
    obtain ⟨t8, ht8, H⟩ := zbs H
    refine t_qOr_bestMove_b23 (oc := 22) (x2 := x2) (x3 := x3) (h := h) (by decide) ?_ zfu _ ht8
    intro y5 y6
    refine zEv_k 1 (f' := (74, [some (.ref 192), some (.ref 22), some (.int x2), some (.int x3), some (.int t8), y5, y6], [.int t8], zhp h)) rfl ?_
    cases H
    exact zEv_r rfl
