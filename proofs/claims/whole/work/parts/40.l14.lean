def qC_calmYears_b28 (oc : Nat) (x2 : Int32) (h : zK) (s : Int32 × Int32 × Int32 × Int32) : Option ((Int32 × Int32 × Int32 × Int32) ⊕ (Int32 × Int32)) :=
  if 50 < s.2.2.2 then
    some (.inr (s.1, s.2.1))
  else
    (zix s.2.2.2 51).bind fun j4 =>
    zlet (
        if ¬ (gI h 167 j4) = 0 then
          0
        else
          s.2.2.1 + 1
      ) fun (v6 : Int32) =>
    zlet (
        if v6 ≤ s.1 then
          (s.1, s.2.1)
        else
          (v6, (s.2.2.2 - v6) + 1)
      ) fun (v8 : Int32 × Int32) =>
    some (.inl (v8.1, v8.2, v6, s.2.2.2 + 1))
theorem t_qC_calmYears_b28b {Ls : Nat} {xs : Nat → Int32} {d : Nat} {oc : Nat} {x2 : Int32} {h : zK} {r : zA} {s : Int32 × Int32 × Int32 × Int32} {e : (Int32 × Int32 × Int32 × Int32) ⊕ (Int32 × Int32)} (ho : oc = 7 ∨ oc = 22) (H : qC_calmYears_b28 oc x2 h s = some e) (K : match (generalizing := false) e with | .inl s' => zEv (zXs Ls xs) (d + 4) zm_144 (28, [some (.ref 0), some (.ref oc), some (.int x2), some (.int s'.1), some (.int s'.2.1), some (.int s'.2.2.1), some (.int s'.2.2.2)], [], zhp h) r | .inr v => ∀ (z5 : Option Value) (z6 : Option Value), zEv (zXs Ls xs) (d + 4) zm_144 (82, [some (.ref 0), some (.ref oc), some (.int x2), some (.int v.1), some (.int v.2), z5, z6], [], zhp h) r) : zEv (zXs Ls xs) (d + 4) zm_144 (28, [some (.ref 0), some (.ref oc), some (.int x2), some (.int s.1), some (.int s.2.1), some (.int s.2.2.1), some (.int s.2.2.2)], [], zhp h) r := by
  unfold qC_calmYears_b28 at H
  rcases ho with rfl | rfl
  · refine zEv_k 3 (f' := (if 50 < s.2.2.2 then 82 else 35, [some (.ref 0), some (.ref 7), some (.int x2), some (.int s.1), some (.int s.2.1), some (.int s.2.2.1), some (.int s.2.2.2)], [], zhp h)) rfl (zEv_if (fun c3 => ?_) (fun c3 => ?_))
    · replace H := zif_t c3 H
      cases H
      exact K _ _
    · replace H := zif_f c3 H
      refine zEv_k 1 (f' := (36, [some (.ref 0), some (.ref 7), some (.int x2), some (.int s.1), some (.int s.2.1), some (.int s.2.2.1), some (.int s.2.2.2)], [.ref 0], zhp h)) rfl ?_
      refine zRgr rfl rfl rfl (by decide) (b := 166) rfl ?_
      refine zRgr rfl rfl rfl (by decide) (b := 167) rfl ?_
      refine zEv_k 1 (f' := (44, [some (.ref 0), some (.ref 7), some (.int x2), some (.int s.1), some (.int s.2.1), some (.int s.2.2.1), some (.int s.2.2.2)], [.int s.2.2.2, .ref 167], zhp h)) rfl ?_
      obtain ⟨j4, hj4, H⟩ := zbs H
      refine zRia rfl rfl (by decide) hj4 ?_
      obtain ⟨v6, hv6, H⟩ := zlets H
      have kv6 : zEv (zXs Ls xs) (d + 4) zm_144 (56, [some (.ref 0), some (.ref 7), some (.int x2), some (.int s.1), some (.int s.2.1), some (.int s.2.2.1), some (.int s.2.2.2)], [.int v6], zhp h) r := by
        obtain ⟨v8, hv8, H⟩ := zlets H
        have kv8 : zEv (zXs Ls xs) (d + 4) zm_144 (76, [some (.ref 0), some (.ref 7), some (.int x2), some (.int v8.1), some (.int v8.2), some (.int v6), some (.int s.2.2.2)], [], zhp h) r := by
          refine zEv_k 2 (f' := (28, [some (.ref 0), some (.ref 7), some (.int x2), some (.int v8.1), some (.int v8.2), some (.int v6), some (.int (s.2.2.2 + 1))], [], zhp h)) rfl ?_
          cases H
          exact K
        clear H
        refine zEv_k 4 (f' := (if v6 ≤ s.1 then 76 else 64, [some (.ref 0), some (.ref 7), some (.int x2), some (.int s.1), some (.int s.2.1), some (.int v6), some (.int s.2.2.2)], [], zhp h)) rfl (zEv_if (fun c7 => ?_) (fun c7 => ?_))
        · replace hv8 := zif_t c7 hv8
          cases hv8
          exact kv8
        · replace hv8 := zif_f c7 hv8
          refine zEv_k 8 (f' := (76, [some (.ref 0), some (.ref 7), some (.int x2), some (.int v6), some (.int ((s.2.2.2 - v6) + 1)), some (.int v6), some (.int s.2.2.2)], [], zhp h)) rfl ?_
          cases hv8
          exact kv8
      clear H
      refine zEv_k 1 (f' := (if ¬ (gI h 167 j4) = 0 then 55 else 48, [some (.ref 0), some (.ref 7), some (.int x2), some (.int s.1), some (.int s.2.1), some (.int s.2.2.1), some (.int s.2.2.2)], [], zhp h)) rfl (zEv_if (fun c5 => ?_) (fun c5 => ?_))
      · replace hv6 := zif_t c5 hv6
        refine zEv_k 1 (f' := (56, [some (.ref 0), some (.ref 7), some (.int x2), some (.int s.1), some (.int s.2.1), some (.int s.2.2.1), some (.int s.2.2.2)], [.int 0], zhp h)) rfl ?_
        cases hv6
        exact kv6
      · replace hv6 := zif_f c5 hv6
        refine zEv_k 4 (f' := (56, [some (.ref 0), some (.ref 7), some (.int x2), some (.int s.1), some (.int s.2.1), some (.int s.2.2.1), some (.int s.2.2.2)], [.int (s.2.2.1 + 1)], zhp h)) rfl ?_
        cases hv6
        exact kv6
  · refine zEv_k 3 (f' := (if 50 < s.2.2.2 then 82 else 35, [some (.ref 0), some (.ref 22), some (.int x2), some (.int s.1), some (.int s.2.1), some (.int s.2.2.1), some (.int s.2.2.2)], [], zhp h)) rfl (zEv_if (fun c3 => ?_) (fun c3 => ?_))
    · replace H := zif_t c3 H
      cases H
      exact K _ _
    · replace H := zif_f c3 H
      refine zEv_k 1 (f' := (36, [some (.ref 0), some (.ref 22), some (.int x2), some (.int s.1), some (.int s.2.1), some (.int s.2.2.1), some (.int s.2.2.2)], [.ref 0], zhp h)) rfl ?_
      refine zRgr rfl rfl rfl (by decide) (b := 166) rfl ?_
      refine zRgr rfl rfl rfl (by decide) (b := 167) rfl ?_
      refine zEv_k 1 (f' := (44, [some (.ref 0), some (.ref 22), some (.int x2), some (.int s.1), some (.int s.2.1), some (.int s.2.2.1), some (.int s.2.2.2)], [.int s.2.2.2, .ref 167], zhp h)) rfl ?_
      obtain ⟨j4, hj4, H⟩ := zbs H
      refine zRia rfl rfl (by decide) hj4 ?_
      obtain ⟨v6, hv6, H⟩ := zlets H
      have kv6 : zEv (zXs Ls xs) (d + 4) zm_144 (56, [some (.ref 0), some (.ref 22), some (.int x2), some (.int s.1), some (.int s.2.1), some (.int s.2.2.1), some (.int s.2.2.2)], [.int v6], zhp h) r := by
        obtain ⟨v8, hv8, H⟩ := zlets H
        have kv8 : zEv (zXs Ls xs) (d + 4) zm_144 (76, [some (.ref 0), some (.ref 22), some (.int x2), some (.int v8.1), some (.int v8.2), some (.int v6), some (.int s.2.2.2)], [], zhp h) r := by
          refine zEv_k 2 (f' := (28, [some (.ref 0), some (.ref 22), some (.int x2), some (.int v8.1), some (.int v8.2), some (.int v6), some (.int (s.2.2.2 + 1))], [], zhp h)) rfl ?_
          cases H
          exact K
        clear H
        refine zEv_k 4 (f' := (if v6 ≤ s.1 then 76 else 64, [some (.ref 0), some (.ref 22), some (.int x2), some (.int s.1), some (.int s.2.1), some (.int v6), some (.int s.2.2.2)], [], zhp h)) rfl (zEv_if (fun c7 => ?_) (fun c7 => ?_))
        · replace hv8 := zif_t c7 hv8
          cases hv8
          exact kv8
        · replace hv8 := zif_f c7 hv8
          refine zEv_k 8 (f' := (76, [some (.ref 0), some (.ref 22), some (.int x2), some (.int v6), some (.int ((s.2.2.2 - v6) + 1)), some (.int v6), some (.int s.2.2.2)], [], zhp h)) rfl ?_
          cases hv8
          exact kv8
      clear H
      refine zEv_k 1 (f' := (if ¬ (gI h 167 j4) = 0 then 55 else 48, [some (.ref 0), some (.ref 22), some (.int x2), some (.int s.1), some (.int s.2.1), some (.int s.2.2.1), some (.int s.2.2.2)], [], zhp h)) rfl (zEv_if (fun c5 => ?_) (fun c5 => ?_))
      · replace hv6 := zif_t c5 hv6
        refine zEv_k 1 (f' := (56, [some (.ref 0), some (.ref 22), some (.int x2), some (.int s.1), some (.int s.2.1), some (.int s.2.2.1), some (.int s.2.2.2)], [.int 0], zhp h)) rfl ?_
        cases hv6
        exact kv6
      · replace hv6 := zif_f c5 hv6
        refine zEv_k 4 (f' := (56, [some (.ref 0), some (.ref 22), some (.int x2), some (.int s.1), some (.int s.2.1), some (.int s.2.2.1), some (.int s.2.2.2)], [.int (s.2.2.1 + 1)], zhp h)) rfl ?_
        cases hv6
        exact kv6
theorem t_qC_calmYears_b28 {Ls : Nat} {xs : Nat → Int32} {d : Nat} {oc : Nat} {x2 : Int32} {h : zK} {r : zA} (ho : oc = 7 ∨ oc = 22) {t : Int32 × Int32} (K : ∀ (z5 : Option Value) (z6 : Option Value), zEv (zXs Ls xs) (d + 4) zm_144 (82, [some (.ref 0), some (.ref oc), some (.int x2), some (.int t.1), some (.int t.2), z5, z6], [], zhp h) r) (n : Nat) (s : Int32 × Int32 × Int32 × Int32) (H : zloop (qC_calmYears_b28 oc x2 h) n s = some t) : zEv (zXs Ls xs) (d + 4) zm_144 (28, [some (.ref 0), some (.ref oc), some (.int x2), some (.int s.1), some (.int s.2.1), some (.int s.2.2.1), some (.int s.2.2.2)], [], zhp h) r := by
  have Z := zloop_P (P := fun s => zEv (zXs Ls xs) (d + 4) zm_144 (28, [some (.ref 0), some (.ref oc), some (.int x2), some (.int s.1), some (.int s.2.1), some (.int s.2.2.1), some (.int s.2.2.2)], [], zhp h) r) (b := qC_calmYears_b28 oc x2 h) (t := t) (fun s s2 hb hk => by exact t_qC_calmYears_b28b ho hb hk) (fun s hb => by exact t_qC_calmYears_b28b ho hb K) n s H
  exact Z
def qC_calmYears (oc : Nat) (x2 : Int32) (h : zK) : Option (Int32 × zK) :=
  (qRu_begin 166 oc h).bind fun p1 =>
  (qRu_passYears 166 50 p1).bind fun p2 =>
  (zloop (qC_calmYears_b28 oc x2 p2) zfu (0, -1, 0, 1)).bind fun t9 =>
  if x2 = 0 then
    some (t9.1, p2)
  else
    some (t9.2, p2)
theorem t_qC_calmYears {Ls : Nat} {xs : Nat → Int32} {d : Nat} {oc : Nat} {x2 : Int32} {h : zK} {p : Int32 × zK} (ho : oc = 7 ∨ oc = 22) (H : qC_calmYears oc x2 h = some p) : zEv (zXs Ls xs) (d + 4) zm_144 (0, [some (.ref 0), some (.ref oc), some (.int x2), none, none, none, none], [], zhp h) (some (.int p.1), zhp p.2) := by
  unfold qC_calmYears at H
  rcases ho with rfl | rfl
  · refine zEv_k 1 (f' := (1, [some (.ref 0), some (.ref 7), some (.int x2), none, none, none, none], [.ref 0], zhp h)) rfl ?_
    refine zRgr rfl rfl rfl (by decide) (b := 166) rfl ?_
    refine zEv_k 1 (f' := (5, [some (.ref 0), some (.ref 7), some (.int x2), none, none, none, none], [.ref 7, .ref 166], zhp h)) rfl ?_
    obtain ⟨p1, hp1, H⟩ := zbs H
    refine zEv_c (fun _ => rfl) rfl (t_qRu_begin (oo := 166) (oc := 7) (h := h) (d := d + 3) (by decide) hp1) rfl rfl ?_
    refine zEv_k 1 (f' := (9, [some (.ref 0), some (.ref 7), some (.int x2), none, none, none, none], [.ref 0], zhp p1)) rfl ?_
    refine zRgr rfl rfl rfl (by decide) (b := 166) rfl ?_
    refine zEv_k 1 (f' := (14, [some (.ref 0), some (.ref 7), some (.int x2), none, none, none, none], [.int 50, .ref 166], zhp p1)) rfl ?_
    obtain ⟨p2, hp2, H⟩ := zbs H
    refine zEv_c (fun _ => rfl) rfl (t_qRu_passYears (oo := 166) (x1 := 50) (h := p1) (d := d) (by decide) hp2) rfl rfl ?_
    refine zEv_k 8 (f' := (28, [some (.ref 0), some (.ref 7), some (.int x2), some (.int 0), some (.int (-1)), some (.int 0), some (.int 1)], [], zhp p2)) rfl ?_
    obtain ⟨t9, ht9, H⟩ := zbs H
    refine t_qC_calmYears_b28 (oc := 7) (x2 := x2) (h := p2) (by decide) ?_ zfu _ ht9
    intro y5 y6
    refine zEv_k 2 (f' := (if x2 = 0 then 91 else 86, [some (.ref 0), some (.ref 7), some (.int x2), some (.int t9.1), some (.int t9.2), y5, y6], [], zhp p2)) rfl (zEv_if (fun c11 => ?_) (fun c11 => ?_))
    · replace H := zif_t c11 H
      refine zEv_k 1 (f' := (92, [some (.ref 0), some (.ref 7), some (.int x2), some (.int t9.1), some (.int t9.2), y5, y6], [.int t9.1], zhp p2)) rfl ?_
      cases H
      exact zEv_r rfl
    · replace H := zif_f c11 H
      refine zEv_k 2 (f' := (92, [some (.ref 0), some (.ref 7), some (.int x2), some (.int t9.1), some (.int t9.2), y5, y6], [.int t9.2], zhp p2)) rfl ?_
      cases H
      exact zEv_r rfl
  · refine zEv_k 1 (f' := (1, [some (.ref 0), some (.ref 22), some (.int x2), none, none, none, none], [.ref 0], zhp h)) rfl ?_
    refine zRgr rfl rfl rfl (by decide) (b := 166) rfl ?_
    refine zEv_k 1 (f' := (5, [some (.ref 0), some (.ref 22), some (.int x2), none, none, none, none], [.ref 22, .ref 166], zhp h)) rfl ?_
    obtain ⟨p1, hp1, H⟩ := zbs H
    refine zEv_c (fun _ => rfl) rfl (t_qRu_begin (oo := 166) (oc := 22) (h := h) (d := d + 3) (by decide) hp1) rfl rfl ?_
    refine zEv_k 1 (f' := (9, [some (.ref 0), some (.ref 22), some (.int x2), none, none, none, none], [.ref 0], zhp p1)) rfl ?_
    refine zRgr rfl rfl rfl (by decide) (b := 166) rfl ?_
    refine zEv_k 1 (f' := (14, [some (.ref 0), some (.ref 22), some (.int x2), none, none, none, none], [.int 50, .ref 166], zhp p1)) rfl ?_
    obtain ⟨p2, hp2, H⟩ := zbs H
    refine zEv_c (fun _ => rfl) rfl (t_qRu_passYears (oo := 166) (x1 := 50) (h := p1) (d := d) (by decide) hp2) rfl rfl ?_
    refine zEv_k 8 (f' := (28, [some (.ref 0), some (.ref 22), some (.int x2), some (.int 0), some (.int (-1)), some (.int 0), some (.int 1)], [], zhp p2)) rfl ?_
    obtain ⟨t9, ht9, H⟩ := zbs H
    refine t_qC_calmYears_b28 (oc := 22) (x2 := x2) (h := p2) (by decide) ?_ zfu _ ht9
    intro y5 y6
    refine zEv_k 2 (f' := (if x2 = 0 then 91 else 86, [some (.ref 0), some (.ref 22), some (.int x2), some (.int t9.1), some (.int t9.2), y5, y6], [], zhp p2)) rfl (zEv_if (fun c11 => ?_) (fun c11 => ?_))
    · replace H := zif_t c11 H
      refine zEv_k 1 (f' := (92, [some (.ref 0), some (.ref 22), some (.int x2), some (.int t9.1), some (.int t9.2), y5, y6], [.int t9.1], zhp p2)) rfl ?_
      cases H
      exact zEv_r rfl
    · replace H := zif_f c11 H
      refine zEv_k 2 (f' := (92, [some (.ref 0), some (.ref 22), some (.int x2), some (.int t9.1), some (.int t9.2), y5, y6], [.int t9.2], zhp p2)) rfl ?_
      cases H
      exact zEv_r rfl
def qLk_earliest_b7 (oc : Nat) (h : zK) (s : Int32 × Int32 × Int32) : Option ((Int32 × Int32 × Int32) ⊕ (Int32)) :=
  if (gI h oc 2) ≤ s.2.2 then
    some (.inr s.1)
  else
    (qCe_lifeOf oc s.2.2 h).bind fun p2 =>
    zlet (
        if p2 = (-1) then
          (s.1, s.2.1)
        else
          if s.2.1 ≤ p2 then
            (s.1, s.2.1)
          else
            (s.2.2, p2)
      ) fun (v4 : Int32 × Int32) =>
    some (.inl (v4.1, v4.2, s.2.2 + 1))
theorem t_qLk_earliest_b7b {Ls : Nat} {xs : Nat → Int32} {d : Nat} {oc : Nat} {h : zK} {r : zA} {s : Int32 × Int32 × Int32} {e : (Int32 × Int32 × Int32) ⊕ (Int32)} (ho : oc = 7 ∨ oc = 22) (H : qLk_earliest_b7 oc h s = some e) (K : match (generalizing := false) e with | .inl s' => ∀ (z4 : Option Value), zEv (zXs Ls xs) (d + 1) zm_279 (7, [some (.ref oc), some (.int s'.1), some (.int s'.2.1), some (.int s'.2.2), z4], [], zhp h) r | .inr v => ∀ (z2 : Option Value) (z3 : Option Value) (z4 : Option Value), zEv (zXs Ls xs) (d + 1) zm_279 (45, [some (.ref oc), some (.int v), z2, z3, z4], [], zhp h) r) (y4 : Option Value) : zEv (zXs Ls xs) (d + 1) zm_279 (7, [some (.ref oc), some (.int s.1), some (.int s.2.1), some (.int s.2.2), y4], [], zhp h) r := by
  unfold qLk_earliest_b7 at H
  rcases ho with rfl | rfl
  · refine zEv_k 4 (f' := (if (gI h 7 2) ≤ s.2.2 then 45 else 15, [some (.ref 7), some (.int s.1), some (.int s.2.1), some (.int s.2.2), y4], [], zhp h)) rfl (zEv_if (fun c1 => ?_) (fun c1 => ?_))
    · replace H := zif_t c1 H
      cases H
      exact K _ _ _
    · replace H := zif_f c1 H
      refine zEv_k 2 (f' := (17, [some (.ref 7), some (.int s.1), some (.int s.2.1), some (.int s.2.2), y4], [.int s.2.2, .ref 7], zhp h)) rfl ?_
      obtain ⟨p2, hp2, H⟩ := zbs H
      refine zEv_c (fun _ => rfl) rfl (t_qCe_lifeOf (oo := 7) (x1 := s.2.2) (h := h) (d := d) (by decide) hp2) rfl rfl ?_
      obtain ⟨v4, hv4, H⟩ := zlets H
      have kv4 : zEv (zXs Ls xs) (d + 1) zm_279 (39, [some (.ref 7), some (.int v4.1), some (.int v4.2), some (.int s.2.2), some (.int p2)], [], zhp h) r := by
        refine zEv_k 2 (f' := (7, [some (.ref 7), some (.int v4.1), some (.int v4.2), some (.int (s.2.2 + 1)), some (.int p2)], [], zhp h)) rfl ?_
        cases H
        exact K _
      clear H
      refine zEv_k 4 (f' := (if p2 = (-1) then 39 else 28, [some (.ref 7), some (.int s.1), some (.int s.2.1), some (.int s.2.2), some (.int p2)], [], zhp h)) rfl (zEv_if (fun c3 => ?_) (fun c3 => ?_))
      · replace hv4 := zif_t c3 hv4
        cases hv4
        exact kv4
      · replace hv4 := zif_f c3 hv4
        refine zEv_k 3 (f' := (if s.2.1 ≤ p2 then 39 else 34, [some (.ref 7), some (.int s.1), some (.int s.2.1), some (.int s.2.2), some (.int p2)], [], zhp h)) rfl (zEv_if (fun c5 => ?_) (fun c5 => ?_))
        · replace hv4 := zif_t c5 hv4
          cases hv4
          exact kv4
        · replace hv4 := zif_f c5 hv4
          refine zEv_k 4 (f' := (39, [some (.ref 7), some (.int s.2.2), some (.int p2), some (.int s.2.2), some (.int p2)], [], zhp h)) rfl ?_
          cases hv4
          exact kv4
  · refine zEv_k 4 (f' := (if (gI h 22 2) ≤ s.2.2 then 45 else 15, [some (.ref 22), some (.int s.1), some (.int s.2.1), some (.int s.2.2), y4], [], zhp h)) rfl (zEv_if (fun c1 => ?_) (fun c1 => ?_))
    · replace H := zif_t c1 H
      cases H
      exact K _ _ _
    · replace H := zif_f c1 H
      refine zEv_k 2 (f' := (17, [some (.ref 22), some (.int s.1), some (.int s.2.1), some (.int s.2.2), y4], [.int s.2.2, .ref 22], zhp h)) rfl ?_
      obtain ⟨p2, hp2, H⟩ := zbs H
      refine zEv_c (fun _ => rfl) rfl (t_qCe_lifeOf (oo := 22) (x1 := s.2.2) (h := h) (d := d) (by decide) hp2) rfl rfl ?_
      obtain ⟨v4, hv4, H⟩ := zlets H
      have kv4 : zEv (zXs Ls xs) (d + 1) zm_279 (39, [some (.ref 22), some (.int v4.1), some (.int v4.2), some (.int s.2.2), some (.int p2)], [], zhp h) r := by
        refine zEv_k 2 (f' := (7, [some (.ref 22), some (.int v4.1), some (.int v4.2), some (.int (s.2.2 + 1)), some (.int p2)], [], zhp h)) rfl ?_
        cases H
        exact K _
      clear H
      refine zEv_k 4 (f' := (if p2 = (-1) then 39 else 28, [some (.ref 22), some (.int s.1), some (.int s.2.1), some (.int s.2.2), some (.int p2)], [], zhp h)) rfl (zEv_if (fun c3 => ?_) (fun c3 => ?_))
      · replace hv4 := zif_t c3 hv4
        cases hv4
        exact kv4
      · replace hv4 := zif_f c3 hv4
        refine zEv_k 3 (f' := (if s.2.1 ≤ p2 then 39 else 34, [some (.ref 22), some (.int s.1), some (.int s.2.1), some (.int s.2.2), some (.int p2)], [], zhp h)) rfl (zEv_if (fun c5 => ?_) (fun c5 => ?_))
        · replace hv4 := zif_t c5 hv4
          cases hv4
          exact kv4
        · replace hv4 := zif_f c5 hv4
          refine zEv_k 4 (f' := (39, [some (.ref 22), some (.int s.2.2), some (.int p2), some (.int s.2.2), some (.int p2)], [], zhp h)) rfl ?_
          cases hv4
          exact kv4
theorem t_qLk_earliest_b7 {Ls : Nat} {xs : Nat → Int32} {d : Nat} {oc : Nat} {h : zK} {r : zA} (ho : oc = 7 ∨ oc = 22) {t : Int32} (K : ∀ (z2 : Option Value) (z3 : Option Value) (z4 : Option Value), zEv (zXs Ls xs) (d + 1) zm_279 (45, [some (.ref oc), some (.int t), z2, z3, z4], [], zhp h) r) (n : Nat) (s : Int32 × Int32 × Int32) (H : zloop (qLk_earliest_b7 oc h) n s = some t) (y4 : Option Value) : zEv (zXs Ls xs) (d + 1) zm_279 (7, [some (.ref oc), some (.int s.1), some (.int s.2.1), some (.int s.2.2), y4], [], zhp h) r := by
  have Z := zloop_P (P := fun s => ∀ (y4 : Option Value), zEv (zXs Ls xs) (d + 1) zm_279 (7, [some (.ref oc), some (.int s.1), some (.int s.2.1), some (.int s.2.2), y4], [], zhp h) r) (b := qLk_earliest_b7 oc h) (t := t) (fun s s2 hb hk => by intro y4; exact t_qLk_earliest_b7b ho hb hk y4) (fun s hb => by intro y4; exact t_qLk_earliest_b7b ho hb K y4) n s H
  exact Z y4
def qLk_earliest (oc : Nat) (h : zK) : Option (Int32) :=
  (zloop (qLk_earliest_b7 oc h) zfu (-1, 51, 0)).bind fun t6 =>
  some t6
theorem t_qLk_earliest {Ls : Nat} {xs : Nat → Int32} {d : Nat} {oc : Nat} {h : zK} {p : Int32} (ho : oc = 7 ∨ oc = 22) (H : qLk_earliest oc h = some p) : zEv (zXs Ls xs) (d + 1) zm_279 (0, [some (.ref oc), none, none, none, none], [], zhp h) (some (.int p), zhp h) := by
  unfold qLk_earliest at H
  rcases ho with rfl | rfl
  · refine zEv_k 6 (f' := (7, [some (.ref 7), some (.int (-1)), some (.int 51), some (.int 0), none], [], zhp h)) rfl ?_
    obtain ⟨t6, ht6, H⟩ := zbs H
    refine t_qLk_earliest_b7 (oc := 7) (h := h) (by decide) ?_ zfu _ ht6 _
    intro y2 y3 y4
    refine zEv_k 1 (f' := (46, [some (.ref 7), some (.int t6), y2, y3, y4], [.int t6], zhp h)) rfl ?_
    cases H
    exact zEv_r rfl
  · refine zEv_k 6 (f' := (7, [some (.ref 22), some (.int (-1)), some (.int 51), some (.int 0), none], [], zhp h)) rfl ?_
    obtain ⟨t6, ht6, H⟩ := zbs H
    refine t_qLk_earliest_b7 (oc := 22) (h := h) (by decide) ?_ zfu _ ht6 _
    intro y2 y3 y4
    refine zEv_k 1 (f' := (46, [some (.ref 22), some (.int t6), y2, y3, y4], [.int t6], zhp h)) rfl ?_
    cases H
    exact zEv_r rfl
def qLk_lasting_b4 (oc : Nat) (h : zK) (s : Int32 × Int32) : Option ((Int32 × Int32) ⊕ (Int32)) :=
  if (gI h oc 2) ≤ s.2 then
    some (.inr s.1)
  else
    (qCe_lifeOf oc s.2 h).bind fun p2 =>
    zlet (
        if ¬ p2 = (-1) then
          s.1
        else
          s.1 ||| ((1 : Int32) <<< (s.2 &&& 31))
      ) fun (v4 : Int32) =>
    some (.inl (v4, s.2 + 1))
theorem t_qLk_lasting_b4b {Ls : Nat} {xs : Nat → Int32} {d : Nat} {oc : Nat} {h : zK} {r : zA} {s : Int32 × Int32} {e : (Int32 × Int32) ⊕ (Int32)} (ho : oc = 7 ∨ oc = 22) (H : qLk_lasting_b4 oc h s = some e) (K : match (generalizing := false) e with | .inl s' => zEv (zXs Ls xs) (d + 1) zm_280 (4, [some (.ref oc), some (.int s'.1), some (.int s'.2)], [], zhp h) r | .inr v => ∀ (z2 : Option Value), zEv (zXs Ls xs) (d + 1) zm_280 (33, [some (.ref oc), some (.int v), z2], [], zhp h) r) : zEv (zXs Ls xs) (d + 1) zm_280 (4, [some (.ref oc), some (.int s.1), some (.int s.2)], [], zhp h) r := by
  unfold qLk_lasting_b4 at H
  rcases ho with rfl | rfl
  · refine zEv_k 4 (f' := (if (gI h 7 2) ≤ s.2 then 33 else 12, [some (.ref 7), some (.int s.1), some (.int s.2)], [], zhp h)) rfl (zEv_if (fun c1 => ?_) (fun c1 => ?_))
    · replace H := zif_t c1 H
      cases H
      exact K _
    · replace H := zif_f c1 H
      refine zEv_k 2 (f' := (14, [some (.ref 7), some (.int s.1), some (.int s.2)], [.int s.2, .ref 7], zhp h)) rfl ?_
      obtain ⟨p2, hp2, H⟩ := zbs H
      refine zEv_c (fun _ => rfl) rfl (t_qCe_lifeOf (oo := 7) (x1 := s.2) (h := h) (d := d) (by decide) hp2) rfl rfl ?_
      obtain ⟨v4, hv4, H⟩ := zlets H
      have kv4 : zEv (zXs Ls xs) (d + 1) zm_280 (27, [some (.ref 7), some (.int v4), some (.int s.2)], [], zhp h) r := by
        refine zEv_k 2 (f' := (4, [some (.ref 7), some (.int v4), some (.int (s.2 + 1))], [], zhp h)) rfl ?_
        cases H
        exact K
      clear H
      refine zEv_k 2 (f' := (if ¬ p2 = (-1) then 27 else 21, [some (.ref 7), some (.int s.1), some (.int s.2)], [], zhp h)) rfl (zEv_if (fun c3 => ?_) (fun c3 => ?_))
      · replace hv4 := zif_t c3 hv4
        cases hv4
        exact kv4
      · replace hv4 := zif_f c3 hv4
        refine zEv_k 6 (f' := (27, [some (.ref 7), some (.int (s.1 ||| ((1 : Int32) <<< (s.2 &&& 31)))), some (.int s.2)], [], zhp h)) rfl ?_
        cases hv4
        exact kv4
  · refine zEv_k 4 (f' := (if (gI h 22 2) ≤ s.2 then 33 else 12, [some (.ref 22), some (.int s.1), some (.int s.2)], [], zhp h)) rfl (zEv_if (fun c1 => ?_) (fun c1 => ?_))
    · replace H := zif_t c1 H
      cases H
      exact K _
    · replace H := zif_f c1 H
      refine zEv_k 2 (f' := (14, [some (.ref 22), some (.int s.1), some (.int s.2)], [.int s.2, .ref 22], zhp h)) rfl ?_
      obtain ⟨p2, hp2, H⟩ := zbs H
      refine zEv_c (fun _ => rfl) rfl (t_qCe_lifeOf (oo := 22) (x1 := s.2) (h := h) (d := d) (by decide) hp2) rfl rfl ?_
      obtain ⟨v4, hv4, H⟩ := zlets H
      have kv4 : zEv (zXs Ls xs) (d + 1) zm_280 (27, [some (.ref 22), some (.int v4), some (.int s.2)], [], zhp h) r := by
        refine zEv_k 2 (f' := (4, [some (.ref 22), some (.int v4), some (.int (s.2 + 1))], [], zhp h)) rfl ?_
        cases H
        exact K
      clear H
      refine zEv_k 2 (f' := (if ¬ p2 = (-1) then 27 else 21, [some (.ref 22), some (.int s.1), some (.int s.2)], [], zhp h)) rfl (zEv_if (fun c3 => ?_) (fun c3 => ?_))
      · replace hv4 := zif_t c3 hv4
        cases hv4
        exact kv4
      · replace hv4 := zif_f c3 hv4
        refine zEv_k 6 (f' := (27, [some (.ref 22), some (.int (s.1 ||| ((1 : Int32) <<< (s.2 &&& 31)))), some (.int s.2)], [], zhp h)) rfl ?_
        cases hv4
        exact kv4
theorem t_qLk_lasting_b4 {Ls : Nat} {xs : Nat → Int32} {d : Nat} {oc : Nat} {h : zK} {r : zA} (ho : oc = 7 ∨ oc = 22) {t : Int32} (K : ∀ (z2 : Option Value), zEv (zXs Ls xs) (d + 1) zm_280 (33, [some (.ref oc), some (.int t), z2], [], zhp h) r) (n : Nat) (s : Int32 × Int32) (H : zloop (qLk_lasting_b4 oc h) n s = some t) : zEv (zXs Ls xs) (d + 1) zm_280 (4, [some (.ref oc), some (.int s.1), some (.int s.2)], [], zhp h) r := by
  have Z := zloop_P (P := fun s => zEv (zXs Ls xs) (d + 1) zm_280 (4, [some (.ref oc), some (.int s.1), some (.int s.2)], [], zhp h) r) (b := qLk_lasting_b4 oc h) (t := t) (fun s s2 hb hk => by exact t_qLk_lasting_b4b ho hb hk) (fun s hb => by exact t_qLk_lasting_b4b ho hb K) n s H
  exact Z
def qLk_lasting (oc : Nat) (h : zK) : Option (Int32) :=
  (zloop (qLk_lasting_b4 oc h) zfu (0, 0)).bind fun t5 =>
  some t5
theorem t_qLk_lasting {Ls : Nat} {xs : Nat → Int32} {d : Nat} {oc : Nat} {h : zK} {p : Int32} (ho : oc = 7 ∨ oc = 22) (H : qLk_lasting oc h = some p) : zEv (zXs Ls xs) (d + 1) zm_280 (0, [some (.ref oc), none, none], [], zhp h) (some (.int p), zhp h) := by
  unfold qLk_lasting at H
  rcases ho with rfl | rfl
  · refine zEv_k 4 (f' := (4, [some (.ref 7), some (.int 0), some (.int 0)], [], zhp h)) rfl ?_
    obtain ⟨t5, ht5, H⟩ := zbs H
    refine t_qLk_lasting_b4 (oc := 7) (h := h) (by decide) ?_ zfu _ ht5
    intro y2
    refine zEv_k 1 (f' := (34, [some (.ref 7), some (.int t5), y2], [.int t5], zhp h)) rfl ?_
    cases H
    exact zEv_r rfl
  · refine zEv_k 4 (f' := (4, [some (.ref 22), some (.int 0), some (.int 0)], [], zhp h)) rfl ?_
    obtain ⟨t5, ht5, H⟩ := zbs H
    refine t_qLk_lasting_b4 (oc := 22) (h := h) (by decide) ?_ zfu _ ht5
    intro y2
    refine zEv_k 1 (f' := (34, [some (.ref 22), some (.int t5), y2], [.int t5], zhp h)) rfl ?_
    cases H
    exact zEv_r rfl
def qC_wit (x1 : Int32) (x2 : Int32) (h : zK) : Option (Int32 × zK) :=
  (qT_cellarAt x1 h).bind fun p1 => match p1 with
  | none =>
    some (-2, h)
  | some v2 =>
    if v2 = 7 ∨ v2 = 22 then
      (qTr_lookAt 180 v2 h).bind fun p4 =>
      if x2 = 0 then
        (qLk_wittiest v2 p4).bind fun p5 =>
        some (p5, p4)
      else if x2 = 1 then
        (qLk_witOfAll v2 0 p4).bind fun p6 =>
        some (p6, p4)
      else if x2 = 2 then
        (qLk_liveliest v2 p4).bind fun p7 =>
        some (p7, p4)
      else if x2 = 3 then
        (qTr_ruin 180 v2 p4).bind fun p8 =>
        some (p8, p4)
      else if x2 = 4 then
        (qTr_ruinWit 180 v2 p4).bind fun p9 =>
        some (p9, p4)
      else if x2 = 5 then
        (qLk_closest v2 p4).bind fun p10 =>
        some (p10, p4)
      else if x2 = 6 then
        (qLk_closestGap v2 p4).bind fun p11 =>
        some (p11, p4)
      else if x2 = 7 then
        (qTr_rows 180 p4).bind fun p12 =>
        some (p12, p4)
      else if x2 = 8 then
        (qTr_largestRow 180 p4).bind fun p13 =>
        some (p13, p4)
      else if x2 = 9 then
        (qTr_cut 180 p4).bind fun p14 =>
        some (qIn_bitCount p14, p4)
      else if x2 = 10 then
        (qTr_cut 180 p4).bind fun p15 =>
        some (p15, p4)
      else if x2 = 11 then
        (qLk_goodYear v2 p4).bind fun p16 =>
        some (p16, p4)
      else if x2 = 12 then
        (qLk_mute v2 p4).bind fun p17 =>
        some (p17, p4)
      else if x2 = 13 then
        (qLk_ring v2 p4).bind fun p18 =>
        some (p18, p4)
      else if x2 = 14 then
        (qC_calmYears v2 0 p4).bind fun p19 =>
        some (p19.1, p19.2)
      else if x2 = 15 then
        (qC_calmYears v2 1 p4).bind fun p20 =>
        some (p20.1, p20.2)
      else if x2 = 16 then
        (qTr_pair 180 p4).bind fun p21 =>
        some (p21.1, p21.2)
      else if x2 = 17 then
        (qLk_earliest v2 p4).bind fun p22 =>
        some (p22, p4)
      else if x2 = 18 then
        (qLk_lasting v2 p4).bind fun p23 =>
        some (p23, p4)
      else
        some (-2, p4)
    else none
theorem t_qC_wit {Ls : Nat} {xs : Nat → Int32} {d : Nat} {x1 : Int32} {x2 : Int32} {h : zK} {p : Int32 × zK} (H : qC_wit x1 x2 h = some p) : zEv (zXs Ls xs) (d + 5) zm_133 (0, [some (.ref 0), some (.int x1), some (.int x2), none], [], zhp h) (some (.int p.1), zhp p.2) := by
  unfold qC_wit at H
  refine zEv_k 1 (f' := (1, [some (.ref 0), some (.int x1), some (.int x2), none], [.ref 0], zhp h)) rfl ?_
  refine zRgr rfl rfl rfl (by decide) (b := 1) rfl ?_
  refine zEv_k 1 (f' := (5, [some (.ref 0), some (.int x1), some (.int x2), none], [.int x1, .ref 1], zhp h)) rfl ?_
  obtain ⟨p1, hp1, H⟩ := zbs H
  refine zEv_c (fun _ => rfl) rfl (t_qT_cellarAt (x1 := x1) (h := h) (d := d + 4) hp1) rfl rfl ?_
  rcases p1 with _ | v2
  · dsimp only at H
    refine zEv_k 4 (f' := (15, [some (.ref 0), some (.int x1), some (.int x2), some (.null)], [.int (-2)], zhp h)) rfl ?_
    cases H
    exact zEv_r rfl
  · dsimp only at H
    refine zEv_k 4 (f' := (17, [some (.ref 0), some (.int x1), some (.int x2), some (.ref v2)], [.ref 0], zhp h)) rfl ?_
    refine zRgr rfl rfl rfl (by decide) (b := 180) rfl ?_
    refine zEv_k 1 (f' := (21, [some (.ref 0), some (.int x1), some (.int x2), some (.ref v2)], [.ref v2, .ref 180], zhp h)) rfl ?_
    obtain ⟨c3, H⟩ := zifn H
    rcases c3 with rfl | rfl
    · obtain ⟨p4, hp4, H⟩ := zbs H
      refine zEv_c (fun _ => rfl) rfl (t_qTr_lookAt (oo := 180) (oc := 7) (h := h) (d := d + 2) (by decide) hp4) rfl rfl ?_
      refine zEv_k 1 (f' := (25, [some (.ref 0), some (.int x1), some (.int x2), some (.ref 7)], [.int x2], zhp p4)) rfl ?_
      refine zEv_ts rfl (by decide) (by decide) (by decide) (fun hh => ?_) (fun j hj hh => ?_)
      · replace H := zif_f (fun e => (by rw [e] at hh; exact absurd hh (by decide))) H
        replace H := zif_f (fun e => (by rw [e] at hh; exact absurd hh (by decide))) H
        replace H := zif_f (fun e => (by rw [e] at hh; exact absurd hh (by decide))) H
        replace H := zif_f (fun e => (by rw [e] at hh; exact absurd hh (by decide))) H
        replace H := zif_f (fun e => (by rw [e] at hh; exact absurd hh (by decide))) H
        replace H := zif_f (fun e => (by rw [e] at hh; exact absurd hh (by decide))) H
        replace H := zif_f (fun e => (by rw [e] at hh; exact absurd hh (by decide))) H
        replace H := zif_f (fun e => (by rw [e] at hh; exact absurd hh (by decide))) H
        replace H := zif_f (fun e => (by rw [e] at hh; exact absurd hh (by decide))) H
        replace H := zif_f (fun e => (by rw [e] at hh; exact absurd hh (by decide))) H
        replace H := zif_f (fun e => (by rw [e] at hh; exact absurd hh (by decide))) H
        replace H := zif_f (fun e => (by rw [e] at hh; exact absurd hh (by decide))) H
        replace H := zif_f (fun e => (by rw [e] at hh; exact absurd hh (by decide))) H
        replace H := zif_f (fun e => (by rw [e] at hh; exact absurd hh (by decide))) H
        replace H := zif_f (fun e => (by rw [e] at hh; exact absurd hh (by decide))) H
        replace H := zif_f (fun e => (by rw [e] at hh; exact absurd hh (by decide))) H
        replace H := zif_f (fun e => (by rw [e] at hh; exact absurd hh (by decide))) H
        replace H := zif_f (fun e => (by rw [e] at hh; exact absurd hh (by decide))) H
        replace H := zif_f (fun e => (by rw [e] at hh; exact absurd hh (by decide))) H
        refine zEv_k 1 (f' := (244, [some (.ref 0), some (.int x1), some (.int x2), some (.ref 7)], [.int (-2)], zhp p4)) rfl ?_
        cases H
        exact zEv_r rfl
      · rcases (by have hj2 : j < 19 := hj; omega : j = 0 ∨ j = 1 ∨ j = 2 ∨ j = 3 ∨ j = 4 ∨ j = 5 ∨ j = 6 ∨ j = 7 ∨ j = 8 ∨ j = 9 ∨ j = 10 ∨ j = 11 ∨ j = 12 ∨ j = 13 ∨ j = 14 ∨ j = 15 ∨ j = 16 ∨ j = 17 ∨ j = 18) with rfl | rfl | rfl | rfl | rfl | rfl | rfl | rfl | rfl | rfl | rfl | rfl | rfl | rfl | rfl | rfl | rfl | rfl | rfl
        · have ex : x2 = 0 := zeqI hh (by decide)
          replace H := zif_t ex H
          refine zEv_k 1 (f' := (117, [some (.ref 0), some (.int x1), some (.int x2), some (.ref 7)], [.ref 7], zhp p4)) rfl ?_
          obtain ⟨p5, hp5, H⟩ := zbs H
          refine zEv_c (fun _ => rfl) rfl (t_qLk_wittiest (oc := 7) (h := p4) (d := d + 4) (by decide) hp5) rfl rfl ?_
          cases H
          exact zEv_r rfl
        · have ex : x2 = 1 := zeqI hh (by decide)
          replace H := zif_f (fun e => by rw [ex] at e; exact absurd e (by decide)) H
          replace H := zif_t ex H
          refine zEv_k 2 (f' := (123, [some (.ref 0), some (.int x1), some (.int x2), some (.ref 7)], [.int 0, .ref 7], zhp p4)) rfl ?_
          obtain ⟨p6, hp6, H⟩ := zbs H
          refine zEv_c (fun _ => rfl) rfl (t_qLk_witOfAll (oc := 7) (x1 := 0) (h := p4) (d := d + 3) (by decide) hp6) rfl rfl ?_
          cases H
          exact zEv_r rfl
        · have ex : x2 = 2 := zeqI hh (by decide)
          replace H := zif_f (fun e => by rw [ex] at e; exact absurd e (by decide)) H
          replace H := zif_f (fun e => by rw [ex] at e; exact absurd e (by decide)) H
          replace H := zif_t ex H
          refine zEv_k 1 (f' := (128, [some (.ref 0), some (.int x1), some (.int x2), some (.ref 7)], [.ref 7], zhp p4)) rfl ?_
          obtain ⟨p7, hp7, H⟩ := zbs H
          refine zEv_c (fun _ => rfl) rfl (t_qLk_liveliest (oc := 7) (h := p4) (d := d + 4) (by decide) hp7) rfl rfl ?_
          cases H
          exact zEv_r rfl
        · have ex : x2 = 3 := zeqI hh (by decide)
          replace H := zif_f (fun e => by rw [ex] at e; exact absurd e (by decide)) H
          replace H := zif_f (fun e => by rw [ex] at e; exact absurd e (by decide)) H
          replace H := zif_f (fun e => by rw [ex] at e; exact absurd e (by decide)) H
          replace H := zif_t ex H
          refine zEv_k 1 (f' := (133, [some (.ref 0), some (.int x1), some (.int x2), some (.ref 7)], [.ref 0], zhp p4)) rfl ?_
          refine zRgr rfl rfl rfl (by decide) (b := 180) rfl ?_
          refine zEv_k 1 (f' := (137, [some (.ref 0), some (.int x1), some (.int x2), some (.ref 7)], [.ref 7, .ref 180], zhp p4)) rfl ?_
          obtain ⟨p8, hp8, H⟩ := zbs H
          refine zEv_c (fun _ => rfl) rfl (t_qTr_ruin (oo := 180) (oc := 7) (h := p4) (d := d + 2) (by decide) hp8) rfl rfl ?_
          cases H
          exact zEv_r rfl
        · have ex : x2 = 4 := zeqI hh (by decide)
          replace H := zif_f (fun e => by rw [ex] at e; exact absurd e (by decide)) H
          replace H := zif_f (fun e => by rw [ex] at e; exact absurd e (by decide)) H
          replace H := zif_f (fun e => by rw [ex] at e; exact absurd e (by decide)) H
          replace H := zif_f (fun e => by rw [ex] at e; exact absurd e (by decide)) H
          replace H := zif_t ex H
          refine zEv_k 1 (f' := (142, [some (.ref 0), some (.int x1), some (.int x2), some (.ref 7)], [.ref 0], zhp p4)) rfl ?_
          refine zRgr rfl rfl rfl (by decide) (b := 180) rfl ?_
          refine zEv_k 1 (f' := (146, [some (.ref 0), some (.int x1), some (.int x2), some (.ref 7)], [.ref 7, .ref 180], zhp p4)) rfl ?_
          obtain ⟨p9, hp9, H⟩ := zbs H
          refine zEv_c (fun _ => rfl) rfl (t_qTr_ruinWit (oo := 180) (oc := 7) (h := p4) (d := d + 1) (by decide) hp9) rfl rfl ?_
          cases H
          exact zEv_r rfl
        · have ex : x2 = 5 := zeqI hh (by decide)
          replace H := zif_f (fun e => by rw [ex] at e; exact absurd e (by decide)) H
          replace H := zif_f (fun e => by rw [ex] at e; exact absurd e (by decide)) H
          replace H := zif_f (fun e => by rw [ex] at e; exact absurd e (by decide)) H
          replace H := zif_f (fun e => by rw [ex] at e; exact absurd e (by decide)) H
          replace H := zif_f (fun e => by rw [ex] at e; exact absurd e (by decide)) H
          replace H := zif_t ex H
          refine zEv_k 1 (f' := (151, [some (.ref 0), some (.int x1), some (.int x2), some (.ref 7)], [.ref 7], zhp p4)) rfl ?_
          obtain ⟨p10, hp10, H⟩ := zbs H
          refine zEv_c (fun _ => rfl) rfl (t_qLk_closest (oc := 7) (h := p4) (d := d + 4) (by decide) hp10) rfl rfl ?_
          cases H
          exact zEv_r rfl
        · have ex : x2 = 6 := zeqI hh (by decide)
          replace H := zif_f (fun e => by rw [ex] at e; exact absurd e (by decide)) H
          replace H := zif_f (fun e => by rw [ex] at e; exact absurd e (by decide)) H
          replace H := zif_f (fun e => by rw [ex] at e; exact absurd e (by decide)) H
          replace H := zif_f (fun e => by rw [ex] at e; exact absurd e (by decide)) H
          replace H := zif_f (fun e => by rw [ex] at e; exact absurd e (by decide)) H
          replace H := zif_f (fun e => by rw [ex] at e; exact absurd e (by decide)) H
          replace H := zif_t ex H
          refine zEv_k 1 (f' := (156, [some (.ref 0), some (.int x1), some (.int x2), some (.ref 7)], [.ref 7], zhp p4)) rfl ?_
          obtain ⟨p11, hp11, H⟩ := zbs H
          refine zEv_c (fun _ => rfl) rfl (t_qLk_closestGap (oc := 7) (h := p4) (d := d + 3) (by decide) hp11) rfl rfl ?_
          cases H
          exact zEv_r rfl
        · have ex : x2 = 7 := zeqI hh (by decide)
          replace H := zif_f (fun e => by rw [ex] at e; exact absurd e (by decide)) H
          replace H := zif_f (fun e => by rw [ex] at e; exact absurd e (by decide)) H
          replace H := zif_f (fun e => by rw [ex] at e; exact absurd e (by decide)) H
          replace H := zif_f (fun e => by rw [ex] at e; exact absurd e (by decide)) H
          replace H := zif_f (fun e => by rw [ex] at e; exact absurd e (by decide)) H
          replace H := zif_f (fun e => by rw [ex] at e; exact absurd e (by decide)) H
          replace H := zif_f (fun e => by rw [ex] at e; exact absurd e (by decide)) H
          replace H := zif_t ex H
          refine zEv_k 1 (f' := (161, [some (.ref 0), some (.int x1), some (.int x2), some (.ref 7)], [.ref 0], zhp p4)) rfl ?_
          refine zRgr rfl rfl rfl (by decide) (b := 180) rfl ?_
          obtain ⟨p12, hp12, H⟩ := zbs H
          refine zEv_c (fun _ => rfl) rfl (t_qTr_rows (oo := 180) (h := p4) (d := d + 2) (by decide) hp12) rfl rfl ?_
          cases H
          exact zEv_r rfl
        · have ex : x2 = 8 := zeqI hh (by decide)
          replace H := zif_f (fun e => by rw [ex] at e; exact absurd e (by decide)) H
          replace H := zif_f (fun e => by rw [ex] at e; exact absurd e (by decide)) H
          replace H := zif_f (fun e => by rw [ex] at e; exact absurd e (by decide)) H
          replace H := zif_f (fun e => by rw [ex] at e; exact absurd e (by decide)) H
          replace H := zif_f (fun e => by rw [ex] at e; exact absurd e (by decide)) H
          replace H := zif_f (fun e => by rw [ex] at e; exact absurd e (by decide)) H
          replace H := zif_f (fun e => by rw [ex] at e; exact absurd e (by decide)) H
          replace H := zif_f (fun e => by rw [ex] at e; exact absurd e (by decide)) H
          replace H := zif_t ex H
          refine zEv_k 1 (f' := (169, [some (.ref 0), some (.int x1), some (.int x2), some (.ref 7)], [.ref 0], zhp p4)) rfl ?_
          refine zRgr rfl rfl rfl (by decide) (b := 180) rfl ?_
          obtain ⟨p13, hp13, H⟩ := zbs H
          refine zEv_c (fun _ => rfl) rfl (t_qTr_largestRow (oo := 180) (h := p4) (d := d + 2) (by decide) hp13) rfl rfl ?_
          cases H
          exact zEv_r rfl
        · have ex : x2 = 9 := zeqI hh (by decide)
          replace H := zif_f (fun e => by rw [ex] at e; exact absurd e (by decide)) H
          replace H := zif_f (fun e => by rw [ex] at e; exact absurd e (by decide)) H
          replace H := zif_f (fun e => by rw [ex] at e; exact absurd e (by decide)) H
          replace H := zif_f (fun e => by rw [ex] at e; exact absurd e (by decide)) H
          replace H := zif_f (fun e => by rw [ex] at e; exact absurd e (by decide)) H
          replace H := zif_f (fun e => by rw [ex] at e; exact absurd e (by decide)) H
          replace H := zif_f (fun e => by rw [ex] at e; exact absurd e (by decide)) H
          replace H := zif_f (fun e => by rw [ex] at e; exact absurd e (by decide)) H
          replace H := zif_f (fun e => by rw [ex] at e; exact absurd e (by decide)) H
          replace H := zif_t ex H
          refine zEv_k 1 (f' := (177, [some (.ref 0), some (.int x1), some (.int x2), some (.ref 7)], [.ref 0], zhp p4)) rfl ?_
          refine zRgr rfl rfl rfl (by decide) (b := 180) rfl ?_
          obtain ⟨p14, hp14, H⟩ := zbs H
          refine zEv_c (fun _ => rfl) rfl (t_qTr_cut (oo := 180) (h := p4) (d := d + 2) (by decide) hp14) rfl rfl ?_
          refine zEv_c (fun _ => rfl) rfl (t_qIn_bitCount (x0 := p14) (h := p4) (d := d + 4) rfl) rfl rfl ?_
          cases H
          exact zEv_r rfl
        · have ex : x2 = 10 := zeqI hh (by decide)
          replace H := zif_f (fun e => by rw [ex] at e; exact absurd e (by decide)) H
          replace H := zif_f (fun e => by rw [ex] at e; exact absurd e (by decide)) H
          replace H := zif_f (fun e => by rw [ex] at e; exact absurd e (by decide)) H
          replace H := zif_f (fun e => by rw [ex] at e; exact absurd e (by decide)) H
          replace H := zif_f (fun e => by rw [ex] at e; exact absurd e (by decide)) H
          replace H := zif_f (fun e => by rw [ex] at e; exact absurd e (by decide)) H
          replace H := zif_f (fun e => by rw [ex] at e; exact absurd e (by decide)) H
          replace H := zif_f (fun e => by rw [ex] at e; exact absurd e (by decide)) H
          replace H := zif_f (fun e => by rw [ex] at e; exact absurd e (by decide)) H
          replace H := zif_f (fun e => by rw [ex] at e; exact absurd e (by decide)) H
          replace H := zif_t ex H
          refine zEv_k 1 (f' := (188, [some (.ref 0), some (.int x1), some (.int x2), some (.ref 7)], [.ref 0], zhp p4)) rfl ?_
          refine zRgr rfl rfl rfl (by decide) (b := 180) rfl ?_
          obtain ⟨p15, hp15, H⟩ := zbs H
          refine zEv_c (fun _ => rfl) rfl (t_qTr_cut (oo := 180) (h := p4) (d := d + 2) (by decide) hp15) rfl rfl ?_
          cases H
          exact zEv_r rfl
        · have ex : x2 = 11 := zeqI hh (by decide)
          replace H := zif_f (fun e => by rw [ex] at e; exact absurd e (by decide)) H
          replace H := zif_f (fun e => by rw [ex] at e; exact absurd e (by decide)) H
          replace H := zif_f (fun e => by rw [ex] at e; exact absurd e (by decide)) H
          replace H := zif_f (fun e => by rw [ex] at e; exact absurd e (by decide)) H
          replace H := zif_f (fun e => by rw [ex] at e; exact absurd e (by decide)) H
          replace H := zif_f (fun e => by rw [ex] at e; exact absurd e (by decide)) H
          replace H := zif_f (fun e => by rw [ex] at e; exact absurd e (by decide)) H
          replace H := zif_f (fun e => by rw [ex] at e; exact absurd e (by decide)) H
          replace H := zif_f (fun e => by rw [ex] at e; exact absurd e (by decide)) H
          replace H := zif_f (fun e => by rw [ex] at e; exact absurd e (by decide)) H
          replace H := zif_f (fun e => by rw [ex] at e; exact absurd e (by decide)) H
          replace H := zif_t ex H
          refine zEv_k 1 (f' := (196, [some (.ref 0), some (.int x1), some (.int x2), some (.ref 7)], [.ref 7], zhp p4)) rfl ?_
          obtain ⟨p16, hp16, H⟩ := zbs H
          refine zEv_c (fun _ => rfl) rfl (t_qLk_goodYear (oc := 7) (h := p4) (d := d + 2) (by decide) hp16) rfl rfl ?_
          cases H
          exact zEv_r rfl
        · have ex : x2 = 12 := zeqI hh (by decide)
          replace H := zif_f (fun e => by rw [ex] at e; exact absurd e (by decide)) H
          replace H := zif_f (fun e => by rw [ex] at e; exact absurd e (by decide)) H
          replace H := zif_f (fun e => by rw [ex] at e; exact absurd e (by decide)) H
          replace H := zif_f (fun e => by rw [ex] at e; exact absurd e (by decide)) H
          replace H := zif_f (fun e => by rw [ex] at e; exact absurd e (by decide)) H
          replace H := zif_f (fun e => by rw [ex] at e; exact absurd e (by decide)) H
          replace H := zif_f (fun e => by rw [ex] at e; exact absurd e (by decide)) H
          replace H := zif_f (fun e => by rw [ex] at e; exact absurd e (by decide)) H
          replace H := zif_f (fun e => by rw [ex] at e; exact absurd e (by decide)) H
          replace H := zif_f (fun e => by rw [ex] at e; exact absurd e (by decide)) H
          replace H := zif_f (fun e => by rw [ex] at e; exact absurd e (by decide)) H
          replace H := zif_f (fun e => by rw [ex] at e; exact absurd e (by decide)) H
          replace H := zif_t ex H
          refine zEv_k 1 (f' := (201, [some (.ref 0), some (.int x1), some (.int x2), some (.ref 7)], [.ref 7], zhp p4)) rfl ?_
          obtain ⟨p17, hp17, H⟩ := zbs H
          refine zEv_c (fun _ => rfl) rfl (t_qLk_mute (oc := 7) (h := p4) (d := d + 3) (by decide) hp17) rfl rfl ?_
          cases H
          exact zEv_r rfl
        · have ex : x2 = 13 := zeqI hh (by decide)
          replace H := zif_f (fun e => by rw [ex] at e; exact absurd e (by decide)) H
          replace H := zif_f (fun e => by rw [ex] at e; exact absurd e (by decide)) H
          replace H := zif_f (fun e => by rw [ex] at e; exact absurd e (by decide)) H
          replace H := zif_f (fun e => by rw [ex] at e; exact absurd e (by decide)) H
          replace H := zif_f (fun e => by rw [ex] at e; exact absurd e (by decide)) H
          replace H := zif_f (fun e => by rw [ex] at e; exact absurd e (by decide)) H
          replace H := zif_f (fun e => by rw [ex] at e; exact absurd e (by decide)) H
          replace H := zif_f (fun e => by rw [ex] at e; exact absurd e (by decide)) H
          replace H := zif_f (fun e => by rw [ex] at e; exact absurd e (by decide)) H
          replace H := zif_f (fun e => by rw [ex] at e; exact absurd e (by decide)) H
          replace H := zif_f (fun e => by rw [ex] at e; exact absurd e (by decide)) H
          replace H := zif_f (fun e => by rw [ex] at e; exact absurd e (by decide)) H
          replace H := zif_f (fun e => by rw [ex] at e; exact absurd e (by decide)) H
          replace H := zif_t ex H
          refine zEv_k 1 (f' := (206, [some (.ref 0), some (.int x1), some (.int x2), some (.ref 7)], [.ref 7], zhp p4)) rfl ?_
          obtain ⟨p18, hp18, H⟩ := zbs H
          refine zEv_c (fun _ => rfl) rfl (t_qLk_ring (oc := 7) (h := p4) (d := d + 2) (by decide) hp18) rfl rfl ?_
          cases H
          exact zEv_r rfl
        · have ex : x2 = 14 := zeqI hh (by decide)
          replace H := zif_f (fun e => by rw [ex] at e; exact absurd e (by decide)) H
          replace H := zif_f (fun e => by rw [ex] at e; exact absurd e (by decide)) H
          replace H := zif_f (fun e => by rw [ex] at e; exact absurd e (by decide)) H
          replace H := zif_f (fun e => by rw [ex] at e; exact absurd e (by decide)) H
          replace H := zif_f (fun e => by rw [ex] at e; exact absurd e (by decide)) H
          replace H := zif_f (fun e => by rw [ex] at e; exact absurd e (by decide)) H
          replace H := zif_f (fun e => by rw [ex] at e; exact absurd e (by decide)) H
          replace H := zif_f (fun e => by rw [ex] at e; exact absurd e (by decide)) H
          replace H := zif_f (fun e => by rw [ex] at e; exact absurd e (by decide)) H
          replace H := zif_f (fun e => by rw [ex] at e; exact absurd e (by decide)) H
          replace H := zif_f (fun e => by rw [ex] at e; exact absurd e (by decide)) H
          replace H := zif_f (fun e => by rw [ex] at e; exact absurd e (by decide)) H
          replace H := zif_f (fun e => by rw [ex] at e; exact absurd e (by decide)) H
          replace H := zif_f (fun e => by rw [ex] at e; exact absurd e (by decide)) H
          replace H := zif_t ex H
          refine zEv_k 3 (f' := (213, [some (.ref 0), some (.int x1), some (.int x2), some (.ref 7)], [.int 0, .ref 7, .ref 0], zhp p4)) rfl ?_
          obtain ⟨p19, hp19, H⟩ := zbs H
          refine zEv_c (fun _ => rfl) rfl (t_qC_calmYears (oc := 7) (x2 := 0) (h := p4) (d := d) (by decide) hp19) rfl rfl ?_
          cases H
          exact zEv_r rfl
        · have ex : x2 = 15 := zeqI hh (by decide)
          replace H := zif_f (fun e => by rw [ex] at e; exact absurd e (by decide)) H
          replace H := zif_f (fun e => by rw [ex] at e; exact absurd e (by decide)) H
          replace H := zif_f (fun e => by rw [ex] at e; exact absurd e (by decide)) H
          replace H := zif_f (fun e => by rw [ex] at e; exact absurd e (by decide)) H
          replace H := zif_f (fun e => by rw [ex] at e; exact absurd e (by decide)) H
          replace H := zif_f (fun e => by rw [ex] at e; exact absurd e (by decide)) H
          replace H := zif_f (fun e => by rw [ex] at e; exact absurd e (by decide)) H
          replace H := zif_f (fun e => by rw [ex] at e; exact absurd e (by decide)) H
          replace H := zif_f (fun e => by rw [ex] at e; exact absurd e (by decide)) H
          replace H := zif_f (fun e => by rw [ex] at e; exact absurd e (by decide)) H
          replace H := zif_f (fun e => by rw [ex] at e; exact absurd e (by decide)) H
          replace H := zif_f (fun e => by rw [ex] at e; exact absurd e (by decide)) H
          replace H := zif_f (fun e => by rw [ex] at e; exact absurd e (by decide)) H
          replace H := zif_f (fun e => by rw [ex] at e; exact absurd e (by decide)) H
          replace H := zif_f (fun e => by rw [ex] at e; exact absurd e (by decide)) H
          replace H := zif_t ex H
          refine zEv_k 3 (f' := (220, [some (.ref 0), some (.int x1), some (.int x2), some (.ref 7)], [.int 1, .ref 7, .ref 0], zhp p4)) rfl ?_
          obtain ⟨p20, hp20, H⟩ := zbs H
          refine zEv_c (fun _ => rfl) rfl (t_qC_calmYears (oc := 7) (x2 := 1) (h := p4) (d := d) (by decide) hp20) rfl rfl ?_
          cases H
          exact zEv_r rfl
        · have ex : x2 = 16 := zeqI hh (by decide)
          replace H := zif_f (fun e => by rw [ex] at e; exact absurd e (by decide)) H
          replace H := zif_f (fun e => by rw [ex] at e; exact absurd e (by decide)) H
          replace H := zif_f (fun e => by rw [ex] at e; exact absurd e (by decide)) H
          replace H := zif_f (fun e => by rw [ex] at e; exact absurd e (by decide)) H
          replace H := zif_f (fun e => by rw [ex] at e; exact absurd e (by decide)) H
          replace H := zif_f (fun e => by rw [ex] at e; exact absurd e (by decide)) H
          replace H := zif_f (fun e => by rw [ex] at e; exact absurd e (by decide)) H
          replace H := zif_f (fun e => by rw [ex] at e; exact absurd e (by decide)) H
          replace H := zif_f (fun e => by rw [ex] at e; exact absurd e (by decide)) H
          replace H := zif_f (fun e => by rw [ex] at e; exact absurd e (by decide)) H
          replace H := zif_f (fun e => by rw [ex] at e; exact absurd e (by decide)) H
          replace H := zif_f (fun e => by rw [ex] at e; exact absurd e (by decide)) H
          replace H := zif_f (fun e => by rw [ex] at e; exact absurd e (by decide)) H
          replace H := zif_f (fun e => by rw [ex] at e; exact absurd e (by decide)) H
          replace H := zif_f (fun e => by rw [ex] at e; exact absurd e (by decide)) H
          replace H := zif_f (fun e => by rw [ex] at e; exact absurd e (by decide)) H
          replace H := zif_t ex H
          refine zEv_k 1 (f' := (225, [some (.ref 0), some (.int x1), some (.int x2), some (.ref 7)], [.ref 0], zhp p4)) rfl ?_
          refine zRgr rfl rfl rfl (by decide) (b := 180) rfl ?_
          obtain ⟨p21, hp21, H⟩ := zbs H
          refine zEv_c (fun _ => rfl) rfl (t_qTr_pair (oo := 180) (h := p4) (d := d + 1) (by decide) hp21) rfl rfl ?_
          cases H
          exact zEv_r rfl
        · have ex : x2 = 17 := zeqI hh (by decide)
          replace H := zif_f (fun e => by rw [ex] at e; exact absurd e (by decide)) H
          replace H := zif_f (fun e => by rw [ex] at e; exact absurd e (by decide)) H
          replace H := zif_f (fun e => by rw [ex] at e; exact absurd e (by decide)) H
          replace H := zif_f (fun e => by rw [ex] at e; exact absurd e (by decide)) H
          replace H := zif_f (fun e => by rw [ex] at e; exact absurd e (by decide)) H
          replace H := zif_f (fun e => by rw [ex] at e; exact absurd e (by decide)) H
          replace H := zif_f (fun e => by rw [ex] at e; exact absurd e (by decide)) H
          replace H := zif_f (fun e => by rw [ex] at e; exact absurd e (by decide)) H
          replace H := zif_f (fun e => by rw [ex] at e; exact absurd e (by decide)) H
          replace H := zif_f (fun e => by rw [ex] at e; exact absurd e (by decide)) H
          replace H := zif_f (fun e => by rw [ex] at e; exact absurd e (by decide)) H
          replace H := zif_f (fun e => by rw [ex] at e; exact absurd e (by decide)) H
          replace H := zif_f (fun e => by rw [ex] at e; exact absurd e (by decide)) H
          replace H := zif_f (fun e => by rw [ex] at e; exact absurd e (by decide)) H
          replace H := zif_f (fun e => by rw [ex] at e; exact absurd e (by decide)) H
          replace H := zif_f (fun e => by rw [ex] at e; exact absurd e (by decide)) H
          replace H := zif_f (fun e => by rw [ex] at e; exact absurd e (by decide)) H
          replace H := zif_t ex H
          refine zEv_k 1 (f' := (233, [some (.ref 0), some (.int x1), some (.int x2), some (.ref 7)], [.ref 7], zhp p4)) rfl ?_
          obtain ⟨p22, hp22, H⟩ := zbs H
          refine zEv_c (fun _ => rfl) rfl (t_qLk_earliest (oc := 7) (h := p4) (d := d + 3) (by decide) hp22) rfl rfl ?_
          cases H
          exact zEv_r rfl
        · have ex : x2 = 18 := zeqI hh (by decide)
          replace H := zif_f (fun e => by rw [ex] at e; exact absurd e (by decide)) H
          replace H := zif_f (fun e => by rw [ex] at e; exact absurd e (by decide)) H
          replace H := zif_f (fun e => by rw [ex] at e; exact absurd e (by decide)) H
          replace H := zif_f (fun e => by rw [ex] at e; exact absurd e (by decide)) H
          replace H := zif_f (fun e => by rw [ex] at e; exact absurd e (by decide)) H
          replace H := zif_f (fun e => by rw [ex] at e; exact absurd e (by decide)) H
          replace H := zif_f (fun e => by rw [ex] at e; exact absurd e (by decide)) H
          replace H := zif_f (fun e => by rw [ex] at e; exact absurd e (by decide)) H
          replace H := zif_f (fun e => by rw [ex] at e; exact absurd e (by decide)) H
          replace H := zif_f (fun e => by rw [ex] at e; exact absurd e (by decide)) H
          replace H := zif_f (fun e => by rw [ex] at e; exact absurd e (by decide)) H
          replace H := zif_f (fun e => by rw [ex] at e; exact absurd e (by decide)) H
          replace H := zif_f (fun e => by rw [ex] at e; exact absurd e (by decide)) H
          replace H := zif_f (fun e => by rw [ex] at e; exact absurd e (by decide)) H
          replace H := zif_f (fun e => by rw [ex] at e; exact absurd e (by decide)) H
          replace H := zif_f (fun e => by rw [ex] at e; exact absurd e (by decide)) H
          replace H := zif_f (fun e => by rw [ex] at e; exact absurd e (by decide)) H
          replace H := zif_f (fun e => by rw [ex] at e; exact absurd e (by decide)) H
          replace H := zif_t ex H
          refine zEv_k 1 (f' := (238, [some (.ref 0), some (.int x1), some (.int x2), some (.ref 7)], [.ref 7], zhp p4)) rfl ?_
          obtain ⟨p23, hp23, H⟩ := zbs H
          refine zEv_c (fun _ => rfl) rfl (t_qLk_lasting (oc := 7) (h := p4) (d := d + 3) (by decide) hp23) rfl rfl ?_
          cases H
          exact zEv_r rfl
    · obtain ⟨p4, hp4, H⟩ := zbs H
      refine zEv_c (fun _ => rfl) rfl (t_qTr_lookAt (oo := 180) (oc := 22) (h := h) (d := d + 2) (by decide) hp4) rfl rfl ?_
      refine zEv_k 1 (f' := (25, [some (.ref 0), some (.int x1), some (.int x2), some (.ref 22)], [.int x2], zhp p4)) rfl ?_
      refine zEv_ts rfl (by decide) (by decide) (by decide) (fun hh => ?_) (fun j hj hh => ?_)
      · replace H := zif_f (fun e => (by rw [e] at hh; exact absurd hh (by decide))) H
        replace H := zif_f (fun e => (by rw [e] at hh; exact absurd hh (by decide))) H
        replace H := zif_f (fun e => (by rw [e] at hh; exact absurd hh (by decide))) H
        replace H := zif_f (fun e => (by rw [e] at hh; exact absurd hh (by decide))) H
        replace H := zif_f (fun e => (by rw [e] at hh; exact absurd hh (by decide))) H
        replace H := zif_f (fun e => (by rw [e] at hh; exact absurd hh (by decide))) H
        replace H := zif_f (fun e => (by rw [e] at hh; exact absurd hh (by decide))) H
        replace H := zif_f (fun e => (by rw [e] at hh; exact absurd hh (by decide))) H
        replace H := zif_f (fun e => (by rw [e] at hh; exact absurd hh (by decide))) H
        replace H := zif_f (fun e => (by rw [e] at hh; exact absurd hh (by decide))) H
        replace H := zif_f (fun e => (by rw [e] at hh; exact absurd hh (by decide))) H
        replace H := zif_f (fun e => (by rw [e] at hh; exact absurd hh (by decide))) H
        replace H := zif_f (fun e => (by rw [e] at hh; exact absurd hh (by decide))) H
        replace H := zif_f (fun e => (by rw [e] at hh; exact absurd hh (by decide))) H
        replace H := zif_f (fun e => (by rw [e] at hh; exact absurd hh (by decide))) H
        replace H := zif_f (fun e => (by rw [e] at hh; exact absurd hh (by decide))) H
        replace H := zif_f (fun e => (by rw [e] at hh; exact absurd hh (by decide))) H
        replace H := zif_f (fun e => (by rw [e] at hh; exact absurd hh (by decide))) H
        replace H := zif_f (fun e => (by rw [e] at hh; exact absurd hh (by decide))) H
        refine zEv_k 1 (f' := (244, [some (.ref 0), some (.int x1), some (.int x2), some (.ref 22)], [.int (-2)], zhp p4)) rfl ?_
        cases H
        exact zEv_r rfl
      · rcases (by have hj2 : j < 19 := hj; omega : j = 0 ∨ j = 1 ∨ j = 2 ∨ j = 3 ∨ j = 4 ∨ j = 5 ∨ j = 6 ∨ j = 7 ∨ j = 8 ∨ j = 9 ∨ j = 10 ∨ j = 11 ∨ j = 12 ∨ j = 13 ∨ j = 14 ∨ j = 15 ∨ j = 16 ∨ j = 17 ∨ j = 18) with rfl | rfl | rfl | rfl | rfl | rfl | rfl | rfl | rfl | rfl | rfl | rfl | rfl | rfl | rfl | rfl | rfl | rfl | rfl
        · have ex : x2 = 0 := zeqI hh (by decide)
          replace H := zif_t ex H
          refine zEv_k 1 (f' := (117, [some (.ref 0), some (.int x1), some (.int x2), some (.ref 22)], [.ref 22], zhp p4)) rfl ?_
          obtain ⟨p5, hp5, H⟩ := zbs H
          refine zEv_c (fun _ => rfl) rfl (t_qLk_wittiest (oc := 22) (h := p4) (d := d + 4) (by decide) hp5) rfl rfl ?_
          cases H
          exact zEv_r rfl
        · have ex : x2 = 1 := zeqI hh (by decide)
          replace H := zif_f (fun e => by rw [ex] at e; exact absurd e (by decide)) H
          replace H := zif_t ex H
          refine zEv_k 2 (f' := (123, [some (.ref 0), some (.int x1), some (.int x2), some (.ref 22)], [.int 0, .ref 22], zhp p4)) rfl ?_
          obtain ⟨p6, hp6, H⟩ := zbs H
          refine zEv_c (fun _ => rfl) rfl (t_qLk_witOfAll (oc := 22) (x1 := 0) (h := p4) (d := d + 3) (by decide) hp6) rfl rfl ?_
          cases H
          exact zEv_r rfl
        · have ex : x2 = 2 := zeqI hh (by decide)
          replace H := zif_f (fun e => by rw [ex] at e; exact absurd e (by decide)) H
          replace H := zif_f (fun e => by rw [ex] at e; exact absurd e (by decide)) H
          replace H := zif_t ex H
          refine zEv_k 1 (f' := (128, [some (.ref 0), some (.int x1), some (.int x2), some (.ref 22)], [.ref 22], zhp p4)) rfl ?_
          obtain ⟨p7, hp7, H⟩ := zbs H
          refine zEv_c (fun _ => rfl) rfl (t_qLk_liveliest (oc := 22) (h := p4) (d := d + 4) (by decide) hp7) rfl rfl ?_
          cases H
          exact zEv_r rfl
        · have ex : x2 = 3 := zeqI hh (by decide)
          replace H := zif_f (fun e => by rw [ex] at e; exact absurd e (by decide)) H
          replace H := zif_f (fun e => by rw [ex] at e; exact absurd e (by decide)) H
          replace H := zif_f (fun e => by rw [ex] at e; exact absurd e (by decide)) H
          replace H := zif_t ex H
          refine zEv_k 1 (f' := (133, [some (.ref 0), some (.int x1), some (.int x2), some (.ref 22)], [.ref 0], zhp p4)) rfl ?_
          refine zRgr rfl rfl rfl (by decide) (b := 180) rfl ?_
          refine zEv_k 1 (f' := (137, [some (.ref 0), some (.int x1), some (.int x2), some (.ref 22)], [.ref 22, .ref 180], zhp p4)) rfl ?_
          obtain ⟨p8, hp8, H⟩ := zbs H
          refine zEv_c (fun _ => rfl) rfl (t_qTr_ruin (oo := 180) (oc := 22) (h := p4) (d := d + 2) (by decide) hp8) rfl rfl ?_
          cases H
          exact zEv_r rfl
        · have ex : x2 = 4 := zeqI hh (by decide)
          replace H := zif_f (fun e => by rw [ex] at e; exact absurd e (by decide)) H
          replace H := zif_f (fun e => by rw [ex] at e; exact absurd e (by decide)) H
          replace H := zif_f (fun e => by rw [ex] at e; exact absurd e (by decide)) H
          replace H := zif_f (fun e => by rw [ex] at e; exact absurd e (by decide)) H
          replace H := zif_t ex H
          refine zEv_k 1 (f' := (142, [some (.ref 0), some (.int x1), some (.int x2), some (.ref 22)], [.ref 0], zhp p4)) rfl ?_
          refine zRgr rfl rfl rfl (by decide) (b := 180) rfl ?_
          refine zEv_k 1 (f' := (146, [some (.ref 0), some (.int x1), some (.int x2), some (.ref 22)], [.ref 22, .ref 180], zhp p4)) rfl ?_
          obtain ⟨p9, hp9, H⟩ := zbs H
          refine zEv_c (fun _ => rfl) rfl (t_qTr_ruinWit (oo := 180) (oc := 22) (h := p4) (d := d + 1) (by decide) hp9) rfl rfl ?_
          cases H
          exact zEv_r rfl
        · have ex : x2 = 5 := zeqI hh (by decide)
          replace H := zif_f (fun e => by rw [ex] at e; exact absurd e (by decide)) H
          replace H := zif_f (fun e => by rw [ex] at e; exact absurd e (by decide)) H
          replace H := zif_f (fun e => by rw [ex] at e; exact absurd e (by decide)) H
          replace H := zif_f (fun e => by rw [ex] at e; exact absurd e (by decide)) H
          replace H := zif_f (fun e => by rw [ex] at e; exact absurd e (by decide)) H
          replace H := zif_t ex H
          refine zEv_k 1 (f' := (151, [some (.ref 0), some (.int x1), some (.int x2), some (.ref 22)], [.ref 22], zhp p4)) rfl ?_
          obtain ⟨p10, hp10, H⟩ := zbs H
          refine zEv_c (fun _ => rfl) rfl (t_qLk_closest (oc := 22) (h := p4) (d := d + 4) (by decide) hp10) rfl rfl ?_
          cases H
          exact zEv_r rfl
        · have ex : x2 = 6 := zeqI hh (by decide)
          replace H := zif_f (fun e => by rw [ex] at e; exact absurd e (by decide)) H
          replace H := zif_f (fun e => by rw [ex] at e; exact absurd e (by decide)) H
          replace H := zif_f (fun e => by rw [ex] at e; exact absurd e (by decide)) H
          replace H := zif_f (fun e => by rw [ex] at e; exact absurd e (by decide)) H
          replace H := zif_f (fun e => by rw [ex] at e; exact absurd e (by decide)) H
          replace H := zif_f (fun e => by rw [ex] at e; exact absurd e (by decide)) H
          replace H := zif_t ex H
          refine zEv_k 1 (f' := (156, [some (.ref 0), some (.int x1), some (.int x2), some (.ref 22)], [.ref 22], zhp p4)) rfl ?_
          obtain ⟨p11, hp11, H⟩ := zbs H
          refine zEv_c (fun _ => rfl) rfl (t_qLk_closestGap (oc := 22) (h := p4) (d := d + 3) (by decide) hp11) rfl rfl ?_
          cases H
          exact zEv_r rfl
        · have ex : x2 = 7 := zeqI hh (by decide)
          replace H := zif_f (fun e => by rw [ex] at e; exact absurd e (by decide)) H
          replace H := zif_f (fun e => by rw [ex] at e; exact absurd e (by decide)) H
          replace H := zif_f (fun e => by rw [ex] at e; exact absurd e (by decide)) H
          replace H := zif_f (fun e => by rw [ex] at e; exact absurd e (by decide)) H
          replace H := zif_f (fun e => by rw [ex] at e; exact absurd e (by decide)) H
          replace H := zif_f (fun e => by rw [ex] at e; exact absurd e (by decide)) H
          replace H := zif_f (fun e => by rw [ex] at e; exact absurd e (by decide)) H
          replace H := zif_t ex H
          refine zEv_k 1 (f' := (161, [some (.ref 0), some (.int x1), some (.int x2), some (.ref 22)], [.ref 0], zhp p4)) rfl ?_
          refine zRgr rfl rfl rfl (by decide) (b := 180) rfl ?_
          obtain ⟨p12, hp12, H⟩ := zbs H
          refine zEv_c (fun _ => rfl) rfl (t_qTr_rows (oo := 180) (h := p4) (d := d + 2) (by decide) hp12) rfl rfl ?_
          cases H
          exact zEv_r rfl
        · have ex : x2 = 8 := zeqI hh (by decide)
          replace H := zif_f (fun e => by rw [ex] at e; exact absurd e (by decide)) H
          replace H := zif_f (fun e => by rw [ex] at e; exact absurd e (by decide)) H
          replace H := zif_f (fun e => by rw [ex] at e; exact absurd e (by decide)) H
          replace H := zif_f (fun e => by rw [ex] at e; exact absurd e (by decide)) H
          replace H := zif_f (fun e => by rw [ex] at e; exact absurd e (by decide)) H
          replace H := zif_f (fun e => by rw [ex] at e; exact absurd e (by decide)) H
          replace H := zif_f (fun e => by rw [ex] at e; exact absurd e (by decide)) H
          replace H := zif_f (fun e => by rw [ex] at e; exact absurd e (by decide)) H
          replace H := zif_t ex H
          refine zEv_k 1 (f' := (169, [some (.ref 0), some (.int x1), some (.int x2), some (.ref 22)], [.ref 0], zhp p4)) rfl ?_
          refine zRgr rfl rfl rfl (by decide) (b := 180) rfl ?_
          obtain ⟨p13, hp13, H⟩ := zbs H
          refine zEv_c (fun _ => rfl) rfl (t_qTr_largestRow (oo := 180) (h := p4) (d := d + 2) (by decide) hp13) rfl rfl ?_
          cases H
          exact zEv_r rfl
        · have ex : x2 = 9 := zeqI hh (by decide)
          replace H := zif_f (fun e => by rw [ex] at e; exact absurd e (by decide)) H
          replace H := zif_f (fun e => by rw [ex] at e; exact absurd e (by decide)) H
          replace H := zif_f (fun e => by rw [ex] at e; exact absurd e (by decide)) H
          replace H := zif_f (fun e => by rw [ex] at e; exact absurd e (by decide)) H
          replace H := zif_f (fun e => by rw [ex] at e; exact absurd e (by decide)) H
          replace H := zif_f (fun e => by rw [ex] at e; exact absurd e (by decide)) H
          replace H := zif_f (fun e => by rw [ex] at e; exact absurd e (by decide)) H
          replace H := zif_f (fun e => by rw [ex] at e; exact absurd e (by decide)) H
          replace H := zif_f (fun e => by rw [ex] at e; exact absurd e (by decide)) H
          replace H := zif_t ex H
          refine zEv_k 1 (f' := (177, [some (.ref 0), some (.int x1), some (.int x2), some (.ref 22)], [.ref 0], zhp p4)) rfl ?_
          refine zRgr rfl rfl rfl (by decide) (b := 180) rfl ?_
          obtain ⟨p14, hp14, H⟩ := zbs H
          refine zEv_c (fun _ => rfl) rfl (t_qTr_cut (oo := 180) (h := p4) (d := d + 2) (by decide) hp14) rfl rfl ?_
          refine zEv_c (fun _ => rfl) rfl (t_qIn_bitCount (x0 := p14) (h := p4) (d := d + 4) rfl) rfl rfl ?_
          cases H
          exact zEv_r rfl
        · have ex : x2 = 10 := zeqI hh (by decide)
          replace H := zif_f (fun e => by rw [ex] at e; exact absurd e (by decide)) H
          replace H := zif_f (fun e => by rw [ex] at e; exact absurd e (by decide)) H
          replace H := zif_f (fun e => by rw [ex] at e; exact absurd e (by decide)) H
          replace H := zif_f (fun e => by rw [ex] at e; exact absurd e (by decide)) H
          replace H := zif_f (fun e => by rw [ex] at e; exact absurd e (by decide)) H
          replace H := zif_f (fun e => by rw [ex] at e; exact absurd e (by decide)) H
          replace H := zif_f (fun e => by rw [ex] at e; exact absurd e (by decide)) H
          replace H := zif_f (fun e => by rw [ex] at e; exact absurd e (by decide)) H
          replace H := zif_f (fun e => by rw [ex] at e; exact absurd e (by decide)) H
          replace H := zif_f (fun e => by rw [ex] at e; exact absurd e (by decide)) H
          replace H := zif_t ex H
          refine zEv_k 1 (f' := (188, [some (.ref 0), some (.int x1), some (.int x2), some (.ref 22)], [.ref 0], zhp p4)) rfl ?_
          refine zRgr rfl rfl rfl (by decide) (b := 180) rfl ?_
          obtain ⟨p15, hp15, H⟩ := zbs H
          refine zEv_c (fun _ => rfl) rfl (t_qTr_cut (oo := 180) (h := p4) (d := d + 2) (by decide) hp15) rfl rfl ?_
          cases H
          exact zEv_r rfl
        · have ex : x2 = 11 := zeqI hh (by decide)
          replace H := zif_f (fun e => by rw [ex] at e; exact absurd e (by decide)) H
          replace H := zif_f (fun e => by rw [ex] at e; exact absurd e (by decide)) H
          replace H := zif_f (fun e => by rw [ex] at e; exact absurd e (by decide)) H
          replace H := zif_f (fun e => by rw [ex] at e; exact absurd e (by decide)) H
          replace H := zif_f (fun e => by rw [ex] at e; exact absurd e (by decide)) H
          replace H := zif_f (fun e => by rw [ex] at e; exact absurd e (by decide)) H
          replace H := zif_f (fun e => by rw [ex] at e; exact absurd e (by decide)) H
          replace H := zif_f (fun e => by rw [ex] at e; exact absurd e (by decide)) H
          replace H := zif_f (fun e => by rw [ex] at e; exact absurd e (by decide)) H
          replace H := zif_f (fun e => by rw [ex] at e; exact absurd e (by decide)) H
          replace H := zif_f (fun e => by rw [ex] at e; exact absurd e (by decide)) H
          replace H := zif_t ex H
          refine zEv_k 1 (f' := (196, [some (.ref 0), some (.int x1), some (.int x2), some (.ref 22)], [.ref 22], zhp p4)) rfl ?_
          obtain ⟨p16, hp16, H⟩ := zbs H
          refine zEv_c (fun _ => rfl) rfl (t_qLk_goodYear (oc := 22) (h := p4) (d := d + 2) (by decide) hp16) rfl rfl ?_
          cases H
          exact zEv_r rfl
        · have ex : x2 = 12 := zeqI hh (by decide)
          replace H := zif_f (fun e => by rw [ex] at e; exact absurd e (by decide)) H
          replace H := zif_f (fun e => by rw [ex] at e; exact absurd e (by decide)) H
          replace H := zif_f (fun e => by rw [ex] at e; exact absurd e (by decide)) H
          replace H := zif_f (fun e => by rw [ex] at e; exact absurd e (by decide)) H
          replace H := zif_f (fun e => by rw [ex] at e; exact absurd e (by decide)) H
          replace H := zif_f (fun e => by rw [ex] at e; exact absurd e (by decide)) H
          replace H := zif_f (fun e => by rw [ex] at e; exact absurd e (by decide)) H
          replace H := zif_f (fun e => by rw [ex] at e; exact absurd e (by decide)) H
          replace H := zif_f (fun e => by rw [ex] at e; exact absurd e (by decide)) H
          replace H := zif_f (fun e => by rw [ex] at e; exact absurd e (by decide)) H
          replace H := zif_f (fun e => by rw [ex] at e; exact absurd e (by decide)) H
          replace H := zif_f (fun e => by rw [ex] at e; exact absurd e (by decide)) H
          replace H := zif_t ex H
          refine zEv_k 1 (f' := (201, [some (.ref 0), some (.int x1), some (.int x2), some (.ref 22)], [.ref 22], zhp p4)) rfl ?_
          obtain ⟨p17, hp17, H⟩ := zbs H
          refine zEv_c (fun _ => rfl) rfl (t_qLk_mute (oc := 22) (h := p4) (d := d + 3) (by decide) hp17) rfl rfl ?_
          cases H
          exact zEv_r rfl
        · have ex : x2 = 13 := zeqI hh (by decide)
          replace H := zif_f (fun e => by rw [ex] at e; exact absurd e (by decide)) H
          replace H := zif_f (fun e => by rw [ex] at e; exact absurd e (by decide)) H
          replace H := zif_f (fun e => by rw [ex] at e; exact absurd e (by decide)) H
          replace H := zif_f (fun e => by rw [ex] at e; exact absurd e (by decide)) H
          replace H := zif_f (fun e => by rw [ex] at e; exact absurd e (by decide)) H
          replace H := zif_f (fun e => by rw [ex] at e; exact absurd e (by decide)) H
          replace H := zif_f (fun e => by rw [ex] at e; exact absurd e (by decide)) H
          replace H := zif_f (fun e => by rw [ex] at e; exact absurd e (by decide)) H
          replace H := zif_f (fun e => by rw [ex] at e; exact absurd e (by decide)) H
          replace H := zif_f (fun e => by rw [ex] at e; exact absurd e (by decide)) H
          replace H := zif_f (fun e => by rw [ex] at e; exact absurd e (by decide)) H
          replace H := zif_f (fun e => by rw [ex] at e; exact absurd e (by decide)) H
          replace H := zif_f (fun e => by rw [ex] at e; exact absurd e (by decide)) H
          replace H := zif_t ex H
          refine zEv_k 1 (f' := (206, [some (.ref 0), some (.int x1), some (.int x2), some (.ref 22)], [.ref 22], zhp p4)) rfl ?_
          obtain ⟨p18, hp18, H⟩ := zbs H
          refine zEv_c (fun _ => rfl) rfl (t_qLk_ring (oc := 22) (h := p4) (d := d + 2) (by decide) hp18) rfl rfl ?_
          cases H
          exact zEv_r rfl
        · have ex : x2 = 14 := zeqI hh (by decide)
          replace H := zif_f (fun e => by rw [ex] at e; exact absurd e (by decide)) H
          replace H := zif_f (fun e => by rw [ex] at e; exact absurd e (by decide)) H
          replace H := zif_f (fun e => by rw [ex] at e; exact absurd e (by decide)) H
          replace H := zif_f (fun e => by rw [ex] at e; exact absurd e (by decide)) H
          replace H := zif_f (fun e => by rw [ex] at e; exact absurd e (by decide)) H
          replace H := zif_f (fun e => by rw [ex] at e; exact absurd e (by decide)) H
          replace H := zif_f (fun e => by rw [ex] at e; exact absurd e (by decide)) H
          replace H := zif_f (fun e => by rw [ex] at e; exact absurd e (by decide)) H
          replace H := zif_f (fun e => by rw [ex] at e; exact absurd e (by decide)) H
          replace H := zif_f (fun e => by rw [ex] at e; exact absurd e (by decide)) H
          replace H := zif_f (fun e => by rw [ex] at e; exact absurd e (by decide)) H
          replace H := zif_f (fun e => by rw [ex] at e; exact absurd e (by decide)) H
          replace H := zif_f (fun e => by rw [ex] at e; exact absurd e (by decide)) H
          replace H := zif_f (fun e => by rw [ex] at e; exact absurd e (by decide)) H
          replace H := zif_t ex H
          refine zEv_k 3 (f' := (213, [some (.ref 0), some (.int x1), some (.int x2), some (.ref 22)], [.int 0, .ref 22, .ref 0], zhp p4)) rfl ?_
          obtain ⟨p19, hp19, H⟩ := zbs H
          refine zEv_c (fun _ => rfl) rfl (t_qC_calmYears (oc := 22) (x2 := 0) (h := p4) (d := d) (by decide) hp19) rfl rfl ?_
          cases H
          exact zEv_r rfl
        · have ex : x2 = 15 := zeqI hh (by decide)
          replace H := zif_f (fun e => by rw [ex] at e; exact absurd e (by decide)) H
          replace H := zif_f (fun e => by rw [ex] at e; exact absurd e (by decide)) H
          replace H := zif_f (fun e => by rw [ex] at e; exact absurd e (by decide)) H
          replace H := zif_f (fun e => by rw [ex] at e; exact absurd e (by decide)) H
          replace H := zif_f (fun e => by rw [ex] at e; exact absurd e (by decide)) H
          replace H := zif_f (fun e => by rw [ex] at e; exact absurd e (by decide)) H
          replace H := zif_f (fun e => by rw [ex] at e; exact absurd e (by decide)) H
          replace H := zif_f (fun e => by rw [ex] at e; exact absurd e (by decide)) H
          replace H := zif_f (fun e => by rw [ex] at e; exact absurd e (by decide)) H
          replace H := zif_f (fun e => by rw [ex] at e; exact absurd e (by decide)) H
          replace H := zif_f (fun e => by rw [ex] at e; exact absurd e (by decide)) H
          replace H := zif_f (fun e => by rw [ex] at e; exact absurd e (by decide)) H
          replace H := zif_f (fun e => by rw [ex] at e; exact absurd e (by decide)) H
          replace H := zif_f (fun e => by rw [ex] at e; exact absurd e (by decide)) H
          replace H := zif_f (fun e => by rw [ex] at e; exact absurd e (by decide)) H
          replace H := zif_t ex H
          refine zEv_k 3 (f' := (220, [some (.ref 0), some (.int x1), some (.int x2), some (.ref 22)], [.int 1, .ref 22, .ref 0], zhp p4)) rfl ?_
          obtain ⟨p20, hp20, H⟩ := zbs H
          refine zEv_c (fun _ => rfl) rfl (t_qC_calmYears (oc := 22) (x2 := 1) (h := p4) (d := d) (by decide) hp20) rfl rfl ?_
          cases H
          exact zEv_r rfl
        · have ex : x2 = 16 := zeqI hh (by decide)
          replace H := zif_f (fun e => by rw [ex] at e; exact absurd e (by decide)) H
          replace H := zif_f (fun e => by rw [ex] at e; exact absurd e (by decide)) H
          replace H := zif_f (fun e => by rw [ex] at e; exact absurd e (by decide)) H
          replace H := zif_f (fun e => by rw [ex] at e; exact absurd e (by decide)) H
          replace H := zif_f (fun e => by rw [ex] at e; exact absurd e (by decide)) H
          replace H := zif_f (fun e => by rw [ex] at e; exact absurd e (by decide)) H
          replace H := zif_f (fun e => by rw [ex] at e; exact absurd e (by decide)) H
          replace H := zif_f (fun e => by rw [ex] at e; exact absurd e (by decide)) H
          replace H := zif_f (fun e => by rw [ex] at e; exact absurd e (by decide)) H
          replace H := zif_f (fun e => by rw [ex] at e; exact absurd e (by decide)) H
          replace H := zif_f (fun e => by rw [ex] at e; exact absurd e (by decide)) H
          replace H := zif_f (fun e => by rw [ex] at e; exact absurd e (by decide)) H
          replace H := zif_f (fun e => by rw [ex] at e; exact absurd e (by decide)) H
          replace H := zif_f (fun e => by rw [ex] at e; exact absurd e (by decide)) H
          replace H := zif_f (fun e => by rw [ex] at e; exact absurd e (by decide)) H
          replace H := zif_f (fun e => by rw [ex] at e; exact absurd e (by decide)) H
          replace H := zif_t ex H
          refine zEv_k 1 (f' := (225, [some (.ref 0), some (.int x1), some (.int x2), some (.ref 22)], [.ref 0], zhp p4)) rfl ?_
          refine zRgr rfl rfl rfl (by decide) (b := 180) rfl ?_
          obtain ⟨p21, hp21, H⟩ := zbs H
          refine zEv_c (fun _ => rfl) rfl (t_qTr_pair (oo := 180) (h := p4) (d := d + 1) (by decide) hp21) rfl rfl ?_
          cases H
          exact zEv_r rfl
        · have ex : x2 = 17 := zeqI hh (by decide)
          replace H := zif_f (fun e => by rw [ex] at e; exact absurd e (by decide)) H
          replace H := zif_f (fun e => by rw [ex] at e; exact absurd e (by decide)) H
          replace H := zif_f (fun e => by rw [ex] at e; exact absurd e (by decide)) H
          replace H := zif_f (fun e => by rw [ex] at e; exact absurd e (by decide)) H
          replace H := zif_f (fun e => by rw [ex] at e; exact absurd e (by decide)) H
          replace H := zif_f (fun e => by rw [ex] at e; exact absurd e (by decide)) H
          replace H := zif_f (fun e => by rw [ex] at e; exact absurd e (by decide)) H
          replace H := zif_f (fun e => by rw [ex] at e; exact absurd e (by decide)) H
          replace H := zif_f (fun e => by rw [ex] at e; exact absurd e (by decide)) H
          replace H := zif_f (fun e => by rw [ex] at e; exact absurd e (by decide)) H
          replace H := zif_f (fun e => by rw [ex] at e; exact absurd e (by decide)) H
          replace H := zif_f (fun e => by rw [ex] at e; exact absurd e (by decide)) H
          replace H := zif_f (fun e => by rw [ex] at e; exact absurd e (by decide)) H
          replace H := zif_f (fun e => by rw [ex] at e; exact absurd e (by decide)) H
          replace H := zif_f (fun e => by rw [ex] at e; exact absurd e (by decide)) H
          replace H := zif_f (fun e => by rw [ex] at e; exact absurd e (by decide)) H
          replace H := zif_f (fun e => by rw [ex] at e; exact absurd e (by decide)) H
          replace H := zif_t ex H
          refine zEv_k 1 (f' := (233, [some (.ref 0), some (.int x1), some (.int x2), some (.ref 22)], [.ref 22], zhp p4)) rfl ?_
          obtain ⟨p22, hp22, H⟩ := zbs H
          refine zEv_c (fun _ => rfl) rfl (t_qLk_earliest (oc := 22) (h := p4) (d := d + 3) (by decide) hp22) rfl rfl ?_
          cases H
          exact zEv_r rfl
        · have ex : x2 = 18 := zeqI hh (by decide)
          replace H := zif_f (fun e => by rw [ex] at e; exact absurd e (by decide)) H
          replace H := zif_f (fun e => by rw [ex] at e; exact absurd e (by decide)) H
          replace H := zif_f (fun e => by rw [ex] at e; exact absurd e (by decide)) H
          replace H := zif_f (fun e => by rw [ex] at e; exact absurd e (by decide)) H
          replace H := zif_f (fun e => by rw [ex] at e; exact absurd e (by decide)) H
          replace H := zif_f (fun e => by rw [ex] at e; exact absurd e (by decide)) H
          replace H := zif_f (fun e => by rw [ex] at e; exact absurd e (by decide)) H
          replace H := zif_f (fun e => by rw [ex] at e; exact absurd e (by decide)) H
          replace H := zif_f (fun e => by rw [ex] at e; exact absurd e (by decide)) H
          replace H := zif_f (fun e => by rw [ex] at e; exact absurd e (by decide)) H
          replace H := zif_f (fun e => by rw [ex] at e; exact absurd e (by decide)) H
          replace H := zif_f (fun e => by rw [ex] at e; exact absurd e (by decide)) H
          replace H := zif_f (fun e => by rw [ex] at e; exact absurd e (by decide)) H
          replace H := zif_f (fun e => by rw [ex] at e; exact absurd e (by decide)) H
          replace H := zif_f (fun e => by rw [ex] at e; exact absurd e (by decide)) H
          replace H := zif_f (fun e => by rw [ex] at e; exact absurd e (by decide)) H
          replace H := zif_f (fun e => by rw [ex] at e; exact absurd e (by decide)) H
          replace H := zif_f (fun e => by rw [ex] at e; exact absurd e (by decide)) H
          replace H := zif_t ex H
          refine zEv_k 1 (f' := (238, [some (.ref 0), some (.int x1), some (.int x2), some (.ref 22)], [.ref 22], zhp p4)) rfl ?_
          obtain ⟨p23, hp23, H⟩ := zbs H
          refine zEv_c (fun _ => rfl) rfl (t_qLk_lasting (oc := 22) (h := p4) (d := d + 3) (by decide) hp23) rfl rfl ?_
          cases H
          exact zEv_r rfl
def qLk_witless_b4 (oc : Nat) (x1 : Int32) (h : zK) (s : Int32 × Int32) : Option ((Int32 × Int32) ⊕ (Int32)) :=
  if (gI h oc 2) ≤ s.2 then
    some (.inr s.1)
  else
    (qCe_witIn oc s.2 x1 h).bind fun p2 =>
    zlet (
        if ¬ p2 = 0 then
          s.1
        else
          s.1 + 1
      ) fun (v4 : Int32) =>
    some (.inl (v4, s.2 + 1))
theorem t_qLk_witless_b4b {Ls : Nat} {xs : Nat → Int32} {d : Nat} {oc : Nat} {x1 : Int32} {h : zK} {r : zA} {s : Int32 × Int32} {e : (Int32 × Int32) ⊕ (Int32)} (ho : oc = 7 ∨ oc = 22) (H : qLk_witless_b4 oc x1 h s = some e) (K : match (generalizing := false) e with | .inl s' => zEv (zXs Ls xs) (d + 1) zm_275 (4, [some (.ref oc), some (.int x1), some (.int s'.1), some (.int s'.2)], [], zhp h) r | .inr v => ∀ (z3 : Option Value), zEv (zXs Ls xs) (d + 1) zm_275 (30, [some (.ref oc), some (.int x1), some (.int v), z3], [], zhp h) r) : zEv (zXs Ls xs) (d + 1) zm_275 (4, [some (.ref oc), some (.int x1), some (.int s.1), some (.int s.2)], [], zhp h) r := by
  unfold qLk_witless_b4 at H
  rcases ho with rfl | rfl
  · refine zEv_k 4 (f' := (if (gI h 7 2) ≤ s.2 then 30 else 12, [some (.ref 7), some (.int x1), some (.int s.1), some (.int s.2)], [], zhp h)) rfl (zEv_if (fun c1 => ?_) (fun c1 => ?_))
    · replace H := zif_t c1 H
      cases H
      exact K _
    · replace H := zif_f c1 H
      refine zEv_k 3 (f' := (15, [some (.ref 7), some (.int x1), some (.int s.1), some (.int s.2)], [.int x1, .int s.2, .ref 7], zhp h)) rfl ?_
      obtain ⟨p2, hp2, H⟩ := zbs H
      refine zEv_c (fun _ => rfl) rfl (t_qCe_witIn (oo := 7) (x1 := s.2) (x2 := x1) (h := h) (d := d) (by decide) hp2) rfl rfl ?_
      obtain ⟨v4, hv4, H⟩ := zlets H
      have kv4 : zEv (zXs Ls xs) (d + 1) zm_275 (24, [some (.ref 7), some (.int x1), some (.int v4), some (.int s.2)], [], zhp h) r := by
        refine zEv_k 2 (f' := (4, [some (.ref 7), some (.int x1), some (.int v4), some (.int (s.2 + 1))], [], zhp h)) rfl ?_
        cases H
        exact K
      clear H
      refine zEv_k 1 (f' := (if ¬ p2 = 0 then 24 else 21, [some (.ref 7), some (.int x1), some (.int s.1), some (.int s.2)], [], zhp h)) rfl (zEv_if (fun c3 => ?_) (fun c3 => ?_))
      · replace hv4 := zif_t c3 hv4
        cases hv4
        exact kv4
      · replace hv4 := zif_f c3 hv4
        refine zEv_k 1 (f' := (24, [some (.ref 7), some (.int x1), some (.int (s.1 + 1)), some (.int s.2)], [], zhp h)) rfl ?_
        cases hv4
        exact kv4
  · refine zEv_k 4 (f' := (if (gI h 22 2) ≤ s.2 then 30 else 12, [some (.ref 22), some (.int x1), some (.int s.1), some (.int s.2)], [], zhp h)) rfl (zEv_if (fun c1 => ?_) (fun c1 => ?_))
    · replace H := zif_t c1 H
      cases H
      exact K _
    · replace H := zif_f c1 H
      refine zEv_k 3 (f' := (15, [some (.ref 22), some (.int x1), some (.int s.1), some (.int s.2)], [.int x1, .int s.2, .ref 22], zhp h)) rfl ?_
      obtain ⟨p2, hp2, H⟩ := zbs H
      refine zEv_c (fun _ => rfl) rfl (t_qCe_witIn (oo := 22) (x1 := s.2) (x2 := x1) (h := h) (d := d) (by decide) hp2) rfl rfl ?_
      obtain ⟨v4, hv4, H⟩ := zlets H
      have kv4 : zEv (zXs Ls xs) (d + 1) zm_275 (24, [some (.ref 22), some (.int x1), some (.int v4), some (.int s.2)], [], zhp h) r := by
        refine zEv_k 2 (f' := (4, [some (.ref 22), some (.int x1), some (.int v4), some (.int (s.2 + 1))], [], zhp h)) rfl ?_
        cases H
        exact K
      clear H
      refine zEv_k 1 (f' := (if ¬ p2 = 0 then 24 else 21, [some (.ref 22), some (.int x1), some (.int s.1), some (.int s.2)], [], zhp h)) rfl (zEv_if (fun c3 => ?_) (fun c3 => ?_))
      · replace hv4 := zif_t c3 hv4
        cases hv4
        exact kv4
      · replace hv4 := zif_f c3 hv4
        refine zEv_k 1 (f' := (24, [some (.ref 22), some (.int x1), some (.int (s.1 + 1)), some (.int s.2)], [], zhp h)) rfl ?_
        cases hv4
        exact kv4
theorem t_qLk_witless_b4 {Ls : Nat} {xs : Nat → Int32} {d : Nat} {oc : Nat} {x1 : Int32} {h : zK} {r : zA} (ho : oc = 7 ∨ oc = 22) {t : Int32} (K : ∀ (z3 : Option Value), zEv (zXs Ls xs) (d + 1) zm_275 (30, [some (.ref oc), some (.int x1), some (.int t), z3], [], zhp h) r) (n : Nat) (s : Int32 × Int32) (H : zloop (qLk_witless_b4 oc x1 h) n s = some t) : zEv (zXs Ls xs) (d + 1) zm_275 (4, [some (.ref oc), some (.int x1), some (.int s.1), some (.int s.2)], [], zhp h) r := by
  have Z := zloop_P (P := fun s => zEv (zXs Ls xs) (d + 1) zm_275 (4, [some (.ref oc), some (.int x1), some (.int s.1), some (.int s.2)], [], zhp h) r) (b := qLk_witless_b4 oc x1 h) (t := t) (fun s s2 hb hk => by exact t_qLk_witless_b4b ho hb hk) (fun s hb => by exact t_qLk_witless_b4b ho hb K) n s H
  exact Z
def qLk_witless (oc : Nat) (x1 : Int32) (h : zK) : Option (Int32) :=
  (zloop (qLk_witless_b4 oc x1 h) zfu (0, 0)).bind fun t5 =>
  some t5
theorem t_qLk_witless {Ls : Nat} {xs : Nat → Int32} {d : Nat} {oc : Nat} {x1 : Int32} {h : zK} {p : Int32} (ho : oc = 7 ∨ oc = 22) (H : qLk_witless oc x1 h = some p) : zEv (zXs Ls xs) (d + 1) zm_275 (0, [some (.ref oc), some (.int x1), none, none], [], zhp h) (some (.int p), zhp h) := by
  unfold qLk_witless at H
  rcases ho with rfl | rfl
  · refine zEv_k 4 (f' := (4, [some (.ref 7), some (.int x1), some (.int 0), some (.int 0)], [], zhp h)) rfl ?_
    obtain ⟨t5, ht5, H⟩ := zbs H
    refine t_qLk_witless_b4 (oc := 7) (x1 := x1) (h := h) (by decide) ?_ zfu _ ht5
    intro y3
    refine zEv_k 1 (f' := (31, [some (.ref 7), some (.int x1), some (.int t5), y3], [.int t5], zhp h)) rfl ?_
    cases H
    exact zEv_r rfl
  · refine zEv_k 4 (f' := (4, [some (.ref 22), some (.int x1), some (.int 0), some (.int 0)], [], zhp h)) rfl ?_
    obtain ⟨t5, ht5, H⟩ := zbs H
    refine t_qLk_witless_b4 (oc := 22) (x1 := x1) (h := h) (by decide) ?_ zfu _ ht5
    intro y3
    refine zEv_k 1 (f' := (31, [some (.ref 22), some (.int x1), some (.int t5), y3], [.int t5], zhp h)) rfl ?_
    cases H
    exact zEv_r rfl
def qC_flat (x1 : Int32) (x2 : Int32) (h : zK) : Option (Int32) :=
  (qT_cellarAt x1 h).bind fun p1 => match p1 with
  | none =>
    some (-1)
  | some v2 =>
    if x2 < 0 then
      some (-1)
    else
      if x2 ≤ 50 then
        if v2 = 7 ∨ v2 = 22 then
          (qLk_witless v2 x2 h).bind fun p6 =>
          some p6
        else none
      else
        some (-1)
theorem t_qC_flat {Ls : Nat} {xs : Nat → Int32} {d : Nat} {x1 : Int32} {x2 : Int32} {h : zK} {p : Int32} (H : qC_flat x1 x2 h = some p) : zEv (zXs Ls xs) (d + 2) zm_134 (0, [some (.ref 0), some (.int x1), some (.int x2), none], [], zhp h) (some (.int p), zhp h) := by
  unfold qC_flat at H
  refine zEv_k 1 (f' := (1, [some (.ref 0), some (.int x1), some (.int x2), none], [.ref 0], zhp h)) rfl ?_
  refine zRgr rfl rfl rfl (by decide) (b := 1) rfl ?_
  refine zEv_k 1 (f' := (5, [some (.ref 0), some (.int x1), some (.int x2), none], [.int x1, .ref 1], zhp h)) rfl ?_
  obtain ⟨p1, hp1, H⟩ := zbs H
  refine zEv_c (fun _ => rfl) rfl (t_qT_cellarAt (x1 := x1) (h := h) (d := d + 1) hp1) rfl rfl ?_
  rcases p1 with _ | v2
  · dsimp only at H
    refine zEv_k 4 (f' := (24, [some (.ref 0), some (.int x1), some (.int x2), some (.null)], [.int (-1)], zhp h)) rfl ?_
    cases H
    exact zEv_r rfl
  · dsimp only at H
    refine zEv_k 5 (f' := (if x2 < 0 then 23 else 17, [some (.ref 0), some (.int x1), some (.int x2), some (.ref v2)], [], zhp h)) rfl (zEv_if (fun c3 => ?_) (fun c3 => ?_))
    · replace H := zif_t c3 H
      refine zEv_k 1 (f' := (24, [some (.ref 0), some (.int x1), some (.int x2), some (.ref v2)], [.int (-1)], zhp h)) rfl ?_
      cases H
      exact zEv_r rfl
    · replace H := zif_f c3 H
      refine zEv_k 3 (f' := (if x2 ≤ 50 then 25 else 23, [some (.ref 0), some (.int x1), some (.int x2), some (.ref v2)], [], zhp h)) rfl (zEv_if (fun c4 => ?_) (fun c4 => ?_))
      · replace H := zif_t c4 H
        refine zEv_k 2 (f' := (27, [some (.ref 0), some (.int x1), some (.int x2), some (.ref v2)], [.int x2, .ref v2], zhp h)) rfl ?_
        obtain ⟨c5, H⟩ := zifn H
        rcases c5 with rfl | rfl
        · obtain ⟨p6, hp6, H⟩ := zbs H
          refine zEv_c (fun _ => rfl) rfl (t_qLk_witless (oc := 7) (x1 := x2) (h := h) (d := d) (by decide) hp6) rfl rfl ?_
          cases H
          exact zEv_r rfl
        · obtain ⟨p6, hp6, H⟩ := zbs H
          refine zEv_c (fun _ => rfl) rfl (t_qLk_witless (oc := 22) (x1 := x2) (h := h) (d := d) (by decide) hp6) rfl rfl ?_
          cases H
          exact zEv_r rfl
      · replace H := zif_f c4 H
        refine zEv_k 1 (f' := (24, [some (.ref 0), some (.int x1), some (.int x2), some (.ref v2)], [.int (-1)], zhp h)) rfl ?_
        cases H
        exact zEv_r rfl
def qC_next (x1 : Int32) (x2 : Int32) (h : zK) : Option (Int32 × zK) :=
  (qT_cellarAt x1 h).bind fun p1 => match p1 with
  | none =>
    some (-1, h)
  | some v2 =>
    if x2 < 1 then
      some (-1, h)
    else
      if x2 ≤ 50 then
        if v2 = 7 ∨ v2 = 22 then
          (qRu_begin 166 v2 h).bind fun p6 =>
          (qRu_passYears 166 x2 p6).bind fun p7 =>
          (zix x2 51).bind fun j8 =>
          some (gI p7 167 j8, p7)
        else none
      else
        some (-1, h)
theorem t_qC_next {Ls : Nat} {xs : Nat → Int32} {d : Nat} {x1 : Int32} {x2 : Int32} {h : zK} {p : Int32 × zK} (H : qC_next x1 x2 h = some p) : zEv (zXs Ls xs) (d + 4) zm_135 (0, [some (.ref 0), some (.int x1), some (.int x2), none], [], zhp h) (some (.int p.1), zhp p.2) := by
  unfold qC_next at H
  refine zEv_k 1 (f' := (1, [some (.ref 0), some (.int x1), some (.int x2), none], [.ref 0], zhp h)) rfl ?_
  refine zRgr rfl rfl rfl (by decide) (b := 1) rfl ?_
  refine zEv_k 1 (f' := (5, [some (.ref 0), some (.int x1), some (.int x2), none], [.int x1, .ref 1], zhp h)) rfl ?_
  obtain ⟨p1, hp1, H⟩ := zbs H
  refine zEv_c (fun _ => rfl) rfl (t_qT_cellarAt (x1 := x1) (h := h) (d := d + 3) hp1) rfl rfl ?_
  rcases p1 with _ | v2
  · dsimp only at H
    refine zEv_k 4 (f' := (25, [some (.ref 0), some (.int x1), some (.int x2), some (.null)], [.int (-1)], zhp h)) rfl ?_
    cases H
    exact zEv_r rfl
  · dsimp only at H
    refine zEv_k 6 (f' := (if x2 < 1 then 24 else 18, [some (.ref 0), some (.int x1), some (.int x2), some (.ref v2)], [], zhp h)) rfl (zEv_if (fun c3 => ?_) (fun c3 => ?_))
    · replace H := zif_t c3 H
      refine zEv_k 1 (f' := (25, [some (.ref 0), some (.int x1), some (.int x2), some (.ref v2)], [.int (-1)], zhp h)) rfl ?_
      cases H
      exact zEv_r rfl
    · replace H := zif_f c3 H
      refine zEv_k 3 (f' := (if x2 ≤ 50 then 26 else 24, [some (.ref 0), some (.int x1), some (.int x2), some (.ref v2)], [], zhp h)) rfl (zEv_if (fun c4 => ?_) (fun c4 => ?_))
      · replace H := zif_t c4 H
        refine zEv_k 1 (f' := (27, [some (.ref 0), some (.int x1), some (.int x2), some (.ref v2)], [.ref 0], zhp h)) rfl ?_
        refine zRgr rfl rfl rfl (by decide) (b := 166) rfl ?_
        refine zEv_k 1 (f' := (31, [some (.ref 0), some (.int x1), some (.int x2), some (.ref v2)], [.ref v2, .ref 166], zhp h)) rfl ?_
        obtain ⟨c5, H⟩ := zifn H
        rcases c5 with rfl | rfl
        · obtain ⟨p6, hp6, H⟩ := zbs H
          refine zEv_c (fun _ => rfl) rfl (t_qRu_begin (oo := 166) (oc := 7) (h := h) (d := d + 3) (by decide) hp6) rfl rfl ?_
          refine zEv_k 1 (f' := (35, [some (.ref 0), some (.int x1), some (.int x2), some (.ref 7)], [.ref 0], zhp p6)) rfl ?_
          refine zRgr rfl rfl rfl (by decide) (b := 166) rfl ?_
          refine zEv_k 1 (f' := (39, [some (.ref 0), some (.int x1), some (.int x2), some (.ref 7)], [.int x2, .ref 166], zhp p6)) rfl ?_
          obtain ⟨p7, hp7, H⟩ := zbs H
          refine zEv_c (fun _ => rfl) rfl (t_qRu_passYears (oo := 166) (x1 := x2) (h := p6) (d := d) (by decide) hp7) rfl rfl ?_
          refine zEv_k 1 (f' := (43, [some (.ref 0), some (.int x1), some (.int x2), some (.ref 7)], [.ref 0], zhp p7)) rfl ?_
          refine zRgr rfl rfl rfl (by decide) (b := 166) rfl ?_
          refine zRgr rfl rfl rfl (by decide) (b := 167) rfl ?_
          refine zEv_k 1 (f' := (50, [some (.ref 0), some (.int x1), some (.int x2), some (.ref 7)], [.int x2, .ref 167], zhp p7)) rfl ?_
          obtain ⟨j8, hj8, H⟩ := zbs H
          refine zRia rfl rfl (by decide) hj8 ?_
          cases H
          exact zEv_r rfl
        · obtain ⟨p6, hp6, H⟩ := zbs H
          refine zEv_c (fun _ => rfl) rfl (t_qRu_begin (oo := 166) (oc := 22) (h := h) (d := d + 3) (by decide) hp6) rfl rfl ?_
          refine zEv_k 1 (f' := (35, [some (.ref 0), some (.int x1), some (.int x2), some (.ref 22)], [.ref 0], zhp p6)) rfl ?_
          refine zRgr rfl rfl rfl (by decide) (b := 166) rfl ?_
          refine zEv_k 1 (f' := (39, [some (.ref 0), some (.int x1), some (.int x2), some (.ref 22)], [.int x2, .ref 166], zhp p6)) rfl ?_
          obtain ⟨p7, hp7, H⟩ := zbs H
          refine zEv_c (fun _ => rfl) rfl (t_qRu_passYears (oo := 166) (x1 := x2) (h := p6) (d := d) (by decide) hp7) rfl rfl ?_
          refine zEv_k 1 (f' := (43, [some (.ref 0), some (.int x1), some (.int x2), some (.ref 22)], [.ref 0], zhp p7)) rfl ?_
          refine zRgr rfl rfl rfl (by decide) (b := 166) rfl ?_
          refine zRgr rfl rfl rfl (by decide) (b := 167) rfl ?_
          refine zEv_k 1 (f' := (50, [some (.ref 0), some (.int x1), some (.int x2), some (.ref 22)], [.int x2, .ref 167], zhp p7)) rfl ?_
          obtain ⟨j8, hj8, H⟩ := zbs H
          refine zRia rfl rfl (by decide) hj8 ?_
          cases H
          exact zEv_r rfl
      · replace H := zif_f c4 H
        refine zEv_k 1 (f' := (25, [some (.ref 0), some (.int x1), some (.int x2), some (.ref v2)], [.int (-1)], zhp h)) rfl ?_
        cases H
        exact zEv_r rfl
def qLk_bestApart_b7 (oc : Nat) (x1 : Int32) (h : zK) (s : Int32 × Int32 × Int32) : Option ((Int32 × Int32 × Int32) ⊕ (Int32)) :=
  if (qCe_all oc h) < s.2.2 then
    some (.inr s.1)
  else
    Option.bind (
        if ¬ (qIn_bitCount s.2.2) = x1 then
          some 0
        else
          (qLk_answeredBy oc s.2.2 h).bind fun p4 =>
          if ¬ (p4 &&& s.2.2) = 0 then
            some 0
          else
            some 1
      ) fun (v3 : Int32) =>
    Option.bind (
        if v3 = 0 then
          some (s.1, s.2.1)
        else
          (qLk_witOf oc s.2.2 h).bind fun p8 =>
          if p8 ≤ s.2.1 then
            some (s.1, s.2.1)
          else
            (qLk_witOf oc s.2.2 h).bind fun p10 =>
            some (s.2.2, p10)
      ) fun (v7 : Int32 × Int32) =>
    some (.inl (v7.1, v7.2, s.2.2 + 1))
theorem t_qLk_bestApart_b7b {Ls : Nat} {xs : Nat → Int32} {d : Nat} {oc : Nat} {x1 : Int32} {h : zK} {r : zA} {s : Int32 × Int32 × Int32} {e : (Int32 × Int32 × Int32) ⊕ (Int32)} (ho : oc = 7 ∨ oc = 22) (H : qLk_bestApart_b7 oc x1 h s = some e) (K : match (generalizing := false) e with | .inl s' => ∀ (z5 : Option Value), zEv (zXs Ls xs) (d + 2) zm_285 (7, [some (.ref oc), some (.int x1), some (.int s'.1), some (.int s'.2.1), some (.int s'.2.2), z5], [], zhp h) r | .inr v => ∀ (z3 : Option Value) (z4 : Option Value) (z5 : Option Value), zEv (zXs Ls xs) (d + 2) zm_285 (75, [some (.ref oc), some (.int x1), some (.int v), z3, z4, z5], [], zhp h) r) (y5 : Option Value) : zEv (zXs Ls xs) (d + 2) zm_285 (7, [some (.ref oc), some (.int x1), some (.int s.1), some (.int s.2.1), some (.int s.2.2), y5], [], zhp h) r := by
  unfold qLk_bestApart_b7 at H
  rcases ho with rfl | rfl
  · refine zEv_k 2 (f' := (10, [some (.ref 7), some (.int x1), some (.int s.1), some (.int s.2.1), some (.int s.2.2), y5], [.ref 7, .int s.2.2], zhp h)) rfl ?_
    refine zEv_c (fun _ => rfl) rfl (t_qCe_all (oo := 7) (h := h) (d := d + 1) (by decide) rfl) rfl rfl ?_
    refine zEv_k 1 (f' := (if (qCe_all 7 h) < s.2.2 then 75 else 16, [some (.ref 7), some (.int x1), some (.int s.1), some (.int s.2.1), some (.int s.2.2), y5], [], zhp h)) rfl (zEv_if (fun c1 => ?_) (fun c1 => ?_))
    · replace H := zif_t c1 H
      cases H
      exact K _ _ _
    · replace H := zif_f c1 H
      obtain ⟨v3, hv3, H⟩ := zbs H
      have kv3 : zEv (zXs Ls xs) (d + 2) zm_285 (42, [some (.ref 7), some (.int x1), some (.int s.1), some (.int s.2.1), some (.int s.2.2), y5], [.int v3], zhp h) r := by
        obtain ⟨v7, hv7, H⟩ := zbs H
        have kv7 : zEv (zXs Ls xs) (d + 2) zm_285 (69, [some (.ref 7), some (.int x1), some (.int v7.1), some (.int v7.2), some (.int s.2.2), some (.int v3)], [], zhp h) r := by
          refine zEv_k 2 (f' := (7, [some (.ref 7), some (.int x1), some (.int v7.1), some (.int v7.2), some (.int (s.2.2 + 1)), some (.int v3)], [], zhp h)) rfl ?_
          cases H
          exact K _
        clear H
        refine zEv_k 3 (f' := (if v3 = 0 then 69 else 49, [some (.ref 7), some (.int x1), some (.int s.1), some (.int s.2.1), some (.int s.2.2), some (.int v3)], [], zhp h)) rfl (zEv_if (fun c6 => ?_) (fun c6 => ?_))
        · replace hv7 := zif_t c6 hv7
          cases hv7
          exact kv7
        · replace hv7 := zif_f c6 hv7
          refine zEv_k 2 (f' := (52, [some (.ref 7), some (.int x1), some (.int s.1), some (.int s.2.1), some (.int s.2.2), some (.int v3)], [.int s.2.2, .ref 7], zhp h)) rfl ?_
          obtain ⟨p8, hp8, hv7⟩ := zbs hv7
          refine zEv_c (fun _ => rfl) rfl (t_qLk_witOf (oc := 7) (x1 := s.2.2) (h := h) (d := d) (by decide) hp8) rfl rfl ?_
          refine zEv_k 2 (f' := (if p8 ≤ s.2.1 then 69 else 59, [some (.ref 7), some (.int x1), some (.int s.1), some (.int s.2.1), some (.int s.2.2), some (.int v3)], [], zhp h)) rfl (zEv_if (fun c9 => ?_) (fun c9 => ?_))
          · replace hv7 := zif_t c9 hv7
            cases hv7
            exact kv7
          · replace hv7 := zif_f c9 hv7
            refine zEv_k 2 (f' := (62, [some (.ref 7), some (.int x1), some (.int s.1), some (.int s.2.1), some (.int s.2.2), some (.int v3)], [.int s.2.2, .ref 7], zhp h)) rfl ?_
            obtain ⟨p10, hp10, hv7⟩ := zbs hv7
            refine zEv_c (fun _ => rfl) rfl (t_qLk_witOf (oc := 7) (x1 := s.2.2) (h := h) (d := d) (by decide) hp10) rfl rfl ?_
            refine zEv_k 3 (f' := (69, [some (.ref 7), some (.int x1), some (.int s.2.2), some (.int p10), some (.int s.2.2), some (.int v3)], [], zhp h)) rfl ?_
            cases hv7
            exact kv7
      clear H
      refine zEv_k 1 (f' := (18, [some (.ref 7), some (.int x1), some (.int s.1), some (.int s.2.1), some (.int s.2.2), y5], [.int s.2.2], zhp h)) rfl ?_
      refine zEv_c (fun _ => rfl) rfl (t_qIn_bitCount (x0 := s.2.2) (h := h) (d := d + 1) rfl) rfl rfl ?_
      refine zEv_k 2 (f' := (if ¬ (qIn_bitCount s.2.2) = x1 then 41 else 25, [some (.ref 7), some (.int x1), some (.int s.1), some (.int s.2.1), some (.int s.2.2), y5], [], zhp h)) rfl (zEv_if (fun c2 => ?_) (fun c2 => ?_))
      · replace hv3 := zif_t c2 hv3
        refine zEv_k 1 (f' := (42, [some (.ref 7), some (.int x1), some (.int s.1), some (.int s.2.1), some (.int s.2.2), y5], [.int 0], zhp h)) rfl ?_
        cases hv3
        exact kv3
      · replace hv3 := zif_f c2 hv3
        refine zEv_k 2 (f' := (28, [some (.ref 7), some (.int x1), some (.int s.1), some (.int s.2.1), some (.int s.2.2), y5], [.int s.2.2, .ref 7], zhp h)) rfl ?_
        obtain ⟨p4, hp4, hv3⟩ := zbs hv3
        refine zEv_c (fun _ => rfl) rfl (t_qLk_answeredBy (oc := 7) (x1 := s.2.2) (h := h) (d := d) (by decide) hp4) rfl rfl ?_
        refine zEv_k 3 (f' := (if ¬ (p4 &&& s.2.2) = 0 then 41 else 37, [some (.ref 7), some (.int x1), some (.int s.1), some (.int s.2.1), some (.int s.2.2), y5], [], zhp h)) rfl (zEv_if (fun c5 => ?_) (fun c5 => ?_))
        · replace hv3 := zif_t c5 hv3
          refine zEv_k 1 (f' := (42, [some (.ref 7), some (.int x1), some (.int s.1), some (.int s.2.1), some (.int s.2.2), y5], [.int 0], zhp h)) rfl ?_
          cases hv3
          exact kv3
        · replace hv3 := zif_f c5 hv3
          refine zEv_k 2 (f' := (42, [some (.ref 7), some (.int x1), some (.int s.1), some (.int s.2.1), some (.int s.2.2), y5], [.int 1], zhp h)) rfl ?_
          cases hv3
          exact kv3
  · refine zEv_k 2 (f' := (10, [some (.ref 22), some (.int x1), some (.int s.1), some (.int s.2.1), some (.int s.2.2), y5], [.ref 22, .int s.2.2], zhp h)) rfl ?_
    refine zEv_c (fun _ => rfl) rfl (t_qCe_all (oo := 22) (h := h) (d := d + 1) (by decide) rfl) rfl rfl ?_
    refine zEv_k 1 (f' := (if (qCe_all 22 h) < s.2.2 then 75 else 16, [some (.ref 22), some (.int x1), some (.int s.1), some (.int s.2.1), some (.int s.2.2), y5], [], zhp h)) rfl (zEv_if (fun c1 => ?_) (fun c1 => ?_))
    · replace H := zif_t c1 H
      cases H
      exact K _ _ _
    · replace H := zif_f c1 H
      obtain ⟨v3, hv3, H⟩ := zbs H
      have kv3 : zEv (zXs Ls xs) (d + 2) zm_285 (42, [some (.ref 22), some (.int x1), some (.int s.1), some (.int s.2.1), some (.int s.2.2), y5], [.int v3], zhp h) r := by
        obtain ⟨v7, hv7, H⟩ := zbs H
        have kv7 : zEv (zXs Ls xs) (d + 2) zm_285 (69, [some (.ref 22), some (.int x1), some (.int v7.1), some (.int v7.2), some (.int s.2.2), some (.int v3)], [], zhp h) r := by
          refine zEv_k 2 (f' := (7, [some (.ref 22), some (.int x1), some (.int v7.1), some (.int v7.2), some (.int (s.2.2 + 1)), some (.int v3)], [], zhp h)) rfl ?_
          cases H
          exact K _
        clear H
        refine zEv_k 3 (f' := (if v3 = 0 then 69 else 49, [some (.ref 22), some (.int x1), some (.int s.1), some (.int s.2.1), some (.int s.2.2), some (.int v3)], [], zhp h)) rfl (zEv_if (fun c6 => ?_) (fun c6 => ?_))
        · replace hv7 := zif_t c6 hv7
          cases hv7
          exact kv7
        · replace hv7 := zif_f c6 hv7
          refine zEv_k 2 (f' := (52, [some (.ref 22), some (.int x1), some (.int s.1), some (.int s.2.1), some (.int s.2.2), some (.int v3)], [.int s.2.2, .ref 22], zhp h)) rfl ?_
          obtain ⟨p8, hp8, hv7⟩ := zbs hv7
          refine zEv_c (fun _ => rfl) rfl (t_qLk_witOf (oc := 22) (x1 := s.2.2) (h := h) (d := d) (by decide) hp8) rfl rfl ?_
          refine zEv_k 2 (f' := (if p8 ≤ s.2.1 then 69 else 59, [some (.ref 22), some (.int x1), some (.int s.1), some (.int s.2.1), some (.int s.2.2), some (.int v3)], [], zhp h)) rfl (zEv_if (fun c9 => ?_) (fun c9 => ?_))
          · replace hv7 := zif_t c9 hv7
            cases hv7
            exact kv7
          · replace hv7 := zif_f c9 hv7
            refine zEv_k 2 (f' := (62, [some (.ref 22), some (.int x1), some (.int s.1), some (.int s.2.1), some (.int s.2.2), some (.int v3)], [.int s.2.2, .ref 22], zhp h)) rfl ?_
            obtain ⟨p10, hp10, hv7⟩ := zbs hv7
            refine zEv_c (fun _ => rfl) rfl (t_qLk_witOf (oc := 22) (x1 := s.2.2) (h := h) (d := d) (by decide) hp10) rfl rfl ?_
            refine zEv_k 3 (f' := (69, [some (.ref 22), some (.int x1), some (.int s.2.2), some (.int p10), some (.int s.2.2), some (.int v3)], [], zhp h)) rfl ?_
            cases hv7
            exact kv7
      clear H
      refine zEv_k 1 (f' := (18, [some (.ref 22), some (.int x1), some (.int s.1), some (.int s.2.1), some (.int s.2.2), y5], [.int s.2.2], zhp h)) rfl ?_
      refine zEv_c (fun _ => rfl) rfl (t_qIn_bitCount (x0 := s.2.2) (h := h) (d := d + 1) rfl) rfl rfl ?_
      refine zEv_k 2 (f' := (if ¬ (qIn_bitCount s.2.2) = x1 then 41 else 25, [some (.ref 22), some (.int x1), some (.int s.1), some (.int s.2.1), some (.int s.2.2), y5], [], zhp h)) rfl (zEv_if (fun c2 => ?_) (fun c2 => ?_))
      · replace hv3 := zif_t c2 hv3
        refine zEv_k 1 (f' := (42, [some (.ref 22), some (.int x1), some (.int s.1), some (.int s.2.1), some (.int s.2.2), y5], [.int 0], zhp h)) rfl ?_
        cases hv3
        exact kv3
      · replace hv3 := zif_f c2 hv3
        refine zEv_k 2 (f' := (28, [some (.ref 22), some (.int x1), some (.int s.1), some (.int s.2.1), some (.int s.2.2), y5], [.int s.2.2, .ref 22], zhp h)) rfl ?_
        obtain ⟨p4, hp4, hv3⟩ := zbs hv3
        refine zEv_c (fun _ => rfl) rfl (t_qLk_answeredBy (oc := 22) (x1 := s.2.2) (h := h) (d := d) (by decide) hp4) rfl rfl ?_
        refine zEv_k 3 (f' := (if ¬ (p4 &&& s.2.2) = 0 then 41 else 37, [some (.ref 22), some (.int x1), some (.int s.1), some (.int s.2.1), some (.int s.2.2), y5], [], zhp h)) rfl (zEv_if (fun c5 => ?_) (fun c5 => ?_))
        · replace hv3 := zif_t c5 hv3
          refine zEv_k 1 (f' := (42, [some (.ref 22), some (.int x1), some (.int s.1), some (.int s.2.1), some (.int s.2.2), y5], [.int 0], zhp h)) rfl ?_
          cases hv3
          exact kv3
        · replace hv3 := zif_f c5 hv3
          refine zEv_k 2 (f' := (42, [some (.ref 22), some (.int x1), some (.int s.1), some (.int s.2.1), some (.int s.2.2), y5], [.int 1], zhp h)) rfl ?_
          cases hv3
          exact kv3
theorem t_qLk_bestApart_b7 {Ls : Nat} {xs : Nat → Int32} {d : Nat} {oc : Nat} {x1 : Int32} {h : zK} {r : zA} (ho : oc = 7 ∨ oc = 22) {t : Int32} (K : ∀ (z3 : Option Value) (z4 : Option Value) (z5 : Option Value), zEv (zXs Ls xs) (d + 2) zm_285 (75, [some (.ref oc), some (.int x1), some (.int t), z3, z4, z5], [], zhp h) r) (n : Nat) (s : Int32 × Int32 × Int32) (H : zloop (qLk_bestApart_b7 oc x1 h) n s = some t) (y5 : Option Value) : zEv (zXs Ls xs) (d + 2) zm_285 (7, [some (.ref oc), some (.int x1), some (.int s.1), some (.int s.2.1), some (.int s.2.2), y5], [], zhp h) r := by
  have Z := zloop_P (P := fun s => ∀ (y5 : Option Value), zEv (zXs Ls xs) (d + 2) zm_285 (7, [some (.ref oc), some (.int x1), some (.int s.1), some (.int s.2.1), some (.int s.2.2), y5], [], zhp h) r) (b := qLk_bestApart_b7 oc x1 h) (t := t) (fun s s2 hb hk => by intro y5; exact t_qLk_bestApart_b7b ho hb hk y5) (fun s hb => by intro y5; exact t_qLk_bestApart_b7b ho hb K y5) n s H
  exact Z y5
def qLk_bestApart (oc : Nat) (x1 : Int32) (h : zK) : Option (Int32) :=
  (zloop (qLk_bestApart_b7 oc x1 h) zfu (-1, -1, 0)).bind fun t11 =>
  some t11
theorem t_qLk_bestApart {Ls : Nat} {xs : Nat → Int32} {d : Nat} {oc : Nat} {x1 : Int32} {h : zK} {p : Int32} (ho : oc = 7 ∨ oc = 22) (H : qLk_bestApart oc x1 h = some p) : zEv (zXs Ls xs) (d + 2) zm_285 (0, [some (.ref oc), some (.int x1), none, none, none, none], [], zhp h) (some (.int p), zhp h) := by
  unfold qLk_bestApart at H
  rcases ho with rfl | rfl
  · refine zEv_k 6 (f' := (7, [some (.ref 7), some (.int x1), some (.int (-1)), some (.int (-1)), some (.int 0), none], [], zhp h)) rfl ?_
    obtain ⟨t11, ht11, H⟩ := zbs H
    refine t_qLk_bestApart_b7 (oc := 7) (x1 := x1) (h := h) (by decide) ?_ zfu _ ht11 _
    intro y3 y4 y5
    refine zEv_k 1 (f' := (76, [some (.ref 7), some (.int x1), some (.int t11), y3, y4, y5], [.int t11], zhp h)) rfl ?_
    cases H
    exact zEv_r rfl
  · refine zEv_k 6 (f' := (7, [some (.ref 22), some (.int x1), some (.int (-1)), some (.int (-1)), some (.int 0), none], [], zhp h)) rfl ?_
    obtain ⟨t11, ht11, H⟩ := zbs H
    refine t_qLk_bestApart_b7 (oc := 22) (x1 := x1) (h := h) (by decide) ?_ zfu _ ht11 _
    intro y3 y4 y5
    refine zEv_k 1 (f' := (76, [some (.ref 22), some (.int x1), some (.int t11), y3, y4, y5], [.int t11], zhp h)) rfl ?_
    cases H
    exact zEv_r rfl
