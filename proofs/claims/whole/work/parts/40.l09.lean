def qRu_firstBurstYear_b2 (oo : Nat) (h : zK) (s : Int32) : Option ((Int32) ⊕ ((Unit) ⊕ (Int32))) :=
  if 50 < s then
    some (.inr (.inl ()))
  else
    (zix s 51).bind fun j2 =>
    if (gI h (oo + 1) j2) ≤ 0 then
      some (.inl (s + 1))
    else
      some (.inr (.inr s))
theorem t_qRu_firstBurstYear_b2b {Ls : Nat} {xs : Nat → Int32} {d : Nat} {oo : Nat} {h : zK} {r : zA} {s : Int32} {e : (Int32) ⊕ ((Unit) ⊕ (Int32))} (ho : oo = 166 ∨ oo = 198) (H : qRu_firstBurstYear_b2 oo h s = some e) (K : match (generalizing := false) e with | .inl s' => zEv (zXs Ls xs) d zm_76 (2, [some (.ref oo), some (.int s')], [], zhp h) r | .inr (.inl v) => ∀ (z1 : Option Value), zEv (zXs Ls xs) d zm_76 (25, [some (.ref oo), z1], [], zhp h) r | .inr (.inr p) => (some (.int p), zhp h) = r) : zEv (zXs Ls xs) d zm_76 (2, [some (.ref oo), some (.int s)], [], zhp h) r := by
  unfold qRu_firstBurstYear_b2 at H
  rcases ho with rfl | rfl
  · refine zEv_k 3 (f' := (if 50 < s then 25 else 8, [some (.ref 166), some (.int s)], [], zhp h)) rfl (zEv_if (fun c1 => ?_) (fun c1 => ?_))
    · replace H := zif_t c1 H
      cases H
      exact K _
    · replace H := zif_f c1 H
      refine zEv_k 1 (f' := (9, [some (.ref 166), some (.int s)], [.ref 166], zhp h)) rfl ?_
      refine zRgr rfl rfl rfl (by decide) (b := 166 + 1) rfl ?_
      refine zEv_k 1 (f' := (13, [some (.ref 166), some (.int s)], [.int s, .ref (166 + 1)], zhp h)) rfl ?_
      obtain ⟨j2, hj2, H⟩ := zbs H
      refine zRia rfl rfl (by decide) hj2 ?_
      refine zEv_k 1 (f' := (if (gI h (166 + 1) j2) ≤ 0 then 19 else 17, [some (.ref 166), some (.int s)], [], zhp h)) rfl (zEv_if (fun c3 => ?_) (fun c3 => ?_))
      · replace H := zif_t c3 H
        refine zEv_k 2 (f' := (2, [some (.ref 166), some (.int (s + 1))], [], zhp h)) rfl ?_
        cases H
        exact K
      · replace H := zif_f c3 H
        refine zEv_k 1 (f' := (18, [some (.ref 166), some (.int s)], [.int s], zhp h)) rfl ?_
        cases H
        exact zEv_re K rfl
  · refine zEv_k 3 (f' := (if 50 < s then 25 else 8, [some (.ref 198), some (.int s)], [], zhp h)) rfl (zEv_if (fun c1 => ?_) (fun c1 => ?_))
    · replace H := zif_t c1 H
      cases H
      exact K _
    · replace H := zif_f c1 H
      refine zEv_k 1 (f' := (9, [some (.ref 198), some (.int s)], [.ref 198], zhp h)) rfl ?_
      refine zRgr rfl rfl rfl (by decide) (b := 198 + 1) rfl ?_
      refine zEv_k 1 (f' := (13, [some (.ref 198), some (.int s)], [.int s, .ref (198 + 1)], zhp h)) rfl ?_
      obtain ⟨j2, hj2, H⟩ := zbs H
      refine zRia rfl rfl (by decide) hj2 ?_
      refine zEv_k 1 (f' := (if (gI h (198 + 1) j2) ≤ 0 then 19 else 17, [some (.ref 198), some (.int s)], [], zhp h)) rfl (zEv_if (fun c3 => ?_) (fun c3 => ?_))
      · replace H := zif_t c3 H
        refine zEv_k 2 (f' := (2, [some (.ref 198), some (.int (s + 1))], [], zhp h)) rfl ?_
        cases H
        exact K
      · replace H := zif_f c3 H
        refine zEv_k 1 (f' := (18, [some (.ref 198), some (.int s)], [.int s], zhp h)) rfl ?_
        cases H
        exact zEv_re K rfl
theorem t_qRu_firstBurstYear_b2 {Ls : Nat} {xs : Nat → Int32} {d : Nat} {oo : Nat} {h : zK} {r : zA} (ho : oo = 166 ∨ oo = 198) {t : (Unit) ⊕ (Int32)} (K : (match (generalizing := false) t with | .inl v => ∀ (z1 : Option Value), zEv (zXs Ls xs) d zm_76 (25, [some (.ref oo), z1], [], zhp h) r | .inr p => (some (.int p), zhp h) = r)) (n : Nat) (s : Int32) (H : zloop (qRu_firstBurstYear_b2 oo h) n s = some t) : zEv (zXs Ls xs) d zm_76 (2, [some (.ref oo), some (.int s)], [], zhp h) r := by
  have Z := zloop_P (P := fun s => zEv (zXs Ls xs) d zm_76 (2, [some (.ref oo), some (.int s)], [], zhp h) r) (b := qRu_firstBurstYear_b2 oo h) (t := t) (fun s s2 hb hk => by exact t_qRu_firstBurstYear_b2b ho hb hk) (fun s hb => by rcases t with v | p <;> (exact t_qRu_firstBurstYear_b2b ho hb K)) n s H
  exact Z
def qRu_firstBurstYear (oo : Nat) (h : zK) : Option (Int32) :=
  (zloop (qRu_firstBurstYear_b2 oo h) zfu 1).bind fun t4 => match t4 with
  | .inr p => some p
  | .inl v5 =>
    some (-1)
theorem t_qRu_firstBurstYear {Ls : Nat} {xs : Nat → Int32} {d : Nat} {oo : Nat} {h : zK} {p : Int32} (ho : oo = 166 ∨ oo = 198) (H : qRu_firstBurstYear oo h = some p) : zEv (zXs Ls xs) d zm_76 (0, [some (.ref oo), none], [], zhp h) (some (.int p), zhp h) := by
  unfold qRu_firstBurstYear at H
  rcases ho with rfl | rfl
  · refine zEv_k 2 (f' := (2, [some (.ref 166), some (.int 1)], [], zhp h)) rfl ?_
    obtain ⟨t4, ht4, H⟩ := zbs H
    refine t_qRu_firstBurstYear_b2 (oo := 166) (h := h) (by decide) ?_ zfu _ ht4
    rcases t4 with v5 | p
    · intro y1
      dsimp only at H
      refine zEv_k 1 (f' := (26, [some (.ref 166), y1], [.int (-1)], zhp h)) rfl ?_
      cases H
      exact zEv_r rfl
    · cases H
      exact rfl
  · refine zEv_k 2 (f' := (2, [some (.ref 198), some (.int 1)], [], zhp h)) rfl ?_
    obtain ⟨t4, ht4, H⟩ := zbs H
    refine t_qRu_firstBurstYear_b2 (oo := 198) (h := h) (by decide) ?_ zfu _ ht4
    rcases t4 with v5 | p
    · intro y1
      dsimp only at H
      refine zEv_k 1 (f' := (26, [some (.ref 198), y1], [.int (-1)], zhp h)) rfl ?_
      cases H
      exact zEv_r rfl
    · cases H
      exact rfl
def qRu_mostBurstYear_b6 (oo : Nat) (h : zK) (s : Int32 × Int32 × Int32) : Option ((Int32 × Int32 × Int32) ⊕ (Int32)) :=
  if 50 < s.2.2 then
    some (.inr s.2.1)
  else
    (zix s.2.2 51).bind fun j2 =>
    zlet (
        if (gI h (oo + 1) j2) ≤ s.1 then
          (s.1, s.2.1)
        else
          (gI h (oo + 1) j2, s.2.2)
      ) fun (v4 : Int32 × Int32) =>
    some (.inl (v4.1, v4.2, s.2.2 + 1))
theorem t_qRu_mostBurstYear_b6b {Ls : Nat} {xs : Nat → Int32} {d : Nat} {oo : Nat} {h : zK} {r : zA} {s : Int32 × Int32 × Int32} {e : (Int32 × Int32 × Int32) ⊕ (Int32)} (ho : oo = 166 ∨ oo = 198) (H : qRu_mostBurstYear_b6 oo h s = some e) (K : match (generalizing := false) e with | .inl s' => zEv (zXs Ls xs) d zm_77 (6, [some (.ref oo), some (.int s'.1), some (.int s'.2.1), some (.int s'.2.2)], [], zhp h) r | .inr v => ∀ (z1 : Option Value) (z3 : Option Value), zEv (zXs Ls xs) d zm_77 (37, [some (.ref oo), z1, some (.int v), z3], [], zhp h) r) : zEv (zXs Ls xs) d zm_77 (6, [some (.ref oo), some (.int s.1), some (.int s.2.1), some (.int s.2.2)], [], zhp h) r := by
  unfold qRu_mostBurstYear_b6 at H
  rcases ho with rfl | rfl
  · refine zEv_k 3 (f' := (if 50 < s.2.2 then 37 else 12, [some (.ref 166), some (.int s.1), some (.int s.2.1), some (.int s.2.2)], [], zhp h)) rfl (zEv_if (fun c1 => ?_) (fun c1 => ?_))
    · replace H := zif_t c1 H
      cases H
      exact K _ _
    · replace H := zif_f c1 H
      refine zEv_k 1 (f' := (13, [some (.ref 166), some (.int s.1), some (.int s.2.1), some (.int s.2.2)], [.ref 166], zhp h)) rfl ?_
      refine zRgr rfl rfl rfl (by decide) (b := 166 + 1) rfl ?_
      refine zEv_k 1 (f' := (17, [some (.ref 166), some (.int s.1), some (.int s.2.1), some (.int s.2.2)], [.int s.2.2, .ref (166 + 1)], zhp h)) rfl ?_
      obtain ⟨j2, hj2, H⟩ := zbs H
      refine zRia rfl rfl (by decide) hj2 ?_
      obtain ⟨v4, hv4, H⟩ := zlets H
      have kv4 : zEv (zXs Ls xs) d zm_77 (31, [some (.ref 166), some (.int v4.1), some (.int v4.2), some (.int s.2.2)], [], zhp h) r := by
        refine zEv_k 2 (f' := (6, [some (.ref 166), some (.int v4.1), some (.int v4.2), some (.int (s.2.2 + 1))], [], zhp h)) rfl ?_
        cases H
        exact K
      clear H
      refine zEv_k 2 (f' := (if (gI h (166 + 1) j2) ≤ s.1 then 31 else 22, [some (.ref 166), some (.int s.1), some (.int s.2.1), some (.int s.2.2)], [], zhp h)) rfl (zEv_if (fun c3 => ?_) (fun c3 => ?_))
      · replace hv4 := zif_t c3 hv4
        cases hv4
        exact kv4
      · replace hv4 := zif_f c3 hv4
        refine zEv_k 1 (f' := (23, [some (.ref 166), some (.int s.1), some (.int s.2.1), some (.int s.2.2)], [.ref 166], zhp h)) rfl ?_
        refine zRgr rfl rfl rfl (by decide) (b := 166 + 1) rfl ?_
        refine zEv_k 1 (f' := (27, [some (.ref 166), some (.int s.1), some (.int s.2.1), some (.int s.2.2)], [.int s.2.2, .ref (166 + 1)], zhp h)) rfl ?_
        refine zRia rfl rfl (by decide) hj2 ?_
        refine zEv_k 3 (f' := (31, [some (.ref 166), some (.int (gI h (166 + 1) j2)), some (.int s.2.2), some (.int s.2.2)], [], zhp h)) rfl ?_
        cases hv4
        exact kv4
  · refine zEv_k 3 (f' := (if 50 < s.2.2 then 37 else 12, [some (.ref 198), some (.int s.1), some (.int s.2.1), some (.int s.2.2)], [], zhp h)) rfl (zEv_if (fun c1 => ?_) (fun c1 => ?_))
    · replace H := zif_t c1 H
      cases H
      exact K _ _
    · replace H := zif_f c1 H
      refine zEv_k 1 (f' := (13, [some (.ref 198), some (.int s.1), some (.int s.2.1), some (.int s.2.2)], [.ref 198], zhp h)) rfl ?_
      refine zRgr rfl rfl rfl (by decide) (b := 198 + 1) rfl ?_
      refine zEv_k 1 (f' := (17, [some (.ref 198), some (.int s.1), some (.int s.2.1), some (.int s.2.2)], [.int s.2.2, .ref (198 + 1)], zhp h)) rfl ?_
      obtain ⟨j2, hj2, H⟩ := zbs H
      refine zRia rfl rfl (by decide) hj2 ?_
      obtain ⟨v4, hv4, H⟩ := zlets H
      have kv4 : zEv (zXs Ls xs) d zm_77 (31, [some (.ref 198), some (.int v4.1), some (.int v4.2), some (.int s.2.2)], [], zhp h) r := by
        refine zEv_k 2 (f' := (6, [some (.ref 198), some (.int v4.1), some (.int v4.2), some (.int (s.2.2 + 1))], [], zhp h)) rfl ?_
        cases H
        exact K
      clear H
      refine zEv_k 2 (f' := (if (gI h (198 + 1) j2) ≤ s.1 then 31 else 22, [some (.ref 198), some (.int s.1), some (.int s.2.1), some (.int s.2.2)], [], zhp h)) rfl (zEv_if (fun c3 => ?_) (fun c3 => ?_))
      · replace hv4 := zif_t c3 hv4
        cases hv4
        exact kv4
      · replace hv4 := zif_f c3 hv4
        refine zEv_k 1 (f' := (23, [some (.ref 198), some (.int s.1), some (.int s.2.1), some (.int s.2.2)], [.ref 198], zhp h)) rfl ?_
        refine zRgr rfl rfl rfl (by decide) (b := 198 + 1) rfl ?_
        refine zEv_k 1 (f' := (27, [some (.ref 198), some (.int s.1), some (.int s.2.1), some (.int s.2.2)], [.int s.2.2, .ref (198 + 1)], zhp h)) rfl ?_
        refine zRia rfl rfl (by decide) hj2 ?_
        refine zEv_k 3 (f' := (31, [some (.ref 198), some (.int (gI h (198 + 1) j2)), some (.int s.2.2), some (.int s.2.2)], [], zhp h)) rfl ?_
        cases hv4
        exact kv4
theorem t_qRu_mostBurstYear_b6 {Ls : Nat} {xs : Nat → Int32} {d : Nat} {oo : Nat} {h : zK} {r : zA} (ho : oo = 166 ∨ oo = 198) {t : Int32} (K : ∀ (z1 : Option Value) (z3 : Option Value), zEv (zXs Ls xs) d zm_77 (37, [some (.ref oo), z1, some (.int t), z3], [], zhp h) r) (n : Nat) (s : Int32 × Int32 × Int32) (H : zloop (qRu_mostBurstYear_b6 oo h) n s = some t) : zEv (zXs Ls xs) d zm_77 (6, [some (.ref oo), some (.int s.1), some (.int s.2.1), some (.int s.2.2)], [], zhp h) r := by
  have Z := zloop_P (P := fun s => zEv (zXs Ls xs) d zm_77 (6, [some (.ref oo), some (.int s.1), some (.int s.2.1), some (.int s.2.2)], [], zhp h) r) (b := qRu_mostBurstYear_b6 oo h) (t := t) (fun s s2 hb hk => by exact t_qRu_mostBurstYear_b6b ho hb hk) (fun s hb => by exact t_qRu_mostBurstYear_b6b ho hb K) n s H
  exact Z
def qRu_mostBurstYear (oo : Nat) (h : zK) : Option (Int32) :=
  (zloop (qRu_mostBurstYear_b6 oo h) zfu (0, -1, 1)).bind fun t5 =>
  some t5
theorem t_qRu_mostBurstYear {Ls : Nat} {xs : Nat → Int32} {d : Nat} {oo : Nat} {h : zK} {p : Int32} (ho : oo = 166 ∨ oo = 198) (H : qRu_mostBurstYear oo h = some p) : zEv (zXs Ls xs) d zm_77 (0, [some (.ref oo), none, none, none], [], zhp h) (some (.int p), zhp h) := by
  unfold qRu_mostBurstYear at H
  rcases ho with rfl | rfl
  · refine zEv_k 6 (f' := (6, [some (.ref 166), some (.int 0), some (.int (-1)), some (.int 1)], [], zhp h)) rfl ?_
    obtain ⟨t5, ht5, H⟩ := zbs H
    refine t_qRu_mostBurstYear_b6 (oo := 166) (h := h) (by decide) ?_ zfu _ ht5
    intro y1 y3
    refine zEv_k 1 (f' := (38, [some (.ref 166), y1, some (.int t5), y3], [.int t5], zhp h)) rfl ?_
    cases H
    exact zEv_r rfl
  · refine zEv_k 6 (f' := (6, [some (.ref 198), some (.int 0), some (.int (-1)), some (.int 1)], [], zhp h)) rfl ?_
    obtain ⟨t5, ht5, H⟩ := zbs H
    refine t_qRu_mostBurstYear_b6 (oo := 198) (h := h) (by decide) ?_ zfu _ ht5
    intro y1 y3
    refine zEv_k 1 (f' := (38, [some (.ref 198), y1, some (.int t5), y3], [.int t5], zhp h)) rfl ?_
    cases H
    exact zEv_r rfl
def qT_push_b3 (x1 : Int32) (s : Int32 × zK) : Option ((Int32 × zK) ⊕ (zK)) :=
  if s.1 < 0 then
    some (.inr s.2)
  else
    if 600 ≤ (gI s.2 1 1) then
      some (.inr s.2)
    else
      (zix (gI s.2 1 1) 600).bind fun j3 =>
      zlet (sI s.2 2 j3 (Int32.toInt8 ((Int32.toInt8 (x1 >>> (s.1 &&& 31))).toInt32)).toInt32) fun h4 =>
      zlet (sI h4 1 1 ((gI h4 1 1) + 1)) fun h5 =>
      some (.inl (s.1 + (-8), h5))
theorem t_qT_push_b3b {Ls : Nat} {xs : Nat → Int32} {d : Nat} {x1 : Int32} {r : zA} {s : Int32 × zK} {e : (Int32 × zK) ⊕ (zK)} (H : qT_push_b3 x1 s = some e) (K : match (generalizing := false) e with | .inl s' => zEv (zXs Ls xs) d zm_88 (3, [some (.ref 1), some (.int x1), some (.int s'.1)], [], zhp s'.2) r | .inr v => ∀ (z2 : Option Value), zEv (zXs Ls xs) d zm_88 (46, [some (.ref 1), some (.int x1), z2], [], zhp v) r) : zEv (zXs Ls xs) d zm_88 (3, [some (.ref 1), some (.int x1), some (.int s.1)], [], zhp s.2) r := by
  unfold qT_push_b3 at H
  refine zEv_k 2 (f' := (if s.1 < 0 then 46 else 7, [some (.ref 1), some (.int x1), some (.int s.1)], [], zhp s.2)) rfl (zEv_if (fun c1 => ?_) (fun c1 => ?_))
  · replace H := zif_t c1 H
    cases H
    exact K _
  · replace H := zif_f c1 H
    refine zEv_k 4 (f' := (if 600 ≤ (gI s.2 1 1) then 46 else 17, [some (.ref 1), some (.int x1), some (.int s.1)], [], zhp s.2)) rfl (zEv_if (fun c2 => ?_) (fun c2 => ?_))
    · replace H := zif_t c2 H
      cases H
      exact K _
    · replace H := zif_f c2 H
      refine zEv_k 1 (f' := (18, [some (.ref 1), some (.int x1), some (.int s.1)], [.ref 1], zhp s.2)) rfl ?_
      refine zRgr rfl rfl rfl (by decide) (b := 2) rfl ?_
      refine zEv_k 6 (f' := (29, [some (.ref 1), some (.int x1), some (.int s.1)], [.int ((Int32.toInt8 (x1 >>> (s.1 &&& 31))).toInt32), .int (gI s.2 1 1), .ref 2], zhp s.2)) rfl ?_
      obtain ⟨j3, hj3, H⟩ := zbs H
      obtain ⟨h4, eh4, H⟩ := zlets H
      refine zRbs rfl rfl (by decide) hj3 eh4 ?_
      obtain ⟨h5, eh5, H⟩ := zlets H
      refine zEv_w (F := fun z => (40, [some (.ref 1), some (.int x1), some (.int s.1)], [], zhp z)) (h0 := sI h4 1 1 ((gI h4 1 1) + 1)) 6 rfl eh5 ?_
      refine zEv_k 2 (f' := (3, [some (.ref 1), some (.int x1), some (.int (s.1 + (-8)))], [], zhp h5)) rfl ?_
      cases H
      exact K
theorem t_qT_push_b3 {Ls : Nat} {xs : Nat → Int32} {d : Nat} {x1 : Int32} {r : zA} {t : zK} (K : ∀ (z2 : Option Value), zEv (zXs Ls xs) d zm_88 (46, [some (.ref 1), some (.int x1), z2], [], zhp t) r) (n : Nat) (s : Int32 × zK) (H : zloop (qT_push_b3 x1) n s = some t) : zEv (zXs Ls xs) d zm_88 (3, [some (.ref 1), some (.int x1), some (.int s.1)], [], zhp s.2) r := by
  have Z := zloop_P (P := fun s => zEv (zXs Ls xs) d zm_88 (3, [some (.ref 1), some (.int x1), some (.int s.1)], [], zhp s.2) r) (b := qT_push_b3 x1) (t := t) (fun s s2 hb hk => by exact t_qT_push_b3b hb hk) (fun s hb => by exact t_qT_push_b3b hb K) n s H
  exact Z
def qT_push (x1 : Int32) (h : zK) : Option (zK) :=
  (zloop (qT_push_b3 x1) zfu (24, h)).bind fun t6 =>
  some t6
theorem t_qT_push {Ls : Nat} {xs : Nat → Int32} {d : Nat} {x1 : Int32} {h : zK} {p : zK} (H : qT_push x1 h = some p) : zEv (zXs Ls xs) d zm_88 (0, [some (.ref 1), some (.int x1), none], [], zhp h) (none, zhp p) := by
  unfold qT_push at H
  refine zEv_k 2 (f' := (3, [some (.ref 1), some (.int x1), some (.int 24)], [], zhp h)) rfl ?_
  obtain ⟨t6, ht6, H⟩ := zbs H
  refine t_qT_push_b3 (x1 := x1) ?_ zfu _ ht6
  intro y2
  cases H
  exact zEv_r rfl
def qT_cellarAt (x1 : Int32) (h : zK) : Option (Option Nat) :=
  if x1 < 0 then
    some none
  else
    if (gI h 3 0) ≤ x1 then
      some none
    else
      (zix x1 2).bind fun j3 =>
      some (some (zaa 4 j3))
theorem t_qT_cellarAt {Ls : Nat} {xs : Nat → Int32} {d : Nat} {x1 : Int32} {h : zK} {p : Option Nat} (H : qT_cellarAt x1 h = some p) : zEv (zXs Ls xs) d zm_89 (0, [some (.ref 1), some (.int x1)], [], zhp h) (some (zrf p), zhp h) := by
  unfold qT_cellarAt at H
  refine zEv_k 2 (f' := (if x1 < 0 then 23 else 4, [some (.ref 1), some (.int x1)], [], zhp h)) rfl (zEv_if (fun c1 => ?_) (fun c1 => ?_))
  · replace H := zif_t c1 H
    refine zEv_k 1 (f' := (24, [some (.ref 1), some (.int x1)], [.null], zhp h)) rfl ?_
    cases H
    exact zEv_r rfl
  · replace H := zif_f c1 H
    refine zEv_k 2 (f' := (6, [some (.ref 1), some (.int x1)], [.ref 1, .int x1], zhp h)) rfl ?_
    refine zRgr rfl rfl rfl (by decide) (b := 3) rfl ?_
    refine zEv_k 1 (f' := (10, [some (.ref 1), some (.int x1)], [.int 0, .ref 3, .int x1], zhp h)) rfl ?_
    refine zRia (j := 0) rfl rfl (by decide) (by decide) ?_
    refine zEv_k 1 (f' := (if (gI h 3 0) ≤ x1 then 23 else 14, [some (.ref 1), some (.int x1)], [], zhp h)) rfl (zEv_if (fun c2 => ?_) (fun c2 => ?_))
    · replace H := zif_t c2 H
      refine zEv_k 1 (f' := (24, [some (.ref 1), some (.int x1)], [.null], zhp h)) rfl ?_
      cases H
      exact zEv_r rfl
    · replace H := zif_f c2 H
      refine zEv_k 1 (f' := (15, [some (.ref 1), some (.int x1)], [.ref 1], zhp h)) rfl ?_
      refine zRgr rfl rfl rfl (by decide) (b := 4) rfl ?_
      refine zEv_k 1 (f' := (19, [some (.ref 1), some (.int x1)], [.int x1, .ref 4], zhp h)) rfl ?_
      obtain ⟨j3, hj3, H⟩ := zbs H
      refine zRaa rfl rfl (by decide) hj3 (by decide) ?_
      refine zEv_k 1 (f' := (24, [some (.ref 1), some (.int x1)], [.ref (zaa 4 j3)], zhp h)) rfl ?_
      cases H
      exact zEv_r rfl
def qT_deedsAt (x1 : Int32) (h : zK) : Option (Option Nat) :=
  if x1 < 0 then
    some none
  else
    if (gI h 3 1) ≤ x1 then
      some none
    else
      (zix x1 2).bind fun j3 =>
      some (some (zaa 5 j3))
theorem t_qT_deedsAt {Ls : Nat} {xs : Nat → Int32} {d : Nat} {x1 : Int32} {h : zK} {p : Option Nat} (H : qT_deedsAt x1 h = some p) : zEv (zXs Ls xs) d zm_90 (0, [some (.ref 1), some (.int x1)], [], zhp h) (some (zrf p), zhp h) := by
  unfold qT_deedsAt at H
  refine zEv_k 2 (f' := (if x1 < 0 then 23 else 4, [some (.ref 1), some (.int x1)], [], zhp h)) rfl (zEv_if (fun c1 => ?_) (fun c1 => ?_))
  · replace H := zif_t c1 H
    refine zEv_k 1 (f' := (24, [some (.ref 1), some (.int x1)], [.null], zhp h)) rfl ?_
    cases H
    exact zEv_r rfl
  · replace H := zif_f c1 H
    refine zEv_k 2 (f' := (6, [some (.ref 1), some (.int x1)], [.ref 1, .int x1], zhp h)) rfl ?_
    refine zRgr rfl rfl rfl (by decide) (b := 3) rfl ?_
    refine zEv_k 1 (f' := (10, [some (.ref 1), some (.int x1)], [.int 1, .ref 3, .int x1], zhp h)) rfl ?_
    refine zRia (j := 1) rfl rfl (by decide) (by decide) ?_
    refine zEv_k 1 (f' := (if (gI h 3 1) ≤ x1 then 23 else 14, [some (.ref 1), some (.int x1)], [], zhp h)) rfl (zEv_if (fun c2 => ?_) (fun c2 => ?_))
    · replace H := zif_t c2 H
      refine zEv_k 1 (f' := (24, [some (.ref 1), some (.int x1)], [.null], zhp h)) rfl ?_
      cases H
      exact zEv_r rfl
    · replace H := zif_f c2 H
      refine zEv_k 1 (f' := (15, [some (.ref 1), some (.int x1)], [.ref 1], zhp h)) rfl ?_
      refine zRgr rfl rfl rfl (by decide) (b := 5) rfl ?_
      refine zEv_k 1 (f' := (19, [some (.ref 1), some (.int x1)], [.int x1, .ref 5], zhp h)) rfl ?_
      obtain ⟨j3, hj3, H⟩ := zbs H
      refine zRaa rfl rfl (by decide) hj3 (by decide) ?_
      refine zEv_k 1 (f' := (24, [some (.ref 1), some (.int x1)], [.ref (zaa 5 j3)], zhp h)) rfl ?_
      cases H
      exact zEv_r rfl
def qT_logAt (x1 : Int32) (h : zK) : Option (Option Nat) :=
  if x1 < 0 then
    some none
  else
    if (gI h 3 2) ≤ x1 then
      some none
    else
      (zix x1 2).bind fun j3 =>
      some (some (zaa 6 j3))
theorem t_qT_logAt {Ls : Nat} {xs : Nat → Int32} {d : Nat} {x1 : Int32} {h : zK} {p : Option Nat} (H : qT_logAt x1 h = some p) : zEv (zXs Ls xs) d zm_91 (0, [some (.ref 1), some (.int x1)], [], zhp h) (some (zrf p), zhp h) := by
  unfold qT_logAt at H
  refine zEv_k 2 (f' := (if x1 < 0 then 23 else 4, [some (.ref 1), some (.int x1)], [], zhp h)) rfl (zEv_if (fun c1 => ?_) (fun c1 => ?_))
  · replace H := zif_t c1 H
    refine zEv_k 1 (f' := (24, [some (.ref 1), some (.int x1)], [.null], zhp h)) rfl ?_
    cases H
    exact zEv_r rfl
  · replace H := zif_f c1 H
    refine zEv_k 2 (f' := (6, [some (.ref 1), some (.int x1)], [.ref 1, .int x1], zhp h)) rfl ?_
    refine zRgr rfl rfl rfl (by decide) (b := 3) rfl ?_
    refine zEv_k 1 (f' := (10, [some (.ref 1), some (.int x1)], [.int 2, .ref 3, .int x1], zhp h)) rfl ?_
    refine zRia (j := 2) rfl rfl (by decide) (by decide) ?_
    refine zEv_k 1 (f' := (if (gI h 3 2) ≤ x1 then 23 else 14, [some (.ref 1), some (.int x1)], [], zhp h)) rfl (zEv_if (fun c2 => ?_) (fun c2 => ?_))
    · replace H := zif_t c2 H
      refine zEv_k 1 (f' := (24, [some (.ref 1), some (.int x1)], [.null], zhp h)) rfl ?_
      cases H
      exact zEv_r rfl
    · replace H := zif_f c2 H
      refine zEv_k 1 (f' := (15, [some (.ref 1), some (.int x1)], [.ref 1], zhp h)) rfl ?_
      refine zRgr rfl rfl rfl (by decide) (b := 6) rfl ?_
      refine zEv_k 1 (f' := (19, [some (.ref 1), some (.int x1)], [.int x1, .ref 6], zhp h)) rfl ?_
      obtain ⟨j3, hj3, H⟩ := zbs H
      refine zRaa rfl rfl (by decide) hj3 (by decide) ?_
      refine zEv_k 1 (f' := (24, [some (.ref 1), some (.int x1)], [.ref (zaa 6 j3)], zhp h)) rfl ?_
      cases H
      exact zEv_r rfl
def qT_take_j85 (x2 : Int32) (x3 : Int32) (h : zK) : Option (zK) :=
  (zix x2 3).bind fun j7 =>
  zlet (sI h 3 j7 (zf_max (gI h 3 j7) (x3 + 1))) fun h8 =>
  some h8
theorem t_qT_take_j85 {Ls : Nat} {xs : Nat → Int32} {d : Nat} {x2 : Int32} {x3 : Int32} {h : zK} {p : zK} (H : qT_take_j85 x2 x3 h = some p)  : zEv (zXs Ls xs) (d + 1) zm_92 (85, [some (.ref 1), some (.ref 147), some (.int x2), some (.int x3)], [], zhp h) (none, zhp p) := by
  unfold qT_take_j85 at H
  refine zEv_k 1 (f' := (86, [some (.ref 1), some (.ref 147), some (.int x2), some (.int x3)], [.ref 1], zhp h)) rfl ?_
  refine zRgr rfl rfl rfl (by decide) (b := 3) rfl ?_
  refine zEv_k 2 (f' := (91, [some (.ref 1), some (.ref 147), some (.int x2), some (.int x3)], [.ref 1, .int x2, .ref 3], zhp h)) rfl ?_
  refine zRgr rfl rfl rfl (by decide) (b := 3) rfl ?_
  refine zEv_k 1 (f' := (95, [some (.ref 1), some (.ref 147), some (.int x2), some (.int x3)], [.int x2, .ref 3, .int x2, .ref 3], zhp h)) rfl ?_
  obtain ⟨j7, hj7, H⟩ := zbs H
  refine zRia rfl rfl (by decide) hj7 ?_
  refine zEv_k 4 (f' := (102, [some (.ref 1), some (.ref 147), some (.int x2), some (.int x3)], [.int (zf_max (gI h 3 j7) (x3 + 1)), .int x2, .ref 3], zhp h)) rfl ?_
  obtain ⟨h8, eh8, H⟩ := zlets H
  refine zRis rfl rfl (by decide) hj7 eh8 ?_
  cases H
  exact zEv_r rfl
def qT_take (x2 : Int32) (x3 : Int32) (h : zK) : Option (zK) :=
  if x3 < 0 then
    some h
  else
    if x3 < 2 then
      if x2 = 0 then
        (zix x3 2).bind fun j3 =>
        zlet (zaa 4 j3) fun a4 =>
        if a4 = 7 ∨ a4 = 22 then
          (qCe_become a4 148 h).bind fun p6 =>
          qT_take_j85 x2 x3 p6
        else none
      else if x2 = 1 then
        (zix x3 2).bind fun j9 =>
        zlet (zaa 5 j9) fun a10 =>
        if a10 = 15 ∨ a10 = 30 then
          (qDe_become a10 156 h).bind fun p12 =>
          qT_take_j85 x2 x3 p12
        else none
      else if x2 = 2 then
        (zix x3 2).bind fun j13 =>
        zlet (zaa 6 j13) fun a14 =>
        if a14 = 19 ∨ a14 = 34 then
          (qLo_become a14 160 h).bind fun p16 =>
          qT_take_j85 x2 x3 p16
        else none
      else
        some h
    else
      some h
theorem t_qT_take {Ls : Nat} {xs : Nat → Int32} {d : Nat} {x2 : Int32} {x3 : Int32} {h : zK} {p : zK} (H : qT_take x2 x3 h = some p) : zEv (zXs Ls xs) (d + 1) zm_92 (0, [some (.ref 1), some (.ref 147), some (.int x2), some (.int x3)], [], zhp h) (none, zhp p) := by
  unfold qT_take at H
  refine zEv_k 2 (f' := (if x3 < 0 then 9 else 4, [some (.ref 1), some (.ref 147), some (.int x2), some (.int x3)], [], zhp h)) rfl (zEv_if (fun c1 => ?_) (fun c1 => ?_))
  · replace H := zif_t c1 H
    cases H
    exact zEv_r rfl
  · replace H := zif_f c1 H
    refine zEv_k 3 (f' := (if x3 < 2 then 10 else 9, [some (.ref 1), some (.ref 147), some (.int x2), some (.int x3)], [], zhp h)) rfl (zEv_if (fun c2 => ?_) (fun c2 => ?_))
    · replace H := zif_t c2 H
      refine zEv_k 1 (f' := (11, [some (.ref 1), some (.ref 147), some (.int x2), some (.int x3)], [.int x2], zhp h)) rfl ?_
      refine zEv_ts rfl (by decide) (by decide) (by decide) (fun hh => ?_) (fun j hj hh => ?_)
      · replace H := zif_f (fun e => (by rw [e] at hh; exact absurd hh (by decide))) H
        replace H := zif_f (fun e => (by rw [e] at hh; exact absurd hh (by decide))) H
        replace H := zif_f (fun e => (by rw [e] at hh; exact absurd hh (by decide))) H
        cases H
        exact zEv_r rfl
      · rcases (by have hj2 : j < 3 := hj; omega : j = 0 ∨ j = 1 ∨ j = 2) with rfl | rfl | rfl
        · have ex : x2 = 0 := zeqI hh (by decide)
          replace H := zif_t ex H
          refine zEv_k 1 (f' := (37, [some (.ref 1), some (.ref 147), some (.int x2), some (.int x3)], [.ref 1], zhp h)) rfl ?_
          refine zRgr rfl rfl rfl (by decide) (b := 4) rfl ?_
          refine zEv_k 1 (f' := (41, [some (.ref 1), some (.ref 147), some (.int x2), some (.int x3)], [.int x3, .ref 4], zhp h)) rfl ?_
          obtain ⟨j3, hj3, H⟩ := zbs H
          refine zRaa rfl rfl (by decide) hj3 (by decide) ?_
          refine zEv_k 1 (f' := (43, [some (.ref 1), some (.ref 147), some (.int x2), some (.int x3)], [.ref 147, .ref (zaa 4 j3)], zhp h)) rfl ?_
          refine zRgr rfl rfl rfl (by decide) (b := 148) rfl ?_
          obtain ⟨a4, ea4, H⟩ := zlets H
          rw [ea4]
          obtain ⟨c5, H⟩ := zifn H
          rcases c5 with rfl | rfl
          · obtain ⟨p6, hp6, H⟩ := zbs H
            refine zEv_c (fun _ => rfl) rfl (t_qCe_become (oo := 7) (oq := 148) (h := h) (d := d) (by decide) hp6) rfl rfl ?_
            refine zEv_k 1 (f' := (85, [some (.ref 1), some (.ref 147), some (.int x2), some (.int x3)], [], zhp p6)) rfl ?_
            exact t_qT_take_j85 (x2 := x2) (x3 := x3) (h := p6) H
          · obtain ⟨p6, hp6, H⟩ := zbs H
            refine zEv_c (fun _ => rfl) rfl (t_qCe_become (oo := 22) (oq := 148) (h := h) (d := d) (by decide) hp6) rfl rfl ?_
            refine zEv_k 1 (f' := (85, [some (.ref 1), some (.ref 147), some (.int x2), some (.int x3)], [], zhp p6)) rfl ?_
            exact t_qT_take_j85 (x2 := x2) (x3 := x3) (h := p6) H
        · have ex : x2 = 1 := zeqI hh (by decide)
          replace H := zif_f (fun e => by rw [ex] at e; exact absurd e (by decide)) H
          replace H := zif_t ex H
          refine zEv_k 1 (f' := (53, [some (.ref 1), some (.ref 147), some (.int x2), some (.int x3)], [.ref 1], zhp h)) rfl ?_
          refine zRgr rfl rfl rfl (by decide) (b := 5) rfl ?_
          refine zEv_k 1 (f' := (57, [some (.ref 1), some (.ref 147), some (.int x2), some (.int x3)], [.int x3, .ref 5], zhp h)) rfl ?_
          obtain ⟨j9, hj9, H⟩ := zbs H
          refine zRaa rfl rfl (by decide) hj9 (by decide) ?_
          refine zEv_k 1 (f' := (59, [some (.ref 1), some (.ref 147), some (.int x2), some (.int x3)], [.ref 147, .ref (zaa 5 j9)], zhp h)) rfl ?_
          refine zRgr rfl rfl rfl (by decide) (b := 156) rfl ?_
          obtain ⟨a10, ea10, H⟩ := zlets H
          rw [ea10]
          obtain ⟨c11, H⟩ := zifn H
          rcases c11 with rfl | rfl
          · obtain ⟨p12, hp12, H⟩ := zbs H
            refine zEv_c (fun _ => rfl) rfl (t_qDe_become (oo := 15) (oq := 156) (h := h) (d := d) (by decide) hp12) rfl rfl ?_
            refine zEv_k 1 (f' := (85, [some (.ref 1), some (.ref 147), some (.int x2), some (.int x3)], [], zhp p12)) rfl ?_
            exact t_qT_take_j85 (x2 := x2) (x3 := x3) (h := p12) H
          · obtain ⟨p12, hp12, H⟩ := zbs H
            refine zEv_c (fun _ => rfl) rfl (t_qDe_become (oo := 30) (oq := 156) (h := h) (d := d) (by decide) hp12) rfl rfl ?_
            refine zEv_k 1 (f' := (85, [some (.ref 1), some (.ref 147), some (.int x2), some (.int x3)], [], zhp p12)) rfl ?_
            exact t_qT_take_j85 (x2 := x2) (x3 := x3) (h := p12) H
        · have ex : x2 = 2 := zeqI hh (by decide)
          replace H := zif_f (fun e => by rw [ex] at e; exact absurd e (by decide)) H
          replace H := zif_f (fun e => by rw [ex] at e; exact absurd e (by decide)) H
          replace H := zif_t ex H
          refine zEv_k 1 (f' := (69, [some (.ref 1), some (.ref 147), some (.int x2), some (.int x3)], [.ref 1], zhp h)) rfl ?_
          refine zRgr rfl rfl rfl (by decide) (b := 6) rfl ?_
          refine zEv_k 1 (f' := (73, [some (.ref 1), some (.ref 147), some (.int x2), some (.int x3)], [.int x3, .ref 6], zhp h)) rfl ?_
          obtain ⟨j13, hj13, H⟩ := zbs H
          refine zRaa rfl rfl (by decide) hj13 (by decide) ?_
          refine zEv_k 1 (f' := (75, [some (.ref 1), some (.ref 147), some (.int x2), some (.int x3)], [.ref 147, .ref (zaa 6 j13)], zhp h)) rfl ?_
          refine zRgr rfl rfl rfl (by decide) (b := 160) rfl ?_
          obtain ⟨a14, ea14, H⟩ := zlets H
          rw [ea14]
          obtain ⟨c15, H⟩ := zifn H
          rcases c15 with rfl | rfl
          · obtain ⟨p16, hp16, H⟩ := zbs H
            refine zEv_c (fun _ => rfl) rfl (t_qLo_become (oo := 19) (oq := 160) (h := h) (d := d) (by decide) hp16) rfl rfl ?_
            refine zEv_k 1 (f' := (85, [some (.ref 1), some (.ref 147), some (.int x2), some (.int x3)], [], zhp p16)) rfl ?_
            exact t_qT_take_j85 (x2 := x2) (x3 := x3) (h := p16) H
          · obtain ⟨p16, hp16, H⟩ := zbs H
            refine zEv_c (fun _ => rfl) rfl (t_qLo_become (oo := 34) (oq := 160) (h := h) (d := d) (by decide) hp16) rfl rfl ?_
            refine zEv_k 1 (f' := (85, [some (.ref 1), some (.ref 147), some (.int x2), some (.int x3)], [], zhp p16)) rfl ?_
            exact t_qT_take_j85 (x2 := x2) (x3 := x3) (h := p16) H
    · replace H := zif_f c2 H
      cases H
      exact zEv_r rfl
def qT_become_b56 (oo : Nat) (oq : Nat) (s : Int32 × zK) : Option ((Int32 × zK) ⊕ (zK)) :=
  if 2 ≤ s.1 then
    some (.inr s.2)
  else
    (zix s.1 2).bind fun j9 =>
    zlet (zaa (oo + 3) j9) fun a10 =>
    zlet (zaa (oq + 3) j9) fun a11 =>
    if (a10 = 7 ∧ a11 = 44) ∨ (a10 = 22 ∧ a11 = 59) ∨ (a10 = 7 ∧ a11 = 80) ∨ (a10 = 22 ∧ a11 = 95) ∨ (a10 = 7 ∧ a11 = 116) ∨ (a10 = 22 ∧ a11 = 131) ∨ (a10 = 44 ∧ a11 = 7) ∨ (a10 = 59 ∧ a11 = 22) ∨ (a10 = 80 ∧ a11 = 7) ∨ (a10 = 95 ∧ a11 = 22) ∨ (a10 = 116 ∧ a11 = 7) ∨ (a10 = 131 ∧ a11 = 22) ∨ (a10 = 7 ∧ a11 = 148) ∨ (a10 = 22 ∧ a11 = 148) then
      (qCe_become a10 a11 s.2).bind fun p13 =>
      zlet (zaa (oo + 4) j9) fun a14 =>
      zlet (zaa (oq + 4) j9) fun a15 =>
      if (a14 = 15 ∧ a15 = 52) ∨ (a14 = 30 ∧ a15 = 67) ∨ (a14 = 15 ∧ a15 = 88) ∨ (a14 = 30 ∧ a15 = 103) ∨ (a14 = 15 ∧ a15 = 124) ∨ (a14 = 30 ∧ a15 = 139) ∨ (a14 = 52 ∧ a15 = 15) ∨ (a14 = 67 ∧ a15 = 30) ∨ (a14 = 88 ∧ a15 = 15) ∨ (a14 = 103 ∧ a15 = 30) ∨ (a14 = 124 ∧ a15 = 15) ∨ (a14 = 139 ∧ a15 = 30) ∨ (a14 = 15 ∧ a15 = 156) ∨ (a14 = 30 ∧ a15 = 156) then
        (qDe_become a14 a15 p13).bind fun p17 =>
        zlet (zaa (oo + 5) j9) fun a18 =>
        zlet (zaa (oq + 5) j9) fun a19 =>
        if (a18 = 19 ∧ a19 = 56) ∨ (a18 = 34 ∧ a19 = 71) ∨ (a18 = 19 ∧ a19 = 92) ∨ (a18 = 34 ∧ a19 = 107) ∨ (a18 = 19 ∧ a19 = 128) ∨ (a18 = 34 ∧ a19 = 143) ∨ (a18 = 56 ∧ a19 = 19) ∨ (a18 = 71 ∧ a19 = 34) ∨ (a18 = 92 ∧ a19 = 19) ∨ (a18 = 107 ∧ a19 = 34) ∨ (a18 = 128 ∧ a19 = 19) ∨ (a18 = 143 ∧ a19 = 34) ∨ (a18 = 19 ∧ a19 = 160) ∨ (a18 = 34 ∧ a19 = 160) then
          (qLo_become a18 a19 p17).bind fun p21 =>
          some (.inl (s.1 + 1, p21))
        else none
      else none
    else none
theorem t_qT_become_b56b {Ls : Nat} {xs : Nat → Int32} {d : Nat} {oo : Nat} {oq : Nat} {r : zA} {s : Int32 × zK} {e : (Int32 × zK) ⊕ (zK)} (ho : (oo = 1 ∧ oq = 38) ∨ (oo = 1 ∧ oq = 74) ∨ (oo = 1 ∧ oq = 110) ∨ (oo = 38 ∧ oq = 1) ∨ (oo = 74 ∧ oq = 1) ∨ (oo = 110 ∧ oq = 1)) (H : qT_become_b56 oo oq s = some e) (K : match (generalizing := false) e with | .inl s' => zEv (zXs Ls xs) (d + 1) zm_93 (56, [some (.ref oo), some (.ref oq), some (.int s'.1)], [], zhp s'.2) r | .inr v => ∀ (z2 : Option Value), zEv (zXs Ls xs) (d + 1) zm_93 (112, [some (.ref oo), some (.ref oq), z2], [], zhp v) r) : zEv (zXs Ls xs) (d + 1) zm_93 (56, [some (.ref oo), some (.ref oq), some (.int s.1)], [], zhp s.2) r := by
  unfold qT_become_b56 at H
  rcases ho with ⟨rfl, rfl⟩ | ⟨rfl, rfl⟩ | ⟨rfl, rfl⟩ | ⟨rfl, rfl⟩ | ⟨rfl, rfl⟩ | ⟨rfl, rfl⟩
  · refine zEv_k 3 (f' := (if 2 ≤ s.1 then 112 else 61, [some (.ref 1), some (.ref 38), some (.int s.1)], [], zhp s.2)) rfl (zEv_if (fun c8 => ?_) (fun c8 => ?_))
    · replace H := zif_t c8 H
      cases H
      exact K _
    · replace H := zif_f c8 H
      refine zEv_k 1 (f' := (62, [some (.ref 1), some (.ref 38), some (.int s.1)], [.ref 1], zhp s.2)) rfl ?_
      refine zRgr rfl rfl rfl (by decide) (b := 1 + 3) rfl ?_
      refine zEv_k 1 (f' := (66, [some (.ref 1), some (.ref 38), some (.int s.1)], [.int s.1, .ref (1 + 3)], zhp s.2)) rfl ?_
      obtain ⟨j9, hj9, H⟩ := zbs H
      refine zRaa rfl rfl (by decide) hj9 (by decide) ?_
      refine zEv_k 1 (f' := (68, [some (.ref 1), some (.ref 38), some (.int s.1)], [.ref 38, .ref (zaa (1 + 3) j9)], zhp s.2)) rfl ?_
      refine zRgr rfl rfl rfl (by decide) (b := 38 + 3) rfl ?_
      refine zEv_k 1 (f' := (72, [some (.ref 1), some (.ref 38), some (.int s.1)], [.int s.1, .ref (38 + 3), .ref (zaa (1 + 3) j9)], zhp s.2)) rfl ?_
      refine zRaa rfl rfl (by decide) hj9 (by decide) ?_
      obtain ⟨a10, ea10, H⟩ := zlets H
      rw [ea10]
      obtain ⟨a11, ea11, H⟩ := zlets H
      rw [ea11]
      obtain ⟨c12, H⟩ := zifn H
      obtain ⟨p13, hp13, H⟩ := zbs H
      refine zEv_c (mid := 2) (args := [.ref a10, .ref a11]) (rest := []) (ret := none) (fun _ => by rcases c12 with ⟨rfl, rfl⟩ | ⟨rfl, rfl⟩ | ⟨rfl, rfl⟩ | ⟨rfl, rfl⟩ | ⟨rfl, rfl⟩ | ⟨rfl, rfl⟩ | ⟨rfl, rfl⟩ | ⟨rfl, rfl⟩ | ⟨rfl, rfl⟩ | ⟨rfl, rfl⟩ | ⟨rfl, rfl⟩ | ⟨rfl, rfl⟩ | ⟨rfl, rfl⟩ | ⟨rfl, rfl⟩ <;> rfl) rfl (t_qCe_become (oo := a10) (oq := a11) (h := s.2) (d := d) c12 hp13) rfl rfl ?_
      refine zEv_k 1 (f' := (77, [some (.ref 1), some (.ref 38), some (.int s.1)], [.ref 1], zhp p13)) rfl ?_
      refine zRgr rfl rfl rfl (by decide) (b := 1 + 4) rfl ?_
      refine zEv_k 1 (f' := (81, [some (.ref 1), some (.ref 38), some (.int s.1)], [.int s.1, .ref (1 + 4)], zhp p13)) rfl ?_
      refine zRaa rfl rfl (by decide) hj9 (by decide) ?_
      refine zEv_k 1 (f' := (83, [some (.ref 1), some (.ref 38), some (.int s.1)], [.ref 38, .ref (zaa (1 + 4) j9)], zhp p13)) rfl ?_
      refine zRgr rfl rfl rfl (by decide) (b := 38 + 4) rfl ?_
      refine zEv_k 1 (f' := (87, [some (.ref 1), some (.ref 38), some (.int s.1)], [.int s.1, .ref (38 + 4), .ref (zaa (1 + 4) j9)], zhp p13)) rfl ?_
      refine zRaa rfl rfl (by decide) hj9 (by decide) ?_
      obtain ⟨a14, ea14, H⟩ := zlets H
      rw [ea14]
      obtain ⟨a15, ea15, H⟩ := zlets H
      rw [ea15]
      obtain ⟨c16, H⟩ := zifn H
      obtain ⟨p17, hp17, H⟩ := zbs H
      refine zEv_c (mid := 11) (args := [.ref a14, .ref a15]) (rest := []) (ret := none) (fun _ => by rcases c16 with ⟨rfl, rfl⟩ | ⟨rfl, rfl⟩ | ⟨rfl, rfl⟩ | ⟨rfl, rfl⟩ | ⟨rfl, rfl⟩ | ⟨rfl, rfl⟩ | ⟨rfl, rfl⟩ | ⟨rfl, rfl⟩ | ⟨rfl, rfl⟩ | ⟨rfl, rfl⟩ | ⟨rfl, rfl⟩ | ⟨rfl, rfl⟩ | ⟨rfl, rfl⟩ | ⟨rfl, rfl⟩ <;> rfl) rfl (t_qDe_become (oo := a14) (oq := a15) (h := p13) (d := d) c16 hp17) rfl rfl ?_
      refine zEv_k 1 (f' := (92, [some (.ref 1), some (.ref 38), some (.int s.1)], [.ref 1], zhp p17)) rfl ?_
      refine zRgr rfl rfl rfl (by decide) (b := 1 + 5) rfl ?_
      refine zEv_k 1 (f' := (96, [some (.ref 1), some (.ref 38), some (.int s.1)], [.int s.1, .ref (1 + 5)], zhp p17)) rfl ?_
      refine zRaa rfl rfl (by decide) hj9 (by decide) ?_
      refine zEv_k 1 (f' := (98, [some (.ref 1), some (.ref 38), some (.int s.1)], [.ref 38, .ref (zaa (1 + 5) j9)], zhp p17)) rfl ?_
      refine zRgr rfl rfl rfl (by decide) (b := 38 + 5) rfl ?_
      refine zEv_k 1 (f' := (102, [some (.ref 1), some (.ref 38), some (.int s.1)], [.int s.1, .ref (38 + 5), .ref (zaa (1 + 5) j9)], zhp p17)) rfl ?_
      refine zRaa rfl rfl (by decide) hj9 (by decide) ?_
      obtain ⟨a18, ea18, H⟩ := zlets H
      rw [ea18]
      obtain ⟨a19, ea19, H⟩ := zlets H
      rw [ea19]
      obtain ⟨c20, H⟩ := zifn H
      obtain ⟨p21, hp21, H⟩ := zbs H
      refine zEv_c (mid := 36) (args := [.ref a18, .ref a19]) (rest := []) (ret := none) (fun _ => by rcases c20 with ⟨rfl, rfl⟩ | ⟨rfl, rfl⟩ | ⟨rfl, rfl⟩ | ⟨rfl, rfl⟩ | ⟨rfl, rfl⟩ | ⟨rfl, rfl⟩ | ⟨rfl, rfl⟩ | ⟨rfl, rfl⟩ | ⟨rfl, rfl⟩ | ⟨rfl, rfl⟩ | ⟨rfl, rfl⟩ | ⟨rfl, rfl⟩ | ⟨rfl, rfl⟩ | ⟨rfl, rfl⟩ <;> rfl) rfl (t_qLo_become (oo := a18) (oq := a19) (h := p17) (d := d) c20 hp21) rfl rfl ?_
      refine zEv_k 2 (f' := (56, [some (.ref 1), some (.ref 38), some (.int (s.1 + 1))], [], zhp p21)) rfl ?_
      cases H
      exact K
  · refine zEv_k 3 (f' := (if 2 ≤ s.1 then 112 else 61, [some (.ref 1), some (.ref 74), some (.int s.1)], [], zhp s.2)) rfl (zEv_if (fun c8 => ?_) (fun c8 => ?_))
    · replace H := zif_t c8 H
      cases H
      exact K _
    · replace H := zif_f c8 H
      refine zEv_k 1 (f' := (62, [some (.ref 1), some (.ref 74), some (.int s.1)], [.ref 1], zhp s.2)) rfl ?_
      refine zRgr rfl rfl rfl (by decide) (b := 1 + 3) rfl ?_
      refine zEv_k 1 (f' := (66, [some (.ref 1), some (.ref 74), some (.int s.1)], [.int s.1, .ref (1 + 3)], zhp s.2)) rfl ?_
      obtain ⟨j9, hj9, H⟩ := zbs H
      refine zRaa rfl rfl (by decide) hj9 (by decide) ?_
      refine zEv_k 1 (f' := (68, [some (.ref 1), some (.ref 74), some (.int s.1)], [.ref 74, .ref (zaa (1 + 3) j9)], zhp s.2)) rfl ?_
      refine zRgr rfl rfl rfl (by decide) (b := 74 + 3) rfl ?_
      refine zEv_k 1 (f' := (72, [some (.ref 1), some (.ref 74), some (.int s.1)], [.int s.1, .ref (74 + 3), .ref (zaa (1 + 3) j9)], zhp s.2)) rfl ?_
      refine zRaa rfl rfl (by decide) hj9 (by decide) ?_
      obtain ⟨a10, ea10, H⟩ := zlets H
      rw [ea10]
      obtain ⟨a11, ea11, H⟩ := zlets H
      rw [ea11]
      obtain ⟨c12, H⟩ := zifn H
      obtain ⟨p13, hp13, H⟩ := zbs H
      refine zEv_c (mid := 2) (args := [.ref a10, .ref a11]) (rest := []) (ret := none) (fun _ => by rcases c12 with ⟨rfl, rfl⟩ | ⟨rfl, rfl⟩ | ⟨rfl, rfl⟩ | ⟨rfl, rfl⟩ | ⟨rfl, rfl⟩ | ⟨rfl, rfl⟩ | ⟨rfl, rfl⟩ | ⟨rfl, rfl⟩ | ⟨rfl, rfl⟩ | ⟨rfl, rfl⟩ | ⟨rfl, rfl⟩ | ⟨rfl, rfl⟩ | ⟨rfl, rfl⟩ | ⟨rfl, rfl⟩ <;> rfl) rfl (t_qCe_become (oo := a10) (oq := a11) (h := s.2) (d := d) c12 hp13) rfl rfl ?_
      refine zEv_k 1 (f' := (77, [some (.ref 1), some (.ref 74), some (.int s.1)], [.ref 1], zhp p13)) rfl ?_
      refine zRgr rfl rfl rfl (by decide) (b := 1 + 4) rfl ?_
      refine zEv_k 1 (f' := (81, [some (.ref 1), some (.ref 74), some (.int s.1)], [.int s.1, .ref (1 + 4)], zhp p13)) rfl ?_
      refine zRaa rfl rfl (by decide) hj9 (by decide) ?_
      refine zEv_k 1 (f' := (83, [some (.ref 1), some (.ref 74), some (.int s.1)], [.ref 74, .ref (zaa (1 + 4) j9)], zhp p13)) rfl ?_
      refine zRgr rfl rfl rfl (by decide) (b := 74 + 4) rfl ?_
      refine zEv_k 1 (f' := (87, [some (.ref 1), some (.ref 74), some (.int s.1)], [.int s.1, .ref (74 + 4), .ref (zaa (1 + 4) j9)], zhp p13)) rfl ?_
      refine zRaa rfl rfl (by decide) hj9 (by decide) ?_
      obtain ⟨a14, ea14, H⟩ := zlets H
      rw [ea14]
      obtain ⟨a15, ea15, H⟩ := zlets H
      rw [ea15]
      obtain ⟨c16, H⟩ := zifn H
      obtain ⟨p17, hp17, H⟩ := zbs H
      refine zEv_c (mid := 11) (args := [.ref a14, .ref a15]) (rest := []) (ret := none) (fun _ => by rcases c16 with ⟨rfl, rfl⟩ | ⟨rfl, rfl⟩ | ⟨rfl, rfl⟩ | ⟨rfl, rfl⟩ | ⟨rfl, rfl⟩ | ⟨rfl, rfl⟩ | ⟨rfl, rfl⟩ | ⟨rfl, rfl⟩ | ⟨rfl, rfl⟩ | ⟨rfl, rfl⟩ | ⟨rfl, rfl⟩ | ⟨rfl, rfl⟩ | ⟨rfl, rfl⟩ | ⟨rfl, rfl⟩ <;> rfl) rfl (t_qDe_become (oo := a14) (oq := a15) (h := p13) (d := d) c16 hp17) rfl rfl ?_
      refine zEv_k 1 (f' := (92, [some (.ref 1), some (.ref 74), some (.int s.1)], [.ref 1], zhp p17)) rfl ?_
      refine zRgr rfl rfl rfl (by decide) (b := 1 + 5) rfl ?_
      refine zEv_k 1 (f' := (96, [some (.ref 1), some (.ref 74), some (.int s.1)], [.int s.1, .ref (1 + 5)], zhp p17)) rfl ?_
      refine zRaa rfl rfl (by decide) hj9 (by decide) ?_
      refine zEv_k 1 (f' := (98, [some (.ref 1), some (.ref 74), some (.int s.1)], [.ref 74, .ref (zaa (1 + 5) j9)], zhp p17)) rfl ?_
      refine zRgr rfl rfl rfl (by decide) (b := 74 + 5) rfl ?_
      refine zEv_k 1 (f' := (102, [some (.ref 1), some (.ref 74), some (.int s.1)], [.int s.1, .ref (74 + 5), .ref (zaa (1 + 5) j9)], zhp p17)) rfl ?_
      refine zRaa rfl rfl (by decide) hj9 (by decide) ?_
      obtain ⟨a18, ea18, H⟩ := zlets H
      rw [ea18]
      obtain ⟨a19, ea19, H⟩ := zlets H
      rw [ea19]
      obtain ⟨c20, H⟩ := zifn H
      obtain ⟨p21, hp21, H⟩ := zbs H
      refine zEv_c (mid := 36) (args := [.ref a18, .ref a19]) (rest := []) (ret := none) (fun _ => by rcases c20 with ⟨rfl, rfl⟩ | ⟨rfl, rfl⟩ | ⟨rfl, rfl⟩ | ⟨rfl, rfl⟩ | ⟨rfl, rfl⟩ | ⟨rfl, rfl⟩ | ⟨rfl, rfl⟩ | ⟨rfl, rfl⟩ | ⟨rfl, rfl⟩ | ⟨rfl, rfl⟩ | ⟨rfl, rfl⟩ | ⟨rfl, rfl⟩ | ⟨rfl, rfl⟩ | ⟨rfl, rfl⟩ <;> rfl) rfl (t_qLo_become (oo := a18) (oq := a19) (h := p17) (d := d) c20 hp21) rfl rfl ?_
      refine zEv_k 2 (f' := (56, [some (.ref 1), some (.ref 74), some (.int (s.1 + 1))], [], zhp p21)) rfl ?_
      cases H
      exact K
  · refine zEv_k 3 (f' := (if 2 ≤ s.1 then 112 else 61, [some (.ref 1), some (.ref 110), some (.int s.1)], [], zhp s.2)) rfl (zEv_if (fun c8 => ?_) (fun c8 => ?_))
    · replace H := zif_t c8 H
      cases H
      exact K _
    · replace H := zif_f c8 H
      refine zEv_k 1 (f' := (62, [some (.ref 1), some (.ref 110), some (.int s.1)], [.ref 1], zhp s.2)) rfl ?_
      refine zRgr rfl rfl rfl (by decide) (b := 1 + 3) rfl ?_
      refine zEv_k 1 (f' := (66, [some (.ref 1), some (.ref 110), some (.int s.1)], [.int s.1, .ref (1 + 3)], zhp s.2)) rfl ?_
      obtain ⟨j9, hj9, H⟩ := zbs H
      refine zRaa rfl rfl (by decide) hj9 (by decide) ?_
      refine zEv_k 1 (f' := (68, [some (.ref 1), some (.ref 110), some (.int s.1)], [.ref 110, .ref (zaa (1 + 3) j9)], zhp s.2)) rfl ?_
      refine zRgr rfl rfl rfl (by decide) (b := 110 + 3) rfl ?_
      refine zEv_k 1 (f' := (72, [some (.ref 1), some (.ref 110), some (.int s.1)], [.int s.1, .ref (110 + 3), .ref (zaa (1 + 3) j9)], zhp s.2)) rfl ?_
      refine zRaa rfl rfl (by decide) hj9 (by decide) ?_
      obtain ⟨a10, ea10, H⟩ := zlets H
      rw [ea10]
      obtain ⟨a11, ea11, H⟩ := zlets H
      rw [ea11]
      obtain ⟨c12, H⟩ := zifn H
      obtain ⟨p13, hp13, H⟩ := zbs H
      refine zEv_c (mid := 2) (args := [.ref a10, .ref a11]) (rest := []) (ret := none) (fun _ => by rcases c12 with ⟨rfl, rfl⟩ | ⟨rfl, rfl⟩ | ⟨rfl, rfl⟩ | ⟨rfl, rfl⟩ | ⟨rfl, rfl⟩ | ⟨rfl, rfl⟩ | ⟨rfl, rfl⟩ | ⟨rfl, rfl⟩ | ⟨rfl, rfl⟩ | ⟨rfl, rfl⟩ | ⟨rfl, rfl⟩ | ⟨rfl, rfl⟩ | ⟨rfl, rfl⟩ | ⟨rfl, rfl⟩ <;> rfl) rfl (t_qCe_become (oo := a10) (oq := a11) (h := s.2) (d := d) c12 hp13) rfl rfl ?_
      refine zEv_k 1 (f' := (77, [some (.ref 1), some (.ref 110), some (.int s.1)], [.ref 1], zhp p13)) rfl ?_
      refine zRgr rfl rfl rfl (by decide) (b := 1 + 4) rfl ?_
      refine zEv_k 1 (f' := (81, [some (.ref 1), some (.ref 110), some (.int s.1)], [.int s.1, .ref (1 + 4)], zhp p13)) rfl ?_
      refine zRaa rfl rfl (by decide) hj9 (by decide) ?_
      refine zEv_k 1 (f' := (83, [some (.ref 1), some (.ref 110), some (.int s.1)], [.ref 110, .ref (zaa (1 + 4) j9)], zhp p13)) rfl ?_
      refine zRgr rfl rfl rfl (by decide) (b := 110 + 4) rfl ?_
      refine zEv_k 1 (f' := (87, [some (.ref 1), some (.ref 110), some (.int s.1)], [.int s.1, .ref (110 + 4), .ref (zaa (1 + 4) j9)], zhp p13)) rfl ?_
      refine zRaa rfl rfl (by decide) hj9 (by decide) ?_
      obtain ⟨a14, ea14, H⟩ := zlets H
      rw [ea14]
      obtain ⟨a15, ea15, H⟩ := zlets H
      rw [ea15]
      obtain ⟨c16, H⟩ := zifn H
      obtain ⟨p17, hp17, H⟩ := zbs H
      refine zEv_c (mid := 11) (args := [.ref a14, .ref a15]) (rest := []) (ret := none) (fun _ => by rcases c16 with ⟨rfl, rfl⟩ | ⟨rfl, rfl⟩ | ⟨rfl, rfl⟩ | ⟨rfl, rfl⟩ | ⟨rfl, rfl⟩ | ⟨rfl, rfl⟩ | ⟨rfl, rfl⟩ | ⟨rfl, rfl⟩ | ⟨rfl, rfl⟩ | ⟨rfl, rfl⟩ | ⟨rfl, rfl⟩ | ⟨rfl, rfl⟩ | ⟨rfl, rfl⟩ | ⟨rfl, rfl⟩ <;> rfl) rfl (t_qDe_become (oo := a14) (oq := a15) (h := p13) (d := d) c16 hp17) rfl rfl ?_
      refine zEv_k 1 (f' := (92, [some (.ref 1), some (.ref 110), some (.int s.1)], [.ref 1], zhp p17)) rfl ?_
      refine zRgr rfl rfl rfl (by decide) (b := 1 + 5) rfl ?_
      refine zEv_k 1 (f' := (96, [some (.ref 1), some (.ref 110), some (.int s.1)], [.int s.1, .ref (1 + 5)], zhp p17)) rfl ?_
      refine zRaa rfl rfl (by decide) hj9 (by decide) ?_
      refine zEv_k 1 (f' := (98, [some (.ref 1), some (.ref 110), some (.int s.1)], [.ref 110, .ref (zaa (1 + 5) j9)], zhp p17)) rfl ?_
      refine zRgr rfl rfl rfl (by decide) (b := 110 + 5) rfl ?_
      refine zEv_k 1 (f' := (102, [some (.ref 1), some (.ref 110), some (.int s.1)], [.int s.1, .ref (110 + 5), .ref (zaa (1 + 5) j9)], zhp p17)) rfl ?_
      refine zRaa rfl rfl (by decide) hj9 (by decide) ?_
      obtain ⟨a18, ea18, H⟩ := zlets H
      rw [ea18]
      obtain ⟨a19, ea19, H⟩ := zlets H
      rw [ea19]
      obtain ⟨c20, H⟩ := zifn H
      obtain ⟨p21, hp21, H⟩ := zbs H
      refine zEv_c (mid := 36) (args := [.ref a18, .ref a19]) (rest := []) (ret := none) (fun _ => by rcases c20 with ⟨rfl, rfl⟩ | ⟨rfl, rfl⟩ | ⟨rfl, rfl⟩ | ⟨rfl, rfl⟩ | ⟨rfl, rfl⟩ | ⟨rfl, rfl⟩ | ⟨rfl, rfl⟩ | ⟨rfl, rfl⟩ | ⟨rfl, rfl⟩ | ⟨rfl, rfl⟩ | ⟨rfl, rfl⟩ | ⟨rfl, rfl⟩ | ⟨rfl, rfl⟩ | ⟨rfl, rfl⟩ <;> rfl) rfl (t_qLo_become (oo := a18) (oq := a19) (h := p17) (d := d) c20 hp21) rfl rfl ?_
      refine zEv_k 2 (f' := (56, [some (.ref 1), some (.ref 110), some (.int (s.1 + 1))], [], zhp p21)) rfl ?_
      cases H
      exact K
  · refine zEv_k 3 (f' := (if 2 ≤ s.1 then 112 else 61, [some (.ref 38), some (.ref 1), some (.int s.1)], [], zhp s.2)) rfl (zEv_if (fun c8 => ?_) (fun c8 => ?_))
    · replace H := zif_t c8 H
      cases H
      exact K _
    · replace H := zif_f c8 H
      refine zEv_k 1 (f' := (62, [some (.ref 38), some (.ref 1), some (.int s.1)], [.ref 38], zhp s.2)) rfl ?_
      refine zRgr rfl rfl rfl (by decide) (b := 38 + 3) rfl ?_
      refine zEv_k 1 (f' := (66, [some (.ref 38), some (.ref 1), some (.int s.1)], [.int s.1, .ref (38 + 3)], zhp s.2)) rfl ?_
      obtain ⟨j9, hj9, H⟩ := zbs H
      refine zRaa rfl rfl (by decide) hj9 (by decide) ?_
      refine zEv_k 1 (f' := (68, [some (.ref 38), some (.ref 1), some (.int s.1)], [.ref 1, .ref (zaa (38 + 3) j9)], zhp s.2)) rfl ?_
      refine zRgr rfl rfl rfl (by decide) (b := 1 + 3) rfl ?_
      refine zEv_k 1 (f' := (72, [some (.ref 38), some (.ref 1), some (.int s.1)], [.int s.1, .ref (1 + 3), .ref (zaa (38 + 3) j9)], zhp s.2)) rfl ?_
      refine zRaa rfl rfl (by decide) hj9 (by decide) ?_
      obtain ⟨a10, ea10, H⟩ := zlets H
      rw [ea10]
      obtain ⟨a11, ea11, H⟩ := zlets H
      rw [ea11]
      obtain ⟨c12, H⟩ := zifn H
      obtain ⟨p13, hp13, H⟩ := zbs H
      refine zEv_c (mid := 2) (args := [.ref a10, .ref a11]) (rest := []) (ret := none) (fun _ => by rcases c12 with ⟨rfl, rfl⟩ | ⟨rfl, rfl⟩ | ⟨rfl, rfl⟩ | ⟨rfl, rfl⟩ | ⟨rfl, rfl⟩ | ⟨rfl, rfl⟩ | ⟨rfl, rfl⟩ | ⟨rfl, rfl⟩ | ⟨rfl, rfl⟩ | ⟨rfl, rfl⟩ | ⟨rfl, rfl⟩ | ⟨rfl, rfl⟩ | ⟨rfl, rfl⟩ | ⟨rfl, rfl⟩ <;> rfl) rfl (t_qCe_become (oo := a10) (oq := a11) (h := s.2) (d := d) c12 hp13) rfl rfl ?_
      refine zEv_k 1 (f' := (77, [some (.ref 38), some (.ref 1), some (.int s.1)], [.ref 38], zhp p13)) rfl ?_
      refine zRgr rfl rfl rfl (by decide) (b := 38 + 4) rfl ?_
      refine zEv_k 1 (f' := (81, [some (.ref 38), some (.ref 1), some (.int s.1)], [.int s.1, .ref (38 + 4)], zhp p13)) rfl ?_
      refine zRaa rfl rfl (by decide) hj9 (by decide) ?_
      refine zEv_k 1 (f' := (83, [some (.ref 38), some (.ref 1), some (.int s.1)], [.ref 1, .ref (zaa (38 + 4) j9)], zhp p13)) rfl ?_
      refine zRgr rfl rfl rfl (by decide) (b := 1 + 4) rfl ?_
      refine zEv_k 1 (f' := (87, [some (.ref 38), some (.ref 1), some (.int s.1)], [.int s.1, .ref (1 + 4), .ref (zaa (38 + 4) j9)], zhp p13)) rfl ?_
      refine zRaa rfl rfl (by decide) hj9 (by decide) ?_
      obtain ⟨a14, ea14, H⟩ := zlets H
      rw [ea14]
      obtain ⟨a15, ea15, H⟩ := zlets H
      rw [ea15]
      obtain ⟨c16, H⟩ := zifn H
      obtain ⟨p17, hp17, H⟩ := zbs H
      refine zEv_c (mid := 11) (args := [.ref a14, .ref a15]) (rest := []) (ret := none) (fun _ => by rcases c16 with ⟨rfl, rfl⟩ | ⟨rfl, rfl⟩ | ⟨rfl, rfl⟩ | ⟨rfl, rfl⟩ | ⟨rfl, rfl⟩ | ⟨rfl, rfl⟩ | ⟨rfl, rfl⟩ | ⟨rfl, rfl⟩ | ⟨rfl, rfl⟩ | ⟨rfl, rfl⟩ | ⟨rfl, rfl⟩ | ⟨rfl, rfl⟩ | ⟨rfl, rfl⟩ | ⟨rfl, rfl⟩ <;> rfl) rfl (t_qDe_become (oo := a14) (oq := a15) (h := p13) (d := d) c16 hp17) rfl rfl ?_
      refine zEv_k 1 (f' := (92, [some (.ref 38), some (.ref 1), some (.int s.1)], [.ref 38], zhp p17)) rfl ?_
      refine zRgr rfl rfl rfl (by decide) (b := 38 + 5) rfl ?_
      refine zEv_k 1 (f' := (96, [some (.ref 38), some (.ref 1), some (.int s.1)], [.int s.1, .ref (38 + 5)], zhp p17)) rfl ?_
      refine zRaa rfl rfl (by decide) hj9 (by decide) ?_
      refine zEv_k 1 (f' := (98, [some (.ref 38), some (.ref 1), some (.int s.1)], [.ref 1, .ref (zaa (38 + 5) j9)], zhp p17)) rfl ?_
      refine zRgr rfl rfl rfl (by decide) (b := 1 + 5) rfl ?_
      refine zEv_k 1 (f' := (102, [some (.ref 38), some (.ref 1), some (.int s.1)], [.int s.1, .ref (1 + 5), .ref (zaa (38 + 5) j9)], zhp p17)) rfl ?_
      refine zRaa rfl rfl (by decide) hj9 (by decide) ?_
      obtain ⟨a18, ea18, H⟩ := zlets H
      rw [ea18]
      obtain ⟨a19, ea19, H⟩ := zlets H
      rw [ea19]
      obtain ⟨c20, H⟩ := zifn H
      obtain ⟨p21, hp21, H⟩ := zbs H
      refine zEv_c (mid := 36) (args := [.ref a18, .ref a19]) (rest := []) (ret := none) (fun _ => by rcases c20 with ⟨rfl, rfl⟩ | ⟨rfl, rfl⟩ | ⟨rfl, rfl⟩ | ⟨rfl, rfl⟩ | ⟨rfl, rfl⟩ | ⟨rfl, rfl⟩ | ⟨rfl, rfl⟩ | ⟨rfl, rfl⟩ | ⟨rfl, rfl⟩ | ⟨rfl, rfl⟩ | ⟨rfl, rfl⟩ | ⟨rfl, rfl⟩ | ⟨rfl, rfl⟩ | ⟨rfl, rfl⟩ <;> rfl) rfl (t_qLo_become (oo := a18) (oq := a19) (h := p17) (d := d) c20 hp21) rfl rfl ?_
      refine zEv_k 2 (f' := (56, [some (.ref 38), some (.ref 1), some (.int (s.1 + 1))], [], zhp p21)) rfl ?_
      cases H
      exact K
  · refine zEv_k 3 (f' := (if 2 ≤ s.1 then 112 else 61, [some (.ref 74), some (.ref 1), some (.int s.1)], [], zhp s.2)) rfl (zEv_if (fun c8 => ?_) (fun c8 => ?_))
    · replace H := zif_t c8 H
      cases H
      exact K _
    · replace H := zif_f c8 H
      refine zEv_k 1 (f' := (62, [some (.ref 74), some (.ref 1), some (.int s.1)], [.ref 74], zhp s.2)) rfl ?_
      refine zRgr rfl rfl rfl (by decide) (b := 74 + 3) rfl ?_
      refine zEv_k 1 (f' := (66, [some (.ref 74), some (.ref 1), some (.int s.1)], [.int s.1, .ref (74 + 3)], zhp s.2)) rfl ?_
      obtain ⟨j9, hj9, H⟩ := zbs H
      refine zRaa rfl rfl (by decide) hj9 (by decide) ?_
      refine zEv_k 1 (f' := (68, [some (.ref 74), some (.ref 1), some (.int s.1)], [.ref 1, .ref (zaa (74 + 3) j9)], zhp s.2)) rfl ?_
      refine zRgr rfl rfl rfl (by decide) (b := 1 + 3) rfl ?_
      refine zEv_k 1 (f' := (72, [some (.ref 74), some (.ref 1), some (.int s.1)], [.int s.1, .ref (1 + 3), .ref (zaa (74 + 3) j9)], zhp s.2)) rfl ?_
      refine zRaa rfl rfl (by decide) hj9 (by decide) ?_
      obtain ⟨a10, ea10, H⟩ := zlets H
      rw [ea10]
      obtain ⟨a11, ea11, H⟩ := zlets H
      rw [ea11]
      obtain ⟨c12, H⟩ := zifn H
      obtain ⟨p13, hp13, H⟩ := zbs H
      refine zEv_c (mid := 2) (args := [.ref a10, .ref a11]) (rest := []) (ret := none) (fun _ => by rcases c12 with ⟨rfl, rfl⟩ | ⟨rfl, rfl⟩ | ⟨rfl, rfl⟩ | ⟨rfl, rfl⟩ | ⟨rfl, rfl⟩ | ⟨rfl, rfl⟩ | ⟨rfl, rfl⟩ | ⟨rfl, rfl⟩ | ⟨rfl, rfl⟩ | ⟨rfl, rfl⟩ | ⟨rfl, rfl⟩ | ⟨rfl, rfl⟩ | ⟨rfl, rfl⟩ | ⟨rfl, rfl⟩ <;> rfl) rfl (t_qCe_become (oo := a10) (oq := a11) (h := s.2) (d := d) c12 hp13) rfl rfl ?_
      refine zEv_k 1 (f' := (77, [some (.ref 74), some (.ref 1), some (.int s.1)], [.ref 74], zhp p13)) rfl ?_
      refine zRgr rfl rfl rfl (by decide) (b := 74 + 4) rfl ?_
      refine zEv_k 1 (f' := (81, [some (.ref 74), some (.ref 1), some (.int s.1)], [.int s.1, .ref (74 + 4)], zhp p13)) rfl ?_
      refine zRaa rfl rfl (by decide) hj9 (by decide) ?_
      refine zEv_k 1 (f' := (83, [some (.ref 74), some (.ref 1), some (.int s.1)], [.ref 1, .ref (zaa (74 + 4) j9)], zhp p13)) rfl ?_
      refine zRgr rfl rfl rfl (by decide) (b := 1 + 4) rfl ?_
      refine zEv_k 1 (f' := (87, [some (.ref 74), some (.ref 1), some (.int s.1)], [.int s.1, .ref (1 + 4), .ref (zaa (74 + 4) j9)], zhp p13)) rfl ?_
      refine zRaa rfl rfl (by decide) hj9 (by decide) ?_
      obtain ⟨a14, ea14, H⟩ := zlets H
      rw [ea14]
      obtain ⟨a15, ea15, H⟩ := zlets H
      rw [ea15]
      obtain ⟨c16, H⟩ := zifn H
      obtain ⟨p17, hp17, H⟩ := zbs H
      refine zEv_c (mid := 11) (args := [.ref a14, .ref a15]) (rest := []) (ret := none) (fun _ => by rcases c16 with ⟨rfl, rfl⟩ | ⟨rfl, rfl⟩ | ⟨rfl, rfl⟩ | ⟨rfl, rfl⟩ | ⟨rfl, rfl⟩ | ⟨rfl, rfl⟩ | ⟨rfl, rfl⟩ | ⟨rfl, rfl⟩ | ⟨rfl, rfl⟩ | ⟨rfl, rfl⟩ | ⟨rfl, rfl⟩ | ⟨rfl, rfl⟩ | ⟨rfl, rfl⟩ | ⟨rfl, rfl⟩ <;> rfl) rfl (t_qDe_become (oo := a14) (oq := a15) (h := p13) (d := d) c16 hp17) rfl rfl ?_
      refine zEv_k 1 (f' := (92, [some (.ref 74), some (.ref 1), some (.int s.1)], [.ref 74], zhp p17)) rfl ?_
      refine zRgr rfl rfl rfl (by decide) (b := 74 + 5) rfl ?_
      refine zEv_k 1 (f' := (96, [some (.ref 74), some (.ref 1), some (.int s.1)], [.int s.1, .ref (74 + 5)], zhp p17)) rfl ?_
      refine zRaa rfl rfl (by decide) hj9 (by decide) ?_
      refine zEv_k 1 (f' := (98, [some (.ref 74), some (.ref 1), some (.int s.1)], [.ref 1, .ref (zaa (74 + 5) j9)], zhp p17)) rfl ?_
      refine zRgr rfl rfl rfl (by decide) (b := 1 + 5) rfl ?_
      refine zEv_k 1 (f' := (102, [some (.ref 74), some (.ref 1), some (.int s.1)], [.int s.1, .ref (1 + 5), .ref (zaa (74 + 5) j9)], zhp p17)) rfl ?_
      refine zRaa rfl rfl (by decide) hj9 (by decide) ?_
      obtain ⟨a18, ea18, H⟩ := zlets H
      rw [ea18]
      obtain ⟨a19, ea19, H⟩ := zlets H
      rw [ea19]
      obtain ⟨c20, H⟩ := zifn H
      obtain ⟨p21, hp21, H⟩ := zbs H
      refine zEv_c (mid := 36) (args := [.ref a18, .ref a19]) (rest := []) (ret := none) (fun _ => by rcases c20 with ⟨rfl, rfl⟩ | ⟨rfl, rfl⟩ | ⟨rfl, rfl⟩ | ⟨rfl, rfl⟩ | ⟨rfl, rfl⟩ | ⟨rfl, rfl⟩ | ⟨rfl, rfl⟩ | ⟨rfl, rfl⟩ | ⟨rfl, rfl⟩ | ⟨rfl, rfl⟩ | ⟨rfl, rfl⟩ | ⟨rfl, rfl⟩ | ⟨rfl, rfl⟩ | ⟨rfl, rfl⟩ <;> rfl) rfl (t_qLo_become (oo := a18) (oq := a19) (h := p17) (d := d) c20 hp21) rfl rfl ?_
      refine zEv_k 2 (f' := (56, [some (.ref 74), some (.ref 1), some (.int (s.1 + 1))], [], zhp p21)) rfl ?_
      cases H
      exact K
  · refine zEv_k 3 (f' := (if 2 ≤ s.1 then 112 else 61, [some (.ref 110), some (.ref 1), some (.int s.1)], [], zhp s.2)) rfl (zEv_if (fun c8 => ?_) (fun c8 => ?_))
    · replace H := zif_t c8 H
      cases H
      exact K _
    · replace H := zif_f c8 H
      refine zEv_k 1 (f' := (62, [some (.ref 110), some (.ref 1), some (.int s.1)], [.ref 110], zhp s.2)) rfl ?_
      refine zRgr rfl rfl rfl (by decide) (b := 110 + 3) rfl ?_
      refine zEv_k 1 (f' := (66, [some (.ref 110), some (.ref 1), some (.int s.1)], [.int s.1, .ref (110 + 3)], zhp s.2)) rfl ?_
      obtain ⟨j9, hj9, H⟩ := zbs H
      refine zRaa rfl rfl (by decide) hj9 (by decide) ?_
      refine zEv_k 1 (f' := (68, [some (.ref 110), some (.ref 1), some (.int s.1)], [.ref 1, .ref (zaa (110 + 3) j9)], zhp s.2)) rfl ?_
      refine zRgr rfl rfl rfl (by decide) (b := 1 + 3) rfl ?_
      refine zEv_k 1 (f' := (72, [some (.ref 110), some (.ref 1), some (.int s.1)], [.int s.1, .ref (1 + 3), .ref (zaa (110 + 3) j9)], zhp s.2)) rfl ?_
      refine zRaa rfl rfl (by decide) hj9 (by decide) ?_
      obtain ⟨a10, ea10, H⟩ := zlets H
      rw [ea10]
      obtain ⟨a11, ea11, H⟩ := zlets H
      rw [ea11]
      obtain ⟨c12, H⟩ := zifn H
      obtain ⟨p13, hp13, H⟩ := zbs H
      refine zEv_c (mid := 2) (args := [.ref a10, .ref a11]) (rest := []) (ret := none) (fun _ => by rcases c12 with ⟨rfl, rfl⟩ | ⟨rfl, rfl⟩ | ⟨rfl, rfl⟩ | ⟨rfl, rfl⟩ | ⟨rfl, rfl⟩ | ⟨rfl, rfl⟩ | ⟨rfl, rfl⟩ | ⟨rfl, rfl⟩ | ⟨rfl, rfl⟩ | ⟨rfl, rfl⟩ | ⟨rfl, rfl⟩ | ⟨rfl, rfl⟩ | ⟨rfl, rfl⟩ | ⟨rfl, rfl⟩ <;> rfl) rfl (t_qCe_become (oo := a10) (oq := a11) (h := s.2) (d := d) c12 hp13) rfl rfl ?_
      refine zEv_k 1 (f' := (77, [some (.ref 110), some (.ref 1), some (.int s.1)], [.ref 110], zhp p13)) rfl ?_
      refine zRgr rfl rfl rfl (by decide) (b := 110 + 4) rfl ?_
      refine zEv_k 1 (f' := (81, [some (.ref 110), some (.ref 1), some (.int s.1)], [.int s.1, .ref (110 + 4)], zhp p13)) rfl ?_
      refine zRaa rfl rfl (by decide) hj9 (by decide) ?_
      refine zEv_k 1 (f' := (83, [some (.ref 110), some (.ref 1), some (.int s.1)], [.ref 1, .ref (zaa (110 + 4) j9)], zhp p13)) rfl ?_
      refine zRgr rfl rfl rfl (by decide) (b := 1 + 4) rfl ?_
      refine zEv_k 1 (f' := (87, [some (.ref 110), some (.ref 1), some (.int s.1)], [.int s.1, .ref (1 + 4), .ref (zaa (110 + 4) j9)], zhp p13)) rfl ?_
      refine zRaa rfl rfl (by decide) hj9 (by decide) ?_
      obtain ⟨a14, ea14, H⟩ := zlets H
      rw [ea14]
      obtain ⟨a15, ea15, H⟩ := zlets H
      rw [ea15]
      obtain ⟨c16, H⟩ := zifn H
      obtain ⟨p17, hp17, H⟩ := zbs H
      refine zEv_c (mid := 11) (args := [.ref a14, .ref a15]) (rest := []) (ret := none) (fun _ => by rcases c16 with ⟨rfl, rfl⟩ | ⟨rfl, rfl⟩ | ⟨rfl, rfl⟩ | ⟨rfl, rfl⟩ | ⟨rfl, rfl⟩ | ⟨rfl, rfl⟩ | ⟨rfl, rfl⟩ | ⟨rfl, rfl⟩ | ⟨rfl, rfl⟩ | ⟨rfl, rfl⟩ | ⟨rfl, rfl⟩ | ⟨rfl, rfl⟩ | ⟨rfl, rfl⟩ | ⟨rfl, rfl⟩ <;> rfl) rfl (t_qDe_become (oo := a14) (oq := a15) (h := p13) (d := d) c16 hp17) rfl rfl ?_
      refine zEv_k 1 (f' := (92, [some (.ref 110), some (.ref 1), some (.int s.1)], [.ref 110], zhp p17)) rfl ?_
      refine zRgr rfl rfl rfl (by decide) (b := 110 + 5) rfl ?_
      refine zEv_k 1 (f' := (96, [some (.ref 110), some (.ref 1), some (.int s.1)], [.int s.1, .ref (110 + 5)], zhp p17)) rfl ?_
      refine zRaa rfl rfl (by decide) hj9 (by decide) ?_
      refine zEv_k 1 (f' := (98, [some (.ref 110), some (.ref 1), some (.int s.1)], [.ref 1, .ref (zaa (110 + 5) j9)], zhp p17)) rfl ?_
      refine zRgr rfl rfl rfl (by decide) (b := 1 + 5) rfl ?_
      refine zEv_k 1 (f' := (102, [some (.ref 110), some (.ref 1), some (.int s.1)], [.int s.1, .ref (1 + 5), .ref (zaa (110 + 5) j9)], zhp p17)) rfl ?_
      refine zRaa rfl rfl (by decide) hj9 (by decide) ?_
      obtain ⟨a18, ea18, H⟩ := zlets H
      rw [ea18]
      obtain ⟨a19, ea19, H⟩ := zlets H
      rw [ea19]
      obtain ⟨c20, H⟩ := zifn H
      obtain ⟨p21, hp21, H⟩ := zbs H
      refine zEv_c (mid := 36) (args := [.ref a18, .ref a19]) (rest := []) (ret := none) (fun _ => by rcases c20 with ⟨rfl, rfl⟩ | ⟨rfl, rfl⟩ | ⟨rfl, rfl⟩ | ⟨rfl, rfl⟩ | ⟨rfl, rfl⟩ | ⟨rfl, rfl⟩ | ⟨rfl, rfl⟩ | ⟨rfl, rfl⟩ | ⟨rfl, rfl⟩ | ⟨rfl, rfl⟩ | ⟨rfl, rfl⟩ | ⟨rfl, rfl⟩ | ⟨rfl, rfl⟩ | ⟨rfl, rfl⟩ <;> rfl) rfl (t_qLo_become (oo := a18) (oq := a19) (h := p17) (d := d) c20 hp21) rfl rfl ?_
      refine zEv_k 2 (f' := (56, [some (.ref 110), some (.ref 1), some (.int (s.1 + 1))], [], zhp p21)) rfl ?_
      cases H
      exact K
theorem t_qT_become_b56 {Ls : Nat} {xs : Nat → Int32} {d : Nat} {oo : Nat} {oq : Nat} {r : zA} (ho : (oo = 1 ∧ oq = 38) ∨ (oo = 1 ∧ oq = 74) ∨ (oo = 1 ∧ oq = 110) ∨ (oo = 38 ∧ oq = 1) ∨ (oo = 74 ∧ oq = 1) ∨ (oo = 110 ∧ oq = 1)) {t : zK} (K : ∀ (z2 : Option Value), zEv (zXs Ls xs) (d + 1) zm_93 (112, [some (.ref oo), some (.ref oq), z2], [], zhp t) r) (n : Nat) (s : Int32 × zK) (H : zloop (qT_become_b56 oo oq) n s = some t) : zEv (zXs Ls xs) (d + 1) zm_93 (56, [some (.ref oo), some (.ref oq), some (.int s.1)], [], zhp s.2) r := by
  have Z := zloop_P (P := fun s => zEv (zXs Ls xs) (d + 1) zm_93 (56, [some (.ref oo), some (.ref oq), some (.int s.1)], [], zhp s.2) r) (b := qT_become_b56 oo oq) (t := t) (fun s s2 hb hk => by exact t_qT_become_b56b ho hb hk) (fun s hb => by exact t_qT_become_b56b ho hb K) n s H
  exact Z
def qT_become (oo : Nat) (oq : Nat) (h : zK) : Option (zK) :=
  zlet (cI h (oq + 1) (oo + 1) 0 0 600) fun h1 =>
  zlet (sI h1 oo 1 (gI h1 oq 1)) fun h3 =>
  zlet (sI h3 oo 2 (gI h3 oq 2)) fun h4 =>
  zlet (sI h4 oo 3 (gI h4 oq 3)) fun h5 =>
  zlet (cI h5 (oq + 2) (oo + 2) 0 0 3) fun h6 =>
  (zloop (qT_become_b56 oo oq) zfu (0, h6)).bind fun t22 =>
  some t22
theorem t_qT_become {Ls : Nat} {xs : Nat → Int32} {d : Nat} {oo : Nat} {oq : Nat} {h : zK} {p : zK} (ho : (oo = 1 ∧ oq = 38) ∨ (oo = 1 ∧ oq = 74) ∨ (oo = 1 ∧ oq = 110) ∨ (oo = 38 ∧ oq = 1) ∨ (oo = 74 ∧ oq = 1) ∨ (oo = 110 ∧ oq = 1)) (H : qT_become oo oq h = some p) : zEv (zXs Ls xs) (d + 1) zm_93 (0, [some (.ref oo), some (.ref oq), none], [], zhp h) (none, zhp p) := by
  unfold qT_become at H
  rcases ho with ⟨rfl, rfl⟩ | ⟨rfl, rfl⟩ | ⟨rfl, rfl⟩ | ⟨rfl, rfl⟩ | ⟨rfl, rfl⟩ | ⟨rfl, rfl⟩
  · refine zEv_k 1 (f' := (1, [some (.ref 1), some (.ref 38), none], [.ref 38], zhp h)) rfl ?_
    refine zRgr rfl rfl rfl (by decide) (b := 38 + 1) rfl ?_
    refine zEv_k 2 (f' := (6, [some (.ref 1), some (.ref 38), none], [.ref 1, .int 0, .ref (38 + 1)], zhp h)) rfl ?_
    refine zRgr rfl rfl rfl (by decide) (b := 1 + 1) rfl ?_
    refine zEv_k 2 (f' := (13, [some (.ref 1), some (.ref 38), none], [.int 600, .int 0, .ref (1 + 1), .int 0, .ref (38 + 1)], zhp h)) rfl ?_
    obtain ⟨h1, eh1, H⟩ := zlets H
    refine zRcp rfl rfl rfl (by decide) (by decide) (by decide) (by unfold zcpok; decide) (by decide) eh1 ?_
    obtain ⟨h3, eh3, H⟩ := zlets H
    refine zEv_w (F := fun z => (24, [some (.ref 1), some (.ref 38), none], [], zhp z)) (h0 := sI h1 1 1 (gI h1 38 1)) 4 rfl eh3 ?_
    obtain ⟨h4, eh4, H⟩ := zlets H
    refine zEv_w (F := fun z => (32, [some (.ref 1), some (.ref 38), none], [], zhp z)) (h0 := sI h3 1 2 (gI h3 38 2)) 4 rfl eh4 ?_
    obtain ⟨h5, eh5, H⟩ := zlets H
    refine zEv_w (F := fun z => (40, [some (.ref 1), some (.ref 38), none], [], zhp z)) (h0 := sI h4 1 3 (gI h4 38 3)) 4 rfl eh5 ?_
    refine zEv_k 1 (f' := (41, [some (.ref 1), some (.ref 38), none], [.ref 38], zhp h5)) rfl ?_
    refine zRgr rfl rfl rfl (by decide) (b := 38 + 2) rfl ?_
    refine zEv_k 2 (f' := (46, [some (.ref 1), some (.ref 38), none], [.ref 1, .int 0, .ref (38 + 2)], zhp h5)) rfl ?_
    refine zRgr rfl rfl rfl (by decide) (b := 1 + 2) rfl ?_
    refine zEv_k 2 (f' := (51, [some (.ref 1), some (.ref 38), none], [.int 3, .int 0, .ref (1 + 2), .int 0, .ref (38 + 2)], zhp h5)) rfl ?_
    obtain ⟨h6, eh6, H⟩ := zlets H
    refine zRcp rfl rfl rfl (by decide) (by decide) (by decide) (by unfold zcpok; decide) (by decide) eh6 ?_
    refine zEv_k 2 (f' := (56, [some (.ref 1), some (.ref 38), some (.int 0)], [], zhp h6)) rfl ?_
    obtain ⟨t22, ht22, H⟩ := zbs H
    refine t_qT_become_b56 (oo := 1) (oq := 38) (by decide) ?_ zfu _ ht22
    intro y2
    cases H
    exact zEv_r rfl
  · refine zEv_k 1 (f' := (1, [some (.ref 1), some (.ref 74), none], [.ref 74], zhp h)) rfl ?_
    refine zRgr rfl rfl rfl (by decide) (b := 74 + 1) rfl ?_
    refine zEv_k 2 (f' := (6, [some (.ref 1), some (.ref 74), none], [.ref 1, .int 0, .ref (74 + 1)], zhp h)) rfl ?_
    refine zRgr rfl rfl rfl (by decide) (b := 1 + 1) rfl ?_
    refine zEv_k 2 (f' := (13, [some (.ref 1), some (.ref 74), none], [.int 600, .int 0, .ref (1 + 1), .int 0, .ref (74 + 1)], zhp h)) rfl ?_
    obtain ⟨h1, eh1, H⟩ := zlets H
    refine zRcp rfl rfl rfl (by decide) (by decide) (by decide) (by unfold zcpok; decide) (by decide) eh1 ?_
    obtain ⟨h3, eh3, H⟩ := zlets H
    refine zEv_w (F := fun z => (24, [some (.ref 1), some (.ref 74), none], [], zhp z)) (h0 := sI h1 1 1 (gI h1 74 1)) 4 rfl eh3 ?_
    obtain ⟨h4, eh4, H⟩ := zlets H
    refine zEv_w (F := fun z => (32, [some (.ref 1), some (.ref 74), none], [], zhp z)) (h0 := sI h3 1 2 (gI h3 74 2)) 4 rfl eh4 ?_
    obtain ⟨h5, eh5, H⟩ := zlets H
    refine zEv_w (F := fun z => (40, [some (.ref 1), some (.ref 74), none], [], zhp z)) (h0 := sI h4 1 3 (gI h4 74 3)) 4 rfl eh5 ?_
    refine zEv_k 1 (f' := (41, [some (.ref 1), some (.ref 74), none], [.ref 74], zhp h5)) rfl ?_
    refine zRgr rfl rfl rfl (by decide) (b := 74 + 2) rfl ?_
    refine zEv_k 2 (f' := (46, [some (.ref 1), some (.ref 74), none], [.ref 1, .int 0, .ref (74 + 2)], zhp h5)) rfl ?_
    refine zRgr rfl rfl rfl (by decide) (b := 1 + 2) rfl ?_
    refine zEv_k 2 (f' := (51, [some (.ref 1), some (.ref 74), none], [.int 3, .int 0, .ref (1 + 2), .int 0, .ref (74 + 2)], zhp h5)) rfl ?_
    obtain ⟨h6, eh6, H⟩ := zlets H
    refine zRcp rfl rfl rfl (by decide) (by decide) (by decide) (by unfold zcpok; decide) (by decide) eh6 ?_
    refine zEv_k 2 (f' := (56, [some (.ref 1), some (.ref 74), some (.int 0)], [], zhp h6)) rfl ?_
    obtain ⟨t22, ht22, H⟩ := zbs H
    refine t_qT_become_b56 (oo := 1) (oq := 74) (by decide) ?_ zfu _ ht22
    intro y2
    cases H
    exact zEv_r rfl
  · refine zEv_k 1 (f' := (1, [some (.ref 1), some (.ref 110), none], [.ref 110], zhp h)) rfl ?_
    refine zRgr rfl rfl rfl (by decide) (b := 110 + 1) rfl ?_
    refine zEv_k 2 (f' := (6, [some (.ref 1), some (.ref 110), none], [.ref 1, .int 0, .ref (110 + 1)], zhp h)) rfl ?_
    refine zRgr rfl rfl rfl (by decide) (b := 1 + 1) rfl ?_
    refine zEv_k 2 (f' := (13, [some (.ref 1), some (.ref 110), none], [.int 600, .int 0, .ref (1 + 1), .int 0, .ref (110 + 1)], zhp h)) rfl ?_
    obtain ⟨h1, eh1, H⟩ := zlets H
    refine zRcp rfl rfl rfl (by decide) (by decide) (by decide) (by unfold zcpok; decide) (by decide) eh1 ?_
    obtain ⟨h3, eh3, H⟩ := zlets H
    refine zEv_w (F := fun z => (24, [some (.ref 1), some (.ref 110), none], [], zhp z)) (h0 := sI h1 1 1 (gI h1 110 1)) 4 rfl eh3 ?_
    obtain ⟨h4, eh4, H⟩ := zlets H
    refine zEv_w (F := fun z => (32, [some (.ref 1), some (.ref 110), none], [], zhp z)) (h0 := sI h3 1 2 (gI h3 110 2)) 4 rfl eh4 ?_
    obtain ⟨h5, eh5, H⟩ := zlets H
    refine zEv_w (F := fun z => (40, [some (.ref 1), some (.ref 110), none], [], zhp z)) (h0 := sI h4 1 3 (gI h4 110 3)) 4 rfl eh5 ?_
    refine zEv_k 1 (f' := (41, [some (.ref 1), some (.ref 110), none], [.ref 110], zhp h5)) rfl ?_
    refine zRgr rfl rfl rfl (by decide) (b := 110 + 2) rfl ?_
    refine zEv_k 2 (f' := (46, [some (.ref 1), some (.ref 110), none], [.ref 1, .int 0, .ref (110 + 2)], zhp h5)) rfl ?_
    refine zRgr rfl rfl rfl (by decide) (b := 1 + 2) rfl ?_
    refine zEv_k 2 (f' := (51, [some (.ref 1), some (.ref 110), none], [.int 3, .int 0, .ref (1 + 2), .int 0, .ref (110 + 2)], zhp h5)) rfl ?_
    obtain ⟨h6, eh6, H⟩ := zlets H
    refine zRcp rfl rfl rfl (by decide) (by decide) (by decide) (by unfold zcpok; decide) (by decide) eh6 ?_
    refine zEv_k 2 (f' := (56, [some (.ref 1), some (.ref 110), some (.int 0)], [], zhp h6)) rfl ?_
    obtain ⟨t22, ht22, H⟩ := zbs H
    refine t_qT_become_b56 (oo := 1) (oq := 110) (by decide) ?_ zfu _ ht22
    intro y2
    cases H
    exact zEv_r rfl
  · refine zEv_k 1 (f' := (1, [some (.ref 38), some (.ref 1), none], [.ref 1], zhp h)) rfl ?_
    refine zRgr rfl rfl rfl (by decide) (b := 1 + 1) rfl ?_
    refine zEv_k 2 (f' := (6, [some (.ref 38), some (.ref 1), none], [.ref 38, .int 0, .ref (1 + 1)], zhp h)) rfl ?_
    refine zRgr rfl rfl rfl (by decide) (b := 38 + 1) rfl ?_
    refine zEv_k 2 (f' := (13, [some (.ref 38), some (.ref 1), none], [.int 600, .int 0, .ref (38 + 1), .int 0, .ref (1 + 1)], zhp h)) rfl ?_
    obtain ⟨h1, eh1, H⟩ := zlets H
    refine zRcp rfl rfl rfl (by decide) (by decide) (by decide) (by unfold zcpok; decide) (by decide) eh1 ?_
    obtain ⟨h3, eh3, H⟩ := zlets H
    refine zEv_w (F := fun z => (24, [some (.ref 38), some (.ref 1), none], [], zhp z)) (h0 := sI h1 38 1 (gI h1 1 1)) 4 rfl eh3 ?_
    obtain ⟨h4, eh4, H⟩ := zlets H
    refine zEv_w (F := fun z => (32, [some (.ref 38), some (.ref 1), none], [], zhp z)) (h0 := sI h3 38 2 (gI h3 1 2)) 4 rfl eh4 ?_
    obtain ⟨h5, eh5, H⟩ := zlets H
    refine zEv_w (F := fun z => (40, [some (.ref 38), some (.ref 1), none], [], zhp z)) (h0 := sI h4 38 3 (gI h4 1 3)) 4 rfl eh5 ?_
    refine zEv_k 1 (f' := (41, [some (.ref 38), some (.ref 1), none], [.ref 1], zhp h5)) rfl ?_
    refine zRgr rfl rfl rfl (by decide) (b := 1 + 2) rfl ?_
    refine zEv_k 2 (f' := (46, [some (.ref 38), some (.ref 1), none], [.ref 38, .int 0, .ref (1 + 2)], zhp h5)) rfl ?_
    refine zRgr rfl rfl rfl (by decide) (b := 38 + 2) rfl ?_
    refine zEv_k 2 (f' := (51, [some (.ref 38), some (.ref 1), none], [.int 3, .int 0, .ref (38 + 2), .int 0, .ref (1 + 2)], zhp h5)) rfl ?_
    obtain ⟨h6, eh6, H⟩ := zlets H
    refine zRcp rfl rfl rfl (by decide) (by decide) (by decide) (by unfold zcpok; decide) (by decide) eh6 ?_
    refine zEv_k 2 (f' := (56, [some (.ref 38), some (.ref 1), some (.int 0)], [], zhp h6)) rfl ?_
    obtain ⟨t22, ht22, H⟩ := zbs H
    refine t_qT_become_b56 (oo := 38) (oq := 1) (by decide) ?_ zfu _ ht22
    intro y2
    cases H
    exact zEv_r rfl
  · refine zEv_k 1 (f' := (1, [some (.ref 74), some (.ref 1), none], [.ref 1], zhp h)) rfl ?_
    refine zRgr rfl rfl rfl (by decide) (b := 1 + 1) rfl ?_
    refine zEv_k 2 (f' := (6, [some (.ref 74), some (.ref 1), none], [.ref 74, .int 0, .ref (1 + 1)], zhp h)) rfl ?_
    refine zRgr rfl rfl rfl (by decide) (b := 74 + 1) rfl ?_
    refine zEv_k 2 (f' := (13, [some (.ref 74), some (.ref 1), none], [.int 600, .int 0, .ref (74 + 1), .int 0, .ref (1 + 1)], zhp h)) rfl ?_
    obtain ⟨h1, eh1, H⟩ := zlets H
    refine zRcp rfl rfl rfl (by decide) (by decide) (by decide) (by unfold zcpok; decide) (by decide) eh1 ?_
    obtain ⟨h3, eh3, H⟩ := zlets H
    refine zEv_w (F := fun z => (24, [some (.ref 74), some (.ref 1), none], [], zhp z)) (h0 := sI h1 74 1 (gI h1 1 1)) 4 rfl eh3 ?_
    obtain ⟨h4, eh4, H⟩ := zlets H
    refine zEv_w (F := fun z => (32, [some (.ref 74), some (.ref 1), none], [], zhp z)) (h0 := sI h3 74 2 (gI h3 1 2)) 4 rfl eh4 ?_
    obtain ⟨h5, eh5, H⟩ := zlets H
    refine zEv_w (F := fun z => (40, [some (.ref 74), some (.ref 1), none], [], zhp z)) (h0 := sI h4 74 3 (gI h4 1 3)) 4 rfl eh5 ?_
    refine zEv_k 1 (f' := (41, [some (.ref 74), some (.ref 1), none], [.ref 1], zhp h5)) rfl ?_
    refine zRgr rfl rfl rfl (by decide) (b := 1 + 2) rfl ?_
    refine zEv_k 2 (f' := (46, [some (.ref 74), some (.ref 1), none], [.ref 74, .int 0, .ref (1 + 2)], zhp h5)) rfl ?_
    refine zRgr rfl rfl rfl (by decide) (b := 74 + 2) rfl ?_
    refine zEv_k 2 (f' := (51, [some (.ref 74), some (.ref 1), none], [.int 3, .int 0, .ref (74 + 2), .int 0, .ref (1 + 2)], zhp h5)) rfl ?_
    obtain ⟨h6, eh6, H⟩ := zlets H
    refine zRcp rfl rfl rfl (by decide) (by decide) (by decide) (by unfold zcpok; decide) (by decide) eh6 ?_
    refine zEv_k 2 (f' := (56, [some (.ref 74), some (.ref 1), some (.int 0)], [], zhp h6)) rfl ?_
    obtain ⟨t22, ht22, H⟩ := zbs H
    refine t_qT_become_b56 (oo := 74) (oq := 1) (by decide) ?_ zfu _ ht22
    intro y2
    cases H
    exact zEv_r rfl
  · refine zEv_k 1 (f' := (1, [some (.ref 110), some (.ref 1), none], [.ref 1], zhp h)) rfl ?_
    refine zRgr rfl rfl rfl (by decide) (b := 1 + 1) rfl ?_
    refine zEv_k 2 (f' := (6, [some (.ref 110), some (.ref 1), none], [.ref 110, .int 0, .ref (1 + 1)], zhp h)) rfl ?_
    refine zRgr rfl rfl rfl (by decide) (b := 110 + 1) rfl ?_
    refine zEv_k 2 (f' := (13, [some (.ref 110), some (.ref 1), none], [.int 600, .int 0, .ref (110 + 1), .int 0, .ref (1 + 1)], zhp h)) rfl ?_
    obtain ⟨h1, eh1, H⟩ := zlets H
    refine zRcp rfl rfl rfl (by decide) (by decide) (by decide) (by unfold zcpok; decide) (by decide) eh1 ?_
    obtain ⟨h3, eh3, H⟩ := zlets H
    refine zEv_w (F := fun z => (24, [some (.ref 110), some (.ref 1), none], [], zhp z)) (h0 := sI h1 110 1 (gI h1 1 1)) 4 rfl eh3 ?_
    obtain ⟨h4, eh4, H⟩ := zlets H
    refine zEv_w (F := fun z => (32, [some (.ref 110), some (.ref 1), none], [], zhp z)) (h0 := sI h3 110 2 (gI h3 1 2)) 4 rfl eh4 ?_
    obtain ⟨h5, eh5, H⟩ := zlets H
    refine zEv_w (F := fun z => (40, [some (.ref 110), some (.ref 1), none], [], zhp z)) (h0 := sI h4 110 3 (gI h4 1 3)) 4 rfl eh5 ?_
    refine zEv_k 1 (f' := (41, [some (.ref 110), some (.ref 1), none], [.ref 1], zhp h5)) rfl ?_
    refine zRgr rfl rfl rfl (by decide) (b := 1 + 2) rfl ?_
    refine zEv_k 2 (f' := (46, [some (.ref 110), some (.ref 1), none], [.ref 110, .int 0, .ref (1 + 2)], zhp h5)) rfl ?_
    refine zRgr rfl rfl rfl (by decide) (b := 110 + 2) rfl ?_
    refine zEv_k 2 (f' := (51, [some (.ref 110), some (.ref 1), none], [.int 3, .int 0, .ref (110 + 2), .int 0, .ref (1 + 2)], zhp h5)) rfl ?_
    obtain ⟨h6, eh6, H⟩ := zlets H
    refine zRcp rfl rfl rfl (by decide) (by decide) (by decide) (by unfold zcpok; decide) (by decide) eh6 ?_
    refine zEv_k 2 (f' := (56, [some (.ref 110), some (.ref 1), some (.int 0)], [], zhp h6)) rfl ?_
    obtain ⟨t22, ht22, H⟩ := zbs H
    refine t_qT_become_b56 (oo := 110) (oq := 1) (by decide) ?_ zfu _ ht22
    intro y2
    cases H
    exact zEv_r rfl
def qLk_witOf_b4 (oc : Nat) (x1 : Int32) (h : zK) (s : Int32 × Int32) : Option ((Int32 × Int32) ⊕ (Int32)) :=
  if (gI h oc 2) ≤ s.2 then
    some (.inr s.1)
  else
    Option.bind (
        if (zf_cin x1 s.2) = 0 then
          some s.1
        else
          (zix s.2 7).bind fun j4 =>
          some (s.1 + (gI h (oc + 1) j4))
      ) fun (v3 : Int32) =>
    some (.inl (v3, s.2 + 1))
theorem t_qLk_witOf_b4b {Ls : Nat} {xs : Nat → Int32} {d : Nat} {oc : Nat} {x1 : Int32} {h : zK} {r : zA} {s : Int32 × Int32} {e : (Int32 × Int32) ⊕ (Int32)} (ho : oc = 7 ∨ oc = 22) (H : qLk_witOf_b4 oc x1 h s = some e) (K : match (generalizing := false) e with | .inl s' => zEv (zXs Ls xs) (d + 1) zm_273 (4, [some (.ref oc), some (.int x1), some (.int s'.1), some (.int s'.2)], [], zhp h) r | .inr v => ∀ (z3 : Option Value), zEv (zXs Ls xs) (d + 1) zm_273 (35, [some (.ref oc), some (.int x1), some (.int v), z3], [], zhp h) r) : zEv (zXs Ls xs) (d + 1) zm_273 (4, [some (.ref oc), some (.int x1), some (.int s.1), some (.int s.2)], [], zhp h) r := by
  unfold qLk_witOf_b4 at H
  rcases ho with rfl | rfl
  · refine zEv_k 4 (f' := (if (gI h 7 2) ≤ s.2 then 35 else 12, [some (.ref 7), some (.int x1), some (.int s.1), some (.int s.2)], [], zhp h)) rfl (zEv_if (fun c1 => ?_) (fun c1 => ?_))
    · replace H := zif_t c1 H
      cases H
      exact K _
    · replace H := zif_f c1 H
      obtain ⟨v3, hv3, H⟩ := zbs H
      have kv3 : zEv (zXs Ls xs) (d + 1) zm_273 (29, [some (.ref 7), some (.int x1), some (.int v3), some (.int s.2)], [], zhp h) r := by
        refine zEv_k 2 (f' := (4, [some (.ref 7), some (.int x1), some (.int v3), some (.int (s.2 + 1))], [], zhp h)) rfl ?_
        cases H
        exact K
      clear H
      refine zEv_k 2 (f' := (14, [some (.ref 7), some (.int x1), some (.int s.1), some (.int s.2)], [.int s.2, .int x1], zhp h)) rfl ?_
      refine zEv_c (fun _ => rfl) rfl ev_zf_cin rfl rfl ?_
      refine zEv_k 1 (f' := (if (zf_cin x1 s.2) = 0 then 29 else 20, [some (.ref 7), some (.int x1), some (.int s.1), some (.int s.2)], [], zhp h)) rfl (zEv_if (fun c2 => ?_) (fun c2 => ?_))
      · replace hv3 := zif_t c2 hv3
        cases hv3
        exact kv3
      · replace hv3 := zif_f c2 hv3
        refine zEv_k 2 (f' := (22, [some (.ref 7), some (.int x1), some (.int s.1), some (.int s.2)], [.ref 7, .int s.1], zhp h)) rfl ?_
        refine zRgr rfl rfl rfl (by decide) (b := 7 + 1) rfl ?_
        refine zEv_k 1 (f' := (26, [some (.ref 7), some (.int x1), some (.int s.1), some (.int s.2)], [.int s.2, .ref (7 + 1), .int s.1], zhp h)) rfl ?_
        obtain ⟨j4, hj4, hv3⟩ := zbs hv3
        refine zRia rfl rfl (by decide) hj4 ?_
        refine zEv_k 2 (f' := (29, [some (.ref 7), some (.int x1), some (.int (s.1 + (gI h (7 + 1) j4))), some (.int s.2)], [], zhp h)) rfl ?_
        cases hv3
        exact kv3
  · refine zEv_k 4 (f' := (if (gI h 22 2) ≤ s.2 then 35 else 12, [some (.ref 22), some (.int x1), some (.int s.1), some (.int s.2)], [], zhp h)) rfl (zEv_if (fun c1 => ?_) (fun c1 => ?_))
    · replace H := zif_t c1 H
      cases H
      exact K _
    · replace H := zif_f c1 H
      obtain ⟨v3, hv3, H⟩ := zbs H
      have kv3 : zEv (zXs Ls xs) (d + 1) zm_273 (29, [some (.ref 22), some (.int x1), some (.int v3), some (.int s.2)], [], zhp h) r := by
        refine zEv_k 2 (f' := (4, [some (.ref 22), some (.int x1), some (.int v3), some (.int (s.2 + 1))], [], zhp h)) rfl ?_
        cases H
        exact K
      clear H
      refine zEv_k 2 (f' := (14, [some (.ref 22), some (.int x1), some (.int s.1), some (.int s.2)], [.int s.2, .int x1], zhp h)) rfl ?_
      refine zEv_c (fun _ => rfl) rfl ev_zf_cin rfl rfl ?_
      refine zEv_k 1 (f' := (if (zf_cin x1 s.2) = 0 then 29 else 20, [some (.ref 22), some (.int x1), some (.int s.1), some (.int s.2)], [], zhp h)) rfl (zEv_if (fun c2 => ?_) (fun c2 => ?_))
      · replace hv3 := zif_t c2 hv3
        cases hv3
        exact kv3
      · replace hv3 := zif_f c2 hv3
        refine zEv_k 2 (f' := (22, [some (.ref 22), some (.int x1), some (.int s.1), some (.int s.2)], [.ref 22, .int s.1], zhp h)) rfl ?_
        refine zRgr rfl rfl rfl (by decide) (b := 22 + 1) rfl ?_
        refine zEv_k 1 (f' := (26, [some (.ref 22), some (.int x1), some (.int s.1), some (.int s.2)], [.int s.2, .ref (22 + 1), .int s.1], zhp h)) rfl ?_
        obtain ⟨j4, hj4, hv3⟩ := zbs hv3
        refine zRia rfl rfl (by decide) hj4 ?_
        refine zEv_k 2 (f' := (29, [some (.ref 22), some (.int x1), some (.int (s.1 + (gI h (22 + 1) j4))), some (.int s.2)], [], zhp h)) rfl ?_
        cases hv3
        exact kv3
theorem t_qLk_witOf_b4 {Ls : Nat} {xs : Nat → Int32} {d : Nat} {oc : Nat} {x1 : Int32} {h : zK} {r : zA} (ho : oc = 7 ∨ oc = 22) {t : Int32} (K : ∀ (z3 : Option Value), zEv (zXs Ls xs) (d + 1) zm_273 (35, [some (.ref oc), some (.int x1), some (.int t), z3], [], zhp h) r) (n : Nat) (s : Int32 × Int32) (H : zloop (qLk_witOf_b4 oc x1 h) n s = some t) : zEv (zXs Ls xs) (d + 1) zm_273 (4, [some (.ref oc), some (.int x1), some (.int s.1), some (.int s.2)], [], zhp h) r := by
  have Z := zloop_P (P := fun s => zEv (zXs Ls xs) (d + 1) zm_273 (4, [some (.ref oc), some (.int x1), some (.int s.1), some (.int s.2)], [], zhp h) r) (b := qLk_witOf_b4 oc x1 h) (t := t) (fun s s2 hb hk => by exact t_qLk_witOf_b4b ho hb hk) (fun s hb => by exact t_qLk_witOf_b4b ho hb K) n s H
  exact Z
def qLk_witOf (oc : Nat) (x1 : Int32) (h : zK) : Option (Int32) :=
  (zloop (qLk_witOf_b4 oc x1 h) zfu (0, 0)).bind fun t5 =>
  some t5
theorem t_qLk_witOf {Ls : Nat} {xs : Nat → Int32} {d : Nat} {oc : Nat} {x1 : Int32} {h : zK} {p : Int32} (ho : oc = 7 ∨ oc = 22) (H : qLk_witOf oc x1 h = some p) : zEv (zXs Ls xs) (d + 1) zm_273 (0, [some (.ref oc), some (.int x1), none, none], [], zhp h) (some (.int p), zhp h) := by
  unfold qLk_witOf at H
  rcases ho with rfl | rfl
  · refine zEv_k 4 (f' := (4, [some (.ref 7), some (.int x1), some (.int 0), some (.int 0)], [], zhp h)) rfl ?_
    obtain ⟨t5, ht5, H⟩ := zbs H
    refine t_qLk_witOf_b4 (oc := 7) (x1 := x1) (h := h) (by decide) ?_ zfu _ ht5
    intro y3
    refine zEv_k 1 (f' := (36, [some (.ref 7), some (.int x1), some (.int t5), y3], [.int t5], zhp h)) rfl ?_
    cases H
    exact zEv_r rfl
  · refine zEv_k 4 (f' := (4, [some (.ref 22), some (.int x1), some (.int 0), some (.int 0)], [], zhp h)) rfl ?_
    obtain ⟨t5, ht5, H⟩ := zbs H
    refine t_qLk_witOf_b4 (oc := 22) (x1 := x1) (h := h) (by decide) ?_ zfu _ ht5
    intro y3
    refine zEv_k 1 (f' := (36, [some (.ref 22), some (.int x1), some (.int t5), y3], [.int t5], zhp h)) rfl ?_
    cases H
    exact zEv_r rfl
def qTr_ruin_b7 (oc : Nat) (oo : Nat) (h : zK) (s : Int32 × Int32 × Int32) : Option ((Int32 × Int32 × Int32) ⊕ (Int32)) :=
  if (gI h oo 0) ≤ s.2.2 then
    some (.inr s.2.1)
  else
    (qTr_from oo s.2.2 h).bind fun p2 =>
    (qLk_witOf oc p2 h).bind fun p3 =>
    zlet (
        if p3 ≤ s.1 then
          (s.1, s.2.1)
        else
          (p3, s.2.2)
      ) fun (v5 : Int32 × Int32) =>
    some (.inl (v5.1, v5.2, s.2.2 + 1))
theorem t_qTr_ruin_b7b {Ls : Nat} {xs : Nat → Int32} {d : Nat} {oc : Nat} {oo : Nat} {h : zK} {r : zA} {s : Int32 × Int32 × Int32} {e : (Int32 × Int32 × Int32) ⊕ (Int32)} (ho : (oc = 7 ∧ oo = 180) ∨ (oc = 22 ∧ oo = 180) ∨ (oc = 7 ∧ oo = 186) ∨ (oc = 22 ∧ oo = 186)) (H : qTr_ruin_b7 oc oo h s = some e) (K : match (generalizing := false) e with | .inl s' => ∀ (z5 : Option Value), zEv (zXs Ls xs) (d + 2) zm_102 (7, [some (.ref oo), some (.ref oc), some (.int s'.1), some (.int s'.2.1), some (.int s'.2.2), z5], [], zhp h) r | .inr v => ∀ (z2 : Option Value) (z4 : Option Value) (z5 : Option Value), zEv (zXs Ls xs) (d + 2) zm_102 (46, [some (.ref oo), some (.ref oc), z2, some (.int v), z4, z5], [], zhp h) r) (y5 : Option Value) : zEv (zXs Ls xs) (d + 2) zm_102 (7, [some (.ref oo), some (.ref oc), some (.int s.1), some (.int s.2.1), some (.int s.2.2), y5], [], zhp h) r := by
  unfold qTr_ruin_b7 at H
  rcases ho with ⟨rfl, rfl⟩ | ⟨rfl, rfl⟩ | ⟨rfl, rfl⟩ | ⟨rfl, rfl⟩
  · refine zEv_k 4 (f' := (if (gI h 180 0) ≤ s.2.2 then 46 else 16, [some (.ref 180), some (.ref 7), some (.int s.1), some (.int s.2.1), some (.int s.2.2), y5], [], zhp h)) rfl (zEv_if (fun c1 => ?_) (fun c1 => ?_))
    · replace H := zif_t c1 H
      cases H
      exact K _ _ _
    · replace H := zif_f c1 H
      refine zEv_k 3 (f' := (20, [some (.ref 180), some (.ref 7), some (.int s.1), some (.int s.2.1), some (.int s.2.2), y5], [.int s.2.2, .ref 180, .ref 7], zhp h)) rfl ?_
      obtain ⟨p2, hp2, H⟩ := zbs H
      refine zEv_c (fun _ => rfl) rfl (t_qTr_from (oo := 180) (x1 := s.2.2) (h := h) (d := d) (by decide) hp2) rfl rfl ?_
      obtain ⟨p3, hp3, H⟩ := zbs H
      refine zEv_c (fun _ => rfl) rfl (t_qLk_witOf (oc := 7) (x1 := p2) (h := h) (d := d) (by decide) hp3) rfl rfl ?_
      obtain ⟨v5, hv5, H⟩ := zlets H
      have kv5 : zEv (zXs Ls xs) (d + 2) zm_102 (40, [some (.ref 180), some (.ref 7), some (.int v5.1), some (.int v5.2), some (.int s.2.2), some (.int p3)], [], zhp h) r := by
        refine zEv_k 2 (f' := (7, [some (.ref 180), some (.ref 7), some (.int v5.1), some (.int v5.2), some (.int (s.2.2 + 1)), some (.int p3)], [], zhp h)) rfl ?_
        cases H
        exact K _
      clear H
      refine zEv_k 4 (f' := (if p3 ≤ s.1 then 40 else 34, [some (.ref 180), some (.ref 7), some (.int s.1), some (.int s.2.1), some (.int s.2.2), some (.int p3)], [], zhp h)) rfl (zEv_if (fun c4 => ?_) (fun c4 => ?_))
      · replace hv5 := zif_t c4 hv5
        cases hv5
        exact kv5
      · replace hv5 := zif_f c4 hv5
        refine zEv_k 4 (f' := (40, [some (.ref 180), some (.ref 7), some (.int p3), some (.int s.2.2), some (.int s.2.2), some (.int p3)], [], zhp h)) rfl ?_
        cases hv5
        exact kv5
  · refine zEv_k 4 (f' := (if (gI h 180 0) ≤ s.2.2 then 46 else 16, [some (.ref 180), some (.ref 22), some (.int s.1), some (.int s.2.1), some (.int s.2.2), y5], [], zhp h)) rfl (zEv_if (fun c1 => ?_) (fun c1 => ?_))
    · replace H := zif_t c1 H
      cases H
      exact K _ _ _
    · replace H := zif_f c1 H
      refine zEv_k 3 (f' := (20, [some (.ref 180), some (.ref 22), some (.int s.1), some (.int s.2.1), some (.int s.2.2), y5], [.int s.2.2, .ref 180, .ref 22], zhp h)) rfl ?_
      obtain ⟨p2, hp2, H⟩ := zbs H
      refine zEv_c (fun _ => rfl) rfl (t_qTr_from (oo := 180) (x1 := s.2.2) (h := h) (d := d) (by decide) hp2) rfl rfl ?_
      obtain ⟨p3, hp3, H⟩ := zbs H
      refine zEv_c (fun _ => rfl) rfl (t_qLk_witOf (oc := 22) (x1 := p2) (h := h) (d := d) (by decide) hp3) rfl rfl ?_
      obtain ⟨v5, hv5, H⟩ := zlets H
      have kv5 : zEv (zXs Ls xs) (d + 2) zm_102 (40, [some (.ref 180), some (.ref 22), some (.int v5.1), some (.int v5.2), some (.int s.2.2), some (.int p3)], [], zhp h) r := by
        refine zEv_k 2 (f' := (7, [some (.ref 180), some (.ref 22), some (.int v5.1), some (.int v5.2), some (.int (s.2.2 + 1)), some (.int p3)], [], zhp h)) rfl ?_
        cases H
        exact K _
      clear H
      refine zEv_k 4 (f' := (if p3 ≤ s.1 then 40 else 34, [some (.ref 180), some (.ref 22), some (.int s.1), some (.int s.2.1), some (.int s.2.2), some (.int p3)], [], zhp h)) rfl (zEv_if (fun c4 => ?_) (fun c4 => ?_))
      · replace hv5 := zif_t c4 hv5
        cases hv5
        exact kv5
      · replace hv5 := zif_f c4 hv5
        refine zEv_k 4 (f' := (40, [some (.ref 180), some (.ref 22), some (.int p3), some (.int s.2.2), some (.int s.2.2), some (.int p3)], [], zhp h)) rfl ?_
        cases hv5
        exact kv5
  · refine zEv_k 4 (f' := (if (gI h 186 0) ≤ s.2.2 then 46 else 16, [some (.ref 186), some (.ref 7), some (.int s.1), some (.int s.2.1), some (.int s.2.2), y5], [], zhp h)) rfl (zEv_if (fun c1 => ?_) (fun c1 => ?_))
    · replace H := zif_t c1 H
      cases H
      exact K _ _ _
    · replace H := zif_f c1 H
      refine zEv_k 3 (f' := (20, [some (.ref 186), some (.ref 7), some (.int s.1), some (.int s.2.1), some (.int s.2.2), y5], [.int s.2.2, .ref 186, .ref 7], zhp h)) rfl ?_
      obtain ⟨p2, hp2, H⟩ := zbs H
      refine zEv_c (fun _ => rfl) rfl (t_qTr_from (oo := 186) (x1 := s.2.2) (h := h) (d := d) (by decide) hp2) rfl rfl ?_
      obtain ⟨p3, hp3, H⟩ := zbs H
      refine zEv_c (fun _ => rfl) rfl (t_qLk_witOf (oc := 7) (x1 := p2) (h := h) (d := d) (by decide) hp3) rfl rfl ?_
      obtain ⟨v5, hv5, H⟩ := zlets H
      have kv5 : zEv (zXs Ls xs) (d + 2) zm_102 (40, [some (.ref 186), some (.ref 7), some (.int v5.1), some (.int v5.2), some (.int s.2.2), some (.int p3)], [], zhp h) r := by
        refine zEv_k 2 (f' := (7, [some (.ref 186), some (.ref 7), some (.int v5.1), some (.int v5.2), some (.int (s.2.2 + 1)), some (.int p3)], [], zhp h)) rfl ?_
        cases H
        exact K _
      clear H
      refine zEv_k 4 (f' := (if p3 ≤ s.1 then 40 else 34, [some (.ref 186), some (.ref 7), some (.int s.1), some (.int s.2.1), some (.int s.2.2), some (.int p3)], [], zhp h)) rfl (zEv_if (fun c4 => ?_) (fun c4 => ?_))
      · replace hv5 := zif_t c4 hv5
        cases hv5
        exact kv5
      · replace hv5 := zif_f c4 hv5
        refine zEv_k 4 (f' := (40, [some (.ref 186), some (.ref 7), some (.int p3), some (.int s.2.2), some (.int s.2.2), some (.int p3)], [], zhp h)) rfl ?_
        cases hv5
        exact kv5
  · refine zEv_k 4 (f' := (if (gI h 186 0) ≤ s.2.2 then 46 else 16, [some (.ref 186), some (.ref 22), some (.int s.1), some (.int s.2.1), some (.int s.2.2), y5], [], zhp h)) rfl (zEv_if (fun c1 => ?_) (fun c1 => ?_))
    · replace H := zif_t c1 H
      cases H
      exact K _ _ _
    · replace H := zif_f c1 H
      refine zEv_k 3 (f' := (20, [some (.ref 186), some (.ref 22), some (.int s.1), some (.int s.2.1), some (.int s.2.2), y5], [.int s.2.2, .ref 186, .ref 22], zhp h)) rfl ?_
      obtain ⟨p2, hp2, H⟩ := zbs H
      refine zEv_c (fun _ => rfl) rfl (t_qTr_from (oo := 186) (x1 := s.2.2) (h := h) (d := d) (by decide) hp2) rfl rfl ?_
      obtain ⟨p3, hp3, H⟩ := zbs H
      refine zEv_c (fun _ => rfl) rfl (t_qLk_witOf (oc := 22) (x1 := p2) (h := h) (d := d) (by decide) hp3) rfl rfl ?_
      obtain ⟨v5, hv5, H⟩ := zlets H
      have kv5 : zEv (zXs Ls xs) (d + 2) zm_102 (40, [some (.ref 186), some (.ref 22), some (.int v5.1), some (.int v5.2), some (.int s.2.2), some (.int p3)], [], zhp h) r := by
        refine zEv_k 2 (f' := (7, [some (.ref 186), some (.ref 22), some (.int v5.1), some (.int v5.2), some (.int (s.2.2 + 1)), some (.int p3)], [], zhp h)) rfl ?_
        cases H
        exact K _
      clear H
      refine zEv_k 4 (f' := (if p3 ≤ s.1 then 40 else 34, [some (.ref 186), some (.ref 22), some (.int s.1), some (.int s.2.1), some (.int s.2.2), some (.int p3)], [], zhp h)) rfl (zEv_if (fun c4 => ?_) (fun c4 => ?_))
      · replace hv5 := zif_t c4 hv5
        cases hv5
        exact kv5
      · replace hv5 := zif_f c4 hv5
        refine zEv_k 4 (f' := (40, [some (.ref 186), some (.ref 22), some (.int p3), some (.int s.2.2), some (.int s.2.2), some (.int p3)], [], zhp h)) rfl ?_
        cases hv5
        exact kv5
theorem t_qTr_ruin_b7 {Ls : Nat} {xs : Nat → Int32} {d : Nat} {oc : Nat} {oo : Nat} {h : zK} {r : zA} (ho : (oc = 7 ∧ oo = 180) ∨ (oc = 22 ∧ oo = 180) ∨ (oc = 7 ∧ oo = 186) ∨ (oc = 22 ∧ oo = 186)) {t : Int32} (K : ∀ (z2 : Option Value) (z4 : Option Value) (z5 : Option Value), zEv (zXs Ls xs) (d + 2) zm_102 (46, [some (.ref oo), some (.ref oc), z2, some (.int t), z4, z5], [], zhp h) r) (n : Nat) (s : Int32 × Int32 × Int32) (H : zloop (qTr_ruin_b7 oc oo h) n s = some t) (y5 : Option Value) : zEv (zXs Ls xs) (d + 2) zm_102 (7, [some (.ref oo), some (.ref oc), some (.int s.1), some (.int s.2.1), some (.int s.2.2), y5], [], zhp h) r := by
  have Z := zloop_P (P := fun s => ∀ (y5 : Option Value), zEv (zXs Ls xs) (d + 2) zm_102 (7, [some (.ref oo), some (.ref oc), some (.int s.1), some (.int s.2.1), some (.int s.2.2), y5], [], zhp h) r) (b := qTr_ruin_b7 oc oo h) (t := t) (fun s s2 hb hk => by intro y5; exact t_qTr_ruin_b7b ho hb hk y5) (fun s hb => by intro y5; exact t_qTr_ruin_b7b ho hb K y5) n s H
  exact Z y5
def qTr_ruin (oo : Nat) (oc : Nat) (h : zK) : Option (Int32) :=
  (zloop (qTr_ruin_b7 oc oo h) zfu (-1, -1, 0)).bind fun t6 =>
  some t6
theorem t_qTr_ruin {Ls : Nat} {xs : Nat → Int32} {d : Nat} {oo : Nat} {oc : Nat} {h : zK} {p : Int32} (ho : (oc = 7 ∧ oo = 180) ∨ (oc = 22 ∧ oo = 180) ∨ (oc = 7 ∧ oo = 186) ∨ (oc = 22 ∧ oo = 186)) (H : qTr_ruin oo oc h = some p) : zEv (zXs Ls xs) (d + 2) zm_102 (0, [some (.ref oo), some (.ref oc), none, none, none, none], [], zhp h) (some (.int p), zhp h) := by
  unfold qTr_ruin at H
  rcases ho with ⟨rfl, rfl⟩ | ⟨rfl, rfl⟩ | ⟨rfl, rfl⟩ | ⟨rfl, rfl⟩
  · refine zEv_k 6 (f' := (7, [some (.ref 180), some (.ref 7), some (.int (-1)), some (.int (-1)), some (.int 0), none], [], zhp h)) rfl ?_
    obtain ⟨t6, ht6, H⟩ := zbs H
    refine t_qTr_ruin_b7 (oc := 7) (oo := 180) (h := h) (by decide) ?_ zfu _ ht6 _
    intro y2 y4 y5
    refine zEv_k 1 (f' := (47, [some (.ref 180), some (.ref 7), y2, some (.int t6), y4, y5], [.int t6], zhp h)) rfl ?_
    cases H
    exact zEv_r rfl
  · refine zEv_k 6 (f' := (7, [some (.ref 180), some (.ref 22), some (.int (-1)), some (.int (-1)), some (.int 0), none], [], zhp h)) rfl ?_
    obtain ⟨t6, ht6, H⟩ := zbs H
    refine t_qTr_ruin_b7 (oc := 22) (oo := 180) (h := h) (by decide) ?_ zfu _ ht6 _
    intro y2 y4 y5
    refine zEv_k 1 (f' := (47, [some (.ref 180), some (.ref 22), y2, some (.int t6), y4, y5], [.int t6], zhp h)) rfl ?_
    cases H
    exact zEv_r rfl
  · refine zEv_k 6 (f' := (7, [some (.ref 186), some (.ref 7), some (.int (-1)), some (.int (-1)), some (.int 0), none], [], zhp h)) rfl ?_
    obtain ⟨t6, ht6, H⟩ := zbs H
    refine t_qTr_ruin_b7 (oc := 7) (oo := 186) (h := h) (by decide) ?_ zfu _ ht6 _
    intro y2 y4 y5
    refine zEv_k 1 (f' := (47, [some (.ref 186), some (.ref 7), y2, some (.int t6), y4, y5], [.int t6], zhp h)) rfl ?_
    cases H
    exact zEv_r rfl
  · refine zEv_k 6 (f' := (7, [some (.ref 186), some (.ref 22), some (.int (-1)), some (.int (-1)), some (.int 0), none], [], zhp h)) rfl ?_
    obtain ⟨t6, ht6, H⟩ := zbs H
    refine t_qTr_ruin_b7 (oc := 22) (oo := 186) (h := h) (by decide) ?_ zfu _ ht6 _
    intro y2 y4 y5
    refine zEv_k 1 (f' := (47, [some (.ref 186), some (.ref 22), y2, some (.int t6), y4, y5], [.int t6], zhp h)) rfl ?_
    cases H
    exact zEv_r rfl
def qTr_ruinWit (oo : Nat) (oc : Nat) (h : zK) : Option (Int32) :=
  (qTr_ruin oo oc h).bind fun p1 =>
  if ¬ p1 = (-1) then
    (qTr_from oo p1 h).bind fun p3 =>
    (qLk_witOf oc p3 h).bind fun p4 =>
    some p4
  else
    some 0
theorem t_qTr_ruinWit {Ls : Nat} {xs : Nat → Int32} {d : Nat} {oo : Nat} {oc : Nat} {h : zK} {p : Int32} (ho : (oc = 7 ∧ oo = 180) ∨ (oc = 22 ∧ oo = 180) ∨ (oc = 7 ∧ oo = 186) ∨ (oc = 22 ∧ oo = 186)) (H : qTr_ruinWit oo oc h = some p) : zEv (zXs Ls xs) (d + 3) zm_103 (0, [some (.ref oo), some (.ref oc), none], [], zhp h) (some (.int p), zhp h) := by
  unfold qTr_ruinWit at H
  rcases ho with ⟨rfl, rfl⟩ | ⟨rfl, rfl⟩ | ⟨rfl, rfl⟩ | ⟨rfl, rfl⟩
  · refine zEv_k 2 (f' := (2, [some (.ref 180), some (.ref 7), none], [.ref 7, .ref 180], zhp h)) rfl ?_
    obtain ⟨p1, hp1, H⟩ := zbs H
    refine zEv_c (fun _ => rfl) rfl (t_qTr_ruin (oo := 180) (oc := 7) (h := h) (d := d) (by decide) hp1) rfl rfl ?_
    refine zEv_k 4 (f' := (if ¬ p1 = (-1) then 15 else 11, [some (.ref 180), some (.ref 7), some (.int p1)], [], zhp h)) rfl (zEv_if (fun c2 => ?_) (fun c2 => ?_))
    · replace H := zif_t c2 H
      refine zEv_k 3 (f' := (18, [some (.ref 180), some (.ref 7), some (.int p1)], [.int p1, .ref 180, .ref 7], zhp h)) rfl ?_
      obtain ⟨p3, hp3, H⟩ := zbs H
      refine zEv_c (fun _ => rfl) rfl (t_qTr_from (oo := 180) (x1 := p1) (h := h) (d := d + 1) (by decide) hp3) rfl rfl ?_
      obtain ⟨p4, hp4, H⟩ := zbs H
      refine zEv_c (fun _ => rfl) rfl (t_qLk_witOf (oc := 7) (x1 := p3) (h := h) (d := d + 1) (by decide) hp4) rfl rfl ?_
      cases H
      exact zEv_r rfl
    · replace H := zif_f c2 H
      refine zEv_k 2 (f' := (24, [some (.ref 180), some (.ref 7), some (.int p1)], [.int 0], zhp h)) rfl ?_
      cases H
      exact zEv_r rfl
  · refine zEv_k 2 (f' := (2, [some (.ref 180), some (.ref 22), none], [.ref 22, .ref 180], zhp h)) rfl ?_
    obtain ⟨p1, hp1, H⟩ := zbs H
    refine zEv_c (fun _ => rfl) rfl (t_qTr_ruin (oo := 180) (oc := 22) (h := h) (d := d) (by decide) hp1) rfl rfl ?_
    refine zEv_k 4 (f' := (if ¬ p1 = (-1) then 15 else 11, [some (.ref 180), some (.ref 22), some (.int p1)], [], zhp h)) rfl (zEv_if (fun c2 => ?_) (fun c2 => ?_))
    · replace H := zif_t c2 H
      refine zEv_k 3 (f' := (18, [some (.ref 180), some (.ref 22), some (.int p1)], [.int p1, .ref 180, .ref 22], zhp h)) rfl ?_
      obtain ⟨p3, hp3, H⟩ := zbs H
      refine zEv_c (fun _ => rfl) rfl (t_qTr_from (oo := 180) (x1 := p1) (h := h) (d := d + 1) (by decide) hp3) rfl rfl ?_
      obtain ⟨p4, hp4, H⟩ := zbs H
      refine zEv_c (fun _ => rfl) rfl (t_qLk_witOf (oc := 22) (x1 := p3) (h := h) (d := d + 1) (by decide) hp4) rfl rfl ?_
      cases H
      exact zEv_r rfl
    · replace H := zif_f c2 H
      refine zEv_k 2 (f' := (24, [some (.ref 180), some (.ref 22), some (.int p1)], [.int 0], zhp h)) rfl ?_
      cases H
      exact zEv_r rfl
  · refine zEv_k 2 (f' := (2, [some (.ref 186), some (.ref 7), none], [.ref 7, .ref 186], zhp h)) rfl ?_
    obtain ⟨p1, hp1, H⟩ := zbs H
    refine zEv_c (fun _ => rfl) rfl (t_qTr_ruin (oo := 186) (oc := 7) (h := h) (d := d) (by decide) hp1) rfl rfl ?_
    refine zEv_k 4 (f' := (if ¬ p1 = (-1) then 15 else 11, [some (.ref 186), some (.ref 7), some (.int p1)], [], zhp h)) rfl (zEv_if (fun c2 => ?_) (fun c2 => ?_))
    · replace H := zif_t c2 H
      refine zEv_k 3 (f' := (18, [some (.ref 186), some (.ref 7), some (.int p1)], [.int p1, .ref 186, .ref 7], zhp h)) rfl ?_
      obtain ⟨p3, hp3, H⟩ := zbs H
      refine zEv_c (fun _ => rfl) rfl (t_qTr_from (oo := 186) (x1 := p1) (h := h) (d := d + 1) (by decide) hp3) rfl rfl ?_
      obtain ⟨p4, hp4, H⟩ := zbs H
      refine zEv_c (fun _ => rfl) rfl (t_qLk_witOf (oc := 7) (x1 := p3) (h := h) (d := d + 1) (by decide) hp4) rfl rfl ?_
      cases H
      exact zEv_r rfl
    · replace H := zif_f c2 H
      refine zEv_k 2 (f' := (24, [some (.ref 186), some (.ref 7), some (.int p1)], [.int 0], zhp h)) rfl ?_
      cases H
      exact zEv_r rfl
  · refine zEv_k 2 (f' := (2, [some (.ref 186), some (.ref 22), none], [.ref 22, .ref 186], zhp h)) rfl ?_
    obtain ⟨p1, hp1, H⟩ := zbs H
    refine zEv_c (fun _ => rfl) rfl (t_qTr_ruin (oo := 186) (oc := 22) (h := h) (d := d) (by decide) hp1) rfl rfl ?_
    refine zEv_k 4 (f' := (if ¬ p1 = (-1) then 15 else 11, [some (.ref 186), some (.ref 22), some (.int p1)], [], zhp h)) rfl (zEv_if (fun c2 => ?_) (fun c2 => ?_))
    · replace H := zif_t c2 H
      refine zEv_k 3 (f' := (18, [some (.ref 186), some (.ref 22), some (.int p1)], [.int p1, .ref 186, .ref 22], zhp h)) rfl ?_
      obtain ⟨p3, hp3, H⟩ := zbs H
      refine zEv_c (fun _ => rfl) rfl (t_qTr_from (oo := 186) (x1 := p1) (h := h) (d := d + 1) (by decide) hp3) rfl rfl ?_
      obtain ⟨p4, hp4, H⟩ := zbs H
      refine zEv_c (fun _ => rfl) rfl (t_qLk_witOf (oc := 22) (x1 := p3) (h := h) (d := d + 1) (by decide) hp4) rfl rfl ?_
      cases H
      exact zEv_r rfl
    · replace H := zif_f c2 H
      refine zEv_k 2 (f' := (24, [some (.ref 186), some (.ref 22), some (.int p1)], [.int 0], zhp h)) rfl ?_
      cases H
      exact zEv_r rfl
def qTr_rowOf_b17 (oo : Nat) (x3 : Int32) (h : zK) (s : Int32 × Int32) : Option ((Int32 × Int32) ⊕ (Int32)) :=
  if (gI h oo 0) ≤ s.2 then
    some (.inr s.1)
  else
    Option.bind (
        if (zf_cin s.1 s.2) = 0 then
          some s.1
        else
          (zix s.2 7).bind fun j5 =>
          some (s.1 ||| (gI h (oo + 2) j5))
      ) fun (v4 : Int32) =>
    some (.inl (v4, s.2 + 1))
theorem t_qTr_rowOf_b17b {Ls : Nat} {xs : Nat → Int32} {d : Nat} {oo : Nat} {x3 : Int32} {h : zK} {r : zA} {s : Int32 × Int32} {e : (Int32 × Int32) ⊕ (Int32)} (ho : oo = 180 ∨ oo = 186) (H : qTr_rowOf_b17 oo x3 h s = some e) (K : match (generalizing := false) e with | .inl s' => ∀ (z1 : Option Value), zEv (zXs Ls xs) (d + 1) zm_106 (17, [some (.ref oo), z1, some (.int s'.1), some (.int x3), some (.int s'.2)], [], zhp h) r | .inr v => ∀ (z1 : Option Value) (z4 : Option Value), zEv (zXs Ls xs) (d + 1) zm_106 (51, [some (.ref oo), z1, some (.int v), some (.int x3), z4], [], zhp h) r) (y1 : Option Value) : zEv (zXs Ls xs) (d + 1) zm_106 (17, [some (.ref oo), y1, some (.int s.1), some (.int x3), some (.int s.2)], [], zhp h) r := by
  unfold qTr_rowOf_b17 at H
  rcases ho with rfl | rfl
  · refine zEv_k 4 (f' := (if (gI h 180 0) ≤ s.2 then 51 else 26, [some (.ref 180), y1, some (.int s.1), some (.int x3), some (.int s.2)], [], zhp h)) rfl (zEv_if (fun c2 => ?_) (fun c2 => ?_))
    · replace H := zif_t c2 H
      cases H
      exact K _ _
    · replace H := zif_f c2 H
      obtain ⟨v4, hv4, H⟩ := zbs H
      have kv4 : ∀ (y1 : Option Value), zEv (zXs Ls xs) (d + 1) zm_106 (45, [some (.ref 180), y1, some (.int v4), some (.int x3), some (.int s.2)], [], zhp h) r := by
        intro y1
        refine zEv_k 2 (f' := (17, [some (.ref 180), y1, some (.int v4), some (.int x3), some (.int (s.2 + 1))], [], zhp h)) rfl ?_
        cases H
        exact K _
      clear H
      refine zEv_k 2 (f' := (29, [some (.ref 180), y1, some (.int s.1), some (.int x3), some (.int s.2)], [.int s.2, .int s.1], zhp h)) rfl ?_
      refine zEv_c (fun _ => rfl) rfl ev_zf_cin rfl rfl ?_
      refine zEv_k 1 (f' := (if (zf_cin s.1 s.2) = 0 then 45 else 35, [some (.ref 180), y1, some (.int s.1), some (.int x3), some (.int s.2)], [], zhp h)) rfl (zEv_if (fun c3 => ?_) (fun c3 => ?_))
      · replace hv4 := zif_t c3 hv4
        cases hv4
        exact kv4 _
      · replace hv4 := zif_f c3 hv4
        refine zEv_k 2 (f' := (37, [some (.ref 180), y1, some (.int s.1), some (.int x3), some (.int s.2)], [.ref 180, .int s.1], zhp h)) rfl ?_
        refine zRgr rfl rfl rfl (by decide) (b := 180 + 2) rfl ?_
        refine zEv_k 1 (f' := (42, [some (.ref 180), y1, some (.int s.1), some (.int x3), some (.int s.2)], [.int s.2, .ref (180 + 2), .int s.1], zhp h)) rfl ?_
        obtain ⟨j5, hj5, hv4⟩ := zbs hv4
        refine zRia rfl rfl (by decide) hj5 ?_
        refine zEv_k 2 (f' := (45, [some (.ref 180), zlost y1, some (.int (s.1 ||| (gI h (180 + 2) j5))), some (.int x3), some (.int s.2)], [], zhp h)) rfl ?_
        cases hv4
        exact kv4 _
  · refine zEv_k 4 (f' := (if (gI h 186 0) ≤ s.2 then 51 else 26, [some (.ref 186), y1, some (.int s.1), some (.int x3), some (.int s.2)], [], zhp h)) rfl (zEv_if (fun c2 => ?_) (fun c2 => ?_))
    · replace H := zif_t c2 H
      cases H
      exact K _ _
    · replace H := zif_f c2 H
      obtain ⟨v4, hv4, H⟩ := zbs H
      have kv4 : ∀ (y1 : Option Value), zEv (zXs Ls xs) (d + 1) zm_106 (45, [some (.ref 186), y1, some (.int v4), some (.int x3), some (.int s.2)], [], zhp h) r := by
        intro y1
        refine zEv_k 2 (f' := (17, [some (.ref 186), y1, some (.int v4), some (.int x3), some (.int (s.2 + 1))], [], zhp h)) rfl ?_
        cases H
        exact K _
      clear H
      refine zEv_k 2 (f' := (29, [some (.ref 186), y1, some (.int s.1), some (.int x3), some (.int s.2)], [.int s.2, .int s.1], zhp h)) rfl ?_
      refine zEv_c (fun _ => rfl) rfl ev_zf_cin rfl rfl ?_
      refine zEv_k 1 (f' := (if (zf_cin s.1 s.2) = 0 then 45 else 35, [some (.ref 186), y1, some (.int s.1), some (.int x3), some (.int s.2)], [], zhp h)) rfl (zEv_if (fun c3 => ?_) (fun c3 => ?_))
      · replace hv4 := zif_t c3 hv4
        cases hv4
        exact kv4 _
      · replace hv4 := zif_f c3 hv4
        refine zEv_k 2 (f' := (37, [some (.ref 186), y1, some (.int s.1), some (.int x3), some (.int s.2)], [.ref 186, .int s.1], zhp h)) rfl ?_
        refine zRgr rfl rfl rfl (by decide) (b := 186 + 2) rfl ?_
        refine zEv_k 1 (f' := (42, [some (.ref 186), y1, some (.int s.1), some (.int x3), some (.int s.2)], [.int s.2, .ref (186 + 2), .int s.1], zhp h)) rfl ?_
        obtain ⟨j5, hj5, hv4⟩ := zbs hv4
        refine zRia rfl rfl (by decide) hj5 ?_
        refine zEv_k 2 (f' := (45, [some (.ref 186), zlost y1, some (.int (s.1 ||| (gI h (186 + 2) j5))), some (.int x3), some (.int s.2)], [], zhp h)) rfl ?_
        cases hv4
        exact kv4 _
theorem t_qTr_rowOf_b17 {Ls : Nat} {xs : Nat → Int32} {d : Nat} {oo : Nat} {x3 : Int32} {h : zK} {r : zA} (ho : oo = 180 ∨ oo = 186) {t : Int32} (K : ∀ (z1 : Option Value) (z4 : Option Value), zEv (zXs Ls xs) (d + 1) zm_106 (51, [some (.ref oo), z1, some (.int t), some (.int x3), z4], [], zhp h) r) (n : Nat) (s : Int32 × Int32) (H : zloop (qTr_rowOf_b17 oo x3 h) n s = some t) (y1 : Option Value) : zEv (zXs Ls xs) (d + 1) zm_106 (17, [some (.ref oo), y1, some (.int s.1), some (.int x3), some (.int s.2)], [], zhp h) r := by
  have Z := zloop_P (P := fun s => ∀ (y1 : Option Value), zEv (zXs Ls xs) (d + 1) zm_106 (17, [some (.ref oo), y1, some (.int s.1), some (.int x3), some (.int s.2)], [], zhp h) r) (b := qTr_rowOf_b17 oo x3 h) (t := t) (fun s s2 hb hk => by intro y1; exact t_qTr_rowOf_b17b ho hb hk y1) (fun s hb => by intro y1; exact t_qTr_rowOf_b17b ho hb K y1) n s H
  exact Z y1
def qTr_rowOf_b6 (oo : Nat) (h : zK) (s : Int32 × Int32) : Option ((Int32 × Int32) ⊕ (Int32)) :=
  if (gI h oo 0) ≤ s.2 then
    some (.inr s.1)
  else
    (zloop (qTr_rowOf_b17 oo s.2 h) zfu (s.1, 0)).bind fun t6 =>
    some (.inl (t6, s.2 + 1))
theorem t_qTr_rowOf_b6b {Ls : Nat} {xs : Nat → Int32} {d : Nat} {oo : Nat} {h : zK} {r : zA} {s : Int32 × Int32} {e : (Int32 × Int32) ⊕ (Int32)} (ho : oo = 180 ∨ oo = 186) (H : qTr_rowOf_b6 oo h s = some e) (K : match (generalizing := false) e with | .inl s' => ∀ (z1 : Option Value) (z4 : Option Value), zEv (zXs Ls xs) (d + 1) zm_106 (6, [some (.ref oo), z1, some (.int s'.1), some (.int s'.2), z4], [], zhp h) r | .inr v => ∀ (z1 : Option Value) (z3 : Option Value) (z4 : Option Value), zEv (zXs Ls xs) (d + 1) zm_106 (57, [some (.ref oo), z1, some (.int v), z3, z4], [], zhp h) r) (y1 : Option Value) (y4 : Option Value) : zEv (zXs Ls xs) (d + 1) zm_106 (6, [some (.ref oo), y1, some (.int s.1), some (.int s.2), y4], [], zhp h) r := by
  unfold qTr_rowOf_b6 at H
  rcases ho with rfl | rfl
  · refine zEv_k 4 (f' := (if (gI h 180 0) ≤ s.2 then 57 else 14, [some (.ref 180), y1, some (.int s.1), some (.int s.2), y4], [], zhp h)) rfl (zEv_if (fun c1 => ?_) (fun c1 => ?_))
    · replace H := zif_t c1 H
      cases H
      exact K _ _ _
    · replace H := zif_f c1 H
      refine zEv_k 2 (f' := (17, [some (.ref 180), y1, some (.int s.1), some (.int s.2), some (.int 0)], [], zhp h)) rfl ?_
      obtain ⟨t6, ht6, H⟩ := zbs H
      refine t_qTr_rowOf_b17 (oo := 180) (x3 := s.2) (h := h) (by decide) ?_ zfu _ ht6 _
      intro y1 y4
      refine zEv_k 2 (f' := (6, [some (.ref 180), y1, some (.int t6), some (.int (s.2 + 1)), y4], [], zhp h)) rfl ?_
      cases H
      exact K _ _
  · refine zEv_k 4 (f' := (if (gI h 186 0) ≤ s.2 then 57 else 14, [some (.ref 186), y1, some (.int s.1), some (.int s.2), y4], [], zhp h)) rfl (zEv_if (fun c1 => ?_) (fun c1 => ?_))
    · replace H := zif_t c1 H
      cases H
      exact K _ _ _
    · replace H := zif_f c1 H
      refine zEv_k 2 (f' := (17, [some (.ref 186), y1, some (.int s.1), some (.int s.2), some (.int 0)], [], zhp h)) rfl ?_
      obtain ⟨t6, ht6, H⟩ := zbs H
      refine t_qTr_rowOf_b17 (oo := 186) (x3 := s.2) (h := h) (by decide) ?_ zfu _ ht6 _
      intro y1 y4
      refine zEv_k 2 (f' := (6, [some (.ref 186), y1, some (.int t6), some (.int (s.2 + 1)), y4], [], zhp h)) rfl ?_
      cases H
      exact K _ _
theorem t_qTr_rowOf_b6 {Ls : Nat} {xs : Nat → Int32} {d : Nat} {oo : Nat} {h : zK} {r : zA} (ho : oo = 180 ∨ oo = 186) {t : Int32} (K : ∀ (z1 : Option Value) (z3 : Option Value) (z4 : Option Value), zEv (zXs Ls xs) (d + 1) zm_106 (57, [some (.ref oo), z1, some (.int t), z3, z4], [], zhp h) r) (n : Nat) (s : Int32 × Int32) (H : zloop (qTr_rowOf_b6 oo h) n s = some t) (y1 : Option Value) (y4 : Option Value) : zEv (zXs Ls xs) (d + 1) zm_106 (6, [some (.ref oo), y1, some (.int s.1), some (.int s.2), y4], [], zhp h) r := by
  have Z := zloop_P (P := fun s => ∀ (y1 : Option Value) (y4 : Option Value), zEv (zXs Ls xs) (d + 1) zm_106 (6, [some (.ref oo), y1, some (.int s.1), some (.int s.2), y4], [], zhp h) r) (b := qTr_rowOf_b6 oo h) (t := t) (fun s s2 hb hk => by intro y1 y4; exact t_qTr_rowOf_b6b ho hb hk y1 y4) (fun s hb => by intro y1 y4; exact t_qTr_rowOf_b6b ho hb K y1 y4) n s H
  exact Z y1 y4
def qTr_rowOf (oo : Nat) (x1 : Int32) (h : zK) : Option (Int32) :=
  (zloop (qTr_rowOf_b6 oo h) zfu ((1 : Int32) <<< (x1 &&& 31), 0)).bind fun t8 =>
  some t8
theorem t_qTr_rowOf {Ls : Nat} {xs : Nat → Int32} {d : Nat} {oo : Nat} {x1 : Int32} {h : zK} {p : Int32} (ho : oo = 180 ∨ oo = 186) (H : qTr_rowOf oo x1 h = some p) : zEv (zXs Ls xs) (d + 1) zm_106 (0, [some (.ref oo), some (.int x1), none, none, none], [], zhp h) (some (.int p), zhp h) := by
  unfold qTr_rowOf at H
  rcases ho with rfl | rfl
  · refine zEv_k 6 (f' := (6, [some (.ref 180), some (.int x1), some (.int ((1 : Int32) <<< (x1 &&& 31))), some (.int 0), none], [], zhp h)) rfl ?_
    obtain ⟨t8, ht8, H⟩ := zbs H
    refine t_qTr_rowOf_b6 (oo := 180) (h := h) (by decide) ?_ zfu _ ht8 _ _
    intro y1 y3 y4
    refine zEv_k 1 (f' := (58, [some (.ref 180), y1, some (.int t8), y3, y4], [.int t8], zhp h)) rfl ?_
    cases H
    exact zEv_r rfl
  · refine zEv_k 6 (f' := (6, [some (.ref 186), some (.int x1), some (.int ((1 : Int32) <<< (x1 &&& 31))), some (.int 0), none], [], zhp h)) rfl ?_
    obtain ⟨t8, ht8, H⟩ := zbs H
    refine t_qTr_rowOf_b6 (oo := 186) (h := h) (by decide) ?_ zfu _ ht8 _ _
    intro y1 y3 y4
    refine zEv_k 1 (f' := (58, [some (.ref 186), y1, some (.int t8), y3, y4], [.int t8], zhp h)) rfl ?_
    cases H
    exact zEv_r rfl
