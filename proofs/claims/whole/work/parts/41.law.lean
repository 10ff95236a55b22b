set_option maxRecDepth 20000 in
def qL_law_j168 (Ls : Nat) (xs : Nat → Int32) (x3 : Int32) (h : zK) : Option ((Int32 × zK) ⊕ ((zK) ⊕ (Int32 × zK))) :=
  (zix (x3 + 1) Ls).bind fun j3 =>
  (zix (x3 + 2) Ls).bind fun j4 =>
  (zix (x3 + 3) Ls).bind fun j5 =>
  (zix (x3 + 4) Ls).bind fun j6 =>
  (zix (x3 + 5) Ls).bind fun j7 =>
  (qC_feed (xs j3) (xs j4) (xs j5) (xs j6) (xs j7) h).bind fun p8 =>
  (qM_feed (xs j3) (xs j4) (xs j5) (xs j6) (xs j7) p8.2).bind fun p9 =>
  if p8.1 = p9.1 then
    some (.inl (x3 + 6, p9.2))
  else
    some (.inr (.inr (0, p9.2)))
set_option maxRecDepth 20000 in
theorem t_qL_law_j168 {Ls : Nat} {xs : Nat → Int32} {d : Nat} {x3 : Int32} {h : zK} {r : zA} {e : (Int32 × zK) ⊕ ((zK) ⊕ (Int32 × zK))} (H : qL_law_j168 Ls xs x3 h = some e) (K : match (generalizing := false) e with | .inl s' => zEv (zXs Ls xs) (d + 14) zm_286 (18, [some (.ref (zro + 0)), some (.ref 0), some (.ref 215), some (.int s'.1)], [], zhp s'.2) r | .inr (.inl v) => ∀ (z3 : Option Value), zEv (zXs Ls xs) (d + 14) zm_286 (1421, [some (.ref (zro + 0)), some (.ref 0), some (.ref 215), z3], [], zhp v) r | .inr (.inr p) => (some (.int p.1), zhp p.2) = r) : zEv (zXs Ls xs) (d + 14) zm_286 (168, [some (.ref (zro + 0)), some (.ref 0), some (.ref 215), some (.int x3)], [], zhp h) r := by
  unfold qL_law_j168 at H
  refine zEv_k 5 (f' := (173, [some (.ref (zro + 0)), some (.ref 0), some (.ref 215), some (.int x3)], [.int (x3 + 1), .ref (zro + 0), .ref 0], zhp h)) rfl ?_
  obtain ⟨j3, hj3, H⟩ := zbs H
  refine zRix (a := 0) rfl rfl hj3 ?_
  refine zEv_k 4 (f' := (178, [some (.ref (zro + 0)), some (.ref 0), some (.ref 215), some (.int x3)], [.int (x3 + 2), .ref (zro + 0), .int (xs j3), .ref 0], zhp h)) rfl ?_
  obtain ⟨j4, hj4, H⟩ := zbs H
  refine zRix (a := 0) rfl rfl hj4 ?_
  refine zEv_k 4 (f' := (183, [some (.ref (zro + 0)), some (.ref 0), some (.ref 215), some (.int x3)], [.int (x3 + 3), .ref (zro + 0), .int (xs j4), .int (xs j3), .ref 0], zhp h)) rfl ?_
  obtain ⟨j5, hj5, H⟩ := zbs H
  refine zRix (a := 0) rfl rfl hj5 ?_
  refine zEv_k 4 (f' := (188, [some (.ref (zro + 0)), some (.ref 0), some (.ref 215), some (.int x3)], [.int (x3 + 4), .ref (zro + 0), .int (xs j5), .int (xs j4), .int (xs j3), .ref 0], zhp h)) rfl ?_
  obtain ⟨j6, hj6, H⟩ := zbs H
  refine zRix (a := 0) rfl rfl hj6 ?_
  refine zEv_k 4 (f' := (193, [some (.ref (zro + 0)), some (.ref 0), some (.ref 215), some (.int x3)], [.int (x3 + 5), .ref (zro + 0), .int (xs j6), .int (xs j5), .int (xs j4), .int (xs j3), .ref 0], zhp h)) rfl ?_
  obtain ⟨j7, hj7, H⟩ := zbs H
  refine zRix (a := 0) rfl rfl hj7 ?_
  obtain ⟨p8, hp8, H⟩ := zbs H
  refine zEv_c (fun _ => rfl) rfl (t_qC_feed (x1 := xs j3) (x2 := xs j4) (x3 := xs j5) (x4 := xs j6) (x5 := xs j7) (h := h) (d := d + 12) hp8) rfl rfl ?_
  refine zEv_k 5 (f' := (202, [some (.ref (zro + 0)), some (.ref 0), some (.ref 215), some (.int x3)], [.int (x3 + 1), .ref (zro + 0), .ref 215, .int p8.1], zhp p8.2)) rfl ?_
  refine zRix (a := 0) rfl rfl hj3 ?_
  refine zEv_k 4 (f' := (207, [some (.ref (zro + 0)), some (.ref 0), some (.ref 215), some (.int x3)], [.int (x3 + 2), .ref (zro + 0), .int (xs j3), .ref 215, .int p8.1], zhp p8.2)) rfl ?_
  refine zRix (a := 0) rfl rfl hj4 ?_
  refine zEv_k 4 (f' := (212, [some (.ref (zro + 0)), some (.ref 0), some (.ref 215), some (.int x3)], [.int (x3 + 3), .ref (zro + 0), .int (xs j4), .int (xs j3), .ref 215, .int p8.1], zhp p8.2)) rfl ?_
  refine zRix (a := 0) rfl rfl hj5 ?_
  refine zEv_k 4 (f' := (217, [some (.ref (zro + 0)), some (.ref 0), some (.ref 215), some (.int x3)], [.int (x3 + 4), .ref (zro + 0), .int (xs j5), .int (xs j4), .int (xs j3), .ref 215, .int p8.1], zhp p8.2)) rfl ?_
  refine zRix (a := 0) rfl rfl hj6 ?_
  refine zEv_k 4 (f' := (222, [some (.ref (zro + 0)), some (.ref 0), some (.ref 215), some (.int x3)], [.int (x3 + 5), .ref (zro + 0), .int (xs j6), .int (xs j5), .int (xs j4), .int (xs j3), .ref 215, .int p8.1], zhp p8.2)) rfl ?_
  refine zRix (a := 0) rfl rfl hj7 ?_
  obtain ⟨p9, hp9, H⟩ := zbs H
  refine zEv_c (fun _ => rfl) rfl (t_qM_feed (x1 := xs j3) (x2 := xs j4) (x3 := xs j5) (x4 := xs j6) (x5 := xs j7) (h := p8.2) (d := d + 12) hp9) rfl rfl ?_
  refine zEv_k 1 (f' := (if p8.1 = p9.1 then 1415 else 229, [some (.ref (zro + 0)), some (.ref 0), some (.ref 215), some (.int x3)], [], zhp p9.2)) rfl (zEv_if (fun c10 => ?_) (fun c10 => ?_))
  · replace H := zif_t c10 H
    refine zEv_k 2 (f' := (18, [some (.ref (zro + 0)), some (.ref 0), some (.ref 215), some (.int (x3 + 6))], [], zhp p9.2)) rfl ?_
    cases H
    exact K
  · replace H := zif_f c10 H
    refine zEv_k 1 (f' := (230, [some (.ref (zro + 0)), some (.ref 0), some (.ref 215), some (.int x3)], [.int 0], zhp p9.2)) rfl ?_
    cases H
    exact zEv_re K rfl
set_option maxRecDepth 20000 in
def qL_law_j231 (Ls : Nat) (xs : Nat → Int32) (x3 : Int32) (h : zK) : Option ((Int32 × zK) ⊕ ((zK) ⊕ (Int32 × zK))) :=
  (zix (x3 + 1) Ls).bind fun j11 =>
  (qC_end (xs j11) h).bind fun p12 =>
  (qM_end (xs j11) p12.2).bind fun p13 =>
  if p12.1 = p13.1 then
    some (.inl (x3 + 6, p13.2))
  else
    some (.inr (.inr (0, p13.2)))
set_option maxRecDepth 20000 in
theorem t_qL_law_j231 {Ls : Nat} {xs : Nat → Int32} {d : Nat} {x3 : Int32} {h : zK} {r : zA} {e : (Int32 × zK) ⊕ ((zK) ⊕ (Int32 × zK))} (H : qL_law_j231 Ls xs x3 h = some e) (K : match (generalizing := false) e with | .inl s' => zEv (zXs Ls xs) (d + 14) zm_286 (18, [some (.ref (zro + 0)), some (.ref 0), some (.ref 215), some (.int s'.1)], [], zhp s'.2) r | .inr (.inl v) => ∀ (z3 : Option Value), zEv (zXs Ls xs) (d + 14) zm_286 (1421, [some (.ref (zro + 0)), some (.ref 0), some (.ref 215), z3], [], zhp v) r | .inr (.inr p) => (some (.int p.1), zhp p.2) = r) : zEv (zXs Ls xs) (d + 14) zm_286 (231, [some (.ref (zro + 0)), some (.ref 0), some (.ref 215), some (.int x3)], [], zhp h) r := by
  unfold qL_law_j231 at H
  refine zEv_k 5 (f' := (236, [some (.ref (zro + 0)), some (.ref 0), some (.ref 215), some (.int x3)], [.int (x3 + 1), .ref (zro + 0), .ref 0], zhp h)) rfl ?_
  obtain ⟨j11, hj11, H⟩ := zbs H
  refine zRix (a := 0) rfl rfl hj11 ?_
  obtain ⟨p12, hp12, H⟩ := zbs H
  refine zEv_c (fun _ => rfl) rfl (t_qC_end (x1 := xs j11) (h := h) (d := d + 13) hp12) rfl rfl ?_
  refine zEv_k 5 (f' := (245, [some (.ref (zro + 0)), some (.ref 0), some (.ref 215), some (.int x3)], [.int (x3 + 1), .ref (zro + 0), .ref 215, .int p12.1], zhp p12.2)) rfl ?_
  refine zRix (a := 0) rfl rfl hj11 ?_
  obtain ⟨p13, hp13, H⟩ := zbs H
  refine zEv_c (fun _ => rfl) rfl (t_qM_end (x1 := xs j11) (h := p12.2) (d := d + 12) hp13) rfl rfl ?_
  refine zEv_k 1 (f' := (if p12.1 = p13.1 then 1415 else 252, [some (.ref (zro + 0)), some (.ref 0), some (.ref 215), some (.int x3)], [], zhp p13.2)) rfl (zEv_if (fun c14 => ?_) (fun c14 => ?_))
  · replace H := zif_t c14 H
    refine zEv_k 2 (f' := (18, [some (.ref (zro + 0)), some (.ref 0), some (.ref 215), some (.int (x3 + 6))], [], zhp p13.2)) rfl ?_
    cases H
    exact K
  · replace H := zif_f c14 H
    refine zEv_k 1 (f' := (253, [some (.ref (zro + 0)), some (.ref 0), some (.ref 215), some (.int x3)], [.int 0], zhp p13.2)) rfl ?_
    cases H
    exact zEv_re K rfl
set_option maxRecDepth 20000 in
def qL_law_j254 (Ls : Nat) (xs : Nat → Int32) (x3 : Int32) (h : zK) : Option ((Int32 × zK) ⊕ ((zK) ⊕ (Int32 × zK))) :=
  (zix (x3 + 1) Ls).bind fun j15 =>
  (zix (x3 + 2) Ls).bind fun j16 =>
  (qC_text (xs j15) (xs j16) h).bind fun p17 =>
  (qM_text (xs j15) (xs j16) p17.2).bind fun p18 =>
  if p17.1 = p18.1 then
    some (.inl (x3 + 6, p18.2))
  else
    some (.inr (.inr (0, p18.2)))
set_option maxRecDepth 20000 in
theorem t_qL_law_j254 {Ls : Nat} {xs : Nat → Int32} {d : Nat} {x3 : Int32} {h : zK} {r : zA} {e : (Int32 × zK) ⊕ ((zK) ⊕ (Int32 × zK))} (H : qL_law_j254 Ls xs x3 h = some e) (K : match (generalizing := false) e with | .inl s' => zEv (zXs Ls xs) (d + 14) zm_286 (18, [some (.ref (zro + 0)), some (.ref 0), some (.ref 215), some (.int s'.1)], [], zhp s'.2) r | .inr (.inl v) => ∀ (z3 : Option Value), zEv (zXs Ls xs) (d + 14) zm_286 (1421, [some (.ref (zro + 0)), some (.ref 0), some (.ref 215), z3], [], zhp v) r | .inr (.inr p) => (some (.int p.1), zhp p.2) = r) : zEv (zXs Ls xs) (d + 14) zm_286 (254, [some (.ref (zro + 0)), some (.ref 0), some (.ref 215), some (.int x3)], [], zhp h) r := by
  unfold qL_law_j254 at H
  refine zEv_k 5 (f' := (259, [some (.ref (zro + 0)), some (.ref 0), some (.ref 215), some (.int x3)], [.int (x3 + 1), .ref (zro + 0), .ref 0], zhp h)) rfl ?_
  obtain ⟨j15, hj15, H⟩ := zbs H
  refine zRix (a := 0) rfl rfl hj15 ?_
  refine zEv_k 4 (f' := (264, [some (.ref (zro + 0)), some (.ref 0), some (.ref 215), some (.int x3)], [.int (x3 + 2), .ref (zro + 0), .int (xs j15), .ref 0], zhp h)) rfl ?_
  obtain ⟨j16, hj16, H⟩ := zbs H
  refine zRix (a := 0) rfl rfl hj16 ?_
  obtain ⟨p17, hp17, H⟩ := zbs H
  refine zEv_c (fun _ => rfl) rfl (t_qC_text (x1 := xs j15) (x2 := xs j16) (h := h) (d := d + 8) hp17) rfl rfl ?_
  refine zEv_k 5 (f' := (273, [some (.ref (zro + 0)), some (.ref 0), some (.ref 215), some (.int x3)], [.int (x3 + 1), .ref (zro + 0), .ref 215, .int p17.1], zhp p17.2)) rfl ?_
  refine zRix (a := 0) rfl rfl hj15 ?_
  refine zEv_k 4 (f' := (278, [some (.ref (zro + 0)), some (.ref 0), some (.ref 215), some (.int x3)], [.int (x3 + 2), .ref (zro + 0), .int (xs j15), .ref 215, .int p17.1], zhp p17.2)) rfl ?_
  refine zRix (a := 0) rfl rfl hj16 ?_
  obtain ⟨p18, hp18, H⟩ := zbs H
  refine zEv_c (fun _ => rfl) rfl (t_qM_text (x1 := xs j15) (x2 := xs j16) (h := p17.2) (d := d + 5) hp18) rfl rfl ?_
  refine zEv_k 1 (f' := (if p17.1 = p18.1 then 1415 else 285, [some (.ref (zro + 0)), some (.ref 0), some (.ref 215), some (.int x3)], [], zhp p18.2)) rfl (zEv_if (fun c19 => ?_) (fun c19 => ?_))
  · replace H := zif_t c19 H
    refine zEv_k 2 (f' := (18, [some (.ref (zro + 0)), some (.ref 0), some (.ref 215), some (.int (x3 + 6))], [], zhp p18.2)) rfl ?_
    cases H
    exact K
  · replace H := zif_f c19 H
    refine zEv_k 1 (f' := (286, [some (.ref (zro + 0)), some (.ref 0), some (.ref 215), some (.int x3)], [.int 0], zhp p18.2)) rfl ?_
    cases H
    exact zEv_re K rfl
set_option maxRecDepth 20000 in
def qL_law_j287 (Ls : Nat) (xs : Nat → Int32) (x3 : Int32) (h : zK) : Option ((Int32 × zK) ⊕ ((zK) ⊕ (Int32 × zK))) :=
  (zix (x3 + 1) Ls).bind fun j20 =>
  (qM_fault (xs j20) h).bind fun p21 =>
  if (qC_fault (xs j20) h) = p21.1 then
    some (.inl (x3 + 6, p21.2))
  else
    some (.inr (.inr (0, p21.2)))
set_option maxRecDepth 20000 in
theorem t_qL_law_j287 {Ls : Nat} {xs : Nat → Int32} {d : Nat} {x3 : Int32} {h : zK} {r : zA} {e : (Int32 × zK) ⊕ ((zK) ⊕ (Int32 × zK))} (H : qL_law_j287 Ls xs x3 h = some e) (K : match (generalizing := false) e with | .inl s' => zEv (zXs Ls xs) (d + 14) zm_286 (18, [some (.ref (zro + 0)), some (.ref 0), some (.ref 215), some (.int s'.1)], [], zhp s'.2) r | .inr (.inl v) => ∀ (z3 : Option Value), zEv (zXs Ls xs) (d + 14) zm_286 (1421, [some (.ref (zro + 0)), some (.ref 0), some (.ref 215), z3], [], zhp v) r | .inr (.inr p) => (some (.int p.1), zhp p.2) = r) : zEv (zXs Ls xs) (d + 14) zm_286 (287, [some (.ref (zro + 0)), some (.ref 0), some (.ref 215), some (.int x3)], [], zhp h) r := by
  unfold qL_law_j287 at H
  refine zEv_k 5 (f' := (292, [some (.ref (zro + 0)), some (.ref 0), some (.ref 215), some (.int x3)], [.int (x3 + 1), .ref (zro + 0), .ref 0], zhp h)) rfl ?_
  obtain ⟨j20, hj20, H⟩ := zbs H
  refine zRix (a := 0) rfl rfl hj20 ?_
  refine zEv_c (fun _ => rfl) rfl (t_qC_fault (x1 := xs j20) (h := h) (d := d + 13) rfl) rfl rfl ?_
  refine zEv_k 5 (f' := (301, [some (.ref (zro + 0)), some (.ref 0), some (.ref 215), some (.int x3)], [.int (x3 + 1), .ref (zro + 0), .ref 215, .int (qC_fault (xs j20) h)], zhp h)) rfl ?_
  refine zRix (a := 0) rfl rfl hj20 ?_
  obtain ⟨p21, hp21, H⟩ := zbs H
  refine zEv_c (fun _ => rfl) rfl (t_qM_fault (x1 := xs j20) (h := h) (d := d + 13) hp21) rfl rfl ?_
  refine zEv_k 1 (f' := (if (qC_fault (xs j20) h) = p21.1 then 1415 else 308, [some (.ref (zro + 0)), some (.ref 0), some (.ref 215), some (.int x3)], [], zhp p21.2)) rfl (zEv_if (fun c22 => ?_) (fun c22 => ?_))
  · replace H := zif_t c22 H
    refine zEv_k 2 (f' := (18, [some (.ref (zro + 0)), some (.ref 0), some (.ref 215), some (.int (x3 + 6))], [], zhp p21.2)) rfl ?_
    cases H
    exact K
  · replace H := zif_f c22 H
    refine zEv_k 1 (f' := (309, [some (.ref (zro + 0)), some (.ref 0), some (.ref 215), some (.int x3)], [.int 0], zhp p21.2)) rfl ?_
    cases H
    exact zEv_re K rfl
set_option maxRecDepth 20000 in
def qL_law_j310 (Ls : Nat) (xs : Nat → Int32) (x3 : Int32) (h : zK) : Option ((Int32 × zK) ⊕ ((zK) ⊕ (Int32 × zK))) :=
  (zix (x3 + 1) Ls).bind fun j23 =>
  (zix (x3 + 2) Ls).bind fun j24 =>
  (qC_cellar (xs j23) (xs j24) h).bind fun p25 =>
  (qM_cellar (xs j23) (xs j24) h).bind fun p26 =>
  if p25 = p26.1 then
    some (.inl (x3 + 6, p26.2))
  else
    some (.inr (.inr (0, p26.2)))
set_option maxRecDepth 20000 in
theorem t_qL_law_j310 {Ls : Nat} {xs : Nat → Int32} {d : Nat} {x3 : Int32} {h : zK} {r : zA} {e : (Int32 × zK) ⊕ ((zK) ⊕ (Int32 × zK))} (H : qL_law_j310 Ls xs x3 h = some e) (K : match (generalizing := false) e with | .inl s' => zEv (zXs Ls xs) (d + 14) zm_286 (18, [some (.ref (zro + 0)), some (.ref 0), some (.ref 215), some (.int s'.1)], [], zhp s'.2) r | .inr (.inl v) => ∀ (z3 : Option Value), zEv (zXs Ls xs) (d + 14) zm_286 (1421, [some (.ref (zro + 0)), some (.ref 0), some (.ref 215), z3], [], zhp v) r | .inr (.inr p) => (some (.int p.1), zhp p.2) = r) : zEv (zXs Ls xs) (d + 14) zm_286 (310, [some (.ref (zro + 0)), some (.ref 0), some (.ref 215), some (.int x3)], [], zhp h) r := by
  unfold qL_law_j310 at H
  refine zEv_k 5 (f' := (315, [some (.ref (zro + 0)), some (.ref 0), some (.ref 215), some (.int x3)], [.int (x3 + 1), .ref (zro + 0), .ref 0], zhp h)) rfl ?_
  obtain ⟨j23, hj23, H⟩ := zbs H
  refine zRix (a := 0) rfl rfl hj23 ?_
  refine zEv_k 4 (f' := (320, [some (.ref (zro + 0)), some (.ref 0), some (.ref 215), some (.int x3)], [.int (x3 + 2), .ref (zro + 0), .int (xs j23), .ref 0], zhp h)) rfl ?_
  obtain ⟨j24, hj24, H⟩ := zbs H
  refine zRix (a := 0) rfl rfl hj24 ?_
  obtain ⟨p25, hp25, H⟩ := zbs H
  refine zEv_c (fun _ => rfl) rfl (t_qC_cellar (x1 := xs j23) (x2 := xs j24) (h := h) (d := d + 12) hp25) rfl rfl ?_
  refine zEv_k 5 (f' := (329, [some (.ref (zro + 0)), some (.ref 0), some (.ref 215), some (.int x3)], [.int (x3 + 1), .ref (zro + 0), .ref 215, .int p25], zhp h)) rfl ?_
  refine zRix (a := 0) rfl rfl hj23 ?_
  refine zEv_k 4 (f' := (334, [some (.ref (zro + 0)), some (.ref 0), some (.ref 215), some (.int x3)], [.int (x3 + 2), .ref (zro + 0), .int (xs j23), .ref 215, .int p25], zhp h)) rfl ?_
  refine zRix (a := 0) rfl rfl hj24 ?_
  obtain ⟨p26, hp26, H⟩ := zbs H
  refine zEv_c (fun _ => rfl) rfl (t_qM_cellar (x1 := xs j23) (x2 := xs j24) (h := h) (d := d + 10) hp26) rfl rfl ?_
  refine zEv_k 1 (f' := (if p25 = p26.1 then 1415 else 341, [some (.ref (zro + 0)), some (.ref 0), some (.ref 215), some (.int x3)], [], zhp p26.2)) rfl (zEv_if (fun c27 => ?_) (fun c27 => ?_))
  · replace H := zif_t c27 H
    refine zEv_k 2 (f' := (18, [some (.ref (zro + 0)), some (.ref 0), some (.ref 215), some (.int (x3 + 6))], [], zhp p26.2)) rfl ?_
    cases H
    exact K
  · replace H := zif_f c27 H
    refine zEv_k 1 (f' := (342, [some (.ref (zro + 0)), some (.ref 0), some (.ref 215), some (.int x3)], [.int 0], zhp p26.2)) rfl ?_
    cases H
    exact zEv_re K rfl
set_option maxRecDepth 20000 in
def qL_law_j343 (Ls : Nat) (xs : Nat → Int32) (x3 : Int32) (h : zK) : Option ((Int32 × zK) ⊕ ((zK) ⊕ (Int32 × zK))) :=
  (zix (x3 + 1) Ls).bind fun j28 =>
  (zix (x3 + 2) Ls).bind fun j29 =>
  (zix (x3 + 3) Ls).bind fun j30 =>
  (qC_deed (xs j28) (xs j29) (xs j30) h).bind fun p31 =>
  (qM_deed (xs j28) (xs j29) (xs j30) h).bind fun p32 =>
  if p31 = p32.1 then
    some (.inl (x3 + 6, p32.2))
  else
    some (.inr (.inr (0, p32.2)))
set_option maxRecDepth 20000 in
theorem t_qL_law_j343 {Ls : Nat} {xs : Nat → Int32} {d : Nat} {x3 : Int32} {h : zK} {r : zA} {e : (Int32 × zK) ⊕ ((zK) ⊕ (Int32 × zK))} (H : qL_law_j343 Ls xs x3 h = some e) (K : match (generalizing := false) e with | .inl s' => zEv (zXs Ls xs) (d + 14) zm_286 (18, [some (.ref (zro + 0)), some (.ref 0), some (.ref 215), some (.int s'.1)], [], zhp s'.2) r | .inr (.inl v) => ∀ (z3 : Option Value), zEv (zXs Ls xs) (d + 14) zm_286 (1421, [some (.ref (zro + 0)), some (.ref 0), some (.ref 215), z3], [], zhp v) r | .inr (.inr p) => (some (.int p.1), zhp p.2) = r) : zEv (zXs Ls xs) (d + 14) zm_286 (343, [some (.ref (zro + 0)), some (.ref 0), some (.ref 215), some (.int x3)], [], zhp h) r := by
  unfold qL_law_j343 at H
  refine zEv_k 5 (f' := (348, [some (.ref (zro + 0)), some (.ref 0), some (.ref 215), some (.int x3)], [.int (x3 + 1), .ref (zro + 0), .ref 0], zhp h)) rfl ?_
  obtain ⟨j28, hj28, H⟩ := zbs H
  refine zRix (a := 0) rfl rfl hj28 ?_
  refine zEv_k 4 (f' := (353, [some (.ref (zro + 0)), some (.ref 0), some (.ref 215), some (.int x3)], [.int (x3 + 2), .ref (zro + 0), .int (xs j28), .ref 0], zhp h)) rfl ?_
  obtain ⟨j29, hj29, H⟩ := zbs H
  refine zRix (a := 0) rfl rfl hj29 ?_
  refine zEv_k 4 (f' := (358, [some (.ref (zro + 0)), some (.ref 0), some (.ref 215), some (.int x3)], [.int (x3 + 3), .ref (zro + 0), .int (xs j29), .int (xs j28), .ref 0], zhp h)) rfl ?_
  obtain ⟨j30, hj30, H⟩ := zbs H
  refine zRix (a := 0) rfl rfl hj30 ?_
  obtain ⟨p31, hp31, H⟩ := zbs H
  refine zEv_c (fun _ => rfl) rfl (t_qC_deed (x1 := xs j28) (x2 := xs j29) (x3 := xs j30) (h := h) (d := d + 12) hp31) rfl rfl ?_
  refine zEv_k 5 (f' := (367, [some (.ref (zro + 0)), some (.ref 0), some (.ref 215), some (.int x3)], [.int (x3 + 1), .ref (zro + 0), .ref 215, .int p31], zhp h)) rfl ?_
  refine zRix (a := 0) rfl rfl hj28 ?_
  refine zEv_k 4 (f' := (372, [some (.ref (zro + 0)), some (.ref 0), some (.ref 215), some (.int x3)], [.int (x3 + 2), .ref (zro + 0), .int (xs j28), .ref 215, .int p31], zhp h)) rfl ?_
  refine zRix (a := 0) rfl rfl hj29 ?_
  refine zEv_k 4 (f' := (377, [some (.ref (zro + 0)), some (.ref 0), some (.ref 215), some (.int x3)], [.int (x3 + 3), .ref (zro + 0), .int (xs j29), .int (xs j28), .ref 215, .int p31], zhp h)) rfl ?_
  refine zRix (a := 0) rfl rfl hj30 ?_
  obtain ⟨p32, hp32, H⟩ := zbs H
  refine zEv_c (fun _ => rfl) rfl (t_qM_deed (x1 := xs j28) (x2 := xs j29) (x3 := xs j30) (h := h) (d := d + 10) hp32) rfl rfl ?_
  refine zEv_k 1 (f' := (if p31 = p32.1 then 1415 else 384, [some (.ref (zro + 0)), some (.ref 0), some (.ref 215), some (.int x3)], [], zhp p32.2)) rfl (zEv_if (fun c33 => ?_) (fun c33 => ?_))
  · replace H := zif_t c33 H
    refine zEv_k 2 (f' := (18, [some (.ref (zro + 0)), some (.ref 0), some (.ref 215), some (.int (x3 + 6))], [], zhp p32.2)) rfl ?_
    cases H
    exact K
  · replace H := zif_f c33 H
    refine zEv_k 1 (f' := (385, [some (.ref (zro + 0)), some (.ref 0), some (.ref 215), some (.int x3)], [.int 0], zhp p32.2)) rfl ?_
    cases H
    exact zEv_re K rfl
set_option maxRecDepth 20000 in
def qL_law_j386 (Ls : Nat) (xs : Nat → Int32) (x3 : Int32) (h : zK) : Option ((Int32 × zK) ⊕ ((zK) ⊕ (Int32 × zK))) :=
  (zix (x3 + 1) Ls).bind fun j34 =>
  (zix (x3 + 2) Ls).bind fun j35 =>
  (qC_till (xs j34) (xs j35) h).bind fun p36 =>
  (qM_till (xs j34) (xs j35) p36.2).bind fun p37 =>
  if p36.1 = p37.1 then
    some (.inl (x3 + 6, p37.2))
  else
    some (.inr (.inr (0, p37.2)))
set_option maxRecDepth 20000 in
theorem t_qL_law_j386 {Ls : Nat} {xs : Nat → Int32} {d : Nat} {x3 : Int32} {h : zK} {r : zA} {e : (Int32 × zK) ⊕ ((zK) ⊕ (Int32 × zK))} (H : qL_law_j386 Ls xs x3 h = some e) (K : match (generalizing := false) e with | .inl s' => zEv (zXs Ls xs) (d + 14) zm_286 (18, [some (.ref (zro + 0)), some (.ref 0), some (.ref 215), some (.int s'.1)], [], zhp s'.2) r | .inr (.inl v) => ∀ (z3 : Option Value), zEv (zXs Ls xs) (d + 14) zm_286 (1421, [some (.ref (zro + 0)), some (.ref 0), some (.ref 215), z3], [], zhp v) r | .inr (.inr p) => (some (.int p.1), zhp p.2) = r) : zEv (zXs Ls xs) (d + 14) zm_286 (386, [some (.ref (zro + 0)), some (.ref 0), some (.ref 215), some (.int x3)], [], zhp h) r := by
  unfold qL_law_j386 at H
  refine zEv_k 5 (f' := (391, [some (.ref (zro + 0)), some (.ref 0), some (.ref 215), some (.int x3)], [.int (x3 + 1), .ref (zro + 0), .ref 0], zhp h)) rfl ?_
  obtain ⟨j34, hj34, H⟩ := zbs H
  refine zRix (a := 0) rfl rfl hj34 ?_
  refine zEv_k 4 (f' := (396, [some (.ref (zro + 0)), some (.ref 0), some (.ref 215), some (.int x3)], [.int (x3 + 2), .ref (zro + 0), .int (xs j34), .ref 0], zhp h)) rfl ?_
  obtain ⟨j35, hj35, H⟩ := zbs H
  refine zRix (a := 0) rfl rfl hj35 ?_
  obtain ⟨p36, hp36, H⟩ := zbs H
  refine zEv_c (fun _ => rfl) rfl (t_qC_till (x1 := xs j34) (x2 := xs j35) (h := h) (d := d + 8) hp36) rfl rfl ?_
  refine zEv_k 5 (f' := (405, [some (.ref (zro + 0)), some (.ref 0), some (.ref 215), some (.int x3)], [.int (x3 + 1), .ref (zro + 0), .ref 215, .int p36.1], zhp p36.2)) rfl ?_
  refine zRix (a := 0) rfl rfl hj34 ?_
  refine zEv_k 4 (f' := (410, [some (.ref (zro + 0)), some (.ref 0), some (.ref 215), some (.int x3)], [.int (x3 + 2), .ref (zro + 0), .int (xs j34), .ref 215, .int p36.1], zhp p36.2)) rfl ?_
  refine zRix (a := 0) rfl rfl hj35 ?_
  obtain ⟨p37, hp37, H⟩ := zbs H
  refine zEv_c (fun _ => rfl) rfl (t_qM_till (x1 := xs j34) (x2 := xs j35) (h := p36.2) (d := d + 6) hp37) rfl rfl ?_
  refine zEv_k 1 (f' := (if p36.1 = p37.1 then 1415 else 417, [some (.ref (zro + 0)), some (.ref 0), some (.ref 215), some (.int x3)], [], zhp p37.2)) rfl (zEv_if (fun c38 => ?_) (fun c38 => ?_))
  · replace H := zif_t c38 H
    refine zEv_k 2 (f' := (18, [some (.ref (zro + 0)), some (.ref 0), some (.ref 215), some (.int (x3 + 6))], [], zhp p37.2)) rfl ?_
    cases H
    exact K
  · replace H := zif_f c38 H
    refine zEv_k 1 (f' := (418, [some (.ref (zro + 0)), some (.ref 0), some (.ref 215), some (.int x3)], [.int 0], zhp p37.2)) rfl ?_
    cases H
    exact zEv_re K rfl
set_option maxRecDepth 20000 in
def qL_law_j419 (Ls : Nat) (xs : Nat → Int32) (x3 : Int32) (h : zK) : Option ((Int32 × zK) ⊕ ((zK) ⊕ (Int32 × zK))) :=
  (zix (x3 + 1) Ls).bind fun j39 =>
  (zix (x3 + 2) Ls).bind fun j40 =>
  (zix (x3 + 3) Ls).bind fun j41 =>
  (zix (x3 + 4) Ls).bind fun j42 =>
  (qC_state (xs j39) (xs j40) (xs j41) (xs j42) h).bind fun p43 =>
  (qM_state (xs j39) (xs j40) (xs j41) (xs j42) p43.2).bind fun p44 =>
  if p43.1 = p44.1 then
    some (.inl (x3 + 6, p44.2))
  else
    some (.inr (.inr (0, p44.2)))
set_option maxRecDepth 20000 in
theorem t_qL_law_j419 {Ls : Nat} {xs : Nat → Int32} {d : Nat} {x3 : Int32} {h : zK} {r : zA} {e : (Int32 × zK) ⊕ ((zK) ⊕ (Int32 × zK))} (H : qL_law_j419 Ls xs x3 h = some e) (K : match (generalizing := false) e with | .inl s' => zEv (zXs Ls xs) (d + 14) zm_286 (18, [some (.ref (zro + 0)), some (.ref 0), some (.ref 215), some (.int s'.1)], [], zhp s'.2) r | .inr (.inl v) => ∀ (z3 : Option Value), zEv (zXs Ls xs) (d + 14) zm_286 (1421, [some (.ref (zro + 0)), some (.ref 0), some (.ref 215), z3], [], zhp v) r | .inr (.inr p) => (some (.int p.1), zhp p.2) = r) : zEv (zXs Ls xs) (d + 14) zm_286 (419, [some (.ref (zro + 0)), some (.ref 0), some (.ref 215), some (.int x3)], [], zhp h) r := by
  unfold qL_law_j419 at H
  refine zEv_k 5 (f' := (424, [some (.ref (zro + 0)), some (.ref 0), some (.ref 215), some (.int x3)], [.int (x3 + 1), .ref (zro + 0), .ref 0], zhp h)) rfl ?_
  obtain ⟨j39, hj39, H⟩ := zbs H
  refine zRix (a := 0) rfl rfl hj39 ?_
  refine zEv_k 4 (f' := (429, [some (.ref (zro + 0)), some (.ref 0), some (.ref 215), some (.int x3)], [.int (x3 + 2), .ref (zro + 0), .int (xs j39), .ref 0], zhp h)) rfl ?_
  obtain ⟨j40, hj40, H⟩ := zbs H
  refine zRix (a := 0) rfl rfl hj40 ?_
  refine zEv_k 4 (f' := (434, [some (.ref (zro + 0)), some (.ref 0), some (.ref 215), some (.int x3)], [.int (x3 + 3), .ref (zro + 0), .int (xs j40), .int (xs j39), .ref 0], zhp h)) rfl ?_
  obtain ⟨j41, hj41, H⟩ := zbs H
  refine zRix (a := 0) rfl rfl hj41 ?_
  refine zEv_k 4 (f' := (439, [some (.ref (zro + 0)), some (.ref 0), some (.ref 215), some (.int x3)], [.int (x3 + 4), .ref (zro + 0), .int (xs j41), .int (xs j40), .int (xs j39), .ref 0], zhp h)) rfl ?_
  obtain ⟨j42, hj42, H⟩ := zbs H
  refine zRix (a := 0) rfl rfl hj42 ?_
  obtain ⟨p43, hp43, H⟩ := zbs H
  refine zEv_c (fun _ => rfl) rfl (t_qC_state (x1 := xs j39) (x2 := xs j40) (x3 := xs j41) (x4 := xs j42) (h := h) (d := d + 8) hp43) rfl rfl ?_
  refine zEv_k 5 (f' := (448, [some (.ref (zro + 0)), some (.ref 0), some (.ref 215), some (.int x3)], [.int (x3 + 1), .ref (zro + 0), .ref 215, .int p43.1], zhp p43.2)) rfl ?_
  refine zRix (a := 0) rfl rfl hj39 ?_
  refine zEv_k 4 (f' := (453, [some (.ref (zro + 0)), some (.ref 0), some (.ref 215), some (.int x3)], [.int (x3 + 2), .ref (zro + 0), .int (xs j39), .ref 215, .int p43.1], zhp p43.2)) rfl ?_
  refine zRix (a := 0) rfl rfl hj40 ?_
  refine zEv_k 4 (f' := (458, [some (.ref (zro + 0)), some (.ref 0), some (.ref 215), some (.int x3)], [.int (x3 + 3), .ref (zro + 0), .int (xs j40), .int (xs j39), .ref 215, .int p43.1], zhp p43.2)) rfl ?_
  refine zRix (a := 0) rfl rfl hj41 ?_
  refine zEv_k 4 (f' := (463, [some (.ref (zro + 0)), some (.ref 0), some (.ref 215), some (.int x3)], [.int (x3 + 4), .ref (zro + 0), .int (xs j41), .int (xs j40), .int (xs j39), .ref 215, .int p43.1], zhp p43.2)) rfl ?_
  refine zRix (a := 0) rfl rfl hj42 ?_
  obtain ⟨p44, hp44, H⟩ := zbs H
  refine zEv_c (fun _ => rfl) rfl (t_qM_state (x1 := xs j39) (x2 := xs j40) (x3 := xs j41) (x4 := xs j42) (h := p43.2) (d := d + 6) hp44) rfl rfl ?_
  refine zEv_k 1 (f' := (if p43.1 = p44.1 then 1415 else 470, [some (.ref (zro + 0)), some (.ref 0), some (.ref 215), some (.int x3)], [], zhp p44.2)) rfl (zEv_if (fun c45 => ?_) (fun c45 => ?_))
  · replace H := zif_t c45 H
    refine zEv_k 2 (f' := (18, [some (.ref (zro + 0)), some (.ref 0), some (.ref 215), some (.int (x3 + 6))], [], zhp p44.2)) rfl ?_
    cases H
    exact K
  · replace H := zif_f c45 H
    refine zEv_k 1 (f' := (471, [some (.ref (zro + 0)), some (.ref 0), some (.ref 215), some (.int x3)], [.int 0], zhp p44.2)) rfl ?_
    cases H
    exact zEv_re K rfl
set_option maxRecDepth 20000 in
def qL_law_j472 (Ls : Nat) (xs : Nat → Int32) (x3 : Int32) (h : zK) : Option ((Int32 × zK) ⊕ ((zK) ⊕ (Int32 × zK))) :=
  (zix (x3 + 1) Ls).bind fun j46 =>
  (zix (x3 + 2) Ls).bind fun j47 =>
  (qC_train (xs j46) (xs j47) h).bind fun p48 =>
  (qM_train (xs j46) (xs j47) p48.2).bind fun p49 =>
  if p48.1 = p49.1 then
    some (.inl (x3 + 6, p49.2))
  else
    some (.inr (.inr (0, p49.2)))
set_option maxRecDepth 20000 in
theorem t_qL_law_j472 {Ls : Nat} {xs : Nat → Int32} {d : Nat} {x3 : Int32} {h : zK} {r : zA} {e : (Int32 × zK) ⊕ ((zK) ⊕ (Int32 × zK))} (H : qL_law_j472 Ls xs x3 h = some e) (K : match (generalizing := false) e with | .inl s' => zEv (zXs Ls xs) (d + 14) zm_286 (18, [some (.ref (zro + 0)), some (.ref 0), some (.ref 215), some (.int s'.1)], [], zhp s'.2) r | .inr (.inl v) => ∀ (z3 : Option Value), zEv (zXs Ls xs) (d + 14) zm_286 (1421, [some (.ref (zro + 0)), some (.ref 0), some (.ref 215), z3], [], zhp v) r | .inr (.inr p) => (some (.int p.1), zhp p.2) = r) : zEv (zXs Ls xs) (d + 14) zm_286 (472, [some (.ref (zro + 0)), some (.ref 0), some (.ref 215), some (.int x3)], [], zhp h) r := by
  unfold qL_law_j472 at H
  refine zEv_k 5 (f' := (477, [some (.ref (zro + 0)), some (.ref 0), some (.ref 215), some (.int x3)], [.int (x3 + 1), .ref (zro + 0), .ref 0], zhp h)) rfl ?_
  obtain ⟨j46, hj46, H⟩ := zbs H
  refine zRix (a := 0) rfl rfl hj46 ?_
  refine zEv_k 4 (f' := (482, [some (.ref (zro + 0)), some (.ref 0), some (.ref 215), some (.int x3)], [.int (x3 + 2), .ref (zro + 0), .int (xs j46), .ref 0], zhp h)) rfl ?_
  obtain ⟨j47, hj47, H⟩ := zbs H
  refine zRix (a := 0) rfl rfl hj47 ?_
  obtain ⟨p48, hp48, H⟩ := zbs H
  refine zEv_c (fun _ => rfl) rfl (t_qC_train (x1 := xs j46) (x2 := xs j47) (h := h) (d := d + 10) hp48) rfl rfl ?_
  refine zEv_k 5 (f' := (491, [some (.ref (zro + 0)), some (.ref 0), some (.ref 215), some (.int x3)], [.int (x3 + 1), .ref (zro + 0), .ref 215, .int p48.1], zhp p48.2)) rfl ?_
  refine zRix (a := 0) rfl rfl hj46 ?_
  refine zEv_k 4 (f' := (496, [some (.ref (zro + 0)), some (.ref 0), some (.ref 215), some (.int x3)], [.int (x3 + 2), .ref (zro + 0), .int (xs j46), .ref 215, .int p48.1], zhp p48.2)) rfl ?_
  refine zRix (a := 0) rfl rfl hj47 ?_
  obtain ⟨p49, hp49, H⟩ := zbs H
  refine zEv_c (fun _ => rfl) rfl (t_qM_train (x1 := xs j46) (x2 := xs j47) (h := p48.2) (d := d + 9) hp49) rfl rfl ?_
  refine zEv_k 1 (f' := (if p48.1 = p49.1 then 1415 else 503, [some (.ref (zro + 0)), some (.ref 0), some (.ref 215), some (.int x3)], [], zhp p49.2)) rfl (zEv_if (fun c50 => ?_) (fun c50 => ?_))
  · replace H := zif_t c50 H
    refine zEv_k 2 (f' := (18, [some (.ref (zro + 0)), some (.ref 0), some (.ref 215), some (.int (x3 + 6))], [], zhp p49.2)) rfl ?_
    cases H
    exact K
  · replace H := zif_f c50 H
    refine zEv_k 1 (f' := (504, [some (.ref (zro + 0)), some (.ref 0), some (.ref 215), some (.int x3)], [.int 0], zhp p49.2)) rfl ?_
    cases H
    exact zEv_re K rfl
set_option maxRecDepth 20000 in
def qL_law_j505 (Ls : Nat) (xs : Nat → Int32) (x3 : Int32) (h : zK) : Option ((Int32 × zK) ⊕ ((zK) ⊕ (Int32 × zK))) :=
  (zix (x3 + 1) Ls).bind fun j51 =>
  (zix (x3 + 2) Ls).bind fun j52 =>
  (qC_laying (xs j51) (xs j52) h).bind fun p53 =>
  (qM_laying (xs j51) (xs j52) p53.2).bind fun p54 =>
  if p53.1 = p54.1 then
    some (.inl (x3 + 6, p54.2))
  else
    some (.inr (.inr (0, p54.2)))
set_option maxRecDepth 20000 in
theorem t_qL_law_j505 {Ls : Nat} {xs : Nat → Int32} {d : Nat} {x3 : Int32} {h : zK} {r : zA} {e : (Int32 × zK) ⊕ ((zK) ⊕ (Int32 × zK))} (H : qL_law_j505 Ls xs x3 h = some e) (K : match (generalizing := false) e with | .inl s' => zEv (zXs Ls xs) (d + 14) zm_286 (18, [some (.ref (zro + 0)), some (.ref 0), some (.ref 215), some (.int s'.1)], [], zhp s'.2) r | .inr (.inl v) => ∀ (z3 : Option Value), zEv (zXs Ls xs) (d + 14) zm_286 (1421, [some (.ref (zro + 0)), some (.ref 0), some (.ref 215), z3], [], zhp v) r | .inr (.inr p) => (some (.int p.1), zhp p.2) = r) : zEv (zXs Ls xs) (d + 14) zm_286 (505, [some (.ref (zro + 0)), some (.ref 0), some (.ref 215), some (.int x3)], [], zhp h) r := by
  unfold qL_law_j505 at H
  refine zEv_k 5 (f' := (510, [some (.ref (zro + 0)), some (.ref 0), some (.ref 215), some (.int x3)], [.int (x3 + 1), .ref (zro + 0), .ref 0], zhp h)) rfl ?_
  obtain ⟨j51, hj51, H⟩ := zbs H
  refine zRix (a := 0) rfl rfl hj51 ?_
  refine zEv_k 4 (f' := (515, [some (.ref (zro + 0)), some (.ref 0), some (.ref 215), some (.int x3)], [.int (x3 + 2), .ref (zro + 0), .int (xs j51), .ref 0], zhp h)) rfl ?_
  obtain ⟨j52, hj52, H⟩ := zbs H
  refine zRix (a := 0) rfl rfl hj52 ?_
  obtain ⟨p53, hp53, H⟩ := zbs H
  refine zEv_c (fun _ => rfl) rfl (t_qC_laying (x1 := xs j51) (x2 := xs j52) (h := h) (d := d) hp53) rfl rfl ?_
  refine zEv_k 5 (f' := (524, [some (.ref (zro + 0)), some (.ref 0), some (.ref 215), some (.int x3)], [.int (x3 + 1), .ref (zro + 0), .ref 215, .int p53.1], zhp p53.2)) rfl ?_
  refine zRix (a := 0) rfl rfl hj51 ?_
  refine zEv_k 4 (f' := (529, [some (.ref (zro + 0)), some (.ref 0), some (.ref 215), some (.int x3)], [.int (x3 + 2), .ref (zro + 0), .int (xs j51), .ref 215, .int p53.1], zhp p53.2)) rfl ?_
  refine zRix (a := 0) rfl rfl hj52 ?_
  obtain ⟨p54, hp54, H⟩ := zbs H
  refine zEv_c (fun _ => rfl) rfl (t_qM_laying (x1 := xs j51) (x2 := xs j52) (h := p53.2) (d := d + 8) hp54) rfl rfl ?_
  refine zEv_k 1 (f' := (if p53.1 = p54.1 then 1415 else 536, [some (.ref (zro + 0)), some (.ref 0), some (.ref 215), some (.int x3)], [], zhp p54.2)) rfl (zEv_if (fun c55 => ?_) (fun c55 => ?_))
  · replace H := zif_t c55 H
    refine zEv_k 2 (f' := (18, [some (.ref (zro + 0)), some (.ref 0), some (.ref 215), some (.int (x3 + 6))], [], zhp p54.2)) rfl ?_
    cases H
    exact K
  · replace H := zif_f c55 H
    refine zEv_k 1 (f' := (537, [some (.ref (zro + 0)), some (.ref 0), some (.ref 215), some (.int x3)], [.int 0], zhp p54.2)) rfl ?_
    cases H
    exact zEv_re K rfl
set_option maxRecDepth 20000 in
def qL_law_j538 (Ls : Nat) (xs : Nat → Int32) (x3 : Int32) (h : zK) : Option ((Int32 × zK) ⊕ ((zK) ⊕ (Int32 × zK))) :=
  (zix (x3 + 1) Ls).bind fun j56 =>
  (zix (x3 + 2) Ls).bind fun j57 =>
  (qC_life (xs j56) (xs j57) h).bind fun p58 =>
  (qM_life (xs j56) (xs j57) h).bind fun p59 =>
  if p58 = p59.1 then
    some (.inl (x3 + 6, p59.2))
  else
    some (.inr (.inr (0, p59.2)))
set_option maxRecDepth 20000 in
theorem t_qL_law_j538 {Ls : Nat} {xs : Nat → Int32} {d : Nat} {x3 : Int32} {h : zK} {r : zA} {e : (Int32 × zK) ⊕ ((zK) ⊕ (Int32 × zK))} (H : qL_law_j538 Ls xs x3 h = some e) (K : match (generalizing := false) e with | .inl s' => zEv (zXs Ls xs) (d + 14) zm_286 (18, [some (.ref (zro + 0)), some (.ref 0), some (.ref 215), some (.int s'.1)], [], zhp s'.2) r | .inr (.inl v) => ∀ (z3 : Option Value), zEv (zXs Ls xs) (d + 14) zm_286 (1421, [some (.ref (zro + 0)), some (.ref 0), some (.ref 215), z3], [], zhp v) r | .inr (.inr p) => (some (.int p.1), zhp p.2) = r) : zEv (zXs Ls xs) (d + 14) zm_286 (538, [some (.ref (zro + 0)), some (.ref 0), some (.ref 215), some (.int x3)], [], zhp h) r := by
  unfold qL_law_j538 at H
  refine zEv_k 5 (f' := (543, [some (.ref (zro + 0)), some (.ref 0), some (.ref 215), some (.int x3)], [.int (x3 + 1), .ref (zro + 0), .ref 0], zhp h)) rfl ?_
  obtain ⟨j56, hj56, H⟩ := zbs H
  refine zRix (a := 0) rfl rfl hj56 ?_
  refine zEv_k 4 (f' := (548, [some (.ref (zro + 0)), some (.ref 0), some (.ref 215), some (.int x3)], [.int (x3 + 2), .ref (zro + 0), .int (xs j56), .ref 0], zhp h)) rfl ?_
  obtain ⟨j57, hj57, H⟩ := zbs H
  refine zRix (a := 0) rfl rfl hj57 ?_
  obtain ⟨p58, hp58, H⟩ := zbs H
  refine zEv_c (fun _ => rfl) rfl (t_qC_life (x1 := xs j56) (x2 := xs j57) (h := h) (d := d + 12) hp58) rfl rfl ?_
  refine zEv_k 5 (f' := (557, [some (.ref (zro + 0)), some (.ref 0), some (.ref 215), some (.int x3)], [.int (x3 + 1), .ref (zro + 0), .ref 215, .int p58], zhp h)) rfl ?_
  refine zRix (a := 0) rfl rfl hj56 ?_
  refine zEv_k 4 (f' := (562, [some (.ref (zro + 0)), some (.ref 0), some (.ref 215), some (.int x3)], [.int (x3 + 2), .ref (zro + 0), .int (xs j56), .ref 215, .int p58], zhp h)) rfl ?_
  refine zRix (a := 0) rfl rfl hj57 ?_
  obtain ⟨p59, hp59, H⟩ := zbs H
  refine zEv_c (fun _ => rfl) rfl (t_qM_life (x1 := xs j56) (x2 := xs j57) (h := h) (d := d + 10) hp59) rfl rfl ?_
  refine zEv_k 1 (f' := (if p58 = p59.1 then 1415 else 569, [some (.ref (zro + 0)), some (.ref 0), some (.ref 215), some (.int x3)], [], zhp p59.2)) rfl (zEv_if (fun c60 => ?_) (fun c60 => ?_))
  · replace H := zif_t c60 H
    refine zEv_k 2 (f' := (18, [some (.ref (zro + 0)), some (.ref 0), some (.ref 215), some (.int (x3 + 6))], [], zhp p59.2)) rfl ?_
    cases H
    exact K
  · replace H := zif_f c60 H
    refine zEv_k 1 (f' := (570, [some (.ref (zro + 0)), some (.ref 0), some (.ref 215), some (.int x3)], [.int 0], zhp p59.2)) rfl ?_
    cases H
    exact zEv_re K rfl
set_option maxRecDepth 20000 in
def qL_law_j571 (Ls : Nat) (xs : Nat → Int32) (x3 : Int32) (h : zK) : Option ((Int32 × zK) ⊕ ((zK) ⊕ (Int32 × zK))) :=
  (zix (x3 + 1) Ls).bind fun j61 =>
  (zix (x3 + 2) Ls).bind fun j62 =>
  (zix (x3 + 3) Ls).bind fun j63 =>
  (qC_plan (xs j61) (xs j62) (xs j63) h).bind fun p64 =>
  (qM_plan (xs j61) (xs j62) (xs j63) p64.2).bind fun p65 =>
  if p64.1 = p65.1 then
    some (.inl (x3 + 6, p65.2))
  else
    some (.inr (.inr (0, p65.2)))
set_option maxRecDepth 20000 in
theorem t_qL_law_j571 {Ls : Nat} {xs : Nat → Int32} {d : Nat} {x3 : Int32} {h : zK} {r : zA} {e : (Int32 × zK) ⊕ ((zK) ⊕ (Int32 × zK))} (H : qL_law_j571 Ls xs x3 h = some e) (K : match (generalizing := false) e with | .inl s' => zEv (zXs Ls xs) (d + 14) zm_286 (18, [some (.ref (zro + 0)), some (.ref 0), some (.ref 215), some (.int s'.1)], [], zhp s'.2) r | .inr (.inl v) => ∀ (z3 : Option Value), zEv (zXs Ls xs) (d + 14) zm_286 (1421, [some (.ref (zro + 0)), some (.ref 0), some (.ref 215), z3], [], zhp v) r | .inr (.inr p) => (some (.int p.1), zhp p.2) = r) : zEv (zXs Ls xs) (d + 14) zm_286 (571, [some (.ref (zro + 0)), some (.ref 0), some (.ref 215), some (.int x3)], [], zhp h) r := by
  unfold qL_law_j571 at H
  refine zEv_k 5 (f' := (576, [some (.ref (zro + 0)), some (.ref 0), some (.ref 215), some (.int x3)], [.int (x3 + 1), .ref (zro + 0), .ref 0], zhp h)) rfl ?_
  obtain ⟨j61, hj61, H⟩ := zbs H
  refine zRix (a := 0) rfl rfl hj61 ?_
  refine zEv_k 4 (f' := (581, [some (.ref (zro + 0)), some (.ref 0), some (.ref 215), some (.int x3)], [.int (x3 + 2), .ref (zro + 0), .int (xs j61), .ref 0], zhp h)) rfl ?_
  obtain ⟨j62, hj62, H⟩ := zbs H
  refine zRix (a := 0) rfl rfl hj62 ?_
  refine zEv_k 4 (f' := (586, [some (.ref (zro + 0)), some (.ref 0), some (.ref 215), some (.int x3)], [.int (x3 + 3), .ref (zro + 0), .int (xs j62), .int (xs j61), .ref 0], zhp h)) rfl ?_
  obtain ⟨j63, hj63, H⟩ := zbs H
  refine zRix (a := 0) rfl rfl hj63 ?_
  obtain ⟨p64, hp64, H⟩ := zbs H
  refine zEv_c (fun _ => rfl) rfl (t_qC_plan (x1 := xs j61) (x2 := xs j62) (x3 := xs j63) (h := h) (d := d + 9) hp64) rfl rfl ?_
  refine zEv_k 5 (f' := (595, [some (.ref (zro + 0)), some (.ref 0), some (.ref 215), some (.int x3)], [.int (x3 + 1), .ref (zro + 0), .ref 215, .int p64.1], zhp p64.2)) rfl ?_
  refine zRix (a := 0) rfl rfl hj61 ?_
  refine zEv_k 4 (f' := (600, [some (.ref (zro + 0)), some (.ref 0), some (.ref 215), some (.int x3)], [.int (x3 + 2), .ref (zro + 0), .int (xs j61), .ref 215, .int p64.1], zhp p64.2)) rfl ?_
  refine zRix (a := 0) rfl rfl hj62 ?_
  refine zEv_k 4 (f' := (605, [some (.ref (zro + 0)), some (.ref 0), some (.ref 215), some (.int x3)], [.int (x3 + 3), .ref (zro + 0), .int (xs j62), .int (xs j61), .ref 215, .int p64.1], zhp p64.2)) rfl ?_
  refine zRix (a := 0) rfl rfl hj63 ?_
  obtain ⟨p65, hp65, H⟩ := zbs H
  refine zEv_c (fun _ => rfl) rfl (t_qM_plan (x1 := xs j61) (x2 := xs j62) (x3 := xs j63) (h := p64.2) (d := d + 10) hp65) rfl rfl ?_
  refine zEv_k 1 (f' := (if p64.1 = p65.1 then 1415 else 612, [some (.ref (zro + 0)), some (.ref 0), some (.ref 215), some (.int x3)], [], zhp p65.2)) rfl (zEv_if (fun c66 => ?_) (fun c66 => ?_))
  · replace H := zif_t c66 H
    refine zEv_k 2 (f' := (18, [some (.ref (zro + 0)), some (.ref 0), some (.ref 215), some (.int (x3 + 6))], [], zhp p65.2)) rfl ?_
    cases H
    exact K
  · replace H := zif_f c66 H
    refine zEv_k 1 (f' := (613, [some (.ref (zro + 0)), some (.ref 0), some (.ref 215), some (.int x3)], [.int 0], zhp p65.2)) rfl ?_
    cases H
    exact zEv_re K rfl
set_option maxRecDepth 20000 in
def qL_law_j614 (Ls : Nat) (xs : Nat → Int32) (x3 : Int32) (h : zK) : Option ((Int32 × zK) ⊕ ((zK) ⊕ (Int32 × zK))) :=
  (zix (x3 + 1) Ls).bind fun j67 =>
  (zix (x3 + 2) Ls).bind fun j68 =>
  (qC_talk (xs j67) (xs j68) h).bind fun p69 =>
  (qM_talk (xs j67) (xs j68) p69.2).bind fun p70 =>
  if p69.1 = p70.1 then
    some (.inl (x3 + 6, p70.2))
  else
    some (.inr (.inr (0, p70.2)))
set_option maxRecDepth 20000 in
theorem t_qL_law_j614 {Ls : Nat} {xs : Nat → Int32} {d : Nat} {x3 : Int32} {h : zK} {r : zA} {e : (Int32 × zK) ⊕ ((zK) ⊕ (Int32 × zK))} (H : qL_law_j614 Ls xs x3 h = some e) (K : match (generalizing := false) e with | .inl s' => zEv (zXs Ls xs) (d + 14) zm_286 (18, [some (.ref (zro + 0)), some (.ref 0), some (.ref 215), some (.int s'.1)], [], zhp s'.2) r | .inr (.inl v) => ∀ (z3 : Option Value), zEv (zXs Ls xs) (d + 14) zm_286 (1421, [some (.ref (zro + 0)), some (.ref 0), some (.ref 215), z3], [], zhp v) r | .inr (.inr p) => (some (.int p.1), zhp p.2) = r) : zEv (zXs Ls xs) (d + 14) zm_286 (614, [some (.ref (zro + 0)), some (.ref 0), some (.ref 215), some (.int x3)], [], zhp h) r := by
  unfold qL_law_j614 at H
  refine zEv_k 5 (f' := (619, [some (.ref (zro + 0)), some (.ref 0), some (.ref 215), some (.int x3)], [.int (x3 + 1), .ref (zro + 0), .ref 0], zhp h)) rfl ?_
  obtain ⟨j67, hj67, H⟩ := zbs H
  refine zRix (a := 0) rfl rfl hj67 ?_
  refine zEv_k 4 (f' := (624, [some (.ref (zro + 0)), some (.ref 0), some (.ref 215), some (.int x3)], [.int (x3 + 2), .ref (zro + 0), .int (xs j67), .ref 0], zhp h)) rfl ?_
  obtain ⟨j68, hj68, H⟩ := zbs H
  refine zRix (a := 0) rfl rfl hj68 ?_
  obtain ⟨p69, hp69, H⟩ := zbs H
  refine zEv_c (fun _ => rfl) rfl (t_qC_talk (x1 := xs j67) (x2 := xs j68) (h := h) (d := d + 8) hp69) rfl rfl ?_
  refine zEv_k 5 (f' := (633, [some (.ref (zro + 0)), some (.ref 0), some (.ref 215), some (.int x3)], [.int (x3 + 1), .ref (zro + 0), .ref 215, .int p69.1], zhp p69.2)) rfl ?_
  refine zRix (a := 0) rfl rfl hj67 ?_
  refine zEv_k 4 (f' := (638, [some (.ref (zro + 0)), some (.ref 0), some (.ref 215), some (.int x3)], [.int (x3 + 2), .ref (zro + 0), .int (xs j67), .ref 215, .int p69.1], zhp p69.2)) rfl ?_
  refine zRix (a := 0) rfl rfl hj68 ?_
  obtain ⟨p70, hp70, H⟩ := zbs H
  refine zEv_c (fun _ => rfl) rfl (t_qM_talk (x1 := xs j67) (x2 := xs j68) (h := p69.2) (d := d + 10) hp70) rfl rfl ?_
  refine zEv_k 1 (f' := (if p69.1 = p70.1 then 1415 else 645, [some (.ref (zro + 0)), some (.ref 0), some (.ref 215), some (.int x3)], [], zhp p70.2)) rfl (zEv_if (fun c71 => ?_) (fun c71 => ?_))
  · replace H := zif_t c71 H
    refine zEv_k 2 (f' := (18, [some (.ref (zro + 0)), some (.ref 0), some (.ref 215), some (.int (x3 + 6))], [], zhp p70.2)) rfl ?_
    cases H
    exact K
  · replace H := zif_f c71 H
    refine zEv_k 1 (f' := (646, [some (.ref (zro + 0)), some (.ref 0), some (.ref 215), some (.int x3)], [.int 0], zhp p70.2)) rfl ?_
    cases H
    exact zEv_re K rfl
set_option maxRecDepth 20000 in
def qL_law_j647 (Ls : Nat) (xs : Nat → Int32) (x3 : Int32) (h : zK) : Option ((Int32 × zK) ⊕ ((zK) ⊕ (Int32 × zK))) :=
  (zix (x3 + 1) Ls).bind fun j72 =>
  (zix (x3 + 2) Ls).bind fun j73 =>
  (qC_dinner (xs j72) (xs j73) h).bind fun p74 =>
  (qM_dinner (xs j72) (xs j73) p74.2).bind fun p75 =>
  if p74.1 = p75.1 then
    some (.inl (x3 + 6, p75.2))
  else
    some (.inr (.inr (0, p75.2)))
set_option maxRecDepth 20000 in
theorem t_qL_law_j647 {Ls : Nat} {xs : Nat → Int32} {d : Nat} {x3 : Int32} {h : zK} {r : zA} {e : (Int32 × zK) ⊕ ((zK) ⊕ (Int32 × zK))} (H : qL_law_j647 Ls xs x3 h = some e) (K : match (generalizing := false) e with | .inl s' => zEv (zXs Ls xs) (d + 14) zm_286 (18, [some (.ref (zro + 0)), some (.ref 0), some (.ref 215), some (.int s'.1)], [], zhp s'.2) r | .inr (.inl v) => ∀ (z3 : Option Value), zEv (zXs Ls xs) (d + 14) zm_286 (1421, [some (.ref (zro + 0)), some (.ref 0), some (.ref 215), z3], [], zhp v) r | .inr (.inr p) => (some (.int p.1), zhp p.2) = r) : zEv (zXs Ls xs) (d + 14) zm_286 (647, [some (.ref (zro + 0)), some (.ref 0), some (.ref 215), some (.int x3)], [], zhp h) r := by
  unfold qL_law_j647 at H
  refine zEv_k 5 (f' := (652, [some (.ref (zro + 0)), some (.ref 0), some (.ref 215), some (.int x3)], [.int (x3 + 1), .ref (zro + 0), .ref 0], zhp h)) rfl ?_
  obtain ⟨j72, hj72, H⟩ := zbs H
  refine zRix (a := 0) rfl rfl hj72 ?_
  refine zEv_k 4 (f' := (657, [some (.ref (zro + 0)), some (.ref 0), some (.ref 215), some (.int x3)], [.int (x3 + 2), .ref (zro + 0), .int (xs j72), .ref 0], zhp h)) rfl ?_
  obtain ⟨j73, hj73, H⟩ := zbs H
  refine zRix (a := 0) rfl rfl hj73 ?_
  obtain ⟨p74, hp74, H⟩ := zbs H
  refine zEv_c (fun _ => rfl) rfl (t_qC_dinner (x1 := xs j72) (x2 := xs j73) (h := h) (d := d + 8) hp74) rfl rfl ?_
  refine zEv_k 5 (f' := (666, [some (.ref (zro + 0)), some (.ref 0), some (.ref 215), some (.int x3)], [.int (x3 + 1), .ref (zro + 0), .ref 215, .int p74.1], zhp p74.2)) rfl ?_
  refine zRix (a := 0) rfl rfl hj72 ?_
  refine zEv_k 4 (f' := (671, [some (.ref (zro + 0)), some (.ref 0), some (.ref 215), some (.int x3)], [.int (x3 + 2), .ref (zro + 0), .int (xs j72), .ref 215, .int p74.1], zhp p74.2)) rfl ?_
  refine zRix (a := 0) rfl rfl hj73 ?_
  obtain ⟨p75, hp75, H⟩ := zbs H
  refine zEv_c (fun _ => rfl) rfl (t_qM_dinner (x1 := xs j72) (x2 := xs j73) (h := p74.2) (d := d + 9) hp75) rfl rfl ?_
  refine zEv_k 1 (f' := (if p74.1 = p75.1 then 1415 else 678, [some (.ref (zro + 0)), some (.ref 0), some (.ref 215), some (.int x3)], [], zhp p75.2)) rfl (zEv_if (fun c76 => ?_) (fun c76 => ?_))
  · replace H := zif_t c76 H
    refine zEv_k 2 (f' := (18, [some (.ref (zro + 0)), some (.ref 0), some (.ref 215), some (.int (x3 + 6))], [], zhp p75.2)) rfl ?_
    cases H
    exact K
  · replace H := zif_f c76 H
    refine zEv_k 1 (f' := (679, [some (.ref (zro + 0)), some (.ref 0), some (.ref 215), some (.int x3)], [.int 0], zhp p75.2)) rfl ?_
    cases H
    exact zEv_re K rfl
set_option maxRecDepth 20000 in
def qL_law_j680 (Ls : Nat) (xs : Nat → Int32) (x3 : Int32) (h : zK) : Option ((Int32 × zK) ⊕ ((zK) ⊕ (Int32 × zK))) :=
  (zix (x3 + 1) Ls).bind fun j77 =>
  (zix (x3 + 2) Ls).bind fun j78 =>
  (zix (x3 + 3) Ls).bind fun j79 =>
  zlet (
      if (xs j79) = 0 then
        0
      else
        1
    ) fun (v81 : Int32) =>
  (qC_wires (xs j77) (xs j78) v81 h).bind fun p82 =>
  zlet (
      if (xs j79) = 0 then
        0
      else
        1
    ) fun (v84 : Int32) =>
  (qM_wires (xs j77) (xs j78) v84 h).bind fun p85 =>
  if p82 = p85.1 then
    some (.inl (x3 + 6, p85.2))
  else
    some (.inr (.inr (0, p85.2)))
set_option maxRecDepth 20000 in
theorem t_qL_law_j680 {Ls : Nat} {xs : Nat → Int32} {d : Nat} {x3 : Int32} {h : zK} {r : zA} {e : (Int32 × zK) ⊕ ((zK) ⊕ (Int32 × zK))} (H : qL_law_j680 Ls xs x3 h = some e) (K : match (generalizing := false) e with | .inl s' => zEv (zXs Ls xs) (d + 14) zm_286 (18, [some (.ref (zro + 0)), some (.ref 0), some (.ref 215), some (.int s'.1)], [], zhp s'.2) r | .inr (.inl v) => ∀ (z3 : Option Value), zEv (zXs Ls xs) (d + 14) zm_286 (1421, [some (.ref (zro + 0)), some (.ref 0), some (.ref 215), z3], [], zhp v) r | .inr (.inr p) => (some (.int p.1), zhp p.2) = r) : zEv (zXs Ls xs) (d + 14) zm_286 (680, [some (.ref (zro + 0)), some (.ref 0), some (.ref 215), some (.int x3)], [], zhp h) r := by
  unfold qL_law_j680 at H
  refine zEv_k 5 (f' := (685, [some (.ref (zro + 0)), some (.ref 0), some (.ref 215), some (.int x3)], [.int (x3 + 1), .ref (zro + 0), .ref 0], zhp h)) rfl ?_
  obtain ⟨j77, hj77, H⟩ := zbs H
  refine zRix (a := 0) rfl rfl hj77 ?_
  refine zEv_k 4 (f' := (690, [some (.ref (zro + 0)), some (.ref 0), some (.ref 215), some (.int x3)], [.int (x3 + 2), .ref (zro + 0), .int (xs j77), .ref 0], zhp h)) rfl ?_
  obtain ⟨j78, hj78, H⟩ := zbs H
  refine zRix (a := 0) rfl rfl hj78 ?_
  refine zEv_k 4 (f' := (695, [some (.ref (zro + 0)), some (.ref 0), some (.ref 215), some (.int x3)], [.int (x3 + 3), .ref (zro + 0), .int (xs j78), .int (xs j77), .ref 0], zhp h)) rfl ?_
  obtain ⟨j79, hj79, H⟩ := zbs H
  refine zRix (a := 0) rfl rfl hj79 ?_
  obtain ⟨v81, hv81, H⟩ := zlets H
  have kv81 : zEv (zXs Ls xs) (d + 14) zm_286 (704, [some (.ref (zro + 0)), some (.ref 0), some (.ref 215), some (.int x3)], [.int v81, .int (xs j78), .int (xs j77), .ref 0], zhp h) r := by
    obtain ⟨p82, hp82, H⟩ := zbs H
    refine zEv_c (fun _ => rfl) rfl (t_qC_wires (x1 := xs j77) (x2 := xs j78) (x3 := v81) (h := h) (d := d + 12) hp82) rfl rfl ?_
    obtain ⟨v84, hv84, H⟩ := zlets H
    have kv84 : zEv (zXs Ls xs) (d + 14) zm_286 (731, [some (.ref (zro + 0)), some (.ref 0), some (.ref 215), some (.int x3)], [.int v84, .int (xs j78), .int (xs j77), .ref 215, .int p82], zhp h) r := by
      obtain ⟨p85, hp85, H⟩ := zbs H
      refine zEv_c (fun _ => rfl) rfl (t_qM_wires (x1 := xs j77) (x2 := xs j78) (x3 := v84) (h := h) (d := d + 9) hp85) rfl rfl ?_
      refine zEv_k 1 (f' := (if p82 = p85.1 then 1415 else 737, [some (.ref (zro + 0)), some (.ref 0), some (.ref 215), some (.int x3)], [], zhp p85.2)) rfl (zEv_if (fun c86 => ?_) (fun c86 => ?_))
      · replace H := zif_t c86 H
        refine zEv_k 2 (f' := (18, [some (.ref (zro + 0)), some (.ref 0), some (.ref 215), some (.int (x3 + 6))], [], zhp p85.2)) rfl ?_
        cases H
        exact K
      · replace H := zif_f c86 H
        refine zEv_k 1 (f' := (738, [some (.ref (zro + 0)), some (.ref 0), some (.ref 215), some (.int x3)], [.int 0], zhp p85.2)) rfl ?_
        cases H
        exact zEv_re K rfl
    clear H
    refine zEv_k 5 (f' := (712, [some (.ref (zro + 0)), some (.ref 0), some (.ref 215), some (.int x3)], [.int (x3 + 1), .ref (zro + 0), .ref 215, .int p82], zhp h)) rfl ?_
    refine zRix (a := 0) rfl rfl hj77 ?_
    refine zEv_k 4 (f' := (717, [some (.ref (zro + 0)), some (.ref 0), some (.ref 215), some (.int x3)], [.int (x3 + 2), .ref (zro + 0), .int (xs j77), .ref 215, .int p82], zhp h)) rfl ?_
    refine zRix (a := 0) rfl rfl hj78 ?_
    refine zEv_k 4 (f' := (722, [some (.ref (zro + 0)), some (.ref 0), some (.ref 215), some (.int x3)], [.int (x3 + 3), .ref (zro + 0), .int (xs j78), .int (xs j77), .ref 215, .int p82], zhp h)) rfl ?_
    refine zRix (a := 0) rfl rfl hj79 ?_
    refine zEv_k 1 (f' := (if (xs j79) = 0 then 730 else 726, [some (.ref (zro + 0)), some (.ref 0), some (.ref 215), some (.int x3)], [.int (xs j78), .int (xs j77), .ref 215, .int p82], zhp h)) rfl (zEv_if (fun c83 => ?_) (fun c83 => ?_))
    · replace hv84 := zif_t c83 hv84
      refine zEv_k 1 (f' := (731, [some (.ref (zro + 0)), some (.ref 0), some (.ref 215), some (.int x3)], [.int 0, .int (xs j78), .int (xs j77), .ref 215, .int p82], zhp h)) rfl ?_
      cases hv84
      exact kv84
    · replace hv84 := zif_f c83 hv84
      refine zEv_k 2 (f' := (731, [some (.ref (zro + 0)), some (.ref 0), some (.ref 215), some (.int x3)], [.int 1, .int (xs j78), .int (xs j77), .ref 215, .int p82], zhp h)) rfl ?_
      cases hv84
      exact kv84
  clear H
  refine zEv_k 1 (f' := (if (xs j79) = 0 then 703 else 699, [some (.ref (zro + 0)), some (.ref 0), some (.ref 215), some (.int x3)], [.int (xs j78), .int (xs j77), .ref 0], zhp h)) rfl (zEv_if (fun c80 => ?_) (fun c80 => ?_))
  · replace hv81 := zif_t c80 hv81
    refine zEv_k 1 (f' := (704, [some (.ref (zro + 0)), some (.ref 0), some (.ref 215), some (.int x3)], [.int 0, .int (xs j78), .int (xs j77), .ref 0], zhp h)) rfl ?_
    cases hv81
    exact kv81
  · replace hv81 := zif_f c80 hv81
    refine zEv_k 2 (f' := (704, [some (.ref (zro + 0)), some (.ref 0), some (.ref 215), some (.int x3)], [.int 1, .int (xs j78), .int (xs j77), .ref 0], zhp h)) rfl ?_
    cases hv81
    exact kv81
set_option maxRecDepth 20000 in
def qL_law_j739 (Ls : Nat) (xs : Nat → Int32) (x3 : Int32) (h : zK) : Option ((Int32 × zK) ⊕ ((zK) ⊕ (Int32 × zK))) :=
  (zix (x3 + 1) Ls).bind fun j87 =>
  (zix (x3 + 2) Ls).bind fun j88 =>
  (zix (x3 + 3) Ls).bind fun j89 =>
  zlet (
      if (xs j89) = 0 then
        0
      else
        1
    ) fun (v91 : Int32) =>
  (qC_duel (xs j87) (xs j88) v91 h).bind fun p92 =>
  zlet (
      if (xs j89) = 0 then
        0
      else
        1
    ) fun (v94 : Int32) =>
  (qM_duel (xs j87) (xs j88) v94 p92.2).bind fun p95 =>
  if p92.1 = p95.1 then
    some (.inl (x3 + 6, p95.2))
  else
    some (.inr (.inr (0, p95.2)))
set_option maxRecDepth 20000 in
theorem t_qL_law_j739 {Ls : Nat} {xs : Nat → Int32} {d : Nat} {x3 : Int32} {h : zK} {r : zA} {e : (Int32 × zK) ⊕ ((zK) ⊕ (Int32 × zK))} (H : qL_law_j739 Ls xs x3 h = some e) (K : match (generalizing := false) e with | .inl s' => zEv (zXs Ls xs) (d + 14) zm_286 (18, [some (.ref (zro + 0)), some (.ref 0), some (.ref 215), some (.int s'.1)], [], zhp s'.2) r | .inr (.inl v) => ∀ (z3 : Option Value), zEv (zXs Ls xs) (d + 14) zm_286 (1421, [some (.ref (zro + 0)), some (.ref 0), some (.ref 215), z3], [], zhp v) r | .inr (.inr p) => (some (.int p.1), zhp p.2) = r) : zEv (zXs Ls xs) (d + 14) zm_286 (739, [some (.ref (zro + 0)), some (.ref 0), some (.ref 215), some (.int x3)], [], zhp h) r := by
  unfold qL_law_j739 at H
  refine zEv_k 5 (f' := (744, [some (.ref (zro + 0)), some (.ref 0), some (.ref 215), some (.int x3)], [.int (x3 + 1), .ref (zro + 0), .ref 0], zhp h)) rfl ?_
  obtain ⟨j87, hj87, H⟩ := zbs H
  refine zRix (a := 0) rfl rfl hj87 ?_
  refine zEv_k 4 (f' := (749, [some (.ref (zro + 0)), some (.ref 0), some (.ref 215), some (.int x3)], [.int (x3 + 2), .ref (zro + 0), .int (xs j87), .ref 0], zhp h)) rfl ?_
  obtain ⟨j88, hj88, H⟩ := zbs H
  refine zRix (a := 0) rfl rfl hj88 ?_
  refine zEv_k 4 (f' := (754, [some (.ref (zro + 0)), some (.ref 0), some (.ref 215), some (.int x3)], [.int (x3 + 3), .ref (zro + 0), .int (xs j88), .int (xs j87), .ref 0], zhp h)) rfl ?_
  obtain ⟨j89, hj89, H⟩ := zbs H
  refine zRix (a := 0) rfl rfl hj89 ?_
  obtain ⟨v91, hv91, H⟩ := zlets H
  have kv91 : zEv (zXs Ls xs) (d + 14) zm_286 (763, [some (.ref (zro + 0)), some (.ref 0), some (.ref 215), some (.int x3)], [.int v91, .int (xs j88), .int (xs j87), .ref 0], zhp h) r := by
    obtain ⟨p92, hp92, H⟩ := zbs H
    refine zEv_c (fun _ => rfl) rfl (t_qC_duel (x1 := xs j87) (x2 := xs j88) (x3 := v91) (h := h) (d := d + 7) hp92) rfl rfl ?_
    obtain ⟨v94, hv94, H⟩ := zlets H
    have kv94 : zEv (zXs Ls xs) (d + 14) zm_286 (790, [some (.ref (zro + 0)), some (.ref 0), some (.ref 215), some (.int x3)], [.int v94, .int (xs j88), .int (xs j87), .ref 215, .int p92.1], zhp p92.2) r := by
      obtain ⟨p95, hp95, H⟩ := zbs H
      refine zEv_c (fun _ => rfl) rfl (t_qM_duel (x1 := xs j87) (x2 := xs j88) (x3 := v94) (h := p92.2) (d := d + 8) hp95) rfl rfl ?_
      refine zEv_k 1 (f' := (if p92.1 = p95.1 then 1415 else 796, [some (.ref (zro + 0)), some (.ref 0), some (.ref 215), some (.int x3)], [], zhp p95.2)) rfl (zEv_if (fun c96 => ?_) (fun c96 => ?_))
      · replace H := zif_t c96 H
        refine zEv_k 2 (f' := (18, [some (.ref (zro + 0)), some (.ref 0), some (.ref 215), some (.int (x3 + 6))], [], zhp p95.2)) rfl ?_
        cases H
        exact K
      · replace H := zif_f c96 H
        refine zEv_k 1 (f' := (797, [some (.ref (zro + 0)), some (.ref 0), some (.ref 215), some (.int x3)], [.int 0], zhp p95.2)) rfl ?_
        cases H
        exact zEv_re K rfl
    clear H
    refine zEv_k 5 (f' := (771, [some (.ref (zro + 0)), some (.ref 0), some (.ref 215), some (.int x3)], [.int (x3 + 1), .ref (zro + 0), .ref 215, .int p92.1], zhp p92.2)) rfl ?_
    refine zRix (a := 0) rfl rfl hj87 ?_
    refine zEv_k 4 (f' := (776, [some (.ref (zro + 0)), some (.ref 0), some (.ref 215), some (.int x3)], [.int (x3 + 2), .ref (zro + 0), .int (xs j87), .ref 215, .int p92.1], zhp p92.2)) rfl ?_
    refine zRix (a := 0) rfl rfl hj88 ?_
    refine zEv_k 4 (f' := (781, [some (.ref (zro + 0)), some (.ref 0), some (.ref 215), some (.int x3)], [.int (x3 + 3), .ref (zro + 0), .int (xs j88), .int (xs j87), .ref 215, .int p92.1], zhp p92.2)) rfl ?_
    refine zRix (a := 0) rfl rfl hj89 ?_
    refine zEv_k 1 (f' := (if (xs j89) = 0 then 789 else 785, [some (.ref (zro + 0)), some (.ref 0), some (.ref 215), some (.int x3)], [.int (xs j88), .int (xs j87), .ref 215, .int p92.1], zhp p92.2)) rfl (zEv_if (fun c93 => ?_) (fun c93 => ?_))
    · replace hv94 := zif_t c93 hv94
      refine zEv_k 1 (f' := (790, [some (.ref (zro + 0)), some (.ref 0), some (.ref 215), some (.int x3)], [.int 0, .int (xs j88), .int (xs j87), .ref 215, .int p92.1], zhp p92.2)) rfl ?_
      cases hv94
      exact kv94
    · replace hv94 := zif_f c93 hv94
      refine zEv_k 2 (f' := (790, [some (.ref (zro + 0)), some (.ref 0), some (.ref 215), some (.int x3)], [.int 1, .int (xs j88), .int (xs j87), .ref 215, .int p92.1], zhp p92.2)) rfl ?_
      cases hv94
      exact kv94
  clear H
  refine zEv_k 1 (f' := (if (xs j89) = 0 then 762 else 758, [some (.ref (zro + 0)), some (.ref 0), some (.ref 215), some (.int x3)], [.int (xs j88), .int (xs j87), .ref 0], zhp h)) rfl (zEv_if (fun c90 => ?_) (fun c90 => ?_))
  · replace hv91 := zif_t c90 hv91
    refine zEv_k 1 (f' := (763, [some (.ref (zro + 0)), some (.ref 0), some (.ref 215), some (.int x3)], [.int 0, .int (xs j88), .int (xs j87), .ref 0], zhp h)) rfl ?_
    cases hv91
    exact kv91
  · replace hv91 := zif_f c90 hv91
    refine zEv_k 2 (f' := (763, [some (.ref (zro + 0)), some (.ref 0), some (.ref 215), some (.int x3)], [.int 1, .int (xs j88), .int (xs j87), .ref 0], zhp h)) rfl ?_
    cases hv91
    exact kv91
set_option maxRecDepth 20000 in
def qL_law_j798 (Ls : Nat) (xs : Nat → Int32) (x3 : Int32) (h : zK) : Option ((Int32 × zK) ⊕ ((zK) ⊕ (Int32 × zK))) :=
  (zix (x3 + 1) Ls).bind fun j97 =>
  (zix (x3 + 2) Ls).bind fun j98 =>
  (zix (x3 + 3) Ls).bind fun j99 =>
  (zix (x3 + 4) Ls).bind fun j100 =>
  (zix (x3 + 5) Ls).bind fun j101 =>
  zlet (
      if (xs j101) = 0 then
        0
      else
        1
    ) fun (v103 : Int32) =>
  (qC_hold (xs j97) (xs j98) (xs j99) (xs j100) v103 h).bind fun p104 =>
  zlet (
      if (xs j101) = 0 then
        0
      else
        1
    ) fun (v106 : Int32) =>
  (qM_hold (xs j97) (xs j98) (xs j99) (xs j100) v106 h).bind fun p107 =>
  if (lg_cmp p104 p107.1) = 0 then
    some (.inl (x3 + 6, p107.2))
  else
    some (.inr (.inr (0, p107.2)))
set_option maxRecDepth 20000 in
theorem t_qL_law_j798 {Ls : Nat} {xs : Nat → Int32} {d : Nat} {x3 : Int32} {h : zK} {r : zA} {e : (Int32 × zK) ⊕ ((zK) ⊕ (Int32 × zK))} (H : qL_law_j798 Ls xs x3 h = some e) (K : match (generalizing := false) e with | .inl s' => zEv (zXs Ls xs) (d + 14) zm_286 (18, [some (.ref (zro + 0)), some (.ref 0), some (.ref 215), some (.int s'.1)], [], zhp s'.2) r | .inr (.inl v) => ∀ (z3 : Option Value), zEv (zXs Ls xs) (d + 14) zm_286 (1421, [some (.ref (zro + 0)), some (.ref 0), some (.ref 215), z3], [], zhp v) r | .inr (.inr p) => (some (.int p.1), zhp p.2) = r) : zEv (zXs Ls xs) (d + 14) zm_286 (798, [some (.ref (zro + 0)), some (.ref 0), some (.ref 215), some (.int x3)], [], zhp h) r := by
  unfold qL_law_j798 at H
  refine zEv_k 5 (f' := (803, [some (.ref (zro + 0)), some (.ref 0), some (.ref 215), some (.int x3)], [.int (x3 + 1), .ref (zro + 0), .ref 0], zhp h)) rfl ?_
  obtain ⟨j97, hj97, H⟩ := zbs H
  refine zRix (a := 0) rfl rfl hj97 ?_
  refine zEv_k 4 (f' := (808, [some (.ref (zro + 0)), some (.ref 0), some (.ref 215), some (.int x3)], [.int (x3 + 2), .ref (zro + 0), .int (xs j97), .ref 0], zhp h)) rfl ?_
  obtain ⟨j98, hj98, H⟩ := zbs H
  refine zRix (a := 0) rfl rfl hj98 ?_
  refine zEv_k 4 (f' := (813, [some (.ref (zro + 0)), some (.ref 0), some (.ref 215), some (.int x3)], [.int (x3 + 3), .ref (zro + 0), .int (xs j98), .int (xs j97), .ref 0], zhp h)) rfl ?_
  obtain ⟨j99, hj99, H⟩ := zbs H
  refine zRix (a := 0) rfl rfl hj99 ?_
  refine zEv_k 4 (f' := (818, [some (.ref (zro + 0)), some (.ref 0), some (.ref 215), some (.int x3)], [.int (x3 + 4), .ref (zro + 0), .int (xs j99), .int (xs j98), .int (xs j97), .ref 0], zhp h)) rfl ?_
  obtain ⟨j100, hj100, H⟩ := zbs H
  refine zRix (a := 0) rfl rfl hj100 ?_
  refine zEv_k 4 (f' := (823, [some (.ref (zro + 0)), some (.ref 0), some (.ref 215), some (.int x3)], [.int (x3 + 5), .ref (zro + 0), .int (xs j100), .int (xs j99), .int (xs j98), .int (xs j97), .ref 0], zhp h)) rfl ?_
  obtain ⟨j101, hj101, H⟩ := zbs H
  refine zRix (a := 0) rfl rfl hj101 ?_
  obtain ⟨v103, hv103, H⟩ := zlets H
  have kv103 : zEv (zXs Ls xs) (d + 14) zm_286 (832, [some (.ref (zro + 0)), some (.ref 0), some (.ref 215), some (.int x3)], [.int v103, .int (xs j100), .int (xs j99), .int (xs j98), .int (xs j97), .ref 0], zhp h) r := by
    obtain ⟨p104, hp104, H⟩ := zbs H
    refine zEv_c (fun _ => rfl) rfl (t_qC_hold (x1 := xs j97) (x2 := xs j98) (x3 := xs j99) (x4 := xs j100) (x5 := v103) (h := h) (d := d + 11) hp104) rfl rfl ?_
    obtain ⟨v106, hv106, H⟩ := zlets H
    have kv106 : zEv (zXs Ls xs) (d + 14) zm_286 (869, [some (.ref (zro + 0)), some (.ref 0), some (.ref 215), some (.int x3)], [.int v106, .int (xs j100), .int (xs j99), .int (xs j98), .int (xs j97), .ref 215, .long p104], zhp h) r := by
      obtain ⟨p107, hp107, H⟩ := zbs H
      refine zEv_c (fun _ => rfl) rfl (t_qM_hold (x1 := xs j97) (x2 := xs j98) (x3 := xs j99) (x4 := xs j100) (x5 := v106) (h := h) (d := d + 10) hp107) rfl rfl ?_
      refine zEv_k 2 (f' := (if (lg_cmp p104 p107.1) = 0 then 1415 else 876, [some (.ref (zro + 0)), some (.ref 0), some (.ref 215), some (.int x3)], [], zhp p107.2)) rfl (zEv_if (fun c108 => ?_) (fun c108 => ?_))
      · replace H := zif_t c108 H
        refine zEv_k 2 (f' := (18, [some (.ref (zro + 0)), some (.ref 0), some (.ref 215), some (.int (x3 + 6))], [], zhp p107.2)) rfl ?_
        cases H
        exact K
      · replace H := zif_f c108 H
        refine zEv_k 1 (f' := (877, [some (.ref (zro + 0)), some (.ref 0), some (.ref 215), some (.int x3)], [.int 0], zhp p107.2)) rfl ?_
        cases H
        exact zEv_re K rfl
    clear H
    refine zEv_k 5 (f' := (840, [some (.ref (zro + 0)), some (.ref 0), some (.ref 215), some (.int x3)], [.int (x3 + 1), .ref (zro + 0), .ref 215, .long p104], zhp h)) rfl ?_
    refine zRix (a := 0) rfl rfl hj97 ?_
    refine zEv_k 4 (f' := (845, [some (.ref (zro + 0)), some (.ref 0), some (.ref 215), some (.int x3)], [.int (x3 + 2), .ref (zro + 0), .int (xs j97), .ref 215, .long p104], zhp h)) rfl ?_
    refine zRix (a := 0) rfl rfl hj98 ?_
    refine zEv_k 4 (f' := (850, [some (.ref (zro + 0)), some (.ref 0), some (.ref 215), some (.int x3)], [.int (x3 + 3), .ref (zro + 0), .int (xs j98), .int (xs j97), .ref 215, .long p104], zhp h)) rfl ?_
    refine zRix (a := 0) rfl rfl hj99 ?_
    refine zEv_k 4 (f' := (855, [some (.ref (zro + 0)), some (.ref 0), some (.ref 215), some (.int x3)], [.int (x3 + 4), .ref (zro + 0), .int (xs j99), .int (xs j98), .int (xs j97), .ref 215, .long p104], zhp h)) rfl ?_
    refine zRix (a := 0) rfl rfl hj100 ?_
    refine zEv_k 4 (f' := (860, [some (.ref (zro + 0)), some (.ref 0), some (.ref 215), some (.int x3)], [.int (x3 + 5), .ref (zro + 0), .int (xs j100), .int (xs j99), .int (xs j98), .int (xs j97), .ref 215, .long p104], zhp h)) rfl ?_
    refine zRix (a := 0) rfl rfl hj101 ?_
    refine zEv_k 1 (f' := (if (xs j101) = 0 then 868 else 864, [some (.ref (zro + 0)), some (.ref 0), some (.ref 215), some (.int x3)], [.int (xs j100), .int (xs j99), .int (xs j98), .int (xs j97), .ref 215, .long p104], zhp h)) rfl (zEv_if (fun c105 => ?_) (fun c105 => ?_))
    · replace hv106 := zif_t c105 hv106
      refine zEv_k 1 (f' := (869, [some (.ref (zro + 0)), some (.ref 0), some (.ref 215), some (.int x3)], [.int 0, .int (xs j100), .int (xs j99), .int (xs j98), .int (xs j97), .ref 215, .long p104], zhp h)) rfl ?_
      cases hv106
      exact kv106
    · replace hv106 := zif_f c105 hv106
      refine zEv_k 2 (f' := (869, [some (.ref (zro + 0)), some (.ref 0), some (.ref 215), some (.int x3)], [.int 1, .int (xs j100), .int (xs j99), .int (xs j98), .int (xs j97), .ref 215, .long p104], zhp h)) rfl ?_
      cases hv106
      exact kv106
  clear H
  refine zEv_k 1 (f' := (if (xs j101) = 0 then 831 else 827, [some (.ref (zro + 0)), some (.ref 0), some (.ref 215), some (.int x3)], [.int (xs j100), .int (xs j99), .int (xs j98), .int (xs j97), .ref 0], zhp h)) rfl (zEv_if (fun c102 => ?_) (fun c102 => ?_))
  · replace hv103 := zif_t c102 hv103
    refine zEv_k 1 (f' := (832, [some (.ref (zro + 0)), some (.ref 0), some (.ref 215), some (.int x3)], [.int 0, .int (xs j100), .int (xs j99), .int (xs j98), .int (xs j97), .ref 0], zhp h)) rfl ?_
    cases hv103
    exact kv103
  · replace hv103 := zif_f c102 hv103
    refine zEv_k 2 (f' := (832, [some (.ref (zro + 0)), some (.ref 0), some (.ref 215), some (.int x3)], [.int 1, .int (xs j100), .int (xs j99), .int (xs j98), .int (xs j97), .ref 0], zhp h)) rfl ?_
    cases hv103
    exact kv103
set_option maxRecDepth 20000 in
def qL_law_j878 (Ls : Nat) (xs : Nat → Int32) (x3 : Int32) (h : zK) : Option ((Int32 × zK) ⊕ ((zK) ⊕ (Int32 × zK))) :=
  (zix (x3 + 1) Ls).bind fun j109 =>
  (zix (x3 + 2) Ls).bind fun j110 =>
  (zix (x3 + 3) Ls).bind fun j111 =>
  (qC_fact (xs j109) (xs j110) (xs j111) h).bind fun p112 =>
  (qM_fact (xs j109) (xs j110) (xs j111) h).bind fun p113 =>
  if p112 = p113.1 then
    some (.inl (x3 + 6, p113.2))
  else
    some (.inr (.inr (0, p113.2)))
set_option maxRecDepth 20000 in
theorem t_qL_law_j878 {Ls : Nat} {xs : Nat → Int32} {d : Nat} {x3 : Int32} {h : zK} {r : zA} {e : (Int32 × zK) ⊕ ((zK) ⊕ (Int32 × zK))} (H : qL_law_j878 Ls xs x3 h = some e) (K : match (generalizing := false) e with | .inl s' => zEv (zXs Ls xs) (d + 14) zm_286 (18, [some (.ref (zro + 0)), some (.ref 0), some (.ref 215), some (.int s'.1)], [], zhp s'.2) r | .inr (.inl v) => ∀ (z3 : Option Value), zEv (zXs Ls xs) (d + 14) zm_286 (1421, [some (.ref (zro + 0)), some (.ref 0), some (.ref 215), z3], [], zhp v) r | .inr (.inr p) => (some (.int p.1), zhp p.2) = r) : zEv (zXs Ls xs) (d + 14) zm_286 (878, [some (.ref (zro + 0)), some (.ref 0), some (.ref 215), some (.int x3)], [], zhp h) r := by
  unfold qL_law_j878 at H
  refine zEv_k 5 (f' := (883, [some (.ref (zro + 0)), some (.ref 0), some (.ref 215), some (.int x3)], [.int (x3 + 1), .ref (zro + 0), .ref 0], zhp h)) rfl ?_
  obtain ⟨j109, hj109, H⟩ := zbs H
  refine zRix (a := 0) rfl rfl hj109 ?_
  refine zEv_k 4 (f' := (888, [some (.ref (zro + 0)), some (.ref 0), some (.ref 215), some (.int x3)], [.int (x3 + 2), .ref (zro + 0), .int (xs j109), .ref 0], zhp h)) rfl ?_
  obtain ⟨j110, hj110, H⟩ := zbs H
  refine zRix (a := 0) rfl rfl hj110 ?_
  refine zEv_k 4 (f' := (893, [some (.ref (zro + 0)), some (.ref 0), some (.ref 215), some (.int x3)], [.int (x3 + 3), .ref (zro + 0), .int (xs j110), .int (xs j109), .ref 0], zhp h)) rfl ?_
  obtain ⟨j111, hj111, H⟩ := zbs H
  refine zRix (a := 0) rfl rfl hj111 ?_
  obtain ⟨p112, hp112, H⟩ := zbs H
  refine zEv_c (fun _ => rfl) rfl (t_qC_fact (x1 := xs j109) (x2 := xs j110) (x3 := xs j111) (h := h) (d := d + 12) hp112) rfl rfl ?_
  refine zEv_k 5 (f' := (902, [some (.ref (zro + 0)), some (.ref 0), some (.ref 215), some (.int x3)], [.int (x3 + 1), .ref (zro + 0), .ref 215, .int p112], zhp h)) rfl ?_
  refine zRix (a := 0) rfl rfl hj109 ?_
  refine zEv_k 4 (f' := (907, [some (.ref (zro + 0)), some (.ref 0), some (.ref 215), some (.int x3)], [.int (x3 + 2), .ref (zro + 0), .int (xs j109), .ref 215, .int p112], zhp h)) rfl ?_
  refine zRix (a := 0) rfl rfl hj110 ?_
  refine zEv_k 4 (f' := (912, [some (.ref (zro + 0)), some (.ref 0), some (.ref 215), some (.int x3)], [.int (x3 + 3), .ref (zro + 0), .int (xs j110), .int (xs j109), .ref 215, .int p112], zhp h)) rfl ?_
  refine zRix (a := 0) rfl rfl hj111 ?_
  obtain ⟨p113, hp113, H⟩ := zbs H
  refine zEv_c (fun _ => rfl) rfl (t_qM_fact (x1 := xs j109) (x2 := xs j110) (x3 := xs j111) (h := h) (d := d + 10) hp113) rfl rfl ?_
  refine zEv_k 1 (f' := (if p112 = p113.1 then 1415 else 919, [some (.ref (zro + 0)), some (.ref 0), some (.ref 215), some (.int x3)], [], zhp p113.2)) rfl (zEv_if (fun c114 => ?_) (fun c114 => ?_))
  · replace H := zif_t c114 H
    refine zEv_k 2 (f' := (18, [some (.ref (zro + 0)), some (.ref 0), some (.ref 215), some (.int (x3 + 6))], [], zhp p113.2)) rfl ?_
    cases H
    exact K
  · replace H := zif_f c114 H
    refine zEv_k 1 (f' := (920, [some (.ref (zro + 0)), some (.ref 0), some (.ref 215), some (.int x3)], [.int 0], zhp p113.2)) rfl ?_
    cases H
    exact zEv_re K rfl
set_option maxRecDepth 20000 in
def qL_law_j921 (Ls : Nat) (xs : Nat → Int32) (x3 : Int32) (h : zK) : Option ((Int32 × zK) ⊕ ((zK) ⊕ (Int32 × zK))) :=
  (zix (x3 + 1) Ls).bind fun j115 =>
  (zix (x3 + 2) Ls).bind fun j116 =>
  (zix (x3 + 3) Ls).bind fun j117 =>
  (qC_fits (xs j115) (xs j116) (xs j117) h).bind fun p118 =>
  (qM_fits (xs j115) (xs j116) (xs j117) p118.2).bind fun p119 =>
  if p118.1 = p119.1 then
    some (.inl (x3 + 6, p119.2))
  else
    some (.inr (.inr (0, p119.2)))
set_option maxRecDepth 20000 in
theorem t_qL_law_j921 {Ls : Nat} {xs : Nat → Int32} {d : Nat} {x3 : Int32} {h : zK} {r : zA} {e : (Int32 × zK) ⊕ ((zK) ⊕ (Int32 × zK))} (H : qL_law_j921 Ls xs x3 h = some e) (K : match (generalizing := false) e with | .inl s' => zEv (zXs Ls xs) (d + 14) zm_286 (18, [some (.ref (zro + 0)), some (.ref 0), some (.ref 215), some (.int s'.1)], [], zhp s'.2) r | .inr (.inl v) => ∀ (z3 : Option Value), zEv (zXs Ls xs) (d + 14) zm_286 (1421, [some (.ref (zro + 0)), some (.ref 0), some (.ref 215), z3], [], zhp v) r | .inr (.inr p) => (some (.int p.1), zhp p.2) = r) : zEv (zXs Ls xs) (d + 14) zm_286 (921, [some (.ref (zro + 0)), some (.ref 0), some (.ref 215), some (.int x3)], [], zhp h) r := by
  unfold qL_law_j921 at H
  refine zEv_k 5 (f' := (926, [some (.ref (zro + 0)), some (.ref 0), some (.ref 215), some (.int x3)], [.int (x3 + 1), .ref (zro + 0), .ref 0], zhp h)) rfl ?_
  obtain ⟨j115, hj115, H⟩ := zbs H
  refine zRix (a := 0) rfl rfl hj115 ?_
  refine zEv_k 4 (f' := (931, [some (.ref (zro + 0)), some (.ref 0), some (.ref 215), some (.int x3)], [.int (x3 + 2), .ref (zro + 0), .int (xs j115), .ref 0], zhp h)) rfl ?_
  obtain ⟨j116, hj116, H⟩ := zbs H
  refine zRix (a := 0) rfl rfl hj116 ?_
  refine zEv_k 4 (f' := (936, [some (.ref (zro + 0)), some (.ref 0), some (.ref 215), some (.int x3)], [.int (x3 + 3), .ref (zro + 0), .int (xs j116), .int (xs j115), .ref 0], zhp h)) rfl ?_
  obtain ⟨j117, hj117, H⟩ := zbs H
  refine zRix (a := 0) rfl rfl hj117 ?_
  obtain ⟨p118, hp118, H⟩ := zbs H
  refine zEv_c (fun _ => rfl) rfl (t_qC_fits (x1 := xs j115) (x2 := xs j116) (x3 := xs j117) (h := h) (d := d + 7) hp118) rfl rfl ?_
  refine zEv_k 5 (f' := (945, [some (.ref (zro + 0)), some (.ref 0), some (.ref 215), some (.int x3)], [.int (x3 + 1), .ref (zro + 0), .ref 215, .int p118.1], zhp p118.2)) rfl ?_
  refine zRix (a := 0) rfl rfl hj115 ?_
  refine zEv_k 4 (f' := (950, [some (.ref (zro + 0)), some (.ref 0), some (.ref 215), some (.int x3)], [.int (x3 + 2), .ref (zro + 0), .int (xs j115), .ref 215, .int p118.1], zhp p118.2)) rfl ?_
  refine zRix (a := 0) rfl rfl hj116 ?_
  refine zEv_k 4 (f' := (955, [some (.ref (zro + 0)), some (.ref 0), some (.ref 215), some (.int x3)], [.int (x3 + 3), .ref (zro + 0), .int (xs j116), .int (xs j115), .ref 215, .int p118.1], zhp p118.2)) rfl ?_
  refine zRix (a := 0) rfl rfl hj117 ?_
  obtain ⟨p119, hp119, H⟩ := zbs H
  refine zEv_c (fun _ => rfl) rfl (t_qM_fits (x1 := xs j115) (x2 := xs j116) (x3 := xs j117) (h := p118.2) (d := d + 7) hp119) rfl rfl ?_
  refine zEv_k 1 (f' := (if p118.1 = p119.1 then 1415 else 962, [some (.ref (zro + 0)), some (.ref 0), some (.ref 215), some (.int x3)], [], zhp p119.2)) rfl (zEv_if (fun c120 => ?_) (fun c120 => ?_))
  · replace H := zif_t c120 H
    refine zEv_k 2 (f' := (18, [some (.ref (zro + 0)), some (.ref 0), some (.ref 215), some (.int (x3 + 6))], [], zhp p119.2)) rfl ?_
    cases H
    exact K
  · replace H := zif_f c120 H
    refine zEv_k 1 (f' := (963, [some (.ref (zro + 0)), some (.ref 0), some (.ref 215), some (.int x3)], [.int 0], zhp p119.2)) rfl ?_
    cases H
    exact zEv_re K rfl
set_option maxRecDepth 20000 in
def qL_law_j964 (Ls : Nat) (xs : Nat → Int32) (x3 : Int32) (h : zK) : Option ((Int32 × zK) ⊕ ((zK) ⊕ (Int32 × zK))) :=
  (zix (x3 + 1) Ls).bind fun j121 =>
  (zix (x3 + 2) Ls).bind fun j122 =>
  (zix (x3 + 3) Ls).bind fun j123 =>
  (zix (x3 + 4) Ls).bind fun j124 =>
  (qC_drawn (xs j121) (xs j122) (xs j123) (xs j124) h).bind fun p125 =>
  (qM_drawn (xs j121) (xs j122) (xs j123) (xs j124) p125.2).bind fun p126 =>
  if p125.1 = p126.1 then
    some (.inl (x3 + 6, p126.2))
  else
    some (.inr (.inr (0, p126.2)))
set_option maxRecDepth 20000 in
theorem t_qL_law_j964 {Ls : Nat} {xs : Nat → Int32} {d : Nat} {x3 : Int32} {h : zK} {r : zA} {e : (Int32 × zK) ⊕ ((zK) ⊕ (Int32 × zK))} (H : qL_law_j964 Ls xs x3 h = some e) (K : match (generalizing := false) e with | .inl s' => zEv (zXs Ls xs) (d + 14) zm_286 (18, [some (.ref (zro + 0)), some (.ref 0), some (.ref 215), some (.int s'.1)], [], zhp s'.2) r | .inr (.inl v) => ∀ (z3 : Option Value), zEv (zXs Ls xs) (d + 14) zm_286 (1421, [some (.ref (zro + 0)), some (.ref 0), some (.ref 215), z3], [], zhp v) r | .inr (.inr p) => (some (.int p.1), zhp p.2) = r) : zEv (zXs Ls xs) (d + 14) zm_286 (964, [some (.ref (zro + 0)), some (.ref 0), some (.ref 215), some (.int x3)], [], zhp h) r := by
  unfold qL_law_j964 at H
  refine zEv_k 5 (f' := (969, [some (.ref (zro + 0)), some (.ref 0), some (.ref 215), some (.int x3)], [.int (x3 + 1), .ref (zro + 0), .ref 0], zhp h)) rfl ?_
  obtain ⟨j121, hj121, H⟩ := zbs H
  refine zRix (a := 0) rfl rfl hj121 ?_
  refine zEv_k 4 (f' := (974, [some (.ref (zro + 0)), some (.ref 0), some (.ref 215), some (.int x3)], [.int (x3 + 2), .ref (zro + 0), .int (xs j121), .ref 0], zhp h)) rfl ?_
  obtain ⟨j122, hj122, H⟩ := zbs H
  refine zRix (a := 0) rfl rfl hj122 ?_
  refine zEv_k 4 (f' := (979, [some (.ref (zro + 0)), some (.ref 0), some (.ref 215), some (.int x3)], [.int (x3 + 3), .ref (zro + 0), .int (xs j122), .int (xs j121), .ref 0], zhp h)) rfl ?_
  obtain ⟨j123, hj123, H⟩ := zbs H
  refine zRix (a := 0) rfl rfl hj123 ?_
  refine zEv_k 4 (f' := (984, [some (.ref (zro + 0)), some (.ref 0), some (.ref 215), some (.int x3)], [.int (x3 + 4), .ref (zro + 0), .int (xs j123), .int (xs j122), .int (xs j121), .ref 0], zhp h)) rfl ?_
  obtain ⟨j124, hj124, H⟩ := zbs H
  refine zRix (a := 0) rfl rfl hj124 ?_
  obtain ⟨p125, hp125, H⟩ := zbs H
  refine zEv_c (fun _ => rfl) rfl (t_qC_drawn (x1 := xs j121) (x2 := xs j122) (x3 := xs j123) (x4 := xs j124) (h := h) (d := d + 8) hp125) rfl rfl ?_
  refine zEv_k 5 (f' := (993, [some (.ref (zro + 0)), some (.ref 0), some (.ref 215), some (.int x3)], [.int (x3 + 1), .ref (zro + 0), .ref 215, .int p125.1], zhp p125.2)) rfl ?_
  refine zRix (a := 0) rfl rfl hj121 ?_
  refine zEv_k 4 (f' := (998, [some (.ref (zro + 0)), some (.ref 0), some (.ref 215), some (.int x3)], [.int (x3 + 2), .ref (zro + 0), .int (xs j121), .ref 215, .int p125.1], zhp p125.2)) rfl ?_
  refine zRix (a := 0) rfl rfl hj122 ?_
  refine zEv_k 4 (f' := (1003, [some (.ref (zro + 0)), some (.ref 0), some (.ref 215), some (.int x3)], [.int (x3 + 3), .ref (zro + 0), .int (xs j122), .int (xs j121), .ref 215, .int p125.1], zhp p125.2)) rfl ?_
  refine zRix (a := 0) rfl rfl hj123 ?_
  refine zEv_k 4 (f' := (1008, [some (.ref (zro + 0)), some (.ref 0), some (.ref 215), some (.int x3)], [.int (x3 + 4), .ref (zro + 0), .int (xs j123), .int (xs j122), .int (xs j121), .ref 215, .int p125.1], zhp p125.2)) rfl ?_
  refine zRix (a := 0) rfl rfl hj124 ?_
  obtain ⟨p126, hp126, H⟩ := zbs H
  refine zEv_c (fun _ => rfl) rfl (t_qM_drawn (x1 := xs j121) (x2 := xs j122) (x3 := xs j123) (x4 := xs j124) (h := p125.2) (d := d + 7) hp126) rfl rfl ?_
  refine zEv_k 1 (f' := (if p125.1 = p126.1 then 1415 else 1015, [some (.ref (zro + 0)), some (.ref 0), some (.ref 215), some (.int x3)], [], zhp p126.2)) rfl (zEv_if (fun c127 => ?_) (fun c127 => ?_))
  · replace H := zif_t c127 H
    refine zEv_k 2 (f' := (18, [some (.ref (zro + 0)), some (.ref 0), some (.ref 215), some (.int (x3 + 6))], [], zhp p126.2)) rfl ?_
    cases H
    exact K
  · replace H := zif_f c127 H
    refine zEv_k 1 (f' := (1016, [some (.ref (zro + 0)), some (.ref 0), some (.ref 215), some (.int x3)], [.int 0], zhp p126.2)) rfl ?_
    cases H
    exact zEv_re K rfl
set_option maxRecDepth 20000 in
def qL_law_j1017 (Ls : Nat) (xs : Nat → Int32) (x3 : Int32) (h : zK) : Option ((Int32 × zK) ⊕ ((zK) ⊕ (Int32 × zK))) :=
  (zix (x3 + 1) Ls).bind fun j128 =>
  (zix (x3 + 2) Ls).bind fun j129 =>
  (qC_wit (xs j128) (xs j129) h).bind fun p130 =>
  (qM_wit (xs j128) (xs j129) p130.2).bind fun p131 =>
  if p130.1 = p131.1 then
    some (.inl (x3 + 6, p131.2))
  else
    some (.inr (.inr (0, p131.2)))
set_option maxRecDepth 20000 in
theorem t_qL_law_j1017 {Ls : Nat} {xs : Nat → Int32} {d : Nat} {x3 : Int32} {h : zK} {r : zA} {e : (Int32 × zK) ⊕ ((zK) ⊕ (Int32 × zK))} (H : qL_law_j1017 Ls xs x3 h = some e) (K : match (generalizing := false) e with | .inl s' => zEv (zXs Ls xs) (d + 14) zm_286 (18, [some (.ref (zro + 0)), some (.ref 0), some (.ref 215), some (.int s'.1)], [], zhp s'.2) r | .inr (.inl v) => ∀ (z3 : Option Value), zEv (zXs Ls xs) (d + 14) zm_286 (1421, [some (.ref (zro + 0)), some (.ref 0), some (.ref 215), z3], [], zhp v) r | .inr (.inr p) => (some (.int p.1), zhp p.2) = r) : zEv (zXs Ls xs) (d + 14) zm_286 (1017, [some (.ref (zro + 0)), some (.ref 0), some (.ref 215), some (.int x3)], [], zhp h) r := by
  unfold qL_law_j1017 at H
  refine zEv_k 5 (f' := (1022, [some (.ref (zro + 0)), some (.ref 0), some (.ref 215), some (.int x3)], [.int (x3 + 1), .ref (zro + 0), .ref 0], zhp h)) rfl ?_
  obtain ⟨j128, hj128, H⟩ := zbs H
  refine zRix (a := 0) rfl rfl hj128 ?_
  refine zEv_k 4 (f' := (1027, [some (.ref (zro + 0)), some (.ref 0), some (.ref 215), some (.int x3)], [.int (x3 + 2), .ref (zro + 0), .int (xs j128), .ref 0], zhp h)) rfl ?_
  obtain ⟨j129, hj129, H⟩ := zbs H
  refine zRix (a := 0) rfl rfl hj129 ?_
  obtain ⟨p130, hp130, H⟩ := zbs H
  refine zEv_c (fun _ => rfl) rfl (t_qC_wit (x1 := xs j128) (x2 := xs j129) (h := h) (d := d + 8) hp130) rfl rfl ?_
  refine zEv_k 5 (f' := (1036, [some (.ref (zro + 0)), some (.ref 0), some (.ref 215), some (.int x3)], [.int (x3 + 1), .ref (zro + 0), .ref 215, .int p130.1], zhp p130.2)) rfl ?_
  refine zRix (a := 0) rfl rfl hj128 ?_
  refine zEv_k 4 (f' := (1041, [some (.ref (zro + 0)), some (.ref 0), some (.ref 215), some (.int x3)], [.int (x3 + 2), .ref (zro + 0), .int (xs j128), .ref 215, .int p130.1], zhp p130.2)) rfl ?_
  refine zRix (a := 0) rfl rfl hj129 ?_
  obtain ⟨p131, hp131, H⟩ := zbs H
  refine zEv_c (fun _ => rfl) rfl (t_qM_wit (x1 := xs j128) (x2 := xs j129) (h := p130.2) (d := d + 6) hp131) rfl rfl ?_
  refine zEv_k 1 (f' := (if p130.1 = p131.1 then 1415 else 1048, [some (.ref (zro + 0)), some (.ref 0), some (.ref 215), some (.int x3)], [], zhp p131.2)) rfl (zEv_if (fun c132 => ?_) (fun c132 => ?_))
  · replace H := zif_t c132 H
    refine zEv_k 2 (f' := (18, [some (.ref (zro + 0)), some (.ref 0), some (.ref 215), some (.int (x3 + 6))], [], zhp p131.2)) rfl ?_
    cases H
    exact K
  · replace H := zif_f c132 H
    refine zEv_k 1 (f' := (1049, [some (.ref (zro + 0)), some (.ref 0), some (.ref 215), some (.int x3)], [.int 0], zhp p131.2)) rfl ?_
    cases H
    exact zEv_re K rfl
set_option maxRecDepth 20000 in
def qL_law_j1050 (Ls : Nat) (xs : Nat → Int32) (x3 : Int32) (h : zK) : Option ((Int32 × zK) ⊕ ((zK) ⊕ (Int32 × zK))) :=
  (zix (x3 + 1) Ls).bind fun j133 =>
  (zix (x3 + 2) Ls).bind fun j134 =>
  (qC_flat (xs j133) (xs j134) h).bind fun p135 =>
  (qM_flat (xs j133) (xs j134) h).bind fun p136 =>
  if p135 = p136.1 then
    some (.inl (x3 + 6, p136.2))
  else
    some (.inr (.inr (0, p136.2)))
set_option maxRecDepth 20000 in
theorem t_qL_law_j1050 {Ls : Nat} {xs : Nat → Int32} {d : Nat} {x3 : Int32} {h : zK} {r : zA} {e : (Int32 × zK) ⊕ ((zK) ⊕ (Int32 × zK))} (H : qL_law_j1050 Ls xs x3 h = some e) (K : match (generalizing := false) e with | .inl s' => zEv (zXs Ls xs) (d + 14) zm_286 (18, [some (.ref (zro + 0)), some (.ref 0), some (.ref 215), some (.int s'.1)], [], zhp s'.2) r | .inr (.inl v) => ∀ (z3 : Option Value), zEv (zXs Ls xs) (d + 14) zm_286 (1421, [some (.ref (zro + 0)), some (.ref 0), some (.ref 215), z3], [], zhp v) r | .inr (.inr p) => (some (.int p.1), zhp p.2) = r) : zEv (zXs Ls xs) (d + 14) zm_286 (1050, [some (.ref (zro + 0)), some (.ref 0), some (.ref 215), some (.int x3)], [], zhp h) r := by
  unfold qL_law_j1050 at H
  refine zEv_k 5 (f' := (1055, [some (.ref (zro + 0)), some (.ref 0), some (.ref 215), some (.int x3)], [.int (x3 + 1), .ref (zro + 0), .ref 0], zhp h)) rfl ?_
  obtain ⟨j133, hj133, H⟩ := zbs H
  refine zRix (a := 0) rfl rfl hj133 ?_
  refine zEv_k 4 (f' := (1060, [some (.ref (zro + 0)), some (.ref 0), some (.ref 215), some (.int x3)], [.int (x3 + 2), .ref (zro + 0), .int (xs j133), .ref 0], zhp h)) rfl ?_
  obtain ⟨j134, hj134, H⟩ := zbs H
  refine zRix (a := 0) rfl rfl hj134 ?_
  obtain ⟨p135, hp135, H⟩ := zbs H
  refine zEv_c (fun _ => rfl) rfl (t_qC_flat (x1 := xs j133) (x2 := xs j134) (h := h) (d := d + 11) hp135) rfl rfl ?_
  refine zEv_k 5 (f' := (1069, [some (.ref (zro + 0)), some (.ref 0), some (.ref 215), some (.int x3)], [.int (x3 + 1), .ref (zro + 0), .ref 215, .int p135], zhp h)) rfl ?_
  refine zRix (a := 0) rfl rfl hj133 ?_
  refine zEv_k 4 (f' := (1074, [some (.ref (zro + 0)), some (.ref 0), some (.ref 215), some (.int x3)], [.int (x3 + 2), .ref (zro + 0), .int (xs j133), .ref 215, .int p135], zhp h)) rfl ?_
  refine zRix (a := 0) rfl rfl hj134 ?_
  obtain ⟨p136, hp136, H⟩ := zbs H
  refine zEv_c (fun _ => rfl) rfl (t_qM_flat (x1 := xs j133) (x2 := xs j134) (h := h) (d := d + 10) hp136) rfl rfl ?_
  refine zEv_k 1 (f' := (if p135 = p136.1 then 1415 else 1081, [some (.ref (zro + 0)), some (.ref 0), some (.ref 215), some (.int x3)], [], zhp p136.2)) rfl (zEv_if (fun c137 => ?_) (fun c137 => ?_))
  · replace H := zif_t c137 H
    refine zEv_k 2 (f' := (18, [some (.ref (zro + 0)), some (.ref 0), some (.ref 215), some (.int (x3 + 6))], [], zhp p136.2)) rfl ?_
    cases H
    exact K
  · replace H := zif_f c137 H
    refine zEv_k 1 (f' := (1082, [some (.ref (zro + 0)), some (.ref 0), some (.ref 215), some (.int x3)], [.int 0], zhp p136.2)) rfl ?_
    cases H
    exact zEv_re K rfl
set_option maxRecDepth 20000 in
def qL_law_j1083 (Ls : Nat) (xs : Nat → Int32) (x3 : Int32) (h : zK) : Option ((Int32 × zK) ⊕ ((zK) ⊕ (Int32 × zK))) :=
  (zix (x3 + 1) Ls).bind fun j138 =>
  (zix (x3 + 2) Ls).bind fun j139 =>
  (qC_next (xs j138) (xs j139) h).bind fun p140 =>
  (qM_next (xs j138) (xs j139) p140.2).bind fun p141 =>
  if p140.1 = p141.1 then
    some (.inl (x3 + 6, p141.2))
  else
    some (.inr (.inr (0, p141.2)))
set_option maxRecDepth 20000 in
theorem t_qL_law_j1083 {Ls : Nat} {xs : Nat → Int32} {d : Nat} {x3 : Int32} {h : zK} {r : zA} {e : (Int32 × zK) ⊕ ((zK) ⊕ (Int32 × zK))} (H : qL_law_j1083 Ls xs x3 h = some e) (K : match (generalizing := false) e with | .inl s' => zEv (zXs Ls xs) (d + 14) zm_286 (18, [some (.ref (zro + 0)), some (.ref 0), some (.ref 215), some (.int s'.1)], [], zhp s'.2) r | .inr (.inl v) => ∀ (z3 : Option Value), zEv (zXs Ls xs) (d + 14) zm_286 (1421, [some (.ref (zro + 0)), some (.ref 0), some (.ref 215), z3], [], zhp v) r | .inr (.inr p) => (some (.int p.1), zhp p.2) = r) : zEv (zXs Ls xs) (d + 14) zm_286 (1083, [some (.ref (zro + 0)), some (.ref 0), some (.ref 215), some (.int x3)], [], zhp h) r := by
  unfold qL_law_j1083 at H
  refine zEv_k 5 (f' := (1088, [some (.ref (zro + 0)), some (.ref 0), some (.ref 215), some (.int x3)], [.int (x3 + 1), .ref (zro + 0), .ref 0], zhp h)) rfl ?_
  obtain ⟨j138, hj138, H⟩ := zbs H
  refine zRix (a := 0) rfl rfl hj138 ?_
  refine zEv_k 4 (f' := (1093, [some (.ref (zro + 0)), some (.ref 0), some (.ref 215), some (.int x3)], [.int (x3 + 2), .ref (zro + 0), .int (xs j138), .ref 0], zhp h)) rfl ?_
  obtain ⟨j139, hj139, H⟩ := zbs H
  refine zRix (a := 0) rfl rfl hj139 ?_
  obtain ⟨p140, hp140, H⟩ := zbs H
  refine zEv_c (fun _ => rfl) rfl (t_qC_next (x1 := xs j138) (x2 := xs j139) (h := h) (d := d + 9) hp140) rfl rfl ?_
  refine zEv_k 5 (f' := (1102, [some (.ref (zro + 0)), some (.ref 0), some (.ref 215), some (.int x3)], [.int (x3 + 1), .ref (zro + 0), .ref 215, .int p140.1], zhp p140.2)) rfl ?_
  refine zRix (a := 0) rfl rfl hj138 ?_
  refine zEv_k 4 (f' := (1107, [some (.ref (zro + 0)), some (.ref 0), some (.ref 215), some (.int x3)], [.int (x3 + 2), .ref (zro + 0), .int (xs j138), .ref 215, .int p140.1], zhp p140.2)) rfl ?_
  refine zRix (a := 0) rfl rfl hj139 ?_
  obtain ⟨p141, hp141, H⟩ := zbs H
  refine zEv_c (fun _ => rfl) rfl (t_qM_next (x1 := xs j138) (x2 := xs j139) (h := p140.2) (d := d + 9) hp141) rfl rfl ?_
  refine zEv_k 1 (f' := (if p140.1 = p141.1 then 1415 else 1114, [some (.ref (zro + 0)), some (.ref 0), some (.ref 215), some (.int x3)], [], zhp p141.2)) rfl (zEv_if (fun c142 => ?_) (fun c142 => ?_))
  · replace H := zif_t c142 H
    refine zEv_k 2 (f' := (18, [some (.ref (zro + 0)), some (.ref 0), some (.ref 215), some (.int (x3 + 6))], [], zhp p141.2)) rfl ?_
    cases H
    exact K
  · replace H := zif_f c142 H
    refine zEv_k 1 (f' := (1115, [some (.ref (zro + 0)), some (.ref 0), some (.ref 215), some (.int x3)], [.int 0], zhp p141.2)) rfl ?_
    cases H
    exact zEv_re K rfl
set_option maxRecDepth 20000 in
def qL_law_j1116 (Ls : Nat) (xs : Nat → Int32) (x3 : Int32) (h : zK) : Option ((Int32 × zK) ⊕ ((zK) ⊕ (Int32 × zK))) :=
  (zix (x3 + 1) Ls).bind fun j143 =>
  (zix (x3 + 2) Ls).bind fun j144 =>
  (zix (x3 + 3) Ls).bind fun j145 =>
  zlet (
      if (xs j145) = 0 then
        0
      else
        1
    ) fun (v147 : Int32) =>
  (qC_half (xs j143) (xs j144) v147 h).bind fun p148 =>
  zlet (
      if (xs j145) = 0 then
        0
      else
        1
    ) fun (v150 : Int32) =>
  (qM_half (xs j143) (xs j144) v150 h).bind fun p151 =>
  if p148 = p151.1 then
    some (.inl (x3 + 6, p151.2))
  else
    some (.inr (.inr (0, p151.2)))
set_option maxRecDepth 20000 in
theorem t_qL_law_j1116 {Ls : Nat} {xs : Nat → Int32} {d : Nat} {x3 : Int32} {h : zK} {r : zA} {e : (Int32 × zK) ⊕ ((zK) ⊕ (Int32 × zK))} (H : qL_law_j1116 Ls xs x3 h = some e) (K : match (generalizing := false) e with | .inl s' => zEv (zXs Ls xs) (d + 14) zm_286 (18, [some (.ref (zro + 0)), some (.ref 0), some (.ref 215), some (.int s'.1)], [], zhp s'.2) r | .inr (.inl v) => ∀ (z3 : Option Value), zEv (zXs Ls xs) (d + 14) zm_286 (1421, [some (.ref (zro + 0)), some (.ref 0), some (.ref 215), z3], [], zhp v) r | .inr (.inr p) => (some (.int p.1), zhp p.2) = r) : zEv (zXs Ls xs) (d + 14) zm_286 (1116, [some (.ref (zro + 0)), some (.ref 0), some (.ref 215), some (.int x3)], [], zhp h) r := by
  unfold qL_law_j1116 at H
  refine zEv_k 5 (f' := (1121, [some (.ref (zro + 0)), some (.ref 0), some (.ref 215), some (.int x3)], [.int (x3 + 1), .ref (zro + 0), .ref 0], zhp h)) rfl ?_
  obtain ⟨j143, hj143, H⟩ := zbs H
  refine zRix (a := 0) rfl rfl hj143 ?_
  refine zEv_k 4 (f' := (1126, [some (.ref (zro + 0)), some (.ref 0), some (.ref 215), some (.int x3)], [.int (x3 + 2), .ref (zro + 0), .int (xs j143), .ref 0], zhp h)) rfl ?_
  obtain ⟨j144, hj144, H⟩ := zbs H
  refine zRix (a := 0) rfl rfl hj144 ?_
  refine zEv_k 4 (f' := (1131, [some (.ref (zro + 0)), some (.ref 0), some (.ref 215), some (.int x3)], [.int (x3 + 3), .ref (zro + 0), .int (xs j144), .int (xs j143), .ref 0], zhp h)) rfl ?_
  obtain ⟨j145, hj145, H⟩ := zbs H
  refine zRix (a := 0) rfl rfl hj145 ?_
  obtain ⟨v147, hv147, H⟩ := zlets H
  have kv147 : zEv (zXs Ls xs) (d + 14) zm_286 (1140, [some (.ref (zro + 0)), some (.ref 0), some (.ref 215), some (.int x3)], [.int v147, .int (xs j144), .int (xs j143), .ref 0], zhp h) r := by
    obtain ⟨p148, hp148, H⟩ := zbs H
    refine zEv_c (fun _ => rfl) rfl (t_qC_half (x1 := xs j143) (x2 := xs j144) (x3 := v147) (h := h) (d := d + 10) hp148) rfl rfl ?_
    obtain ⟨v150, hv150, H⟩ := zlets H
    have kv150 : zEv (zXs Ls xs) (d + 14) zm_286 (1167, [some (.ref (zro + 0)), some (.ref 0), some (.ref 215), some (.int x3)], [.int v150, .int (xs j144), .int (xs j143), .ref 215, .int p148], zhp h) r := by
      obtain ⟨p151, hp151, H⟩ := zbs H
      refine zEv_c (fun _ => rfl) rfl (t_qM_half (x1 := xs j143) (x2 := xs j144) (x3 := v150) (h := h) (d := d + 10) hp151) rfl rfl ?_
      refine zEv_k 1 (f' := (if p148 = p151.1 then 1415 else 1173, [some (.ref (zro + 0)), some (.ref 0), some (.ref 215), some (.int x3)], [], zhp p151.2)) rfl (zEv_if (fun c152 => ?_) (fun c152 => ?_))
      · replace H := zif_t c152 H
        refine zEv_k 2 (f' := (18, [some (.ref (zro + 0)), some (.ref 0), some (.ref 215), some (.int (x3 + 6))], [], zhp p151.2)) rfl ?_
        cases H
        exact K
      · replace H := zif_f c152 H
        refine zEv_k 1 (f' := (1174, [some (.ref (zro + 0)), some (.ref 0), some (.ref 215), some (.int x3)], [.int 0], zhp p151.2)) rfl ?_
        cases H
        exact zEv_re K rfl
    clear H
    refine zEv_k 5 (f' := (1148, [some (.ref (zro + 0)), some (.ref 0), some (.ref 215), some (.int x3)], [.int (x3 + 1), .ref (zro + 0), .ref 215, .int p148], zhp h)) rfl ?_
    refine zRix (a := 0) rfl rfl hj143 ?_
    refine zEv_k 4 (f' := (1153, [some (.ref (zro + 0)), some (.ref 0), some (.ref 215), some (.int x3)], [.int (x3 + 2), .ref (zro + 0), .int (xs j143), .ref 215, .int p148], zhp h)) rfl ?_
    refine zRix (a := 0) rfl rfl hj144 ?_
    refine zEv_k 4 (f' := (1158, [some (.ref (zro + 0)), some (.ref 0), some (.ref 215), some (.int x3)], [.int (x3 + 3), .ref (zro + 0), .int (xs j144), .int (xs j143), .ref 215, .int p148], zhp h)) rfl ?_
    refine zRix (a := 0) rfl rfl hj145 ?_
    refine zEv_k 1 (f' := (if (xs j145) = 0 then 1166 else 1162, [some (.ref (zro + 0)), some (.ref 0), some (.ref 215), some (.int x3)], [.int (xs j144), .int (xs j143), .ref 215, .int p148], zhp h)) rfl (zEv_if (fun c149 => ?_) (fun c149 => ?_))
    · replace hv150 := zif_t c149 hv150
      refine zEv_k 1 (f' := (1167, [some (.ref (zro + 0)), some (.ref 0), some (.ref 215), some (.int x3)], [.int 0, .int (xs j144), .int (xs j143), .ref 215, .int p148], zhp h)) rfl ?_
      cases hv150
      exact kv150
    · replace hv150 := zif_f c149 hv150
      refine zEv_k 2 (f' := (1167, [some (.ref (zro + 0)), some (.ref 0), some (.ref 215), some (.int x3)], [.int 1, .int (xs j144), .int (xs j143), .ref 215, .int p148], zhp h)) rfl ?_
      cases hv150
      exact kv150
  clear H
  refine zEv_k 1 (f' := (if (xs j145) = 0 then 1139 else 1135, [some (.ref (zro + 0)), some (.ref 0), some (.ref 215), some (.int x3)], [.int (xs j144), .int (xs j143), .ref 0], zhp h)) rfl (zEv_if (fun c146 => ?_) (fun c146 => ?_))
  · replace hv147 := zif_t c146 hv147
    refine zEv_k 1 (f' := (1140, [some (.ref (zro + 0)), some (.ref 0), some (.ref 215), some (.int x3)], [.int 0, .int (xs j144), .int (xs j143), .ref 0], zhp h)) rfl ?_
    cases hv147
    exact kv147
  · replace hv147 := zif_f c146 hv147
    refine zEv_k 2 (f' := (1140, [some (.ref (zro + 0)), some (.ref 0), some (.ref 215), some (.int x3)], [.int 1, .int (xs j144), .int (xs j143), .ref 0], zhp h)) rfl ?_
    cases hv147
    exact kv147
set_option maxRecDepth 20000 in
def qL_law_j1175 (Ls : Nat) (xs : Nat → Int32) (x3 : Int32) (h : zK) : Option ((Int32 × zK) ⊕ ((zK) ⊕ (Int32 × zK))) :=
  (zix (x3 + 1) Ls).bind fun j153 =>
  (zix (x3 + 2) Ls).bind fun j154 =>
  (zix (x3 + 3) Ls).bind fun j155 =>
  (qC_after (xs j153) (xs j154) (xs j155) h).bind fun p156 =>
  (qM_after (xs j153) (xs j154) (xs j155) p156.2).bind fun p157 =>
  if p156.1 = p157.1 then
    some (.inl (x3 + 6, p157.2))
  else
    some (.inr (.inr (0, p157.2)))
set_option maxRecDepth 20000 in
theorem t_qL_law_j1175 {Ls : Nat} {xs : Nat → Int32} {d : Nat} {x3 : Int32} {h : zK} {r : zA} {e : (Int32 × zK) ⊕ ((zK) ⊕ (Int32 × zK))} (H : qL_law_j1175 Ls xs x3 h = some e) (K : match (generalizing := false) e with | .inl s' => zEv (zXs Ls xs) (d + 14) zm_286 (18, [some (.ref (zro + 0)), some (.ref 0), some (.ref 215), some (.int s'.1)], [], zhp s'.2) r | .inr (.inl v) => ∀ (z3 : Option Value), zEv (zXs Ls xs) (d + 14) zm_286 (1421, [some (.ref (zro + 0)), some (.ref 0), some (.ref 215), z3], [], zhp v) r | .inr (.inr p) => (some (.int p.1), zhp p.2) = r) : zEv (zXs Ls xs) (d + 14) zm_286 (1175, [some (.ref (zro + 0)), some (.ref 0), some (.ref 215), some (.int x3)], [], zhp h) r := by
  unfold qL_law_j1175 at H
  refine zEv_k 5 (f' := (1180, [some (.ref (zro + 0)), some (.ref 0), some (.ref 215), some (.int x3)], [.int (x3 + 1), .ref (zro + 0), .ref 0], zhp h)) rfl ?_
  obtain ⟨j153, hj153, H⟩ := zbs H
  refine zRix (a := 0) rfl rfl hj153 ?_
  refine zEv_k 4 (f' := (1185, [some (.ref (zro + 0)), some (.ref 0), some (.ref 215), some (.int x3)], [.int (x3 + 2), .ref (zro + 0), .int (xs j153), .ref 0], zhp h)) rfl ?_
  obtain ⟨j154, hj154, H⟩ := zbs H
  refine zRix (a := 0) rfl rfl hj154 ?_
  refine zEv_k 4 (f' := (1190, [some (.ref (zro + 0)), some (.ref 0), some (.ref 215), some (.int x3)], [.int (x3 + 3), .ref (zro + 0), .int (xs j154), .int (xs j153), .ref 0], zhp h)) rfl ?_
  obtain ⟨j155, hj155, H⟩ := zbs H
  refine zRix (a := 0) rfl rfl hj155 ?_
  obtain ⟨p156, hp156, H⟩ := zbs H
  refine zEv_c (fun _ => rfl) rfl (t_qC_after (x1 := xs j153) (x2 := xs j154) (x3 := xs j155) (h := h) (d := d + 8) hp156) rfl rfl ?_
  refine zEv_k 5 (f' := (1199, [some (.ref (zro + 0)), some (.ref 0), some (.ref 215), some (.int x3)], [.int (x3 + 1), .ref (zro + 0), .ref 215, .int p156.1], zhp p156.2)) rfl ?_
  refine zRix (a := 0) rfl rfl hj153 ?_
  refine zEv_k 4 (f' := (1204, [some (.ref (zro + 0)), some (.ref 0), some (.ref 215), some (.int x3)], [.int (x3 + 2), .ref (zro + 0), .int (xs j153), .ref 215, .int p156.1], zhp p156.2)) rfl ?_
  refine zRix (a := 0) rfl rfl hj154 ?_
  refine zEv_k 4 (f' := (1209, [some (.ref (zro + 0)), some (.ref 0), some (.ref 215), some (.int x3)], [.int (x3 + 3), .ref (zro + 0), .int (xs j154), .int (xs j153), .ref 215, .int p156.1], zhp p156.2)) rfl ?_
  refine zRix (a := 0) rfl rfl hj155 ?_
  obtain ⟨p157, hp157, H⟩ := zbs H
  refine zEv_c (fun _ => rfl) rfl (t_qM_after (x1 := xs j153) (x2 := xs j154) (x3 := xs j155) (h := p156.2) (d := d + 7) hp157) rfl rfl ?_
  refine zEv_k 1 (f' := (if p156.1 = p157.1 then 1415 else 1216, [some (.ref (zro + 0)), some (.ref 0), some (.ref 215), some (.int x3)], [], zhp p157.2)) rfl (zEv_if (fun c158 => ?_) (fun c158 => ?_))
  · replace H := zif_t c158 H
    refine zEv_k 2 (f' := (18, [some (.ref (zro + 0)), some (.ref 0), some (.ref 215), some (.int (x3 + 6))], [], zhp p157.2)) rfl ?_
    cases H
    exact K
  · replace H := zif_f c158 H
    refine zEv_k 1 (f' := (1217, [some (.ref (zro + 0)), some (.ref 0), some (.ref 215), some (.int x3)], [.int 0], zhp p157.2)) rfl ?_
    cases H
    exact zEv_re K rfl
set_option maxRecDepth 20000 in
def qL_law_j1218 (Ls : Nat) (xs : Nat → Int32) (x3 : Int32) (h : zK) : Option ((Int32 × zK) ⊕ ((zK) ⊕ (Int32 × zK))) :=
  (zix (x3 + 1) Ls).bind fun j159 =>
  (zix (x3 + 2) Ls).bind fun j160 =>
  (zix (x3 + 3) Ls).bind fun j161 =>
  (zix (x3 + 4) Ls).bind fun j162 =>
  zlet (
      if (xs j162) = 0 then
        0
      else
        1
    ) fun (v164 : Int32) =>
  (qC_odds (xs j159) (xs j160) (xs j161) v164 h).bind fun p165 =>
  zlet (
      if (xs j162) = 0 then
        0
      else
        1
    ) fun (v167 : Int32) =>
  (qM_odds (xs j159) (xs j160) (xs j161) v167 p165.2).bind fun p168 =>
  if p165.1 = p168.1 then
    some (.inl (x3 + 6, p168.2))
  else
    some (.inr (.inr (0, p168.2)))
set_option maxRecDepth 20000 in
theorem t_qL_law_j1218 {Ls : Nat} {xs : Nat → Int32} {d : Nat} {x3 : Int32} {h : zK} {r : zA} {e : (Int32 × zK) ⊕ ((zK) ⊕ (Int32 × zK))} (H : qL_law_j1218 Ls xs x3 h = some e) (K : match (generalizing := false) e with | .inl s' => zEv (zXs Ls xs) (d + 14) zm_286 (18, [some (.ref (zro + 0)), some (.ref 0), some (.ref 215), some (.int s'.1)], [], zhp s'.2) r | .inr (.inl v) => ∀ (z3 : Option Value), zEv (zXs Ls xs) (d + 14) zm_286 (1421, [some (.ref (zro + 0)), some (.ref 0), some (.ref 215), z3], [], zhp v) r | .inr (.inr p) => (some (.int p.1), zhp p.2) = r) : zEv (zXs Ls xs) (d + 14) zm_286 (1218, [some (.ref (zro + 0)), some (.ref 0), some (.ref 215), some (.int x3)], [], zhp h) r := by
  unfold qL_law_j1218 at H
  refine zEv_k 5 (f' := (1223, [some (.ref (zro + 0)), some (.ref 0), some (.ref 215), some (.int x3)], [.int (x3 + 1), .ref (zro + 0), .ref 0], zhp h)) rfl ?_
  obtain ⟨j159, hj159, H⟩ := zbs H
  refine zRix (a := 0) rfl rfl hj159 ?_
  refine zEv_k 4 (f' := (1228, [some (.ref (zro + 0)), some (.ref 0), some (.ref 215), some (.int x3)], [.int (x3 + 2), .ref (zro + 0), .int (xs j159), .ref 0], zhp h)) rfl ?_
  obtain ⟨j160, hj160, H⟩ := zbs H
  refine zRix (a := 0) rfl rfl hj160 ?_
  refine zEv_k 4 (f' := (1233, [some (.ref (zro + 0)), some (.ref 0), some (.ref 215), some (.int x3)], [.int (x3 + 3), .ref (zro + 0), .int (xs j160), .int (xs j159), .ref 0], zhp h)) rfl ?_
  obtain ⟨j161, hj161, H⟩ := zbs H
  refine zRix (a := 0) rfl rfl hj161 ?_
  refine zEv_k 4 (f' := (1238, [some (.ref (zro + 0)), some (.ref 0), some (.ref 215), some (.int x3)], [.int (x3 + 4), .ref (zro + 0), .int (xs j161), .int (xs j160), .int (xs j159), .ref 0], zhp h)) rfl ?_
  obtain ⟨j162, hj162, H⟩ := zbs H
  refine zRix (a := 0) rfl rfl hj162 ?_
  obtain ⟨v164, hv164, H⟩ := zlets H
  have kv164 : zEv (zXs Ls xs) (d + 14) zm_286 (1247, [some (.ref (zro + 0)), some (.ref 0), some (.ref 215), some (.int x3)], [.int v164, .int (xs j161), .int (xs j160), .int (xs j159), .ref 0], zhp h) r := by
    obtain ⟨p165, hp165, H⟩ := zbs H
    refine zEv_c (fun _ => rfl) rfl (t_qC_odds (x1 := xs j159) (x2 := xs j160) (x3 := xs j161) (x4 := v164) (h := h) (d := d + 7) hp165) rfl rfl ?_
    obtain ⟨v167, hv167, H⟩ := zlets H
    have kv167 : zEv (zXs Ls xs) (d + 14) zm_286 (1279, [some (.ref (zro + 0)), some (.ref 0), some (.ref 215), some (.int x3)], [.int v167, .int (xs j161), .int (xs j160), .int (xs j159), .ref 215, .int p165.1], zhp p165.2) r := by
      obtain ⟨p168, hp168, H⟩ := zbs H
      refine zEv_c (fun _ => rfl) rfl (t_qM_odds (x1 := xs j159) (x2 := xs j160) (x3 := xs j161) (x4 := v167) (h := p165.2) (d := d + 7) hp168) rfl rfl ?_
      refine zEv_k 1 (f' := (if p165.1 = p168.1 then 1415 else 1285, [some (.ref (zro + 0)), some (.ref 0), some (.ref 215), some (.int x3)], [], zhp p168.2)) rfl (zEv_if (fun c169 => ?_) (fun c169 => ?_))
      · replace H := zif_t c169 H
        refine zEv_k 2 (f' := (18, [some (.ref (zro + 0)), some (.ref 0), some (.ref 215), some (.int (x3 + 6))], [], zhp p168.2)) rfl ?_
        cases H
        exact K
      · replace H := zif_f c169 H
        refine zEv_k 1 (f' := (1286, [some (.ref (zro + 0)), some (.ref 0), some (.ref 215), some (.int x3)], [.int 0], zhp p168.2)) rfl ?_
        cases H
        exact zEv_re K rfl
    clear H
    refine zEv_k 5 (f' := (1255, [some (.ref (zro + 0)), some (.ref 0), some (.ref 215), some (.int x3)], [.int (x3 + 1), .ref (zro + 0), .ref 215, .int p165.1], zhp p165.2)) rfl ?_
    refine zRix (a := 0) rfl rfl hj159 ?_
    refine zEv_k 4 (f' := (1260, [some (.ref (zro + 0)), some (.ref 0), some (.ref 215), some (.int x3)], [.int (x3 + 2), .ref (zro + 0), .int (xs j159), .ref 215, .int p165.1], zhp p165.2)) rfl ?_
    refine zRix (a := 0) rfl rfl hj160 ?_
    refine zEv_k 4 (f' := (1265, [some (.ref (zro + 0)), some (.ref 0), some (.ref 215), some (.int x3)], [.int (x3 + 3), .ref (zro + 0), .int (xs j160), .int (xs j159), .ref 215, .int p165.1], zhp p165.2)) rfl ?_
    refine zRix (a := 0) rfl rfl hj161 ?_
    refine zEv_k 4 (f' := (1270, [some (.ref (zro + 0)), some (.ref 0), some (.ref 215), some (.int x3)], [.int (x3 + 4), .ref (zro + 0), .int (xs j161), .int (xs j160), .int (xs j159), .ref 215, .int p165.1], zhp p165.2)) rfl ?_
    refine zRix (a := 0) rfl rfl hj162 ?_
    refine zEv_k 1 (f' := (if (xs j162) = 0 then 1278 else 1274, [some (.ref (zro + 0)), some (.ref 0), some (.ref 215), some (.int x3)], [.int (xs j161), .int (xs j160), .int (xs j159), .ref 215, .int p165.1], zhp p165.2)) rfl (zEv_if (fun c166 => ?_) (fun c166 => ?_))
    · replace hv167 := zif_t c166 hv167
      refine zEv_k 1 (f' := (1279, [some (.ref (zro + 0)), some (.ref 0), some (.ref 215), some (.int x3)], [.int 0, .int (xs j161), .int (xs j160), .int (xs j159), .ref 215, .int p165.1], zhp p165.2)) rfl ?_
      cases hv167
      exact kv167
    · replace hv167 := zif_f c166 hv167
      refine zEv_k 2 (f' := (1279, [some (.ref (zro + 0)), some (.ref 0), some (.ref 215), some (.int x3)], [.int 1, .int (xs j161), .int (xs j160), .int (xs j159), .ref 215, .int p165.1], zhp p165.2)) rfl ?_
      cases hv167
      exact kv167
  clear H
  refine zEv_k 1 (f' := (if (xs j162) = 0 then 1246 else 1242, [some (.ref (zro + 0)), some (.ref 0), some (.ref 215), some (.int x3)], [.int (xs j161), .int (xs j160), .int (xs j159), .ref 0], zhp h)) rfl (zEv_if (fun c163 => ?_) (fun c163 => ?_))
  · replace hv164 := zif_t c163 hv164
    refine zEv_k 1 (f' := (1247, [some (.ref (zro + 0)), some (.ref 0), some (.ref 215), some (.int x3)], [.int 0, .int (xs j161), .int (xs j160), .int (xs j159), .ref 0], zhp h)) rfl ?_
    cases hv164
    exact kv164
  · replace hv164 := zif_f c163 hv164
    refine zEv_k 2 (f' := (1247, [some (.ref (zro + 0)), some (.ref 0), some (.ref 215), some (.int x3)], [.int 1, .int (xs j161), .int (xs j160), .int (xs j159), .ref 0], zhp h)) rfl ?_
    cases hv164
    exact kv164
set_option maxRecDepth 20000 in
def qL_law_j1287 (Ls : Nat) (xs : Nat → Int32) (x3 : Int32) (h : zK) : Option ((Int32 × zK) ⊕ ((zK) ⊕ (Int32 × zK))) :=
  (zix (x3 + 1) Ls).bind fun j170 =>
  (zix (x3 + 2) Ls).bind fun j171 =>
  (zix (x3 + 3) Ls).bind fun j172 =>
  zlet (
      if (xs j172) = 0 then
        0
      else
        1
    ) fun (v174 : Int32) =>
  (qC_shock (xs j170) (xs j171) v174 h).bind fun p175 =>
  zlet (
      if (xs j172) = 0 then
        0
      else
        1
    ) fun (v177 : Int32) =>
  (qM_shock (xs j170) (xs j171) v177 p175.2).bind fun p178 =>
  if p175.1 = p178.1 then
    some (.inl (x3 + 6, p178.2))
  else
    some (.inr (.inr (0, p178.2)))
set_option maxRecDepth 20000 in
theorem t_qL_law_j1287 {Ls : Nat} {xs : Nat → Int32} {d : Nat} {x3 : Int32} {h : zK} {r : zA} {e : (Int32 × zK) ⊕ ((zK) ⊕ (Int32 × zK))} (H : qL_law_j1287 Ls xs x3 h = some e) (K : match (generalizing := false) e with | .inl s' => zEv (zXs Ls xs) (d + 14) zm_286 (18, [some (.ref (zro + 0)), some (.ref 0), some (.ref 215), some (.int s'.1)], [], zhp s'.2) r | .inr (.inl v) => ∀ (z3 : Option Value), zEv (zXs Ls xs) (d + 14) zm_286 (1421, [some (.ref (zro + 0)), some (.ref 0), some (.ref 215), z3], [], zhp v) r | .inr (.inr p) => (some (.int p.1), zhp p.2) = r) : zEv (zXs Ls xs) (d + 14) zm_286 (1287, [some (.ref (zro + 0)), some (.ref 0), some (.ref 215), some (.int x3)], [], zhp h) r := by
  unfold qL_law_j1287 at H
  refine zEv_k 5 (f' := (1292, [some (.ref (zro + 0)), some (.ref 0), some (.ref 215), some (.int x3)], [.int (x3 + 1), .ref (zro + 0), .ref 0], zhp h)) rfl ?_
  obtain ⟨j170, hj170, H⟩ := zbs H
  refine zRix (a := 0) rfl rfl hj170 ?_
  refine zEv_k 4 (f' := (1297, [some (.ref (zro + 0)), some (.ref 0), some (.ref 215), some (.int x3)], [.int (x3 + 2), .ref (zro + 0), .int (xs j170), .ref 0], zhp h)) rfl ?_
  obtain ⟨j171, hj171, H⟩ := zbs H
  refine zRix (a := 0) rfl rfl hj171 ?_
  refine zEv_k 4 (f' := (1302, [some (.ref (zro + 0)), some (.ref 0), some (.ref 215), some (.int x3)], [.int (x3 + 3), .ref (zro + 0), .int (xs j171), .int (xs j170), .ref 0], zhp h)) rfl ?_
  obtain ⟨j172, hj172, H⟩ := zbs H
  refine zRix (a := 0) rfl rfl hj172 ?_
  obtain ⟨v174, hv174, H⟩ := zlets H
  have kv174 : zEv (zXs Ls xs) (d + 14) zm_286 (1311, [some (.ref (zro + 0)), some (.ref 0), some (.ref 215), some (.int x3)], [.int v174, .int (xs j171), .int (xs j170), .ref 0], zhp h) r := by
    obtain ⟨p175, hp175, H⟩ := zbs H
    refine zEv_c (fun _ => rfl) rfl (t_qC_shock (x1 := xs j170) (x2 := xs j171) (x3 := v174) (h := h) (d := d + 7) hp175) rfl rfl ?_
    obtain ⟨v177, hv177, H⟩ := zlets H
    have kv177 : zEv (zXs Ls xs) (d + 14) zm_286 (1338, [some (.ref (zro + 0)), some (.ref 0), some (.ref 215), some (.int x3)], [.int v177, .int (xs j171), .int (xs j170), .ref 215, .int p175.1], zhp p175.2) r := by
      obtain ⟨p178, hp178, H⟩ := zbs H
      refine zEv_c (fun _ => rfl) rfl (t_qM_shock (x1 := xs j170) (x2 := xs j171) (x3 := v177) (h := p175.2) (d := d + 7) hp178) rfl rfl ?_
      refine zEv_k 1 (f' := (if p175.1 = p178.1 then 1415 else 1344, [some (.ref (zro + 0)), some (.ref 0), some (.ref 215), some (.int x3)], [], zhp p178.2)) rfl (zEv_if (fun c179 => ?_) (fun c179 => ?_))
      · replace H := zif_t c179 H
        refine zEv_k 2 (f' := (18, [some (.ref (zro + 0)), some (.ref 0), some (.ref 215), some (.int (x3 + 6))], [], zhp p178.2)) rfl ?_
        cases H
        exact K
      · replace H := zif_f c179 H
        refine zEv_k 1 (f' := (1345, [some (.ref (zro + 0)), some (.ref 0), some (.ref 215), some (.int x3)], [.int 0], zhp p178.2)) rfl ?_
        cases H
        exact zEv_re K rfl
    clear H
    refine zEv_k 5 (f' := (1319, [some (.ref (zro + 0)), some (.ref 0), some (.ref 215), some (.int x3)], [.int (x3 + 1), .ref (zro + 0), .ref 215, .int p175.1], zhp p175.2)) rfl ?_
    refine zRix (a := 0) rfl rfl hj170 ?_
    refine zEv_k 4 (f' := (1324, [some (.ref (zro + 0)), some (.ref 0), some (.ref 215), some (.int x3)], [.int (x3 + 2), .ref (zro + 0), .int (xs j170), .ref 215, .int p175.1], zhp p175.2)) rfl ?_
    refine zRix (a := 0) rfl rfl hj171 ?_
    refine zEv_k 4 (f' := (1329, [some (.ref (zro + 0)), some (.ref 0), some (.ref 215), some (.int x3)], [.int (x3 + 3), .ref (zro + 0), .int (xs j171), .int (xs j170), .ref 215, .int p175.1], zhp p175.2)) rfl ?_
    refine zRix (a := 0) rfl rfl hj172 ?_
    refine zEv_k 1 (f' := (if (xs j172) = 0 then 1337 else 1333, [some (.ref (zro + 0)), some (.ref 0), some (.ref 215), some (.int x3)], [.int (xs j171), .int (xs j170), .ref 215, .int p175.1], zhp p175.2)) rfl (zEv_if (fun c176 => ?_) (fun c176 => ?_))
    · replace hv177 := zif_t c176 hv177
      refine zEv_k 1 (f' := (1338, [some (.ref (zro + 0)), some (.ref 0), some (.ref 215), some (.int x3)], [.int 0, .int (xs j171), .int (xs j170), .ref 215, .int p175.1], zhp p175.2)) rfl ?_
      cases hv177
      exact kv177
    · replace hv177 := zif_f c176 hv177
      refine zEv_k 2 (f' := (1338, [some (.ref (zro + 0)), some (.ref 0), some (.ref 215), some (.int x3)], [.int 1, .int (xs j171), .int (xs j170), .ref 215, .int p175.1], zhp p175.2)) rfl ?_
      cases hv177
      exact kv177
  clear H
  refine zEv_k 1 (f' := (if (xs j172) = 0 then 1310 else 1306, [some (.ref (zro + 0)), some (.ref 0), some (.ref 215), some (.int x3)], [.int (xs j171), .int (xs j170), .ref 0], zhp h)) rfl (zEv_if (fun c173 => ?_) (fun c173 => ?_))
  · replace hv174 := zif_t c173 hv174
    refine zEv_k 1 (f' := (1311, [some (.ref (zro + 0)), some (.ref 0), some (.ref 215), some (.int x3)], [.int 0, .int (xs j171), .int (xs j170), .ref 0], zhp h)) rfl ?_
    cases hv174
    exact kv174
  · replace hv174 := zif_f c173 hv174
    refine zEv_k 2 (f' := (1311, [some (.ref (zro + 0)), some (.ref 0), some (.ref 215), some (.int x3)], [.int 1, .int (xs j171), .int (xs j170), .ref 0], zhp h)) rfl ?_
    cases hv174
    exact kv174
set_option maxRecDepth 20000 in
def qL_law_j1346 (Ls : Nat) (xs : Nat → Int32) (x3 : Int32) (h : zK) : Option ((Int32 × zK) ⊕ ((zK) ⊕ (Int32 × zK))) :=
  (zix (x3 + 1) Ls).bind fun j180 =>
  (qC_count (xs j180) h).bind fun p181 =>
  (qM_count (xs j180) h).bind fun p182 =>
  if p181 = p182.1 then
    some (.inl (x3 + 6, p182.2))
  else
    some (.inr (.inr (0, p182.2)))
set_option maxRecDepth 20000 in
theorem t_qL_law_j1346 {Ls : Nat} {xs : Nat → Int32} {d : Nat} {x3 : Int32} {h : zK} {r : zA} {e : (Int32 × zK) ⊕ ((zK) ⊕ (Int32 × zK))} (H : qL_law_j1346 Ls xs x3 h = some e) (K : match (generalizing := false) e with | .inl s' => zEv (zXs Ls xs) (d + 14) zm_286 (18, [some (.ref (zro + 0)), some (.ref 0), some (.ref 215), some (.int s'.1)], [], zhp s'.2) r | .inr (.inl v) => ∀ (z3 : Option Value), zEv (zXs Ls xs) (d + 14) zm_286 (1421, [some (.ref (zro + 0)), some (.ref 0), some (.ref 215), z3], [], zhp v) r | .inr (.inr p) => (some (.int p.1), zhp p.2) = r) : zEv (zXs Ls xs) (d + 14) zm_286 (1346, [some (.ref (zro + 0)), some (.ref 0), some (.ref 215), some (.int x3)], [], zhp h) r := by
  unfold qL_law_j1346 at H
  refine zEv_k 5 (f' := (1351, [some (.ref (zro + 0)), some (.ref 0), some (.ref 215), some (.int x3)], [.int (x3 + 1), .ref (zro + 0), .ref 0], zhp h)) rfl ?_
  obtain ⟨j180, hj180, H⟩ := zbs H
  refine zRix (a := 0) rfl rfl hj180 ?_
  obtain ⟨p181, hp181, H⟩ := zbs H
  refine zEv_c (fun _ => rfl) rfl (t_qC_count (x1 := xs j180) (h := h) (d := d + 13) hp181) rfl rfl ?_
  refine zEv_k 5 (f' := (1360, [some (.ref (zro + 0)), some (.ref 0), some (.ref 215), some (.int x3)], [.int (x3 + 1), .ref (zro + 0), .ref 215, .int p181], zhp h)) rfl ?_
  refine zRix (a := 0) rfl rfl hj180 ?_
  obtain ⟨p182, hp182, H⟩ := zbs H
  refine zEv_c (fun _ => rfl) rfl (t_qM_count (x1 := xs j180) (h := h) (d := d + 12) hp182) rfl rfl ?_
  refine zEv_k 1 (f' := (if p181 = p182.1 then 1415 else 1367, [some (.ref (zro + 0)), some (.ref 0), some (.ref 215), some (.int x3)], [], zhp p182.2)) rfl (zEv_if (fun c183 => ?_) (fun c183 => ?_))
  · replace H := zif_t c183 H
    refine zEv_k 2 (f' := (18, [some (.ref (zro + 0)), some (.ref 0), some (.ref 215), some (.int (x3 + 6))], [], zhp p182.2)) rfl ?_
    cases H
    exact K
  · replace H := zif_f c183 H
    refine zEv_k 1 (f' := (1368, [some (.ref (zro + 0)), some (.ref 0), some (.ref 215), some (.int x3)], [.int 0], zhp p182.2)) rfl ?_
    cases H
    exact zEv_re K rfl
set_option maxRecDepth 20000 in
def qL_law_j1369 (Ls : Nat) (xs : Nat → Int32) (x3 : Int32) (h : zK) : Option ((Int32 × zK) ⊕ ((zK) ⊕ (Int32 × zK))) :=
  (zix (x3 + 1) Ls).bind fun j184 =>
  (qC_image (xs j184) h).bind fun p185 =>
  (qM_image (xs j184) p185.2).bind fun p186 =>
  if p185.1 = p186.1 then
    some (.inl (x3 + 6, p186.2))
  else
    some (.inr (.inr (0, p186.2)))
set_option maxRecDepth 20000 in
theorem t_qL_law_j1369 {Ls : Nat} {xs : Nat → Int32} {d : Nat} {x3 : Int32} {h : zK} {r : zA} {e : (Int32 × zK) ⊕ ((zK) ⊕ (Int32 × zK))} (H : qL_law_j1369 Ls xs x3 h = some e) (K : match (generalizing := false) e with | .inl s' => zEv (zXs Ls xs) (d + 14) zm_286 (18, [some (.ref (zro + 0)), some (.ref 0), some (.ref 215), some (.int s'.1)], [], zhp s'.2) r | .inr (.inl v) => ∀ (z3 : Option Value), zEv (zXs Ls xs) (d + 14) zm_286 (1421, [some (.ref (zro + 0)), some (.ref 0), some (.ref 215), z3], [], zhp v) r | .inr (.inr p) => (some (.int p.1), zhp p.2) = r) : zEv (zXs Ls xs) (d + 14) zm_286 (1369, [some (.ref (zro + 0)), some (.ref 0), some (.ref 215), some (.int x3)], [], zhp h) r := by
  unfold qL_law_j1369 at H
  refine zEv_k 5 (f' := (1374, [some (.ref (zro + 0)), some (.ref 0), some (.ref 215), some (.int x3)], [.int (x3 + 1), .ref (zro + 0), .ref 0], zhp h)) rfl ?_
  obtain ⟨j184, hj184, H⟩ := zbs H
  refine zRix (a := 0) rfl rfl hj184 ?_
  obtain ⟨p185, hp185, H⟩ := zbs H
  refine zEv_c (fun _ => rfl) rfl (t_qC_image (x1 := xs j184) (h := h) (d := d + 11) hp185) rfl rfl ?_
  refine zEv_k 5 (f' := (1383, [some (.ref (zro + 0)), some (.ref 0), some (.ref 215), some (.int x3)], [.int (x3 + 1), .ref (zro + 0), .ref 215, .int p185.1], zhp p185.2)) rfl ?_
  refine zRix (a := 0) rfl rfl hj184 ?_
  obtain ⟨p186, hp186, H⟩ := zbs H
  refine zEv_c (fun _ => rfl) rfl (t_qM_image (x1 := xs j184) (h := p185.2) (d := d + 11) hp186) rfl rfl ?_
  refine zEv_k 1 (f' := (if p185.1 = p186.1 then 1415 else 1390, [some (.ref (zro + 0)), some (.ref 0), some (.ref 215), some (.int x3)], [], zhp p186.2)) rfl (zEv_if (fun c187 => ?_) (fun c187 => ?_))
  · replace H := zif_t c187 H
    refine zEv_k 2 (f' := (18, [some (.ref (zro + 0)), some (.ref 0), some (.ref 215), some (.int (x3 + 6))], [], zhp p186.2)) rfl ?_
    cases H
    exact K
  · replace H := zif_f c187 H
    refine zEv_k 1 (f' := (1391, [some (.ref (zro + 0)), some (.ref 0), some (.ref 215), some (.int x3)], [.int 0], zhp p186.2)) rfl ?_
    cases H
    exact zEv_re K rfl
set_option maxRecDepth 20000 in
def qL_law_j1392 (Ls : Nat) (xs : Nat → Int32) (x3 : Int32) (h : zK) : Option ((Int32 × zK) ⊕ ((zK) ⊕ (Int32 × zK))) :=
  (zix (x3 + 1) Ls).bind fun j188 =>
  (qC_again (xs j188) h).bind fun p189 =>
  (qM_again (xs j188) p189.2).bind fun p190 =>
  if p189.1 = p190.1 then
    some (.inl (x3 + 6, p190.2))
  else
    some (.inr (.inr (0, p190.2)))
set_option maxRecDepth 20000 in
theorem t_qL_law_j1392 {Ls : Nat} {xs : Nat → Int32} {d : Nat} {x3 : Int32} {h : zK} {r : zA} {e : (Int32 × zK) ⊕ ((zK) ⊕ (Int32 × zK))} (H : qL_law_j1392 Ls xs x3 h = some e) (K : match (generalizing := false) e with | .inl s' => zEv (zXs Ls xs) (d + 14) zm_286 (18, [some (.ref (zro + 0)), some (.ref 0), some (.ref 215), some (.int s'.1)], [], zhp s'.2) r | .inr (.inl v) => ∀ (z3 : Option Value), zEv (zXs Ls xs) (d + 14) zm_286 (1421, [some (.ref (zro + 0)), some (.ref 0), some (.ref 215), z3], [], zhp v) r | .inr (.inr p) => (some (.int p.1), zhp p.2) = r) : zEv (zXs Ls xs) (d + 14) zm_286 (1392, [some (.ref (zro + 0)), some (.ref 0), some (.ref 215), some (.int x3)], [], zhp h) r := by
  unfold qL_law_j1392 at H
  refine zEv_k 5 (f' := (1397, [some (.ref (zro + 0)), some (.ref 0), some (.ref 215), some (.int x3)], [.int (x3 + 1), .ref (zro + 0), .ref 0], zhp h)) rfl ?_
  obtain ⟨j188, hj188, H⟩ := zbs H
  refine zRix (a := 0) rfl rfl hj188 ?_
  obtain ⟨p189, hp189, H⟩ := zbs H
  refine zEv_c (fun _ => rfl) rfl (t_qC_again (x1 := xs j188) (h := h) (d := d + 11) hp189) rfl rfl ?_
  refine zEv_k 5 (f' := (1406, [some (.ref (zro + 0)), some (.ref 0), some (.ref 215), some (.int x3)], [.int (x3 + 1), .ref (zro + 0), .ref 215, .int p189.1], zhp p189.2)) rfl ?_
  refine zRix (a := 0) rfl rfl hj188 ?_
  obtain ⟨p190, hp190, H⟩ := zbs H
  refine zEv_c (fun _ => rfl) rfl (t_qM_again (x1 := xs j188) (h := p189.2) (d := d + 11) hp190) rfl rfl ?_
  refine zEv_k 1 (f' := (if p189.1 = p190.1 then 1415 else 1413, [some (.ref (zro + 0)), some (.ref 0), some (.ref 215), some (.int x3)], [], zhp p190.2)) rfl (zEv_if (fun c191 => ?_) (fun c191 => ?_))
  · replace H := zif_t c191 H
    refine zEv_k 2 (f' := (18, [some (.ref (zro + 0)), some (.ref 0), some (.ref 215), some (.int (x3 + 6))], [], zhp p190.2)) rfl ?_
    cases H
    exact K
  · replace H := zif_f c191 H
    refine zEv_k 1 (f' := (1414, [some (.ref (zro + 0)), some (.ref 0), some (.ref 215), some (.int x3)], [.int 0], zhp p190.2)) rfl ?_
    cases H
    exact zEv_re K rfl
set_option maxRecDepth 20000 in
def qL_law_b18 (Ls : Nat) (xs : Nat → Int32) (s : Int32 × zK) : Option ((Int32 × zK) ⊕ ((zK) ⊕ (Int32 × zK))) :=
  if ((Int32.ofNat Ls) - 6) < s.1 then
    some (.inr (.inl s.2))
  else
    (zix s.1 Ls).bind fun j2 =>
    if ((xs j2) &&& 31) = 0 then
      qL_law_j168 Ls xs s.1 s.2
    else if ((xs j2) &&& 31) = 1 then
      qL_law_j231 Ls xs s.1 s.2
    else if ((xs j2) &&& 31) = 2 then
      qL_law_j254 Ls xs s.1 s.2
    else if ((xs j2) &&& 31) = 3 then
      qL_law_j287 Ls xs s.1 s.2
    else if ((xs j2) &&& 31) = 4 then
      qL_law_j310 Ls xs s.1 s.2
    else if ((xs j2) &&& 31) = 5 then
      qL_law_j343 Ls xs s.1 s.2
    else if ((xs j2) &&& 31) = 6 then
      qL_law_j386 Ls xs s.1 s.2
    else if ((xs j2) &&& 31) = 7 then
      qL_law_j419 Ls xs s.1 s.2
    else if ((xs j2) &&& 31) = 8 then
      qL_law_j472 Ls xs s.1 s.2
    else if ((xs j2) &&& 31) = 9 then
      qL_law_j505 Ls xs s.1 s.2
    else if ((xs j2) &&& 31) = 10 then
      qL_law_j538 Ls xs s.1 s.2
    else if ((xs j2) &&& 31) = 11 then
      qL_law_j571 Ls xs s.1 s.2
    else if ((xs j2) &&& 31) = 12 then
      qL_law_j614 Ls xs s.1 s.2
    else if ((xs j2) &&& 31) = 13 then
      qL_law_j647 Ls xs s.1 s.2
    else if ((xs j2) &&& 31) = 14 then
      qL_law_j680 Ls xs s.1 s.2
    else if ((xs j2) &&& 31) = 15 then
      qL_law_j739 Ls xs s.1 s.2
    else if ((xs j2) &&& 31) = 16 then
      qL_law_j798 Ls xs s.1 s.2
    else if ((xs j2) &&& 31) = 17 then
      qL_law_j878 Ls xs s.1 s.2
    else if ((xs j2) &&& 31) = 18 then
      qL_law_j921 Ls xs s.1 s.2
    else if ((xs j2) &&& 31) = 19 then
      qL_law_j964 Ls xs s.1 s.2
    else if ((xs j2) &&& 31) = 20 then
      qL_law_j1017 Ls xs s.1 s.2
    else if ((xs j2) &&& 31) = 21 then
      qL_law_j1050 Ls xs s.1 s.2
    else if ((xs j2) &&& 31) = 22 then
      qL_law_j1083 Ls xs s.1 s.2
    else if ((xs j2) &&& 31) = 23 then
      qL_law_j1116 Ls xs s.1 s.2
    else if ((xs j2) &&& 31) = 24 then
      qL_law_j1175 Ls xs s.1 s.2
    else if ((xs j2) &&& 31) = 25 then
      qL_law_j1218 Ls xs s.1 s.2
    else if ((xs j2) &&& 31) = 26 then
      qL_law_j1287 Ls xs s.1 s.2
    else if ((xs j2) &&& 31) = 27 then
      qL_law_j1346 Ls xs s.1 s.2
    else if ((xs j2) &&& 31) = 28 then
      qL_law_j1369 Ls xs s.1 s.2
    else if ((xs j2) &&& 31) = 29 then
      qL_law_j1392 Ls xs s.1 s.2
    else
      some (.inl (s.1 + 6, s.2))
set_option maxRecDepth 20000 in
theorem t_qL_law_b18b {Ls : Nat} {xs : Nat → Int32} {d : Nat} {r : zA} {s : Int32 × zK} {e : (Int32 × zK) ⊕ ((zK) ⊕ (Int32 × zK))} (H : qL_law_b18 Ls xs s = some e) (K : match (generalizing := false) e with | .inl s' => zEv (zXs Ls xs) (d + 14) zm_286 (18, [some (.ref (zro + 0)), some (.ref 0), some (.ref 215), some (.int s'.1)], [], zhp s'.2) r | .inr (.inl v) => ∀ (z3 : Option Value), zEv (zXs Ls xs) (d + 14) zm_286 (1421, [some (.ref (zro + 0)), some (.ref 0), some (.ref 215), z3], [], zhp v) r | .inr (.inr p) => (some (.int p.1), zhp p.2) = r) : zEv (zXs Ls xs) (d + 14) zm_286 (18, [some (.ref (zro + 0)), some (.ref 0), some (.ref 215), some (.int s.1)], [], zhp s.2) r := by
  unfold qL_law_b18 at H
  refine zEv_k 6 (f' := (if ((Int32.ofNat Ls) - 6) < s.1 then 1421 else 27, [some (.ref (zro + 0)), some (.ref 0), some (.ref 215), some (.int s.1)], [], zhp s.2)) rfl (zEv_if (fun c1 => ?_) (fun c1 => ?_))
  · replace H := zif_t c1 H
    cases H
    exact K _
  · replace H := zif_f c1 H
    refine zEv_k 2 (f' := (29, [some (.ref (zro + 0)), some (.ref 0), some (.ref 215), some (.int s.1)], [.int s.1, .ref (zro + 0)], zhp s.2)) rfl ?_
    obtain ⟨j2, hj2, H⟩ := zbs H
    refine zRix (a := 0) rfl rfl hj2 ?_
    refine zEv_k 2 (f' := (33, [some (.ref (zro + 0)), some (.ref 0), some (.ref 215), some (.int s.1)], [.int ((xs j2) &&& 31)], zhp s.2)) rfl ?_
    refine zEv_ts rfl (by decide) (by decide) (by decide) (fun hh => ?_) (fun j hj hh => ?_)
    · replace H := zif_f (fun e => (by rw [e] at hh; exact absurd hh (by decide))) H
      replace H := zif_f (fun e => (by rw [e] at hh; exact absurd hh (by decide))) H
      replace H := zif_f (fun e => (by rw [e] at hh; exact absurd hh (by decide))) H
      replace H := zif_f (fun e => (by rw [e] at hh; exact absurd hh (by decide))) H
      replace H := zif_f (fun e => (by rw [e] at hh; exact absurd hh (by decide))) H
      replace H := zif_f (fun e => (by rw [e] at hh; exact absurd hh (by decide))) H
      replace H := zif_f (fun e => (by rw [e] at hh; exact absurd hh (by decide))) H
      replace H := zif_f (fun e => (by rw [e] at hh; exact absurd hh (by decide))) H
      replace H := zif_f (fun e => (by rw [e] at hh; exact absurd hh (by decide))) H
      replace H := zif_f (fun e => (by rw [e] at hh; exact absurd hh (by decide))) H
      replace H := zif_f (fun e => (by rw [e] at hh; exact absurd hh (by decide))) H
      replace H := zif_f (fun e => (by rw [e] at hh; exact absurd hh (by decide))) H
      replace H := zif_f (fun e => (by rw [e] at hh; exact absurd hh (by decide))) H
      replace H := zif_f (fun e => (by rw [e] at hh; exact absurd hh (by decide))) H
      replace H := zif_f (fun e => (by rw [e] at hh; exact absurd hh (by decide))) H
      replace H := zif_f (fun e => (by rw [e] at hh; exact absurd hh (by decide))) H
      replace H := zif_f (fun e => (by rw [e] at hh; exact absurd hh (by decide))) H
      replace H := zif_f (fun e => (by rw [e] at hh; exact absurd hh (by decide))) H
      replace H := zif_f (fun e => (by rw [e] at hh; exact absurd hh (by decide))) H
      replace H := zif_f (fun e => (by rw [e] at hh; exact absurd hh (by decide))) H
      replace H := zif_f (fun e => (by rw [e] at hh; exact absurd hh (by decide))) H
      replace H := zif_f (fun e => (by rw [e] at hh; exact absurd hh (by decide))) H
      replace H := zif_f (fun e => (by rw [e] at hh; exact absurd hh (by decide))) H
      replace H := zif_f (fun e => (by rw [e] at hh; exact absurd hh (by decide))) H
      replace H := zif_f (fun e => (by rw [e] at hh; exact absurd hh (by decide))) H
      replace H := zif_f (fun e => (by rw [e] at hh; exact absurd hh (by decide))) H
      replace H := zif_f (fun e => (by rw [e] at hh; exact absurd hh (by decide))) H
      replace H := zif_f (fun e => (by rw [e] at hh; exact absurd hh (by decide))) H
      replace H := zif_f (fun e => (by rw [e] at hh; exact absurd hh (by decide))) H
      replace H := zif_f (fun e => (by rw [e] at hh; exact absurd hh (by decide))) H
      refine zEv_k 2 (f' := (18, [some (.ref (zro + 0)), some (.ref 0), some (.ref 215), some (.int (s.1 + 6))], [], zhp s.2)) rfl ?_
      cases H
      exact K
    · rcases (by have hj2 : j < 30 := hj; omega : j = 0 ∨ j = 1 ∨ j = 2 ∨ j = 3 ∨ j = 4 ∨ j = 5 ∨ j = 6 ∨ j = 7 ∨ j = 8 ∨ j = 9 ∨ j = 10 ∨ j = 11 ∨ j = 12 ∨ j = 13 ∨ j = 14 ∨ j = 15 ∨ j = 16 ∨ j = 17 ∨ j = 18 ∨ j = 19 ∨ j = 20 ∨ j = 21 ∨ j = 22 ∨ j = 23 ∨ j = 24 ∨ j = 25 ∨ j = 26 ∨ j = 27 ∨ j = 28 ∨ j = 29) with rfl | rfl | rfl | rfl | rfl | rfl | rfl | rfl | rfl | rfl | rfl | rfl | rfl | rfl | rfl | rfl | rfl | rfl | rfl | rfl | rfl | rfl | rfl | rfl | rfl | rfl | rfl | rfl | rfl | rfl
      · have ex : (xs j2) &&& 31 = 0 := zeqI hh (by decide)
        replace H := zif_t ex H
        exact t_qL_law_j168 (x3 := s.1) (h := s.2) H K
      · have ex : (xs j2) &&& 31 = 1 := zeqI hh (by decide)
        replace H := zif_f (fun e => by rw [ex] at e; exact absurd e (by decide)) H
        replace H := zif_t ex H
        exact t_qL_law_j231 (x3 := s.1) (h := s.2) H K
      · have ex : (xs j2) &&& 31 = 2 := zeqI hh (by decide)
        replace H := zif_f (fun e => by rw [ex] at e; exact absurd e (by decide)) H
        replace H := zif_f (fun e => by rw [ex] at e; exact absurd e (by decide)) H
        replace H := zif_t ex H
        exact t_qL_law_j254 (x3 := s.1) (h := s.2) H K
      · have ex : (xs j2) &&& 31 = 3 := zeqI hh (by decide)
        replace H := zif_f (fun e => by rw [ex] at e; exact absurd e (by decide)) H
        replace H := zif_f (fun e => by rw [ex] at e; exact absurd e (by decide)) H
        replace H := zif_f (fun e => by rw [ex] at e; exact absurd e (by decide)) H
        replace H := zif_t ex H
        exact t_qL_law_j287 (x3 := s.1) (h := s.2) H K
      · have ex : (xs j2) &&& 31 = 4 := zeqI hh (by decide)
        replace H := zif_f (fun e => by rw [ex] at e; exact absurd e (by decide)) H
        replace H := zif_f (fun e => by rw [ex] at e; exact absurd e (by decide)) H
        replace H := zif_f (fun e => by rw [ex] at e; exact absurd e (by decide)) H
        replace H := zif_f (fun e => by rw [ex] at e; exact absurd e (by decide)) H
        replace H := zif_t ex H
        exact t_qL_law_j310 (x3 := s.1) (h := s.2) H K
      · have ex : (xs j2) &&& 31 = 5 := zeqI hh (by decide)
        replace H := zif_f (fun e => by rw [ex] at e; exact absurd e (by decide)) H
        replace H := zif_f (fun e => by rw [ex] at e; exact absurd e (by decide)) H
        replace H := zif_f (fun e => by rw [ex] at e; exact absurd e (by decide)) H
        replace H := zif_f (fun e => by rw [ex] at e; exact absurd e (by decide)) H
        replace H := zif_f (fun e => by rw [ex] at e; exact absurd e (by decide)) H
        replace H := zif_t ex H
        exact t_qL_law_j343 (x3 := s.1) (h := s.2) H K
      · have ex : (xs j2) &&& 31 = 6 := zeqI hh (by decide)
        replace H := zif_f (fun e => by rw [ex] at e; exact absurd e (by decide)) H
        replace H := zif_f (fun e => by rw [ex] at e; exact absurd e (by decide)) H
        replace H := zif_f (fun e => by rw [ex] at e; exact absurd e (by decide)) H
        replace H := zif_f (fun e => by rw [ex] at e; exact absurd e (by decide)) H
        replace H := zif_f (fun e => by rw [ex] at e; exact absurd e (by decide)) H
        replace H := zif_f (fun e => by rw [ex] at e; exact absurd e (by decide)) H
        replace H := zif_t ex H
        exact t_qL_law_j386 (x3 := s.1) (h := s.2) H K
      · have ex : (xs j2) &&& 31 = 7 := zeqI hh (by decide)
        replace H := zif_f (fun e => by rw [ex] at e; exact absurd e (by decide)) H
        replace H := zif_f (fun e => by rw [ex] at e; exact absurd e (by decide)) H
        replace H := zif_f (fun e => by rw [ex] at e; exact absurd e (by decide)) H
        replace H := zif_f (fun e => by rw [ex] at e; exact absurd e (by decide)) H
        replace H := zif_f (fun e => by rw [ex] at e; exact absurd e (by decide)) H
        replace H := zif_f (fun e => by rw [ex] at e; exact absurd e (by decide)) H
        replace H := zif_f (fun e => by rw [ex] at e; exact absurd e (by decide)) H
        replace H := zif_t ex H
        exact t_qL_law_j419 (x3 := s.1) (h := s.2) H K
      · have ex : (xs j2) &&& 31 = 8 := zeqI hh (by decide)
        replace H := zif_f (fun e => by rw [ex] at e; exact absurd e (by decide)) H
        replace H := zif_f (fun e => by rw [ex] at e; exact absurd e (by decide)) H
        replace H := zif_f (fun e => by rw [ex] at e; exact absurd e (by decide)) H
        replace H := zif_f (fun e => by rw [ex] at e; exact absurd e (by decide)) H
        replace H := zif_f (fun e => by rw [ex] at e; exact absurd e (by decide)) H
        replace H := zif_f (fun e => by rw [ex] at e; exact absurd e (by decide)) H
        replace H := zif_f (fun e => by rw [ex] at e; exact absurd e (by decide)) H
        replace H := zif_f (fun e => by rw [ex] at e; exact absurd e (by decide)) H
        replace H := zif_t ex H
        exact t_qL_law_j472 (x3 := s.1) (h := s.2) H K
      · have ex : (xs j2) &&& 31 = 9 := zeqI hh (by decide)
        replace H := zif_f (fun e => by rw [ex] at e; exact absurd e (by decide)) H
        replace H := zif_f (fun e => by rw [ex] at e; exact absurd e (by decide)) H
        replace H := zif_f (fun e => by rw [ex] at e; exact absurd e (by decide)) H
        replace H := zif_f (fun e => by rw [ex] at e; exact absurd e (by decide)) H
        replace H := zif_f (fun e => by rw [ex] at e; exact absurd e (by decide)) H
        replace H := zif_f (fun e => by rw [ex] at e; exact absurd e (by decide)) H
        replace H := zif_f (fun e => by rw [ex] at e; exact absurd e (by decide)) H
        replace H := zif_f (fun e => by rw [ex] at e; exact absurd e (by decide)) H
        replace H := zif_f (fun e => by rw [ex] at e; exact absurd e (by decide)) H
        replace H := zif_t ex H
        exact t_qL_law_j505 (x3 := s.1) (h := s.2) H K
      · have ex : (xs j2) &&& 31 = 10 := zeqI hh (by decide)
        replace H := zif_f (fun e => by rw [ex] at e; exact absurd e (by decide)) H
        replace H := zif_f (fun e => by rw [ex] at e; exact absurd e (by decide)) H
        replace H := zif_f (fun e => by rw [ex] at e; exact absurd e (by decide)) H
        replace H := zif_f (fun e => by rw [ex] at e; exact absurd e (by decide)) H
        replace H := zif_f (fun e => by rw [ex] at e; exact absurd e (by decide)) H
        replace H := zif_f (fun e => by rw [ex] at e; exact absurd e (by decide)) H
        replace H := zif_f (fun e => by rw [ex] at e; exact absurd e (by decide)) H
        replace H := zif_f (fun e => by rw [ex] at e; exact absurd e (by decide)) H
        replace H := zif_f (fun e => by rw [ex] at e; exact absurd e (by decide)) H
        replace H := zif_f (fun e => by rw [ex] at e; exact absurd e (by decide)) H
        replace H := zif_t ex H
        exact t_qL_law_j538 (x3 := s.1) (h := s.2) H K
      · have ex : (xs j2) &&& 31 = 11 := zeqI hh (by decide)
        replace H := zif_f (fun e => by rw [ex] at e; exact absurd e (by decide)) H
        replace H := zif_f (fun e => by rw [ex] at e; exact absurd e (by decide)) H
        replace H := zif_f (fun e => by rw [ex] at e; exact absurd e (by decide)) H
        replace H := zif_f (fun e => by rw [ex] at e; exact absurd e (by decide)) H
        replace H := zif_f (fun e => by rw [ex] at e; exact absurd e (by decide)) H
        replace H := zif_f (fun e => by rw [ex] at e; exact absurd e (by decide)) H
        replace H := zif_f (fun e => by rw [ex] at e; exact absurd e (by decide)) H
        replace H := zif_f (fun e => by rw [ex] at e; exact absurd e (by decide)) H
        replace H := zif_f (fun e => by rw [ex] at e; exact absurd e (by decide)) H
        replace H := zif_f (fun e => by rw [ex] at e; exact absurd e (by decide)) H
        replace H := zif_f (fun e => by rw [ex] at e; exact absurd e (by decide)) H
        replace H := zif_t ex H
        exact t_qL_law_j571 (x3 := s.1) (h := s.2) H K
      · have ex : (xs j2) &&& 31 = 12 := zeqI hh (by decide)
        replace H := zif_f (fun e => by rw [ex] at e; exact absurd e (by decide)) H
        replace H := zif_f (fun e => by rw [ex] at e; exact absurd e (by decide)) H
        replace H := zif_f (fun e => by rw [ex] at e; exact absurd e (by decide)) H
        replace H := zif_f (fun e => by rw [ex] at e; exact absurd e (by decide)) H
        replace H := zif_f (fun e => by rw [ex] at e; exact absurd e (by decide)) H
        replace H := zif_f (fun e => by rw [ex] at e; exact absurd e (by decide)) H
        replace H := zif_f (fun e => by rw [ex] at e; exact absurd e (by decide)) H
        replace H := zif_f (fun e => by rw [ex] at e; exact absurd e (by decide)) H
        replace H := zif_f (fun e => by rw [ex] at e; exact absurd e (by decide)) H
        replace H := zif_f (fun e => by rw [ex] at e; exact absurd e (by decide)) H
        replace H := zif_f (fun e => by rw [ex] at e; exact absurd e (by decide)) H
        replace H := zif_f (fun e => by rw [ex] at e; exact absurd e (by decide)) H
        replace H := zif_t ex H
        exact t_qL_law_j614 (x3 := s.1) (h := s.2) H K
      · have ex : (xs j2) &&& 31 = 13 := zeqI hh (by decide)
        replace H := zif_f (fun e => by rw [ex] at e; exact absurd e (by decide)) H
        replace H := zif_f (fun e => by rw [ex] at e; exact absurd e (by decide)) H
        replace H := zif_f (fun e => by rw [ex] at e; exact absurd e (by decide)) H
        replace H := zif_f (fun e => by rw [ex] at e; exact absurd e (by decide)) H
        replace H := zif_f (fun e => by rw [ex] at e; exact absurd e (by decide)) H
        replace H := zif_f (fun e => by rw [ex] at e; exact absurd e (by decide)) H
        replace H := zif_f (fun e => by rw [ex] at e; exact absurd e (by decide)) H
        replace H := zif_f (fun e => by rw [ex] at e; exact absurd e (by decide)) H
        replace H := zif_f (fun e => by rw [ex] at e; exact absurd e (by decide)) H
        replace H := zif_f (fun e => by rw [ex] at e; exact absurd e (by decide)) H
        replace H := zif_f (fun e => by rw [ex] at e; exact absurd e (by decide)) H
        replace H := zif_f (fun e => by rw [ex] at e; exact absurd e (by decide)) H
        replace H := zif_f (fun e => by rw [ex] at e; exact absurd e (by decide)) H
        replace H := zif_t ex H
        exact t_qL_law_j647 (x3 := s.1) (h := s.2) H K
      · have ex : (xs j2) &&& 31 = 14 := zeqI hh (by decide)
        replace H := zif_f (fun e => by rw [ex] at e; exact absurd e (by decide)) H
        replace H := zif_f (fun e => by rw [ex] at e; exact absurd e (by decide)) H
        replace H := zif_f (fun e => by rw [ex] at e; exact absurd e (by decide)) H
        replace H := zif_f (fun e => by rw [ex] at e; exact absurd e (by decide)) H
        replace H := zif_f (fun e => by rw [ex] at e; exact absurd e (by decide)) H
        replace H := zif_f (fun e => by rw [ex] at e; exact absurd e (by decide)) H
        replace H := zif_f (fun e => by rw [ex] at e; exact absurd e (by decide)) H
        replace H := zif_f (fun e => by rw [ex] at e; exact absurd e (by decide)) H
        replace H := zif_f (fun e => by rw [ex] at e; exact absurd e (by decide)) H
        replace H := zif_f (fun e => by rw [ex] at e; exact absurd e (by decide)) H
        replace H := zif_f (fun e => by rw [ex] at e; exact absurd e (by decide)) H
        replace H := zif_f (fun e => by rw [ex] at e; exact absurd e (by decide)) H
        replace H := zif_f (fun e => by rw [ex] at e; exact absurd e (by decide)) H
        replace H := zif_f (fun e => by rw [ex] at e; exact absurd e (by decide)) H
        replace H := zif_t ex H
        exact t_qL_law_j680 (x3 := s.1) (h := s.2) H K
      · have ex : (xs j2) &&& 31 = 15 := zeqI hh (by decide)
        replace H := zif_f (fun e => by rw [ex] at e; exact absurd e (by decide)) H
        replace H := zif_f (fun e => by rw [ex] at e; exact absurd e (by decide)) H
        replace H := zif_f (fun e => by rw [ex] at e; exact absurd e (by decide)) H
        replace H := zif_f (fun e => by rw [ex] at e; exact absurd e (by decide)) H
        replace H := zif_f (fun e => by rw [ex] at e; exact absurd e (by decide)) H
        replace H := zif_f (fun e => by rw [ex] at e; exact absurd e (by decide)) H
        replace H := zif_f (fun e => by rw [ex] at e; exact absurd e (by decide)) H
        replace H := zif_f (fun e => by rw [ex] at e; exact absurd e (by decide)) H
        replace H := zif_f (fun e => by rw [ex] at e; exact absurd e (by decide)) H
        replace H := zif_f (fun e => by rw [ex] at e; exact absurd e (by decide)) H
        replace H := zif_f (fun e => by rw [ex] at e; exact absurd e (by decide)) H
        replace H := zif_f (fun e => by rw [ex] at e; exact absurd e (by decide)) H
        replace H := zif_f (fun e => by rw [ex] at e; exact absurd e (by decide)) H
        replace H := zif_f (fun e => by rw [ex] at e; exact absurd e (by decide)) H
        replace H := zif_f (fun e => by rw [ex] at e; exact absurd e (by decide)) H
        replace H := zif_t ex H
        exact t_qL_law_j739 (x3 := s.1) (h := s.2) H K
      · have ex : (xs j2) &&& 31 = 16 := zeqI hh (by decide)
        replace H := zif_f (fun e => by rw [ex] at e; exact absurd e (by decide)) H
        replace H := zif_f (fun e => by rw [ex] at e; exact absurd e (by decide)) H
        replace H := zif_f (fun e => by rw [ex] at e; exact absurd e (by decide)) H
        replace H := zif_f (fun e => by rw [ex] at e; exact absurd e (by decide)) H
        replace H := zif_f (fun e => by rw [ex] at e; exact absurd e (by decide)) H
        replace H := zif_f (fun e => by rw [ex] at e; exact absurd e (by decide)) H
        replace H := zif_f (fun e => by rw [ex] at e; exact absurd e (by decide)) H
        replace H := zif_f (fun e => by rw [ex] at e; exact absurd e (by decide)) H
        replace H := zif_f (fun e => by rw [ex] at e; exact absurd e (by decide)) H
        replace H := zif_f (fun e => by rw [ex] at e; exact absurd e (by decide)) H
        replace H := zif_f (fun e => by rw [ex] at e; exact absurd e (by decide)) H
        replace H := zif_f (fun e => by rw [ex] at e; exact absurd e (by decide)) H
        replace H := zif_f (fun e => by rw [ex] at e; exact absurd e (by decide)) H
        replace H := zif_f (fun e => by rw [ex] at e; exact absurd e (by decide)) H
        replace H := zif_f (fun e => by rw [ex] at e; exact absurd e (by decide)) H
        replace H := zif_f (fun e => by rw [ex] at e; exact absurd e (by decide)) H
        replace H := zif_t ex H
        exact t_qL_law_j798 (x3 := s.1) (h := s.2) H K
      · have ex : (xs j2) &&& 31 = 17 := zeqI hh (by decide)
        replace H := zif_f (fun e => by rw [ex] at e; exact absurd e (by decide)) H
        replace H := zif_f (fun e => by rw [ex] at e; exact absurd e (by decide)) H
        replace H := zif_f (fun e => by rw [ex] at e; exact absurd e (by decide)) H
        replace H := zif_f (fun e => by rw [ex] at e; exact absurd e (by decide)) H
        replace H := zif_f (fun e => by rw [ex] at e; exact absurd e (by decide)) H
        replace H := zif_f (fun e => by rw [ex] at e; exact absurd e (by decide)) H
        replace H := zif_f (fun e => by rw [ex] at e; exact absurd e (by decide)) H
        replace H := zif_f (fun e => by rw [ex] at e; exact absurd e (by decide)) H
        replace H := zif_f (fun e => by rw [ex] at e; exact absurd e (by decide)) H
        replace H := zif_f (fun e => by rw [ex] at e; exact absurd e (by decide)) H
        replace H := zif_f (fun e => by rw [ex] at e; exact absurd e (by decide)) H
        replace H := zif_f (fun e => by rw [ex] at e; exact absurd e (by decide)) H
        replace H := zif_f (fun e => by rw [ex] at e; exact absurd e (by decide)) H
        replace H := zif_f (fun e => by rw [ex] at e; exact absurd e (by decide)) H
        replace H := zif_f (fun e => by rw [ex] at e; exact absurd e (by decide)) H
        replace H := zif_f (fun e => by rw [ex] at e; exact absurd e (by decide)) H
        replace H := zif_f (fun e => by rw [ex] at e; exact absurd e (by decide)) H
        replace H := zif_t ex H
        exact t_qL_law_j878 (x3 := s.1) (h := s.2) H K
      · have ex : (xs j2) &&& 31 = 18 := zeqI hh (by decide)
        replace H := zif_f (fun e => by rw [ex] at e; exact absurd e (by decide)) H
        replace H := zif_f (fun e => by rw [ex] at e; exact absurd e (by decide)) H
        replace H := zif_f (fun e => by rw [ex] at e; exact absurd e (by decide)) H
        replace H := zif_f (fun e => by rw [ex] at e; exact absurd e (by decide)) H
        replace H := zif_f (fun e => by rw [ex] at e; exact absurd e (by decide)) H
        replace H := zif_f (fun e => by rw [ex] at e; exact absurd e (by decide)) H
        replace H := zif_f (fun e => by rw [ex] at e; exact absurd e (by decide)) H
        replace H := zif_f (fun e => by rw [ex] at e; exact absurd e (by decide)) H
        replace H := zif_f (fun e => by rw [ex] at e; exact absurd e (by decide)) H
        replace H := zif_f (fun e => by rw [ex] at e; exact absurd e (by decide)) H
        replace H := zif_f (fun e => by rw [ex] at e; exact absurd e (by decide)) H
        replace H := zif_f (fun e => by rw [ex] at e; exact absurd e (by decide)) H
        replace H := zif_f (fun e => by rw [ex] at e; exact absurd e (by decide)) H
        replace H := zif_f (fun e => by rw [ex] at e; exact absurd e (by decide)) H
        replace H := zif_f (fun e => by rw [ex] at e; exact absurd e (by decide)) H
        replace H := zif_f (fun e => by rw [ex] at e; exact absurd e (by decide)) H
        replace H := zif_f (fun e => by rw [ex] at e; exact absurd e (by decide)) H
        replace H := zif_f (fun e => by rw [ex] at e; exact absurd e (by decide)) H
        replace H := zif_t ex H
        exact t_qL_law_j921 (x3 := s.1) (h := s.2) H K
      · have ex : (xs j2) &&& 31 = 19 := zeqI hh (by decide)
        replace H := zif_f (fun e => by rw [ex] at e; exact absurd e (by decide)) H
        replace H := zif_f (fun e => by rw [ex] at e; exact absurd e (by decide)) H
        replace H := zif_f (fun e => by rw [ex] at e; exact absurd e (by decide)) H
        replace H := zif_f (fun e => by rw [ex] at e; exact absurd e (by decide)) H
        replace H := zif_f (fun e => by rw [ex] at e; exact absurd e (by decide)) H
        replace H := zif_f (fun e => by rw [ex] at e; exact absurd e (by decide)) H
        replace H := zif_f (fun e => by rw [ex] at e; exact absurd e (by decide)) H
        replace H := zif_f (fun e => by rw [ex] at e; exact absurd e (by decide)) H
        replace H := zif_f (fun e => by rw [ex] at e; exact absurd e (by decide)) H
        replace H := zif_f (fun e => by rw [ex] at e; exact absurd e (by decide)) H
        replace H := zif_f (fun e => by rw [ex] at e; exact absurd e (by decide)) H
        replace H := zif_f (fun e => by rw [ex] at e; exact absurd e (by decide)) H
        replace H := zif_f (fun e => by rw [ex] at e; exact absurd e (by decide)) H
        replace H := zif_f (fun e => by rw [ex] at e; exact absurd e (by decide)) H
        replace H := zif_f (fun e => by rw [ex] at e; exact absurd e (by decide)) H
        replace H := zif_f (fun e => by rw [ex] at e; exact absurd e (by decide)) H
        replace H := zif_f (fun e => by rw [ex] at e; exact absurd e (by decide)) H
        replace H := zif_f (fun e => by rw [ex] at e; exact absurd e (by decide)) H
        replace H := zif_f (fun e => by rw [ex] at e; exact absurd e (by decide)) H
        replace H := zif_t ex H
        exact t_qL_law_j964 (x3 := s.1) (h := s.2) H K
      · have ex : (xs j2) &&& 31 = 20 := zeqI hh (by decide)
        replace H := zif_f (fun e => by rw [ex] at e; exact absurd e (by decide)) H
        replace H := zif_f (fun e => by rw [ex] at e; exact absurd e (by decide)) H
        replace H := zif_f (fun e => by rw [ex] at e; exact absurd e (by decide)) H
        replace H := zif_f (fun e => by rw [ex] at e; exact absurd e (by decide)) H
        replace H := zif_f (fun e => by rw [ex] at e; exact absurd e (by decide)) H
        replace H := zif_f (fun e => by rw [ex] at e; exact absurd e (by decide)) H
        replace H := zif_f (fun e => by rw [ex] at e; exact absurd e (by decide)) H
        replace H := zif_f (fun e => by rw [ex] at e; exact absurd e (by decide)) H
        replace H := zif_f (fun e => by rw [ex] at e; exact absurd e (by decide)) H
        replace H := zif_f (fun e => by rw [ex] at e; exact absurd e (by decide)) H
        replace H := zif_f (fun e => by rw [ex] at e; exact absurd e (by decide)) H
        replace H := zif_f (fun e => by rw [ex] at e; exact absurd e (by decide)) H
        replace H := zif_f (fun e => by rw [ex] at e; exact absurd e (by decide)) H
        replace H := zif_f (fun e => by rw [ex] at e; exact absurd e (by decide)) H
        replace H := zif_f (fun e => by rw [ex] at e; exact absurd e (by decide)) H
        replace H := zif_f (fun e => by rw [ex] at e; exact absurd e (by decide)) H
        replace H := zif_f (fun e => by rw [ex] at e; exact absurd e (by decide)) H
        replace H := zif_f (fun e => by rw [ex] at e; exact absurd e (by decide)) H
        replace H := zif_f (fun e => by rw [ex] at e; exact absurd e (by decide)) H
        replace H := zif_f (fun e => by rw [ex] at e; exact absurd e (by decide)) H
        replace H := zif_t ex H
        exact t_qL_law_j1017 (x3 := s.1) (h := s.2) H K
      · have ex : (xs j2) &&& 31 = 21 := zeqI hh (by decide)
        replace H := zif_f (fun e => by rw [ex] at e; exact absurd e (by decide)) H
        replace H := zif_f (fun e => by rw [ex] at e; exact absurd e (by decide)) H
        replace H := zif_f (fun e => by rw [ex] at e; exact absurd e (by decide)) H
        replace H := zif_f (fun e => by rw [ex] at e; exact absurd e (by decide)) H
        replace H := zif_f (fun e => by rw [ex] at e; exact absurd e (by decide)) H
        replace H := zif_f (fun e => by rw [ex] at e; exact absurd e (by decide)) H
        replace H := zif_f (fun e => by rw [ex] at e; exact absurd e (by decide)) H
        replace H := zif_f (fun e => by rw [ex] at e; exact absurd e (by decide)) H
        replace H := zif_f (fun e => by rw [ex] at e; exact absurd e (by decide)) H
        replace H := zif_f (fun e => by rw [ex] at e; exact absurd e (by decide)) H
        replace H := zif_f (fun e => by rw [ex] at e; exact absurd e (by decide)) H
        replace H := zif_f (fun e => by rw [ex] at e; exact absurd e (by decide)) H
        replace H := zif_f (fun e => by rw [ex] at e; exact absurd e (by decide)) H
        replace H := zif_f (fun e => by rw [ex] at e; exact absurd e (by decide)) H
        replace H := zif_f (fun e => by rw [ex] at e; exact absurd e (by decide)) H
        replace H := zif_f (fun e => by rw [ex] at e; exact absurd e (by decide)) H
        replace H := zif_f (fun e => by rw [ex] at e; exact absurd e (by decide)) H
        replace H := zif_f (fun e => by rw [ex] at e; exact absurd e (by decide)) H
        replace H := zif_f (fun e => by rw [ex] at e; exact absurd e (by decide)) H
        replace H := zif_f (fun e => by rw [ex] at e; exact absurd e (by decide)) H
        replace H := zif_f (fun e => by rw [ex] at e; exact absurd e (by decide)) H
        replace H := zif_t ex H
        exact t_qL_law_j1050 (x3 := s.1) (h := s.2) H K
      · have ex : (xs j2) &&& 31 = 22 := zeqI hh (by decide)
        replace H := zif_f (fun e => by rw [ex] at e; exact absurd e (by decide)) H
        replace H := zif_f (fun e => by rw [ex] at e; exact absurd e (by decide)) H
        replace H := zif_f (fun e => by rw [ex] at e; exact absurd e (by decide)) H
        replace H := zif_f (fun e => by rw [ex] at e; exact absurd e (by decide)) H
        replace H := zif_f (fun e => by rw [ex] at e; exact absurd e (by decide)) H
        replace H := zif_f (fun e => by rw [ex] at e; exact absurd e (by decide)) H
        replace H := zif_f (fun e => by rw [ex] at e; exact absurd e (by decide)) H
        replace H := zif_f (fun e => by rw [ex] at e; exact absurd e (by decide)) H
        replace H := zif_f (fun e => by rw [ex] at e; exact absurd e (by decide)) H
        replace H := zif_f (fun e => by rw [ex] at e; exact absurd e (by decide)) H
        replace H := zif_f (fun e => by rw [ex] at e; exact absurd e (by decide)) H
        replace H := zif_f (fun e => by rw [ex] at e; exact absurd e (by decide)) H
        replace H := zif_f (fun e => by rw [ex] at e; exact absurd e (by decide)) H
        replace H := zif_f (fun e => by rw [ex] at e; exact absurd e (by decide)) H
        replace H := zif_f (fun e => by rw [ex] at e; exact absurd e (by decide)) H
        replace H := zif_f (fun e => by rw [ex] at e; exact absurd e (by decide)) H
        replace H := zif_f (fun e => by rw [ex] at e; exact absurd e (by decide)) H
        replace H := zif_f (fun e => by rw [ex] at e; exact absurd e (by decide)) H
        replace H := zif_f (fun e => by rw [ex] at e; exact absurd e (by decide)) H
        replace H := zif_f (fun e => by rw [ex] at e; exact absurd e (by decide)) H
        replace H := zif_f (fun e => by rw [ex] at e; exact absurd e (by decide)) H
        replace H := zif_f (fun e => by rw [ex] at e; exact absurd e (by decide)) H
        replace H := zif_t ex H
        exact t_qL_law_j1083 (x3 := s.1) (h := s.2) H K
      · have ex : (xs j2) &&& 31 = 23 := zeqI hh (by decide)
        replace H := zif_f (fun e => by rw [ex] at e; exact absurd e (by decide)) H
        replace H := zif_f (fun e => by rw [ex] at e; exact absurd e (by decide)) H
        replace H := zif_f (fun e => by rw [ex] at e; exact absurd e (by decide)) H
        replace H := zif_f (fun e => by rw [ex] at e; exact absurd e (by decide)) H
        replace H := zif_f (fun e => by rw [ex] at e; exact absurd e (by decide)) H
        replace H := zif_f (fun e => by rw [ex] at e; exact absurd e (by decide)) H
        replace H := zif_f (fun e => by rw [ex] at e; exact absurd e (by decide)) H
        replace H := zif_f (fun e => by rw [ex] at e; exact absurd e (by decide)) H
        replace H := zif_f (fun e => by rw [ex] at e; exact absurd e (by decide)) H
        replace H := zif_f (fun e => by rw [ex] at e; exact absurd e (by decide)) H
        replace H := zif_f (fun e => by rw [ex] at e; exact absurd e (by decide)) H
        replace H := zif_f (fun e => by rw [ex] at e; exact absurd e (by decide)) H
        replace H := zif_f (fun e => by rw [ex] at e; exact absurd e (by decide)) H
        replace H := zif_f (fun e => by rw [ex] at e; exact absurd e (by decide)) H
        replace H := zif_f (fun e => by rw [ex] at e; exact absurd e (by decide)) H
        replace H := zif_f (fun e => by rw [ex] at e; exact absurd e (by decide)) H
        replace H := zif_f (fun e => by rw [ex] at e; exact absurd e (by decide)) H
        replace H := zif_f (fun e => by rw [ex] at e; exact absurd e (by decide)) H
        replace H := zif_f (fun e => by rw [ex] at e; exact absurd e (by decide)) H
        replace H := zif_f (fun e => by rw [ex] at e; exact absurd e (by decide)) H
        replace H := zif_f (fun e => by rw [ex] at e; exact absurd e (by decide)) H
        replace H := zif_f (fun e => by rw [ex] at e; exact absurd e (by decide)) H
        replace H := zif_f (fun e => by rw [ex] at e; exact absurd e (by decide)) H
        replace H := zif_t ex H
        exact t_qL_law_j1116 (x3 := s.1) (h := s.2) H K
      · have ex : (xs j2) &&& 31 = 24 := zeqI hh (by decide)
        replace H := zif_f (fun e => by rw [ex] at e; exact absurd e (by decide)) H
        replace H := zif_f (fun e => by rw [ex] at e; exact absurd e (by decide)) H
        replace H := zif_f (fun e => by rw [ex] at e; exact absurd e (by decide)) H
        replace H := zif_f (fun e => by rw [ex] at e; exact absurd e (by decide)) H
        replace H := zif_f (fun e => by rw [ex] at e; exact absurd e (by decide)) H
        replace H := zif_f (fun e => by rw [ex] at e; exact absurd e (by decide)) H
        replace H := zif_f (fun e => by rw [ex] at e; exact absurd e (by decide)) H
        replace H := zif_f (fun e => by rw [ex] at e; exact absurd e (by decide)) H
        replace H := zif_f (fun e => by rw [ex] at e; exact absurd e (by decide)) H
        replace H := zif_f (fun e => by rw [ex] at e; exact absurd e (by decide)) H
        replace H := zif_f (fun e => by rw [ex] at e; exact absurd e (by decide)) H
        replace H := zif_f (fun e => by rw [ex] at e; exact absurd e (by decide)) H
        replace H := zif_f (fun e => by rw [ex] at e; exact absurd e (by decide)) H
        replace H := zif_f (fun e => by rw [ex] at e; exact absurd e (by decide)) H
        replace H := zif_f (fun e => by rw [ex] at e; exact absurd e (by decide)) H
        replace H := zif_f (fun e => by rw [ex] at e; exact absurd e (by decide)) H
        replace H := zif_f (fun e => by rw [ex] at e; exact absurd e (by decide)) H
        replace H := zif_f (fun e => by rw [ex] at e; exact absurd e (by decide)) H
        replace H := zif_f (fun e => by rw [ex] at e; exact absurd e (by decide)) H
        replace H := zif_f (fun e => by rw [ex] at e; exact absurd e (by decide)) H
        replace H := zif_f (fun e => by rw [ex] at e; exact absurd e (by decide)) H
        replace H := zif_f (fun e => by rw [ex] at e; exact absurd e (by decide)) H
        replace H := zif_f (fun e => by rw [ex] at e; exact absurd e (by decide)) H
        replace H := zif_f (fun e => by rw [ex] at e; exact absurd e (by decide)) H
        replace H := zif_t ex H
        exact t_qL_law_j1175 (x3 := s.1) (h := s.2) H K
      · have ex : (xs j2) &&& 31 = 25 := zeqI hh (by decide)
        replace H := zif_f (fun e => by rw [ex] at e; exact absurd e (by decide)) H
        replace H := zif_f (fun e => by rw [ex] at e; exact absurd e (by decide)) H
        replace H := zif_f (fun e => by rw [ex] at e; exact absurd e (by decide)) H
        replace H := zif_f (fun e => by rw [ex] at e; exact absurd e (by decide)) H
        replace H := zif_f (fun e => by rw [ex] at e; exact absurd e (by decide)) H
        replace H := zif_f (fun e => by rw [ex] at e; exact absurd e (by decide)) H
        replace H := zif_f (fun e => by rw [ex] at e; exact absurd e (by decide)) H
        replace H := zif_f (fun e => by rw [ex] at e; exact absurd e (by decide)) H
        replace H := zif_f (fun e => by rw [ex] at e; exact absurd e (by decide)) H
        replace H := zif_f (fun e => by rw [ex] at e; exact absurd e (by decide)) H
        replace H := zif_f (fun e => by rw [ex] at e; exact absurd e (by decide)) H
        replace H := zif_f (fun e => by rw [ex] at e; exact absurd e (by decide)) H
        replace H := zif_f (fun e => by rw [ex] at e; exact absurd e (by decide)) H
        replace H := zif_f (fun e => by rw [ex] at e; exact absurd e (by decide)) H
        replace H := zif_f (fun e => by rw [ex] at e; exact absurd e (by decide)) H
        replace H := zif_f (fun e => by rw [ex] at e; exact absurd e (by decide)) H
        replace H := zif_f (fun e => by rw [ex] at e; exact absurd e (by decide)) H
        replace H := zif_f (fun e => by rw [ex] at e; exact absurd e (by decide)) H
        replace H := zif_f (fun e => by rw [ex] at e; exact absurd e (by decide)) H
        replace H := zif_f (fun e => by rw [ex] at e; exact absurd e (by decide)) H
        replace H := zif_f (fun e => by rw [ex] at e; exact absurd e (by decide)) H
        replace H := zif_f (fun e => by rw [ex] at e; exact absurd e (by decide)) H
        replace H := zif_f (fun e => by rw [ex] at e; exact absurd e (by decide)) H
        replace H := zif_f (fun e => by rw [ex] at e; exact absurd e (by decide)) H
        replace H := zif_f (fun e => by rw [ex] at e; exact absurd e (by decide)) H
        replace H := zif_t ex H
        exact t_qL_law_j1218 (x3 := s.1) (h := s.2) H K
      · have ex : (xs j2) &&& 31 = 26 := zeqI hh (by decide)
        replace H := zif_f (fun e => by rw [ex] at e; exact absurd e (by decide)) H
        replace H := zif_f (fun e => by rw [ex] at e; exact absurd e (by decide)) H
        replace H := zif_f (fun e => by rw [ex] at e; exact absurd e (by decide)) H
        replace H := zif_f (fun e => by rw [ex] at e; exact absurd e (by decide)) H
        replace H := zif_f (fun e => by rw [ex] at e; exact absurd e (by decide)) H
        replace H := zif_f (fun e => by rw [ex] at e; exact absurd e (by decide)) H
        replace H := zif_f (fun e => by rw [ex] at e; exact absurd e (by decide)) H
        replace H := zif_f (fun e => by rw [ex] at e; exact absurd e (by decide)) H
        replace H := zif_f (fun e => by rw [ex] at e; exact absurd e (by decide)) H
        replace H := zif_f (fun e => by rw [ex] at e; exact absurd e (by decide)) H
        replace H := zif_f (fun e => by rw [ex] at e; exact absurd e (by decide)) H
        replace H := zif_f (fun e => by rw [ex] at e; exact absurd e (by decide)) H
        replace H := zif_f (fun e => by rw [ex] at e; exact absurd e (by decide)) H
        replace H := zif_f (fun e => by rw [ex] at e; exact absurd e (by decide)) H
        replace H := zif_f (fun e => by rw [ex] at e; exact absurd e (by decide)) H
        replace H := zif_f (fun e => by rw [ex] at e; exact absurd e (by decide)) H
        replace H := zif_f (fun e => by rw [ex] at e; exact absurd e (by decide)) H
        replace H := zif_f (fun e => by rw [ex] at e; exact absurd e (by decide)) H
        replace H := zif_f (fun e => by rw [ex] at e; exact absurd e (by decide)) H
        replace H := zif_f (fun e => by rw [ex] at e; exact absurd e (by decide)) H
        replace H := zif_f (fun e => by rw [ex] at e; exact absurd e (by decide)) H
        replace H := zif_f (fun e => by rw [ex] at e; exact absurd e (by decide)) H
        replace H := zif_f (fun e => by rw [ex] at e; exact absurd e (by decide)) H
        replace H := zif_f (fun e => by rw [ex] at e; exact absurd e (by decide)) H
        replace H := zif_f (fun e => by rw [ex] at e; exact absurd e (by decide)) H
        replace H := zif_f (fun e => by rw [ex] at e; exact absurd e (by decide)) H
        replace H := zif_t ex H
        exact t_qL_law_j1287 (x3 := s.1) (h := s.2) H K
      · have ex : (xs j2) &&& 31 = 27 := zeqI hh (by decide)
        replace H := zif_f (fun e => by rw [ex] at e; exact absurd e (by decide)) H
        replace H := zif_f (fun e => by rw [ex] at e; exact absurd e (by decide)) H
        replace H := zif_f (fun e => by rw [ex] at e; exact absurd e (by decide)) H
        replace H := zif_f (fun e => by rw [ex] at e; exact absurd e (by decide)) H
        replace H := zif_f (fun e => by rw [ex] at e; exact absurd e (by decide)) H
        replace H := zif_f (fun e => by rw [ex] at e; exact absurd e (by decide)) H
        replace H := zif_f (fun e => by rw [ex] at e; exact absurd e (by decide)) H
        replace H := zif_f (fun e => by rw [ex] at e; exact absurd e (by decide)) H
        replace H := zif_f (fun e => by rw [ex] at e; exact absurd e (by decide)) H
        replace H := zif_f (fun e => by rw [ex] at e; exact absurd e (by decide)) H
        replace H := zif_f (fun e => by rw [ex] at e; exact absurd e (by decide)) H
        replace H := zif_f (fun e => by rw [ex] at e; exact absurd e (by decide)) H
        replace H := zif_f (fun e => by rw [ex] at e; exact absurd e (by decide)) H
        replace H := zif_f (fun e => by rw [ex] at e; exact absurd e (by decide)) H
        replace H := zif_f (fun e => by rw [ex] at e; exact absurd e (by decide)) H
        replace H := zif_f (fun e => by rw [ex] at e; exact absurd e (by decide)) H
        replace H := zif_f (fun e => by rw [ex] at e; exact absurd e (by decide)) H
        replace H := zif_f (fun e => by rw [ex] at e; exact absurd e (by decide)) H
        replace H := zif_f (fun e => by rw [ex] at e; exact absurd e (by decide)) H
        replace H := zif_f (fun e => by rw [ex] at e; exact absurd e (by decide)) H
        replace H := zif_f (fun e => by rw [ex] at e; exact absurd e (by decide)) H
        replace H := zif_f (fun e => by rw [ex] at e; exact absurd e (by decide)) H
        replace H := zif_f (fun e => by rw [ex] at e; exact absurd e (by decide)) H
        replace H := zif_f (fun e => by rw [ex] at e; exact absurd e (by decide)) H
        replace H := zif_f (fun e => by rw [ex] at e; exact absurd e (by decide)) H
        replace H := zif_f (fun e => by rw [ex] at e; exact absurd e (by decide)) H
        replace H := zif_f (fun e => by rw [ex] at e; exact absurd e (by decide)) H
        replace H := zif_t ex H
        exact t_qL_law_j1346 (x3 := s.1) (h := s.2) H K
      · have ex : (xs j2) &&& 31 = 28 := zeqI hh (by decide)
        replace H := zif_f (fun e => by rw [ex] at e; exact absurd e (by decide)) H
        replace H := zif_f (fun e => by rw [ex] at e; exact absurd e (by decide)) H
        replace H := zif_f (fun e => by rw [ex] at e; exact absurd e (by decide)) H
        replace H := zif_f (fun e => by rw [ex] at e; exact absurd e (by decide)) H
        replace H := zif_f (fun e => by rw [ex] at e; exact absurd e (by decide)) H
        replace H := zif_f (fun e => by rw [ex] at e; exact absurd e (by decide)) H
        replace H := zif_f (fun e => by rw [ex] at e; exact absurd e (by decide)) H
        replace H := zif_f (fun e => by rw [ex] at e; exact absurd e (by decide)) H
        replace H := zif_f (fun e => by rw [ex] at e; exact absurd e (by decide)) H
        replace H := zif_f (fun e => by rw [ex] at e; exact absurd e (by decide)) H
        replace H := zif_f (fun e => by rw [ex] at e; exact absurd e (by decide)) H
        replace H := zif_f (fun e => by rw [ex] at e; exact absurd e (by decide)) H
        replace H := zif_f (fun e => by rw [ex] at e; exact absurd e (by decide)) H
        replace H := zif_f (fun e => by rw [ex] at e; exact absurd e (by decide)) H
        replace H := zif_f (fun e => by rw [ex] at e; exact absurd e (by decide)) H
        replace H := zif_f (fun e => by rw [ex] at e; exact absurd e (by decide)) H
        replace H := zif_f (fun e => by rw [ex] at e; exact absurd e (by decide)) H
        replace H := zif_f (fun e => by rw [ex] at e; exact absurd e (by decide)) H
        replace H := zif_f (fun e => by rw [ex] at e; exact absurd e (by decide)) H
        replace H := zif_f (fun e => by rw [ex] at e; exact absurd e (by decide)) H
        replace H := zif_f (fun e => by rw [ex] at e; exact absurd e (by decide)) H
        replace H := zif_f (fun e => by rw [ex] at e; exact absurd e (by decide)) H
        replace H := zif_f (fun e => by rw [ex] at e; exact absurd e (by decide)) H
        replace H := zif_f (fun e => by rw [ex] at e; exact absurd e (by decide)) H
        replace H := zif_f (fun e => by rw [ex] at e; exact absurd e (by decide)) H
        replace H := zif_f (fun e => by rw [ex] at e; exact absurd e (by decide)) H
        replace H := zif_f (fun e => by rw [ex] at e; exact absurd e (by decide)) H
        replace H := zif_f (fun e => by rw [ex] at e; exact absurd e (by decide)) H
        replace H := zif_t ex H
        exact t_qL_law_j1369 (x3 := s.1) (h := s.2) H K
      · have ex : (xs j2) &&& 31 = 29 := zeqI hh (by decide)
        replace H := zif_f (fun e => by rw [ex] at e; exact absurd e (by decide)) H
        replace H := zif_f (fun e => by rw [ex] at e; exact absurd e (by decide)) H
        replace H := zif_f (fun e => by rw [ex] at e; exact absurd e (by decide)) H
        replace H := zif_f (fun e => by rw [ex] at e; exact absurd e (by decide)) H
        replace H := zif_f (fun e => by rw [ex] at e; exact absurd e (by decide)) H
        replace H := zif_f (fun e => by rw [ex] at e; exact absurd e (by decide)) H
        replace H := zif_f (fun e => by rw [ex] at e; exact absurd e (by decide)) H
        replace H := zif_f (fun e => by rw [ex] at e; exact absurd e (by decide)) H
        replace H := zif_f (fun e => by rw [ex] at e; exact absurd e (by decide)) H
        replace H := zif_f (fun e => by rw [ex] at e; exact absurd e (by decide)) H
        replace H := zif_f (fun e => by rw [ex] at e; exact absurd e (by decide)) H
        replace H := zif_f (fun e => by rw [ex] at e; exact absurd e (by decide)) H
        replace H := zif_f (fun e => by rw [ex] at e; exact absurd e (by decide)) H
        replace H := zif_f (fun e => by rw [ex] at e; exact absurd e (by decide)) H
        replace H := zif_f (fun e => by rw [ex] at e; exact absurd e (by decide)) H
        replace H := zif_f (fun e => by rw [ex] at e; exact absurd e (by decide)) H
        replace H := zif_f (fun e => by rw [ex] at e; exact absurd e (by decide)) H
        replace H := zif_f (fun e => by rw [ex] at e; exact absurd e (by decide)) H
        replace H := zif_f (fun e => by rw [ex] at e; exact absurd e (by decide)) H
        replace H := zif_f (fun e => by rw [ex] at e; exact absurd e (by decide)) H
        replace H := zif_f (fun e => by rw [ex] at e; exact absurd e (by decide)) H
        replace H := zif_f (fun e => by rw [ex] at e; exact absurd e (by decide)) H
        replace H := zif_f (fun e => by rw [ex] at e; exact absurd e (by decide)) H
        replace H := zif_f (fun e => by rw [ex] at e; exact absurd e (by decide)) H
        replace H := zif_f (fun e => by rw [ex] at e; exact absurd e (by decide)) H
        replace H := zif_f (fun e => by rw [ex] at e; exact absurd e (by decide)) H
        replace H := zif_f (fun e => by rw [ex] at e; exact absurd e (by decide)) H
        replace H := zif_f (fun e => by rw [ex] at e; exact absurd e (by decide)) H
        replace H := zif_f (fun e => by rw [ex] at e; exact absurd e (by decide)) H
        replace H := zif_t ex H
        exact t_qL_law_j1392 (x3 := s.1) (h := s.2) H K
set_option maxRecDepth 20000 in
theorem t_qL_law_b18 {Ls : Nat} {xs : Nat → Int32} {d : Nat} {r : zA} {t : (zK) ⊕ (Int32 × zK)} (K : (match (generalizing := false) t with | .inl v => ∀ (z3 : Option Value), zEv (zXs Ls xs) (d + 14) zm_286 (1421, [some (.ref (zro + 0)), some (.ref 0), some (.ref 215), z3], [], zhp v) r | .inr p => (some (.int p.1), zhp p.2) = r)) (n : Nat) (s : Int32 × zK) (H : zloop (qL_law_b18 Ls xs) n s = some t) : zEv (zXs Ls xs) (d + 14) zm_286 (18, [some (.ref (zro + 0)), some (.ref 0), some (.ref 215), some (.int s.1)], [], zhp s.2) r := by
  have Z := zloop_P (P := fun s => zEv (zXs Ls xs) (d + 14) zm_286 (18, [some (.ref (zro + 0)), some (.ref 0), some (.ref 215), some (.int s.1)], [], zhp s.2) r) (b := qL_law_b18 Ls xs) (t := t) (fun s s2 hb hk => by exact t_qL_law_b18b hb hk) (fun s hb => by rcases t with v | p <;> (exact t_qL_law_b18b hb K)) n s H
  exact Z
set_option maxRecDepth 20000 in
def qL_law (Ls : Nat) (xs : Nat → Int32) (h : zK) : Option (Int32 × zK) :=
  (zloop (qL_law_b18 Ls xs) zfu (0, h)).bind fun t192 => match t192 with
  | .inr p => some p
  | .inl v193 =>
    some (1, v193)
set_option maxRecDepth 20000 in
theorem t_qL_law {Ls : Nat} {xs : Nat → Int32} {d : Nat} {h : zK} {p : Int32 × zK} (H : qL_law Ls xs h = some p) : zEv (zXs Ls xs) (d + 14) zm_286 (18, [some (.ref (zro + 0)), some (.ref 0), some (.ref 215), some (.int 0)], [], zhp h) (some (.int p.1), zhp p.2) := by
  unfold qL_law at H
  obtain ⟨t192, ht192, H⟩ := zbs H
  refine t_qL_law_b18 ?_ zfu _ ht192
  rcases t192 with v193 | p
  · intro y3
    dsimp only at H
    refine zEv_k 1 (f' := (1422, [some (.ref (zro + 0)), some (.ref 0), some (.ref 215), y3], [.int 1], zhp v193)) rfl ?_
    cases H
    exact zEv_r rfl
  · cases H
    exact rfl
