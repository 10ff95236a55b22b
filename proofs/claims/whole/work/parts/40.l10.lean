def qT_become_b56 (oo : Nat) (oq : Nat) (s : Int32 × zK) : Option ((Int32 × zK) ⊕ (zK)) :=
  if 2 ≤ s.1 then
    some (.inr s.2)
  else
    (zix s.1 2).bind fun j9 =>
    zlet (zaa (oo + 3) j9) fun a10 =>
    zlet (zaa (oq + 3) j9) fun a11 =>
    if (a10 = 7 ∧ a11 = 44) ∨ (a10 = 22 ∧ a11 = 59) ∨ (a10 = 7 ∧ a11 = 80) ∨ (a10 = 22 ∧ a11 = 95) ∨ (a10 = 7 ∧ a11 = 116) ∨ (a10 = 22 ∧ a11 = 131) ∨ (a10 = 44 ∧ a11 = 7) ∨ (a10 = 59 ∧ a11 = 22) ∨ (a10 = 80 ∧ a11 = 7) ∨ (a10 = 95 ∧ a11 = 22) ∨ (a10 = 116 ∧ a11 = 7) ∨ (a10 = 131 ∧ a11 = 22) ∨ (a10 = 7 ∧ a11 = 148) ∨ (a10 = 22 ∧ a11 = 148) then
      (qCe_become a10 a11 s.2).bind fun p13 =>
      zlet (zaa (oo + 4) j9) fun a14 =>
      zlet (zaa (oq + 4) j9) fun a15 =>
      if (a14 = 15 ∧ a15 = 52) ∨ (a14 = 30 ∧ a15 = 67) ∨ (a14 = 15 ∧ a15 = 88) ∨ (a14 = 30 ∧ a15 = 103) ∨ (a14 = 15 ∧ a15 = 124) ∨ (a14 = 30 ∧ a15 = 139) ∨ (a14 = 52 ∧ a15 = 15) ∨ (a14 = 67 ∧ a15 = 30) ∨ (a14 = 88 ∧ a15 = 15) ∨ (a14 = 103 ∧ a15 = 30) ∨ (a14 = 124 ∧ a15 = 15) ∨ (a14 = 139 ∧ a15 = 30) ∨ (a14 = 15 ∧ a15 = 156) ∨ (a14 = 30 ∧ a15 = 156) then
        (qDe_become a14 a15 p13).bind fun p17 =>
        zlet (zaa (oo + 5) j9) fun a18 =>
        zlet (zaa (oq + 5) j9) fun a19 =>
        if (a18 = 19 ∧ a19 = 56) ∨ (a18 = 34 ∧ a19 = 71) ∨ (a18 = 19 ∧ a19 = 92) ∨ (a18 = 34 ∧ a19 = 107) ∨ (a18 = 19 ∧ a19 = 128) ∨ (a18 = 34 ∧ a19 = 143) ∨ (a18 = 56 ∧ a19 = 19) ∨ (a18 = 71 ∧ a19 = 34) ∨ (a18 = 92 ∧ a19 = 19) ∨ (a18 = 107 ∧ a19 = 34) ∨ (a18 = 128 ∧ a19 = 19) ∨ (a18 = 143 ∧ a19 = 34) ∨ (a18 = 19 ∧ a19 = 160) ∨ (a18 = 34 ∧ a19 = 160) then
          (qLo_become a18 a19 p17).bind fun p21 =>
          some (.inl (s.1 + 1, p21))
        else none
      else none
    else none
theorem t_qT_become_b56b {Ls : Nat} {xs : Nat → Int32} {d : Nat} {oo : Nat} {oq : Nat} {r : zA} {s : Int32 × zK} {e : (Int32 × zK) ⊕ (zK)} (ho : (oo = 1 ∧ oq = 38) ∨ (oo = 1 ∧ oq = 74) ∨ (oo = 1 ∧ oq = 110) ∨ (oo = 38 ∧ oq = 1) ∨ (oo = 74 ∧ oq = 1) ∨ (oo = 110 ∧ oq = 1)) (H : qT_become_b56 oo oq s = some e) (K : match (generalizing := false) e with | .inl s' => zEv (zXs Ls xs) (d + 1) zm_94 (56, [some (.ref oo), some (.ref oq), some (.int s'.1)], [], zhp s'.2) r | .inr v => ∀ (z2 : Option Value), zEv (zXs Ls xs) (d + 1) zm_94 (112, [some (.ref oo), some (.ref oq), z2], [], zhp v) r) : zEv (zXs Ls xs) (d + 1) zm_94 (56, [some (.ref oo), some (.ref oq), some (.int s.1)], [], zhp s.2) r := by
  unfold qT_become_b56 at H
  rcases ho with ⟨rfl, rfl⟩ | ⟨rfl, rfl⟩ | ⟨rfl, rfl⟩ | ⟨rfl, rfl⟩ | ⟨rfl, rfl⟩ | ⟨rfl, rfl⟩
  · refine zEv_k 3 (f' := (if 2 ≤ s.1 then 112 else 61, [some (.ref 1), some (.ref 38), some (.int s.1)], [], zhp s.2)) rfl (zEv_if (fun c8 => ?_) (fun c8 => ?_))
    · replace H := zif_t c8 H
      cases H
      exact K _
    · replace H := zif_f c8 H
      refine zEv_k 1 (f' := (62, [some (.ref 1), some (.ref 38), some (.int s.1)], [.ref 1], zhp s.2)) rfl ?_
      refine zRgr rfl rfl rfl (by decide) (b := 1 + 3) rfl ?_
      refine zEv_k 1 (f' := (66, [some (.ref 1), some (.ref 38), some (.int s.1)], [.int s.1, .ref (1 + 3)], zhp s.2)) rfl ?_
      obtain ⟨j9, hj9, H⟩ := zbs H
      refine zRaa rfl rfl (by decide) hj9 (by decide) ?_
      refine zEv_k 1 (f' := (68, [some (.ref 1), some (.ref 38), some (.int s.1)], [.ref 38, .ref (zaa (1 + 3) j9)], zhp s.2)) rfl ?_
      refine zRgr rfl rfl rfl (by decide) (b := 38 + 3) rfl ?_
      refine zEv_k 1 (f' := (72, [some (.ref 1), some (.ref 38), some (.int s.1)], [.int s.1, .ref (38 + 3), .ref (zaa (1 + 3) j9)], zhp s.2)) rfl ?_
      refine zRaa rfl rfl (by decide) hj9 (by decide) ?_
      obtain ⟨a10, ea10, H⟩ := zlets H
      rw [ea10]
      obtain ⟨a11, ea11, H⟩ := zlets H
      rw [ea11]
      obtain ⟨c12, H⟩ := zifn H
      obtain ⟨p13, hp13, H⟩ := zbs H
      refine zEv_c (mid := 2) (args := [.ref a10, .ref a11]) (rest := []) (ret := none) (fun _ => by rcases c12 with ⟨rfl, rfl⟩ | ⟨rfl, rfl⟩ | ⟨rfl, rfl⟩ | ⟨rfl, rfl⟩ | ⟨rfl, rfl⟩ | ⟨rfl, rfl⟩ | ⟨rfl, rfl⟩ | ⟨rfl, rfl⟩ | ⟨rfl, rfl⟩ | ⟨rfl, rfl⟩ | ⟨rfl, rfl⟩ | ⟨rfl, rfl⟩ | ⟨rfl, rfl⟩ | ⟨rfl, rfl⟩ <;> rfl) rfl (t_qCe_become (oo := a10) (oq := a11) (h := s.2) (d := d) c12 hp13) rfl rfl ?_
      refine zEv_k 1 (f' := (77, [some (.ref 1), some (.ref 38), some (.int s.1)], [.ref 1], zhp p13)) rfl ?_
      refine zRgr rfl rfl rfl (by decide) (b := 1 + 4) rfl ?_
      refine zEv_k 1 (f' := (81, [some (.ref 1), some (.ref 38), some (.int s.1)], [.int s.1, .ref (1 + 4)], zhp p13)) rfl ?_
      refine zRaa rfl rfl (by decide) hj9 (by decide) ?_
      refine zEv_k 1 (f' := (83, [some (.ref 1), some (.ref 38), some (.int s.1)], [.ref 38, .ref (zaa (1 + 4) j9)], zhp p13)) rfl ?_
      refine zRgr rfl rfl rfl (by decide) (b := 38 + 4) rfl ?_
      refine zEv_k 1 (f' := (87, [some (.ref 1), some (.ref 38), some (.int s.1)], [.int s.1, .ref (38 + 4), .ref (zaa (1 + 4) j9)], zhp p13)) rfl ?_
      refine zRaa rfl rfl (by decide) hj9 (by decide) ?_
      obtain ⟨a14, ea14, H⟩ := zlets H
      rw [ea14]
      obtain ⟨a15, ea15, H⟩ := zlets H
      rw [ea15]
      obtain ⟨c16, H⟩ := zifn H
      obtain ⟨p17, hp17, H⟩ := zbs H
      refine zEv_c (mid := 11) (args := [.ref a14, .ref a15]) (rest := []) (ret := none) (fun _ => by rcases c16 with ⟨rfl, rfl⟩ | ⟨rfl, rfl⟩ | ⟨rfl, rfl⟩ | ⟨rfl, rfl⟩ | ⟨rfl, rfl⟩ | ⟨rfl, rfl⟩ | ⟨rfl, rfl⟩ | ⟨rfl, rfl⟩ | ⟨rfl, rfl⟩ | ⟨rfl, rfl⟩ | ⟨rfl, rfl⟩ | ⟨rfl, rfl⟩ | ⟨rfl, rfl⟩ | ⟨rfl, rfl⟩ <;> rfl) rfl (t_qDe_become (oo := a14) (oq := a15) (h := p13) (d := d) c16 hp17) rfl rfl ?_
      refine zEv_k 1 (f' := (92, [some (.ref 1), some (.ref 38), some (.int s.1)], [.ref 1], zhp p17)) rfl ?_
      refine zRgr rfl rfl rfl (by decide) (b := 1 + 5) rfl ?_
      refine zEv_k 1 (f' := (96, [some (.ref 1), some (.ref 38), some (.int s.1)], [.int s.1, .ref (1 + 5)], zhp p17)) rfl ?_
      refine zRaa rfl rfl (by decide) hj9 (by decide) ?_
      refine zEv_k 1 (f' := (98, [some (.ref 1), some (.ref 38), some (.int s.1)], [.ref 38, .ref (zaa (1 + 5) j9)], zhp p17)) rfl ?_
      refine zRgr rfl rfl rfl (by decide) (b := 38 + 5) rfl ?_
      refine zEv_k 1 (f' := (102, [some (.ref 1), some (.ref 38), some (.int s.1)], [.int s.1, .ref (38 + 5), .ref (zaa (1 + 5) j9)], zhp p17)) rfl ?_
      refine zRaa rfl rfl (by decide) hj9 (by decide) ?_
      obtain ⟨a18, ea18, H⟩ := zlets H
      rw [ea18]
      obtain ⟨a19, ea19, H⟩ := zlets H
      rw [ea19]
      obtain ⟨c20, H⟩ := zifn H
      obtain ⟨p21, hp21, H⟩ := zbs H
      refine zEv_c (mid := 37) (args := [.ref a18, .ref a19]) (rest := []) (ret := none) (fun _ => by rcases c20 with ⟨rfl, rfl⟩ | ⟨rfl, rfl⟩ | ⟨rfl, rfl⟩ | ⟨rfl, rfl⟩ | ⟨rfl, rfl⟩ | ⟨rfl, rfl⟩ | ⟨rfl, rfl⟩ | ⟨rfl, rfl⟩ | ⟨rfl, rfl⟩ | ⟨rfl, rfl⟩ | ⟨rfl, rfl⟩ | ⟨rfl, rfl⟩ | ⟨rfl, rfl⟩ | ⟨rfl, rfl⟩ <;> rfl) rfl (t_qLo_become (oo := a18) (oq := a19) (h := p17) (d := d) c20 hp21) rfl rfl ?_
      refine zEv_k 2 (f' := (56, [some (.ref 1), some (.ref 38), some (.int (s.1 + 1))], [], zhp p21)) rfl ?_
      cases H
      exact K
  · refine zEv_k 3 (f' := (if 2 ≤ s.1 then 112 else 61, [some (.ref 1), some (.ref 74), some (.int s.1)], [], zhp s.2)) rfl (zEv_if (fun c8 => ?_) (fun c8 => ?_))
    · replace H := zif_t c8 H
      cases H
      exact K _
    · replace H := zif_f c8 H
      refine zEv_k 1 (f' := (62, [some (.ref 1), some (.ref 74), some (.int s.1)], [.ref 1], zhp s.2)) rfl ?_
      refine zRgr rfl rfl rfl (by decide) (b := 1 + 3) rfl ?_
      refine zEv_k 1 (f' := (66, [some (.ref 1), some (.ref 74), some (.int s.1)], [.int s.1, .ref (1 + 3)], zhp s.2)) rfl ?_
      obtain ⟨j9, hj9, H⟩ := zbs H
      refine zRaa rfl rfl (by decide) hj9 (by decide) ?_
      refine zEv_k 1 (f' := (68, [some (.ref 1), some (.ref 74), some (.int s.1)], [.ref 74, .ref (zaa (1 + 3) j9)], zhp s.2)) rfl ?_
      refine zRgr rfl rfl rfl (by decide) (b := 74 + 3) rfl ?_
      refine zEv_k 1 (f' := (72, [some (.ref 1), some (.ref 74), some (.int s.1)], [.int s.1, .ref (74 + 3), .ref (zaa (1 + 3) j9)], zhp s.2)) rfl ?_
      refine zRaa rfl rfl (by decide) hj9 (by decide) ?_
      obtain ⟨a10, ea10, H⟩ := zlets H
      rw [ea10]
      obtain ⟨a11, ea11, H⟩ := zlets H
      rw [ea11]
      obtain ⟨c12, H⟩ := zifn H
      obtain ⟨p13, hp13, H⟩ := zbs H
      refine zEv_c (mid := 2) (args := [.ref a10, .ref a11]) (rest := []) (ret := none) (fun _ => by rcases c12 with ⟨rfl, rfl⟩ | ⟨rfl, rfl⟩ | ⟨rfl, rfl⟩ | ⟨rfl, rfl⟩ | ⟨rfl, rfl⟩ | ⟨rfl, rfl⟩ | ⟨rfl, rfl⟩ | ⟨rfl, rfl⟩ | ⟨rfl, rfl⟩ | ⟨rfl, rfl⟩ | ⟨rfl, rfl⟩ | ⟨rfl, rfl⟩ | ⟨rfl, rfl⟩ | ⟨rfl, rfl⟩ <;> rfl) rfl (t_qCe_become (oo := a10) (oq := a11) (h := s.2) (d := d) c12 hp13) rfl rfl ?_
      refine zEv_k 1 (f' := (77, [some (.ref 1), some (.ref 74), some (.int s.1)], [.ref 1], zhp p13)) rfl ?_
      refine zRgr rfl rfl rfl (by decide) (b := 1 + 4) rfl ?_
      refine zEv_k 1 (f' := (81, [some (.ref 1), some (.ref 74), some (.int s.1)], [.int s.1, .ref (1 + 4)], zhp p13)) rfl ?_
      refine zRaa rfl rfl (by decide) hj9 (by decide) ?_
      refine zEv_k 1 (f' := (83, [some (.ref 1), some (.ref 74), some (.int s.1)], [.ref 74, .ref (zaa (1 + 4) j9)], zhp p13)) rfl ?_
      refine zRgr rfl rfl rfl (by decide) (b := 74 + 4) rfl ?_
      refine zEv_k 1 (f' := (87, [some (.ref 1), some (.ref 74), some (.int s.1)], [.int s.1, .ref (74 + 4), .ref (zaa (1 + 4) j9)], zhp p13)) rfl ?_
      refine zRaa rfl rfl (by decide) hj9 (by decide) ?_
      obtain ⟨a14, ea14, H⟩ := zlets H
      rw [ea14]
      obtain ⟨a15, ea15, H⟩ := zlets H
      rw [ea15]
      obtain ⟨c16, H⟩ := zifn H
      obtain ⟨p17, hp17, H⟩ := zbs H
      refine zEv_c (mid := 11) (args := [.ref a14, .ref a15]) (rest := []) (ret := none) (fun _ => by rcases c16 with ⟨rfl, rfl⟩ | ⟨rfl, rfl⟩ | ⟨rfl, rfl⟩ | ⟨rfl, rfl⟩ | ⟨rfl, rfl⟩ | ⟨rfl, rfl⟩ | ⟨rfl, rfl⟩ | ⟨rfl, rfl⟩ | ⟨rfl, rfl⟩ | ⟨rfl, rfl⟩ | ⟨rfl, rfl⟩ | ⟨rfl, rfl⟩ | ⟨rfl, rfl⟩ | ⟨rfl, rfl⟩ <;> rfl) rfl (t_qDe_become (oo := a14) (oq := a15) (h := p13) (d := d) c16 hp17) rfl rfl ?_
      refine zEv_k 1 (f' := (92, [some (.ref 1), some (.ref 74), some (.int s.1)], [.ref 1], zhp p17)) rfl ?_
      refine zRgr rfl rfl rfl (by decide) (b := 1 + 5) rfl ?_
      refine zEv_k 1 (f' := (96, [some (.ref 1), some (.ref 74), some (.int s.1)], [.int s.1, .ref (1 + 5)], zhp p17)) rfl ?_
      refine zRaa rfl rfl (by decide) hj9 (by decide) ?_
      refine zEv_k 1 (f' := (98, [some (.ref 1), some (.ref 74), some (.int s.1)], [.ref 74, .ref (zaa (1 + 5) j9)], zhp p17)) rfl ?_
      refine zRgr rfl rfl rfl (by decide) (b := 74 + 5) rfl ?_
      refine zEv_k 1 (f' := (102, [some (.ref 1), some (.ref 74), some (.int s.1)], [.int s.1, .ref (74 + 5), .ref (zaa (1 + 5) j9)], zhp p17)) rfl ?_
      refine zRaa rfl rfl (by decide) hj9 (by decide) ?_
      obtain ⟨a18, ea18, H⟩ := zlets H
      rw [ea18]
      obtain ⟨a19, ea19, H⟩ := zlets H
      rw [ea19]
      obtain ⟨c20, H⟩ := zifn H
      obtain ⟨p21, hp21, H⟩ := zbs H
      refine zEv_c (mid := 37) (args := [.ref a18, .ref a19]) (rest := []) (ret := none) (fun _ => by rcases c20 with ⟨rfl, rfl⟩ | ⟨rfl, rfl⟩ | ⟨rfl, rfl⟩ | ⟨rfl, rfl⟩ | ⟨rfl, rfl⟩ | ⟨rfl, rfl⟩ | ⟨rfl, rfl⟩ | ⟨rfl, rfl⟩ | ⟨rfl, rfl⟩ | ⟨rfl, rfl⟩ | ⟨rfl, rfl⟩ | ⟨rfl, rfl⟩ | ⟨rfl, rfl⟩ | ⟨rfl, rfl⟩ <;> rfl) rfl (t_qLo_become (oo := a18) (oq := a19) (h := p17) (d := d) c20 hp21) rfl rfl ?_
      refine zEv_k 2 (f' := (56, [some (.ref 1), some (.ref 74), some (.int (s.1 + 1))], [], zhp p21)) rfl ?_
      cases H
      exact K
  · refine zEv_k 3 (f' := (if 2 ≤ s.1 then 112 else 61, [some (.ref 1), some (.ref 110), some (.int s.1)], [], zhp s.2)) rfl (zEv_if (fun c8 => ?_) (fun c8 => ?_))
    · replace H := zif_t c8 H
      cases H
      exact K _
    · replace H := zif_f c8 H
      refine zEv_k 1 (f' := (62, [some (.ref 1), some (.ref 110), some (.int s.1)], [.ref 1], zhp s.2)) rfl ?_
      refine zRgr rfl rfl rfl (by decide) (b := 1 + 3) rfl ?_
      refine zEv_k 1 (f' := (66, [some (.ref 1), some (.ref 110), some (.int s.1)], [.int s.1, .ref (1 + 3)], zhp s.2)) rfl ?_
      obtain ⟨j9, hj9, H⟩ := zbs H
      refine zRaa rfl rfl (by decide) hj9 (by decide) ?_
      refine zEv_k 1 (f' := (68, [some (.ref 1), some (.ref 110), some (.int s.1)], [.ref 110, .ref (zaa (1 + 3) j9)], zhp s.2)) rfl ?_
      refine zRgr rfl rfl rfl (by decide) (b := 110 + 3) rfl ?_
      refine zEv_k 1 (f' := (72, [some (.ref 1), some (.ref 110), some (.int s.1)], [.int s.1, .ref (110 + 3), .ref (zaa (1 + 3) j9)], zhp s.2)) rfl ?_
      refine zRaa rfl rfl (by decide) hj9 (by decide) ?_
      obtain ⟨a10, ea10, H⟩ := zlets H
      rw [ea10]
      obtain ⟨a11, ea11, H⟩ := zlets H
      rw [ea11]
      obtain ⟨c12, H⟩ := zifn H
      obtain ⟨p13, hp13, H⟩ := zbs H
      refine zEv_c (mid := 2) (args := [.ref a10, .ref a11]) (rest := []) (ret := none) (fun _ => by rcases c12 with ⟨rfl, rfl⟩ | ⟨rfl, rfl⟩ | ⟨rfl, rfl⟩ | ⟨rfl, rfl⟩ | ⟨rfl, rfl⟩ | ⟨rfl, rfl⟩ | ⟨rfl, rfl⟩ | ⟨rfl, rfl⟩ | ⟨rfl, rfl⟩ | ⟨rfl, rfl⟩ | ⟨rfl, rfl⟩ | ⟨rfl, rfl⟩ | ⟨rfl, rfl⟩ | ⟨rfl, rfl⟩ <;> rfl) rfl (t_qCe_become (oo := a10) (oq := a11) (h := s.2) (d := d) c12 hp13) rfl rfl ?_
      refine zEv_k 1 (f' := (77, [some (.ref 1), some (.ref 110), some (.int s.1)], [.ref 1], zhp p13)) rfl ?_
      refine zRgr rfl rfl rfl (by decide) (b := 1 + 4) rfl ?_
      refine zEv_k 1 (f' := (81, [some (.ref 1), some (.ref 110), some (.int s.1)], [.int s.1, .ref (1 + 4)], zhp p13)) rfl ?_
      refine zRaa rfl rfl (by decide) hj9 (by decide) ?_
      refine zEv_k 1 (f' := (83, [some (.ref 1), some (.ref 110), some (.int s.1)], [.ref 110, .ref (zaa (1 + 4) j9)], zhp p13)) rfl ?_
      refine zRgr rfl rfl rfl (by decide) (b := 110 + 4) rfl ?_
      refine zEv_k 1 (f' := (87, [some (.ref 1), some (.ref 110), some (.int s.1)], [.int s.1, .ref (110 + 4), .ref (zaa (1 + 4) j9)], zhp p13)) rfl ?_
      refine zRaa rfl rfl (by decide) hj9 (by decide) ?_
      obtain ⟨a14, ea14, H⟩ := zlets H
      rw [ea14]
      obtain ⟨a15, ea15, H⟩ := zlets H
      rw [ea15]
      obtain ⟨c16, H⟩ := zifn H
      obtain ⟨p17, hp17, H⟩ := zbs H
      refine zEv_c (mid := 11) (args := [.ref a14, .ref a15]) (rest := []) (ret := none) (fun _ => by rcases c16 with ⟨rfl, rfl⟩ | ⟨rfl, rfl⟩ | ⟨rfl, rfl⟩ | ⟨rfl, rfl⟩ | ⟨rfl, rfl⟩ | ⟨rfl, rfl⟩ | ⟨rfl, rfl⟩ | ⟨rfl, rfl⟩ | ⟨rfl, rfl⟩ | ⟨rfl, rfl⟩ | ⟨rfl, rfl⟩ | ⟨rfl, rfl⟩ | ⟨rfl, rfl⟩ | ⟨rfl, rfl⟩ <;> rfl) rfl (t_qDe_become (oo := a14) (oq := a15) (h := p13) (d := d) c16 hp17) rfl rfl ?_
      refine zEv_k 1 (f' := (92, [some (.ref 1), some (.ref 110), some (.int s.1)], [.ref 1], zhp p17)) rfl ?_
      refine zRgr rfl rfl rfl (by decide) (b := 1 + 5) rfl ?_
      refine zEv_k 1 (f' := (96, [some (.ref 1), some (.ref 110), some (.int s.1)], [.int s.1, .ref (1 + 5)], zhp p17)) rfl ?_
      refine zRaa rfl rfl (by decide) hj9 (by decide) ?_
      refine zEv_k 1 (f' := (98, [some (.ref 1), some (.ref 110), some (.int s.1)], [.ref 110, .ref (zaa (1 + 5) j9)], zhp p17)) rfl ?_
      refine zRgr rfl rfl rfl (by decide) (b := 110 + 5) rfl ?_
      refine zEv_k 1 (f' := (102, [some (.ref 1), some (.ref 110), some (.int s.1)], [.int s.1, .ref (110 + 5), .ref (zaa (1 + 5) j9)], zhp p17)) rfl ?_
      refine zRaa rfl rfl (by decide) hj9 (by decide) ?_
      obtain ⟨a18, ea18, H⟩ := zlets H
      rw [ea18]
      obtain ⟨a19, ea19, H⟩ := zlets H
      rw [ea19]
      obtain ⟨c20, H⟩ := zifn H
      obtain ⟨p21, hp21, H⟩ := zbs H
      refine zEv_c (mid := 37) (args := [.ref a18, .ref a19]) (rest := []) (ret := none) (fun _ => by rcases c20 with ⟨rfl, rfl⟩ | ⟨rfl, rfl⟩ | ⟨rfl, rfl⟩ | ⟨rfl, rfl⟩ | ⟨rfl, rfl⟩ | ⟨rfl, rfl⟩ | ⟨rfl, rfl⟩ | ⟨rfl, rfl⟩ | ⟨rfl, rfl⟩ | ⟨rfl, rfl⟩ | ⟨rfl, rfl⟩ | ⟨rfl, rfl⟩ | ⟨rfl, rfl⟩ | ⟨rfl, rfl⟩ <;> rfl) rfl (t_qLo_become (oo := a18) (oq := a19) (h := p17) (d := d) c20 hp21) rfl rfl ?_
      refine zEv_k 2 (f' := (56, [some (.ref 1), some (.ref 110), some (.int (s.1 + 1))], [], zhp p21)) rfl ?_
      cases H
      exact K
  · refine zEv_k 3 (f' := (if 2 ≤ s.1 then 112 else 61, [some (.ref 38), some (.ref 1), some (.int s.1)], [], zhp s.2)) rfl (zEv_if (fun c8 => ?_) (fun c8 => ?_))
    · replace H := zif_t c8 H
      cases H
      exact K _
    · replace H := zif_f c8 H
      refine zEv_k 1 (f' := (62, [some (.ref 38), some (.ref 1), some (.int s.1)], [.ref 38], zhp s.2)) rfl ?_
      refine zRgr rfl rfl rfl (by decide) (b := 38 + 3) rfl ?_
      refine zEv_k 1 (f' := (66, [some (.ref 38), some (.ref 1), some (.int s.1)], [.int s.1, .ref (38 + 3)], zhp s.2)) rfl ?_
      obtain ⟨j9, hj9, H⟩ := zbs H
      refine zRaa rfl rfl (by decide) hj9 (by decide) ?_
      refine zEv_k 1 (f' := (68, [some (.ref 38), some (.ref 1), some (.int s.1)], [.ref 1, .ref (zaa (38 + 3) j9)], zhp s.2)) rfl ?_
      refine zRgr rfl rfl rfl (by decide) (b := 1 + 3) rfl ?_
      refine zEv_k 1 (f' := (72, [some (.ref 38), some (.ref 1), some (.int s.1)], [.int s.1, .ref (1 + 3), .ref (zaa (38 + 3) j9)], zhp s.2)) rfl ?_
      refine zRaa rfl rfl (by decide) hj9 (by decide) ?_
      obtain ⟨a10, ea10, H⟩ := zlets H
      rw [ea10]
      obtain ⟨a11, ea11, H⟩ := zlets H
      rw [ea11]
      obtain ⟨c12, H⟩ := zifn H
      obtain ⟨p13, hp13, H⟩ := zbs H
      refine zEv_c (mid := 2) (args := [.ref a10, .ref a11]) (rest := []) (ret := none) (fun _ => by rcases c12 with ⟨rfl, rfl⟩ | ⟨rfl, rfl⟩ | ⟨rfl, rfl⟩ | ⟨rfl, rfl⟩ | ⟨rfl, rfl⟩ | ⟨rfl, rfl⟩ | ⟨rfl, rfl⟩ | ⟨rfl, rfl⟩ | ⟨rfl, rfl⟩ | ⟨rfl, rfl⟩ | ⟨rfl, rfl⟩ | ⟨rfl, rfl⟩ | ⟨rfl, rfl⟩ | ⟨rfl, rfl⟩ <;> rfl) rfl (t_qCe_become (oo := a10) (oq := a11) (h := s.2) (d := d) c12 hp13) rfl rfl ?_
      refine zEv_k 1 (f' := (77, [some (.ref 38), some (.ref 1), some (.int s.1)], [.ref 38], zhp p13)) rfl ?_
      refine zRgr rfl rfl rfl (by decide) (b := 38 + 4) rfl ?_
      refine zEv_k 1 (f' := (81, [some (.ref 38), some (.ref 1), some (.int s.1)], [.int s.1, .ref (38 + 4)], zhp p13)) rfl ?_
      refine zRaa rfl rfl (by decide) hj9 (by decide) ?_
      refine zEv_k 1 (f' := (83, [some (.ref 38), some (.ref 1), some (.int s.1)], [.ref 1, .ref (zaa (38 + 4) j9)], zhp p13)) rfl ?_
      refine zRgr rfl rfl rfl (by decide) (b := 1 + 4) rfl ?_
      refine zEv_k 1 (f' := (87, [some (.ref 38), some (.ref 1), some (.int s.1)], [.int s.1, .ref (1 + 4), .ref (zaa (38 + 4) j9)], zhp p13)) rfl ?_
      refine zRaa rfl rfl (by decide) hj9 (by decide) ?_
      obtain ⟨a14, ea14, H⟩ := zlets H
      rw [ea14]
      obtain ⟨a15, ea15, H⟩ := zlets H
      rw [ea15]
      obtain ⟨c16, H⟩ := zifn H
      obtain ⟨p17, hp17, H⟩ := zbs H
      refine zEv_c (mid := 11) (args := [.ref a14, .ref a15]) (rest := []) (ret := none) (fun _ => by rcases c16 with ⟨rfl, rfl⟩ | ⟨rfl, rfl⟩ | ⟨rfl, rfl⟩ | ⟨rfl, rfl⟩ | ⟨rfl, rfl⟩ | ⟨rfl, rfl⟩ | ⟨rfl, rfl⟩ | ⟨rfl, rfl⟩ | ⟨rfl, rfl⟩ | ⟨rfl, rfl⟩ | ⟨rfl, rfl⟩ | ⟨rfl, rfl⟩ | ⟨rfl, rfl⟩ | ⟨rfl, rfl⟩ <;> rfl) rfl (t_qDe_become (oo := a14) (oq := a15) (h := p13) (d := d) c16 hp17) rfl rfl ?_
      refine zEv_k 1 (f' := (92, [some (.ref 38), some (.ref 1), some (.int s.1)], [.ref 38], zhp p17)) rfl ?_
      refine zRgr rfl rfl rfl (by decide) (b := 38 + 5) rfl ?_
      refine zEv_k 1 (f' := (96, [some (.ref 38), some (.ref 1), some (.int s.1)], [.int s.1, .ref (38 + 5)], zhp p17)) rfl ?_
      refine zRaa rfl rfl (by decide) hj9 (by decide) ?_
      refine zEv_k 1 (f' := (98, [some (.ref 38), some (.ref 1), some (.int s.1)], [.ref 1, .ref (zaa (38 + 5) j9)], zhp p17)) rfl ?_
      refine zRgr rfl rfl rfl (by decide) (b := 1 + 5) rfl ?_
      refine zEv_k 1 (f' := (102, [some (.ref 38), some (.ref 1), some (.int s.1)], [.int s.1, .ref (1 + 5), .ref (zaa (38 + 5) j9)], zhp p17)) rfl ?_
      refine zRaa rfl rfl (by decide) hj9 (by decide) ?_
      obtain ⟨a18, ea18, H⟩ := zlets H
      rw [ea18]
      obtain ⟨a19, ea19, H⟩ := zlets H
      rw [ea19]
      obtain ⟨c20, H⟩ := zifn H
      obtain ⟨p21, hp21, H⟩ := zbs H
      refine zEv_c (mid := 37) (args := [.ref a18, .ref a19]) (rest := []) (ret := none) (fun _ => by rcases c20 with ⟨rfl, rfl⟩ | ⟨rfl, rfl⟩ | ⟨rfl, rfl⟩ | ⟨rfl, rfl⟩ | ⟨rfl, rfl⟩ | ⟨rfl, rfl⟩ | ⟨rfl, rfl⟩ | ⟨rfl, rfl⟩ | ⟨rfl, rfl⟩ | ⟨rfl, rfl⟩ | ⟨rfl, rfl⟩ | ⟨rfl, rfl⟩ | ⟨rfl, rfl⟩ | ⟨rfl, rfl⟩ <;> rfl) rfl (t_qLo_become (oo := a18) (oq := a19) (h := p17) (d := d) c20 hp21) rfl rfl ?_
      refine zEv_k 2 (f' := (56, [some (.ref 38), some (.ref 1), some (.int (s.1 + 1))], [], zhp p21)) rfl ?_
      cases H
      exact K
  · refine zEv_k 3 (f' := (if 2 ≤ s.1 then 112 else 61, [some (.ref 74), some (.ref 1), some (.int s.1)], [], zhp s.2)) rfl (zEv_if (fun c8 => ?_) (fun c8 => ?_))
    · replace H := zif_t c8 H
      cases H
      exact K _
    · replace H := zif_f c8 H
      refine zEv_k 1 (f' := (62, [some (.ref 74), some (.ref 1), some (.int s.1)], [.ref 74], zhp s.2)) rfl ?_
      refine zRgr rfl rfl rfl (by decide) (b := 74 + 3) rfl ?_
      refine zEv_k 1 (f' := (66, [some (.ref 74), some (.ref 1), some (.int s.1)], [.int s.1, .ref (74 + 3)], zhp s.2)) rfl ?_
      obtain ⟨j9, hj9, H⟩ := zbs H
      refine zRaa rfl rfl (by decide) hj9 (by decide) ?_
      refine zEv_k 1 (f' := (68, [some (.ref 74), some (.ref 1), some (.int s.1)], [.ref 1, .ref (zaa (74 + 3) j9)], zhp s.2)) rfl ?_
      refine zRgr rfl rfl rfl (by decide) (b := 1 + 3) rfl ?_
      refine zEv_k 1 (f' := (72, [some (.ref 74), some (.ref 1), some (.int s.1)], [.int s.1, .ref (1 + 3), .ref (zaa (74 + 3) j9)], zhp s.2)) rfl ?_
      refine zRaa rfl rfl (by decide) hj9 (by decide) ?_
      obtain ⟨a10, ea10, H⟩ := zlets H
      rw [ea10]
      obtain ⟨a11, ea11, H⟩ := zlets H
      rw [ea11]
      obtain ⟨c12, H⟩ := zifn H
      obtain ⟨p13, hp13, H⟩ := zbs H
      refine zEv_c (mid := 2) (args := [.ref a10, .ref a11]) (rest := []) (ret := none) (fun _ => by rcases c12 with ⟨rfl, rfl⟩ | ⟨rfl, rfl⟩ | ⟨rfl, rfl⟩ | ⟨rfl, rfl⟩ | ⟨rfl, rfl⟩ | ⟨rfl, rfl⟩ | ⟨rfl, rfl⟩ | ⟨rfl, rfl⟩ | ⟨rfl, rfl⟩ | ⟨rfl, rfl⟩ | ⟨rfl, rfl⟩ | ⟨rfl, rfl⟩ | ⟨rfl, rfl⟩ | ⟨rfl, rfl⟩ <;> rfl) rfl (t_qCe_become (oo := a10) (oq := a11) (h := s.2) (d := d) c12 hp13) rfl rfl ?_
      refine zEv_k 1 (f' := (77, [some (.ref 74), some (.ref 1), some (.int s.1)], [.ref 74], zhp p13)) rfl ?_
      refine zRgr rfl rfl rfl (by decide) (b := 74 + 4) rfl ?_
      refine zEv_k 1 (f' := (81, [some (.ref 74), some (.ref 1), some (.int s.1)], [.int s.1, .ref (74 + 4)], zhp p13)) rfl ?_
      refine zRaa rfl rfl (by decide) hj9 (by decide) ?_
      refine zEv_k 1 (f' := (83, [some (.ref 74), some (.ref 1), some (.int s.1)], [.ref 1, .ref (zaa (74 + 4) j9)], zhp p13)) rfl ?_
      refine zRgr rfl rfl rfl (by decide) (b := 1 + 4) rfl ?_
      refine zEv_k 1 (f' := (87, [some (.ref 74), some (.ref 1), some (.int s.1)], [.int s.1, .ref (1 + 4), .ref (zaa (74 + 4) j9)], zhp p13)) rfl ?_
      refine zRaa rfl rfl (by decide) hj9 (by decide) ?_
      obtain ⟨a14, ea14, H⟩ := zlets H
      rw [ea14]
      obtain ⟨a15, ea15, H⟩ := zlets H
      rw [ea15]
      obtain ⟨c16, H⟩ := zifn H
      obtain ⟨p17, hp17, H⟩ := zbs H
      refine zEv_c (mid := 11) (args := [.ref a14, .ref a15]) (rest := []) (ret := none) (fun _ => by rcases c16 with ⟨rfl, rfl⟩ | ⟨rfl, rfl⟩ | ⟨rfl, rfl⟩ | ⟨rfl, rfl⟩ | ⟨rfl, rfl⟩ | ⟨rfl, rfl⟩ | ⟨rfl, rfl⟩ | ⟨rfl, rfl⟩ | ⟨rfl, rfl⟩ | ⟨rfl, rfl⟩ | ⟨rfl, rfl⟩ | ⟨rfl, rfl⟩ | ⟨rfl, rfl⟩ | ⟨rfl, rfl⟩ <;> rfl) rfl (t_qDe_become (oo := a14) (oq := a15) (h := p13) (d := d) c16 hp17) rfl rfl ?_
      refine zEv_k 1 (f' := (92, [some (.ref 74), some (.ref 1), some (.int s.1)], [.ref 74], zhp p17)) rfl ?_
      refine zRgr rfl rfl rfl (by decide) (b := 74 + 5) rfl ?_
      refine zEv_k 1 (f' := (96, [some (.ref 74), some (.ref 1), some (.int s.1)], [.int s.1, .ref (74 + 5)], zhp p17)) rfl ?_
      refine zRaa rfl rfl (by decide) hj9 (by decide) ?_
      refine zEv_k 1 (f' := (98, [some (.ref 74), some (.ref 1), some (.int s.1)], [.ref 1, .ref (zaa (74 + 5) j9)], zhp p17)) rfl ?_
      refine zRgr rfl rfl rfl (by decide) (b := 1 + 5) rfl ?_
      refine zEv_k 1 (f' := (102, [some (.ref 74), some (.ref 1), some (.int s.1)], [.int s.1, .ref (1 + 5), .ref (zaa (74 + 5) j9)], zhp p17)) rfl ?_
      refine zRaa rfl rfl (by decide) hj9 (by decide) ?_
      obtain ⟨a18, ea18, H⟩ := zlets H
      rw [ea18]
      obtain ⟨a19, ea19, H⟩ := zlets H
      rw [ea19]
      obtain ⟨c20, H⟩ := zifn H
      obtain ⟨p21, hp21, H⟩ := zbs H
      refine zEv_c (mid := 37) (args := [.ref a18, .ref a19]) (rest := []) (ret := none) (fun _ => by rcases c20 with ⟨rfl, rfl⟩ | ⟨rfl, rfl⟩ | ⟨rfl, rfl⟩ | ⟨rfl, rfl⟩ | ⟨rfl, rfl⟩ | ⟨rfl, rfl⟩ | ⟨rfl, rfl⟩ | ⟨rfl, rfl⟩ | ⟨rfl, rfl⟩ | ⟨rfl, rfl⟩ | ⟨rfl, rfl⟩ | ⟨rfl, rfl⟩ | ⟨rfl, rfl⟩ | ⟨rfl, rfl⟩ <;> rfl) rfl (t_qLo_become (oo := a18) (oq := a19) (h := p17) (d := d) c20 hp21) rfl rfl ?_
      refine zEv_k 2 (f' := (56, [some (.ref 74), some (.ref 1), some (.int (s.1 + 1))], [], zhp p21)) rfl ?_
      cases H
      exact K
  · refine zEv_k 3 (f' := (if 2 ≤ s.1 then 112 else 61, [some (.ref 110), some (.ref 1), some (.int s.1)], [], zhp s.2)) rfl (zEv_if (fun c8 => ?_) (fun c8 => ?_))
    · replace H := zif_t c8 H
      cases H
      exact K _
    · replace H := zif_f c8 H
      refine zEv_k 1 (f' := (62, [some (.ref 110), some (.ref 1), some (.int s.1)], [.ref 110], zhp s.2)) rfl ?_
      refine zRgr rfl rfl rfl (by decide) (b := 110 + 3) rfl ?_
      refine zEv_k 1 (f' := (66, [some (.ref 110), some (.ref 1), some (.int s.1)], [.int s.1, .ref (110 + 3)], zhp s.2)) rfl ?_
      obtain ⟨j9, hj9, H⟩ := zbs H
      refine zRaa rfl rfl (by decide) hj9 (by decide) ?_
      refine zEv_k 1 (f' := (68, [some (.ref 110), some (.ref 1), some (.int s.1)], [.ref 1, .ref (zaa (110 + 3) j9)], zhp s.2)) rfl ?_
      refine zRgr rfl rfl rfl (by decide) (b := 1 + 3) rfl ?_
      refine zEv_k 1 (f' := (72, [some (.ref 110), some (.ref 1), some (.int s.1)], [.int s.1, .ref (1 + 3), .ref (zaa (110 + 3) j9)], zhp s.2)) rfl ?_
      refine zRaa rfl rfl (by decide) hj9 (by decide) ?_
      obtain ⟨a10, ea10, H⟩ := zlets H
      rw [ea10]
      obtain ⟨a11, ea11, H⟩ := zlets H
      rw [ea11]
      obtain ⟨c12, H⟩ := zifn H
      obtain ⟨p13, hp13, H⟩ := zbs H
      refine zEv_c (mid := 2) (args := [.ref a10, .ref a11]) (rest := []) (ret := none) (fun _ => by rcases c12 with ⟨rfl, rfl⟩ | ⟨rfl, rfl⟩ | ⟨rfl, rfl⟩ | ⟨rfl, rfl⟩ | ⟨rfl, rfl⟩ | ⟨rfl, rfl⟩ | ⟨rfl, rfl⟩ | ⟨rfl, rfl⟩ | ⟨rfl, rfl⟩ | ⟨rfl, rfl⟩ | ⟨rfl, rfl⟩ | ⟨rfl, rfl⟩ | ⟨rfl, rfl⟩ | ⟨rfl, rfl⟩ <;> rfl) rfl (t_qCe_become (oo := a10) (oq := a11) (h := s.2) (d := d) c12 hp13) rfl rfl ?_
      refine zEv_k 1 (f' := (77, [some (.ref 110), some (.ref 1), some (.int s.1)], [.ref 110], zhp p13)) rfl ?_
      refine zRgr rfl rfl rfl (by decide) (b := 110 + 4) rfl ?_
      refine zEv_k 1 (f' := (81, [some (.ref 110), some (.ref 1), some (.int s.1)], [.int s.1, .ref (110 + 4)], zhp p13)) rfl ?_
      refine zRaa rfl rfl (by decide) hj9 (by decide) ?_
      refine zEv_k 1 (f' := (83, [some (.ref 110), some (.ref 1), some (.int s.1)], [.ref 1, .ref (zaa (110 + 4) j9)], zhp p13)) rfl ?_
      refine zRgr rfl rfl rfl (by decide) (b := 1 + 4) rfl ?_
      refine zEv_k 1 (f' := (87, [some (.ref 110), some (.ref 1), some (.int s.1)], [.int s.1, .ref (1 + 4), .ref (zaa (110 + 4) j9)], zhp p13)) rfl ?_
      refine zRaa rfl rfl (by decide) hj9 (by decide) ?_
      obtain ⟨a14, ea14, H⟩ := zlets H
      rw [ea14]
      obtain ⟨a15, ea15, H⟩ := zlets H
      rw [ea15]
      obtain ⟨c16, H⟩ := zifn H
      obtain ⟨p17, hp17, H⟩ := zbs H
      refine zEv_c (mid := 11) (args := [.ref a14, .ref a15]) (rest := []) (ret := none) (fun _ => by rcases c16 with ⟨rfl, rfl⟩ | ⟨rfl, rfl⟩ | ⟨rfl, rfl⟩ | ⟨rfl, rfl⟩ | ⟨rfl, rfl⟩ | ⟨rfl, rfl⟩ | ⟨rfl, rfl⟩ | ⟨rfl, rfl⟩ | ⟨rfl, rfl⟩ | ⟨rfl, rfl⟩ | ⟨rfl, rfl⟩ | ⟨rfl, rfl⟩ | ⟨rfl, rfl⟩ | ⟨rfl, rfl⟩ <;> rfl) rfl (t_qDe_become (oo := a14) (oq := a15) (h := p13) (d := d) c16 hp17) rfl rfl ?_
      refine zEv_k 1 (f' := (92, [some (.ref 110), some (.ref 1), some (.int s.1)], [.ref 110], zhp p17)) rfl ?_
      refine zRgr rfl rfl rfl (by decide) (b := 110 + 5) rfl ?_
      refine zEv_k 1 (f' := (96, [some (.ref 110), some (.ref 1), some (.int s.1)], [.int s.1, .ref (110 + 5)], zhp p17)) rfl ?_
      refine zRaa rfl rfl (by decide) hj9 (by decide) ?_
      refine zEv_k 1 (f' := (98, [some (.ref 110), some (.ref 1), some (.int s.1)], [.ref 1, .ref (zaa (110 + 5) j9)], zhp p17)) rfl ?_
      refine zRgr rfl rfl rfl (by decide) (b := 1 + 5) rfl ?_
      refine zEv_k 1 (f' := (102, [some (.ref 110), some (.ref 1), some (.int s.1)], [.int s.1, .ref (1 + 5), .ref (zaa (110 + 5) j9)], zhp p17)) rfl ?_
      refine zRaa rfl rfl (by decide) hj9 (by decide) ?_
      obtain ⟨a18, ea18, H⟩ := zlets H
      rw [ea18]
      obtain ⟨a19, ea19, H⟩ := zlets H
      rw [ea19]
      obtain ⟨c20, H⟩ := zifn H
      obtain ⟨p21, hp21, H⟩ := zbs H
      refine zEv_c (mid := 37) (args := [.ref a18, .ref a19]) (rest := []) (ret := none) (fun _ => by rcases c20 with ⟨rfl, rfl⟩ | ⟨rfl, rfl⟩ | ⟨rfl, rfl⟩ | ⟨rfl, rfl⟩ | ⟨rfl, rfl⟩ | ⟨rfl, rfl⟩ | ⟨rfl, rfl⟩ | ⟨rfl, rfl⟩ | ⟨rfl, rfl⟩ | ⟨rfl, rfl⟩ | ⟨rfl, rfl⟩ | ⟨rfl, rfl⟩ | ⟨rfl, rfl⟩ | ⟨rfl, rfl⟩ <;> rfl) rfl (t_qLo_become (oo := a18) (oq := a19) (h := p17) (d := d) c20 hp21) rfl rfl ?_
      refine zEv_k 2 (f' := (56, [some (.ref 110), some (.ref 1), some (.int (s.1 + 1))], [], zhp p21)) rfl ?_
      cases H
      exact K
theorem t_qT_become_b56 {Ls : Nat} {xs : Nat → Int32} {d : Nat} {oo : Nat} {oq : Nat} {r : zA} (ho : (oo = 1 ∧ oq = 38) ∨ (oo = 1 ∧ oq = 74) ∨ (oo = 1 ∧ oq = 110) ∨ (oo = 38 ∧ oq = 1) ∨ (oo = 74 ∧ oq = 1) ∨ (oo = 110 ∧ oq = 1)) {t : zK} (K : ∀ (z2 : Option Value), zEv (zXs Ls xs) (d + 1) zm_94 (112, [some (.ref oo), some (.ref oq), z2], [], zhp t) r) (n : Nat) (s : Int32 × zK) (H : zloop (qT_become_b56 oo oq) n s = some t) : zEv (zXs Ls xs) (d + 1) zm_94 (56, [some (.ref oo), some (.ref oq), some (.int s.1)], [], zhp s.2) r := by
  have Z := zloop_P (P := fun s => zEv (zXs Ls xs) (d + 1) zm_94 (56, [some (.ref oo), some (.ref oq), some (.int s.1)], [], zhp s.2) r) (b := qT_become_b56 oo oq) (t := t) (fun s s2 hb hk => by exact t_qT_become_b56b ho hb hk) (fun s hb => by exact t_qT_become_b56b ho hb K) n s H
  exact Z
def qT_become (oo : Nat) (oq : Nat) (h : zK) : Option (zK) :=
  zlet (cI h (oq + 1) (oo + 1) 0 0 600) fun h1 =>
  zlet (sI h1 oo 1 (gI h1 oq 1)) fun h3 =>
  zlet (sI h3 oo 2 (gI h3 oq 2)) fun h4 =>
  zlet (sI h4 oo 3 (gI h4 oq 3)) fun h5 =>
  zlet (cI h5 (oq + 2) (oo + 2) 0 0 3) fun h6 =>
  (zloop (qT_become_b56 oo oq) zfu (0, h6)).bind fun t22 =>
  some t22
theorem t_qT_become {Ls : Nat} {xs : Nat → Int32} {d : Nat} {oo : Nat} {oq : Nat} {h : zK} {p : zK} (ho : (oo = 1 ∧ oq = 38) ∨ (oo = 1 ∧ oq = 74) ∨ (oo = 1 ∧ oq = 110) ∨ (oo = 38 ∧ oq = 1) ∨ (oo = 74 ∧ oq = 1) ∨ (oo = 110 ∧ oq = 1)) (H : qT_become oo oq h = some p) : zEv (zXs Ls xs) (d + 1) zm_94 (0, [some (.ref oo), some (.ref oq), none], [], zhp h) (none, zhp p) := by
  unfold qT_become at H
  rcases ho with ⟨rfl, rfl⟩ | ⟨rfl, rfl⟩ | ⟨rfl, rfl⟩ | ⟨rfl, rfl⟩ | ⟨rfl, rfl⟩ | ⟨rfl, rfl⟩
  · refine zEv_k 1 (f' := (1, [some (.ref 1), some (.ref 38), none], [.ref 38], zhp h)) rfl ?_
    refine zRgr rfl rfl rfl (by decide) (b := 38 + 1) rfl ?_
    refine zEv_k 2 (f' := (6, [some (.ref 1), some (.ref 38), none], [.ref 1, .int 0, .ref (38 + 1)], zhp h)) rfl ?_
    refine zRgr rfl rfl rfl (by decide) (b := 1 + 1) rfl ?_
    refine zEv_k 2 (f' := (13, [some (.ref 1), some (.ref 38), none], [.int 600, .int 0, .ref (1 + 1), .int 0, .ref (38 + 1)], zhp h)) rfl ?_
    obtain ⟨h1, eh1, H⟩ := zlets H
    refine zRcp rfl rfl rfl (by decide) (by decide) (by decide) (by unfold zcpok; decide) (by decide) eh1 ?_
    obtain ⟨h3, eh3, H⟩ := zlets H
    refine zEv_w (F := fun z => (24, [some (.ref 1), some (.ref 38), none], [], zhp z)) (h0 := sI h1 1 1 (gI h1 38 1)) 4 rfl eh3 ?_
    obtain ⟨h4, eh4, H⟩ := zlets H
    refine zEv_w (F := fun z => (32, [some (.ref 1), some (.ref 38), none], [], zhp z)) (h0 := sI h3 1 2 (gI h3 38 2)) 4 rfl eh4 ?_
    obtain ⟨h5, eh5, H⟩ := zlets H
    refine zEv_w (F := fun z => (40, [some (.ref 1), some (.ref 38), none], [], zhp z)) (h0 := sI h4 1 3 (gI h4 38 3)) 4 rfl eh5 ?_
    refine zEv_k 1 (f' := (41, [some (.ref 1), some (.ref 38), none], [.ref 38], zhp h5)) rfl ?_
    refine zRgr rfl rfl rfl (by decide) (b := 38 + 2) rfl ?_
    refine zEv_k 2 (f' := (46, [some (.ref 1), some (.ref 38), none], [.ref 1, .int 0, .ref (38 + 2)], zhp h5)) rfl ?_
    refine zRgr rfl rfl rfl (by decide) (b := 1 + 2) rfl ?_
    refine zEv_k 2 (f' := (51, [some (.ref 1), some (.ref 38), none], [.int 3, .int 0, .ref (1 + 2), .int 0, .ref (38 + 2)], zhp h5)) rfl ?_
    obtain ⟨h6, eh6, H⟩ := zlets H
    refine zRcp rfl rfl rfl (by decide) (by decide) (by decide) (by unfold zcpok; decide) (by decide) eh6 ?_
    refine zEv_k 2 (f' := (56, [some (.ref 1), some (.ref 38), some (.int 0)], [], zhp h6)) rfl ?_
    obtain ⟨t22, ht22, H⟩ := zbs H
    refine t_qT_become_b56 (oo := 1) (oq := 38) (by decide) ?_ zfu _ ht22
    intro y2
    cases H
    exact zEv_r rfl
  · refine zEv_k 1 (f' := (1, [some (.ref 1), some (.ref 74), none], [.ref 74], zhp h)) rfl ?_
    refine zRgr rfl rfl rfl (by decide) (b := 74 + 1) rfl ?_
    refine zEv_k 2 (f' := (6, [some (.ref 1), some (.ref 74), none], [.ref 1, .int 0, .ref (74 + 1)], zhp h)) rfl ?_
    refine zRgr rfl rfl rfl (by decide) (b := 1 + 1) rfl ?_
    refine zEv_k 2 (f' := (13, [some (.ref 1), some (.ref 74), none], [.int 600, .int 0, .ref (1 + 1), .int 0, .ref (74 + 1)], zhp h)) rfl ?_
    obtain ⟨h1, eh1, H⟩ := zlets H
    refine zRcp rfl rfl rfl (by decide) (by decide) (by decide) (by unfold zcpok; decide) (by decide) eh1 ?_
    obtain ⟨h3, eh3, H⟩ := zlets H
    refine zEv_w (F := fun z => (24, [some (.ref 1), some (.ref 74), none], [], zhp z)) (h0 := sI h1 1 1 (gI h1 74 1)) 4 rfl eh3 ?_
    obtain ⟨h4, eh4, H⟩ := zlets H
    refine zEv_w (F := fun z => (32, [some (.ref 1), some (.ref 74), none], [], zhp z)) (h0 := sI h3 1 2 (gI h3 74 2)) 4 rfl eh4 ?_
    obtain ⟨h5, eh5, H⟩ := zlets H
    refine zEv_w (F := fun z => (40, [some (.ref 1), some (.ref 74), none], [], zhp z)) (h0 := sI h4 1 3 (gI h4 74 3)) 4 rfl eh5 ?_
    refine zEv_k 1 (f' := (41, [some (.ref 1), some (.ref 74), none], [.ref 74], zhp h5)) rfl ?_
    refine zRgr rfl rfl rfl (by decide) (b := 74 + 2) rfl ?_
    refine zEv_k 2 (f' := (46, [some (.ref 1), some (.ref 74), none], [.ref 1, .int 0, .ref (74 + 2)], zhp h5)) rfl ?_
    refine zRgr rfl rfl rfl (by decide) (b := 1 + 2) rfl ?_
    refine zEv_k 2 (f' := (51, [some (.ref 1), some (.ref 74), none], [.int 3, .int 0, .ref (1 + 2), .int 0, .ref (74 + 2)], zhp h5)) rfl ?_
    obtain ⟨h6, eh6, H⟩ := zlets H
    refine zRcp rfl rfl rfl (by decide) (by decide) (by decide) (by unfold zcpok; decide) (by decide) eh6 ?_
    refine zEv_k 2 (f' := (56, [some (.ref 1), some (.ref 74), some (.int 0)], [], zhp h6)) rfl ?_
    obtain ⟨t22, ht22, H⟩ := zbs H
    refine t_qT_become_b56 (oo := 1) (oq := 74) (by decide) ?_ zfu _ ht22
    intro y2
    cases H
    exact zEv_r rfl
  · refine zEv_k 1 (f' := (1, [some (.ref 1), some (.ref 110), none], [.ref 110], zhp h)) rfl ?_
    refine zRgr rfl rfl rfl (by decide) (b := 110 + 1) rfl ?_
    refine zEv_k 2 (f' := (6, [some (.ref 1), some (.ref 110), none], [.ref 1, .int 0, .ref (110 + 1)], zhp h)) rfl ?_
    refine zRgr rfl rfl rfl (by decide) (b := 1 + 1) rfl ?_
    refine zEv_k 2 (f' := (13, [some (.ref 1), some (.ref 110), none], [.int 600, .int 0, .ref (1 + 1), .int 0, .ref (110 + 1)], zhp h)) rfl ?_
    obtain ⟨h1, eh1, H⟩ := zlets H
    refine zRcp rfl rfl rfl (by decide) (by decide) (by decide) (by unfold zcpok; decide) (by decide) eh1 ?_
    obtain ⟨h3, eh3, H⟩ := zlets H
    refine zEv_w (F := fun z => (24, [some (.ref 1), some (.ref 110), none], [], zhp z)) (h0 := sI h1 1 1 (gI h1 110 1)) 4 rfl eh3 ?_
    obtain ⟨h4, eh4, H⟩ := zlets H
    refine zEv_w (F := fun z => (32, [some (.ref 1), some (.ref 110), none], [], zhp z)) (h0 := sI h3 1 2 (gI h3 110 2)) 4 rfl eh4 ?_
    obtain ⟨h5, eh5, H⟩ := zlets H
    refine zEv_w (F := fun z => (40, [some (.ref 1), some (.ref 110), none], [], zhp z)) (h0 := sI h4 1 3 (gI h4 110 3)) 4 rfl eh5 ?_
    refine zEv_k 1 (f' := (41, [some (.ref 1), some (.ref 110), none], [.ref 110], zhp h5)) rfl ?_
    refine zRgr rfl rfl rfl (by decide) (b := 110 + 2) rfl ?_
    refine zEv_k 2 (f' := (46, [some (.ref 1), some (.ref 110), none], [.ref 1, .int 0, .ref (110 + 2)], zhp h5)) rfl ?_
    refine zRgr rfl rfl rfl (by decide) (b := 1 + 2) rfl ?_
    refine zEv_k 2 (f' := (51, [some (.ref 1), some (.ref 110), none], [.int 3, .int 0, .ref (1 + 2), .int 0, .ref (110 + 2)], zhp h5)) rfl ?_
    obtain ⟨h6, eh6, H⟩ := zlets H
    refine zRcp rfl rfl rfl (by decide) (by decide) (by decide) (by unfold zcpok; decide) (by decide) eh6 ?_
    refine zEv_k 2 (f' := (56, [some (.ref 1), some (.ref 110), some (.int 0)], [], zhp h6)) rfl ?_
    obtain ⟨t22, ht22, H⟩ := zbs H
    refine t_qT_become_b56 (oo := 1) (oq := 110) (by decide) ?_ zfu _ ht22
    intro y2
    cases H
    exact zEv_r rfl
  · refine zEv_k 1 (f' := (1, [some (.ref 38), some (.ref 1), none], [.ref 1], zhp h)) rfl ?_
    refine zRgr rfl rfl rfl (by decide) (b := 1 + 1) rfl ?_
    refine zEv_k 2 (f' := (6, [some (.ref 38), some (.ref 1), none], [.ref 38, .int 0, .ref (1 + 1)], zhp h)) rfl ?_
    refine zRgr rfl rfl rfl (by decide) (b := 38 + 1) rfl ?_
    refine zEv_k 2 (f' := (13, [some (.ref 38), some (.ref 1), none], [.int 600, .int 0, .ref (38 + 1), .int 0, .ref (1 + 1)], zhp h)) rfl ?_
    obtain ⟨h1, eh1, H⟩ := zlets H
    refine zRcp rfl rfl rfl (by decide) (by decide) (by decide) (by unfold zcpok; decide) (by decide) eh1 ?_
    obtain ⟨h3, eh3, H⟩ := zlets H
    refine zEv_w (F := fun z => (24, [some (.ref 38), some (.ref 1), none], [], zhp z)) (h0 := sI h1 38 1 (gI h1 1 1)) 4 rfl eh3 ?_
    obtain ⟨h4, eh4, H⟩ := zlets H
    refine zEv_w (F := fun z => (32, [some (.ref 38), some (.ref 1), none], [], zhp z)) (h0 := sI h3 38 2 (gI h3 1 2)) 4 rfl eh4 ?_
    obtain ⟨h5, eh5, H⟩ := zlets H
    refine zEv_w (F := fun z => (40, [some (.ref 38), some (.ref 1), none], [], zhp z)) (h0 := sI h4 38 3 (gI h4 1 3)) 4 rfl eh5 ?_
    refine zEv_k 1 (f' := (41, [some (.ref 38), some (.ref 1), none], [.ref 1], zhp h5)) rfl ?_
    refine zRgr rfl rfl rfl (by decide) (b := 1 + 2) rfl ?_
    refine zEv_k 2 (f' := (46, [some (.ref 38), some (.ref 1), none], [.ref 38, .int 0, .ref (1 + 2)], zhp h5)) rfl ?_
    refine zRgr rfl rfl rfl (by decide) (b := 38 + 2) rfl ?_
    refine zEv_k 2 (f' := (51, [some (.ref 38), some (.ref 1), none], [.int 3, .int 0, .ref (38 + 2), .int 0, .ref (1 + 2)], zhp h5)) rfl ?_
    obtain ⟨h6, eh6, H⟩ := zlets H
    refine zRcp rfl rfl rfl (by decide) (by decide) (by decide) (by unfold zcpok; decide) (by decide) eh6 ?_
    refine zEv_k 2 (f' := (56, [some (.ref 38), some (.ref 1), some (.int 0)], [], zhp h6)) rfl ?_
    obtain ⟨t22, ht22, H⟩ := zbs H
    refine t_qT_become_b56 (oo := 38) (oq := 1) (by decide) ?_ zfu _ ht22
    intro y2
    cases H
    exact zEv_r rfl
  · refine zEv_k 1 (f' := (1, [some (.ref 74), some (.ref 1), none], [.ref 1], zhp h)) rfl ?_
    refine zRgr rfl rfl rfl (by decide) (b := 1 + 1) rfl ?_
    refine zEv_k 2 (f' := (6, [some (.ref 74), some (.ref 1), none], [.ref 74, .int 0, .ref (1 + 1)], zhp h)) rfl ?_
    refine zRgr rfl rfl rfl (by decide) (b := 74 + 1) rfl ?_
    refine zEv_k 2 (f' := (13, [some (.ref 74), some (.ref 1), none], [.int 600, .int 0, .ref (74 + 1), .int 0, .ref (1 + 1)], zhp h)) rfl ?_
    obtain ⟨h1, eh1, H⟩ := zlets H
    refine zRcp rfl rfl rfl (by decide) (by decide) (by decide) (by unfold zcpok; decide) (by decide) eh1 ?_
    obtain ⟨h3, eh3, H⟩ := zlets H
    refine zEv_w (F := fun z => (24, [some (.ref 74), some (.ref 1), none], [], zhp z)) (h0 := sI h1 74 1 (gI h1 1 1)) 4 rfl eh3 ?_
    obtain ⟨h4, eh4, H⟩ := zlets H
    refine zEv_w (F := fun z => (32, [some (.ref 74), some (.ref 1), none], [], zhp z)) (h0 := sI h3 74 2 (gI h3 1 2)) 4 rfl eh4 ?_
    obtain ⟨h5, eh5, H⟩ := zlets H
    refine zEv_w (F := fun z => (40, [some (.ref 74), some (.ref 1), none], [], zhp z)) (h0 := sI h4 74 3 (gI h4 1 3)) 4 rfl eh5 ?_
    refine zEv_k 1 (f' := (41, [some (.ref 74), some (.ref 1), none], [.ref 1], zhp h5)) rfl ?_
    refine zRgr rfl rfl rfl (by decide) (b := 1 + 2) rfl ?_
    refine zEv_k 2 (f' := (46, [some (.ref 74), some (.ref 1), none], [.ref 74, .int 0, .ref (1 + 2)], zhp h5)) rfl ?_
    refine zRgr rfl rfl rfl (by decide) (b := 74 + 2) rfl ?_
    refine zEv_k 2 (f' := (51, [some (.ref 74), some (.ref 1), none], [.int 3, .int 0, .ref (74 + 2), .int 0, .ref (1 + 2)], zhp h5)) rfl ?_
    obtain ⟨h6, eh6, H⟩ := zlets H
    refine zRcp rfl rfl rfl (by decide) (by decide) (by decide) (by unfold zcpok; decide) (by decide) eh6 ?_
    refine zEv_k 2 (f' := (56, [some (.ref 74), some (.ref 1), some (.int 0)], [], zhp h6)) rfl ?_
    obtain ⟨t22, ht22, H⟩ := zbs H
    refine t_qT_become_b56 (oo := 74) (oq := 1) (by decide) ?_ zfu _ ht22
    intro y2
    cases H
    exact zEv_r rfl
  · refine zEv_k 1 (f' := (1, [some (.ref 110), some (.ref 1), none], [.ref 1], zhp h)) rfl ?_
    refine zRgr rfl rfl rfl (by decide) (b := 1 + 1) rfl ?_
    refine zEv_k 2 (f' := (6, [some (.ref 110), some (.ref 1), none], [.ref 110, .int 0, .ref (1 + 1)], zhp h)) rfl ?_
    refine zRgr rfl rfl rfl (by decide) (b := 110 + 1) rfl ?_
    refine zEv_k 2 (f' := (13, [some (.ref 110), some (.ref 1), none], [.int 600, .int 0, .ref (110 + 1), .int 0, .ref (1 + 1)], zhp h)) rfl ?_
    obtain ⟨h1, eh1, H⟩ := zlets H
    refine zRcp rfl rfl rfl (by decide) (by decide) (by decide) (by unfold zcpok; decide) (by decide) eh1 ?_
    obtain ⟨h3, eh3, H⟩ := zlets H
    refine zEv_w (F := fun z => (24, [some (.ref 110), some (.ref 1), none], [], zhp z)) (h0 := sI h1 110 1 (gI h1 1 1)) 4 rfl eh3 ?_
    obtain ⟨h4, eh4, H⟩ := zlets H
    refine zEv_w (F := fun z => (32, [some (.ref 110), some (.ref 1), none], [], zhp z)) (h0 := sI h3 110 2 (gI h3 1 2)) 4 rfl eh4 ?_
    obtain ⟨h5, eh5, H⟩ := zlets H
    refine zEv_w (F := fun z => (40, [some (.ref 110), some (.ref 1), none], [], zhp z)) (h0 := sI h4 110 3 (gI h4 1 3)) 4 rfl eh5 ?_
    refine zEv_k 1 (f' := (41, [some (.ref 110), some (.ref 1), none], [.ref 1], zhp h5)) rfl ?_
    refine zRgr rfl rfl rfl (by decide) (b := 1 + 2) rfl ?_
    refine zEv_k 2 (f' := (46, [some (.ref 110), some (.ref 1), none], [.ref 110, .int 0, .ref (1 + 2)], zhp h5)) rfl ?_
    refine zRgr rfl rfl rfl (by decide) (b := 110 + 2) rfl ?_
    refine zEv_k 2 (f' := (51, [some (.ref 110), some (.ref 1), none], [.int 3, .int 0, .ref (110 + 2), .int 0, .ref (1 + 2)], zhp h5)) rfl ?_
    obtain ⟨h6, eh6, H⟩ := zlets H
    refine zRcp rfl rfl rfl (by decide) (by decide) (by decide) (by unfold zcpok; decide) (by decide) eh6 ?_
    refine zEv_k 2 (f' := (56, [some (.ref 110), some (.ref 1), some (.int 0)], [], zhp h6)) rfl ?_
    obtain ⟨t22, ht22, H⟩ := zbs H
    refine t_qT_become_b56 (oo := 110) (oq := 1) (by decide) ?_ zfu _ ht22
    intro y2
    cases H
    exact zEv_r rfl
def qLk_witOf_b4 (oc : Nat) (x1 : Int32) (h : zK) (s : Int32 × Int32) : Option ((Int32 × Int32) ⊕ (Int32)) :=
  if (gI h oc 2) ≤ s.2 then
    some (.inr s.1)
  else
    Option.bind (
        if (zf_cin x1 s.2) = 0 then
          some s.1
        else
          (zix s.2 7).bind fun j4 =>
          some (s.1 + (gI h (oc + 1) j4))
      ) fun (v3 : Int32) =>
    some (.inl (v3, s.2 + 1))
theorem t_qLk_witOf_b4b {Ls : Nat} {xs : Nat → Int32} {d : Nat} {oc : Nat} {x1 : Int32} {h : zK} {r : zA} {s : Int32 × Int32} {e : (Int32 × Int32) ⊕ (Int32)} (ho : oc = 7 ∨ oc = 22) (H : qLk_witOf_b4 oc x1 h s = some e) (K : match (generalizing := false) e with | .inl s' => zEv (zXs Ls xs) (d + 1) zm_274 (4, [some (.ref oc), some (.int x1), some (.int s'.1), some (.int s'.2)], [], zhp h) r | .inr v => ∀ (z3 : Option Value), zEv (zXs Ls xs) (d + 1) zm_274 (35, [some (.ref oc), some (.int x1), some (.int v), z3], [], zhp h) r) : zEv (zXs Ls xs) (d + 1) zm_274 (4, [some (.ref oc), some (.int x1), some (.int s.1), some (.int s.2)], [], zhp h) r := by
  unfold qLk_witOf_b4 at H
  rcases ho with rfl | rfl
  · refine zEv_k 4 (f' := (if (gI h 7 2) ≤ s.2 then 35 else 12, [some (.ref 7), some (.int x1), some (.int s.1), some (.int s.2)], [], zhp h)) rfl (zEv_if (fun c1 => ?_) (fun c1 => ?_))
    · replace H := zif_t c1 H
      cases H
      exact K _
    · replace H := zif_f c1 H
      obtain ⟨v3, hv3, H⟩ := zbs H
      have kv3 : zEv (zXs Ls xs) (d + 1) zm_274 (29, [some (.ref 7), some (.int x1), some (.int v3), some (.int s.2)], [], zhp h) r := by
        refine zEv_k 2 (f' := (4, [some (.ref 7), some (.int x1), some (.int v3), some (.int (s.2 + 1))], [], zhp h)) rfl ?_
        cases H
        exact K
      clear H
      refine zEv_k 2 (f' := (14, [some (.ref 7), some (.int x1), some (.int s.1), some (.int s.2)], [.int s.2, .int x1], zhp h)) rfl ?_
      refine zEv_c (fun _ => rfl) rfl ev_zf_cin rfl rfl ?_
      refine zEv_k 1 (f' := (if (zf_cin x1 s.2) = 0 then 29 else 20, [some (.ref 7), some (.int x1), some (.int s.1), some (.int s.2)], [], zhp h)) rfl (zEv_if (fun c2 => ?_) (fun c2 => ?_))
      · replace hv3 := zif_t c2 hv3
        cases hv3
        exact kv3
      · replace hv3 := zif_f c2 hv3
        refine zEv_k 2 (f' := (22, [some (.ref 7), some (.int x1), some (.int s.1), some (.int s.2)], [.ref 7, .int s.1], zhp h)) rfl ?_
        refine zRgr rfl rfl rfl (by decide) (b := 7 + 1) rfl ?_
        refine zEv_k 1 (f' := (26, [some (.ref 7), some (.int x1), some (.int s.1), some (.int s.2)], [.int s.2, .ref (7 + 1), .int s.1], zhp h)) rfl ?_
        obtain ⟨j4, hj4, hv3⟩ := zbs hv3
        refine zRia rfl rfl (by decide) hj4 ?_
        refine zEv_k 2 (f' := (29, [some (.ref 7), some (.int x1), some (.int (s.1 + (gI h (7 + 1) j4))), some (.int s.2)], [], zhp h)) rfl ?_
        cases hv3
        exact kv3
  · refine zEv_k 4 (f' := (if (gI h 22 2) ≤ s.2 then 35 else 12, [some (.ref 22), some (.int x1), some (.int s.1), some (.int s.2)], [], zhp h)) rfl (zEv_if (fun c1 => ?_) (fun c1 => ?_))
    · replace H := zif_t c1 H
      cases H
      exact K _
    · replace H := zif_f c1 H
      obtain ⟨v3, hv3, H⟩ := zbs H
      have kv3 : zEv (zXs Ls xs) (d + 1) zm_274 (29, [some (.ref 22), some (.int x1), some (.int v3), some (.int s.2)], [], zhp h) r := by
        refine zEv_k 2 (f' := (4, [some (.ref 22), some (.int x1), some (.int v3), some (.int (s.2 + 1))], [], zhp h)) rfl ?_
        cases H
        exact K
      clear H
      refine zEv_k 2 (f' := (14, [some (.ref 22), some (.int x1), some (.int s.1), some (.int s.2)], [.int s.2, .int x1], zhp h)) rfl ?_
      refine zEv_c (fun _ => rfl) rfl ev_zf_cin rfl rfl ?_
      refine zEv_k 1 (f' := (if (zf_cin x1 s.2) = 0 then 29 else 20, [some (.ref 22), some (.int x1), some (.int s.1), some (.int s.2)], [], zhp h)) rfl (zEv_if (fun c2 => ?_) (fun c2 => ?_))
      · replace hv3 := zif_t c2 hv3
        cases hv3
        exact kv3
      · replace hv3 := zif_f c2 hv3
        refine zEv_k 2 (f' := (22, [some (.ref 22), some (.int x1), some (.int s.1), some (.int s.2)], [.ref 22, .int s.1], zhp h)) rfl ?_
        refine zRgr rfl rfl rfl (by decide) (b := 22 + 1) rfl ?_
        refine zEv_k 1 (f' := (26, [some (.ref 22), some (.int x1), some (.int s.1), some (.int s.2)], [.int s.2, .ref (22 + 1), .int s.1], zhp h)) rfl ?_
        obtain ⟨j4, hj4, hv3⟩ := zbs hv3
        refine zRia rfl rfl (by decide) hj4 ?_
        refine zEv_k 2 (f' := (29, [some (.ref 22), some (.int x1), some (.int (s.1 + (gI h (22 + 1) j4))), some (.int s.2)], [], zhp h)) rfl ?_
        cases hv3
        exact kv3
theorem t_qLk_witOf_b4 {Ls : Nat} {xs : Nat → Int32} {d : Nat} {oc : Nat} {x1 : Int32} {h : zK} {r : zA} (ho : oc = 7 ∨ oc = 22) {t : Int32} (K : ∀ (z3 : Option Value), zEv (zXs Ls xs) (d + 1) zm_274 (35, [some (.ref oc), some (.int x1), some (.int t), z3], [], zhp h) r) (n : Nat) (s : Int32 × Int32) (H : zloop (qLk_witOf_b4 oc x1 h) n s = some t) : zEv (zXs Ls xs) (d + 1) zm_274 (4, [some (.ref oc), some (.int x1), some (.int s.1), some (.int s.2)], [], zhp h) r := by
  have Z := zloop_P (P := fun s => zEv (zXs Ls xs) (d + 1) zm_274 (4, [some (.ref oc), some (.int x1), some (.int s.1), some (.int s.2)], [], zhp h) r) (b := qLk_witOf_b4 oc x1 h) (t := t) (fun s s2 hb hk => by exact t_qLk_witOf_b4b ho hb hk) (fun s hb => by exact t_qLk_witOf_b4b ho hb K) n s H
  exact Z
def qLk_witOf (oc : Nat) (x1 : Int32) (h : zK) : Option (Int32) :=
  (zloop (qLk_witOf_b4 oc x1 h) zfu (0, 0)).bind fun t5 =>
  some t5
theorem t_qLk_witOf {Ls : Nat} {xs : Nat → Int32} {d : Nat} {oc : Nat} {x1 : Int32} {h : zK} {p : Int32} (ho : oc = 7 ∨ oc = 22) (H : qLk_witOf oc x1 h = some p) : zEv (zXs Ls xs) (d + 1) zm_274 (0, [some (.ref oc), some (.int x1), none, none], [], zhp h) (some (.int p), zhp h) := by
  unfold qLk_witOf at H
  rcases ho with rfl | rfl
  · refine zEv_k 4 (f' := (4, [some (.ref 7), some (.int x1), some (.int 0), some (.int 0)], [], zhp h)) rfl ?_
    obtain ⟨t5, ht5, H⟩ := zbs H
    refine t_qLk_witOf_b4 (oc := 7) (x1 := x1) (h := h) (by decide) ?_ zfu _ ht5
    intro y3
    refine zEv_k 1 (f' := (36, [some (.ref 7), some (.int x1), some (.int t5), y3], [.int t5], zhp h)) rfl ?_
    cases H
    exact zEv_r rfl
  · refine zEv_k 4 (f' := (4, [some (.ref 22), some (.int x1), some (.int 0), some (.int 0)], [], zhp h)) rfl ?_
    obtain ⟨t5, ht5, H⟩ := zbs H
    refine t_qLk_witOf_b4 (oc := 22) (x1 := x1) (h := h) (by decide) ?_ zfu _ ht5
    intro y3
    refine zEv_k 1 (f' := (36, [some (.ref 22), some (.int x1), some (.int t5), y3], [.int t5], zhp h)) rfl ?_
    cases H
    exact zEv_r rfl
def qTr_ruin_b7 (oc : Nat) (oo : Nat) (h : zK) (s : Int32 × Int32 × Int32) : Option ((Int32 × Int32 × Int32) ⊕ (Int32)) :=
  if (gI h oo 0) ≤ s.2.2 then
    some (.inr s.2.1)
  else
    (qTr_from oo s.2.2 h).bind fun p2 =>
    (qLk_witOf oc p2 h).bind fun p3 =>
    zlet (
        if p3 ≤ s.1 then
          (s.1, s.2.1)
        else
          (p3, s.2.2)
      ) fun (v5 : Int32 × Int32) =>
    some (.inl (v5.1, v5.2, s.2.2 + 1))
theorem t_qTr_ruin_b7b {Ls : Nat} {xs : Nat → Int32} {d : Nat} {oc : Nat} {oo : Nat} {h : zK} {r : zA} {s : Int32 × Int32 × Int32} {e : (Int32 × Int32 × Int32) ⊕ (Int32)} (ho : (oc = 7 ∧ oo = 180) ∨ (oc = 22 ∧ oo = 180) ∨ (oc = 7 ∧ oo = 186) ∨ (oc = 22 ∧ oo = 186)) (H : qTr_ruin_b7 oc oo h s = some e) (K : match (generalizing := false) e with | .inl s' => ∀ (z5 : Option Value), zEv (zXs Ls xs) (d + 2) zm_103 (7, [some (.ref oo), some (.ref oc), some (.int s'.1), some (.int s'.2.1), some (.int s'.2.2), z5], [], zhp h) r | .inr v => ∀ (z2 : Option Value) (z4 : Option Value) (z5 : Option Value), zEv (zXs Ls xs) (d + 2) zm_103 (46, [some (.ref oo), some (.ref oc), z2, some (.int v), z4, z5], [], zhp h) r) (y5 : Option Value) : zEv (zXs Ls xs) (d + 2) zm_103 (7, [some (.ref oo), some (.ref oc), some (.int s.1), some (.int s.2.1), some (.int s.2.2), y5], [], zhp h) r := by
  unfold qTr_ruin_b7 at H
  rcases ho with ⟨rfl, rfl⟩ | ⟨rfl, rfl⟩ | ⟨rfl, rfl⟩ | ⟨rfl, rfl⟩
  · refine zEv_k 4 (f' := (if (gI h 180 0) ≤ s.2.2 then 46 else 16, [some (.ref 180), some (.ref 7), some (.int s.1), some (.int s.2.1), some (.int s.2.2), y5], [], zhp h)) rfl (zEv_if (fun c1 => ?_) (fun c1 => ?_))
    · replace H := zif_t c1 H
      cases H
      exact K _ _ _
    · replace H := zif_f c1 H
      refine zEv_k 3 (f' := (20, [some (.ref 180), some (.ref 7), some (.int s.1), some (.int s.2.1), some (.int s.2.2), y5], [.int s.2.2, .ref 180, .ref 7], zhp h)) rfl ?_
      obtain ⟨p2, hp2, H⟩ := zbs H
      refine zEv_c (fun _ => rfl) rfl (t_qTr_from (oo := 180) (x1 := s.2.2) (h := h) (d := d) (by decide) hp2) rfl rfl ?_
      obtain ⟨p3, hp3, H⟩ := zbs H
      refine zEv_c (fun _ => rfl) rfl (t_qLk_witOf (oc := 7) (x1 := p2) (h := h) (d := d) (by decide) hp3) rfl rfl ?_
      obtain ⟨v5, hv5, H⟩ := zlets H
      have kv5 : zEv (zXs Ls xs) (d + 2) zm_103 (40, [some (.ref 180), some (.ref 7), some (.int v5.1), some (.int v5.2), some (.int s.2.2), some (.int p3)], [], zhp h) r := by
        refine zEv_k 2 (f' := (7, [some (.ref 180), some (.ref 7), some (.int v5.1), some (.int v5.2), some (.int (s.2.2 + 1)), some (.int p3)], [], zhp h)) rfl ?_
        cases H
        exact K _
      clear H
      refine zEv_k 4 (f' := (if p3 ≤ s.1 then 40 else 34, [some (.ref 180), some (.ref 7), some (.int s.1), some (.int s.2.1), some (.int s.2.2), some (.int p3)], [], zhp h)) rfl (zEv_if (fun c4 => ?_) (fun c4 => ?_))
      · replace hv5 := zif_t c4 hv5
        cases hv5
        exact kv5
      · replace hv5 := zif_f c4 hv5
        refine zEv_k 4 (f' := (40, [some (.ref 180), some (.ref 7), some (.int p3), some (.int s.2.2), some (.int s.2.2), some (.int p3)], [], zhp h)) rfl ?_
        cases hv5
        exact kv5
  · refine zEv_k 4 (f' := (if (gI h 180 0) ≤ s.2.2 then 46 else 16, [some (.ref 180), some (.ref 22), some (.int s.1), some (.int s.2.1), some (.int s.2.2), y5], [], zhp h)) rfl (zEv_if (fun c1 => ?_) (fun c1 => ?_))
    · replace H := zif_t c1 H
      cases H
      exact K _ _ _
    · replace H := zif_f c1 H
      refine zEv_k 3 (f' := (20, [some (.ref 180), some (.ref 22), some (.int s.1), some (.int s.2.1), some (.int s.2.2), y5], [.int s.2.2, .ref 180, .ref 22], zhp h)) rfl ?_
      obtain ⟨p2, hp2, H⟩ := zbs H
      refine zEv_c (fun _ => rfl) rfl (t_qTr_from (oo := 180) (x1 := s.2.2) (h := h) (d := d) (by decide) hp2) rfl rfl ?_
      obtain ⟨p3, hp3, H⟩ := zbs H
      refine zEv_c (fun _ => rfl) rfl (t_qLk_witOf (oc := 22) (x1 := p2) (h := h) (d := d) (by decide) hp3) rfl rfl ?_
      obtain ⟨v5, hv5, H⟩ := zlets H
      have kv5 : zEv (zXs Ls xs) (d + 2) zm_103 (40, [some (.ref 180), some (.ref 22), some (.int v5.1), some (.int v5.2), some (.int s.2.2), some (.int p3)], [], zhp h) r := by
        refine zEv_k 2 (f' := (7, [some (.ref 180), some (.ref 22), some (.int v5.1), some (.int v5.2), some (.int (s.2.2 + 1)), some (.int p3)], [], zhp h)) rfl ?_
        cases H
        exact K _
      clear H
      refine zEv_k 4 (f' := (if p3 ≤ s.1 then 40 else 34, [some (.ref 180), some (.ref 22), some (.int s.1), some (.int s.2.1), some (.int s.2.2), some (.int p3)], [], zhp h)) rfl (zEv_if (fun c4 => ?_) (fun c4 => ?_))
      · replace hv5 := zif_t c4 hv5
        cases hv5
        exact kv5
      · replace hv5 := zif_f c4 hv5
        refine zEv_k 4 (f' := (40, [some (.ref 180), some (.ref 22), some (.int p3), some (.int s.2.2), some (.int s.2.2), some (.int p3)], [], zhp h)) rfl ?_
        cases hv5
        exact kv5
  · refine zEv_k 4 (f' := (if (gI h 186 0) ≤ s.2.2 then 46 else 16, [some (.ref 186), some (.ref 7), some (.int s.1), some (.int s.2.1), some (.int s.2.2), y5], [], zhp h)) rfl (zEv_if (fun c1 => ?_) (fun c1 => ?_))
    · replace H := zif_t c1 H
      cases H
      exact K _ _ _
    · replace H := zif_f c1 H
      refine zEv_k 3 (f' := (20, [some (.ref 186), some (.ref 7), some (.int s.1), some (.int s.2.1), some (.int s.2.2), y5], [.int s.2.2, .ref 186, .ref 7], zhp h)) rfl ?_
      obtain ⟨p2, hp2, H⟩ := zbs H
      refine zEv_c (fun _ => rfl) rfl (t_qTr_from (oo := 186) (x1 := s.2.2) (h := h) (d := d) (by decide) hp2) rfl rfl ?_
      obtain ⟨p3, hp3, H⟩ := zbs H
      refine zEv_c (fun _ => rfl) rfl (t_qLk_witOf (oc := 7) (x1 := p2) (h := h) (d := d) (by decide) hp3) rfl rfl ?_
      obtain ⟨v5, hv5, H⟩ := zlets H
      have kv5 : zEv (zXs Ls xs) (d + 2) zm_103 (40, [some (.ref 186), some (.ref 7), some (.int v5.1), some (.int v5.2), some (.int s.2.2), some (.int p3)], [], zhp h) r := by
        refine zEv_k 2 (f' := (7, [some (.ref 186), some (.ref 7), some (.int v5.1), some (.int v5.2), some (.int (s.2.2 + 1)), some (.int p3)], [], zhp h)) rfl ?_
        cases H
        exact K _
      clear H
      refine zEv_k 4 (f' := (if p3 ≤ s.1 then 40 else 34, [some (.ref 186), some (.ref 7), some (.int s.1), some (.int s.2.1), some (.int s.2.2), some (.int p3)], [], zhp h)) rfl (zEv_if (fun c4 => ?_) (fun c4 => ?_))
      · replace hv5 := zif_t c4 hv5
        cases hv5
        exact kv5
      · replace hv5 := zif_f c4 hv5
        refine zEv_k 4 (f' := (40, [some (.ref 186), some (.ref 7), some (.int p3), some (.int s.2.2), some (.int s.2.2), some (.int p3)], [], zhp h)) rfl ?_
        cases hv5
        exact kv5
  · refine zEv_k 4 (f' := (if (gI h 186 0) ≤ s.2.2 then 46 else 16, [some (.ref 186), some (.ref 22), some (.int s.1), some (.int s.2.1), some (.int s.2.2), y5], [], zhp h)) rfl (zEv_if (fun c1 => ?_) (fun c1 => ?_))
    · replace H := zif_t c1 H
      cases H
      exact K _ _ _
    · replace H := zif_f c1 H
      refine zEv_k 3 (f' := (20, [some (.ref 186), some (.ref 22), some (.int s.1), some (.int s.2.1), some (.int s.2.2), y5], [.int s.2.2, .ref 186, .ref 22], zhp h)) rfl ?_
      obtain ⟨p2, hp2, H⟩ := zbs H
      refine zEv_c (fun _ => rfl) rfl (t_qTr_from (oo := 186) (x1 := s.2.2) (h := h) (d := d) (by decide) hp2) rfl rfl ?_
      obtain ⟨p3, hp3, H⟩ := zbs H
      refine zEv_c (fun _ => rfl) rfl (t_qLk_witOf (oc := 22) (x1 := p2) (h := h) (d := d) (by decide) hp3) rfl rfl ?_
      obtain ⟨v5, hv5, H⟩ := zlets H
      have kv5 : zEv (zXs Ls xs) (d + 2) zm_103 (40, [some (.ref 186), some (.ref 22), some (.int v5.1), some (.int v5.2), some (.int s.2.2), some (.int p3)], [], zhp h) r := by
        refine zEv_k 2 (f' := (7, [some (.ref 186), some (.ref 22), some (.int v5.1), some (.int v5.2), some (.int (s.2.2 + 1)), some (.int p3)], [], zhp h)) rfl ?_
        cases H
        exact K _
      clear H
      refine zEv_k 4 (f' := (if p3 ≤ s.1 then 40 else 34, [some (.ref 186), some (.ref 22), some (.int s.1), some (.int s.2.1), some (.int s.2.2), some (.int p3)], [], zhp h)) rfl (zEv_if (fun c4 => ?_) (fun c4 => ?_))
      · replace hv5 := zif_t c4 hv5
        cases hv5
        exact kv5
      · replace hv5 := zif_f c4 hv5
        refine zEv_k 4 (f' := (40, [some (.ref 186), some (.ref 22), some (.int p3), some (.int s.2.2), some (.int s.2.2), some (.int p3)], [], zhp h)) rfl ?_
        cases hv5
        exact kv5
theorem t_qTr_ruin_b7 {Ls : Nat} {xs : Nat → Int32} {d : Nat} {oc : Nat} {oo : Nat} {h : zK} {r : zA} (ho : (oc = 7 ∧ oo = 180) ∨ (oc = 22 ∧ oo = 180) ∨ (oc = 7 ∧ oo = 186) ∨ (oc = 22 ∧ oo = 186)) {t : Int32} (K : ∀ (z2 : Option Value) (z4 : Option Value) (z5 : Option Value), zEv (zXs Ls xs) (d + 2) zm_103 (46, [some (.ref oo), some (.ref oc), z2, some (.int t), z4, z5], [], zhp h) r) (n : Nat) (s : Int32 × Int32 × Int32) (H : zloop (qTr_ruin_b7 oc oo h) n s = some t) (y5 : Option Value) : zEv (zXs Ls xs) (d + 2) zm_103 (7, [some (.ref oo), some (.ref oc), some (.int s.1), some (.int s.2.1), some (.int s.2.2), y5], [], zhp h) r := by
  have Z := zloop_P (P := fun s => ∀ (y5 : Option Value), zEv (zXs Ls xs) (d + 2) zm_103 (7, [some (.ref oo), some (.ref oc), some (.int s.1), some (.int s.2.1), some (.int s.2.2), y5], [], zhp h) r) (b := qTr_ruin_b7 oc oo h) (t := t) (fun s s2 hb hk => by intro y5; exact t_qTr_ruin_b7b ho hb hk y5) (fun s hb => by intro y5; exact t_qTr_ruin_b7b ho hb K y5) n s H
  exact Z y5
def qTr_ruin (oo : Nat) (oc : Nat) (h : zK) : Option (Int32) :=
  (zloop (qTr_ruin_b7 oc oo h) zfu (-1, -1, 0)).bind fun t6 =>
  some t6
theorem t_qTr_ruin {Ls : Nat} {xs : Nat → Int32} {d : Nat} {oo : Nat} {oc : Nat} {h : zK} {p : Int32} (ho : (oc = 7 ∧ oo = 180) ∨ (oc = 22 ∧ oo = 180) ∨ (oc = 7 ∧ oo = 186) ∨ (oc = 22 ∧ oo = 186)) (H : qTr_ruin oo oc h = some p) : zEv (zXs Ls xs) (d + 2) zm_103 (0, [some (.ref oo), some (.ref oc), none, none, none, none], [], zhp h) (some (.int p), zhp h) := by
  unfold qTr_ruin at H
  rcases ho with ⟨rfl, rfl⟩ | ⟨rfl, rfl⟩ | ⟨rfl, rfl⟩ | ⟨rfl, rfl⟩
  · refine zEv_k 6 (f' := (7, [some (.ref 180), some (.ref 7), some (.int (-1)), some (.int (-1)), some (.int 0), none], [], zhp h)) rfl ?_
    obtain ⟨t6, ht6, H⟩ := zbs H
    refine t_qTr_ruin_b7 (oc := 7) (oo := 180) (h := h) (by decide) ?_ zfu _ ht6 _
    intro y2 y4 y5
    refine zEv_k 1 (f' := (47, [some (.ref 180), some (.ref 7), y2, some (.int t6), y4, y5], [.int t6], zhp h)) rfl ?_
    cases H
    exact zEv_r rfl
  · refine zEv_k 6 (f' := (7, [some (.ref 180), some (.ref 22), some (.int (-1)), some (.int (-1)), some (.int 0), none], [], zhp h)) rfl ?_
    obtain ⟨t6, ht6, H⟩ := zbs H
    refine t_qTr_ruin_b7 (oc := 22) (oo := 180) (h := h) (by decide) ?_ zfu _ ht6 _
    intro y2 y4 y5
    refine zEv_k 1 (f' := (47, [some (.ref 180), some (.ref 22), y2, some (.int t6), y4, y5], [.int t6], zhp h)) rfl ?_
    cases H
    exact zEv_r rfl
  · refine zEv_k 6 (f' := (7, [some (.ref 186), some (.ref 7), some (.int (-1)), some (.int (-1)), some (.int 0), none], [], zhp h)) rfl ?_
    obtain ⟨t6, ht6, H⟩ := zbs H
    refine t_qTr_ruin_b7 (oc := 7) (oo := 186) (h := h) (by decide) ?_ zfu _ ht6 _
    intro y2 y4 y5
    refine zEv_k 1 (f' := (47, [some (.ref 186), some (.ref 7), y2, some (.int t6), y4, y5], [.int t6], zhp h)) rfl ?_
    cases H
    exact zEv_r rfl
  · refine zEv_k 6 (f' := (7, [some (.ref 186), some (.ref 22), some (.int (-1)), some (.int (-1)), some (.int 0), none], [], zhp h)) rfl ?_
    obtain ⟨t6, ht6, H⟩ := zbs H
    refine t_qTr_ruin_b7 (oc := 22) (oo := 186) (h := h) (by decide) ?_ zfu _ ht6 _
    intro y2 y4 y5
    refine zEv_k 1 (f' := (47, [some (.ref 186), some (.ref 22), y2, some (.int t6), y4, y5], [.int t6], zhp h)) rfl ?_
    cases H
    exact zEv_r rfl
def qTr_ruinWit (oo : Nat) (oc : Nat) (h : zK) : Option (Int32) :=
  (qTr_ruin oo oc h).bind fun p1 =>
  if ¬ p1 = (-1) then
    (qTr_from oo p1 h).bind fun p3 =>
    (qLk_witOf oc p3 h).bind fun p4 =>
    some p4
  else
    some 0
theorem t_qTr_ruinWit {Ls : Nat} {xs : Nat → Int32} {d : Nat} {oo : Nat} {oc : Nat} {h : zK} {p : Int32} (ho : (oc = 7 ∧ oo = 180) ∨ (oc = 22 ∧ oo = 180) ∨ (oc = 7 ∧ oo = 186) ∨ (oc = 22 ∧ oo = 186)) (H : qTr_ruinWit oo oc h = some p) : zEv (zXs Ls xs) (d + 3) zm_104 (0, [some (.ref oo), some (.ref oc), none], [], zhp h) (some (.int p), zhp h) := by
  unfold qTr_ruinWit at H
  rcases ho with ⟨rfl, rfl⟩ | ⟨rfl, rfl⟩ | ⟨rfl, rfl⟩ | ⟨rfl, rfl⟩
  · refine zEv_k 2 (f' := (2, [some (.ref 180), some (.ref 7), none], [.ref 7, .ref 180], zhp h)) rfl ?_
    obtain ⟨p1, hp1, H⟩ := zbs H
    refine zEv_c (fun _ => rfl) rfl (t_qTr_ruin (oo := 180) (oc := 7) (h := h) (d := d) (by decide) hp1) rfl rfl ?_
    refine zEv_k 4 (f' := (if ¬ p1 = (-1) then 15 else 11, [some (.ref 180), some (.ref 7), some (.int p1)], [], zhp h)) rfl (zEv_if (fun c2 => ?_) (fun c2 => ?_))
    · replace H := zif_t c2 H
      refine zEv_k 3 (f' := (18, [some (.ref 180), some (.ref 7), some (.int p1)], [.int p1, .ref 180, .ref 7], zhp h)) rfl ?_
      obtain ⟨p3, hp3, H⟩ := zbs H
      refine zEv_c (fun _ => rfl) rfl (t_qTr_from (oo := 180) (x1 := p1) (h := h) (d := d + 1) (by decide) hp3) rfl rfl ?_
      obtain ⟨p4, hp4, H⟩ := zbs H
      refine zEv_c (fun _ => rfl) rfl (t_qLk_witOf (oc := 7) (x1 := p3) (h := h) (d := d + 1) (by decide) hp4) rfl rfl ?_
      cases H
      exact zEv_r rfl
    · replace H := zif_f c2 H
      refine zEv_k 2 (f' := (24, [some (.ref 180), some (.ref 7), some (.int p1)], [.int 0], zhp h)) rfl ?_
      cases H
      exact zEv_r rfl
  · refine zEv_k 2 (f' := (2, [some (.ref 180), some (.ref 22), none], [.ref 22, .ref 180], zhp h)) rfl ?_
    obtain ⟨p1, hp1, H⟩ := zbs H
    refine zEv_c (fun _ => rfl) rfl (t_qTr_ruin (oo := 180) (oc := 22) (h := h) (d := d) (by decide) hp1) rfl rfl ?_
    refine zEv_k 4 (f' := (if ¬ p1 = (-1) then 15 else 11, [some (.ref 180), some (.ref 22), some (.int p1)], [], zhp h)) rfl (zEv_if (fun c2 => ?_) (fun c2 => ?_))
    · replace H := zif_t c2 H
      refine zEv_k 3 (f' := (18, [some (.ref 180), some (.ref 22), some (.int p1)], [.int p1, .ref 180, .ref 22], zhp h)) rfl ?_
      obtain ⟨p3, hp3, H⟩ := zbs H
      refine zEv_c (fun _ => rfl) rfl (t_qTr_from (oo := 180) (x1 := p1) (h := h) (d := d + 1) (by decide) hp3) rfl rfl ?_
      obtain ⟨p4, hp4, H⟩ := zbs H
      refine zEv_c (fun _ => rfl) rfl (t_qLk_witOf (oc := 22) (x1 := p3) (h := h) (d := d + 1) (by decide) hp4) rfl rfl ?_
      cases H
      exact zEv_r rfl
    · replace H := zif_f c2 H
      refine zEv_k 2 (f' := (24, [some (.ref 180), some (.ref 22), some (.int p1)], [.int 0], zhp h)) rfl ?_
      cases H
      exact zEv_r rfl
  · refine zEv_k 2 (f' := (2, [some (.ref 186), some (.ref 7), none], [.ref 7, .ref 186], zhp h)) rfl ?_
    obtain ⟨p1, hp1, H⟩ := zbs H
    refine zEv_c (fun _ => rfl) rfl (t_qTr_ruin (oo := 186) (oc := 7) (h := h) (d := d) (by decide) hp1) rfl rfl ?_
    refine zEv_k 4 (f' := (if ¬ p1 = (-1) then 15 else 11, [some (.ref 186), some (.ref 7), some (.int p1)], [], zhp h)) rfl (zEv_if (fun c2 => ?_) (fun c2 => ?_))
    · replace H := zif_t c2 H
      refine zEv_k 3 (f' := (18, [some (.ref 186), some (.ref 7), some (.int p1)], [.int p1, .ref 186, .ref 7], zhp h)) rfl ?_
      obtain ⟨p3, hp3, H⟩ := zbs H
      refine zEv_c (fun _ => rfl) rfl (t_qTr_from (oo := 186) (x1 := p1) (h := h) (d := d + 1) (by decide) hp3) rfl rfl ?_
      obtain ⟨p4, hp4, H⟩ := zbs H
      refine zEv_c (fun _ => rfl) rfl (t_qLk_witOf (oc := 7) (x1 := p3) (h := h) (d := d + 1) (by decide) hp4) rfl rfl ?_
      cases H
      exact zEv_r rfl
    · replace H := zif_f c2 H
      refine zEv_k 2 (f' := (24, [some (.ref 186), some (.ref 7), some (.int p1)], [.int 0], zhp h)) rfl ?_
      cases H
      exact zEv_r rfl
  · refine zEv_k 2 (f' := (2, [some (.ref 186), some (.ref 22), none], [.ref 22, .ref 186], zhp h)) rfl ?_
    obtain ⟨p1, hp1, H⟩ := zbs H
    refine zEv_c (fun _ => rfl) rfl (t_qTr_ruin (oo := 186) (oc := 22) (h := h) (d := d) (by decide) hp1) rfl rfl ?_
    refine zEv_k 4 (f' := (if ¬ p1 = (-1) then 15 else 11, [some (.ref 186), some (.ref 22), some (.int p1)], [], zhp h)) rfl (zEv_if (fun c2 => ?_) (fun c2 => ?_))
    · replace H := zif_t c2 H
      refine zEv_k 3 (f' := (18, [some (.ref 186), some (.ref 22), some (.int p1)], [.int p1, .ref 186, .ref 22], zhp h)) rfl ?_
      obtain ⟨p3, hp3, H⟩ := zbs H
      refine zEv_c (fun _ => rfl) rfl (t_qTr_from (oo := 186) (x1 := p1) (h := h) (d := d + 1) (by decide) hp3) rfl rfl ?_
      obtain ⟨p4, hp4, H⟩ := zbs H
      refine zEv_c (fun _ => rfl) rfl (t_qLk_witOf (oc := 22) (x1 := p3) (h := h) (d := d + 1) (by decide) hp4) rfl rfl ?_
      cases H
      exact zEv_r rfl
    · replace H := zif_f c2 H
      refine zEv_k 2 (f' := (24, [some (.ref 186), some (.ref 22), some (.int p1)], [.int 0], zhp h)) rfl ?_
      cases H
      exact zEv_r rfl
def qTr_rowOf_b17 (oo : Nat) (x3 : Int32) (h : zK) (s : Int32 × Int32) : Option ((Int32 × Int32) ⊕ (Int32)) :=
  if (gI h oo 0) ≤ s.2 then
    some (.inr s.1)
  else
    Option.bind (
        if (zf_cin s.1 s.2) = 0 then
          some s.1
        else
          (zix s.2 7).bind fun j5 =>
          some (s.1 ||| (gI h (oo + 2) j5))
      ) fun (v4 : Int32) =>
    some (.inl (v4, s.2 + 1))
theorem t_qTr_rowOf_b17b {Ls : Nat} {xs : Nat → Int32} {d : Nat} {oo : Nat} {x3 : Int32} {h : zK} {r : zA} {s : Int32 × Int32} {e : (Int32 × Int32) ⊕ (Int32)} (ho : oo = 180 ∨ oo = 186) (H : qTr_rowOf_b17 oo x3 h s = some e) (K : match (generalizing := false) e with | .inl s' => ∀ (z1 : Option Value), zEv (zXs Ls xs) (d + 1) zm_107 (17, [some (.ref oo), z1, some (.int s'.1), some (.int x3), some (.int s'.2)], [], zhp h) r | .inr v => ∀ (z1 : Option Value) (z4 : Option Value), zEv (zXs Ls xs) (d + 1) zm_107 (51, [some (.ref oo), z1, some (.int v), some (.int x3), z4], [], zhp h) r) (y1 : Option Value) : zEv (zXs Ls xs) (d + 1) zm_107 (17, [some (.ref oo), y1, some (.int s.1), some (.int x3), some (.int s.2)], [], zhp h) r := by
  unfold qTr_rowOf_b17 at H
  rcases ho with rfl | rfl
  · refine zEv_k 4 (f' := (if (gI h 180 0) ≤ s.2 then 51 else 26, [some (.ref 180), y1, some (.int s.1), some (.int x3), some (.int s.2)], [], zhp h)) rfl (zEv_if (fun c2 => ?_) (fun c2 => ?_))
    · replace H := zif_t c2 H
      cases H
      exact K _ _
    · replace H := zif_f c2 H
      obtain ⟨v4, hv4, H⟩ := zbs H
      have kv4 : ∀ (y1 : Option Value), zEv (zXs Ls xs) (d + 1) zm_107 (45, [some (.ref 180), y1, some (.int v4), some (.int x3), some (.int s.2)], [], zhp h) r := by
        intro y1
        refine zEv_k 2 (f' := (17, [some (.ref 180), y1, some (.int v4), some (.int x3), some (.int (s.2 + 1))], [], zhp h)) rfl ?_
        cases H
        exact K _
      clear H
      refine zEv_k 2 (f' := (29, [some (.ref 180), y1, some (.int s.1), some (.int x3), some (.int s.2)], [.int s.2, .int s.1], zhp h)) rfl ?_
      refine zEv_c (fun _ => rfl) rfl ev_zf_cin rfl rfl ?_
      refine zEv_k 1 (f' := (if (zf_cin s.1 s.2) = 0 then 45 else 35, [some (.ref 180), y1, some (.int s.1), some (.int x3), some (.int s.2)], [], zhp h)) rfl (zEv_if (fun c3 => ?_) (fun c3 => ?_))
      · replace hv4 := zif_t c3 hv4
        cases hv4
        exact kv4 _
      · replace hv4 := zif_f c3 hv4
        refine zEv_k 2 (f' := (37, [some (.ref 180), y1, some (.int s.1), some (.int x3), some (.int s.2)], [.ref 180, .int s.1], zhp h)) rfl ?_
        refine zRgr rfl rfl rfl (by decide) (b := 180 + 2) rfl ?_
        refine zEv_k 1 (f' := (42, [some (.ref 180), y1, some (.int s.1), some (.int x3), some (.int s.2)], [.int s.2, .ref (180 + 2), .int s.1], zhp h)) rfl ?_
        obtain ⟨j5, hj5, hv4⟩ := zbs hv4
        refine zRia rfl rfl (by decide) hj5 ?_
        refine zEv_k 2 (f' := (45, [some (.ref 180), zlost y1, some (.int (s.1 ||| (gI h (180 + 2) j5))), some (.int x3), some (.int s.2)], [], zhp h)) rfl ?_
        cases hv4
        exact kv4 _
  · refine zEv_k 4 (f' := (if (gI h 186 0) ≤ s.2 then 51 else 26, [some (.ref 186), y1, some (.int s.1), some (.int x3), some (.int s.2)], [], zhp h)) rfl (zEv_if (fun c2 => ?_) (fun c2 => ?_))
    · replace H := zif_t c2 H
      cases H
      exact K _ _
    · replace H := zif_f c2 H
      obtain ⟨v4, hv4, H⟩ := zbs H
      have kv4 : ∀ (y1 : Option Value), zEv (zXs Ls xs) (d + 1) zm_107 (45, [some (.ref 186), y1, some (.int v4), some (.int x3), some (.int s.2)], [], zhp h) r := by
        intro y1
        refine zEv_k 2 (f' := (17, [some (.ref 186), y1, some (.int v4), some (.int x3), some (.int (s.2 + 1))], [], zhp h)) rfl ?_
        cases H
        exact K _
      clear H
      refine zEv_k 2 (f' := (29, [some (.ref 186), y1, some (.int s.1), some (.int x3), some (.int s.2)], [.int s.2, .int s.1], zhp h)) rfl ?_
      refine zEv_c (fun _ => rfl) rfl ev_zf_cin rfl rfl ?_
      refine zEv_k 1 (f' := (if (zf_cin s.1 s.2) = 0 then 45 else 35, [some (.ref 186), y1, some (.int s.1), some (.int x3), some (.int s.2)], [], zhp h)) rfl (zEv_if (fun c3 => ?_) (fun c3 => ?_))
      · replace hv4 := zif_t c3 hv4
        cases hv4
        exact kv4 _
      · replace hv4 := zif_f c3 hv4
        refine zEv_k 2 (f' := (37, [some (.ref 186), y1, some (.int s.1), some (.int x3), some (.int s.2)], [.ref 186, .int s.1], zhp h)) rfl ?_
        refine zRgr rfl rfl rfl (by decide) (b := 186 + 2) rfl ?_
        refine zEv_k 1 (f' := (42, [some (.ref 186), y1, some (.int s.1), some (.int x3), some (.int s.2)], [.int s.2, .ref (186 + 2), .int s.1], zhp h)) rfl ?_
        obtain ⟨j5, hj5, hv4⟩ := zbs hv4
        refine zRia rfl rfl (by decide) hj5 ?_
        refine zEv_k 2 (f' := (45, [some (.ref 186), zlost y1, some (.int (s.1 ||| (gI h (186 + 2) j5))), some (.int x3), some (.int s.2)], [], zhp h)) rfl ?_
        cases hv4
        exact kv4 _
theorem t_qTr_rowOf_b17 {Ls : Nat} {xs : Nat → Int32} {d : Nat} {oo : Nat} {x3 : Int32} {h : zK} {r : zA} (ho : oo = 180 ∨ oo = 186) {t : Int32} (K : ∀ (z1 : Option Value) (z4 : Option Value), zEv (zXs Ls xs) (d + 1) zm_107 (51, [some (.ref oo), z1, some (.int t), some (.int x3), z4], [], zhp h) r) (n : Nat) (s : Int32 × Int32) (H : zloop (qTr_rowOf_b17 oo x3 h) n s = some t) (y1 : Option Value) : zEv (zXs Ls xs) (d + 1) zm_107 (17, [some (.ref oo), y1, some (.int s.1), some (.int x3), some (.int s.2)], [], zhp h) r := by
  have Z := zloop_P (P := fun s => ∀ (y1 : Option Value), zEv (zXs Ls xs) (d + 1) zm_107 (17, [some (.ref oo), y1, some (.int s.1), some (.int x3), some (.int s.2)], [], zhp h) r) (b := qTr_rowOf_b17 oo x3 h) (t := t) (fun s s2 hb hk => by intro y1; exact t_qTr_rowOf_b17b ho hb hk y1) (fun s hb => by intro y1; exact t_qTr_rowOf_b17b ho hb K y1) n s H
  exact Z y1
def qTr_rowOf_b6 (oo : Nat) (h : zK) (s : Int32 × Int32) : Option ((Int32 × Int32) ⊕ (Int32)) :=
  if (gI h oo 0) ≤ s.2 then
    some (.inr s.1)
  else
    (zloop (qTr_rowOf_b17 oo s.2 h) zfu (s.1, 0)).bind fun t6 =>
    some (.inl (t6, s.2 + 1))
theorem t_qTr_rowOf_b6b {Ls : Nat} {xs : Nat → Int32} {d : Nat} {oo : Nat} {h : zK} {r : zA} {s : Int32 × Int32} {e : (Int32 × Int32) ⊕ (Int32)} (ho : oo = 180 ∨ oo = 186) (H : qTr_rowOf_b6 oo h s = some e) (K : match (generalizing := false) e with | .inl s' => ∀ (z1 : Option Value) (z4 : Option Value), zEv (zXs Ls xs) (d + 1) zm_107 (6, [some (.ref oo), z1, some (.int s'.1), some (.int s'.2), z4], [], zhp h) r | .inr v => ∀ (z1 : Option Value) (z3 : Option Value) (z4 : Option Value), zEv (zXs Ls xs) (d + 1) zm_107 (57, [some (.ref oo), z1, some (.int v), z3, z4], [], zhp h) r) (y1 : Option Value) (y4 : Option Value) : zEv (zXs Ls xs) (d + 1) zm_107 (6, [some (.ref oo), y1, some (.int s.1), some (.int s.2), y4], [], zhp h) r := by
  unfold qTr_rowOf_b6 at H
  rcases ho with rfl | rfl
  · refine zEv_k 4 (f' := (if (gI h 180 0) ≤ s.2 then 57 else 14, [some (.ref 180), y1, some (.int s.1), some (.int s.2), y4], [], zhp h)) rfl (zEv_if (fun c1 => ?_) (fun c1 => ?_))
    · replace H := zif_t c1 H
      cases H
      exact K _ _ _
    · replace H := zif_f c1 H
      refine zEv_k 2 (f' := (17, [some (.ref 180), y1, some (.int s.1), some (.int s.2), some (.int 0)], [], zhp h)) rfl ?_
      obtain ⟨t6, ht6, H⟩ := zbs H
      refine t_qTr_rowOf_b17 (oo := 180) (x3 := s.2) (h := h) (by decide) ?_ zfu _ ht6 _
      intro y1 y4
      refine zEv_k 2 (f' := (6, [some (.ref 180), y1, some (.int t6), some (.int (s.2 + 1)), y4], [], zhp h)) rfl ?_
      cases H
      exact K _ _
  · refine zEv_k 4 (f' := (if (gI h 186 0) ≤ s.2 then 57 else 14, [some (.ref 186), y1, some (.int s.1), some (.int s.2), y4], [], zhp h)) rfl (zEv_if (fun c1 => ?_) (fun c1 => ?_))
    · replace H := zif_t c1 H
      cases H
      exact K _ _ _
    · replace H := zif_f c1 H
      refine zEv_k 2 (f' := (17, [some (.ref 186), y1, some (.int s.1), some (.int s.2), some (.int 0)], [], zhp h)) rfl ?_
      obtain ⟨t6, ht6, H⟩ := zbs H
      refine t_qTr_rowOf_b17 (oo := 186) (x3 := s.2) (h := h) (by decide) ?_ zfu _ ht6 _
      intro y1 y4
      refine zEv_k 2 (f' := (6, [some (.ref 186), y1, some (.int t6), some (.int (s.2 + 1)), y4], [], zhp h)) rfl ?_
      cases H
      exact K _ _
theorem t_qTr_rowOf_b6 {Ls : Nat} {xs : Nat → Int32} {d : Nat} {oo : Nat} {h : zK} {r : zA} (ho : oo = 180 ∨ oo = 186) {t : Int32} (K : ∀ (z1 : Option Value) (z3 : Option Value) (z4 : Option Value), zEv (zXs Ls xs) (d + 1) zm_107 (57, [some (.ref oo), z1, some (.int t), z3, z4], [], zhp h) r) (n : Nat) (s : Int32 × Int32) (H : zloop (qTr_rowOf_b6 oo h) n s = some t) (y1 : Option Value) (y4 : Option Value) : zEv (zXs Ls xs) (d + 1) zm_107 (6, [some (.ref oo), y1, some (.int s.1), some (.int s.2), y4], [], zhp h) r := by
  have Z := zloop_P (P := fun s => ∀ (y1 : Option Value) (y4 : Option Value), zEv (zXs Ls xs) (d + 1) zm_107 (6, [some (.ref oo), y1, some (.int s.1), some (.int s.2), y4], [], zhp h) r) (b := qTr_rowOf_b6 oo h) (t := t) (fun s s2 hb hk => by intro y1 y4; exact t_qTr_rowOf_b6b ho hb hk y1 y4) (fun s hb => by intro y1 y4; exact t_qTr_rowOf_b6b ho hb K y1 y4) n s H
  exact Z y1 y4
def qTr_rowOf (oo : Nat) (x1 : Int32) (h : zK) : Option (Int32) :=
  (zloop (qTr_rowOf_b6 oo h) zfu ((1 : Int32) <<< (x1 &&& 31), 0)).bind fun t8 =>
  some t8
theorem t_qTr_rowOf {Ls : Nat} {xs : Nat → Int32} {d : Nat} {oo : Nat} {x1 : Int32} {h : zK} {p : Int32} (ho : oo = 180 ∨ oo = 186) (H : qTr_rowOf oo x1 h = some p) : zEv (zXs Ls xs) (d + 1) zm_107 (0, [some (.ref oo), some (.int x1), none, none, none], [], zhp h) (some (.int p), zhp h) := by
  unfold qTr_rowOf at H
  rcases ho with rfl | rfl
  · refine zEv_k 6 (f' := (6, [some (.ref 180), some (.int x1), some (.int ((1 : Int32) <<< (x1 &&& 31))), some (.int 0), none], [], zhp h)) rfl ?_
    obtain ⟨t8, ht8, H⟩ := zbs H
    refine t_qTr_rowOf_b6 (oo := 180) (h := h) (by decide) ?_ zfu _ ht8 _ _
    intro y1 y3 y4
    refine zEv_k 1 (f' := (58, [some (.ref 180), y1, some (.int t8), y3, y4], [.int t8], zhp h)) rfl ?_
    cases H
    exact zEv_r rfl
  · refine zEv_k 6 (f' := (6, [some (.ref 186), some (.int x1), some (.int ((1 : Int32) <<< (x1 &&& 31))), some (.int 0), none], [], zhp h)) rfl ?_
    obtain ⟨t8, ht8, H⟩ := zbs H
    refine t_qTr_rowOf_b6 (oo := 186) (h := h) (by decide) ?_ zfu _ ht8 _ _
    intro y1 y3 y4
    refine zEv_k 1 (f' := (58, [some (.ref 186), y1, some (.int t8), y3, y4], [.int t8], zhp h)) rfl ?_
    cases H
    exact zEv_r rfl
def qTr_rows_b6 (oo : Nat) (h : zK) (s : Int32 × Int32 × Int32) : Option ((Int32 × Int32 × Int32) ⊕ (Int32)) :=
  if (gI h oo 0) ≤ s.2.2 then
    some (.inr s.1)
  else
    Option.bind (
        if ¬ (zf_cin s.2.1 s.2.2) = 0 then
          some (s.1, s.2.1)
        else
          (qTr_rowOf oo s.2.2 h).bind fun p4 =>
          some (s.1 + 1, s.2.1 ||| p4)
      ) fun (v3 : Int32 × Int32) =>
    some (.inl (v3.1, v3.2, s.2.2 + 1))
theorem t_qTr_rows_b6b {Ls : Nat} {xs : Nat → Int32} {d : Nat} {oo : Nat} {h : zK} {r : zA} {s : Int32 × Int32 × Int32} {e : (Int32 × Int32 × Int32) ⊕ (Int32)} (ho : oo = 180 ∨ oo = 186) (H : qTr_rows_b6 oo h s = some e) (K : match (generalizing := false) e with | .inl s' => zEv (zXs Ls xs) (d + 2) zm_105 (6, [some (.ref oo), some (.int s'.1), some (.int s'.2.1), some (.int s'.2.2)], [], zhp h) r | .inr v => ∀ (z2 : Option Value) (z3 : Option Value), zEv (zXs Ls xs) (d + 2) zm_105 (39, [some (.ref oo), some (.int v), z2, z3], [], zhp h) r) : zEv (zXs Ls xs) (d + 2) zm_105 (6, [some (.ref oo), some (.int s.1), some (.int s.2.1), some (.int s.2.2)], [], zhp h) r := by
  unfold qTr_rows_b6 at H
  rcases ho with rfl | rfl
  · refine zEv_k 4 (f' := (if (gI h 180 0) ≤ s.2.2 then 39 else 14, [some (.ref 180), some (.int s.1), some (.int s.2.1), some (.int s.2.2)], [], zhp h)) rfl (zEv_if (fun c1 => ?_) (fun c1 => ?_))
    · replace H := zif_t c1 H
      cases H
      exact K _ _
    · replace H := zif_f c1 H
      obtain ⟨v3, hv3, H⟩ := zbs H
      have kv3 : zEv (zXs Ls xs) (d + 2) zm_105 (33, [some (.ref 180), some (.int v3.1), some (.int v3.2), some (.int s.2.2)], [], zhp h) r := by
        refine zEv_k 2 (f' := (6, [some (.ref 180), some (.int v3.1), some (.int v3.2), some (.int (s.2.2 + 1))], [], zhp h)) rfl ?_
        cases H
        exact K
      clear H
      refine zEv_k 2 (f' := (16, [some (.ref 180), some (.int s.1), some (.int s.2.1), some (.int s.2.2)], [.int s.2.2, .int s.2.1], zhp h)) rfl ?_
      refine zEv_c (fun _ => rfl) rfl ev_zf_cin rfl rfl ?_
      refine zEv_k 1 (f' := (if ¬ (zf_cin s.2.1 s.2.2) = 0 then 33 else 22, [some (.ref 180), some (.int s.1), some (.int s.2.1), some (.int s.2.2)], [], zhp h)) rfl (zEv_if (fun c2 => ?_) (fun c2 => ?_))
      · replace hv3 := zif_t c2 hv3
        cases hv3
        exact kv3
      · replace hv3 := zif_f c2 hv3
        refine zEv_k 3 (f' := (25, [some (.ref 180), some (.int s.1), some (.int s.2.1), some (.int s.2.2)], [.int s.2.2, .ref 180, .int s.2.1], zhp h)) rfl ?_
        obtain ⟨p4, hp4, hv3⟩ := zbs hv3
        refine zEv_c (fun _ => rfl) rfl (t_qTr_rowOf (oo := 180) (x1 := s.2.2) (h := h) (d := d) (by decide) hp4) rfl rfl ?_
        refine zEv_k 3 (f' := (33, [some (.ref 180), some (.int (s.1 + 1)), some (.int (s.2.1 ||| p4)), some (.int s.2.2)], [], zhp h)) rfl ?_
        cases hv3
        exact kv3
  · refine zEv_k 4 (f' := (if (gI h 186 0) ≤ s.2.2 then 39 else 14, [some (.ref 186), some (.int s.1), some (.int s.2.1), some (.int s.2.2)], [], zhp h)) rfl (zEv_if (fun c1 => ?_) (fun c1 => ?_))
    · replace H := zif_t c1 H
      cases H
      exact K _ _
    · replace H := zif_f c1 H
      obtain ⟨v3, hv3, H⟩ := zbs H
      have kv3 : zEv (zXs Ls xs) (d + 2) zm_105 (33, [some (.ref 186), some (.int v3.1), some (.int v3.2), some (.int s.2.2)], [], zhp h) r := by
        refine zEv_k 2 (f' := (6, [some (.ref 186), some (.int v3.1), some (.int v3.2), some (.int (s.2.2 + 1))], [], zhp h)) rfl ?_
        cases H
        exact K
      clear H
      refine zEv_k 2 (f' := (16, [some (.ref 186), some (.int s.1), some (.int s.2.1), some (.int s.2.2)], [.int s.2.2, .int s.2.1], zhp h)) rfl ?_
      refine zEv_c (fun _ => rfl) rfl ev_zf_cin rfl rfl ?_
      refine zEv_k 1 (f' := (if ¬ (zf_cin s.2.1 s.2.2) = 0 then 33 else 22, [some (.ref 186), some (.int s.1), some (.int s.2.1), some (.int s.2.2)], [], zhp h)) rfl (zEv_if (fun c2 => ?_) (fun c2 => ?_))
      · replace hv3 := zif_t c2 hv3
        cases hv3
        exact kv3
      · replace hv3 := zif_f c2 hv3
        refine zEv_k 3 (f' := (25, [some (.ref 186), some (.int s.1), some (.int s.2.1), some (.int s.2.2)], [.int s.2.2, .ref 186, .int s.2.1], zhp h)) rfl ?_
        obtain ⟨p4, hp4, hv3⟩ := zbs hv3
        refine zEv_c (fun _ => rfl) rfl (t_qTr_rowOf (oo := 186) (x1 := s.2.2) (h := h) (d := d) (by decide) hp4) rfl rfl ?_
        refine zEv_k 3 (f' := (33, [some (.ref 186), some (.int (s.1 + 1)), some (.int (s.2.1 ||| p4)), some (.int s.2.2)], [], zhp h)) rfl ?_
        cases hv3
        exact kv3
theorem t_qTr_rows_b6 {Ls : Nat} {xs : Nat → Int32} {d : Nat} {oo : Nat} {h : zK} {r : zA} (ho : oo = 180 ∨ oo = 186) {t : Int32} (K : ∀ (z2 : Option Value) (z3 : Option Value), zEv (zXs Ls xs) (d + 2) zm_105 (39, [some (.ref oo), some (.int t), z2, z3], [], zhp h) r) (n : Nat) (s : Int32 × Int32 × Int32) (H : zloop (qTr_rows_b6 oo h) n s = some t) : zEv (zXs Ls xs) (d + 2) zm_105 (6, [some (.ref oo), some (.int s.1), some (.int s.2.1), some (.int s.2.2)], [], zhp h) r := by
  have Z := zloop_P (P := fun s => zEv (zXs Ls xs) (d + 2) zm_105 (6, [some (.ref oo), some (.int s.1), some (.int s.2.1), some (.int s.2.2)], [], zhp h) r) (b := qTr_rows_b6 oo h) (t := t) (fun s s2 hb hk => by exact t_qTr_rows_b6b ho hb hk) (fun s hb => by exact t_qTr_rows_b6b ho hb K) n s H
  exact Z
def qTr_rows (oo : Nat) (h : zK) : Option (Int32) :=
  (zloop (qTr_rows_b6 oo h) zfu (0, 0, 0)).bind fun t5 =>
  some t5
theorem t_qTr_rows {Ls : Nat} {xs : Nat → Int32} {d : Nat} {oo : Nat} {h : zK} {p : Int32} (ho : oo = 180 ∨ oo = 186) (H : qTr_rows oo h = some p) : zEv (zXs Ls xs) (d + 2) zm_105 (0, [some (.ref oo), none, none, none], [], zhp h) (some (.int p), zhp h) := by
  unfold qTr_rows at H
  rcases ho with rfl | rfl
  · refine zEv_k 6 (f' := (6, [some (.ref 180), some (.int 0), some (.int 0), some (.int 0)], [], zhp h)) rfl ?_
    obtain ⟨t5, ht5, H⟩ := zbs H
    refine t_qTr_rows_b6 (oo := 180) (h := h) (by decide) ?_ zfu _ ht5
    intro y2 y3
    refine zEv_k 1 (f' := (40, [some (.ref 180), some (.int t5), y2, y3], [.int t5], zhp h)) rfl ?_
    cases H
    exact zEv_r rfl
  · refine zEv_k 6 (f' := (6, [some (.ref 186), some (.int 0), some (.int 0), some (.int 0)], [], zhp h)) rfl ?_
    obtain ⟨t5, ht5, H⟩ := zbs H
    refine t_qTr_rows_b6 (oo := 186) (h := h) (by decide) ?_ zfu _ ht5
    intro y2 y3
    refine zEv_k 1 (f' := (40, [some (.ref 186), some (.int t5), y2, y3], [.int t5], zhp h)) rfl ?_
    cases H
    exact zEv_r rfl
def qTr_largestRow_b4 (oo : Nat) (h : zK) (s : Int32 × Int32) : Option ((Int32 × Int32) ⊕ (Int32)) :=
  if (gI h oo 0) ≤ s.2 then
    some (.inr s.1)
  else
    (qTr_rowOf oo s.2 h).bind fun p2 =>
    some (.inl (zf_max s.1 (qIn_bitCount p2), s.2 + 1))
theorem t_qTr_largestRow_b4b {Ls : Nat} {xs : Nat → Int32} {d : Nat} {oo : Nat} {h : zK} {r : zA} {s : Int32 × Int32} {e : (Int32 × Int32) ⊕ (Int32)} (ho : oo = 180 ∨ oo = 186) (H : qTr_largestRow_b4 oo h s = some e) (K : match (generalizing := false) e with | .inl s' => zEv (zXs Ls xs) (d + 2) zm_106 (4, [some (.ref oo), some (.int s'.1), some (.int s'.2)], [], zhp h) r | .inr v => ∀ (z2 : Option Value), zEv (zXs Ls xs) (d + 2) zm_106 (31, [some (.ref oo), some (.int v), z2], [], zhp h) r) : zEv (zXs Ls xs) (d + 2) zm_106 (4, [some (.ref oo), some (.int s.1), some (.int s.2)], [], zhp h) r := by
  unfold qTr_largestRow_b4 at H
  rcases ho with rfl | rfl
  · refine zEv_k 4 (f' := (if (gI h 180 0) ≤ s.2 then 31 else 12, [some (.ref 180), some (.int s.1), some (.int s.2)], [], zhp h)) rfl (zEv_if (fun c1 => ?_) (fun c1 => ?_))
    · replace H := zif_t c1 H
      cases H
      exact K _
    · replace H := zif_f c1 H
      refine zEv_k 3 (f' := (15, [some (.ref 180), some (.int s.1), some (.int s.2)], [.int s.2, .ref 180, .int s.1], zhp h)) rfl ?_
      obtain ⟨p2, hp2, H⟩ := zbs H
      refine zEv_c (fun _ => rfl) rfl (t_qTr_rowOf (oo := 180) (x1 := s.2) (h := h) (d := d) (by decide) hp2) rfl rfl ?_
      refine zEv_c (fun _ => rfl) rfl (t_qIn_bitCount (x0 := p2) (h := h) (d := d + 1) rfl) rfl rfl ?_
      refine zEv_k 4 (f' := (4, [some (.ref 180), some (.int (zf_max s.1 (qIn_bitCount p2))), some (.int (s.2 + 1))], [], zhp h)) rfl ?_
      cases H
      exact K
  · refine zEv_k 4 (f' := (if (gI h 186 0) ≤ s.2 then 31 else 12, [some (.ref 186), some (.int s.1), some (.int s.2)], [], zhp h)) rfl (zEv_if (fun c1 => ?_) (fun c1 => ?_))
    · replace H := zif_t c1 H
      cases H
      exact K _
    · replace H := zif_f c1 H
      refine zEv_k 3 (f' := (15, [some (.ref 186), some (.int s.1), some (.int s.2)], [.int s.2, .ref 186, .int s.1], zhp h)) rfl ?_
      obtain ⟨p2, hp2, H⟩ := zbs H
      refine zEv_c (fun _ => rfl) rfl (t_qTr_rowOf (oo := 186) (x1 := s.2) (h := h) (d := d) (by decide) hp2) rfl rfl ?_
      refine zEv_c (fun _ => rfl) rfl (t_qIn_bitCount (x0 := p2) (h := h) (d := d + 1) rfl) rfl rfl ?_
      refine zEv_k 4 (f' := (4, [some (.ref 186), some (.int (zf_max s.1 (qIn_bitCount p2))), some (.int (s.2 + 1))], [], zhp h)) rfl ?_
      cases H
      exact K
theorem t_qTr_largestRow_b4 {Ls : Nat} {xs : Nat → Int32} {d : Nat} {oo : Nat} {h : zK} {r : zA} (ho : oo = 180 ∨ oo = 186) {t : Int32} (K : ∀ (z2 : Option Value), zEv (zXs Ls xs) (d + 2) zm_106 (31, [some (.ref oo), some (.int t), z2], [], zhp h) r) (n : Nat) (s : Int32 × Int32) (H : zloop (qTr_largestRow_b4 oo h) n s = some t) : zEv (zXs Ls xs) (d + 2) zm_106 (4, [some (.ref oo), some (.int s.1), some (.int s.2)], [], zhp h) r := by
  have Z := zloop_P (P := fun s => zEv (zXs Ls xs) (d + 2) zm_106 (4, [some (.ref oo), some (.int s.1), some (.int s.2)], [], zhp h) r) (b := qTr_largestRow_b4 oo h) (t := t) (fun s s2 hb hk => by exact t_qTr_largestRow_b4b ho hb hk) (fun s hb => by exact t_qTr_largestRow_b4b ho hb K) n s H
  exact Z
def qTr_largestRow (oo : Nat) (h : zK) : Option (Int32) :=
  (zloop (qTr_largestRow_b4 oo h) zfu (0, 0)).bind fun t3 =>
  some t3
theorem t_qTr_largestRow {Ls : Nat} {xs : Nat → Int32} {d : Nat} {oo : Nat} {h : zK} {p : Int32} (ho : oo = 180 ∨ oo = 186) (H : qTr_largestRow oo h = some p) : zEv (zXs Ls xs) (d + 2) zm_106 (0, [some (.ref oo), none, none], [], zhp h) (some (.int p), zhp h) := by
  unfold qTr_largestRow at H
  rcases ho with rfl | rfl
  · refine zEv_k 4 (f' := (4, [some (.ref 180), some (.int 0), some (.int 0)], [], zhp h)) rfl ?_
    obtain ⟨t3, ht3, H⟩ := zbs H
    refine t_qTr_largestRow_b4 (oo := 180) (h := h) (by decide) ?_ zfu _ ht3
    intro y2
    refine zEv_k 1 (f' := (32, [some (.ref 180), some (.int t3), y2], [.int t3], zhp h)) rfl ?_
    cases H
    exact zEv_r rfl
  · refine zEv_k 4 (f' := (4, [some (.ref 186), some (.int 0), some (.int 0)], [], zhp h)) rfl ?_
    obtain ⟨t3, ht3, H⟩ := zbs H
    refine t_qTr_largestRow_b4 (oo := 186) (h := h) (by decide) ?_ zfu _ ht3
    intro y2
    refine zEv_k 1 (f' := (32, [some (.ref 186), some (.int t3), y2], [.int t3], zhp h)) rfl ?_
    cases H
    exact zEv_r rfl
def qTr_isCalmWithout_b12 (oo : Nat) (x1 : Int32) (x2 : Int32) (h : zK) (s : Int32) : Option ((Int32) ⊕ ((Unit) ⊕ (Int32))) :=
  if (gI h oo 0) ≤ s then
    some (.inr (.inl ()))
  else
    zlet (
        if x2 = s then
          0
        else
          if ¬ (zf_cin x1 x2) = 0 then
            0
          else
            if ¬ (zf_cin x1 s) = 0 then
              0
            else
              1
      ) fun (v4 : Int32) =>
    if v4 = 0 then
      some (.inl (s + 1))
    else
      (zix s 7).bind fun j8 =>
      zlet (
          if (zf_cin (gI h (oo + 2) j8) x2) = 0 then
            0
          else
            1
        ) fun (v10 : Int32) =>
      if v10 < (gI h (oo + 1) j8) then
        some (.inl (s + 1))
      else
        some (.inr (.inr 0))
theorem t_qTr_isCalmWithout_b12b {Ls : Nat} {xs : Nat → Int32} {d : Nat} {oo : Nat} {x1 : Int32} {x2 : Int32} {h : zK} {r : zA} {s : Int32} {e : (Int32) ⊕ ((Unit) ⊕ (Int32))} (ho : oo = 180 ∨ oo = 186) (H : qTr_isCalmWithout_b12 oo x1 x2 h s = some e) (K : match (generalizing := false) e with | .inl s' => ∀ (z4 : Option Value), zEv (zXs Ls xs) (d + 1) zm_109 (12, [some (.ref oo), some (.int x1), some (.int x2), some (.int s'), z4], [], zhp h) r | .inr (.inl v) => ∀ (z3 : Option Value) (z4 : Option Value), zEv (zXs Ls xs) (d + 1) zm_109 (88, [some (.ref oo), some (.int x1), some (.int x2), z3, z4], [], zhp h) r | .inr (.inr p) => (some (.int p), zhp h) = r) (y4 : Option Value) : zEv (zXs Ls xs) (d + 1) zm_109 (12, [some (.ref oo), some (.int x1), some (.int x2), some (.int s), y4], [], zhp h) r := by
  unfold qTr_isCalmWithout_b12 at H
  rcases ho with rfl | rfl
  · refine zEv_k 4 (f' := (if (gI h 180 0) ≤ s then 88 else 20, [some (.ref 180), some (.int x1), some (.int x2), some (.int s), y4], [], zhp h)) rfl (zEv_if (fun c2 => ?_) (fun c2 => ?_))
    · replace H := zif_t c2 H
      cases H
      exact K _ _
    · replace H := zif_f c2 H
      obtain ⟨v4, hv4, H⟩ := zlets H
      have kv4 : zEv (zXs Ls xs) (d + 1) zm_109 (46, [some (.ref 180), some (.int x1), some (.int x2), some (.int s), y4], [.int v4], zhp h) r := by
        refine zEv_k 3 (f' := (if v4 = 0 then 82 else 53, [some (.ref 180), some (.int x1), some (.int x2), some (.int s), some (.int v4)], [], zhp h)) rfl (zEv_if (fun c7 => ?_) (fun c7 => ?_))
        · replace H := zif_t c7 H
          refine zEv_k 2 (f' := (12, [some (.ref 180), some (.int x1), some (.int x2), some (.int (s + 1)), some (.int v4)], [], zhp h)) rfl ?_
          cases H
          exact K _
        · replace H := zif_f c7 H
          refine zEv_k 1 (f' := (54, [some (.ref 180), some (.int x1), some (.int x2), some (.int s), some (.int v4)], [.ref 180], zhp h)) rfl ?_
          refine zRgr rfl rfl rfl (by decide) (b := 180 + 1) rfl ?_
          refine zEv_k 1 (f' := (58, [some (.ref 180), some (.int x1), some (.int x2), some (.int s), some (.int v4)], [.int s, .ref (180 + 1)], zhp h)) rfl ?_
          obtain ⟨j8, hj8, H⟩ := zbs H
          refine zRia rfl rfl (by decide) hj8 ?_
          obtain ⟨v10, hv10, H⟩ := zlets H
          have kv10 : zEv (zXs Ls xs) (d + 1) zm_109 (77, [some (.ref 180), some (.int x1), some (.int x2), some (.int s), some (.int v4)], [.int v10, .int (gI h (180 + 1) j8)], zhp h) r := by
            refine zEv_k 1 (f' := (if v10 < (gI h (180 + 1) j8) then 82 else 80, [some (.ref 180), some (.int x1), some (.int x2), some (.int s), some (.int v4)], [], zhp h)) rfl (zEv_if (fun c11 => ?_) (fun c11 => ?_))
            · replace H := zif_t c11 H
              refine zEv_k 2 (f' := (12, [some (.ref 180), some (.int x1), some (.int x2), some (.int (s + 1)), some (.int v4)], [], zhp h)) rfl ?_
              cases H
              exact K _
            · replace H := zif_f c11 H
              refine zEv_k 1 (f' := (81, [some (.ref 180), some (.int x1), some (.int x2), some (.int s), some (.int v4)], [.int 0], zhp h)) rfl ?_
              cases H
              exact zEv_re K rfl
          clear H
          refine zEv_k 1 (f' := (60, [some (.ref 180), some (.int x1), some (.int x2), some (.int s), some (.int v4)], [.ref 180, .int (gI h (180 + 1) j8)], zhp h)) rfl ?_
          refine zRgr rfl rfl rfl (by decide) (b := 180 + 2) rfl ?_
          refine zEv_k 1 (f' := (64, [some (.ref 180), some (.int x1), some (.int x2), some (.int s), some (.int v4)], [.int s, .ref (180 + 2), .int (gI h (180 + 1) j8)], zhp h)) rfl ?_
          refine zRia rfl rfl (by decide) hj8 ?_
          refine zEv_k 1 (f' := (66, [some (.ref 180), some (.int x1), some (.int x2), some (.int s), some (.int v4)], [.int x2, .int (gI h (180 + 2) j8), .int (gI h (180 + 1) j8)], zhp h)) rfl ?_
          refine zEv_c (fun _ => rfl) rfl ev_zf_cin rfl rfl ?_
          refine zEv_k 1 (f' := (if (zf_cin (gI h (180 + 2) j8) x2) = 0 then 76 else 72, [some (.ref 180), some (.int x1), some (.int x2), some (.int s), some (.int v4)], [.int (gI h (180 + 1) j8)], zhp h)) rfl (zEv_if (fun c9 => ?_) (fun c9 => ?_))
          · replace hv10 := zif_t c9 hv10
            refine zEv_k 1 (f' := (77, [some (.ref 180), some (.int x1), some (.int x2), some (.int s), some (.int v4)], [.int 0, .int (gI h (180 + 1) j8)], zhp h)) rfl ?_
            cases hv10
            exact kv10
          · replace hv10 := zif_f c9 hv10
            refine zEv_k 2 (f' := (77, [some (.ref 180), some (.int x1), some (.int x2), some (.int s), some (.int v4)], [.int 1, .int (gI h (180 + 1) j8)], zhp h)) rfl ?_
            cases hv10
            exact kv10
      clear H
      refine zEv_k 3 (f' := (if x2 = s then 45 else 25, [some (.ref 180), some (.int x1), some (.int x2), some (.int s), y4], [], zhp h)) rfl (zEv_if (fun c3 => ?_) (fun c3 => ?_))
      · replace hv4 := zif_t c3 hv4
        refine zEv_k 1 (f' := (46, [some (.ref 180), some (.int x1), some (.int x2), some (.int s), y4], [.int 0], zhp h)) rfl ?_
        cases hv4
        exact kv4
      · replace hv4 := zif_f c3 hv4
        refine zEv_k 2 (f' := (27, [some (.ref 180), some (.int x1), some (.int x2), some (.int s), y4], [.int x2, .int x1], zhp h)) rfl ?_
        refine zEv_c (fun _ => rfl) rfl ev_zf_cin rfl rfl ?_
        refine zEv_k 1 (f' := (if ¬ (zf_cin x1 x2) = 0 then 45 else 33, [some (.ref 180), some (.int x1), some (.int x2), some (.int s), y4], [], zhp h)) rfl (zEv_if (fun c5 => ?_) (fun c5 => ?_))
        · replace hv4 := zif_t c5 hv4
          refine zEv_k 1 (f' := (46, [some (.ref 180), some (.int x1), some (.int x2), some (.int s), y4], [.int 0], zhp h)) rfl ?_
          cases hv4
          exact kv4
        · replace hv4 := zif_f c5 hv4
          refine zEv_k 2 (f' := (35, [some (.ref 180), some (.int x1), some (.int x2), some (.int s), y4], [.int s, .int x1], zhp h)) rfl ?_
          refine zEv_c (fun _ => rfl) rfl ev_zf_cin rfl rfl ?_
          refine zEv_k 1 (f' := (if ¬ (zf_cin x1 s) = 0 then 45 else 41, [some (.ref 180), some (.int x1), some (.int x2), some (.int s), y4], [], zhp h)) rfl (zEv_if (fun c6 => ?_) (fun c6 => ?_))
          · replace hv4 := zif_t c6 hv4
            refine zEv_k 1 (f' := (46, [some (.ref 180), some (.int x1), some (.int x2), some (.int s), y4], [.int 0], zhp h)) rfl ?_
            cases hv4
            exact kv4
          · replace hv4 := zif_f c6 hv4
            refine zEv_k 2 (f' := (46, [some (.ref 180), some (.int x1), some (.int x2), some (.int s), y4], [.int 1], zhp h)) rfl ?_
            cases hv4
            exact kv4
  · refine zEv_k 4 (f' := (if (gI h 186 0) ≤ s then 88 else 20, [some (.ref 186), some (.int x1), some (.int x2), some (.int s), y4], [], zhp h)) rfl (zEv_if (fun c2 => ?_) (fun c2 => ?_))
    · replace H := zif_t c2 H
      cases H
      exact K _ _
    · replace H := zif_f c2 H
      obtain ⟨v4, hv4, H⟩ := zlets H
      have kv4 : zEv (zXs Ls xs) (d + 1) zm_109 (46, [some (.ref 186), some (.int x1), some (.int x2), some (.int s), y4], [.int v4], zhp h) r := by
        refine zEv_k 3 (f' := (if v4 = 0 then 82 else 53, [some (.ref 186), some (.int x1), some (.int x2), some (.int s), some (.int v4)], [], zhp h)) rfl (zEv_if (fun c7 => ?_) (fun c7 => ?_))
        · replace H := zif_t c7 H
          refine zEv_k 2 (f' := (12, [some (.ref 186), some (.int x1), some (.int x2), some (.int (s + 1)), some (.int v4)], [], zhp h)) rfl ?_
          cases H
          exact K _
        · replace H := zif_f c7 H
          refine zEv_k 1 (f' := (54, [some (.ref 186), some (.int x1), some (.int x2), some (.int s), some (.int v4)], [.ref 186], zhp h)) rfl ?_
          refine zRgr rfl rfl rfl (by decide) (b := 186 + 1) rfl ?_
          refine zEv_k 1 (f' := (58, [some (.ref 186), some (.int x1), some (.int x2), some (.int s), some (.int v4)], [.int s, .ref (186 + 1)], zhp h)) rfl ?_
          obtain ⟨j8, hj8, H⟩ := zbs H
          refine zRia rfl rfl (by decide) hj8 ?_
          obtain ⟨v10, hv10, H⟩ := zlets H
          have kv10 : zEv (zXs Ls xs) (d + 1) zm_109 (77, [some (.ref 186), some (.int x1), some (.int x2), some (.int s), some (.int v4)], [.int v10, .int (gI h (186 + 1) j8)], zhp h) r := by
            refine zEv_k 1 (f' := (if v10 < (gI h (186 + 1) j8) then 82 else 80, [some (.ref 186), some (.int x1), some (.int x2), some (.int s), some (.int v4)], [], zhp h)) rfl (zEv_if (fun c11 => ?_) (fun c11 => ?_))
            · replace H := zif_t c11 H
              refine zEv_k 2 (f' := (12, [some (.ref 186), some (.int x1), some (.int x2), some (.int (s + 1)), some (.int v4)], [], zhp h)) rfl ?_
              cases H
              exact K _
            · replace H := zif_f c11 H
              refine zEv_k 1 (f' := (81, [some (.ref 186), some (.int x1), some (.int x2), some (.int s), some (.int v4)], [.int 0], zhp h)) rfl ?_
              cases H
              exact zEv_re K rfl
          clear H
          refine zEv_k 1 (f' := (60, [some (.ref 186), some (.int x1), some (.int x2), some (.int s), some (.int v4)], [.ref 186, .int (gI h (186 + 1) j8)], zhp h)) rfl ?_
          refine zRgr rfl rfl rfl (by decide) (b := 186 + 2) rfl ?_
          refine zEv_k 1 (f' := (64, [some (.ref 186), some (.int x1), some (.int x2), some (.int s), some (.int v4)], [.int s, .ref (186 + 2), .int (gI h (186 + 1) j8)], zhp h)) rfl ?_
          refine zRia rfl rfl (by decide) hj8 ?_
          refine zEv_k 1 (f' := (66, [some (.ref 186), some (.int x1), some (.int x2), some (.int s), some (.int v4)], [.int x2, .int (gI h (186 + 2) j8), .int (gI h (186 + 1) j8)], zhp h)) rfl ?_
          refine zEv_c (fun _ => rfl) rfl ev_zf_cin rfl rfl ?_
          refine zEv_k 1 (f' := (if (zf_cin (gI h (186 + 2) j8) x2) = 0 then 76 else 72, [some (.ref 186), some (.int x1), some (.int x2), some (.int s), some (.int v4)], [.int (gI h (186 + 1) j8)], zhp h)) rfl (zEv_if (fun c9 => ?_) (fun c9 => ?_))
          · replace hv10 := zif_t c9 hv10
            refine zEv_k 1 (f' := (77, [some (.ref 186), some (.int x1), some (.int x2), some (.int s), some (.int v4)], [.int 0, .int (gI h (186 + 1) j8)], zhp h)) rfl ?_
            cases hv10
            exact kv10
          · replace hv10 := zif_f c9 hv10
            refine zEv_k 2 (f' := (77, [some (.ref 186), some (.int x1), some (.int x2), some (.int s), some (.int v4)], [.int 1, .int (gI h (186 + 1) j8)], zhp h)) rfl ?_
            cases hv10
            exact kv10
      clear H
      refine zEv_k 3 (f' := (if x2 = s then 45 else 25, [some (.ref 186), some (.int x1), some (.int x2), some (.int s), y4], [], zhp h)) rfl (zEv_if (fun c3 => ?_) (fun c3 => ?_))
      · replace hv4 := zif_t c3 hv4
        refine zEv_k 1 (f' := (46, [some (.ref 186), some (.int x1), some (.int x2), some (.int s), y4], [.int 0], zhp h)) rfl ?_
        cases hv4
        exact kv4
      · replace hv4 := zif_f c3 hv4
        refine zEv_k 2 (f' := (27, [some (.ref 186), some (.int x1), some (.int x2), some (.int s), y4], [.int x2, .int x1], zhp h)) rfl ?_
        refine zEv_c (fun _ => rfl) rfl ev_zf_cin rfl rfl ?_
        refine zEv_k 1 (f' := (if ¬ (zf_cin x1 x2) = 0 then 45 else 33, [some (.ref 186), some (.int x1), some (.int x2), some (.int s), y4], [], zhp h)) rfl (zEv_if (fun c5 => ?_) (fun c5 => ?_))
        · replace hv4 := zif_t c5 hv4
          refine zEv_k 1 (f' := (46, [some (.ref 186), some (.int x1), some (.int x2), some (.int s), y4], [.int 0], zhp h)) rfl ?_
          cases hv4
          exact kv4
        · replace hv4 := zif_f c5 hv4
          refine zEv_k 2 (f' := (35, [some (.ref 186), some (.int x1), some (.int x2), some (.int s), y4], [.int s, .int x1], zhp h)) rfl ?_
          refine zEv_c (fun _ => rfl) rfl ev_zf_cin rfl rfl ?_
          refine zEv_k 1 (f' := (if ¬ (zf_cin x1 s) = 0 then 45 else 41, [some (.ref 186), some (.int x1), some (.int x2), some (.int s), y4], [], zhp h)) rfl (zEv_if (fun c6 => ?_) (fun c6 => ?_))
          · replace hv4 := zif_t c6 hv4
            refine zEv_k 1 (f' := (46, [some (.ref 186), some (.int x1), some (.int x2), some (.int s), y4], [.int 0], zhp h)) rfl ?_
            cases hv4
            exact kv4
          · replace hv4 := zif_f c6 hv4
            refine zEv_k 2 (f' := (46, [some (.ref 186), some (.int x1), some (.int x2), some (.int s), y4], [.int 1], zhp h)) rfl ?_
            cases hv4
            exact kv4
theorem t_qTr_isCalmWithout_b12 {Ls : Nat} {xs : Nat → Int32} {d : Nat} {oo : Nat} {x1 : Int32} {x2 : Int32} {h : zK} {r : zA} (ho : oo = 180 ∨ oo = 186) {t : (Unit) ⊕ (Int32)} (K : (match (generalizing := false) t with | .inl v => ∀ (z3 : Option Value) (z4 : Option Value), zEv (zXs Ls xs) (d + 1) zm_109 (88, [some (.ref oo), some (.int x1), some (.int x2), z3, z4], [], zhp h) r | .inr p => (some (.int p), zhp h) = r)) (n : Nat) (s : Int32) (H : zloop (qTr_isCalmWithout_b12 oo x1 x2 h) n s = some t) (y4 : Option Value) : zEv (zXs Ls xs) (d + 1) zm_109 (12, [some (.ref oo), some (.int x1), some (.int x2), some (.int s), y4], [], zhp h) r := by
  have Z := zloop_P (P := fun s => ∀ (y4 : Option Value), zEv (zXs Ls xs) (d + 1) zm_109 (12, [some (.ref oo), some (.int x1), some (.int x2), some (.int s), y4], [], zhp h) r) (b := qTr_isCalmWithout_b12 oo x1 x2 h) (t := t) (fun s s2 hb hk => by intro y4; exact t_qTr_isCalmWithout_b12b ho hb hk y4) (fun s hb => by rcases t with v | p <;> (intro y4; exact t_qTr_isCalmWithout_b12b ho hb K y4)) n s H
  exact Z y4
def qTr_isCalmWithout_b2 (oo : Nat) (x1 : Int32) (h : zK) (s : Int32) : Option ((Int32) ⊕ ((Unit) ⊕ (Int32))) :=
  if (gI h oo 0) ≤ s then
    some (.inr (.inl ()))
  else
    (zloop (qTr_isCalmWithout_b12 oo x1 s h) zfu 0).bind fun t12 => match t12 with
    | .inr p => some (.inr (.inr p))
    | .inl v13 =>
      some (.inl (s + 1))
theorem t_qTr_isCalmWithout_b2b {Ls : Nat} {xs : Nat → Int32} {d : Nat} {oo : Nat} {x1 : Int32} {h : zK} {r : zA} {s : Int32} {e : (Int32) ⊕ ((Unit) ⊕ (Int32))} (ho : oo = 180 ∨ oo = 186) (H : qTr_isCalmWithout_b2 oo x1 h s = some e) (K : match (generalizing := false) e with | .inl s' => ∀ (z3 : Option Value) (z4 : Option Value), zEv (zXs Ls xs) (d + 1) zm_109 (2, [some (.ref oo), some (.int x1), some (.int s'), z3, z4], [], zhp h) r | .inr (.inl v) => ∀ (z2 : Option Value) (z3 : Option Value) (z4 : Option Value), zEv (zXs Ls xs) (d + 1) zm_109 (94, [some (.ref oo), some (.int x1), z2, z3, z4], [], zhp h) r | .inr (.inr p) => (some (.int p), zhp h) = r) (y3 : Option Value) (y4 : Option Value) : zEv (zXs Ls xs) (d + 1) zm_109 (2, [some (.ref oo), some (.int x1), some (.int s), y3, y4], [], zhp h) r := by
  unfold qTr_isCalmWithout_b2 at H
  rcases ho with rfl | rfl
  · refine zEv_k 4 (f' := (if (gI h 180 0) ≤ s then 94 else 10, [some (.ref 180), some (.int x1), some (.int s), y3, y4], [], zhp h)) rfl (zEv_if (fun c1 => ?_) (fun c1 => ?_))
    · replace H := zif_t c1 H
      cases H
      exact K _ _ _
    · replace H := zif_f c1 H
      refine zEv_k 2 (f' := (12, [some (.ref 180), some (.int x1), some (.int s), some (.int 0), y4], [], zhp h)) rfl ?_
      obtain ⟨t12, ht12, H⟩ := zbs H
      refine t_qTr_isCalmWithout_b12 (oo := 180) (x1 := x1) (x2 := s) (h := h) (by decide) ?_ zfu _ ht12 _
      rcases t12 with v13 | p
      · intro y3 y4
        dsimp only at H
        refine zEv_k 2 (f' := (2, [some (.ref 180), some (.int x1), some (.int (s + 1)), y3, y4], [], zhp h)) rfl ?_
        cases H
        exact K _ _
      · cases H
        exact K
  · refine zEv_k 4 (f' := (if (gI h 186 0) ≤ s then 94 else 10, [some (.ref 186), some (.int x1), some (.int s), y3, y4], [], zhp h)) rfl (zEv_if (fun c1 => ?_) (fun c1 => ?_))
    · replace H := zif_t c1 H
      cases H
      exact K _ _ _
    · replace H := zif_f c1 H
      refine zEv_k 2 (f' := (12, [some (.ref 186), some (.int x1), some (.int s), some (.int 0), y4], [], zhp h)) rfl ?_
      obtain ⟨t12, ht12, H⟩ := zbs H
      refine t_qTr_isCalmWithout_b12 (oo := 186) (x1 := x1) (x2 := s) (h := h) (by decide) ?_ zfu _ ht12 _
      rcases t12 with v13 | p
      · intro y3 y4
        dsimp only at H
        refine zEv_k 2 (f' := (2, [some (.ref 186), some (.int x1), some (.int (s + 1)), y3, y4], [], zhp h)) rfl ?_
        cases H
        exact K _ _
      · cases H
        exact K
theorem t_qTr_isCalmWithout_b2 {Ls : Nat} {xs : Nat → Int32} {d : Nat} {oo : Nat} {x1 : Int32} {h : zK} {r : zA} (ho : oo = 180 ∨ oo = 186) {t : (Unit) ⊕ (Int32)} (K : (match (generalizing := false) t with | .inl v => ∀ (z2 : Option Value) (z3 : Option Value) (z4 : Option Value), zEv (zXs Ls xs) (d + 1) zm_109 (94, [some (.ref oo), some (.int x1), z2, z3, z4], [], zhp h) r | .inr p => (some (.int p), zhp h) = r)) (n : Nat) (s : Int32) (H : zloop (qTr_isCalmWithout_b2 oo x1 h) n s = some t) (y3 : Option Value) (y4 : Option Value) : zEv (zXs Ls xs) (d + 1) zm_109 (2, [some (.ref oo), some (.int x1), some (.int s), y3, y4], [], zhp h) r := by
  have Z := zloop_P (P := fun s => ∀ (y3 : Option Value) (y4 : Option Value), zEv (zXs Ls xs) (d + 1) zm_109 (2, [some (.ref oo), some (.int x1), some (.int s), y3, y4], [], zhp h) r) (b := qTr_isCalmWithout_b2 oo x1 h) (t := t) (fun s s2 hb hk => by intro y3 y4; exact t_qTr_isCalmWithout_b2b ho hb hk y3 y4) (fun s hb => by rcases t with v | p <;> (intro y3 y4; exact t_qTr_isCalmWithout_b2b ho hb K y3 y4)) n s H
  exact Z y3 y4
def qTr_isCalmWithout (oo : Nat) (x1 : Int32) (h : zK) : Option (Int32) :=
  (zloop (qTr_isCalmWithout_b2 oo x1 h) zfu 0).bind fun t14 => match t14 with
  | .inr p => some p
  | .inl v15 =>
    some 1
theorem t_qTr_isCalmWithout {Ls : Nat} {xs : Nat → Int32} {d : Nat} {oo : Nat} {x1 : Int32} {h : zK} {p : Int32} (ho : oo = 180 ∨ oo = 186) (H : qTr_isCalmWithout oo x1 h = some p) : zEv (zXs Ls xs) (d + 1) zm_109 (0, [some (.ref oo), some (.int x1), none, none, none], [], zhp h) (some (.int p), zhp h) := by
  unfold qTr_isCalmWithout at H
  rcases ho with rfl | rfl
  · refine zEv_k 2 (f' := (2, [some (.ref 180), some (.int x1), some (.int 0), none, none], [], zhp h)) rfl ?_
    obtain ⟨t14, ht14, H⟩ := zbs H
    refine t_qTr_isCalmWithout_b2 (oo := 180) (x1 := x1) (h := h) (by decide) ?_ zfu _ ht14 _ _
    rcases t14 with v15 | p
    · intro y2 y3 y4
      dsimp only at H
      refine zEv_k 1 (f' := (95, [some (.ref 180), some (.int x1), y2, y3, y4], [.int 1], zhp h)) rfl ?_
      cases H
      exact zEv_r rfl
    · cases H
      exact rfl
  · refine zEv_k 2 (f' := (2, [some (.ref 186), some (.int x1), some (.int 0), none, none], [], zhp h)) rfl ?_
    obtain ⟨t14, ht14, H⟩ := zbs H
    refine t_qTr_isCalmWithout_b2 (oo := 186) (x1 := x1) (h := h) (by decide) ?_ zfu _ ht14 _ _
    rcases t14 with v15 | p
    · intro y2 y3 y4
      dsimp only at H
      refine zEv_k 1 (f' := (95, [some (.ref 186), some (.int x1), y2, y3, y4], [.int 1], zhp h)) rfl ?_
      cases H
      exact zEv_r rfl
    · cases H
      exact rfl
