def qRu_kindDrawn (x0 : Int32) : Option (Int32) :=
  if x0 = 4 then
    some 1
  else if x0 = 5 then
    some 1
  else if x0 = 6 then
    some 2
  else if x0 = 7 then
    some 3
  else if x0 = 8 then
    some 4
  else if x0 = 9 then
    some 4
  else
    some 0
theorem t_qRu_kindDrawn {Ls : Nat} {xs : Nat → Int32} {d : Nat} {x0 : Int32} {h : zK} {p : Int32} (H : qRu_kindDrawn x0 = some p) : zEv (zXs Ls xs) d zm_87 (0, [some (.int x0)], [], zhp h) (some (.int p), zhp h) := by
  unfold qRu_kindDrawn at H
  refine zEv_k 1 (f' := (1, [some (.int x0)], [.int x0], zhp h)) rfl ?_
  refine zEv_ts rfl (by decide) (by decide) (by decide) (fun hh => ?_) (fun j hj hh => ?_)
  · replace H := zif_f (fun e => (by rw [e] at hh; exact absurd hh (by decide))) H
    replace H := zif_f (fun e => (by rw [e] at hh; exact absurd hh (by decide))) H
    replace H := zif_f (fun e => (by rw [e] at hh; exact absurd hh (by decide))) H
    replace H := zif_f (fun e => (by rw [e] at hh; exact absurd hh (by decide))) H
    replace H := zif_f (fun e => (by rw [e] at hh; exact absurd hh (by decide))) H
    replace H := zif_f (fun e => (by rw [e] at hh; exact absurd hh (by decide))) H
    refine zEv_k 1 (f' := (49, [some (.int x0)], [.int 0], zhp h)) rfl ?_
    cases H
    exact zEv_r rfl
  · rcases (by have hj2 : j < 6 := hj; omega : j = 0 ∨ j = 1 ∨ j = 2 ∨ j = 3 ∨ j = 4 ∨ j = 5) with rfl | rfl | rfl | rfl | rfl | rfl
    · have ex : x0 = 4 := zeqI hh (by decide)
      replace H := zif_t ex H
      refine zEv_k 1 (f' := (41, [some (.int x0)], [.int 1], zhp h)) rfl ?_
      cases H
      exact zEv_r rfl
    · have ex : x0 = 5 := zeqI hh (by decide)
      replace H := zif_f (fun e => by rw [ex] at e; exact absurd e (by decide)) H
      replace H := zif_t ex H
      refine zEv_k 1 (f' := (41, [some (.int x0)], [.int 1], zhp h)) rfl ?_
      cases H
      exact zEv_r rfl
    · have ex : x0 = 6 := zeqI hh (by decide)
      replace H := zif_f (fun e => by rw [ex] at e; exact absurd e (by decide)) H
      replace H := zif_f (fun e => by rw [ex] at e; exact absurd e (by decide)) H
      replace H := zif_t ex H
      refine zEv_k 1 (f' := (43, [some (.int x0)], [.int 2], zhp h)) rfl ?_
      cases H
      exact zEv_r rfl
    · have ex : x0 = 7 := zeqI hh (by decide)
      replace H := zif_f (fun e => by rw [ex] at e; exact absurd e (by decide)) H
      replace H := zif_f (fun e => by rw [ex] at e; exact absurd e (by decide)) H
      replace H := zif_f (fun e => by rw [ex] at e; exact absurd e (by decide)) H
      replace H := zif_t ex H
      refine zEv_k 1 (f' := (45, [some (.int x0)], [.int 3], zhp h)) rfl ?_
      cases H
      exact zEv_r rfl
    · have ex : x0 = 8 := zeqI hh (by decide)
      replace H := zif_f (fun e => by rw [ex] at e; exact absurd e (by decide)) H
      replace H := zif_f (fun e => by rw [ex] at e; exact absurd e (by decide)) H
      replace H := zif_f (fun e => by rw [ex] at e; exact absurd e (by decide)) H
      replace H := zif_f (fun e => by rw [ex] at e; exact absurd e (by decide)) H
      replace H := zif_t ex H
      refine zEv_k 1 (f' := (47, [some (.int x0)], [.int 4], zhp h)) rfl ?_
      cases H
      exact zEv_r rfl
    · have ex : x0 = 9 := zeqI hh (by decide)
      replace H := zif_f (fun e => by rw [ex] at e; exact absurd e (by decide)) H
      replace H := zif_f (fun e => by rw [ex] at e; exact absurd e (by decide)) H
      replace H := zif_f (fun e => by rw [ex] at e; exact absurd e (by decide)) H
      replace H := zif_f (fun e => by rw [ex] at e; exact absurd e (by decide)) H
      replace H := zif_f (fun e => by rw [ex] at e; exact absurd e (by decide)) H
      replace H := zif_t ex H
      refine zEv_k 1 (f' := (47, [some (.int x0)], [.int 4], zhp h)) rfl ?_
      cases H
      exact zEv_r rfl
def qRu_draw_b7 (oo : Nat) (x2 : Int32) (s : Int32 × zK) : Option ((Int32 × zK) ⊕ (zK)) :=
  if x2 ≤ s.1 then
    some (.inr s.2)
  else
    (qRu_below oo 10 s.2).bind fun p3 =>
    (qRu_kindDrawn p3.1).bind fun p4 =>
    Option.bind (
        if ¬ p4 = 0 then
          zlet (gR p3.2 oo) fun a7 =>
          if a7 = 7 ∨ a7 = 22 then
            if (gI p3.2 a7 2) ≤ 0 then
              some p3.2
            else
              zlet (gR p3.2 oo) fun a10 =>
              if a10 = 7 ∨ a10 = 22 then
                (qRu_below oo (gI p3.2 a10 2) p3.2).bind fun p12 =>
                Option.bind (
                    if ¬ p4 = 4 then
                      some (-1, p12.2)
                    else
                      (qRu_below oo 21 p12.2).bind fun p15 =>
                      some (p15.1, p15.2)
                  ) fun (v14 : Int32 × zK) =>
                (qRu_did oo p4 p12.1 v14.1 v14.2).bind fun p16 =>
                some p16.2
              else none
          else none
        else
          (qRu_passedYear oo p3.2).bind fun p17 =>
          some p17.2
      ) fun (v6 : zK) =>
    some (.inl (s.1 + 1, v6))
theorem t_qRu_draw_b7b {Ls : Nat} {xs : Nat → Int32} {d : Nat} {oo : Nat} {x2 : Int32} {r : zA} {s : Int32 × zK} {e : (Int32 × zK) ⊕ (zK)} (ho : oo = 166 ∨ oo = 198) (H : qRu_draw_b7 oo x2 s = some e) (K : match (generalizing := false) e with | .inl s' => ∀ (z1 : Option Value) (z4 : Option Value) (z5 : Option Value), zEv (zXs Ls xs) (d + 4) zm_75 (7, [some (.ref oo), z1, some (.int x2), some (.int s'.1), z4, z5], [], zhp s'.2) r | .inr v => ∀ (z1 : Option Value) (z3 : Option Value) (z4 : Option Value) (z5 : Option Value), zEv (zXs Ls xs) (d + 4) zm_75 (90, [some (.ref oo), z1, some (.int x2), z3, z4, z5], [], zhp v) r) (y1 : Option Value) (y4 : Option Value) (y5 : Option Value) : zEv (zXs Ls xs) (d + 4) zm_75 (7, [some (.ref oo), y1, some (.int x2), some (.int s.1), y4, y5], [], zhp s.2) r := by
  unfold qRu_draw_b7 at H
  rcases ho with rfl | rfl
  · refine zEv_k 3 (f' := (if x2 ≤ s.1 then 90 else 12, [some (.ref 166), y1, some (.int x2), some (.int s.1), y4, y5], [], zhp s.2)) rfl (zEv_if (fun c2 => ?_) (fun c2 => ?_))
    · replace H := zif_t c2 H
      cases H
      exact K _ _ _ _
    · replace H := zif_f c2 H
      refine zEv_k 2 (f' := (15, [some (.ref 166), y1, some (.int x2), some (.int s.1), y4, y5], [.int 10, .ref 166], zhp s.2)) rfl ?_
      obtain ⟨p3, hp3, H⟩ := zbs H
      refine zEv_c (fun _ => rfl) rfl (t_qRu_below (oo := 166) (x1 := 10) (h := s.2) (d := d + 3) (by decide) hp3) rfl rfl ?_
      obtain ⟨p4, hp4, H⟩ := zbs H
      refine zEv_c (fun _ => rfl) rfl (t_qRu_kindDrawn (x0 := p3.1) (h := p3.2) (d := d + 3) hp4) rfl rfl ?_
      obtain ⟨v6, hv6, H⟩ := zbs H
      have kv6 : ∀ (y5 : Option Value), zEv (zXs Ls xs) (d + 4) zm_75 (84, [some (.ref 166), y1, some (.int x2), some (.int s.1), some (.int p4), y5], [], zhp v6) r := by
        intro y5
        refine zEv_k 2 (f' := (7, [some (.ref 166), y1, some (.int x2), some (.int (s.1 + 1)), some (.int p4), y5], [], zhp v6)) rfl ?_
        cases H
        exact K _ _ _
      clear H
      refine zEv_k 3 (f' := (if ¬ p4 = 0 then 36 else 28, [some (.ref 166), y1, some (.int x2), some (.int s.1), some (.int p4), y5], [], zhp p3.2)) rfl (zEv_if (fun c5 => ?_) (fun c5 => ?_))
      · replace hv6 := zif_t c5 hv6
        refine zEv_k 1 (f' := (37, [some (.ref 166), y1, some (.int x2), some (.int s.1), some (.int p4), y5], [.ref 166], zhp p3.2)) rfl ?_
        refine zRgc (by decide) rfl rfl rfl (by decide) ?_
        obtain ⟨a7, ea7, hv6⟩ := zlets hv6
        rw [ea7]
        obtain ⟨c8, hv6⟩ := zifn hv6
        rcases c8 with rfl | rfl
        · refine zEv_k 2 (f' := (if (gI p3.2 7 2) ≤ 0 then 84 else 46, [some (.ref 166), y1, some (.int x2), some (.int s.1), some (.int p4), y5], [], zhp p3.2)) rfl (zEv_if (fun c9 => ?_) (fun c9 => ?_))
          · replace hv6 := zif_t c9 hv6
            cases hv6
            exact kv6 _
          · replace hv6 := zif_f c9 hv6
            refine zEv_k 2 (f' := (48, [some (.ref 166), y1, some (.int x2), some (.int s.1), some (.int p4), y5], [.ref 166, .ref 166], zhp p3.2)) rfl ?_
            refine zRgc (by decide) rfl rfl rfl (by decide) ?_
            obtain ⟨a10, ea10, hv6⟩ := zlets hv6
            rw [ea10]
            obtain ⟨c11, hv6⟩ := zifn hv6
            rcases c11 with rfl | rfl
            · refine zEv_k 1 (f' := (54, [some (.ref 166), y1, some (.int x2), some (.int s.1), some (.int p4), y5], [.int (gI p3.2 7 2), .ref 166], zhp p3.2)) rfl ?_
              obtain ⟨p12, hp12, hv6⟩ := zbs hv6
              refine zEv_c (fun _ => rfl) rfl (t_qRu_below (oo := 166) (x1 := gI p3.2 7 2) (h := p3.2) (d := d + 3) (by decide) hp12) rfl rfl ?_
              obtain ⟨v14, hv14, hv6⟩ := zbs hv6
              have kv14 : zEv (zXs Ls xs) (d + 4) zm_75 (80, [some (.ref 166), y1, some (.int x2), some (.int s.1), some (.int p4), some (.int p12.1)], [.int v14.1, .int p12.1, .int p4, .ref 166], zhp v14.2) r := by
                obtain ⟨p16, hp16, hv6⟩ := zbs hv6
                refine zEv_c (fun _ => rfl) rfl (t_qRu_did (oo := 166) (x1 := p4) (x2 := p12.1) (x3 := v14.1) (h := v14.2) (d := d) (by decide) hp16) rfl rfl ?_
                refine zEv_k 1 (f' := (84, [some (.ref 166), y1, some (.int x2), some (.int s.1), some (.int p4), some (.int p12.1)], [], zhp p16.2)) rfl ?_
                cases hv6
                exact kv6 _
              clear hv6
              refine zEv_k 7 (f' := (if ¬ p4 = 4 then 79 else 70, [some (.ref 166), y1, some (.int x2), some (.int s.1), some (.int p4), some (.int p12.1)], [.int p12.1, .int p4, .ref 166], zhp p12.2)) rfl (zEv_if (fun c13 => ?_) (fun c13 => ?_))
              · replace hv14 := zif_t c13 hv14
                refine zEv_k 1 (f' := (80, [some (.ref 166), y1, some (.int x2), some (.int s.1), some (.int p4), some (.int p12.1)], [.int (-1), .int p12.1, .int p4, .ref 166], zhp p12.2)) rfl ?_
                cases hv14
                exact kv14
              · replace hv14 := zif_f c13 hv14
                refine zEv_k 2 (f' := (73, [some (.ref 166), y1, some (.int x2), some (.int s.1), some (.int p4), some (.int p12.1)], [.int 21, .ref 166, .int p12.1, .int p4, .ref 166], zhp p12.2)) rfl ?_
                obtain ⟨p15, hp15, hv14⟩ := zbs hv14
                refine zEv_c (fun _ => rfl) rfl (t_qRu_below (oo := 166) (x1 := 21) (h := p12.2) (d := d + 3) (by decide) hp15) rfl rfl ?_
                refine zEv_k 1 (f' := (80, [some (.ref 166), y1, some (.int x2), some (.int s.1), some (.int p4), some (.int p12.1)], [.int p15.1, .int p12.1, .int p4, .ref 166], zhp p15.2)) rfl ?_
                cases hv14
                exact kv14
            · refine zEv_k 1 (f' := (54, [some (.ref 166), y1, some (.int x2), some (.int s.1), some (.int p4), y5], [.int (gI p3.2 22 2), .ref 166], zhp p3.2)) rfl ?_
              obtain ⟨p12, hp12, hv6⟩ := zbs hv6
              refine zEv_c (fun _ => rfl) rfl (t_qRu_below (oo := 166) (x1 := gI p3.2 22 2) (h := p3.2) (d := d + 3) (by decide) hp12) rfl rfl ?_
              obtain ⟨v14, hv14, hv6⟩ := zbs hv6
              have kv14 : zEv (zXs Ls xs) (d + 4) zm_75 (80, [some (.ref 166), y1, some (.int x2), some (.int s.1), some (.int p4), some (.int p12.1)], [.int v14.1, .int p12.1, .int p4, .ref 166], zhp v14.2) r := by
                obtain ⟨p16, hp16, hv6⟩ := zbs hv6
                refine zEv_c (fun _ => rfl) rfl (t_qRu_did (oo := 166) (x1 := p4) (x2 := p12.1) (x3 := v14.1) (h := v14.2) (d := d) (by decide) hp16) rfl rfl ?_
                refine zEv_k 1 (f' := (84, [some (.ref 166), y1, some (.int x2), some (.int s.1), some (.int p4), some (.int p12.1)], [], zhp p16.2)) rfl ?_
                cases hv6
                exact kv6 _
              clear hv6
              refine zEv_k 7 (f' := (if ¬ p4 = 4 then 79 else 70, [some (.ref 166), y1, some (.int x2), some (.int s.1), some (.int p4), some (.int p12.1)], [.int p12.1, .int p4, .ref 166], zhp p12.2)) rfl (zEv_if (fun c13 => ?_) (fun c13 => ?_))
              · replace hv14 := zif_t c13 hv14
                refine zEv_k 1 (f' := (80, [some (.ref 166), y1, some (.int x2), some (.int s.1), some (.int p4), some (.int p12.1)], [.int (-1), .int p12.1, .int p4, .ref 166], zhp p12.2)) rfl ?_
                cases hv14
                exact kv14
              · replace hv14 := zif_f c13 hv14
                refine zEv_k 2 (f' := (73, [some (.ref 166), y1, some (.int x2), some (.int s.1), some (.int p4), some (.int p12.1)], [.int 21, .ref 166, .int p12.1, .int p4, .ref 166], zhp p12.2)) rfl ?_
                obtain ⟨p15, hp15, hv14⟩ := zbs hv14
                refine zEv_c (fun _ => rfl) rfl (t_qRu_below (oo := 166) (x1 := 21) (h := p12.2) (d := d + 3) (by decide) hp15) rfl rfl ?_
                refine zEv_k 1 (f' := (80, [some (.ref 166), y1, some (.int x2), some (.int s.1), some (.int p4), some (.int p12.1)], [.int p15.1, .int p12.1, .int p4, .ref 166], zhp p15.2)) rfl ?_
                cases hv14
                exact kv14
        · refine zEv_k 2 (f' := (if (gI p3.2 22 2) ≤ 0 then 84 else 46, [some (.ref 166), y1, some (.int x2), some (.int s.1), some (.int p4), y5], [], zhp p3.2)) rfl (zEv_if (fun c9 => ?_) (fun c9 => ?_))
          · replace hv6 := zif_t c9 hv6
            cases hv6
            exact kv6 _
          · replace hv6 := zif_f c9 hv6
            refine zEv_k 2 (f' := (48, [some (.ref 166), y1, some (.int x2), some (.int s.1), some (.int p4), y5], [.ref 166, .ref 166], zhp p3.2)) rfl ?_
            refine zRgc (by decide) rfl rfl rfl (by decide) ?_
            obtain ⟨a10, ea10, hv6⟩ := zlets hv6
            rw [ea10]
            obtain ⟨c11, hv6⟩ := zifn hv6
            rcases c11 with rfl | rfl
            · refine zEv_k 1 (f' := (54, [some (.ref 166), y1, some (.int x2), some (.int s.1), some (.int p4), y5], [.int (gI p3.2 7 2), .ref 166], zhp p3.2)) rfl ?_
              obtain ⟨p12, hp12, hv6⟩ := zbs hv6
              refine zEv_c (fun _ => rfl) rfl (t_qRu_below (oo := 166) (x1 := gI p3.2 7 2) (h := p3.2) (d := d + 3) (by decide) hp12) rfl rfl ?_
              obtain ⟨v14, hv14, hv6⟩ := zbs hv6
              have kv14 : zEv (zXs Ls xs) (d + 4) zm_75 (80, [some (.ref 166), y1, some (.int x2), some (.int s.1), some (.int p4), some (.int p12.1)], [.int v14.1, .int p12.1, .int p4, .ref 166], zhp v14.2) r := by
                obtain ⟨p16, hp16, hv6⟩ := zbs hv6
                refine zEv_c (fun _ => rfl) rfl (t_qRu_did (oo := 166) (x1 := p4) (x2 := p12.1) (x3 := v14.1) (h := v14.2) (d := d) (by decide) hp16) rfl rfl ?_
                refine zEv_k 1 (f' := (84, [some (.ref 166), y1, some (.int x2), some (.int s.1), some (.int p4), some (.int p12.1)], [], zhp p16.2)) rfl ?_
                cases hv6
                exact kv6 _
              clear hv6
              refine zEv_k 7 (f' := (if ¬ p4 = 4 then 79 else 70, [some (.ref 166), y1, some (.int x2), some (.int s.1), some (.int p4), some (.int p12.1)], [.int p12.1, .int p4, .ref 166], zhp p12.2)) rfl (zEv_if (fun c13 => ?_) (fun c13 => ?_))
              · replace hv14 := zif_t c13 hv14
                refine zEv_k 1 (f' := (80, [some (.ref 166), y1, some (.int x2), some (.int s.1), some (.int p4), some (.int p12.1)], [.int (-1), .int p12.1, .int p4, .ref 166], zhp p12.2)) rfl ?_
                cases hv14
                exact kv14
              · replace hv14 := zif_f c13 hv14
                refine zEv_k 2 (f' := (73, [some (.ref 166), y1, some (.int x2), some (.int s.1), some (.int p4), some (.int p12.1)], [.int 21, .ref 166, .int p12.1, .int p4, .ref 166], zhp p12.2)) rfl ?_
                obtain ⟨p15, hp15, hv14⟩ := zbs hv14
                refine zEv_c (fun _ => rfl) rfl (t_qRu_below (oo := 166) (x1 := 21) (h := p12.2) (d := d + 3) (by decide) hp15) rfl rfl ?_
                refine zEv_k 1 (f' := (80, [some (.ref 166), y1, some (.int x2), some (.int s.1), some (.int p4), some (.int p12.1)], [.int p15.1, .int p12.1, .int p4, .ref 166], zhp p15.2)) rfl ?_
                cases hv14
                exact kv14
            · refine zEv_k 1 (f' := (54, [some (.ref 166), y1, some (.int x2), some (.int s.1), some (.int p4), y5], [.int (gI p3.2 22 2), .ref 166], zhp p3.2)) rfl ?_
              obtain ⟨p12, hp12, hv6⟩ := zbs hv6
              refine zEv_c (fun _ => rfl) rfl (t_qRu_below (oo := 166) (x1 := gI p3.2 22 2) (h := p3.2) (d := d + 3) (by decide) hp12) rfl rfl ?_
              obtain ⟨v14, hv14, hv6⟩ := zbs hv6
              have kv14 : zEv (zXs Ls xs) (d + 4) zm_75 (80, [some (.ref 166), y1, some (.int x2), some (.int s.1), some (.int p4), some (.int p12.1)], [.int v14.1, .int p12.1, .int p4, .ref 166], zhp v14.2) r := by
                obtain ⟨p16, hp16, hv6⟩ := zbs hv6
                refine zEv_c (fun _ => rfl) rfl (t_qRu_did (oo := 166) (x1 := p4) (x2 := p12.1) (x3 := v14.1) (h := v14.2) (d := d) (by decide) hp16) rfl rfl ?_
                refine zEv_k 1 (f' := (84, [some (.ref 166), y1, some (.int x2), some (.int s.1), some (.int p4), some (.int p12.1)], [], zhp p16.2)) rfl ?_
                cases hv6
                exact kv6 _
              clear hv6
              refine zEv_k 7 (f' := (if ¬ p4 = 4 then 79 else 70, [some (.ref 166), y1, some (.int x2), some (.int s.1), some (.int p4), some (.int p12.1)], [.int p12.1, .int p4, .ref 166], zhp p12.2)) rfl (zEv_if (fun c13 => ?_) (fun c13 => ?_))
              · replace hv14 := zif_t c13 hv14
                refine zEv_k 1 (f' := (80, [some (.ref 166), y1, some (.int x2), some (.int s.1), some (.int p4), some (.int p12.1)], [.int (-1), .int p12.1, .int p4, .ref 166], zhp p12.2)) rfl ?_
                cases hv14
                exact kv14
              · replace hv14 := zif_f c13 hv14
                refine zEv_k 2 (f' := (73, [some (.ref 166), y1, some (.int x2), some (.int s.1), some (.int p4), some (.int p12.1)], [.int 21, .ref 166, .int p12.1, .int p4, .ref 166], zhp p12.2)) rfl ?_
                obtain ⟨p15, hp15, hv14⟩ := zbs hv14
                refine zEv_c (fun _ => rfl) rfl (t_qRu_below (oo := 166) (x1 := 21) (h := p12.2) (d := d + 3) (by decide) hp15) rfl rfl ?_
                refine zEv_k 1 (f' := (80, [some (.ref 166), y1, some (.int x2), some (.int s.1), some (.int p4), some (.int p12.1)], [.int p15.1, .int p12.1, .int p4, .ref 166], zhp p15.2)) rfl ?_
                cases hv14
                exact kv14
      · replace hv6 := zif_f c5 hv6
        refine zEv_k 1 (f' := (29, [some (.ref 166), y1, some (.int x2), some (.int s.1), some (.int p4), y5], [.ref 166], zhp p3.2)) rfl ?_
        obtain ⟨p17, hp17, hv6⟩ := zbs hv6
        refine zEv_c (fun _ => rfl) rfl (t_qRu_passedYear (oo := 166) (h := p3.2) (d := d + 1) (by decide) hp17) rfl rfl ?_
        refine zEv_k 2 (f' := (84, [some (.ref 166), y1, some (.int x2), some (.int s.1), some (.int p4), y5], [], zhp p17.2)) rfl ?_
        cases hv6
        exact kv6 _
  · refine zEv_k 3 (f' := (if x2 ≤ s.1 then 90 else 12, [some (.ref 198), y1, some (.int x2), some (.int s.1), y4, y5], [], zhp s.2)) rfl (zEv_if (fun c2 => ?_) (fun c2 => ?_))
    · replace H := zif_t c2 H
      cases H
      exact K _ _ _ _
    · replace H := zif_f c2 H
      refine zEv_k 2 (f' := (15, [some (.ref 198), y1, some (.int x2), some (.int s.1), y4, y5], [.int 10, .ref 198], zhp s.2)) rfl ?_
      obtain ⟨p3, hp3, H⟩ := zbs H
      refine zEv_c (fun _ => rfl) rfl (t_qRu_below (oo := 198) (x1 := 10) (h := s.2) (d := d + 3) (by decide) hp3) rfl rfl ?_
      obtain ⟨p4, hp4, H⟩ := zbs H
      refine zEv_c (fun _ => rfl) rfl (t_qRu_kindDrawn (x0 := p3.1) (h := p3.2) (d := d + 3) hp4) rfl rfl ?_
      obtain ⟨v6, hv6, H⟩ := zbs H
      have kv6 : ∀ (y5 : Option Value), zEv (zXs Ls xs) (d + 4) zm_75 (84, [some (.ref 198), y1, some (.int x2), some (.int s.1), some (.int p4), y5], [], zhp v6) r := by
        intro y5
        refine zEv_k 2 (f' := (7, [some (.ref 198), y1, some (.int x2), some (.int (s.1 + 1)), some (.int p4), y5], [], zhp v6)) rfl ?_
        cases H
        exact K _ _ _
      clear H
      refine zEv_k 3 (f' := (if ¬ p4 = 0 then 36 else 28, [some (.ref 198), y1, some (.int x2), some (.int s.1), some (.int p4), y5], [], zhp p3.2)) rfl (zEv_if (fun c5 => ?_) (fun c5 => ?_))
      · replace hv6 := zif_t c5 hv6
        refine zEv_k 1 (f' := (37, [some (.ref 198), y1, some (.int x2), some (.int s.1), some (.int p4), y5], [.ref 198], zhp p3.2)) rfl ?_
        refine zRgc (by decide) rfl rfl rfl (by decide) ?_
        obtain ⟨a7, ea7, hv6⟩ := zlets hv6
        rw [ea7]
        obtain ⟨c8, hv6⟩ := zifn hv6
        rcases c8 with rfl | rfl
        · refine zEv_k 2 (f' := (if (gI p3.2 7 2) ≤ 0 then 84 else 46, [some (.ref 198), y1, some (.int x2), some (.int s.1), some (.int p4), y5], [], zhp p3.2)) rfl (zEv_if (fun c9 => ?_) (fun c9 => ?_))
          · replace hv6 := zif_t c9 hv6
            cases hv6
            exact kv6 _
          · replace hv6 := zif_f c9 hv6
            refine zEv_k 2 (f' := (48, [some (.ref 198), y1, some (.int x2), some (.int s.1), some (.int p4), y5], [.ref 198, .ref 198], zhp p3.2)) rfl ?_
            refine zRgc (by decide) rfl rfl rfl (by decide) ?_
            obtain ⟨a10, ea10, hv6⟩ := zlets hv6
            rw [ea10]
            obtain ⟨c11, hv6⟩ := zifn hv6
            rcases c11 with rfl | rfl
            · refine zEv_k 1 (f' := (54, [some (.ref 198), y1, some (.int x2), some (.int s.1), some (.int p4), y5], [.int (gI p3.2 7 2), .ref 198], zhp p3.2)) rfl ?_
              obtain ⟨p12, hp12, hv6⟩ := zbs hv6
              refine zEv_c (fun _ => rfl) rfl (t_qRu_below (oo := 198) (x1 := gI p3.2 7 2) (h := p3.2) (d := d + 3) (by decide) hp12) rfl rfl ?_
              obtain ⟨v14, hv14, hv6⟩ := zbs hv6
              have kv14 : zEv (zXs Ls xs) (d + 4) zm_75 (80, [some (.ref 198), y1, some (.int x2), some (.int s.1), some (.int p4), some (.int p12.1)], [.int v14.1, .int p12.1, .int p4, .ref 198], zhp v14.2) r := by
                obtain ⟨p16, hp16, hv6⟩ := zbs hv6
                refine zEv_c (fun _ => rfl) rfl (t_qRu_did (oo := 198) (x1 := p4) (x2 := p12.1) (x3 := v14.1) (h := v14.2) (d := d) (by decide) hp16) rfl rfl ?_
                refine zEv_k 1 (f' := (84, [some (.ref 198), y1, some (.int x2), some (.int s.1), some (.int p4), some (.int p12.1)], [], zhp p16.2)) rfl ?_
                cases hv6
                exact kv6 _
              clear hv6
              refine zEv_k 7 (f' := (if ¬ p4 = 4 then 79 else 70, [some (.ref 198), y1, some (.int x2), some (.int s.1), some (.int p4), some (.int p12.1)], [.int p12.1, .int p4, .ref 198], zhp p12.2)) rfl (zEv_if (fun c13 => ?_) (fun c13 => ?_))
              · replace hv14 := zif_t c13 hv14
                refine zEv_k 1 (f' := (80, [some (.ref 198), y1, some (.int x2), some (.int s.1), some (.int p4), some (.int p12.1)], [.int (-1), .int p12.1, .int p4, .ref 198], zhp p12.2)) rfl ?_
                cases hv14
                exact kv14
              · replace hv14 := zif_f c13 hv14
                refine zEv_k 2 (f' := (73, [some (.ref 198), y1, some (.int x2), some (.int s.1), some (.int p4), some (.int p12.1)], [.int 21, .ref 198, .int p12.1, .int p4, .ref 198], zhp p12.2)) rfl ?_
                obtain ⟨p15, hp15, hv14⟩ := zbs hv14
                refine zEv_c (fun _ => rfl) rfl (t_qRu_below (oo := 198) (x1 := 21) (h := p12.2) (d := d + 3) (by decide) hp15) rfl rfl ?_
                refine zEv_k 1 (f' := (80, [some (.ref 198), y1, some (.int x2), some (.int s.1), some (.int p4), some (.int p12.1)], [.int p15.1, .int p12.1, .int p4, .ref 198], zhp p15.2)) rfl ?_
                cases hv14
                exact kv14
            · refine zEv_k 1 (f' := (54, [some (.ref 198), y1, some (.int x2), some (.int s.1), some (.int p4), y5], [.int (gI p3.2 22 2), .ref 198], zhp p3.2)) rfl ?_
              obtain ⟨p12, hp12, hv6⟩ := zbs hv6
              refine zEv_c (fun _ => rfl) rfl (t_qRu_below (oo := 198) (x1 := gI p3.2 22 2) (h := p3.2) (d := d + 3) (by decide) hp12) rfl rfl ?_
              obtain ⟨v14, hv14, hv6⟩ := zbs hv6
              have kv14 : zEv (zXs Ls xs) (d + 4) zm_75 (80, [some (.ref 198), y1, some (.int x2), some (.int s.1), some (.int p4), some (.int p12.1)], [.int v14.1, .int p12.1, .int p4, .ref 198], zhp v14.2) r := by
                obtain ⟨p16, hp16, hv6⟩ := zbs hv6
                refine zEv_c (fun _ => rfl) rfl (t_qRu_did (oo := 198) (x1 := p4) (x2 := p12.1) (x3 := v14.1) (h := v14.2) (d := d) (by decide) hp16) rfl rfl ?_
                refine zEv_k 1 (f' := (84, [some (.ref 198), y1, some (.int x2), some (.int s.1), some (.int p4), some (.int p12.1)], [], zhp p16.2)) rfl ?_
                cases hv6
                exact kv6 _
              clear hv6
              refine zEv_k 7 (f' := (if ¬ p4 = 4 then 79 else 70, [some (.ref 198), y1, some (.int x2), some (.int s.1), some (.int p4), some (.int p12.1)], [.int p12.1, .int p4, .ref 198], zhp p12.2)) rfl (zEv_if (fun c13 => ?_) (fun c13 => ?_))
              · replace hv14 := zif_t c13 hv14
                refine zEv_k 1 (f' := (80, [some (.ref 198), y1, some (.int x2), some (.int s.1), some (.int p4), some (.int p12.1)], [.int (-1), .int p12.1, .int p4, .ref 198], zhp p12.2)) rfl ?_
                cases hv14
                exact kv14
              · replace hv14 := zif_f c13 hv14
                refine zEv_k 2 (f' := (73, [some (.ref 198), y1, some (.int x2), some (.int s.1), some (.int p4), some (.int p12.1)], [.int 21, .ref 198, .int p12.1, .int p4, .ref 198], zhp p12.2)) rfl ?_
                obtain ⟨p15, hp15, hv14⟩ := zbs hv14
                refine zEv_c (fun _ => rfl) rfl (t_qRu_below (oo := 198) (x1 := 21) (h := p12.2) (d := d + 3) (by decide) hp15) rfl rfl ?_
                refine zEv_k 1 (f' := (80, [some (.ref 198), y1, some (.int x2), some (.int s.1), some (.int p4), some (.int p12.1)], [.int p15.1, .int p12.1, .int p4, .ref 198], zhp p15.2)) rfl ?_
                cases hv14
                exact kv14
        · refine zEv_k 2 (f' := (if (gI p3.2 22 2) ≤ 0 then 84 else 46, [some (.ref 198), y1, some (.int x2), some (.int s.1), some (.int p4), y5], [], zhp p3.2)) rfl (zEv_if (fun c9 => ?_) (fun c9 => ?_))
          · replace hv6 := zif_t c9 hv6
            cases hv6
            exact kv6 _
          · replace hv6 := zif_f c9 hv6
            refine zEv_k 2 (f' := (48, [some (.ref 198), y1, some (.int x2), some (.int s.1), some (.int p4), y5], [.ref 198, .ref 198], zhp p3.2)) rfl ?_
            refine zRgc (by decide) rfl rfl rfl (by decide) ?_
            obtain ⟨a10, ea10, hv6⟩ := zlets hv6
            rw [ea10]
            obtain ⟨c11, hv6⟩ := zifn hv6
            rcases c11 with rfl | rfl
            · refine zEv_k 1 (f' := (54, [some (.ref 198), y1, some (.int x2), some (.int s.1), some (.int p4), y5], [.int (gI p3.2 7 2), .ref 198], zhp p3.2)) rfl ?_
              obtain ⟨p12, hp12, hv6⟩ := zbs hv6
              refine zEv_c (fun _ => rfl) rfl (t_qRu_below (oo := 198) (x1 := gI p3.2 7 2) (h := p3.2) (d := d + 3) (by decide) hp12) rfl rfl ?_
              obtain ⟨v14, hv14, hv6⟩ := zbs hv6
              have kv14 : zEv (zXs Ls xs) (d + 4) zm_75 (80, [some (.ref 198), y1, some (.int x2), some (.int s.1), some (.int p4), some (.int p12.1)], [.int v14.1, .int p12.1, .int p4, .ref 198], zhp v14.2) r := by
                obtain ⟨p16, hp16, hv6⟩ := zbs hv6
                refine zEv_c (fun _ => rfl) rfl (t_qRu_did (oo := 198) (x1 := p4) (x2 := p12.1) (x3 := v14.1) (h := v14.2) (d := d) (by decide) hp16) rfl rfl ?_
                refine zEv_k 1 (f' := (84, [some (.ref 198), y1, some (.int x2), some (.int s.1), some (.int p4), some (.int p12.1)], [], zhp p16.2)) rfl ?_
                cases hv6
                exact kv6 _
              clear hv6
              refine zEv_k 7 (f' := (if ¬ p4 = 4 then 79 else 70, [some (.ref 198), y1, some (.int x2), some (.int s.1), some (.int p4), some (.int p12.1)], [.int p12.1, .int p4, .ref 198], zhp p12.2)) rfl (zEv_if (fun c13 => ?_) (fun c13 => ?_))
              · replace hv14 := zif_t c13 hv14
                refine zEv_k 1 (f' := (80, [some (.ref 198), y1, some (.int x2), some (.int s.1), some (.int p4), some (.int p12.1)], [.int (-1), .int p12.1, .int p4, .ref 198], zhp p12.2)) rfl ?_
                cases hv14
                exact kv14
              · replace hv14 := zif_f c13 hv14
                refine zEv_k 2 (f' := (73, [some (.ref 198), y1, some (.int x2), some (.int s.1), some (.int p4), some (.int p12.1)], [.int 21, .ref 198, .int p12.1, .int p4, .ref 198], zhp p12.2)) rfl ?_
                obtain ⟨p15, hp15, hv14⟩ := zbs hv14
                refine zEv_c (fun _ => rfl) rfl (t_qRu_below (oo := 198) (x1 := 21) (h := p12.2) (d := d + 3) (by decide) hp15) rfl rfl ?_
                refine zEv_k 1 (f' := (80, [some (.ref 198), y1, some (.int x2), some (.int s.1), some (.int p4), some (.int p12.1)], [.int p15.1, .int p12.1, .int p4, .ref 198], zhp p15.2)) rfl ?_
                cases hv14
                exact kv14
            · refine zEv_k 1 (f' := (54, [some (.ref 198), y1, some (.int x2), some (.int s.1), some (.int p4), y5], [.int (gI p3.2 22 2), .ref 198], zhp p3.2)) rfl ?_
              obtain ⟨p12, hp12, hv6⟩ := zbs hv6
              refine zEv_c (fun _ => rfl) rfl (t_qRu_below (oo := 198) (x1 := gI p3.2 22 2) (h := p3.2) (d := d + 3) (by decide) hp12) rfl rfl ?_
              obtain ⟨v14, hv14, hv6⟩ := zbs hv6
              have kv14 : zEv (zXs Ls xs) (d + 4) zm_75 (80, [some (.ref 198), y1, some (.int x2), some (.int s.1), some (.int p4), some (.int p12.1)], [.int v14.1, .int p12.1, .int p4, .ref 198], zhp v14.2) r := by
                obtain ⟨p16, hp16, hv6⟩ := zbs hv6
                refine zEv_c (fun _ => rfl) rfl (t_qRu_did (oo := 198) (x1 := p4) (x2 := p12.1) (x3 := v14.1) (h := v14.2) (d := d) (by decide) hp16) rfl rfl ?_
                refine zEv_k 1 (f' := (84, [some (.ref 198), y1, some (.int x2), some (.int s.1), some (.int p4), some (.int p12.1)], [], zhp p16.2)) rfl ?_
                cases hv6
                exact kv6 _
              clear hv6
              refine zEv_k 7 (f' := (if ¬ p4 = 4 then 79 else 70, [some (.ref 198), y1, some (.int x2), some (.int s.1), some (.int p4), some (.int p12.1)], [.int p12.1, .int p4, .ref 198], zhp p12.2)) rfl (zEv_if (fun c13 => ?_) (fun c13 => ?_))
              · replace hv14 := zif_t c13 hv14
                refine zEv_k 1 (f' := (80, [some (.ref 198), y1, some (.int x2), some (.int s.1), some (.int p4), some (.int p12.1)], [.int (-1), .int p12.1, .int p4, .ref 198], zhp p12.2)) rfl ?_
                cases hv14
                exact kv14
              · replace hv14 := zif_f c13 hv14
                refine zEv_k 2 (f' := (73, [some (.ref 198), y1, some (.int x2), some (.int s.1), some (.int p4), some (.int p12.1)], [.int 21, .ref 198, .int p12.1, .int p4, .ref 198], zhp p12.2)) rfl ?_
                obtain ⟨p15, hp15, hv14⟩ := zbs hv14
                refine zEv_c (fun _ => rfl) rfl (t_qRu_below (oo := 198) (x1 := 21) (h := p12.2) (d := d + 3) (by decide) hp15) rfl rfl ?_
                refine zEv_k 1 (f' := (80, [some (.ref 198), y1, some (.int x2), some (.int s.1), some (.int p4), some (.int p12.1)], [.int p15.1, .int p12.1, .int p4, .ref 198], zhp p15.2)) rfl ?_
                cases hv14
                exact kv14
      · replace hv6 := zif_f c5 hv6
        refine zEv_k 1 (f' := (29, [some (.ref 198), y1, some (.int x2), some (.int s.1), some (.int p4), y5], [.ref 198], zhp p3.2)) rfl ?_
        obtain ⟨p17, hp17, hv6⟩ := zbs hv6
        refine zEv_c (fun _ => rfl) rfl (t_qRu_passedYear (oo := 198) (h := p3.2) (d := d + 1) (by decide) hp17) rfl rfl ?_
        refine zEv_k 2 (f' := (84, [some (.ref 198), y1, some (.int x2), some (.int s.1), some (.int p4), y5], [], zhp p17.2)) rfl ?_
        cases hv6
        exact kv6 _
theorem t_qRu_draw_b7 {Ls : Nat} {xs : Nat → Int32} {d : Nat} {oo : Nat} {x2 : Int32} {r : zA} (ho : oo = 166 ∨ oo = 198) {t : zK} (K : ∀ (z1 : Option Value) (z3 : Option Value) (z4 : Option Value) (z5 : Option Value), zEv (zXs Ls xs) (d + 4) zm_75 (90, [some (.ref oo), z1, some (.int x2), z3, z4, z5], [], zhp t) r) (n : Nat) (s : Int32 × zK) (H : zloop (qRu_draw_b7 oo x2) n s = some t) (y1 : Option Value) (y4 : Option Value) (y5 : Option Value) : zEv (zXs Ls xs) (d + 4) zm_75 (7, [some (.ref oo), y1, some (.int x2), some (.int s.1), y4, y5], [], zhp s.2) r := by
  have Z := zloop_P (P := fun s => ∀ (y1 : Option Value) (y4 : Option Value) (y5 : Option Value), zEv (zXs Ls xs) (d + 4) zm_75 (7, [some (.ref oo), y1, some (.int x2), some (.int s.1), y4, y5], [], zhp s.2) r) (b := qRu_draw_b7 oo x2) (t := t) (fun s s2 hb hk => by intro y1 y4 y5; exact t_qRu_draw_b7b ho hb hk y1 y4 y5) (fun s hb => by intro y1 y4 y5; exact t_qRu_draw_b7b ho hb K y1 y4 y5) n s H
  exact Z y1 y4 y5
def qRu_draw (oo : Nat) (x1 : Int32) (x2 : Int32) (h : zK) : Option (zK) :=
  zlet (sI h oo 15 x1) fun h1 =>
  (zloop (qRu_draw_b7 oo x2) zfu (0, h1)).bind fun t18 =>
  some t18
theorem t_qRu_draw {Ls : Nat} {xs : Nat → Int32} {d : Nat} {oo : Nat} {x1 : Int32} {x2 : Int32} {h : zK} {p : zK} (ho : oo = 166 ∨ oo = 198) (H : qRu_draw oo x1 x2 h = some p) : zEv (zXs Ls xs) (d + 4) zm_75 (0, [some (.ref oo), some (.int x1), some (.int x2), none, none, none], [], zhp h) (none, zhp p) := by
  unfold qRu_draw at H
  rcases ho with rfl | rfl
  · obtain ⟨h1, eh1, H⟩ := zlets H
    refine zEv_w (F := fun z => (5, [some (.ref 166), some (.int x1), some (.int x2), none, none, none], [], zhp z)) (h0 := sI h 166 15 x1) 3 rfl eh1 ?_
    refine zEv_k 2 (f' := (7, [some (.ref 166), some (.int x1), some (.int x2), some (.int 0), none, none], [], zhp h1)) rfl ?_
    obtain ⟨t18, ht18, H⟩ := zbs H
    refine t_qRu_draw_b7 (oo := 166) (x2 := x2) (by decide) ?_ zfu _ ht18 _ _ _
    intro y1 y3 y4 y5
    cases H
    exact zEv_r rfl
  · obtain ⟨h1, eh1, H⟩ := zlets H
    refine zEv_w (F := fun z => (5, [some (.ref 198), some (.int x1), some (.int x2), none, none, none], [], zhp z)) (h0 := sI h 198 15 x1) 3 rfl eh1 ?_
    refine zEv_k 2 (f' := (7, [some (.ref 198), some (.int x1), some (.int x2), some (.int 0), none, none], [], zhp h1)) rfl ?_
    obtain ⟨t18, ht18, H⟩ := zbs H
    refine t_qRu_draw_b7 (oo := 198) (x2 := x2) (by decide) ?_ zfu _ ht18 _ _ _
    intro y1 y3 y4 y5
    cases H
    exact zEv_r rfl
def qRu_look (oo : Nat) (x1 : Int32) (h : zK) : Option (Int32) :=
  if x1 = 0 then
    some (gI h oo 0)
  else if x1 = 1 then
    some (gI h oo 11)
  else if x1 = 2 then
    some (gI h oo 1)
  else if x1 = 3 then
    some (gI h oo 2)
  else if x1 = 4 then
    some (gI h oo 12)
  else if x1 = 5 then
    some (gI h oo 13)
  else
    if x1 < 0 then
      some (-1)
    else
      zlet (gR h oo) fun a2 =>
      if a2 = 7 ∨ a2 = 22 then
        if ¬ (qCe_has a2 (x1 - x1 / 10 * 10) h) = 0 then
          if (x1 / 10) = 1 then
            (zix (x1 - x1 / 10 * 10) 7).bind fun j5 =>
            some (gI h (oo + 10) j5)
          else if (x1 / 10) = 2 then
            (zix (x1 - x1 / 10 * 10) 7).bind fun j6 =>
            some (gI h (oo + 11) j6)
          else if (x1 / 10) = 3 then
            (zix (x1 - x1 / 10 * 10) 7).bind fun j7 =>
            some (gI h (oo + 12) j7)
          else if (x1 / 10) = 4 then
            (zix (x1 - x1 / 10 * 10) 7).bind fun j8 =>
            some (gI h (oo + 13) j8)
          else
            some (-1)
        else
          some (-1)
      else none
theorem t_qRu_look {Ls : Nat} {xs : Nat → Int32} {d : Nat} {oo : Nat} {x1 : Int32} {h : zK} {p : Int32} (ho : oo = 166 ∨ oo = 198) (H : qRu_look oo x1 h = some p) : zEv (zXs Ls xs) (d + 1) zm_76 (0, [some (.ref oo), some (.int x1), none], [], zhp h) (some (.int p), zhp h) := by
  unfold qRu_look at H
  rcases ho with rfl | rfl
  · refine zEv_k 1 (f' := (1, [some (.ref 166), some (.int x1), none], [.int x1], zhp h)) rfl ?_
    refine zEv_ts rfl (by decide) (by decide) (by decide) (fun hh => ?_) (fun j hj hh => ?_)
    · replace H := zif_f (fun e => (by rw [e] at hh; exact absurd hh (by decide))) H
      replace H := zif_f (fun e => (by rw [e] at hh; exact absurd hh (by decide))) H
      replace H := zif_f (fun e => (by rw [e] at hh; exact absurd hh (by decide))) H
      replace H := zif_f (fun e => (by rw [e] at hh; exact absurd hh (by decide))) H
      replace H := zif_f (fun e => (by rw [e] at hh; exact absurd hh (by decide))) H
      replace H := zif_f (fun e => (by rw [e] at hh; exact absurd hh (by decide))) H
      refine zEv_k 2 (f' := (73, [some (.ref 166), some (.int x1), none], [.int 10, .int x1], zhp h)) rfl ?_
      refine zEv_rem rfl (by decide) ?_
      refine zEv_k 3 (f' := (if x1 < 0 then 90 else 79, [some (.ref 166), some (.int x1), some (.int (x1 - x1 / 10 * 10))], [], zhp h)) rfl (zEv_if (fun c1 => ?_) (fun c1 => ?_))
      · replace H := zif_t c1 H
        refine zEv_k 1 (f' := (91, [some (.ref 166), some (.int x1), some (.int (x1 - x1 / 10 * 10))], [.int (-1)], zhp h)) rfl ?_
        cases H
        exact zEv_r rfl
      · replace H := zif_f c1 H
        refine zEv_k 1 (f' := (80, [some (.ref 166), some (.int x1), some (.int (x1 - x1 / 10 * 10))], [.ref 166], zhp h)) rfl ?_
        refine zRgc (by decide) rfl rfl rfl (by decide) ?_
        refine zEv_k 1 (f' := (84, [some (.ref 166), some (.int x1), some (.int (x1 - x1 / 10 * 10))], [.int (x1 - x1 / 10 * 10), .ref (gR h 166)], zhp h)) rfl ?_
        obtain ⟨a2, ea2, H⟩ := zlets H
        rw [ea2]
        obtain ⟨c3, H⟩ := zifn H
        rcases c3 with rfl | rfl
        · refine zEv_c (fun _ => rfl) rfl (t_qCe_has (oo := 7) (x1 := x1 - x1 / 10 * 10) (h := h) (d := d) (by decide) rfl) rfl rfl ?_
          refine zEv_k 1 (f' := (if ¬ (qCe_has 7 (x1 - x1 / 10 * 10) h) = 0 then 92 else 90, [some (.ref 166), some (.int x1), some (.int (x1 - x1 / 10 * 10))], [], zhp h)) rfl (zEv_if (fun c4 => ?_) (fun c4 => ?_))
          · replace H := zif_t c4 H
            refine zEv_k 2 (f' := (95, [some (.ref 166), some (.int x1), some (.int (x1 - x1 / 10 * 10))], [.int 10, .int x1], zhp h)) rfl ?_
            refine zEv_div rfl (by decide) ?_
            refine zEv_ts rfl (by decide) (by decide) (by decide) (fun hh => ?_) (fun j hj hh => ?_)
            · replace H := zif_f (fun e => (by rw [e] at hh; exact absurd hh (by decide))) H
              replace H := zif_f (fun e => (by rw [e] at hh; exact absurd hh (by decide))) H
              replace H := zif_f (fun e => (by rw [e] at hh; exact absurd hh (by decide))) H
              replace H := zif_f (fun e => (by rw [e] at hh; exact absurd hh (by decide))) H
              refine zEv_k 1 (f' := (157, [some (.ref 166), some (.int x1), some (.int (x1 - x1 / 10 * 10))], [.int (-1)], zhp h)) rfl ?_
              cases H
              exact zEv_r rfl
            · rcases (by have hj2 : j < 4 := hj; omega : j = 0 ∨ j = 1 ∨ j = 2 ∨ j = 3) with rfl | rfl | rfl | rfl
              · have ex : x1 / 10 = 1 := zeqI hh (by decide)
                replace H := zif_t ex H
                refine zEv_k 1 (f' := (129, [some (.ref 166), some (.int x1), some (.int (x1 - x1 / 10 * 10))], [.ref 166], zhp h)) rfl ?_
                refine zRgr rfl rfl rfl (by decide) (b := 166 + 10) rfl ?_
                refine zEv_k 1 (f' := (133, [some (.ref 166), some (.int x1), some (.int (x1 - x1 / 10 * 10))], [.int (x1 - x1 / 10 * 10), .ref (166 + 10)], zhp h)) rfl ?_
                obtain ⟨j5, hj5, H⟩ := zbs H
                refine zRia rfl rfl (by decide) hj5 ?_
                cases H
                exact zEv_r rfl
              · have ex : x1 / 10 = 2 := zeqI hh (by decide)
                replace H := zif_f (fun e => by rw [ex] at e; exact absurd e (by decide)) H
                replace H := zif_t ex H
                refine zEv_k 1 (f' := (136, [some (.ref 166), some (.int x1), some (.int (x1 - x1 / 10 * 10))], [.ref 166], zhp h)) rfl ?_
                refine zRgr rfl rfl rfl (by decide) (b := 166 + 11) rfl ?_
                refine zEv_k 1 (f' := (140, [some (.ref 166), some (.int x1), some (.int (x1 - x1 / 10 * 10))], [.int (x1 - x1 / 10 * 10), .ref (166 + 11)], zhp h)) rfl ?_
                obtain ⟨j6, hj6, H⟩ := zbs H
                refine zRia rfl rfl (by decide) hj6 ?_
                cases H
                exact zEv_r rfl
              · have ex : x1 / 10 = 3 := zeqI hh (by decide)
                replace H := zif_f (fun e => by rw [ex] at e; exact absurd e (by decide)) H
                replace H := zif_f (fun e => by rw [ex] at e; exact absurd e (by decide)) H
                replace H := zif_t ex H
                refine zEv_k 1 (f' := (143, [some (.ref 166), some (.int x1), some (.int (x1 - x1 / 10 * 10))], [.ref 166], zhp h)) rfl ?_
                refine zRgr rfl rfl rfl (by decide) (b := 166 + 12) rfl ?_
                refine zEv_k 1 (f' := (147, [some (.ref 166), some (.int x1), some (.int (x1 - x1 / 10 * 10))], [.int (x1 - x1 / 10 * 10), .ref (166 + 12)], zhp h)) rfl ?_
                obtain ⟨j7, hj7, H⟩ := zbs H
                refine zRia rfl rfl (by decide) hj7 ?_
                cases H
                exact zEv_r rfl
              · have ex : x1 / 10 = 4 := zeqI hh (by decide)
                replace H := zif_f (fun e => by rw [ex] at e; exact absurd e (by decide)) H
                replace H := zif_f (fun e => by rw [ex] at e; exact absurd e (by decide)) H
                replace H := zif_f (fun e => by rw [ex] at e; exact absurd e (by decide)) H
                replace H := zif_t ex H
                refine zEv_k 1 (f' := (150, [some (.ref 166), some (.int x1), some (.int (x1 - x1 / 10 * 10))], [.ref 166], zhp h)) rfl ?_
                refine zRgr rfl rfl rfl (by decide) (b := 166 + 13) rfl ?_
                refine zEv_k 1 (f' := (154, [some (.ref 166), some (.int x1), some (.int (x1 - x1 / 10 * 10))], [.int (x1 - x1 / 10 * 10), .ref (166 + 13)], zhp h)) rfl ?_
                obtain ⟨j8, hj8, H⟩ := zbs H
                refine zRia rfl rfl (by decide) hj8 ?_
                cases H
                exact zEv_r rfl
          · replace H := zif_f c4 H
            refine zEv_k 1 (f' := (91, [some (.ref 166), some (.int x1), some (.int (x1 - x1 / 10 * 10))], [.int (-1)], zhp h)) rfl ?_
            cases H
            exact zEv_r rfl
        · refine zEv_c (fun _ => rfl) rfl (t_qCe_has (oo := 22) (x1 := x1 - x1 / 10 * 10) (h := h) (d := d) (by decide) rfl) rfl rfl ?_
          refine zEv_k 1 (f' := (if ¬ (qCe_has 22 (x1 - x1 / 10 * 10) h) = 0 then 92 else 90, [some (.ref 166), some (.int x1), some (.int (x1 - x1 / 10 * 10))], [], zhp h)) rfl (zEv_if (fun c4 => ?_) (fun c4 => ?_))
          · replace H := zif_t c4 H
            refine zEv_k 2 (f' := (95, [some (.ref 166), some (.int x1), some (.int (x1 - x1 / 10 * 10))], [.int 10, .int x1], zhp h)) rfl ?_
            refine zEv_div rfl (by decide) ?_
            refine zEv_ts rfl (by decide) (by decide) (by decide) (fun hh => ?_) (fun j hj hh => ?_)
            · replace H := zif_f (fun e => (by rw [e] at hh; exact absurd hh (by decide))) H
              replace H := zif_f (fun e => (by rw [e] at hh; exact absurd hh (by decide))) H
              replace H := zif_f (fun e => (by rw [e] at hh; exact absurd hh (by decide))) H
              replace H := zif_f (fun e => (by rw [e] at hh; exact absurd hh (by decide))) H
              refine zEv_k 1 (f' := (157, [some (.ref 166), some (.int x1), some (.int (x1 - x1 / 10 * 10))], [.int (-1)], zhp h)) rfl ?_
              cases H
              exact zEv_r rfl
            · rcases (by have hj2 : j < 4 := hj; omega : j = 0 ∨ j = 1 ∨ j = 2 ∨ j = 3) with rfl | rfl | rfl | rfl
              · have ex : x1 / 10 = 1 := zeqI hh (by decide)
                replace H := zif_t ex H
                refine zEv_k 1 (f' := (129, [some (.ref 166), some (.int x1), some (.int (x1 - x1 / 10 * 10))], [.ref 166], zhp h)) rfl ?_
                refine zRgr rfl rfl rfl (by decide) (b := 166 + 10) rfl ?_
                refine zEv_k 1 (f' := (133, [some (.ref 166), some (.int x1), some (.int (x1 - x1 / 10 * 10))], [.int (x1 - x1 / 10 * 10), .ref (166 + 10)], zhp h)) rfl ?_
                obtain ⟨j5, hj5, H⟩ := zbs H
                refine zRia rfl rfl (by decide) hj5 ?_
                cases H
                exact zEv_r rfl
              · have ex : x1 / 10 = 2 := zeqI hh (by decide)
                replace H := zif_f (fun e => by rw [ex] at e; exact absurd e (by decide)) H
                replace H := zif_t ex H
                refine zEv_k 1 (f' := (136, [some (.ref 166), some (.int x1), some (.int (x1 - x1 / 10 * 10))], [.ref 166], zhp h)) rfl ?_
                refine zRgr rfl rfl rfl (by decide) (b := 166 + 11) rfl ?_
                refine zEv_k 1 (f' := (140, [some (.ref 166), some (.int x1), some (.int (x1 - x1 / 10 * 10))], [.int (x1 - x1 / 10 * 10), .ref (166 + 11)], zhp h)) rfl ?_
                obtain ⟨j6, hj6, H⟩ := zbs H
                refine zRia rfl rfl (by decide) hj6 ?_
                cases H
                exact zEv_r rfl
              · have ex : x1 / 10 = 3 := zeqI hh (by decide)
                replace H := zif_f (fun e => by rw [ex] at e; exact absurd e (by decide)) H
                replace H := zif_f (fun e => by rw [ex] at e; exact absurd e (by decide)) H
                replace H := zif_t ex H
                refine zEv_k 1 (f' := (143, [some (.ref 166), some (.int x1), some (.int (x1 - x1 / 10 * 10))], [.ref 166], zhp h)) rfl ?_
                refine zRgr rfl rfl rfl (by decide) (b := 166 + 12) rfl ?_
                refine zEv_k 1 (f' := (147, [some (.ref 166), some (.int x1), some (.int (x1 - x1 / 10 * 10))], [.int (x1 - x1 / 10 * 10), .ref (166 + 12)], zhp h)) rfl ?_
                obtain ⟨j7, hj7, H⟩ := zbs H
                refine zRia rfl rfl (by decide) hj7 ?_
                cases H
                exact zEv_r rfl
              · have ex : x1 / 10 = 4 := zeqI hh (by decide)
                replace H := zif_f (fun e => by rw [ex] at e; exact absurd e (by decide)) H
                replace H := zif_f (fun e => by rw [ex] at e; exact absurd e (by decide)) H
                replace H := zif_f (fun e => by rw [ex] at e; exact absurd e (by decide)) H
                replace H := zif_t ex H
                refine zEv_k 1 (f' := (150, [some (.ref 166), some (.int x1), some (.int (x1 - x1 / 10 * 10))], [.ref 166], zhp h)) rfl ?_
                refine zRgr rfl rfl rfl (by decide) (b := 166 + 13) rfl ?_
                refine zEv_k 1 (f' := (154, [some (.ref 166), some (.int x1), some (.int (x1 - x1 / 10 * 10))], [.int (x1 - x1 / 10 * 10), .ref (166 + 13)], zhp h)) rfl ?_
                obtain ⟨j8, hj8, H⟩ := zbs H
                refine zRia rfl rfl (by decide) hj8 ?_
                cases H
                exact zEv_r rfl
          · replace H := zif_f c4 H
            refine zEv_k 1 (f' := (91, [some (.ref 166), some (.int x1), some (.int (x1 - x1 / 10 * 10))], [.int (-1)], zhp h)) rfl ?_
            cases H
            exact zEv_r rfl
    · rcases (by have hj2 : j < 6 := hj; omega : j = 0 ∨ j = 1 ∨ j = 2 ∨ j = 3 ∨ j = 4 ∨ j = 5) with rfl | rfl | rfl | rfl | rfl | rfl
      · have ex : x1 = 0 := zeqI hh (by decide)
        replace H := zif_t ex H
        refine zEv_k 2 (f' := (44, [some (.ref 166), some (.int x1), none], [.int (gI h 166 0)], zhp h)) rfl ?_
        cases H
        exact zEv_r rfl
      · have ex : x1 = 1 := zeqI hh (by decide)
        replace H := zif_f (fun e => by rw [ex] at e; exact absurd e (by decide)) H
        replace H := zif_t ex H
        refine zEv_k 2 (f' := (49, [some (.ref 166), some (.int x1), none], [.int (gI h 166 11)], zhp h)) rfl ?_
        cases H
        exact zEv_r rfl
      · have ex : x1 = 2 := zeqI hh (by decide)
        replace H := zif_f (fun e => by rw [ex] at e; exact absurd e (by decide)) H
        replace H := zif_f (fun e => by rw [ex] at e; exact absurd e (by decide)) H
        replace H := zif_t ex H
        refine zEv_k 2 (f' := (54, [some (.ref 166), some (.int x1), none], [.int (gI h 166 1)], zhp h)) rfl ?_
        cases H
        exact zEv_r rfl
      · have ex : x1 = 3 := zeqI hh (by decide)
        replace H := zif_f (fun e => by rw [ex] at e; exact absurd e (by decide)) H
        replace H := zif_f (fun e => by rw [ex] at e; exact absurd e (by decide)) H
        replace H := zif_f (fun e => by rw [ex] at e; exact absurd e (by decide)) H
        replace H := zif_t ex H
        refine zEv_k 2 (f' := (59, [some (.ref 166), some (.int x1), none], [.int (gI h 166 2)], zhp h)) rfl ?_
        cases H
        exact zEv_r rfl
      · have ex : x1 = 4 := zeqI hh (by decide)
        replace H := zif_f (fun e => by rw [ex] at e; exact absurd e (by decide)) H
        replace H := zif_f (fun e => by rw [ex] at e; exact absurd e (by decide)) H
        replace H := zif_f (fun e => by rw [ex] at e; exact absurd e (by decide)) H
        replace H := zif_f (fun e => by rw [ex] at e; exact absurd e (by decide)) H
        replace H := zif_t ex H
        refine zEv_k 2 (f' := (64, [some (.ref 166), some (.int x1), none], [.int (gI h 166 12)], zhp h)) rfl ?_
        cases H
        exact zEv_r rfl
      · have ex : x1 = 5 := zeqI hh (by decide)
        replace H := zif_f (fun e => by rw [ex] at e; exact absurd e (by decide)) H
        replace H := zif_f (fun e => by rw [ex] at e; exact absurd e (by decide)) H
        replace H := zif_f (fun e => by rw [ex] at e; exact absurd e (by decide)) H
        replace H := zif_f (fun e => by rw [ex] at e; exact absurd e (by decide)) H
        replace H := zif_f (fun e => by rw [ex] at e; exact absurd e (by decide)) H
        replace H := zif_t ex H
        refine zEv_k 2 (f' := (69, [some (.ref 166), some (.int x1), none], [.int (gI h 166 13)], zhp h)) rfl ?_
        cases H
        exact zEv_r rfl
  · refine zEv_k 1 (f' := (1, [some (.ref 198), some (.int x1), none], [.int x1], zhp h)) rfl ?_
    refine zEv_ts rfl (by decide) (by decide) (by decide) (fun hh => ?_) (fun j hj hh => ?_)
    · replace H := zif_f (fun e => (by rw [e] at hh; exact absurd hh (by decide))) H
      replace H := zif_f (fun e => (by rw [e] at hh; exact absurd hh (by decide))) H
      replace H := zif_f (fun e => (by rw [e] at hh; exact absurd hh (by decide))) H
      replace H := zif_f (fun e => (by rw [e] at hh; exact absurd hh (by decide))) H
      replace H := zif_f (fun e => (by rw [e] at hh; exact absurd hh (by decide))) H
      replace H := zif_f (fun e => (by rw [e] at hh; exact absurd hh (by decide))) H
      refine zEv_k 2 (f' := (73, [some (.ref 198), some (.int x1), none], [.int 10, .int x1], zhp h)) rfl ?_
      refine zEv_rem rfl (by decide) ?_
      refine zEv_k 3 (f' := (if x1 < 0 then 90 else 79, [some (.ref 198), some (.int x1), some (.int (x1 - x1 / 10 * 10))], [], zhp h)) rfl (zEv_if (fun c1 => ?_) (fun c1 => ?_))
      · replace H := zif_t c1 H
        refine zEv_k 1 (f' := (91, [some (.ref 198), some (.int x1), some (.int (x1 - x1 / 10 * 10))], [.int (-1)], zhp h)) rfl ?_
        cases H
        exact zEv_r rfl
      · replace H := zif_f c1 H
        refine zEv_k 1 (f' := (80, [some (.ref 198), some (.int x1), some (.int (x1 - x1 / 10 * 10))], [.ref 198], zhp h)) rfl ?_
        refine zRgc (by decide) rfl rfl rfl (by decide) ?_
        refine zEv_k 1 (f' := (84, [some (.ref 198), some (.int x1), some (.int (x1 - x1 / 10 * 10))], [.int (x1 - x1 / 10 * 10), .ref (gR h 198)], zhp h)) rfl ?_
        obtain ⟨a2, ea2, H⟩ := zlets H
        rw [ea2]
        obtain ⟨c3, H⟩ := zifn H
        rcases c3 with rfl | rfl
        · refine zEv_c (fun _ => rfl) rfl (t_qCe_has (oo := 7) (x1 := x1 - x1 / 10 * 10) (h := h) (d := d) (by decide) rfl) rfl rfl ?_
          refine zEv_k 1 (f' := (if ¬ (qCe_has 7 (x1 - x1 / 10 * 10) h) = 0 then 92 else 90, [some (.ref 198), some (.int x1), some (.int (x1 - x1 / 10 * 10))], [], zhp h)) rfl (zEv_if (fun c4 => ?_) (fun c4 => ?_))
          · replace H := zif_t c4 H
            refine zEv_k 2 (f' := (95, [some (.ref 198), some (.int x1), some (.int (x1 - x1 / 10 * 10))], [.int 10, .int x1], zhp h)) rfl ?_
            refine zEv_div rfl (by decide) ?_
            refine zEv_ts rfl (by decide) (by decide) (by decide) (fun hh => ?_) (fun j hj hh => ?_)
            · replace H := zif_f (fun e => (by rw [e] at hh; exact absurd hh (by decide))) H
              replace H := zif_f (fun e => (by rw [e] at hh; exact absurd hh (by decide))) H
              replace H := zif_f (fun e => (by rw [e] at hh; exact absurd hh (by decide))) H
              replace H := zif_f (fun e => (by rw [e] at hh; exact absurd hh (by decide))) H
              refine zEv_k 1 (f' := (157, [some (.ref 198), some (.int x1), some (.int (x1 - x1 / 10 * 10))], [.int (-1)], zhp h)) rfl ?_
              cases H
              exact zEv_r rfl
            · rcases (by have hj2 : j < 4 := hj; omega : j = 0 ∨ j = 1 ∨ j = 2 ∨ j = 3) with rfl | rfl | rfl | rfl
              · have ex : x1 / 10 = 1 := zeqI hh (by decide)
                replace H := zif_t ex H
                refine zEv_k 1 (f' := (129, [some (.ref 198), some (.int x1), some (.int (x1 - x1 / 10 * 10))], [.ref 198], zhp h)) rfl ?_
                refine zRgr rfl rfl rfl (by decide) (b := 198 + 10) rfl ?_
                refine zEv_k 1 (f' := (133, [some (.ref 198), some (.int x1), some (.int (x1 - x1 / 10 * 10))], [.int (x1 - x1 / 10 * 10), .ref (198 + 10)], zhp h)) rfl ?_
                obtain ⟨j5, hj5, H⟩ := zbs H
                refine zRia rfl rfl (by decide) hj5 ?_
                cases H
                exact zEv_r rfl
              · have ex : x1 / 10 = 2 := zeqI hh (by decide)
                replace H := zif_f (fun e => by rw [ex] at e; exact absurd e (by decide)) H
                replace H := zif_t ex H
                refine zEv_k 1 (f' := (136, [some (.ref 198), some (.int x1), some (.int (x1 - x1 / 10 * 10))], [.ref 198], zhp h)) rfl ?_
                refine zRgr rfl rfl rfl (by decide) (b := 198 + 11) rfl ?_
                refine zEv_k 1 (f' := (140, [some (.ref 198), some (.int x1), some (.int (x1 - x1 / 10 * 10))], [.int (x1 - x1 / 10 * 10), .ref (198 + 11)], zhp h)) rfl ?_
                obtain ⟨j6, hj6, H⟩ := zbs H
                refine zRia rfl rfl (by decide) hj6 ?_
                cases H
                exact zEv_r rfl
              · have ex : x1 / 10 = 3 := zeqI hh (by decide)
                replace H := zif_f (fun e => by rw [ex] at e; exact absurd e (by decide)) H
                replace H := zif_f (fun e => by rw [ex] at e; exact absurd e (by decide)) H
                replace H := zif_t ex H
                refine zEv_k 1 (f' := (143, [some (.ref 198), some (.int x1), some (.int (x1 - x1 / 10 * 10))], [.ref 198], zhp h)) rfl ?_
                refine zRgr rfl rfl rfl (by decide) (b := 198 + 12) rfl ?_
                refine zEv_k 1 (f' := (147, [some (.ref 198), some (.int x1), some (.int (x1 - x1 / 10 * 10))], [.int (x1 - x1 / 10 * 10), .ref (198 + 12)], zhp h)) rfl ?_
                obtain ⟨j7, hj7, H⟩ := zbs H
                refine zRia rfl rfl (by decide) hj7 ?_
                cases H
                exact zEv_r rfl
              · have ex : x1 / 10 = 4 := zeqI hh (by decide)
                replace H := zif_f (fun e => by rw [ex] at e; exact absurd e (by decide)) H
                replace H := zif_f (fun e => by rw [ex] at e; exact absurd e (by decide)) H
                replace H := zif_f (fun e => by rw [ex] at e; exact absurd e (by decide)) H
                replace H := zif_t ex H
                refine zEv_k 1 (f' := (150, [some (.ref 198), some (.int x1), some (.int (x1 - x1 / 10 * 10))], [.ref 198], zhp h)) rfl ?_
                refine zRgr rfl rfl rfl (by decide) (b := 198 + 13) rfl ?_
                refine zEv_k 1 (f' := (154, [some (.ref 198), some (.int x1), some (.int (x1 - x1 / 10 * 10))], [.int (x1 - x1 / 10 * 10), .ref (198 + 13)], zhp h)) rfl ?_
                obtain ⟨j8, hj8, H⟩ := zbs H
                refine zRia rfl rfl (by decide) hj8 ?_
                cases H
                exact zEv_r rfl
          · replace H := zif_f c4 H
            refine zEv_k 1 (f' := (91, [some (.ref 198), some (.int x1), some (.int (x1 - x1 / 10 * 10))], [.int (-1)], zhp h)) rfl ?_
            cases H
            exact zEv_r rfl
        · refine zEv_c (fun _ => rfl) rfl (t_qCe_has (oo := 22) (x1 := x1 - x1 / 10 * 10) (h := h) (d := d) (by decide) rfl) rfl rfl ?_
          refine zEv_k 1 (f' := (if ¬ (qCe_has 22 (x1 - x1 / 10 * 10) h) = 0 then 92 else 90, [some (.ref 198), some (.int x1), some (.int (x1 - x1 / 10 * 10))], [], zhp h)) rfl (zEv_if (fun c4 => ?_) (fun c4 => ?_))
          · replace H := zif_t c4 H
            refine zEv_k 2 (f' := (95, [some (.ref 198), some (.int x1), some (.int (x1 - x1 / 10 * 10))], [.int 10, .int x1], zhp h)) rfl ?_
            refine zEv_div rfl (by decide) ?_
            refine zEv_ts rfl (by decide) (by decide) (by decide) (fun hh => ?_) (fun j hj hh => ?_)
            · replace H := zif_f (fun e => (by rw [e] at hh; exact absurd hh (by decide))) H
              replace H := zif_f (fun e => (by rw [e] at hh; exact absurd hh (by decide))) H
              replace H := zif_f (fun e => (by rw [e] at hh; exact absurd hh (by decide))) H
              replace H := zif_f (fun e => (by rw [e] at hh; exact absurd hh (by decide))) H
              refine zEv_k 1 (f' := (157, [some (.ref 198), some (.int x1), some (.int (x1 - x1 / 10 * 10))], [.int (-1)], zhp h)) rfl ?_
              cases H
              exact zEv_r rfl
            · rcases (by have hj2 : j < 4 := hj; omega : j = 0 ∨ j = 1 ∨ j = 2 ∨ j = 3) with rfl | rfl | rfl | rfl
              · have ex : x1 / 10 = 1 := zeqI hh (by decide)
                replace H := zif_t ex H
                refine zEv_k 1 (f' := (129, [some (.ref 198), some (.int x1), some (.int (x1 - x1 / 10 * 10))], [.ref 198], zhp h)) rfl ?_
                refine zRgr rfl rfl rfl (by decide) (b := 198 + 10) rfl ?_
                refine zEv_k 1 (f' := (133, [some (.ref 198), some (.int x1), some (.int (x1 - x1 / 10 * 10))], [.int (x1 - x1 / 10 * 10), .ref (198 + 10)], zhp h)) rfl ?_
                obtain ⟨j5, hj5, H⟩ := zbs H
                refine zRia rfl rfl (by decide) hj5 ?_
                cases H
                exact zEv_r rfl
              · have ex : x1 / 10 = 2 := zeqI hh (by decide)
                replace H := zif_f (fun e => by rw [ex] at e; exact absurd e (by decide)) H
                replace H := zif_t ex H
                refine zEv_k 1 (f' := (136, [some (.ref 198), some (.int x1), some (.int (x1 - x1 / 10 * 10))], [.ref 198], zhp h)) rfl ?_
                refine zRgr rfl rfl rfl (by decide) (b := 198 + 11) rfl ?_
                refine zEv_k 1 (f' := (140, [some (.ref 198), some (.int x1), some (.int (x1 - x1 / 10 * 10))], [.int (x1 - x1 / 10 * 10), .ref (198 + 11)], zhp h)) rfl ?_
                obtain ⟨j6, hj6, H⟩ := zbs H
                refine zRia rfl rfl (by decide) hj6 ?_
                cases H
                exact zEv_r rfl
              · have ex : x1 / 10 = 3 := zeqI hh (by decide)
                replace H := zif_f (fun e => by rw [ex] at e; exact absurd e (by decide)) H
                replace H := zif_f (fun e => by rw [ex] at e; exact absurd e (by decide)) H
                replace H := zif_t ex H
                refine zEv_k 1 (f' := (143, [some (.ref 198), some (.int x1), some (.int (x1 - x1 / 10 * 10))], [.ref 198], zhp h)) rfl ?_
                refine zRgr rfl rfl rfl (by decide) (b := 198 + 12) rfl ?_
                refine zEv_k 1 (f' := (147, [some (.ref 198), some (.int x1), some (.int (x1 - x1 / 10 * 10))], [.int (x1 - x1 / 10 * 10), .ref (198 + 12)], zhp h)) rfl ?_
                obtain ⟨j7, hj7, H⟩ := zbs H
                refine zRia rfl rfl (by decide) hj7 ?_
                cases H
                exact zEv_r rfl
              · have ex : x1 / 10 = 4 := zeqI hh (by decide)
                replace H := zif_f (fun e => by rw [ex] at e; exact absurd e (by decide)) H
                replace H := zif_f (fun e => by rw [ex] at e; exact absurd e (by decide)) H
                replace H := zif_f (fun e => by rw [ex] at e; exact absurd e (by decide)) H
                replace H := zif_t ex H
                refine zEv_k 1 (f' := (150, [some (.ref 198), some (.int x1), some (.int (x1 - x1 / 10 * 10))], [.ref 198], zhp h)) rfl ?_
                refine zRgr rfl rfl rfl (by decide) (b := 198 + 13) rfl ?_
                refine zEv_k 1 (f' := (154, [some (.ref 198), some (.int x1), some (.int (x1 - x1 / 10 * 10))], [.int (x1 - x1 / 10 * 10), .ref (198 + 13)], zhp h)) rfl ?_
                obtain ⟨j8, hj8, H⟩ := zbs H
                refine zRia rfl rfl (by decide) hj8 ?_
                cases H
                exact zEv_r rfl
          · replace H := zif_f c4 H
            refine zEv_k 1 (f' := (91, [some (.ref 198), some (.int x1), some (.int (x1 - x1 / 10 * 10))], [.int (-1)], zhp h)) rfl ?_
            cases H
            exact zEv_r rfl
    · rcases (by have hj2 : j < 6 := hj; omega : j = 0 ∨ j = 1 ∨ j = 2 ∨ j = 3 ∨ j = 4 ∨ j = 5) with rfl | rfl | rfl | rfl | rfl | rfl
      · have ex : x1 = 0 := zeqI hh (by decide)
        replace H := zif_t ex H
        refine zEv_k 2 (f' := (44, [some (.ref 198), some (.int x1), none], [.int (gI h 198 0)], zhp h)) rfl ?_
        cases H
        exact zEv_r rfl
      · have ex : x1 = 1 := zeqI hh (by decide)
        replace H := zif_f (fun e => by rw [ex] at e; exact absurd e (by decide)) H
        replace H := zif_t ex H
        refine zEv_k 2 (f' := (49, [some (.ref 198), some (.int x1), none], [.int (gI h 198 11)], zhp h)) rfl ?_
        cases H
        exact zEv_r rfl
      · have ex : x1 = 2 := zeqI hh (by decide)
        replace H := zif_f (fun e => by rw [ex] at e; exact absurd e (by decide)) H
        replace H := zif_f (fun e => by rw [ex] at e; exact absurd e (by decide)) H
        replace H := zif_t ex H
        refine zEv_k 2 (f' := (54, [some (.ref 198), some (.int x1), none], [.int (gI h 198 1)], zhp h)) rfl ?_
        cases H
        exact zEv_r rfl
      · have ex : x1 = 3 := zeqI hh (by decide)
        replace H := zif_f (fun e => by rw [ex] at e; exact absurd e (by decide)) H
        replace H := zif_f (fun e => by rw [ex] at e; exact absurd e (by decide)) H
        replace H := zif_f (fun e => by rw [ex] at e; exact absurd e (by decide)) H
        replace H := zif_t ex H
        refine zEv_k 2 (f' := (59, [some (.ref 198), some (.int x1), none], [.int (gI h 198 2)], zhp h)) rfl ?_
        cases H
        exact zEv_r rfl
      · have ex : x1 = 4 := zeqI hh (by decide)
        replace H := zif_f (fun e => by rw [ex] at e; exact absurd e (by decide)) H
        replace H := zif_f (fun e => by rw [ex] at e; exact absurd e (by decide)) H
        replace H := zif_f (fun e => by rw [ex] at e; exact absurd e (by decide)) H
        replace H := zif_f (fun e => by rw [ex] at e; exact absurd e (by decide)) H
        replace H := zif_t ex H
        refine zEv_k 2 (f' := (64, [some (.ref 198), some (.int x1), none], [.int (gI h 198 12)], zhp h)) rfl ?_
        cases H
        exact zEv_r rfl
      · have ex : x1 = 5 := zeqI hh (by decide)
        replace H := zif_f (fun e => by rw [ex] at e; exact absurd e (by decide)) H
        replace H := zif_f (fun e => by rw [ex] at e; exact absurd e (by decide)) H
        replace H := zif_f (fun e => by rw [ex] at e; exact absurd e (by decide)) H
        replace H := zif_f (fun e => by rw [ex] at e; exact absurd e (by decide)) H
        replace H := zif_f (fun e => by rw [ex] at e; exact absurd e (by decide)) H
        replace H := zif_t ex H
        refine zEv_k 2 (f' := (69, [some (.ref 198), some (.int x1), none], [.int (gI h 198 13)], zhp h)) rfl ?_
        cases H
        exact zEv_r rfl
def qRu_firstBurstYear_b2 (oo : Nat) (h : zK) (s : Int32) : Option ((Int32) ⊕ ((Unit) ⊕ (Int32))) :=
  if 50 < s then
    some (.inr (.inl ()))
  else
    (zix s 51).bind fun j2 =>
    if (gI h (oo + 1) j2) ≤ 0 then
      some (.inl (s + 1))
    else
      some (.inr (.inr s))
theorem t_qRu_firstBurstYear_b2b {Ls : Nat} {xs : Nat → Int32} {d : Nat} {oo : Nat} {h : zK} {r : zA} {s : Int32} {e : (Int32) ⊕ ((Unit) ⊕ (Int32))} (ho : oo = 166 ∨ oo = 198) (H : qRu_firstBurstYear_b2 oo h s = some e) (K : match (generalizing := false) e with | .inl s' => zEv (zXs Ls xs) d zm_77 (2, [some (.ref oo), some (.int s')], [], zhp h) r | .inr (.inl v) => ∀ (z1 : Option Value), zEv (zXs Ls xs) d zm_77 (25, [some (.ref oo), z1], [], zhp h) r | .inr (.inr p) => (some (.int p), zhp h) = r) : zEv (zXs Ls xs) d zm_77 (2, [some (.ref oo), some (.int s)], [], zhp h) r := by
  unfold qRu_firstBurstYear_b2 at H
  rcases ho with rfl | rfl
  · refine zEv_k 3 (f' := (if 50 < s then 25 else 8, [some (.ref 166), some (.int s)], [], zhp h)) rfl (zEv_if (fun c1 => ?_) (fun c1 => ?_))
    · replace H := zif_t c1 H
      cases H
      exact K _
    · replace H := zif_f c1 H
      refine zEv_k 1 (f' := (9, [some (.ref 166), some (.int s)], [.ref 166], zhp h)) rfl ?_
      refine zRgr rfl rfl rfl (by decide) (b := 166 + 1) rfl ?_
      refine zEv_k 1 (f' := (13, [some (.ref 166), some (.int s)], [.int s, .ref (166 + 1)], zhp h)) rfl ?_
      obtain ⟨j2, hj2, H⟩ := zbs H
      refine zRia rfl rfl (by decide) hj2 ?_
      refine zEv_k 1 (f' := (if (gI h (166 + 1) j2) ≤ 0 then 19 else 17, [some (.ref 166), some (.int s)], [], zhp h)) rfl (zEv_if (fun c3 => ?_) (fun c3 => ?_))
      · replace H := zif_t c3 H
        refine zEv_k 2 (f' := (2, [some (.ref 166), some (.int (s + 1))], [], zhp h)) rfl ?_
        cases H
        exact K
      · replace H := zif_f c3 H
        refine zEv_k 1 (f' := (18, [some (.ref 166), some (.int s)], [.int s], zhp h)) rfl ?_
        cases H
        exact zEv_re K rfl
  · refine zEv_k 3 (f' := (if 50 < s then 25 else 8, [some (.ref 198), some (.int s)], [], zhp h)) rfl (zEv_if (fun c1 => ?_) (fun c1 => ?_))
    · replace H := zif_t c1 H
      cases H
      exact K _
    · replace H := zif_f c1 H
      refine zEv_k 1 (f' := (9, [some (.ref 198), some (.int s)], [.ref 198], zhp h)) rfl ?_
      refine zRgr rfl rfl rfl (by decide) (b := 198 + 1) rfl ?_
      refine zEv_k 1 (f' := (13, [some (.ref 198), some (.int s)], [.int s, .ref (198 + 1)], zhp h)) rfl ?_
      obtain ⟨j2, hj2, H⟩ := zbs H
      refine zRia rfl rfl (by decide) hj2 ?_
      refine zEv_k 1 (f' := (if (gI h (198 + 1) j2) ≤ 0 then 19 else 17, [some (.ref 198), some (.int s)], [], zhp h)) rfl (zEv_if (fun c3 => ?_) (fun c3 => ?_))
      · replace H := zif_t c3 H
        refine zEv_k 2 (f' := (2, [some (.ref 198), some (.int (s + 1))], [], zhp h)) rfl ?_
        cases H
        exact K
      · replace H := zif_f c3 H
        refine zEv_k 1 (f' := (18, [some (.ref 198), some (.int s)], [.int s], zhp h)) rfl ?_
        cases H
        exact zEv_re K rfl
theorem t_qRu_firstBurstYear_b2 {Ls : Nat} {xs : Nat → Int32} {d : Nat} {oo : Nat} {h : zK} {r : zA} (ho : oo = 166 ∨ oo = 198) {t : (Unit) ⊕ (Int32)} (K : (match (generalizing := false) t with | .inl v => ∀ (z1 : Option Value), zEv (zXs Ls xs) d zm_77 (25, [some (.ref oo), z1], [], zhp h) r | .inr p => (some (.int p), zhp h) = r)) (n : Nat) (s : Int32) (H : zloop (qRu_firstBurstYear_b2 oo h) n s = some t) : zEv (zXs Ls xs) d zm_77 (2, [some (.ref oo), some (.int s)], [], zhp h) r := by
  have Z := zloop_P (P := fun s => zEv (zXs Ls xs) d zm_77 (2, [some (.ref oo), some (.int s)], [], zhp h) r) (b := qRu_firstBurstYear_b2 oo h) (t := t) (fun s s2 hb hk => by exact t_qRu_firstBurstYear_b2b ho hb hk) (fun s hb => by rcases t with v | p <;> (exact t_qRu_firstBurstYear_b2b ho hb K)) n s H
  exact Z
def qRu_firstBurstYear (oo : Nat) (h : zK) : Option (Int32) :=
  (zloop (qRu_firstBurstYear_b2 oo h) zfu 1).bind fun t4 => match t4 with
  | .inr p => some p
  | .inl v5 =>
    some (-1)
theorem t_qRu_firstBurstYear {Ls : Nat} {xs : Nat → Int32} {d : Nat} {oo : Nat} {h : zK} {p : Int32} (ho : oo = 166 ∨ oo = 198) (H : qRu_firstBurstYear oo h = some p) : zEv (zXs Ls xs) d zm_77 (0, [some (.ref oo), none], [], zhp h) (some (.int p), zhp h) := by
  unfold qRu_firstBurstYear at H
  rcases ho with rfl | rfl
  · refine zEv_k 2 (f' := (2, [some (.ref 166), some (.int 1)], [], zhp h)) rfl ?_
    obtain ⟨t4, ht4, H⟩ := zbs H
    refine t_qRu_firstBurstYear_b2 (oo := 166) (h := h) (by decide) ?_ zfu _ ht4
    rcases t4 with v5 | p
    · intro y1
      dsimp only at H
      refine zEv_k 1 (f' := (26, [some (.ref 166), y1], [.int (-1)], zhp h)) rfl ?_
      cases H
      exact zEv_r rfl
    · cases H
      exact rfl
  · refine zEv_k 2 (f' := (2, [some (.ref 198), some (.int 1)], [], zhp h)) rfl ?_
    obtain ⟨t4, ht4, H⟩ := zbs H
    refine t_qRu_firstBurstYear_b2 (oo := 198) (h := h) (by decide) ?_ zfu _ ht4
    rcases t4 with v5 | p
    · intro y1
      dsimp only at H
      refine zEv_k 1 (f' := (26, [some (.ref 198), y1], [.int (-1)], zhp h)) rfl ?_
      cases H
      exact zEv_r rfl
    · cases H
      exact rfl
def qRu_mostBurstYear_b6 (oo : Nat) (h : zK) (s : Int32 × Int32 × Int32) : Option ((Int32 × Int32 × Int32) ⊕ (Int32)) :=
  if 50 < s.2.2 then
    some (.inr s.2.1)
  else
    (zix s.2.2 51).bind fun j2 =>
    zlet (
        if (gI h (oo + 1) j2) ≤ s.1 then
          (s.1, s.2.1)
        else
          (gI h (oo + 1) j2, s.2.2)
      ) fun (v4 : Int32 × Int32) =>
    some (.inl (v4.1, v4.2, s.2.2 + 1))
theorem t_qRu_mostBurstYear_b6b {Ls : Nat} {xs : Nat → Int32} {d : Nat} {oo : Nat} {h : zK} {r : zA} {s : Int32 × Int32 × Int32} {e : (Int32 × Int32 × Int32) ⊕ (Int32)} (ho : oo = 166 ∨ oo = 198) (H : qRu_mostBurstYear_b6 oo h s = some e) (K : match (generalizing := false) e with | .inl s' => zEv (zXs Ls xs) d zm_78 (6, [some (.ref oo), some (.int s'.1), some (.int s'.2.1), some (.int s'.2.2)], [], zhp h) r | .inr v => ∀ (z1 : Option Value) (z3 : Option Value), zEv (zXs Ls xs) d zm_78 (37, [some (.ref oo), z1, some (.int v), z3], [], zhp h) r) : zEv (zXs Ls xs) d zm_78 (6, [some (.ref oo), some (.int s.1), some (.int s.2.1), some (.int s.2.2)], [], zhp h) r := by
  unfold qRu_mostBurstYear_b6 at H
  rcases ho with rfl | rfl
  · refine zEv_k 3 (f' := (if 50 < s.2.2 then 37 else 12, [some (.ref 166), some (.int s.1), some (.int s.2.1), some (.int s.2.2)], [], zhp h)) rfl (zEv_if (fun c1 => ?_) (fun c1 => ?_))
    · replace H := zif_t c1 H
      cases H
      exact K _ _
    · replace H := zif_f c1 H
      refine zEv_k 1 (f' := (13, [some (.ref 166), some (.int s.1), some (.int s.2.1), some (.int s.2.2)], [.ref 166], zhp h)) rfl ?_
      refine zRgr rfl rfl rfl (by decide) (b := 166 + 1) rfl ?_
      refine zEv_k 1 (f' := (17, [some (.ref 166), some (.int s.1), some (.int s.2.1), some (.int s.2.2)], [.int s.2.2, .ref (166 + 1)], zhp h)) rfl ?_
      obtain ⟨j2, hj2, H⟩ := zbs H
      refine zRia rfl rfl (by decide) hj2 ?_
      obtain ⟨v4, hv4, H⟩ := zlets H
      have kv4 : zEv (zXs Ls xs) d zm_78 (31, [some (.ref 166), some (.int v4.1), some (.int v4.2), some (.int s.2.2)], [], zhp h) r := by
        refine zEv_k 2 (f' := (6, [some (.ref 166), some (.int v4.1), some (.int v4.2), some (.int (s.2.2 + 1))], [], zhp h)) rfl ?_
        cases H
        exact K
      clear H
      refine zEv_k 2 (f' := (if (gI h (166 + 1) j2) ≤ s.1 then 31 else 22, [some (.ref 166), some (.int s.1), some (.int s.2.1), some (.int s.2.2)], [], zhp h)) rfl (zEv_if (fun c3 => ?_) (fun c3 => ?_))
      · replace hv4 := zif_t c3 hv4
        cases hv4
        exact kv4
      · replace hv4 := zif_f c3 hv4
        refine zEv_k 1 (f' := (23, [some (.ref 166), some (.int s.1), some (.int s.2.1), some (.int s.2.2)], [.ref 166], zhp h)) rfl ?_
        refine zRgr rfl rfl rfl (by decide) (b := 166 + 1) rfl ?_
        refine zEv_k 1 (f' := (27, [some (.ref 166), some (.int s.1), some (.int s.2.1), some (.int s.2.2)], [.int s.2.2, .ref (166 + 1)], zhp h)) rfl ?_
        refine zRia rfl rfl (by decide) hj2 ?_
        refine zEv_k 3 (f' := (31, [some (.ref 166), some (.int (gI h (166 + 1) j2)), some (.int s.2.2), some (.int s.2.2)], [], zhp h)) rfl ?_
        cases hv4
        exact kv4
  · refine zEv_k 3 (f' := (if 50 < s.2.2 then 37 else 12, [some (.ref 198), some (.int s.1), some (.int s.2.1), some (.int s.2.2)], [], zhp h)) rfl (zEv_if (fun c1 => ?_) (fun c1 => ?_))
    · replace H := zif_t c1 H
      cases H
      exact K _ _
    · replace H := zif_f c1 H
      refine zEv_k 1 (f' := (13, [some (.ref 198), some (.int s.1), some (.int s.2.1), some (.int s.2.2)], [.ref 198], zhp h)) rfl ?_
      refine zRgr rfl rfl rfl (by decide) (b := 198 + 1) rfl ?_
      refine zEv_k 1 (f' := (17, [some (.ref 198), some (.int s.1), some (.int s.2.1), some (.int s.2.2)], [.int s.2.2, .ref (198 + 1)], zhp h)) rfl ?_
      obtain ⟨j2, hj2, H⟩ := zbs H
      refine zRia rfl rfl (by decide) hj2 ?_
      obtain ⟨v4, hv4, H⟩ := zlets H
      have kv4 : zEv (zXs Ls xs) d zm_78 (31, [some (.ref 198), some (.int v4.1), some (.int v4.2), some (.int s.2.2)], [], zhp h) r := by
        refine zEv_k 2 (f' := (6, [some (.ref 198), some (.int v4.1), some (.int v4.2), some (.int (s.2.2 + 1))], [], zhp h)) rfl ?_
        cases H
        exact K
      clear H
      refine zEv_k 2 (f' := (if (gI h (198 + 1) j2) ≤ s.1 then 31 else 22, [some (.ref 198), some (.int s.1), some (.int s.2.1), some (.int s.2.2)], [], zhp h)) rfl (zEv_if (fun c3 => ?_) (fun c3 => ?_))
      · replace hv4 := zif_t c3 hv4
        cases hv4
        exact kv4
      · replace hv4 := zif_f c3 hv4
        refine zEv_k 1 (f' := (23, [some (.ref 198), some (.int s.1), some (.int s.2.1), some (.int s.2.2)], [.ref 198], zhp h)) rfl ?_
        refine zRgr rfl rfl rfl (by decide) (b := 198 + 1) rfl ?_
        refine zEv_k 1 (f' := (27, [some (.ref 198), some (.int s.1), some (.int s.2.1), some (.int s.2.2)], [.int s.2.2, .ref (198 + 1)], zhp h)) rfl ?_
        refine zRia rfl rfl (by decide) hj2 ?_
        refine zEv_k 3 (f' := (31, [some (.ref 198), some (.int (gI h (198 + 1) j2)), some (.int s.2.2), some (.int s.2.2)], [], zhp h)) rfl ?_
        cases hv4
        exact kv4
theorem t_qRu_mostBurstYear_b6 {Ls : Nat} {xs : Nat → Int32} {d : Nat} {oo : Nat} {h : zK} {r : zA} (ho : oo = 166 ∨ oo = 198) {t : Int32} (K : ∀ (z1 : Option Value) (z3 : Option Value), zEv (zXs Ls xs) d zm_78 (37, [some (.ref oo), z1, some (.int t), z3], [], zhp h) r) (n : Nat) (s : Int32 × Int32 × Int32) (H : zloop (qRu_mostBurstYear_b6 oo h) n s = some t) : zEv (zXs Ls xs) d zm_78 (6, [some (.ref oo), some (.int s.1), some (.int s.2.1), some (.int s.2.2)], [], zhp h) r := by
  have Z := zloop_P (P := fun s => zEv (zXs Ls xs) d zm_78 (6, [some (.ref oo), some (.int s.1), some (.int s.2.1), some (.int s.2.2)], [], zhp h) r) (b := qRu_mostBurstYear_b6 oo h) (t := t) (fun s s2 hb hk => by exact t_qRu_mostBurstYear_b6b ho hb hk) (fun s hb => by exact t_qRu_mostBurstYear_b6b ho hb K) n s H
  exact Z
def qRu_mostBurstYear (oo : Nat) (h : zK) : Option (Int32) :=
  (zloop (qRu_mostBurstYear_b6 oo h) zfu (0, -1, 1)).bind fun t5 =>
  some t5
theorem t_qRu_mostBurstYear {Ls : Nat} {xs : Nat → Int32} {d : Nat} {oo : Nat} {h : zK} {p : Int32} (ho : oo = 166 ∨ oo = 198) (H : qRu_mostBurstYear oo h = some p) : zEv (zXs Ls xs) d zm_78 (0, [some (.ref oo), none, none, none], [], zhp h) (some (.int p), zhp h) := by
  unfold qRu_mostBurstYear at H
  rcases ho with rfl | rfl
  · refine zEv_k 6 (f' := (6, [some (.ref 166), some (.int 0), some (.int (-1)), some (.int 1)], [], zhp h)) rfl ?_
    obtain ⟨t5, ht5, H⟩ := zbs H
    refine t_qRu_mostBurstYear_b6 (oo := 166) (h := h) (by decide) ?_ zfu _ ht5
    intro y1 y3
    refine zEv_k 1 (f' := (38, [some (.ref 166), y1, some (.int t5), y3], [.int t5], zhp h)) rfl ?_
    cases H
    exact zEv_r rfl
  · refine zEv_k 6 (f' := (6, [some (.ref 198), some (.int 0), some (.int (-1)), some (.int 1)], [], zhp h)) rfl ?_
    obtain ⟨t5, ht5, H⟩ := zbs H
    refine t_qRu_mostBurstYear_b6 (oo := 198) (h := h) (by decide) ?_ zfu _ ht5
    intro y1 y3
    refine zEv_k 1 (f' := (38, [some (.ref 198), y1, some (.int t5), y3], [.int t5], zhp h)) rfl ?_
    cases H
    exact zEv_r rfl
def qT_push_b3 (x1 : Int32) (s : Int32 × zK) : Option ((Int32 × zK) ⊕ (zK)) :=
  if s.1 < 0 then
    some (.inr s.2)
  else
    if 600 ≤ (gI s.2 1 1) then
      some (.inr s.2)
    else
      (zix (gI s.2 1 1) 600).bind fun j3 =>
      zlet (sI s.2 2 j3 (Int32.toInt8 ((Int32.toInt8 (x1 >>> (s.1 &&& 31))).toInt32)).toInt32) fun h4 =>
      zlet (sI h4 1 1 ((gI h4 1 1) + 1)) fun h5 =>
      some (.inl (s.1 + (-8), h5))
theorem t_qT_push_b3b {Ls : Nat} {xs : Nat → Int32} {d : Nat} {x1 : Int32} {r : zA} {s : Int32 × zK} {e : (Int32 × zK) ⊕ (zK)} (H : qT_push_b3 x1 s = some e) (K : match (generalizing := false) e with | .inl s' => zEv (zXs Ls xs) d zm_89 (3, [some (.ref 1), some (.int x1), some (.int s'.1)], [], zhp s'.2) r | .inr v => ∀ (z2 : Option Value), zEv (zXs Ls xs) d zm_89 (46, [some (.ref 1), some (.int x1), z2], [], zhp v) r) : zEv (zXs Ls xs) d zm_89 (3, [some (.ref 1), some (.int x1), some (.int s.1)], [], zhp s.2) r := by
  unfold qT_push_b3 at H
  refine zEv_k 2 (f' := (if s.1 < 0 then 46 else 7, [some (.ref 1), some (.int x1), some (.int s.1)], [], zhp s.2)) rfl (zEv_if (fun c1 => ?_) (fun c1 => ?_))
  · replace H := zif_t c1 H
    cases H
    exact K _
  · replace H := zif_f c1 H
    refine zEv_k 4 (f' := (if 600 ≤ (gI s.2 1 1) then 46 else 17, [some (.ref 1), some (.int x1), some (.int s.1)], [], zhp s.2)) rfl (zEv_if (fun c2 => ?_) (fun c2 => ?_))
    · replace H := zif_t c2 H
      cases H
      exact K _
    · replace H := zif_f c2 H
      refine zEv_k 1 (f' := (18, [some (.ref 1), some (.int x1), some (.int s.1)], [.ref 1], zhp s.2)) rfl ?_
      refine zRgr rfl rfl rfl (by decide) (b := 2) rfl ?_
      refine zEv_k 6 (f' := (29, [some (.ref 1), some (.int x1), some (.int s.1)], [.int ((Int32.toInt8 (x1 >>> (s.1 &&& 31))).toInt32), .int (gI s.2 1 1), .ref 2], zhp s.2)) rfl ?_
      obtain ⟨j3, hj3, H⟩ := zbs H
      obtain ⟨h4, eh4, H⟩ := zlets H
      refine zRbs rfl rfl (by decide) hj3 eh4 ?_
      obtain ⟨h5, eh5, H⟩ := zlets H
      refine zEv_w (F := fun z => (40, [some (.ref 1), some (.int x1), some (.int s.1)], [], zhp z)) (h0 := sI h4 1 1 ((gI h4 1 1) + 1)) 6 rfl eh5 ?_
      refine zEv_k 2 (f' := (3, [some (.ref 1), some (.int x1), some (.int (s.1 + (-8)))], [], zhp h5)) rfl ?_
      cases H
      exact K
theorem t_qT_push_b3 {Ls : Nat} {xs : Nat → Int32} {d : Nat} {x1 : Int32} {r : zA} {t : zK} (K : ∀ (z2 : Option Value), zEv (zXs Ls xs) d zm_89 (46, [some (.ref 1), some (.int x1), z2], [], zhp t) r) (n : Nat) (s : Int32 × zK) (H : zloop (qT_push_b3 x1) n s = some t) : zEv (zXs Ls xs) d zm_89 (3, [some (.ref 1), some (.int x1), some (.int s.1)], [], zhp s.2) r := by
  have Z := zloop_P (P := fun s => zEv (zXs Ls xs) d zm_89 (3, [some (.ref 1), some (.int x1), some (.int s.1)], [], zhp s.2) r) (b := qT_push_b3 x1) (t := t) (fun s s2 hb hk => by exact t_qT_push_b3b hb hk) (fun s hb => by exact t_qT_push_b3b hb K) n s H
  exact Z
def qT_push (x1 : Int32) (h : zK) : Option (zK) :=
  (zloop (qT_push_b3 x1) zfu (24, h)).bind fun t6 =>
  some t6
theorem t_qT_push {Ls : Nat} {xs : Nat → Int32} {d : Nat} {x1 : Int32} {h : zK} {p : zK} (H : qT_push x1 h = some p) : zEv (zXs Ls xs) d zm_89 (0, [some (.ref 1), some (.int x1), none], [], zhp h) (none, zhp p) := by
  unfold qT_push at H
  refine zEv_k 2 (f' := (3, [some (.ref 1), some (.int x1), some (.int 24)], [], zhp h)) rfl ?_
  obtain ⟨t6, ht6, H⟩ := zbs H
  refine t_qT_push_b3 (x1 := x1) ?_ zfu _ ht6
  intro y2
  cases H
  exact zEv_r rfl
def qT_cellarAt (x1 : Int32) (h : zK) : Option (Option Nat) :=
  if x1 < 0 then
    some none
  else
    if (gI h 3 0) ≤ x1 then
      some none
    else
      (zix x1 2).bind fun j3 =>
      some (some (zaa 4 j3))
theorem t_qT_cellarAt {Ls : Nat} {xs : Nat → Int32} {d : Nat} {x1 : Int32} {h : zK} {p : Option Nat} (H : qT_cellarAt x1 h = some p) : zEv (zXs Ls xs) d zm_90 (0, [some (.ref 1), some (.int x1)], [], zhp h) (some (zrf p), zhp h) := by
  unfold qT_cellarAt at H
  refine zEv_k 2 (f' := (if x1 < 0 then 23 else 4, [some (.ref 1), some (.int x1)], [], zhp h)) rfl (zEv_if (fun c1 => ?_) (fun c1 => ?_))
  · replace H := zif_t c1 H
    refine zEv_k 1 (f' := (24, [some (.ref 1), some (.int x1)], [.null], zhp h)) rfl ?_
    cases H
    exact zEv_r rfl
  · replace H := zif_f c1 H
    refine zEv_k 2 (f' := (6, [some (.ref 1), some (.int x1)], [.ref 1, .int x1], zhp h)) rfl ?_
    refine zRgr rfl rfl rfl (by decide) (b := 3) rfl ?_
    refine zEv_k 1 (f' := (10, [some (.ref 1), some (.int x1)], [.int 0, .ref 3, .int x1], zhp h)) rfl ?_
    refine zRia (j := 0) rfl rfl (by decide) (by decide) ?_
    refine zEv_k 1 (f' := (if (gI h 3 0) ≤ x1 then 23 else 14, [some (.ref 1), some (.int x1)], [], zhp h)) rfl (zEv_if (fun c2 => ?_) (fun c2 => ?_))
    · replace H := zif_t c2 H
      refine zEv_k 1 (f' := (24, [some (.ref 1), some (.int x1)], [.null], zhp h)) rfl ?_
      cases H
      exact zEv_r rfl
    · replace H := zif_f c2 H
      refine zEv_k 1 (f' := (15, [some (.ref 1), some (.int x1)], [.ref 1], zhp h)) rfl ?_
      refine zRgr rfl rfl rfl (by decide) (b := 4) rfl ?_
      refine zEv_k 1 (f' := (19, [some (.ref 1), some (.int x1)], [.int x1, .ref 4], zhp h)) rfl ?_
      obtain ⟨j3, hj3, H⟩ := zbs H
      refine zRaa rfl rfl (by decide) hj3 (by decide) ?_
      refine zEv_k 1 (f' := (24, [some (.ref 1), some (.int x1)], [.ref (zaa 4 j3)], zhp h)) rfl ?_
      cases H
      exact zEv_r rfl
def qT_deedsAt (x1 : Int32) (h : zK) : Option (Option Nat) :=
  if x1 < 0 then
    some none
  else
    if (gI h 3 1) ≤ x1 then
      some none
    else
      (zix x1 2).bind fun j3 =>
      some (some (zaa 5 j3))
theorem t_qT_deedsAt {Ls : Nat} {xs : Nat → Int32} {d : Nat} {x1 : Int32} {h : zK} {p : Option Nat} (H : qT_deedsAt x1 h = some p) : zEv (zXs Ls xs) d zm_91 (0, [some (.ref 1), some (.int x1)], [], zhp h) (some (zrf p), zhp h) := by
  unfold qT_deedsAt at H
  refine zEv_k 2 (f' := (if x1 < 0 then 23 else 4, [some (.ref 1), some (.int x1)], [], zhp h)) rfl (zEv_if (fun c1 => ?_) (fun c1 => ?_))
  · replace H := zif_t c1 H
    refine zEv_k 1 (f' := (24, [some (.ref 1), some (.int x1)], [.null], zhp h)) rfl ?_
    cases H
    exact zEv_r rfl
  · replace H := zif_f c1 H
    refine zEv_k 2 (f' := (6, [some (.ref 1), some (.int x1)], [.ref 1, .int x1], zhp h)) rfl ?_
    refine zRgr rfl rfl rfl (by decide) (b := 3) rfl ?_
    refine zEv_k 1 (f' := (10, [some (.ref 1), some (.int x1)], [.int 1, .ref 3, .int x1], zhp h)) rfl ?_
    refine zRia (j := 1) rfl rfl (by decide) (by decide) ?_
    refine zEv_k 1 (f' := (if (gI h 3 1) ≤ x1 then 23 else 14, [some (.ref 1), some (.int x1)], [], zhp h)) rfl (zEv_if (fun c2 => ?_) (fun c2 => ?_))
    · replace H := zif_t c2 H
      refine zEv_k 1 (f' := (24, [some (.ref 1), some (.int x1)], [.null], zhp h)) rfl ?_
      cases H
      exact zEv_r rfl
    · replace H := zif_f c2 H
      refine zEv_k 1 (f' := (15, [some (.ref 1), some (.int x1)], [.ref 1], zhp h)) rfl ?_
      refine zRgr rfl rfl rfl (by decide) (b := 5) rfl ?_
      refine zEv_k 1 (f' := (19, [some (.ref 1), some (.int x1)], [.int x1, .ref 5], zhp h)) rfl ?_
      obtain ⟨j3, hj3, H⟩ := zbs H
      refine zRaa rfl rfl (by decide) hj3 (by decide) ?_
      refine zEv_k 1 (f' := (24, [some (.ref 1), some (.int x1)], [.ref (zaa 5 j3)], zhp h)) rfl ?_
      cases H
      exact zEv_r rfl
def qT_logAt (x1 : Int32) (h : zK) : Option (Option Nat) :=
  if x1 < 0 then
    some none
  else
    if (gI h 3 2) ≤ x1 then
      some none
    else
      (zix x1 2).bind fun j3 =>
      some (some (zaa 6 j3))
theorem t_qT_logAt {Ls : Nat} {xs : Nat → Int32} {d : Nat} {x1 : Int32} {h : zK} {p : Option Nat} (H : qT_logAt x1 h = some p) : zEv (zXs Ls xs) d zm_92 (0, [some (.ref 1), some (.int x1)], [], zhp h) (some (zrf p), zhp h) := by
  unfold qT_logAt at H
  refine zEv_k 2 (f' := (if x1 < 0 then 23 else 4, [some (.ref 1), some (.int x1)], [], zhp h)) rfl (zEv_if (fun c1 => ?_) (fun c1 => ?_))
  · replace H := zif_t c1 H
    refine zEv_k 1 (f' := (24, [some (.ref 1), some (.int x1)], [.null], zhp h)) rfl ?_
    cases H
    exact zEv_r rfl
  · replace H := zif_f c1 H
    refine zEv_k 2 (f' := (6, [some (.ref 1), some (.int x1)], [.ref 1, .int x1], zhp h)) rfl ?_
    refine zRgr rfl rfl rfl (by decide) (b := 3) rfl ?_
    refine zEv_k 1 (f' := (10, [some (.ref 1), some (.int x1)], [.int 2, .ref 3, .int x1], zhp h)) rfl ?_
    refine zRia (j := 2) rfl rfl (by decide) (by decide) ?_
    refine zEv_k 1 (f' := (if (gI h 3 2) ≤ x1 then 23 else 14, [some (.ref 1), some (.int x1)], [], zhp h)) rfl (zEv_if (fun c2 => ?_) (fun c2 => ?_))
    · replace H := zif_t c2 H
      refine zEv_k 1 (f' := (24, [some (.ref 1), some (.int x1)], [.null], zhp h)) rfl ?_
      cases H
      exact zEv_r rfl
    · replace H := zif_f c2 H
      refine zEv_k 1 (f' := (15, [some (.ref 1), some (.int x1)], [.ref 1], zhp h)) rfl ?_
      refine zRgr rfl rfl rfl (by decide) (b := 6) rfl ?_
      refine zEv_k 1 (f' := (19, [some (.ref 1), some (.int x1)], [.int x1, .ref 6], zhp h)) rfl ?_
      obtain ⟨j3, hj3, H⟩ := zbs H
      refine zRaa rfl rfl (by decide) hj3 (by decide) ?_
      refine zEv_k 1 (f' := (24, [some (.ref 1), some (.int x1)], [.ref (zaa 6 j3)], zhp h)) rfl ?_
      cases H
      exact zEv_r rfl
def qT_take_j85 (x2 : Int32) (x3 : Int32) (h : zK) : Option (zK) :=
  (zix x2 3).bind fun j7 =>
  zlet (sI h 3 j7 (zf_max (gI h 3 j7) (x3 + 1))) fun h8 =>
  some h8
theorem t_qT_take_j85 {Ls : Nat} {xs : Nat → Int32} {d : Nat} {x2 : Int32} {x3 : Int32} {h : zK} {p : zK} (H : qT_take_j85 x2 x3 h = some p)  : zEv (zXs Ls xs) (d + 1) zm_93 (85, [some (.ref 1), some (.ref 147), some (.int x2), some (.int x3)], [], zhp h) (none, zhp p) := by
  unfold qT_take_j85 at H
  refine zEv_k 1 (f' := (86, [some (.ref 1), some (.ref 147), some (.int x2), some (.int x3)], [.ref 1], zhp h)) rfl ?_
  refine zRgr rfl rfl rfl (by decide) (b := 3) rfl ?_
  refine zEv_k 2 (f' := (91, [some (.ref 1), some (.ref 147), some (.int x2), some (.int x3)], [.ref 1, .int x2, .ref 3], zhp h)) rfl ?_
  refine zRgr rfl rfl rfl (by decide) (b := 3) rfl ?_
  refine zEv_k 1 (f' := (95, [some (.ref 1), some (.ref 147), some (.int x2), some (.int x3)], [.int x2, .ref 3, .int x2, .ref 3], zhp h)) rfl ?_
  obtain ⟨j7, hj7, H⟩ := zbs H
  refine zRia rfl rfl (by decide) hj7 ?_
  refine zEv_k 4 (f' := (102, [some (.ref 1), some (.ref 147), some (.int x2), some (.int x3)], [.int (zf_max (gI h 3 j7) (x3 + 1)), .int x2, .ref 3], zhp h)) rfl ?_
  obtain ⟨h8, eh8, H⟩ := zlets H
  refine zRis rfl rfl (by decide) hj7 eh8 ?_
  cases H
  exact zEv_r rfl
def qT_take (x2 : Int32) (x3 : Int32) (h : zK) : Option (zK) :=
  if x3 < 0 then
    some h
  else
    if x3 < 2 then
      if x2 = 0 then
        (zix x3 2).bind fun j3 =>
        zlet (zaa 4 j3) fun a4 =>
        if a4 = 7 ∨ a4 = 22 then
          (qCe_become a4 148 h).bind fun p6 =>
          qT_take_j85 x2 x3 p6
        else none
      else if x2 = 1 then
        (zix x3 2).bind fun j9 =>
        zlet (zaa 5 j9) fun a10 =>
        if a10 = 15 ∨ a10 = 30 then
          (qDe_become a10 156 h).bind fun p12 =>
          qT_take_j85 x2 x3 p12
        else none
      else if x2 = 2 then
        (zix x3 2).bind fun j13 =>
        zlet (zaa 6 j13) fun a14 =>
        if a14 = 19 ∨ a14 = 34 then
          (qLo_become a14 160 h).bind fun p16 =>
          qT_take_j85 x2 x3 p16
        else none
      else
        some h
    else
      some h
theorem t_qT_take {Ls : Nat} {xs : Nat → Int32} {d : Nat} {x2 : Int32} {x3 : Int32} {h : zK} {p : zK} (H : qT_take x2 x3 h = some p) : zEv (zXs Ls xs) (d + 1) zm_93 (0, [some (.ref 1), some (.ref 147), some (.int x2), some (.int x3)], [], zhp h) (none, zhp p) := by
  unfold qT_take at H
  refine zEv_k 2 (f' := (if x3 < 0 then 9 else 4, [some (.ref 1), some (.ref 147), some (.int x2), some (.int x3)], [], zhp h)) rfl (zEv_if (fun c1 => ?_) (fun c1 => ?_))
  · replace H := zif_t c1 H
    cases H
    exact zEv_r rfl
  · replace H := zif_f c1 H
    refine zEv_k 3 (f' := (if x3 < 2 then 10 else 9, [some (.ref 1), some (.ref 147), some (.int x2), some (.int x3)], [], zhp h)) rfl (zEv_if (fun c2 => ?_) (fun c2 => ?_))
    · replace H := zif_t c2 H
      refine zEv_k 1 (f' := (11, [some (.ref 1), some (.ref 147), some (.int x2), some (.int x3)], [.int x2], zhp h)) rfl ?_
      refine zEv_ts rfl (by decide) (by decide) (by decide) (fun hh => ?_) (fun j hj hh => ?_)
      · replace H := zif_f (fun e => (by rw [e] at hh; exact absurd hh (by decide))) H
        replace H := zif_f (fun e => (by rw [e] at hh; exact absurd hh (by decide))) H
        replace H := zif_f (fun e => (by rw [e] at hh; exact absurd hh (by decide))) H
        cases H
        exact zEv_r rfl
      · rcases (by have hj2 : j < 3 := hj; omega : j = 0 ∨ j = 1 ∨ j = 2) with rfl | rfl | rfl
        · have ex : x2 = 0 := zeqI hh (by decide)
          replace H := zif_t ex H
          refine zEv_k 1 (f' := (37, [some (.ref 1), some (.ref 147), some (.int x2), some (.int x3)], [.ref 1], zhp h)) rfl ?_
          refine zRgr rfl rfl rfl (by decide) (b := 4) rfl ?_
          refine zEv_k 1 (f' := (41, [some (.ref 1), some (.ref 147), some (.int x2), some (.int x3)], [.int x3, .ref 4], zhp h)) rfl ?_
          obtain ⟨j3, hj3, H⟩ := zbs H
          refine zRaa rfl rfl (by decide) hj3 (by decide) ?_
          refine zEv_k 1 (f' := (43, [some (.ref 1), some (.ref 147), some (.int x2), some (.int x3)], [.ref 147, .ref (zaa 4 j3)], zhp h)) rfl ?_
          refine zRgr rfl rfl rfl (by decide) (b := 148) rfl ?_
          obtain ⟨a4, ea4, H⟩ := zlets H
          rw [ea4]
          obtain ⟨c5, H⟩ := zifn H
          rcases c5 with rfl | rfl
          · obtain ⟨p6, hp6, H⟩ := zbs H
            refine zEv_c (fun _ => rfl) rfl (t_qCe_become (oo := 7) (oq := 148) (h := h) (d := d) (by decide) hp6) rfl rfl ?_
            refine zEv_k 1 (f' := (85, [some (.ref 1), some (.ref 147), some (.int x2), some (.int x3)], [], zhp p6)) rfl ?_
            exact t_qT_take_j85 (x2 := x2) (x3 := x3) (h := p6) H
          · obtain ⟨p6, hp6, H⟩ := zbs H
            refine zEv_c (fun _ => rfl) rfl (t_qCe_become (oo := 22) (oq := 148) (h := h) (d := d) (by decide) hp6) rfl rfl ?_
            refine zEv_k 1 (f' := (85, [some (.ref 1), some (.ref 147), some (.int x2), some (.int x3)], [], zhp p6)) rfl ?_
            exact t_qT_take_j85 (x2 := x2) (x3 := x3) (h := p6) H
        · have ex : x2 = 1 := zeqI hh (by decide)
          replace H := zif_f (fun e => by rw [ex] at e; exact absurd e (by decide)) H
          replace H := zif_t ex H
          refine zEv_k 1 (f' := (53, [some (.ref 1), some (.ref 147), some (.int x2), some (.int x3)], [.ref 1], zhp h)) rfl ?_
          refine zRgr rfl rfl rfl (by decide) (b := 5) rfl ?_
          refine zEv_k 1 (f' := (57, [some (.ref 1), some (.ref 147), some (.int x2), some (.int x3)], [.int x3, .ref 5], zhp h)) rfl ?_
          obtain ⟨j9, hj9, H⟩ := zbs H
          refine zRaa rfl rfl (by decide) hj9 (by decide) ?_
          refine zEv_k 1 (f' := (59, [some (.ref 1), some (.ref 147), some (.int x2), some (.int x3)], [.ref 147, .ref (zaa 5 j9)], zhp h)) rfl ?_
          refine zRgr rfl rfl rfl (by decide) (b := 156) rfl ?_
          obtain ⟨a10, ea10, H⟩ := zlets H
          rw [ea10]
          obtain ⟨c11, H⟩ := zifn H
          rcases c11 with rfl | rfl
          · obtain ⟨p12, hp12, H⟩ := zbs H
            refine zEv_c (fun _ => rfl) rfl (t_qDe_become (oo := 15) (oq := 156) (h := h) (d := d) (by decide) hp12) rfl rfl ?_
            refine zEv_k 1 (f' := (85, [some (.ref 1), some (.ref 147), some (.int x2), some (.int x3)], [], zhp p12)) rfl ?_
            exact t_qT_take_j85 (x2 := x2) (x3 := x3) (h := p12) H
          · obtain ⟨p12, hp12, H⟩ := zbs H
            refine zEv_c (fun _ => rfl) rfl (t_qDe_become (oo := 30) (oq := 156) (h := h) (d := d) (by decide) hp12) rfl rfl ?_
            refine zEv_k 1 (f' := (85, [some (.ref 1), some (.ref 147), some (.int x2), some (.int x3)], [], zhp p12)) rfl ?_
            exact t_qT_take_j85 (x2 := x2) (x3 := x3) (h := p12) H
        · have ex : x2 = 2 := zeqI hh (by decide)
          replace H := zif_f (fun e => by rw [ex] at e; exact absurd e (by decide)) H
          replace H := zif_f (fun e => by rw [ex] at e; exact absurd e (by decide)) H
          replace H := zif_t ex H
          refine zEv_k 1 (f' := (69, [some (.ref 1), some (.ref 147), some (.int x2), some (.int x3)], [.ref 1], zhp h)) rfl ?_
          refine zRgr rfl rfl rfl (by decide) (b := 6) rfl ?_
          refine zEv_k 1 (f' := (73, [some (.ref 1), some (.ref 147), some (.int x2), some (.int x3)], [.int x3, .ref 6], zhp h)) rfl ?_
          obtain ⟨j13, hj13, H⟩ := zbs H
          refine zRaa rfl rfl (by decide) hj13 (by decide) ?_
          refine zEv_k 1 (f' := (75, [some (.ref 1), some (.ref 147), some (.int x2), some (.int x3)], [.ref 147, .ref (zaa 6 j13)], zhp h)) rfl ?_
          refine zRgr rfl rfl rfl (by decide) (b := 160) rfl ?_
          obtain ⟨a14, ea14, H⟩ := zlets H
          rw [ea14]
          obtain ⟨c15, H⟩ := zifn H
          rcases c15 with rfl | rfl
          · obtain ⟨p16, hp16, H⟩ := zbs H
            refine zEv_c (fun _ => rfl) rfl (t_qLo_become (oo := 19) (oq := 160) (h := h) (d := d) (by decide) hp16) rfl rfl ?_
            refine zEv_k 1 (f' := (85, [some (.ref 1), some (.ref 147), some (.int x2), some (.int x3)], [], zhp p16)) rfl ?_
            exact t_qT_take_j85 (x2 := x2) (x3 := x3) (h := p16) H
          · obtain ⟨p16, hp16, H⟩ := zbs H
            refine zEv_c (fun _ => rfl) rfl (t_qLo_become (oo := 34) (oq := 160) (h := h) (d := d) (by decide) hp16) rfl rfl ?_
            refine zEv_k 1 (f' := (85, [some (.ref 1), some (.ref 147), some (.int x2), some (.int x3)], [], zhp p16)) rfl ?_
            exact t_qT_take_j85 (x2 := x2) (x3 := x3) (h := p16) H
    · replace H := zif_f c2 H
      cases H
      exact zEv_r rfl
