theorem f_qCe_clear_b17 {h0 : zK} {s : Int32 × zK} {e : (Int32 × zK) ⊕ (zK)} (F : zFr [148, 155] h0 s.2) (H : qCe_clear_b17 s = some e) : match (generalizing := false) e with | .inl s' => zFr [148, 155] h0 s'.2 | .inr v => zFr [148, 155] h0 v := by
  unfold qCe_clear_b17 at H
  by_cases c4 : 7 ≤ s.1
  · replace H := zif_t c4 H
    cases H
    exact F
  · replace H := zif_f c4 H
    obtain ⟨j5, hj5, H⟩ := zbs H
    obtain ⟨h6, eh6, H⟩ := zlets H
    replace F := zFr_s F eh6 (by decide)
    cases H
    exact F
theorem f_qCe_clear_b17_l (n : Nat) (s : Int32 × zK) (t : zK) (H : zloop (qCe_clear_b17) n s = some t) : zFr [148, 155] s.2 t := by
  exact zloop_P (P := fun s => zFr [148, 155] s.2 t) (b := qCe_clear_b17) (t := t) (fun s s2 hb hk => zFr_t (f_qCe_clear_b17 zFr_r hb) hk) (fun s hb => f_qCe_clear_b17 zFr_r hb) n s H
theorem f_qCe_clear  {h : zK} {p : zK} (H : qCe_clear h = some p) : zFr [148, 155] h p := by
  unfold qCe_clear at H
  obtain ⟨h0, F, e0⟩ : ∃ h0, zFr [148, 155] h0 h ∧ h0 = h := ⟨h, zFr_r, rfl⟩
  rw [← e0]
  clear e0
  obtain ⟨h1, eh1, H⟩ := zlets H
  replace F := zFr_s F eh1 (by decide)
  obtain ⟨h2, eh2, H⟩ := zlets H
  replace F := zFr_s F eh2 (by decide)
  obtain ⟨h3, eh3, H⟩ := zlets H
  replace F := zFr_s F eh3 (by decide)
  obtain ⟨t7, ht7, H⟩ := zbs H
  have Fl := f_qCe_clear_b17_l zfu _ _ ht7
  replace F := zFr_t F Fl
  clear Fl
  cases H
  exact F
set_option maxRecDepth 20000 in
theorem f_qCe_become {oo : Nat} {oq : Nat} {h : zK} {p : zK} (ho : (oo = 7 ∧ oq = 44) ∨ (oo = 22 ∧ oq = 59) ∨ (oo = 7 ∧ oq = 80) ∨ (oo = 22 ∧ oq = 95) ∨ (oo = 7 ∧ oq = 116) ∨ (oo = 22 ∧ oq = 131) ∨ (oo = 44 ∧ oq = 7) ∨ (oo = 59 ∧ oq = 22) ∨ (oo = 80 ∧ oq = 7) ∨ (oo = 95 ∧ oq = 22) ∨ (oo = 116 ∧ oq = 7) ∨ (oo = 131 ∧ oq = 22) ∨ (oo = 7 ∧ oq = 148) ∨ (oo = 22 ∧ oq = 148)) (H : qCe_become oo oq h = some p) : zFr [7, 8, 9, 10, 11, 12, 13, 14, 22, 23, 24, 25, 26, 27, 28, 29, 44, 45, 46, 47, 48, 49, 50, 51, 59, 60, 61, 62, 63, 64, 65, 66, 80, 81, 82, 83, 84, 85, 86, 87, 95, 96, 97, 98, 99, 100, 101, 102, 116, 117, 118, 119, 120, 121, 122, 123, 131, 132, 133, 134, 135, 136, 137, 138] h p := by
  unfold qCe_become at H
  obtain ⟨h0, F, e0⟩ : ∃ h0, zFr [7, 8, 9, 10, 11, 12, 13, 14, 22, 23, 24, 25, 26, 27, 28, 29, 44, 45, 46, 47, 48, 49, 50, 51, 59, 60, 61, 62, 63, 64, 65, 66, 80, 81, 82, 83, 84, 85, 86, 87, 95, 96, 97, 98, 99, 100, 101, 102, 116, 117, 118, 119, 120, 121, 122, 123, 131, 132, 133, 134, 135, 136, 137, 138] h0 h ∧ h0 = h := ⟨h, zFr_r, rfl⟩
  rw [← e0]
  clear e0
  rcases ho with ⟨rfl, rfl⟩ | ⟨rfl, rfl⟩ | ⟨rfl, rfl⟩ | ⟨rfl, rfl⟩ | ⟨rfl, rfl⟩ | ⟨rfl, rfl⟩ | ⟨rfl, rfl⟩ | ⟨rfl, rfl⟩ | ⟨rfl, rfl⟩ | ⟨rfl, rfl⟩ | ⟨rfl, rfl⟩ | ⟨rfl, rfl⟩ | ⟨rfl, rfl⟩ | ⟨rfl, rfl⟩
  · obtain ⟨h1, eh1, H⟩ := zlets H
    replace F := zFr_s F eh1 (by decide)
    obtain ⟨h2, eh2, H⟩ := zlets H
    replace F := zFr_s F eh2 (by decide)
    obtain ⟨h3, eh3, H⟩ := zlets H
    replace F := zFr_s F eh3 (by decide)
    obtain ⟨h4, eh4, H⟩ := zlets H
    replace F := zFr_c F eh4 (by decide)
    obtain ⟨h6, eh6, H⟩ := zlets H
    replace F := zFr_c F eh6 (by decide)
    obtain ⟨h8, eh8, H⟩ := zlets H
    replace F := zFr_c F eh8 (by decide)
    obtain ⟨h10, eh10, H⟩ := zlets H
    replace F := zFr_c F eh10 (by decide)
    obtain ⟨h12, eh12, H⟩ := zlets H
    replace F := zFr_c F eh12 (by decide)
    obtain ⟨h14, eh14, H⟩ := zlets H
    replace F := zFr_c F eh14 (by decide)
    obtain ⟨h16, eh16, H⟩ := zlets H
    replace F := zFr_c F eh16 (by decide)
    cases H
    exact F
  · obtain ⟨h1, eh1, H⟩ := zlets H
    replace F := zFr_s F eh1 (by decide)
    obtain ⟨h2, eh2, H⟩ := zlets H
    replace F := zFr_s F eh2 (by decide)
    obtain ⟨h3, eh3, H⟩ := zlets H
    replace F := zFr_s F eh3 (by decide)
    obtain ⟨h4, eh4, H⟩ := zlets H
    replace F := zFr_c F eh4 (by decide)
    obtain ⟨h6, eh6, H⟩ := zlets H
    replace F := zFr_c F eh6 (by decide)
    obtain ⟨h8, eh8, H⟩ := zlets H
    replace F := zFr_c F eh8 (by decide)
    obtain ⟨h10, eh10, H⟩ := zlets H
    replace F := zFr_c F eh10 (by decide)
    obtain ⟨h12, eh12, H⟩ := zlets H
    replace F := zFr_c F eh12 (by decide)
    obtain ⟨h14, eh14, H⟩ := zlets H
    replace F := zFr_c F eh14 (by decide)
    obtain ⟨h16, eh16, H⟩ := zlets H
    replace F := zFr_c F eh16 (by decide)
    cases H
    exact F
  · obtain ⟨h1, eh1, H⟩ := zlets H
    replace F := zFr_s F eh1 (by decide)
    obtain ⟨h2, eh2, H⟩ := zlets H
    replace F := zFr_s F eh2 (by decide)
    obtain ⟨h3, eh3, H⟩ := zlets H
    replace F := zFr_s F eh3 (by decide)
    obtain ⟨h4, eh4, H⟩ := zlets H
    replace F := zFr_c F eh4 (by decide)
    obtain ⟨h6, eh6, H⟩ := zlets H
    replace F := zFr_c F eh6 (by decide)
    obtain ⟨h8, eh8, H⟩ := zlets H
    replace F := zFr_c F eh8 (by decide)
    obtain ⟨h10, eh10, H⟩ := zlets H
    replace F := zFr_c F eh10 (by decide)
    obtain ⟨h12, eh12, H⟩ := zlets H
    replace F := zFr_c F eh12 (by decide)
    obtain ⟨h14, eh14, H⟩ := zlets H
    replace F := zFr_c F eh14 (by decide)
    obtain ⟨h16, eh16, H⟩ := zlets H
    replace F := zFr_c F eh16 (by decide)
    cases H
    exact F
  · obtain ⟨h1, eh1, H⟩ := zlets H
    replace F := zFr_s F eh1 (by decide)
    obtain ⟨h2, eh2, H⟩ := zlets H
    replace F := zFr_s F eh2 (by decide)
    obtain ⟨h3, eh3, H⟩ := zlets H
    replace F := zFr_s F eh3 (by decide)
    obtain ⟨h4, eh4, H⟩ := zlets H
    replace F := zFr_c F eh4 (by decide)
    obtain ⟨h6, eh6, H⟩ := zlets H
    replace F := zFr_c F eh6 (by decide)
    obtain ⟨h8, eh8, H⟩ := zlets H
    replace F := zFr_c F eh8 (by decide)
    obtain ⟨h10, eh10, H⟩ := zlets H
    replace F := zFr_c F eh10 (by decide)
    obtain ⟨h12, eh12, H⟩ := zlets H
    replace F := zFr_c F eh12 (by decide)
    obtain ⟨h14, eh14, H⟩ := zlets H
    replace F := zFr_c F eh14 (by decide)
    obtain ⟨h16, eh16, H⟩ := zlets H
    replace F := zFr_c F eh16 (by decide)
    cases H
    exact F
  · obtain ⟨h1, eh1, H⟩ := zlets H
    replace F := zFr_s F eh1 (by decide)
    obtain ⟨h2, eh2, H⟩ := zlets H
    replace F := zFr_s F eh2 (by decide)
    obtain ⟨h3, eh3, H⟩ := zlets H
    replace F := zFr_s F eh3 (by decide)
    obtain ⟨h4, eh4, H⟩ := zlets H
    replace F := zFr_c F eh4 (by decide)
    obtain ⟨h6, eh6, H⟩ := zlets H
    replace F := zFr_c F eh6 (by decide)
    obtain ⟨h8, eh8, H⟩ := zlets H
    replace F := zFr_c F eh8 (by decide)
    obtain ⟨h10, eh10, H⟩ := zlets H
    replace F := zFr_c F eh10 (by decide)
    obtain ⟨h12, eh12, H⟩ := zlets H
    replace F := zFr_c F eh12 (by decide)
    obtain ⟨h14, eh14, H⟩ := zlets H
    replace F := zFr_c F eh14 (by decide)
    obtain ⟨h16, eh16, H⟩ := zlets H
    replace F := zFr_c F eh16 (by decide)
    cases H
    exact F
  · obtain ⟨h1, eh1, H⟩ := zlets H
    replace F := zFr_s F eh1 (by decide)
    obtain ⟨h2, eh2, H⟩ := zlets H
    replace F := zFr_s F eh2 (by decide)
    obtain ⟨h3, eh3, H⟩ := zlets H
    replace F := zFr_s F eh3 (by decide)
    obtain ⟨h4, eh4, H⟩ := zlets H
    replace F := zFr_c F eh4 (by decide)
    obtain ⟨h6, eh6, H⟩ := zlets H
    replace F := zFr_c F eh6 (by decide)
    obtain ⟨h8, eh8, H⟩ := zlets H
    replace F := zFr_c F eh8 (by decide)
    obtain ⟨h10, eh10, H⟩ := zlets H
    replace F := zFr_c F eh10 (by decide)
    obtain ⟨h12, eh12, H⟩ := zlets H
    replace F := zFr_c F eh12 (by decide)
    obtain ⟨h14, eh14, H⟩ := zlets H
    replace F := zFr_c F eh14 (by decide)
    obtain ⟨h16, eh16, H⟩ := zlets H
    replace F := zFr_c F eh16 (by decide)
    cases H
    exact F
  · obtain ⟨h1, eh1, H⟩ := zlets H
    replace F := zFr_s F eh1 (by decide)
    obtain ⟨h2, eh2, H⟩ := zlets H
    replace F := zFr_s F eh2 (by decide)
    obtain ⟨h3, eh3, H⟩ := zlets H
    replace F := zFr_s F eh3 (by decide)
    obtain ⟨h4, eh4, H⟩ := zlets H
    replace F := zFr_c F eh4 (by decide)
    obtain ⟨h6, eh6, H⟩ := zlets H
    replace F := zFr_c F eh6 (by decide)
    obtain ⟨h8, eh8, H⟩ := zlets H
    replace F := zFr_c F eh8 (by decide)
    obtain ⟨h10, eh10, H⟩ := zlets H
    replace F := zFr_c F eh10 (by decide)
    obtain ⟨h12, eh12, H⟩ := zlets H
    replace F := zFr_c F eh12 (by decide)
    obtain ⟨h14, eh14, H⟩ := zlets H
    replace F := zFr_c F eh14 (by decide)
    obtain ⟨h16, eh16, H⟩ := zlets H
    replace F := zFr_c F eh16 (by decide)
    cases H
    exact F
  · obtain ⟨h1, eh1, H⟩ := zlets H
    replace F := zFr_s F eh1 (by decide)
    obtain ⟨h2, eh2, H⟩ := zlets H
    replace F := zFr_s F eh2 (by decide)
    obtain ⟨h3, eh3, H⟩ := zlets H
    replace F := zFr_s F eh3 (by decide)
    obtain ⟨h4, eh4, H⟩ := zlets H
    replace F := zFr_c F eh4 (by decide)
    obtain ⟨h6, eh6, H⟩ := zlets H
    replace F := zFr_c F eh6 (by decide)
    obtain ⟨h8, eh8, H⟩ := zlets H
    replace F := zFr_c F eh8 (by decide)
    obtain ⟨h10, eh10, H⟩ := zlets H
    replace F := zFr_c F eh10 (by decide)
    obtain ⟨h12, eh12, H⟩ := zlets H
    replace F := zFr_c F eh12 (by decide)
    obtain ⟨h14, eh14, H⟩ := zlets H
    replace F := zFr_c F eh14 (by decide)
    obtain ⟨h16, eh16, H⟩ := zlets H
    replace F := zFr_c F eh16 (by decide)
    cases H
    exact F
  · obtain ⟨h1, eh1, H⟩ := zlets H
    replace F := zFr_s F eh1 (by decide)
    obtain ⟨h2, eh2, H⟩ := zlets H
    replace F := zFr_s F eh2 (by decide)
    obtain ⟨h3, eh3, H⟩ := zlets H
    replace F := zFr_s F eh3 (by decide)
    obtain ⟨h4, eh4, H⟩ := zlets H
    replace F := zFr_c F eh4 (by decide)
    obtain ⟨h6, eh6, H⟩ := zlets H
    replace F := zFr_c F eh6 (by decide)
    obtain ⟨h8, eh8, H⟩ := zlets H
    replace F := zFr_c F eh8 (by decide)
    obtain ⟨h10, eh10, H⟩ := zlets H
    replace F := zFr_c F eh10 (by decide)
    obtain ⟨h12, eh12, H⟩ := zlets H
    replace F := zFr_c F eh12 (by decide)
    obtain ⟨h14, eh14, H⟩ := zlets H
    replace F := zFr_c F eh14 (by decide)
    obtain ⟨h16, eh16, H⟩ := zlets H
    replace F := zFr_c F eh16 (by decide)
    cases H
    exact F
  · obtain ⟨h1, eh1, H⟩ := zlets H
    replace F := zFr_s F eh1 (by decide)
    obtain ⟨h2, eh2, H⟩ := zlets H
    replace F := zFr_s F eh2 (by decide)
    obtain ⟨h3, eh3, H⟩ := zlets H
    replace F := zFr_s F eh3 (by decide)
    obtain ⟨h4, eh4, H⟩ := zlets H
    replace F := zFr_c F eh4 (by decide)
    obtain ⟨h6, eh6, H⟩ := zlets H
    replace F := zFr_c F eh6 (by decide)
    obtain ⟨h8, eh8, H⟩ := zlets H
    replace F := zFr_c F eh8 (by decide)
    obtain ⟨h10, eh10, H⟩ := zlets H
    replace F := zFr_c F eh10 (by decide)
    obtain ⟨h12, eh12, H⟩ := zlets H
    replace F := zFr_c F eh12 (by decide)
    obtain ⟨h14, eh14, H⟩ := zlets H
    replace F := zFr_c F eh14 (by decide)
    obtain ⟨h16, eh16, H⟩ := zlets H
    replace F := zFr_c F eh16 (by decide)
    cases H
    exact F
  · obtain ⟨h1, eh1, H⟩ := zlets H
    replace F := zFr_s F eh1 (by decide)
    obtain ⟨h2, eh2, H⟩ := zlets H
    replace F := zFr_s F eh2 (by decide)
    obtain ⟨h3, eh3, H⟩ := zlets H
    replace F := zFr_s F eh3 (by decide)
    obtain ⟨h4, eh4, H⟩ := zlets H
    replace F := zFr_c F eh4 (by decide)
    obtain ⟨h6, eh6, H⟩ := zlets H
    replace F := zFr_c F eh6 (by decide)
    obtain ⟨h8, eh8, H⟩ := zlets H
    replace F := zFr_c F eh8 (by decide)
    obtain ⟨h10, eh10, H⟩ := zlets H
    replace F := zFr_c F eh10 (by decide)
    obtain ⟨h12, eh12, H⟩ := zlets H
    replace F := zFr_c F eh12 (by decide)
    obtain ⟨h14, eh14, H⟩ := zlets H
    replace F := zFr_c F eh14 (by decide)
    obtain ⟨h16, eh16, H⟩ := zlets H
    replace F := zFr_c F eh16 (by decide)
    cases H
    exact F
  · obtain ⟨h1, eh1, H⟩ := zlets H
    replace F := zFr_s F eh1 (by decide)
    obtain ⟨h2, eh2, H⟩ := zlets H
    replace F := zFr_s F eh2 (by decide)
    obtain ⟨h3, eh3, H⟩ := zlets H
    replace F := zFr_s F eh3 (by decide)
    obtain ⟨h4, eh4, H⟩ := zlets H
    replace F := zFr_c F eh4 (by decide)
    obtain ⟨h6, eh6, H⟩ := zlets H
    replace F := zFr_c F eh6 (by decide)
    obtain ⟨h8, eh8, H⟩ := zlets H
    replace F := zFr_c F eh8 (by decide)
    obtain ⟨h10, eh10, H⟩ := zlets H
    replace F := zFr_c F eh10 (by decide)
    obtain ⟨h12, eh12, H⟩ := zlets H
    replace F := zFr_c F eh12 (by decide)
    obtain ⟨h14, eh14, H⟩ := zlets H
    replace F := zFr_c F eh14 (by decide)
    obtain ⟨h16, eh16, H⟩ := zlets H
    replace F := zFr_c F eh16 (by decide)
    cases H
    exact F
  · obtain ⟨h1, eh1, H⟩ := zlets H
    replace F := zFr_s F eh1 (by decide)
    obtain ⟨h2, eh2, H⟩ := zlets H
    replace F := zFr_s F eh2 (by decide)
    obtain ⟨h3, eh3, H⟩ := zlets H
    replace F := zFr_s F eh3 (by decide)
    obtain ⟨h4, eh4, H⟩ := zlets H
    replace F := zFr_c F eh4 (by decide)
    obtain ⟨h6, eh6, H⟩ := zlets H
    replace F := zFr_c F eh6 (by decide)
    obtain ⟨h8, eh8, H⟩ := zlets H
    replace F := zFr_c F eh8 (by decide)
    obtain ⟨h10, eh10, H⟩ := zlets H
    replace F := zFr_c F eh10 (by decide)
    obtain ⟨h12, eh12, H⟩ := zlets H
    replace F := zFr_c F eh12 (by decide)
    obtain ⟨h14, eh14, H⟩ := zlets H
    replace F := zFr_c F eh14 (by decide)
    obtain ⟨h16, eh16, H⟩ := zlets H
    replace F := zFr_c F eh16 (by decide)
    cases H
    exact F
  · obtain ⟨h1, eh1, H⟩ := zlets H
    replace F := zFr_s F eh1 (by decide)
    obtain ⟨h2, eh2, H⟩ := zlets H
    replace F := zFr_s F eh2 (by decide)
    obtain ⟨h3, eh3, H⟩ := zlets H
    replace F := zFr_s F eh3 (by decide)
    obtain ⟨h4, eh4, H⟩ := zlets H
    replace F := zFr_c F eh4 (by decide)
    obtain ⟨h6, eh6, H⟩ := zlets H
    replace F := zFr_c F eh6 (by decide)
    obtain ⟨h8, eh8, H⟩ := zlets H
    replace F := zFr_c F eh8 (by decide)
    obtain ⟨h10, eh10, H⟩ := zlets H
    replace F := zFr_c F eh10 (by decide)
    obtain ⟨h12, eh12, H⟩ := zlets H
    replace F := zFr_c F eh12 (by decide)
    obtain ⟨h14, eh14, H⟩ := zlets H
    replace F := zFr_c F eh14 (by decide)
    obtain ⟨h16, eh16, H⟩ := zlets H
    replace F := zFr_c F eh16 (by decide)
    cases H
    exact F
theorem f_qCe_add  {h : zK} {p : zK} (H : qCe_add h = some p) : zFr [148, 149, 150, 151, 152, 153, 154] h p := by
  unfold qCe_add at H
  obtain ⟨h0, F, e0⟩ : ∃ h0, zFr [148, 149, 150, 151, 152, 153, 154] h0 h ∧ h0 = h := ⟨h, zFr_r, rfl⟩
  rw [← e0]
  clear e0
  by_cases c1 : ¬ (qCe_isFull h) = 0
  · replace H := zif_t c1 H
    cases H
    exact F
  · replace H := zif_f c1 H
    by_cases c2 : 6 ≤ (6 : Int32)
    · replace H := zif_t c2 H
      obtain ⟨j3, hj3, H⟩ := zbs H
      obtain ⟨h4, eh4, H⟩ := zlets H
      replace F := zFr_s F eh4 (by decide)
      obtain ⟨j5, hj5, H⟩ := zbs H
      obtain ⟨h6, eh6, H⟩ := zlets H
      replace F := zFr_s F eh6 (by decide)
      obtain ⟨j7, hj7, H⟩ := zbs H
      obtain ⟨h8, eh8, H⟩ := zlets H
      replace F := zFr_s F eh8 (by decide)
      obtain ⟨j9, hj9, H⟩ := zbs H
      obtain ⟨h10, eh10, H⟩ := zlets H
      replace F := zFr_s F eh10 (by decide)
      obtain ⟨j11, hj11, H⟩ := zbs H
      obtain ⟨h12, eh12, H⟩ := zlets H
      replace F := zFr_s F eh12 (by decide)
      obtain ⟨j13, hj13, H⟩ := zbs H
      obtain ⟨h14, eh14, H⟩ := zlets H
      replace F := zFr_s F eh14 (by decide)
      obtain ⟨h15, eh15, H⟩ := zlets H
      replace F := zFr_s F eh15 (by decide)
      cases H
      exact F
    · replace H := zif_f c2 H
      cases H
      exact F
theorem f_qCe_addAnswer {x1 : Int32} {x2 : Int32} {h : zK} {p : zK} (H : qCe_addAnswer x1 x2 h = some p) : zFr [155] h p := by
  unfold qCe_addAnswer at H
  obtain ⟨h0, F, e0⟩ : ∃ h0, zFr [155] h0 h ∧ h0 = h := ⟨h, zFr_r, rfl⟩
  rw [← e0]
  clear e0
  by_cases c1 : x1 < 0
  · replace H := zif_t c1 H
    cases H
    exact F
  · replace H := zif_f c1 H
    by_cases c2 : 7 ≤ x1
    · replace H := zif_t c2 H
      cases H
      exact F
    · replace H := zif_f c2 H
      obtain ⟨j3, hj3, H⟩ := zbs H
      obtain ⟨h4, eh4, H⟩ := zlets H
      replace F := zFr_s F eh4 (by decide)
      cases H
      exact F
set_option maxRecDepth 20000 in
theorem f_qDe_become {oo : Nat} {oq : Nat} {h : zK} {p : zK} (ho : (oo = 15 ∧ oq = 52) ∨ (oo = 30 ∧ oq = 67) ∨ (oo = 15 ∧ oq = 88) ∨ (oo = 30 ∧ oq = 103) ∨ (oo = 15 ∧ oq = 124) ∨ (oo = 30 ∧ oq = 139) ∨ (oo = 52 ∧ oq = 15) ∨ (oo = 67 ∧ oq = 30) ∨ (oo = 88 ∧ oq = 15) ∨ (oo = 103 ∧ oq = 30) ∨ (oo = 124 ∧ oq = 15) ∨ (oo = 139 ∧ oq = 30) ∨ (oo = 15 ∧ oq = 156) ∨ (oo = 30 ∧ oq = 156)) (H : qDe_become oo oq h = some p) : zFr [15, 16, 17, 18, 30, 31, 32, 33, 52, 53, 54, 55, 67, 68, 69, 70, 88, 89, 90, 91, 103, 104, 105, 106, 124, 125, 126, 127, 139, 140, 141, 142] h p := by
  unfold qDe_become at H
  obtain ⟨h0, F, e0⟩ : ∃ h0, zFr [15, 16, 17, 18, 30, 31, 32, 33, 52, 53, 54, 55, 67, 68, 69, 70, 88, 89, 90, 91, 103, 104, 105, 106, 124, 125, 126, 127, 139, 140, 141, 142] h0 h ∧ h0 = h := ⟨h, zFr_r, rfl⟩
  rw [← e0]
  clear e0
  rcases ho with ⟨rfl, rfl⟩ | ⟨rfl, rfl⟩ | ⟨rfl, rfl⟩ | ⟨rfl, rfl⟩ | ⟨rfl, rfl⟩ | ⟨rfl, rfl⟩ | ⟨rfl, rfl⟩ | ⟨rfl, rfl⟩ | ⟨rfl, rfl⟩ | ⟨rfl, rfl⟩ | ⟨rfl, rfl⟩ | ⟨rfl, rfl⟩ | ⟨rfl, rfl⟩ | ⟨rfl, rfl⟩
  · obtain ⟨h1, eh1, H⟩ := zlets H
    replace F := zFr_s F eh1 (by decide)
    obtain ⟨h2, eh2, H⟩ := zlets H
    replace F := zFr_c F eh2 (by decide)
    obtain ⟨h4, eh4, H⟩ := zlets H
    replace F := zFr_c F eh4 (by decide)
    obtain ⟨h6, eh6, H⟩ := zlets H
    replace F := zFr_c F eh6 (by decide)
    cases H
    exact F
  · obtain ⟨h1, eh1, H⟩ := zlets H
    replace F := zFr_s F eh1 (by decide)
    obtain ⟨h2, eh2, H⟩ := zlets H
    replace F := zFr_c F eh2 (by decide)
    obtain ⟨h4, eh4, H⟩ := zlets H
    replace F := zFr_c F eh4 (by decide)
    obtain ⟨h6, eh6, H⟩ := zlets H
    replace F := zFr_c F eh6 (by decide)
    cases H
    exact F
  · obtain ⟨h1, eh1, H⟩ := zlets H
    replace F := zFr_s F eh1 (by decide)
    obtain ⟨h2, eh2, H⟩ := zlets H
    replace F := zFr_c F eh2 (by decide)
    obtain ⟨h4, eh4, H⟩ := zlets H
    replace F := zFr_c F eh4 (by decide)
    obtain ⟨h6, eh6, H⟩ := zlets H
    replace F := zFr_c F eh6 (by decide)
    cases H
    exact F
  · obtain ⟨h1, eh1, H⟩ := zlets H
    replace F := zFr_s F eh1 (by decide)
    obtain ⟨h2, eh2, H⟩ := zlets H
    replace F := zFr_c F eh2 (by decide)
    obtain ⟨h4, eh4, H⟩ := zlets H
    replace F := zFr_c F eh4 (by decide)
    obtain ⟨h6, eh6, H⟩ := zlets H
    replace F := zFr_c F eh6 (by decide)
    cases H
    exact F
  · obtain ⟨h1, eh1, H⟩ := zlets H
    replace F := zFr_s F eh1 (by decide)
    obtain ⟨h2, eh2, H⟩ := zlets H
    replace F := zFr_c F eh2 (by decide)
    obtain ⟨h4, eh4, H⟩ := zlets H
    replace F := zFr_c F eh4 (by decide)
    obtain ⟨h6, eh6, H⟩ := zlets H
    replace F := zFr_c F eh6 (by decide)
    cases H
    exact F
  · obtain ⟨h1, eh1, H⟩ := zlets H
    replace F := zFr_s F eh1 (by decide)
    obtain ⟨h2, eh2, H⟩ := zlets H
    replace F := zFr_c F eh2 (by decide)
    obtain ⟨h4, eh4, H⟩ := zlets H
    replace F := zFr_c F eh4 (by decide)
    obtain ⟨h6, eh6, H⟩ := zlets H
    replace F := zFr_c F eh6 (by decide)
    cases H
    exact F
  · obtain ⟨h1, eh1, H⟩ := zlets H
    replace F := zFr_s F eh1 (by decide)
    obtain ⟨h2, eh2, H⟩ := zlets H
    replace F := zFr_c F eh2 (by decide)
    obtain ⟨h4, eh4, H⟩ := zlets H
    replace F := zFr_c F eh4 (by decide)
    obtain ⟨h6, eh6, H⟩ := zlets H
    replace F := zFr_c F eh6 (by decide)
    cases H
    exact F
  · obtain ⟨h1, eh1, H⟩ := zlets H
    replace F := zFr_s F eh1 (by decide)
    obtain ⟨h2, eh2, H⟩ := zlets H
    replace F := zFr_c F eh2 (by decide)
    obtain ⟨h4, eh4, H⟩ := zlets H
    replace F := zFr_c F eh4 (by decide)
    obtain ⟨h6, eh6, H⟩ := zlets H
    replace F := zFr_c F eh6 (by decide)
    cases H
    exact F
  · obtain ⟨h1, eh1, H⟩ := zlets H
    replace F := zFr_s F eh1 (by decide)
    obtain ⟨h2, eh2, H⟩ := zlets H
    replace F := zFr_c F eh2 (by decide)
    obtain ⟨h4, eh4, H⟩ := zlets H
    replace F := zFr_c F eh4 (by decide)
    obtain ⟨h6, eh6, H⟩ := zlets H
    replace F := zFr_c F eh6 (by decide)
    cases H
    exact F
  · obtain ⟨h1, eh1, H⟩ := zlets H
    replace F := zFr_s F eh1 (by decide)
    obtain ⟨h2, eh2, H⟩ := zlets H
    replace F := zFr_c F eh2 (by decide)
    obtain ⟨h4, eh4, H⟩ := zlets H
    replace F := zFr_c F eh4 (by decide)
    obtain ⟨h6, eh6, H⟩ := zlets H
    replace F := zFr_c F eh6 (by decide)
    cases H
    exact F
  · obtain ⟨h1, eh1, H⟩ := zlets H
    replace F := zFr_s F eh1 (by decide)
    obtain ⟨h2, eh2, H⟩ := zlets H
    replace F := zFr_c F eh2 (by decide)
    obtain ⟨h4, eh4, H⟩ := zlets H
    replace F := zFr_c F eh4 (by decide)
    obtain ⟨h6, eh6, H⟩ := zlets H
    replace F := zFr_c F eh6 (by decide)
    cases H
    exact F
  · obtain ⟨h1, eh1, H⟩ := zlets H
    replace F := zFr_s F eh1 (by decide)
    obtain ⟨h2, eh2, H⟩ := zlets H
    replace F := zFr_c F eh2 (by decide)
    obtain ⟨h4, eh4, H⟩ := zlets H
    replace F := zFr_c F eh4 (by decide)
    obtain ⟨h6, eh6, H⟩ := zlets H
    replace F := zFr_c F eh6 (by decide)
    cases H
    exact F
  · obtain ⟨h1, eh1, H⟩ := zlets H
    replace F := zFr_s F eh1 (by decide)
    obtain ⟨h2, eh2, H⟩ := zlets H
    replace F := zFr_c F eh2 (by decide)
    obtain ⟨h4, eh4, H⟩ := zlets H
    replace F := zFr_c F eh4 (by decide)
    obtain ⟨h6, eh6, H⟩ := zlets H
    replace F := zFr_c F eh6 (by decide)
    cases H
    exact F
  · obtain ⟨h1, eh1, H⟩ := zlets H
    replace F := zFr_s F eh1 (by decide)
    obtain ⟨h2, eh2, H⟩ := zlets H
    replace F := zFr_c F eh2 (by decide)
    obtain ⟨h4, eh4, H⟩ := zlets H
    replace F := zFr_c F eh4 (by decide)
    obtain ⟨h6, eh6, H⟩ := zlets H
    replace F := zFr_c F eh6 (by decide)
    cases H
    exact F
theorem f_qDe_add {x1 : Int32} {x2 : Int32} {x3 : Int32} {h : zK} {p : zK} (H : qDe_add x1 x2 x3 h = some p) : zFr [156, 157, 158, 159] h p := by
  unfold qDe_add at H
  obtain ⟨h0, F, e0⟩ : ∃ h0, zFr [156, 157, 158, 159] h0 h ∧ h0 = h := ⟨h, zFr_r, rfl⟩
  rw [← e0]
  clear e0
  by_cases c1 : (qDe_isFull h) = 0
  · replace H := zif_t c1 H
    obtain ⟨j2, hj2, H⟩ := zbs H
    obtain ⟨h3, eh3, H⟩ := zlets H
    replace F := zFr_s F eh3 (by decide)
    obtain ⟨j4, hj4, H⟩ := zbs H
    obtain ⟨h5, eh5, H⟩ := zlets H
    replace F := zFr_s F eh5 (by decide)
    obtain ⟨j6, hj6, H⟩ := zbs H
    obtain ⟨h7, eh7, H⟩ := zlets H
    replace F := zFr_s F eh7 (by decide)
    obtain ⟨h8, eh8, H⟩ := zlets H
    replace F := zFr_s F eh8 (by decide)
    cases H
    exact F
  · replace H := zif_f c1 H
    cases H
    exact F
theorem f_qLw_forget_b2 {h0 : zK} {s : Int32 × zK} {e : (Int32 × zK) ⊕ (zK)} (F : zFr [213] h0 s.2) (H : qLw_forget_b2 s = some e) : match (generalizing := false) e with | .inl s' => zFr [213] h0 s'.2 | .inr v => zFr [213] h0 v := by
  unfold qLw_forget_b2 at H
  by_cases c1 : 2 ≤ s.1
  · replace H := zif_t c1 H
    cases H
    exact F
  · replace H := zif_f c1 H
    obtain ⟨j2, hj2, H⟩ := zbs H
    obtain ⟨h3, eh3, H⟩ := zlets H
    replace F := zFr_s F eh3 (by decide)
    cases H
    exact F
theorem f_qLw_forget_b2_l (n : Nat) (s : Int32 × zK) (t : zK) (H : zloop (qLw_forget_b2) n s = some t) : zFr [213] s.2 t := by
  exact zloop_P (P := fun s => zFr [213] s.2 t) (b := qLw_forget_b2) (t := t) (fun s s2 hb hk => zFr_t (f_qLw_forget_b2 zFr_r hb) hk) (fun s hb => f_qLw_forget_b2 zFr_r hb) n s H
theorem f_qLw_forget  {h : zK} {p : zK} (H : qLw_forget h = some p) : zFr [213] h p := by
  unfold qLw_forget at H
  obtain ⟨h0, F, e0⟩ : ∃ h0, zFr [213] h0 h ∧ h0 = h := ⟨h, zFr_r, rfl⟩
  rw [← e0]
  clear e0
  obtain ⟨t4, ht4, H⟩ := zbs H
  have Fl := f_qLw_forget_b2_l zfu _ _ ht4
  replace F := zFr_t F Fl
  clear Fl
  cases H
  exact F
theorem f_qRu_begin_b113 {h0 : zK} {oc : Nat} {oo : Nat} {s : Int32 × zK} {e : (Int32 × zK) ⊕ (zK)} (ho : (oc = 7 ∧ oo = 166) ∨ (oc = 22 ∧ oo = 166) ∨ (oc = 7 ∧ oo = 198) ∨ (oc = 22 ∧ oo = 198)) (F : zFr [166, 167, 176, 177, 178, 179, 198, 199, 208, 209, 210, 211] h0 s.2) (H : qRu_begin_b113 oc oo s = some e) : match (generalizing := false) e with | .inl s' => zFr [166, 167, 176, 177, 178, 179, 198, 199, 208, 209, 210, 211] h0 s'.2 | .inr v => zFr [166, 167, 176, 177, 178, 179, 198, 199, 208, 209, 210, 211] h0 v := by
  unfold qRu_begin_b113 at H
  rcases ho with ⟨rfl, rfl⟩ | ⟨rfl, rfl⟩ | ⟨rfl, rfl⟩ | ⟨rfl, rfl⟩
  · by_cases c18 : 50 < s.1
    · replace H := zif_t c18 H
      cases H
      exact F
    · replace H := zif_f c18 H
      obtain ⟨j19, hj19, H⟩ := zbs H
      obtain ⟨h20, eh20, H⟩ := zlets H
      replace F := zFr_s F eh20 (by decide)
      cases H
      exact F
  · by_cases c18 : 50 < s.1
    · replace H := zif_t c18 H
      cases H
      exact F
    · replace H := zif_f c18 H
      obtain ⟨j19, hj19, H⟩ := zbs H
      obtain ⟨h20, eh20, H⟩ := zlets H
      replace F := zFr_s F eh20 (by decide)
      cases H
      exact F
  · by_cases c18 : 50 < s.1
    · replace H := zif_t c18 H
      cases H
      exact F
    · replace H := zif_f c18 H
      obtain ⟨j19, hj19, H⟩ := zbs H
      obtain ⟨h20, eh20, H⟩ := zlets H
      replace F := zFr_s F eh20 (by decide)
      cases H
      exact F
  · by_cases c18 : 50 < s.1
    · replace H := zif_t c18 H
      cases H
      exact F
    · replace H := zif_f c18 H
      obtain ⟨j19, hj19, H⟩ := zbs H
      obtain ⟨h20, eh20, H⟩ := zlets H
      replace F := zFr_s F eh20 (by decide)
      cases H
      exact F
theorem f_qRu_begin_b113_l {oc : Nat} {oo : Nat} (ho : (oc = 7 ∧ oo = 166) ∨ (oc = 22 ∧ oo = 166) ∨ (oc = 7 ∧ oo = 198) ∨ (oc = 22 ∧ oo = 198)) (n : Nat) (s : Int32 × zK) (t : zK) (H : zloop (qRu_begin_b113 oc oo) n s = some t) : zFr [166, 167, 176, 177, 178, 179, 198, 199, 208, 209, 210, 211] s.2 t := by
  exact zloop_P (P := fun s => zFr [166, 167, 176, 177, 178, 179, 198, 199, 208, 209, 210, 211] s.2 t) (b := qRu_begin_b113 oc oo) (t := t) (fun s s2 hb hk => zFr_t (f_qRu_begin_b113 ho zFr_r hb) hk) (fun s hb => f_qRu_begin_b113 ho zFr_r hb) n s H
theorem f_qRu_begin {oo : Nat} {oc : Nat} {h : zK} {p : zK} (ho : (oc = 7 ∧ oo = 166) ∨ (oc = 22 ∧ oo = 166) ∨ (oc = 7 ∧ oo = 198) ∨ (oc = 22 ∧ oo = 198)) (H : qRu_begin oo oc h = some p) : zFr [166, 167, 176, 177, 178, 179, 198, 199, 208, 209, 210, 211] h p := by
  unfold qRu_begin at H
  obtain ⟨h0, F, e0⟩ : ∃ h0, zFr [166, 167, 176, 177, 178, 179, 198, 199, 208, 209, 210, 211] h0 h ∧ h0 = h := ⟨h, zFr_r, rfl⟩
  rw [← e0]
  clear e0
  rcases ho with ⟨rfl, rfl⟩ | ⟨rfl, rfl⟩ | ⟨rfl, rfl⟩ | ⟨rfl, rfl⟩
  · obtain ⟨h1, eh1, H⟩ := zlets H
    replace F := zFr_sr F eh1 (by decide)
    obtain ⟨h2, eh2, H⟩ := zlets H
    replace F := zFr_s F eh2 (by decide)
    obtain ⟨h3, eh3, H⟩ := zlets H
    replace F := zFr_s F eh3 (by decide)
    obtain ⟨h4, eh4, H⟩ := zlets H
    replace F := zFr_c F eh4 (by decide)
    obtain ⟨h6, eh6, H⟩ := zlets H
    replace F := zFr_c F eh6 (by decide)
    obtain ⟨h8, eh8, H⟩ := zlets H
    replace F := zFr_c F eh8 (by decide)
    obtain ⟨h10, eh10, H⟩ := zlets H
    replace F := zFr_c F eh10 (by decide)
    obtain ⟨h12, eh12, H⟩ := zlets H
    replace F := zFr_s F eh12 (by decide)
    obtain ⟨h13, eh13, H⟩ := zlets H
    replace F := zFr_s F eh13 (by decide)
    obtain ⟨h14, eh14, H⟩ := zlets H
    replace F := zFr_s F eh14 (by decide)
    obtain ⟨h15, eh15, H⟩ := zlets H
    replace F := zFr_s F eh15 (by decide)
    obtain ⟨h16, eh16, H⟩ := zlets H
    replace F := zFr_s F eh16 (by decide)
    obtain ⟨h17, eh17, H⟩ := zlets H
    replace F := zFr_s F eh17 (by decide)
    obtain ⟨t21, ht21, H⟩ := zbs H
    have Fl := f_qRu_begin_b113_l (oc := 7) (oo := 166) (by decide) zfu _ _ ht21
    replace F := zFr_t F Fl
    clear Fl
    obtain ⟨h23, eh23, H⟩ := zlets H
    replace F := zFr_s F eh23 (by decide)
    obtain ⟨h24, eh24, H⟩ := zlets H
    replace F := zFr_s F eh24 (by decide)
    obtain ⟨h25, eh25, H⟩ := zlets H
    replace F := zFr_s F eh25 (by decide)
    obtain ⟨h26, eh26, H⟩ := zlets H
    replace F := zFr_s F eh26 (by decide)
    obtain ⟨h27, eh27, H⟩ := zlets H
    replace F := zFr_s F eh27 (by decide)
    cases H
    exact F
  · obtain ⟨h1, eh1, H⟩ := zlets H
    replace F := zFr_sr F eh1 (by decide)
    obtain ⟨h2, eh2, H⟩ := zlets H
    replace F := zFr_s F eh2 (by decide)
    obtain ⟨h3, eh3, H⟩ := zlets H
    replace F := zFr_s F eh3 (by decide)
    obtain ⟨h4, eh4, H⟩ := zlets H
    replace F := zFr_c F eh4 (by decide)
    obtain ⟨h6, eh6, H⟩ := zlets H
    replace F := zFr_c F eh6 (by decide)
    obtain ⟨h8, eh8, H⟩ := zlets H
    replace F := zFr_c F eh8 (by decide)
    obtain ⟨h10, eh10, H⟩ := zlets H
    replace F := zFr_c F eh10 (by decide)
    obtain ⟨h12, eh12, H⟩ := zlets H
    replace F := zFr_s F eh12 (by decide)
    obtain ⟨h13, eh13, H⟩ := zlets H
    replace F := zFr_s F eh13 (by decide)
    obtain ⟨h14, eh14, H⟩ := zlets H
    replace F := zFr_s F eh14 (by decide)
    obtain ⟨h15, eh15, H⟩ := zlets H
    replace F := zFr_s F eh15 (by decide)
    obtain ⟨h16, eh16, H⟩ := zlets H
    replace F := zFr_s F eh16 (by decide)
    obtain ⟨h17, eh17, H⟩ := zlets H
    replace F := zFr_s F eh17 (by decide)
    obtain ⟨t21, ht21, H⟩ := zbs H
    have Fl := f_qRu_begin_b113_l (oc := 22) (oo := 166) (by decide) zfu _ _ ht21
    replace F := zFr_t F Fl
    clear Fl
    obtain ⟨h23, eh23, H⟩ := zlets H
    replace F := zFr_s F eh23 (by decide)
    obtain ⟨h24, eh24, H⟩ := zlets H
    replace F := zFr_s F eh24 (by decide)
    obtain ⟨h25, eh25, H⟩ := zlets H
    replace F := zFr_s F eh25 (by decide)
    obtain ⟨h26, eh26, H⟩ := zlets H
    replace F := zFr_s F eh26 (by decide)
    obtain ⟨h27, eh27, H⟩ := zlets H
    replace F := zFr_s F eh27 (by decide)
    cases H
    exact F
  · obtain ⟨h1, eh1, H⟩ := zlets H
    replace F := zFr_sr F eh1 (by decide)
    obtain ⟨h2, eh2, H⟩ := zlets H
    replace F := zFr_s F eh2 (by decide)
    obtain ⟨h3, eh3, H⟩ := zlets H
    replace F := zFr_s F eh3 (by decide)
    obtain ⟨h4, eh4, H⟩ := zlets H
    replace F := zFr_c F eh4 (by decide)
    obtain ⟨h6, eh6, H⟩ := zlets H
    replace F := zFr_c F eh6 (by decide)
    obtain ⟨h8, eh8, H⟩ := zlets H
    replace F := zFr_c F eh8 (by decide)
    obtain ⟨h10, eh10, H⟩ := zlets H
    replace F := zFr_c F eh10 (by decide)
    obtain ⟨h12, eh12, H⟩ := zlets H
    replace F := zFr_s F eh12 (by decide)
    obtain ⟨h13, eh13, H⟩ := zlets H
    replace F := zFr_s F eh13 (by decide)
    obtain ⟨h14, eh14, H⟩ := zlets H
    replace F := zFr_s F eh14 (by decide)
    obtain ⟨h15, eh15, H⟩ := zlets H
    replace F := zFr_s F eh15 (by decide)
    obtain ⟨h16, eh16, H⟩ := zlets H
    replace F := zFr_s F eh16 (by decide)
    obtain ⟨h17, eh17, H⟩ := zlets H
    replace F := zFr_s F eh17 (by decide)
    obtain ⟨t21, ht21, H⟩ := zbs H
    have Fl := f_qRu_begin_b113_l (oc := 7) (oo := 198) (by decide) zfu _ _ ht21
    replace F := zFr_t F Fl
    clear Fl
    obtain ⟨h23, eh23, H⟩ := zlets H
    replace F := zFr_s F eh23 (by decide)
    obtain ⟨h24, eh24, H⟩ := zlets H
    replace F := zFr_s F eh24 (by decide)
    obtain ⟨h25, eh25, H⟩ := zlets H
    replace F := zFr_s F eh25 (by decide)
    obtain ⟨h26, eh26, H⟩ := zlets H
    replace F := zFr_s F eh26 (by decide)
    obtain ⟨h27, eh27, H⟩ := zlets H
    replace F := zFr_s F eh27 (by decide)
    cases H
    exact F
  · obtain ⟨h1, eh1, H⟩ := zlets H
    replace F := zFr_sr F eh1 (by decide)
    obtain ⟨h2, eh2, H⟩ := zlets H
    replace F := zFr_s F eh2 (by decide)
    obtain ⟨h3, eh3, H⟩ := zlets H
    replace F := zFr_s F eh3 (by decide)
    obtain ⟨h4, eh4, H⟩ := zlets H
    replace F := zFr_c F eh4 (by decide)
    obtain ⟨h6, eh6, H⟩ := zlets H
    replace F := zFr_c F eh6 (by decide)
    obtain ⟨h8, eh8, H⟩ := zlets H
    replace F := zFr_c F eh8 (by decide)
    obtain ⟨h10, eh10, H⟩ := zlets H
    replace F := zFr_c F eh10 (by decide)
    obtain ⟨h12, eh12, H⟩ := zlets H
    replace F := zFr_s F eh12 (by decide)
    obtain ⟨h13, eh13, H⟩ := zlets H
    replace F := zFr_s F eh13 (by decide)
    obtain ⟨h14, eh14, H⟩ := zlets H
    replace F := zFr_s F eh14 (by decide)
    obtain ⟨h15, eh15, H⟩ := zlets H
    replace F := zFr_s F eh15 (by decide)
    obtain ⟨h16, eh16, H⟩ := zlets H
    replace F := zFr_s F eh16 (by decide)
    obtain ⟨h17, eh17, H⟩ := zlets H
    replace F := zFr_s F eh17 (by decide)
    obtain ⟨t21, ht21, H⟩ := zbs H
    have Fl := f_qRu_begin_b113_l (oc := 22) (oo := 198) (by decide) zfu _ _ ht21
    replace F := zFr_t F Fl
    clear Fl
    obtain ⟨h23, eh23, H⟩ := zlets H
    replace F := zFr_s F eh23 (by decide)
    obtain ⟨h24, eh24, H⟩ := zlets H
    replace F := zFr_s F eh24 (by decide)
    obtain ⟨h25, eh25, H⟩ := zlets H
    replace F := zFr_s F eh25 (by decide)
    obtain ⟨h26, eh26, H⟩ := zlets H
    replace F := zFr_s F eh26 (by decide)
    obtain ⟨h27, eh27, H⟩ := zlets H
    replace F := zFr_s F eh27 (by decide)
    cases H
    exact F
theorem f_qRu_burst_b52 {h0 : zK} {oo : Nat} {x1 : Int32} {s : Int32 × zK} {e : (Int32 × zK) ⊕ (zK)} (ho : oo = 166 ∨ oo = 198) (F : zFr [166, 167, 177, 198, 199, 209] h0 s.2) (H : qRu_burst_b52 oo x1 s = some e) : match (generalizing := false) e with | .inl s' => zFr [166, 167, 177, 198, 199, 209] h0 s'.2 | .inr v => zFr [166, 167, 177, 198, 199, 209] h0 v := by
  unfold qRu_burst_b52 at H
  rcases ho with rfl | rfl
  · obtain ⟨a7, ea7, H⟩ := zlets H
    obtain ⟨c8, H⟩ := zifn H
    rcases c8 with rfl | rfl
    · by_cases c9 : (gI s.2 7 2) ≤ s.1
      · replace H := zif_t c9 H
        cases H
        exact F
      · replace H := zif_f c9 H
        obtain ⟨v11, hv11, H⟩ := zbs H
        replace F : zFr [166, 167, 177, 198, 199, 209] h0 v11 := by
          clear H
          by_cases c10 : ¬ (zf_cin (gI s.2 166 2) s.1) = 0
          · replace hv11 := zif_t c10 hv11
            cases hv11
            exact F
          · replace hv11 := zif_f c10 hv11
            obtain ⟨j12, hj12, hv11⟩ := zbs hv11
            obtain ⟨j13, hj13, hv11⟩ := zbs hv11
            by_cases c14 : (gI s.2 166 3) < (zf_abs ((gI s.2 (166 + 13) j12) - (gI s.2 (166 + 13) j13)))
            · replace hv11 := zif_t c14 hv11
              cases hv11
              exact F
            · replace hv11 := zif_f c14 hv11
              obtain ⟨h15, eh15, hv11⟩ := zlets hv11
              replace F := zFr_s F eh15 (by decide)
              cases hv11
              exact F
        cases H
        exact F
    · by_cases c9 : (gI s.2 22 2) ≤ s.1
      · replace H := zif_t c9 H
        cases H
        exact F
      · replace H := zif_f c9 H
        obtain ⟨v11, hv11, H⟩ := zbs H
        replace F : zFr [166, 167, 177, 198, 199, 209] h0 v11 := by
          clear H
          by_cases c10 : ¬ (zf_cin (gI s.2 166 2) s.1) = 0
          · replace hv11 := zif_t c10 hv11
            cases hv11
            exact F
          · replace hv11 := zif_f c10 hv11
            obtain ⟨j12, hj12, hv11⟩ := zbs hv11
            obtain ⟨j13, hj13, hv11⟩ := zbs hv11
            by_cases c14 : (gI s.2 166 3) < (zf_abs ((gI s.2 (166 + 13) j12) - (gI s.2 (166 + 13) j13)))
            · replace hv11 := zif_t c14 hv11
              cases hv11
              exact F
            · replace hv11 := zif_f c14 hv11
              obtain ⟨h15, eh15, hv11⟩ := zlets hv11
              replace F := zFr_s F eh15 (by decide)
              cases hv11
              exact F
        cases H
        exact F
  · obtain ⟨a7, ea7, H⟩ := zlets H
    obtain ⟨c8, H⟩ := zifn H
    rcases c8 with rfl | rfl
    · by_cases c9 : (gI s.2 7 2) ≤ s.1
      · replace H := zif_t c9 H
        cases H
        exact F
      · replace H := zif_f c9 H
        obtain ⟨v11, hv11, H⟩ := zbs H
        replace F : zFr [166, 167, 177, 198, 199, 209] h0 v11 := by
          clear H
          by_cases c10 : ¬ (zf_cin (gI s.2 198 2) s.1) = 0
          · replace hv11 := zif_t c10 hv11
            cases hv11
            exact F
          · replace hv11 := zif_f c10 hv11
            obtain ⟨j12, hj12, hv11⟩ := zbs hv11
            obtain ⟨j13, hj13, hv11⟩ := zbs hv11
            by_cases c14 : (gI s.2 198 3) < (zf_abs ((gI s.2 (198 + 13) j12) - (gI s.2 (198 + 13) j13)))
            · replace hv11 := zif_t c14 hv11
              cases hv11
              exact F
            · replace hv11 := zif_f c14 hv11
              obtain ⟨h15, eh15, hv11⟩ := zlets hv11
              replace F := zFr_s F eh15 (by decide)
              cases hv11
              exact F
        cases H
        exact F
    · by_cases c9 : (gI s.2 22 2) ≤ s.1
      · replace H := zif_t c9 H
        cases H
        exact F
      · replace H := zif_f c9 H
        obtain ⟨v11, hv11, H⟩ := zbs H
        replace F : zFr [166, 167, 177, 198, 199, 209] h0 v11 := by
          clear H
          by_cases c10 : ¬ (zf_cin (gI s.2 198 2) s.1) = 0
          · replace hv11 := zif_t c10 hv11
            cases hv11
            exact F
          · replace hv11 := zif_f c10 hv11
            obtain ⟨j12, hj12, hv11⟩ := zbs hv11
            obtain ⟨j13, hj13, hv11⟩ := zbs hv11
            by_cases c14 : (gI s.2 198 3) < (zf_abs ((gI s.2 (198 + 13) j12) - (gI s.2 (198 + 13) j13)))
            · replace hv11 := zif_t c14 hv11
              cases hv11
              exact F
            · replace hv11 := zif_f c14 hv11
              obtain ⟨h15, eh15, hv11⟩ := zlets hv11
              replace F := zFr_s F eh15 (by decide)
              cases hv11
              exact F
        cases H
        exact F
theorem f_qRu_burst_b52_l {oo : Nat} {x1 : Int32} (ho : oo = 166 ∨ oo = 198) (n : Nat) (s : Int32 × zK) (t : zK) (H : zloop (qRu_burst_b52 oo x1) n s = some t) : zFr [166, 167, 177, 198, 199, 209] s.2 t := by
  exact zloop_P (P := fun s => zFr [166, 167, 177, 198, 199, 209] s.2 t) (b := qRu_burst_b52 oo x1) (t := t) (fun s s2 hb hk => zFr_t (f_qRu_burst_b52 ho zFr_r hb) hk) (fun s hb => f_qRu_burst_b52 ho zFr_r hb) n s H
theorem f_qRu_burst {oo : Nat} {x1 : Int32} {h : zK} {p : zK} (ho : oo = 166 ∨ oo = 198) (H : qRu_burst oo x1 h = some p) : zFr [166, 167, 177, 198, 199, 209] h p := by
  unfold qRu_burst at H
  obtain ⟨h0, F, e0⟩ : ∃ h0, zFr [166, 167, 177, 198, 199, 209] h0 h ∧ h0 = h := ⟨h, zFr_r, rfl⟩
  rw [← e0]
  clear e0
  rcases ho with rfl | rfl
  · obtain ⟨h1, eh1, H⟩ := zlets H
    replace F := zFr_s F eh1 (by decide)
    obtain ⟨h2, eh2, H⟩ := zlets H
    replace F := zFr_s F eh2 (by decide)
    obtain ⟨j3, hj3, H⟩ := zbs H
    obtain ⟨h4, eh4, H⟩ := zlets H
    replace F := zFr_s F eh4 (by decide)
    obtain ⟨j5, hj5, H⟩ := zbs H
    obtain ⟨h6, eh6, H⟩ := zlets H
    replace F := zFr_s F eh6 (by decide)
    obtain ⟨t16, ht16, H⟩ := zbs H
    have Fl := f_qRu_burst_b52_l (oo := 166) (by decide) zfu _ _ ht16
    replace F := zFr_t F Fl
    clear Fl
    cases H
    exact F
  · obtain ⟨h1, eh1, H⟩ := zlets H
    replace F := zFr_s F eh1 (by decide)
    obtain ⟨h2, eh2, H⟩ := zlets H
    replace F := zFr_s F eh2 (by decide)
    obtain ⟨j3, hj3, H⟩ := zbs H
    obtain ⟨h4, eh4, H⟩ := zlets H
    replace F := zFr_s F eh4 (by decide)
    obtain ⟨j5, hj5, H⟩ := zbs H
    obtain ⟨h6, eh6, H⟩ := zlets H
    replace F := zFr_s F eh6 (by decide)
    obtain ⟨t16, ht16, H⟩ := zbs H
    have Fl := f_qRu_burst_b52_l (oo := 198) (by decide) zfu _ _ ht16
    replace F := zFr_t F Fl
    clear Fl
    cases H
    exact F
theorem f_qRu_passedYear_b13 {h0 : zK} {oo : Nat} {s : Int32 × zK} {e : (Int32 × zK) ⊕ (zK)} (ho : oo = 166 ∨ oo = 198) (F : zFr [166, 167, 176, 177, 198, 199, 208, 209] h0 s.2) (H : qRu_passedYear_b13 oo s = some e) : match (generalizing := false) e with | .inl s' => zFr [166, 167, 176, 177, 198, 199, 208, 209] h0 s'.2 | .inr v => zFr [166, 167, 176, 177, 198, 199, 208, 209] h0 v := by
  unfold qRu_passedYear_b13 at H
  rcases ho with rfl | rfl
  · obtain ⟨a2, ea2, H⟩ := zlets H
    obtain ⟨c3, H⟩ := zifn H
    rcases c3 with rfl | rfl
    · by_cases c4 : (gI s.2 7 2) ≤ s.1
      · replace H := zif_t c4 H
        cases H
        exact F
      · replace H := zif_f c4 H
        obtain ⟨v6, hv6, H⟩ := zbs H
        replace F : zFr [166, 167, 176, 177, 198, 199, 208, 209] h0 v6 := by
          clear H
          by_cases c5 : ¬ (zf_cin (gI s.2 166 2) s.1) = 0
          · replace hv6 := zif_t c5 hv6
            cases hv6
            exact F
          · replace hv6 := zif_f c5 hv6
            obtain ⟨j7, hj7, hv6⟩ := zbs hv6
            obtain ⟨a8, ea8, hv6⟩ := zlets hv6
            obtain ⟨c9, hv6⟩ := zifn hv6
            rcases c9 with rfl | rfl
            · obtain ⟨h10, eh10, hv6⟩ := zlets hv6
              replace F := zFr_s F eh10 (by decide)
              obtain ⟨a11, ea11, hv6⟩ := zlets hv6
              obtain ⟨c12, hv6⟩ := zifn hv6
              rcases c12 with rfl | rfl
              · obtain ⟨h13, eh13, hv6⟩ := zlets hv6
                replace F := zFr_s F eh13 (by decide)
                cases hv6
                exact F
              · obtain ⟨h13, eh13, hv6⟩ := zlets hv6
                replace F := zFr_s F eh13 (by decide)
                cases hv6
                exact F
            · obtain ⟨h10, eh10, hv6⟩ := zlets hv6
              replace F := zFr_s F eh10 (by decide)
              obtain ⟨a11, ea11, hv6⟩ := zlets hv6
              obtain ⟨c12, hv6⟩ := zifn hv6
              rcases c12 with rfl | rfl
              · obtain ⟨h13, eh13, hv6⟩ := zlets hv6
                replace F := zFr_s F eh13 (by decide)
                cases hv6
                exact F
              · obtain ⟨h13, eh13, hv6⟩ := zlets hv6
                replace F := zFr_s F eh13 (by decide)
                cases hv6
                exact F
        cases H
        exact F
    · by_cases c4 : (gI s.2 22 2) ≤ s.1
      · replace H := zif_t c4 H
        cases H
        exact F
      · replace H := zif_f c4 H
        obtain ⟨v6, hv6, H⟩ := zbs H
        replace F : zFr [166, 167, 176, 177, 198, 199, 208, 209] h0 v6 := by
          clear H
          by_cases c5 : ¬ (zf_cin (gI s.2 166 2) s.1) = 0
          · replace hv6 := zif_t c5 hv6
            cases hv6
            exact F
          · replace hv6 := zif_f c5 hv6
            obtain ⟨j7, hj7, hv6⟩ := zbs hv6
            obtain ⟨a8, ea8, hv6⟩ := zlets hv6
            obtain ⟨c9, hv6⟩ := zifn hv6
            rcases c9 with rfl | rfl
            · obtain ⟨h10, eh10, hv6⟩ := zlets hv6
              replace F := zFr_s F eh10 (by decide)
              obtain ⟨a11, ea11, hv6⟩ := zlets hv6
              obtain ⟨c12, hv6⟩ := zifn hv6
              rcases c12 with rfl | rfl
              · obtain ⟨h13, eh13, hv6⟩ := zlets hv6
                replace F := zFr_s F eh13 (by decide)
                cases hv6
                exact F
              · obtain ⟨h13, eh13, hv6⟩ := zlets hv6
                replace F := zFr_s F eh13 (by decide)
                cases hv6
                exact F
            · obtain ⟨h10, eh10, hv6⟩ := zlets hv6
              replace F := zFr_s F eh10 (by decide)
              obtain ⟨a11, ea11, hv6⟩ := zlets hv6
              obtain ⟨c12, hv6⟩ := zifn hv6
              rcases c12 with rfl | rfl
              · obtain ⟨h13, eh13, hv6⟩ := zlets hv6
                replace F := zFr_s F eh13 (by decide)
                cases hv6
                exact F
              · obtain ⟨h13, eh13, hv6⟩ := zlets hv6
                replace F := zFr_s F eh13 (by decide)
                cases hv6
                exact F
        cases H
        exact F
  · obtain ⟨a2, ea2, H⟩ := zlets H
    obtain ⟨c3, H⟩ := zifn H
    rcases c3 with rfl | rfl
    · by_cases c4 : (gI s.2 7 2) ≤ s.1
      · replace H := zif_t c4 H
        cases H
        exact F
      · replace H := zif_f c4 H
        obtain ⟨v6, hv6, H⟩ := zbs H
        replace F : zFr [166, 167, 176, 177, 198, 199, 208, 209] h0 v6 := by
          clear H
          by_cases c5 : ¬ (zf_cin (gI s.2 198 2) s.1) = 0
          · replace hv6 := zif_t c5 hv6
            cases hv6
            exact F
          · replace hv6 := zif_f c5 hv6
            obtain ⟨j7, hj7, hv6⟩ := zbs hv6
            obtain ⟨a8, ea8, hv6⟩ := zlets hv6
            obtain ⟨c9, hv6⟩ := zifn hv6
            rcases c9 with rfl | rfl
            · obtain ⟨h10, eh10, hv6⟩ := zlets hv6
              replace F := zFr_s F eh10 (by decide)
              obtain ⟨a11, ea11, hv6⟩ := zlets hv6
              obtain ⟨c12, hv6⟩ := zifn hv6
              rcases c12 with rfl | rfl
              · obtain ⟨h13, eh13, hv6⟩ := zlets hv6
                replace F := zFr_s F eh13 (by decide)
                cases hv6
                exact F
              · obtain ⟨h13, eh13, hv6⟩ := zlets hv6
                replace F := zFr_s F eh13 (by decide)
                cases hv6
                exact F
            · obtain ⟨h10, eh10, hv6⟩ := zlets hv6
              replace F := zFr_s F eh10 (by decide)
              obtain ⟨a11, ea11, hv6⟩ := zlets hv6
              obtain ⟨c12, hv6⟩ := zifn hv6
              rcases c12 with rfl | rfl
              · obtain ⟨h13, eh13, hv6⟩ := zlets hv6
                replace F := zFr_s F eh13 (by decide)
                cases hv6
                exact F
              · obtain ⟨h13, eh13, hv6⟩ := zlets hv6
                replace F := zFr_s F eh13 (by decide)
                cases hv6
                exact F
        cases H
        exact F
    · by_cases c4 : (gI s.2 22 2) ≤ s.1
      · replace H := zif_t c4 H
        cases H
        exact F
      · replace H := zif_f c4 H
        obtain ⟨v6, hv6, H⟩ := zbs H
        replace F : zFr [166, 167, 176, 177, 198, 199, 208, 209] h0 v6 := by
          clear H
          by_cases c5 : ¬ (zf_cin (gI s.2 198 2) s.1) = 0
          · replace hv6 := zif_t c5 hv6
            cases hv6
            exact F
          · replace hv6 := zif_f c5 hv6
            obtain ⟨j7, hj7, hv6⟩ := zbs hv6
            obtain ⟨a8, ea8, hv6⟩ := zlets hv6
            obtain ⟨c9, hv6⟩ := zifn hv6
            rcases c9 with rfl | rfl
            · obtain ⟨h10, eh10, hv6⟩ := zlets hv6
              replace F := zFr_s F eh10 (by decide)
              obtain ⟨a11, ea11, hv6⟩ := zlets hv6
              obtain ⟨c12, hv6⟩ := zifn hv6
              rcases c12 with rfl | rfl
              · obtain ⟨h13, eh13, hv6⟩ := zlets hv6
                replace F := zFr_s F eh13 (by decide)
                cases hv6
                exact F
              · obtain ⟨h13, eh13, hv6⟩ := zlets hv6
                replace F := zFr_s F eh13 (by decide)
                cases hv6
                exact F
            · obtain ⟨h10, eh10, hv6⟩ := zlets hv6
              replace F := zFr_s F eh10 (by decide)
              obtain ⟨a11, ea11, hv6⟩ := zlets hv6
              obtain ⟨c12, hv6⟩ := zifn hv6
              rcases c12 with rfl | rfl
              · obtain ⟨h13, eh13, hv6⟩ := zlets hv6
                replace F := zFr_s F eh13 (by decide)
                cases hv6
                exact F
              · obtain ⟨h13, eh13, hv6⟩ := zlets hv6
                replace F := zFr_s F eh13 (by decide)
                cases hv6
                exact F
        cases H
        exact F
theorem f_qRu_passedYear_b13_l {oo : Nat} (ho : oo = 166 ∨ oo = 198) (n : Nat) (s : Int32 × zK) (t : zK) (H : zloop (qRu_passedYear_b13 oo) n s = some t) : zFr [166, 167, 176, 177, 198, 199, 208, 209] s.2 t := by
  exact zloop_P (P := fun s => zFr [166, 167, 176, 177, 198, 199, 208, 209] s.2 t) (b := qRu_passedYear_b13 oo) (t := t) (fun s s2 hb hk => zFr_t (f_qRu_passedYear_b13 ho zFr_r hb) hk) (fun s hb => f_qRu_passedYear_b13 ho zFr_r hb) n s H
theorem f_qRu_passedYear_b102 {h0 : zK} {oo : Nat} {s : Int32 × Int32 × zK} {e : (Int32 × Int32 × zK) ⊕ (zK)} (ho : oo = 166 ∨ oo = 198) (F : zFr [166, 167, 176, 177, 198, 199, 208, 209] h0 s.2.2) (H : qRu_passedYear_b102 oo s = some e) : match (generalizing := false) e with | .inl s' => zFr [166, 167, 176, 177, 198, 199, 208, 209] h0 s'.2.2 | .inr v => zFr [166, 167, 176, 177, 198, 199, 208, 209] h0 v := by
  unfold qRu_passedYear_b102 at H
  rcases ho with rfl | rfl
  · by_cases c18 : 7 ≤ s.2.1
    · replace H := zif_t c18 H
      cases H
      exact F
    · replace H := zif_f c18 H
      by_cases c19 : s.1 = (-1)
      · replace H := zif_t c19 H
        cases H
        exact F
      · replace H := zif_f c19 H
        obtain ⟨p20, hp20, H⟩ := zbs H
        replace F := zFr_w F (f_qRu_burst (by decide) hp20) (by decide)
        obtain ⟨p21, hp21, H⟩ := zbs H
        cases H
        exact F
  · by_cases c18 : 7 ≤ s.2.1
    · replace H := zif_t c18 H
      cases H
      exact F
    · replace H := zif_f c18 H
      by_cases c19 : s.1 = (-1)
      · replace H := zif_t c19 H
        cases H
        exact F
      · replace H := zif_f c19 H
        obtain ⟨p20, hp20, H⟩ := zbs H
        replace F := zFr_w F (f_qRu_burst (by decide) hp20) (by decide)
        obtain ⟨p21, hp21, H⟩ := zbs H
        cases H
        exact F
theorem f_qRu_passedYear_b102_l {oo : Nat} (ho : oo = 166 ∨ oo = 198) (n : Nat) (s : Int32 × Int32 × zK) (t : zK) (H : zloop (qRu_passedYear_b102 oo) n s = some t) : zFr [166, 167, 176, 177, 198, 199, 208, 209] s.2.2 t := by
  exact zloop_P (P := fun s => zFr [166, 167, 176, 177, 198, 199, 208, 209] s.2.2 t) (b := qRu_passedYear_b102 oo) (t := t) (fun s s2 hb hk => zFr_t (f_qRu_passedYear_b102 ho zFr_r hb) hk) (fun s hb => f_qRu_passedYear_b102 ho zFr_r hb) n s H
theorem f_qRu_passedYear {oo : Nat} {h : zK} {p : Int32 × zK} (ho : oo = 166 ∨ oo = 198) (H : qRu_passedYear oo h = some p) : zFr [166, 167, 176, 177, 198, 199, 208, 209] h p.2 := by
  unfold qRu_passedYear at H
  obtain ⟨h0, F, e0⟩ : ∃ h0, zFr [166, 167, 176, 177, 198, 199, 208, 209] h0 h ∧ h0 = h := ⟨h, zFr_r, rfl⟩
  rw [← e0]
  clear e0
  rcases ho with rfl | rfl
  · by_cases c1 : (gI h 166 0) < 50
    · replace H := zif_t c1 H
      obtain ⟨t14, ht14, H⟩ := zbs H
      have Fl := f_qRu_passedYear_b13_l (oo := 166) (by decide) zfu _ _ ht14
      replace F := zFr_t F Fl
      clear Fl
      obtain ⟨h16, eh16, H⟩ := zlets H
      replace F := zFr_s F eh16 (by decide)
      obtain ⟨p17, hp17, H⟩ := zbs H
      obtain ⟨t22, ht22, H⟩ := zbs H
      have Fl := f_qRu_passedYear_b102_l (oo := 166) (by decide) zfu _ _ ht22
      replace F := zFr_t F Fl
      clear Fl
      cases H
      exact F
    · replace H := zif_f c1 H
      cases H
      exact F
  · by_cases c1 : (gI h 198 0) < 50
    · replace H := zif_t c1 H
      obtain ⟨t14, ht14, H⟩ := zbs H
      have Fl := f_qRu_passedYear_b13_l (oo := 198) (by decide) zfu _ _ ht14
      replace F := zFr_t F Fl
      clear Fl
      obtain ⟨h16, eh16, H⟩ := zlets H
      replace F := zFr_s F eh16 (by decide)
      obtain ⟨p17, hp17, H⟩ := zbs H
      obtain ⟨t22, ht22, H⟩ := zbs H
      have Fl := f_qRu_passedYear_b102_l (oo := 198) (by decide) zfu _ _ ht22
      replace F := zFr_t F Fl
      clear Fl
      cases H
      exact F
    · replace H := zif_f c1 H
      cases H
      exact F
theorem f_qRu_passYears_b2 {h0 : zK} {oo : Nat} {x1 : Int32} {s : Int32 × zK} {e : (Int32 × zK) ⊕ (zK)} (ho : oo = 166 ∨ oo = 198) (F : zFr [166, 167, 176, 177, 198, 199, 208, 209] h0 s.2) (H : qRu_passYears_b2 oo x1 s = some e) : match (generalizing := false) e with | .inl s' => zFr [166, 167, 176, 177, 198, 199, 208, 209] h0 s'.2 | .inr v => zFr [166, 167, 176, 177, 198, 199, 208, 209] h0 v := by
  unfold qRu_passYears_b2 at H
  rcases ho with rfl | rfl
  · by_cases c1 : x1 ≤ s.1
    · replace H := zif_t c1 H
      cases H
      exact F
    · replace H := zif_f c1 H
      obtain ⟨p2, hp2, H⟩ := zbs H
      replace F := zFr_w F (f_qRu_passedYear (by decide) hp2) (by decide)
      cases H
      exact F
  · by_cases c1 : x1 ≤ s.1
    · replace H := zif_t c1 H
      cases H
      exact F
    · replace H := zif_f c1 H
      obtain ⟨p2, hp2, H⟩ := zbs H
      replace F := zFr_w F (f_qRu_passedYear (by decide) hp2) (by decide)
      cases H
      exact F
theorem f_qRu_passYears_b2_l {oo : Nat} {x1 : Int32} (ho : oo = 166 ∨ oo = 198) (n : Nat) (s : Int32 × zK) (t : zK) (H : zloop (qRu_passYears_b2 oo x1) n s = some t) : zFr [166, 167, 176, 177, 198, 199, 208, 209] s.2 t := by
  exact zloop_P (P := fun s => zFr [166, 167, 176, 177, 198, 199, 208, 209] s.2 t) (b := qRu_passYears_b2 oo x1) (t := t) (fun s s2 hb hk => zFr_t (f_qRu_passYears_b2 ho zFr_r hb) hk) (fun s hb => f_qRu_passYears_b2 ho zFr_r hb) n s H
theorem f_qRu_passYears {oo : Nat} {x1 : Int32} {h : zK} {p : zK} (ho : oo = 166 ∨ oo = 198) (H : qRu_passYears oo x1 h = some p) : zFr [166, 167, 176, 177, 198, 199, 208, 209] h p := by
  unfold qRu_passYears at H
  obtain ⟨h0, F, e0⟩ : ∃ h0, zFr [166, 167, 176, 177, 198, 199, 208, 209] h0 h ∧ h0 = h := ⟨h, zFr_r, rfl⟩
  rw [← e0]
  clear e0
  rcases ho with rfl | rfl
  · obtain ⟨t3, ht3, H⟩ := zbs H
    have Fl := f_qRu_passYears_b2_l (oo := 166) (by decide) zfu _ _ ht3
    replace F := zFr_t F Fl
    clear Fl
    cases H
    exact F
  · obtain ⟨t3, ht3, H⟩ := zbs H
    have Fl := f_qRu_passYears_b2_l (oo := 198) (by decide) zfu _ _ ht3
    replace F := zFr_t F Fl
    clear Fl
    cases H
    exact F
theorem f_qLw_learn_b2 {h0 : zK} {oc : Nat} {s : Int32 × zK} {e : (Int32 × zK) ⊕ (zK)} (ho : oc = 7 ∨ oc = 22) (F : zFr [166, 167, 176, 177, 178, 179, 198, 199, 208, 209, 210, 211, 212] h0 s.2) (H : qLw_learn_b2 oc s = some e) : match (generalizing := false) e with | .inl s' => zFr [166, 167, 176, 177, 178, 179, 198, 199, 208, 209, 210, 211, 212] h0 s'.2 | .inr v => zFr [166, 167, 176, 177, 178, 179, 198, 199, 208, 209, 210, 211, 212] h0 v := by
  unfold qLw_learn_b2 at H
  rcases ho with rfl | rfl
  · by_cases c1 : 100 ≤ s.1
    · replace H := zif_t c1 H
      cases H
      exact F
    · replace H := zif_f c1 H
      obtain ⟨p2, hp2, H⟩ := zbs H
      replace F := zFr_w F (f_qRu_begin (by decide) hp2) (by decide)
      obtain ⟨h3, eh3, H⟩ := zlets H
      replace F := zFr_s F eh3 (by decide)
      obtain ⟨h4, eh4, H⟩ := zlets H
      replace F := zFr_s F eh4 (by decide)
      obtain ⟨p5, hp5, H⟩ := zbs H
      replace F := zFr_w F (f_qRu_passYears (by decide) hp5) (by decide)
      obtain ⟨t8, ht8, H⟩ := zbs H
      obtain ⟨j10, hj10, H⟩ := zbs H
      obtain ⟨h11, eh11, H⟩ := zlets H
      replace F := zFr_sj F eh11 (by decide)
      cases H
      exact F
  · by_cases c1 : 100 ≤ s.1
    · replace H := zif_t c1 H
      cases H
      exact F
    · replace H := zif_f c1 H
      obtain ⟨p2, hp2, H⟩ := zbs H
      replace F := zFr_w F (f_qRu_begin (by decide) hp2) (by decide)
      obtain ⟨h3, eh3, H⟩ := zlets H
      replace F := zFr_s F eh3 (by decide)
      obtain ⟨h4, eh4, H⟩ := zlets H
      replace F := zFr_s F eh4 (by decide)
      obtain ⟨p5, hp5, H⟩ := zbs H
      replace F := zFr_w F (f_qRu_passYears (by decide) hp5) (by decide)
      obtain ⟨t8, ht8, H⟩ := zbs H
      obtain ⟨j10, hj10, H⟩ := zbs H
      obtain ⟨h11, eh11, H⟩ := zlets H
      replace F := zFr_sj F eh11 (by decide)
      cases H
      exact F
theorem f_qLw_learn_b2_l {oc : Nat} (ho : oc = 7 ∨ oc = 22) (n : Nat) (s : Int32 × zK) (t : zK) (H : zloop (qLw_learn_b2 oc) n s = some t) : zFr [166, 167, 176, 177, 178, 179, 198, 199, 208, 209, 210, 211, 212] s.2 t := by
  exact zloop_P (P := fun s => zFr [166, 167, 176, 177, 178, 179, 198, 199, 208, 209, 210, 211, 212] s.2 t) (b := qLw_learn_b2 oc) (t := t) (fun s s2 hb hk => zFr_t (f_qLw_learn_b2 ho zFr_r hb) hk) (fun s hb => f_qLw_learn_b2 ho zFr_r hb) n s H
theorem f_qLw_learn {oc : Nat} {h : zK} {p : zK} (ho : oc = 7 ∨ oc = 22) (H : qLw_learn oc h = some p) : zFr [166, 167, 176, 177, 178, 179, 198, 199, 208, 209, 210, 211, 212] h p := by
  unfold qLw_learn at H
  obtain ⟨h0, F, e0⟩ : ∃ h0, zFr [166, 167, 176, 177, 178, 179, 198, 199, 208, 209, 210, 211, 212] h0 h ∧ h0 = h := ⟨h, zFr_r, rfl⟩
  rw [← e0]
  clear e0
  rcases ho with rfl | rfl
  · obtain ⟨t12, ht12, H⟩ := zbs H
    have Fl := f_qLw_learn_b2_l (oc := 7) (by decide) zfu _ _ ht12
    replace F := zFr_t F Fl
    clear Fl
    cases H
    exact F
  · obtain ⟨t12, ht12, H⟩ := zbs H
    have Fl := f_qLw_learn_b2_l (oc := 22) (by decide) zfu _ _ ht12
    replace F := zFr_t F Fl
    clear Fl
    cases H
    exact F
theorem f_qLw_find_b47 {h0 : zK} {oc : Nat} {og : Nat} {s : Int32 × zK} {e : (Int32 × zK) ⊕ (zK)} (ho : (oc = 7 ∧ og = 19) ∨ (oc = 7 ∧ og = 34) ∨ (oc = 22 ∧ og = 19) ∨ (oc = 22 ∧ og = 34)) (F : zFr [166, 167, 176, 177, 178, 179, 196, 197, 198, 199, 208, 209, 210, 211, 212, 213] h0 s.2) (H : qLw_find_b47 oc og s = some e) : match (generalizing := false) e with | .inl s' => zFr [166, 167, 176, 177, 178, 179, 196, 197, 198, 199, 208, 209, 210, 211, 212, 213] h0 s'.2 | .inr v => zFr [166, 167, 176, 177, 178, 179, 196, 197, 198, 199, 208, 209, 210, 211, 212, 213] h0 v := by
  unfold qLw_find_b47 at H
  rcases ho with ⟨rfl, rfl⟩ | ⟨rfl, rfl⟩ | ⟨rfl, rfl⟩ | ⟨rfl, rfl⟩
  · by_cases c10 : 100 ≤ s.1
    · replace H := zif_t c10 H
      cases H
      exact F
    · replace H := zif_f c10 H
      obtain ⟨p11, hp11, H⟩ := zbs H
      obtain ⟨v13, hv13, H⟩ := zbs H
      replace F : zFr [166, 167, 176, 177, 178, 179, 196, 197, 198, 199, 208, 209, 210, 211, 212, 213] h0 v13 := by
        clear H
        by_cases c12 : p11 = 0
        · replace hv13 := zif_t c12 hv13
          cases hv13
          exact F
        · replace hv13 := zif_f c12 hv13
          obtain ⟨j14, hj14, hv13⟩ := zbs hv13
          obtain ⟨h15, eh15, hv13⟩ := zlets hv13
          replace F := zFr_s F eh15 (by decide)
          obtain ⟨h16, eh16, hv13⟩ := zlets hv13
          replace F := zFr_s F eh16 (by decide)
          cases hv13
          exact F
      cases H
      exact F
  · by_cases c10 : 100 ≤ s.1
    · replace H := zif_t c10 H
      cases H
      exact F
    · replace H := zif_f c10 H
      obtain ⟨p11, hp11, H⟩ := zbs H
      obtain ⟨v13, hv13, H⟩ := zbs H
      replace F : zFr [166, 167, 176, 177, 178, 179, 196, 197, 198, 199, 208, 209, 210, 211, 212, 213] h0 v13 := by
        clear H
        by_cases c12 : p11 = 0
        · replace hv13 := zif_t c12 hv13
          cases hv13
          exact F
        · replace hv13 := zif_f c12 hv13
          obtain ⟨j14, hj14, hv13⟩ := zbs hv13
          obtain ⟨h15, eh15, hv13⟩ := zlets hv13
          replace F := zFr_s F eh15 (by decide)
          obtain ⟨h16, eh16, hv13⟩ := zlets hv13
          replace F := zFr_s F eh16 (by decide)
          cases hv13
          exact F
      cases H
      exact F
  · by_cases c10 : 100 ≤ s.1
    · replace H := zif_t c10 H
      cases H
      exact F
    · replace H := zif_f c10 H
      obtain ⟨p11, hp11, H⟩ := zbs H
      obtain ⟨v13, hv13, H⟩ := zbs H
      replace F : zFr [166, 167, 176, 177, 178, 179, 196, 197, 198, 199, 208, 209, 210, 211, 212, 213] h0 v13 := by
        clear H
        by_cases c12 : p11 = 0
        · replace hv13 := zif_t c12 hv13
          cases hv13
          exact F
        · replace hv13 := zif_f c12 hv13
          obtain ⟨j14, hj14, hv13⟩ := zbs hv13
          obtain ⟨h15, eh15, hv13⟩ := zlets hv13
          replace F := zFr_s F eh15 (by decide)
          obtain ⟨h16, eh16, hv13⟩ := zlets hv13
          replace F := zFr_s F eh16 (by decide)
          cases hv13
          exact F
      cases H
      exact F
  · by_cases c10 : 100 ≤ s.1
    · replace H := zif_t c10 H
      cases H
      exact F
    · replace H := zif_f c10 H
      obtain ⟨p11, hp11, H⟩ := zbs H
      obtain ⟨v13, hv13, H⟩ := zbs H
      replace F : zFr [166, 167, 176, 177, 178, 179, 196, 197, 198, 199, 208, 209, 210, 211, 212, 213] h0 v13 := by
        clear H
        by_cases c12 : p11 = 0
        · replace hv13 := zif_t c12 hv13
          cases hv13
          exact F
        · replace hv13 := zif_f c12 hv13
          obtain ⟨j14, hj14, hv13⟩ := zbs hv13
          obtain ⟨h15, eh15, hv13⟩ := zlets hv13
          replace F := zFr_s F eh15 (by decide)
          obtain ⟨h16, eh16, hv13⟩ := zlets hv13
          replace F := zFr_s F eh16 (by decide)
          cases hv13
          exact F
      cases H
      exact F
theorem f_qLw_find_b47_l {oc : Nat} {og : Nat} (ho : (oc = 7 ∧ og = 19) ∨ (oc = 7 ∧ og = 34) ∨ (oc = 22 ∧ og = 19) ∨ (oc = 22 ∧ og = 34)) (n : Nat) (s : Int32 × zK) (t : zK) (H : zloop (qLw_find_b47 oc og) n s = some t) : zFr [166, 167, 176, 177, 178, 179, 196, 197, 198, 199, 208, 209, 210, 211, 212, 213] s.2 t := by
  exact zloop_P (P := fun s => zFr [166, 167, 176, 177, 178, 179, 196, 197, 198, 199, 208, 209, 210, 211, 212, 213] s.2 t) (b := qLw_find_b47 oc og) (t := t) (fun s s2 hb hk => zFr_t (f_qLw_find_b47 ho zFr_r hb) hk) (fun s hb => f_qLw_find_b47 ho zFr_r hb) n s H
theorem f_qLw_find {x1 : Int32} {oc : Nat} {og : Nat} {h : zK} {p : zK} (ho : (oc = 7 ∧ og = 19) ∨ (oc = 7 ∧ og = 34) ∨ (oc = 22 ∧ og = 19) ∨ (oc = 22 ∧ og = 34)) (H : qLw_find x1 oc og h = some p) : zFr [166, 167, 176, 177, 178, 179, 196, 197, 198, 199, 208, 209, 210, 211, 212, 213] h p := by
  unfold qLw_find at H
  obtain ⟨h0, F, e0⟩ : ∃ h0, zFr [166, 167, 176, 177, 178, 179, 196, 197, 198, 199, 208, 209, 210, 211, 212, 213] h0 h ∧ h0 = h := ⟨h, zFr_r, rfl⟩
  rw [← e0]
  clear e0
  rcases ho with ⟨rfl, rfl⟩ | ⟨rfl, rfl⟩ | ⟨rfl, rfl⟩ | ⟨rfl, rfl⟩
  · obtain ⟨h1, eh1, H⟩ := zlets H
    replace F := zFr_s F eh1 (by decide)
    by_cases c2 : x1 < 0
    · replace H := zif_t c2 H
      cases H
      exact F
    · replace H := zif_f c2 H
      by_cases c3 : x1 < 2
      · replace H := zif_t c3 H
        obtain ⟨h4, eh4, H⟩ := zlets H
        replace F := zFr_s F eh4 (by decide)
        obtain ⟨j5, hj5, H⟩ := zbs H
        obtain ⟨v7, hv7, H⟩ := zbs H
        replace F : zFr [166, 167, 176, 177, 178, 179, 196, 197, 198, 199, 208, 209, 210, 211, 212, 213] h0 v7 := by
          clear H
          by_cases c6 : ¬ (gI h4 213 j5) = 0
          · replace hv7 := zif_t c6 hv7
            cases hv7
            exact F
          · replace hv7 := zif_f c6 hv7
            obtain ⟨p8, hp8, hv7⟩ := zbs hv7
            replace F := zFr_w F (f_qLw_learn (by decide) hp8) (by decide)
            obtain ⟨h9, eh9, hv7⟩ := zlets hv7
            replace F := zFr_s F eh9 (by decide)
            cases hv7
            exact F
        obtain ⟨t17, ht17, H⟩ := zbs H
        have Fl := f_qLw_find_b47_l (oc := 7) (og := 19) (by decide) zfu _ _ ht17
        replace F := zFr_t F Fl
        clear Fl
        cases H
        exact F
      · replace H := zif_f c3 H
        cases H
        exact F
  · obtain ⟨h1, eh1, H⟩ := zlets H
    replace F := zFr_s F eh1 (by decide)
    by_cases c2 : x1 < 0
    · replace H := zif_t c2 H
      cases H
      exact F
    · replace H := zif_f c2 H
      by_cases c3 : x1 < 2
      · replace H := zif_t c3 H
        obtain ⟨h4, eh4, H⟩ := zlets H
        replace F := zFr_s F eh4 (by decide)
        obtain ⟨j5, hj5, H⟩ := zbs H
        obtain ⟨v7, hv7, H⟩ := zbs H
        replace F : zFr [166, 167, 176, 177, 178, 179, 196, 197, 198, 199, 208, 209, 210, 211, 212, 213] h0 v7 := by
          clear H
          by_cases c6 : ¬ (gI h4 213 j5) = 0
          · replace hv7 := zif_t c6 hv7
            cases hv7
            exact F
          · replace hv7 := zif_f c6 hv7
            obtain ⟨p8, hp8, hv7⟩ := zbs hv7
            replace F := zFr_w F (f_qLw_learn (by decide) hp8) (by decide)
            obtain ⟨h9, eh9, hv7⟩ := zlets hv7
            replace F := zFr_s F eh9 (by decide)
            cases hv7
            exact F
        obtain ⟨t17, ht17, H⟩ := zbs H
        have Fl := f_qLw_find_b47_l (oc := 7) (og := 34) (by decide) zfu _ _ ht17
        replace F := zFr_t F Fl
        clear Fl
        cases H
        exact F
      · replace H := zif_f c3 H
        cases H
        exact F
  · obtain ⟨h1, eh1, H⟩ := zlets H
    replace F := zFr_s F eh1 (by decide)
    by_cases c2 : x1 < 0
    · replace H := zif_t c2 H
      cases H
      exact F
    · replace H := zif_f c2 H
      by_cases c3 : x1 < 2
      · replace H := zif_t c3 H
        obtain ⟨h4, eh4, H⟩ := zlets H
        replace F := zFr_s F eh4 (by decide)
        obtain ⟨j5, hj5, H⟩ := zbs H
        obtain ⟨v7, hv7, H⟩ := zbs H
        replace F : zFr [166, 167, 176, 177, 178, 179, 196, 197, 198, 199, 208, 209, 210, 211, 212, 213] h0 v7 := by
          clear H
          by_cases c6 : ¬ (gI h4 213 j5) = 0
          · replace hv7 := zif_t c6 hv7
            cases hv7
            exact F
          · replace hv7 := zif_f c6 hv7
            obtain ⟨p8, hp8, hv7⟩ := zbs hv7
            replace F := zFr_w F (f_qLw_learn (by decide) hp8) (by decide)
            obtain ⟨h9, eh9, hv7⟩ := zlets hv7
            replace F := zFr_s F eh9 (by decide)
            cases hv7
            exact F
        obtain ⟨t17, ht17, H⟩ := zbs H
        have Fl := f_qLw_find_b47_l (oc := 22) (og := 19) (by decide) zfu _ _ ht17
        replace F := zFr_t F Fl
        clear Fl
        cases H
        exact F
      · replace H := zif_f c3 H
        cases H
        exact F
  · obtain ⟨h1, eh1, H⟩ := zlets H
    replace F := zFr_s F eh1 (by decide)
    by_cases c2 : x1 < 0
    · replace H := zif_t c2 H
      cases H
      exact F
    · replace H := zif_f c2 H
      by_cases c3 : x1 < 2
      · replace H := zif_t c3 H
        obtain ⟨h4, eh4, H⟩ := zlets H
        replace F := zFr_s F eh4 (by decide)
        obtain ⟨j5, hj5, H⟩ := zbs H
        obtain ⟨v7, hv7, H⟩ := zbs H
        replace F : zFr [166, 167, 176, 177, 178, 179, 196, 197, 198, 199, 208, 209, 210, 211, 212, 213] h0 v7 := by
          clear H
          by_cases c6 : ¬ (gI h4 213 j5) = 0
          · replace hv7 := zif_t c6 hv7
            cases hv7
            exact F
          · replace hv7 := zif_f c6 hv7
            obtain ⟨p8, hp8, hv7⟩ := zbs hv7
            replace F := zFr_w F (f_qLw_learn (by decide) hp8) (by decide)
            obtain ⟨h9, eh9, hv7⟩ := zlets hv7
            replace F := zFr_s F eh9 (by decide)
            cases hv7
            exact F
        obtain ⟨t17, ht17, H⟩ := zbs H
        have Fl := f_qLw_find_b47_l (oc := 22) (og := 34) (by decide) zfu _ _ ht17
        replace F := zFr_t F Fl
        clear Fl
        cases H
        exact F
      · replace H := zif_f c3 H
        cases H
        exact F
theorem f_qLw_mostAlike_b2 {h0 : zK} {x1 : Int32} {s : Int32 × zK} {e : (Int32 × zK) ⊕ (zK)} (F : zFr [214] h0 s.2) (H : qLw_mostAlike_b2 x1 s = some e) : match (generalizing := false) e with | .inl s' => zFr [214] h0 s'.2 | .inr v => zFr [214] h0 v := by
  unfold qLw_mostAlike_b2 at H
  by_cases c1 : 7 < s.1
  · replace H := zif_t c1 H
    cases H
    exact F
  · replace H := zif_f c1 H
    obtain ⟨j2, hj2, H⟩ := zbs H
    obtain ⟨h3, eh3, H⟩ := zlets H
    replace F := zFr_s F eh3 (by decide)
    cases H
    exact F
theorem f_qLw_mostAlike_b2_l {x1 : Int32} (n : Nat) (s : Int32 × zK) (t : zK) (H : zloop (qLw_mostAlike_b2 x1) n s = some t) : zFr [214] s.2 t := by
  exact zloop_P (P := fun s => zFr [214] s.2 t) (b := qLw_mostAlike_b2 x1) (t := t) (fun s s2 hb hk => zFr_t (f_qLw_mostAlike_b2 zFr_r hb) hk) (fun s hb => f_qLw_mostAlike_b2 zFr_r hb) n s H
theorem f_qLw_mostAlike_b25 {h0 : zK} {x1 : Int32} {s : Int32 × Int32 × zK} {e : (Int32 × Int32 × zK) ⊕ (Int32 × zK)} (F : zFr [214] h0 s.2.2) (H : qLw_mostAlike_b25 x1 s = some e) : match (generalizing := false) e with | .inl s' => zFr [214] h0 s'.2.2 | .inr v => zFr [214] h0 v.2 := by
  unfold qLw_mostAlike_b25 at H
  by_cases c6 : (gI s.2.2 196 0) ≤ s.2.1
  · replace H := zif_t c6 H
    cases H
    exact F
  · replace H := zif_f c6 H
    obtain ⟨j7, hj7, H⟩ := zbs H
    obtain ⟨p8, hp8, H⟩ := zbs H
    obtain ⟨j9, hj9, H⟩ := zbs H
    obtain ⟨h10, eh10, H⟩ := zlets H
    replace F := zFr_s F eh10 (by decide)
    cases H
    exact F
theorem f_qLw_mostAlike_b25_l {x1 : Int32} (n : Nat) (s : Int32 × Int32 × zK) (t : Int32 × zK) (H : zloop (qLw_mostAlike_b25 x1) n s = some t) : zFr [214] s.2.2 t.2 := by
  exact zloop_P (P := fun s => zFr [214] s.2.2 t.2) (b := qLw_mostAlike_b25 x1) (t := t) (fun s s2 hb hk => zFr_t (f_qLw_mostAlike_b25 zFr_r hb) hk) (fun s hb => f_qLw_mostAlike_b25 zFr_r hb) n s H
theorem f_qLw_mostAlike {x1 : Int32} {h : zK} {p : Int32 × zK} (H : qLw_mostAlike x1 h = some p) : zFr [214] h p.2 := by
  unfold qLw_mostAlike at H
  obtain ⟨h0, F, e0⟩ : ∃ h0, zFr [214] h0 h ∧ h0 = h := ⟨h, zFr_r, rfl⟩
  rw [← e0]
  clear e0
  obtain ⟨t4, ht4, H⟩ := zbs H
  have Fl := f_qLw_mostAlike_b2_l zfu _ _ ht4
  replace F := zFr_t F Fl
  clear Fl
  obtain ⟨t11, ht11, H⟩ := zbs H
  have Fl := f_qLw_mostAlike_b25_l zfu _ _ ht11
  replace F := zFr_t F Fl
  clear Fl
  cases H
  exact F
theorem f_qLw_yearToAsk_b7 {h0 : zK} {s : Int32 × Int32 × Int32 × zK} {e : (Int32 × Int32 × Int32 × zK) ⊕ (Int32 × zK)} (F : zFr [214] h0 s.2.2.2) (H : qLw_yearToAsk_b7 s = some e) : match (generalizing := false) e with | .inl s' => zFr [214] h0 s'.2.2.2 | .inr v => zFr [214] h0 v.2 := by
  unfold qLw_yearToAsk_b7 at H
  by_cases c1 : (gI s.2.2.2 196 0) ≤ 0
  · replace H := zif_t c1 H
    cases H
    exact F
  · replace H := zif_f c1 H
    by_cases c2 : 20 < s.2.2.1
    · replace H := zif_t c2 H
      cases H
      exact F
    · replace H := zif_f c2 H
      obtain ⟨p3, hp3, H⟩ := zbs H
      replace F := zFr_w F (f_qLw_mostAlike hp3) (by decide)
      obtain ⟨v5, hv5, H⟩ := zlets H
      cases H
      exact F
theorem f_qLw_yearToAsk_b7_l (n : Nat) (s : Int32 × Int32 × Int32 × zK) (t : Int32 × zK) (H : zloop (qLw_yearToAsk_b7) n s = some t) : zFr [214] s.2.2.2 t.2 := by
  exact zloop_P (P := fun s => zFr [214] s.2.2.2 t.2) (b := qLw_yearToAsk_b7) (t := t) (fun s s2 hb hk => zFr_t (f_qLw_yearToAsk_b7 zFr_r hb) hk) (fun s hb => f_qLw_yearToAsk_b7 zFr_r hb) n s H
theorem f_qLw_yearToAsk  {h : zK} {p : Int32 × zK} (H : qLw_yearToAsk h = some p) : zFr [214] h p.2 := by
  unfold qLw_yearToAsk at H
  obtain ⟨h0, F, e0⟩ : ∃ h0, zFr [214] h0 h ∧ h0 = h := ⟨h, zFr_r, rfl⟩
  rw [← e0]
  clear e0
  obtain ⟨t6, ht6, H⟩ := zbs H
  have Fl := f_qLw_yearToAsk_b7_l zfu _ _ ht6
  replace F := zFr_t F Fl
  clear Fl
  cases H
  exact F
theorem f_qLa_forget  {h : zK} {p : zK} (H : qLa_forget h = some p) : zFr [184] h p := by
  unfold qLa_forget at H
  obtain ⟨h0, F, e0⟩ : ∃ h0, zFr [184] h0 h ∧ h0 = h := ⟨h, zFr_r, rfl⟩
  rw [← e0]
  clear e0
  obtain ⟨h1, eh1, H⟩ := zlets H
  replace F := zFr_s F eh1 (by decide)
  cases H
  exact F
theorem f_qTr_lay_b16 {h0 : zK} {oo : Nat} {x1 : Int32} {x2 : Int32} {s : Int32 × zK} {e : (Int32 × zK) ⊕ (zK)} (ho : oo = 180 ∨ oo = 186) (F : zFr [182, 183, 188, 189] h0 s.2) (H : qTr_lay_b16 oo x1 x2 s = some e) : match (generalizing := false) e with | .inl s' => zFr [182, 183, 188, 189] h0 s'.2 | .inr v => zFr [182, 183, 188, 189] h0 v := by
  unfold qTr_lay_b16 at H
  rcases ho with rfl | rfl
  · by_cases c4 : x1 ≤ s.1
    · replace H := zif_t c4 H
      cases H
      exact F
    · replace H := zif_f c4 H
      obtain ⟨j5, hj5, H⟩ := zbs H
      obtain ⟨v7, hv7, H⟩ := zbs H
      replace F : zFr [182, 183, 188, 189] h0 v7 := by
        clear H
        by_cases c6 : (gI s.2 180 2) < (zf_abs ((gI s.2 (180 + 3) j5) - x2))
        · replace hv7 := zif_t c6 hv7
          cases hv7
          exact F
        · replace hv7 := zif_f c6 hv7
          obtain ⟨j8, hj8, hv7⟩ := zbs hv7
          obtain ⟨h9, eh9, hv7⟩ := zlets hv7
          replace F := zFr_s F eh9 (by decide)
          obtain ⟨h10, eh10, hv7⟩ := zlets hv7
          replace F := zFr_s F eh10 (by decide)
          cases hv7
          exact F
      cases H
      exact F
  · by_cases c4 : x1 ≤ s.1
    · replace H := zif_t c4 H
      cases H
      exact F
    · replace H := zif_f c4 H
      obtain ⟨j5, hj5, H⟩ := zbs H
      obtain ⟨v7, hv7, H⟩ := zbs H
      replace F : zFr [182, 183, 188, 189] h0 v7 := by
        clear H
        by_cases c6 : (gI s.2 186 2) < (zf_abs ((gI s.2 (186 + 3) j5) - x2))
        · replace hv7 := zif_t c6 hv7
          cases hv7
          exact F
        · replace hv7 := zif_f c6 hv7
          obtain ⟨j8, hj8, hv7⟩ := zbs hv7
          obtain ⟨h9, eh9, hv7⟩ := zlets hv7
          replace F := zFr_s F eh9 (by decide)
          obtain ⟨h10, eh10, hv7⟩ := zlets hv7
          replace F := zFr_s F eh10 (by decide)
          cases hv7
          exact F
      cases H
      exact F
theorem f_qTr_lay_b16_l {oo : Nat} {x1 : Int32} {x2 : Int32} (ho : oo = 180 ∨ oo = 186) (n : Nat) (s : Int32 × zK) (t : zK) (H : zloop (qTr_lay_b16 oo x1 x2) n s = some t) : zFr [182, 183, 188, 189] s.2 t := by
  exact zloop_P (P := fun s => zFr [182, 183, 188, 189] s.2 t) (b := qTr_lay_b16 oo x1 x2) (t := t) (fun s s2 hb hk => zFr_t (f_qTr_lay_b16 ho zFr_r hb) hk) (fun s hb => f_qTr_lay_b16 ho zFr_r hb) n s H
theorem f_qTr_lay {oo : Nat} {x1 : Int32} {x2 : Int32} {h : zK} {p : zK} (ho : oo = 180 ∨ oo = 186) (H : qTr_lay oo x1 x2 h = some p) : zFr [182, 183, 188, 189] h p := by
  unfold qTr_lay at H
  obtain ⟨h0, F, e0⟩ : ∃ h0, zFr [182, 183, 188, 189] h0 h ∧ h0 = h := ⟨h, zFr_r, rfl⟩
  rw [← e0]
  clear e0
  rcases ho with rfl | rfl
  · obtain ⟨j1, hj1, H⟩ := zbs H
    obtain ⟨h2, eh2, H⟩ := zlets H
    replace F := zFr_s F eh2 (by decide)
    obtain ⟨h3, eh3, H⟩ := zlets H
    replace F := zFr_s F eh3 (by decide)
    obtain ⟨t11, ht11, H⟩ := zbs H
    have Fl := f_qTr_lay_b16_l (oo := 180) (by decide) zfu _ _ ht11
    replace F := zFr_t F Fl
    clear Fl
    cases H
    exact F
  · obtain ⟨j1, hj1, H⟩ := zbs H
    obtain ⟨h2, eh2, H⟩ := zlets H
    replace F := zFr_s F eh2 (by decide)
    obtain ⟨h3, eh3, H⟩ := zlets H
    replace F := zFr_s F eh3 (by decide)
    obtain ⟨t11, ht11, H⟩ := zbs H
    have Fl := f_qTr_lay_b16_l (oo := 186) (by decide) zfu _ _ ht11
    replace F := zFr_t F Fl
    clear Fl
    cases H
    exact F
theorem f_qTr_layOut_b2 {h0 : zK} {oo : Nat} {s : Int32 × zK} {e : (Int32 × zK) ⊕ (zK)} (ho : oo = 180 ∨ oo = 186) (F : zFr [182, 183, 188, 189] h0 s.2) (H : qTr_layOut_b2 oo s = some e) : match (generalizing := false) e with | .inl s' => zFr [182, 183, 188, 189] h0 s'.2 | .inr v => zFr [182, 183, 188, 189] h0 v := by
  unfold qTr_layOut_b2 at H
  rcases ho with rfl | rfl
  · by_cases c1 : (gI s.2 180 0) ≤ s.1
    · replace H := zif_t c1 H
      cases H
      exact F
    · replace H := zif_f c1 H
      obtain ⟨j2, hj2, H⟩ := zbs H
      obtain ⟨p3, hp3, H⟩ := zbs H
      replace F := zFr_w F (f_qTr_lay (by decide) hp3) (by decide)
      cases H
      exact F
  · by_cases c1 : (gI s.2 186 0) ≤ s.1
    · replace H := zif_t c1 H
      cases H
      exact F
    · replace H := zif_f c1 H
      obtain ⟨j2, hj2, H⟩ := zbs H
      obtain ⟨p3, hp3, H⟩ := zbs H
      replace F := zFr_w F (f_qTr_lay (by decide) hp3) (by decide)
      cases H
      exact F
theorem f_qTr_layOut_b2_l {oo : Nat} (ho : oo = 180 ∨ oo = 186) (n : Nat) (s : Int32 × zK) (t : zK) (H : zloop (qTr_layOut_b2 oo) n s = some t) : zFr [182, 183, 188, 189] s.2 t := by
  exact zloop_P (P := fun s => zFr [182, 183, 188, 189] s.2 t) (b := qTr_layOut_b2 oo) (t := t) (fun s s2 hb hk => zFr_t (f_qTr_layOut_b2 ho zFr_r hb) hk) (fun s hb => f_qTr_layOut_b2 ho zFr_r hb) n s H
theorem f_qTr_layOut {oo : Nat} {h : zK} {p : zK} (ho : oo = 180 ∨ oo = 186) (H : qTr_layOut oo h = some p) : zFr [182, 183, 188, 189] h p := by
  unfold qTr_layOut at H
  obtain ⟨h0, F, e0⟩ : ∃ h0, zFr [182, 183, 188, 189] h0 h ∧ h0 = h := ⟨h, zFr_r, rfl⟩
  rw [← e0]
  clear e0
  rcases ho with rfl | rfl
  · obtain ⟨t4, ht4, H⟩ := zbs H
    have Fl := f_qTr_layOut_b2_l (oo := 180) (by decide) zfu _ _ ht4
    replace F := zFr_t F Fl
    clear Fl
    cases H
    exact F
  · obtain ⟨t4, ht4, H⟩ := zbs H
    have Fl := f_qTr_layOut_b2_l (oo := 186) (by decide) zfu _ _ ht4
    replace F := zFr_t F Fl
    clear Fl
    cases H
    exact F
theorem f_qTr_lookAt_b18 {h0 : zK} {oc : Nat} {oo : Nat} {s : Int32 × zK} {e : (Int32 × zK) ⊕ (zK)} (ho : (oc = 7 ∧ oo = 180) ∨ (oc = 22 ∧ oo = 180) ∨ (oc = 7 ∧ oo = 186) ∨ (oc = 22 ∧ oo = 186)) (F : zFr [180, 181, 182, 183, 186, 187, 188, 189] h0 s.2) (H : qTr_lookAt_b18 oc oo s = some e) : match (generalizing := false) e with | .inl s' => zFr [180, 181, 182, 183, 186, 187, 188, 189] h0 s'.2 | .inr v => zFr [180, 181, 182, 183, 186, 187, 188, 189] h0 v := by
  unfold qTr_lookAt_b18 at H
  rcases ho with ⟨rfl, rfl⟩ | ⟨rfl, rfl⟩ | ⟨rfl, rfl⟩ | ⟨rfl, rfl⟩
  · by_cases c3 : (gI s.2 180 0) ≤ s.1
    · replace H := zif_t c3 H
      cases H
      exact F
    · replace H := zif_f c3 H
      obtain ⟨p4, hp4, H⟩ := zbs H
      obtain ⟨j5, hj5, H⟩ := zbs H
      obtain ⟨h6, eh6, H⟩ := zlets H
      replace F := zFr_s F eh6 (by decide)
      obtain ⟨h7, eh7, H⟩ := zlets H
      replace F := zFr_s F eh7 (by decide)
      cases H
      exact F
  · by_cases c3 : (gI s.2 180 0) ≤ s.1
    · replace H := zif_t c3 H
      cases H
      exact F
    · replace H := zif_f c3 H
      obtain ⟨p4, hp4, H⟩ := zbs H
      obtain ⟨j5, hj5, H⟩ := zbs H
      obtain ⟨h6, eh6, H⟩ := zlets H
      replace F := zFr_s F eh6 (by decide)
      obtain ⟨h7, eh7, H⟩ := zlets H
      replace F := zFr_s F eh7 (by decide)
      cases H
      exact F
  · by_cases c3 : (gI s.2 186 0) ≤ s.1
    · replace H := zif_t c3 H
      cases H
      exact F
    · replace H := zif_f c3 H
      obtain ⟨p4, hp4, H⟩ := zbs H
      obtain ⟨j5, hj5, H⟩ := zbs H
      obtain ⟨h6, eh6, H⟩ := zlets H
      replace F := zFr_s F eh6 (by decide)
      obtain ⟨h7, eh7, H⟩ := zlets H
      replace F := zFr_s F eh7 (by decide)
      cases H
      exact F
  · by_cases c3 : (gI s.2 186 0) ≤ s.1
    · replace H := zif_t c3 H
      cases H
      exact F
    · replace H := zif_f c3 H
      obtain ⟨p4, hp4, H⟩ := zbs H
      obtain ⟨j5, hj5, H⟩ := zbs H
      obtain ⟨h6, eh6, H⟩ := zlets H
      replace F := zFr_s F eh6 (by decide)
      obtain ⟨h7, eh7, H⟩ := zlets H
      replace F := zFr_s F eh7 (by decide)
      cases H
      exact F
theorem f_qTr_lookAt_b18_l {oc : Nat} {oo : Nat} (ho : (oc = 7 ∧ oo = 180) ∨ (oc = 22 ∧ oo = 180) ∨ (oc = 7 ∧ oo = 186) ∨ (oc = 22 ∧ oo = 186)) (n : Nat) (s : Int32 × zK) (t : zK) (H : zloop (qTr_lookAt_b18 oc oo) n s = some t) : zFr [180, 181, 182, 183, 186, 187, 188, 189] s.2 t := by
  exact zloop_P (P := fun s => zFr [180, 181, 182, 183, 186, 187, 188, 189] s.2 t) (b := qTr_lookAt_b18 oc oo) (t := t) (fun s s2 hb hk => zFr_t (f_qTr_lookAt_b18 ho zFr_r hb) hk) (fun s hb => f_qTr_lookAt_b18 ho zFr_r hb) n s H
theorem f_qTr_lookAt {oo : Nat} {oc : Nat} {h : zK} {p : zK} (ho : (oc = 7 ∧ oo = 180) ∨ (oc = 22 ∧ oo = 180) ∨ (oc = 7 ∧ oo = 186) ∨ (oc = 22 ∧ oo = 186)) (H : qTr_lookAt oo oc h = some p) : zFr [180, 181, 182, 183, 186, 187, 188, 189] h p := by
  unfold qTr_lookAt at H
  obtain ⟨h0, F, e0⟩ : ∃ h0, zFr [180, 181, 182, 183, 186, 187, 188, 189] h0 h ∧ h0 = h := ⟨h, zFr_r, rfl⟩
  rw [← e0]
  clear e0
  rcases ho with ⟨rfl, rfl⟩ | ⟨rfl, rfl⟩ | ⟨rfl, rfl⟩ | ⟨rfl, rfl⟩
  · obtain ⟨h1, eh1, H⟩ := zlets H
    replace F := zFr_s F eh1 (by decide)
    obtain ⟨h2, eh2, H⟩ := zlets H
    replace F := zFr_s F eh2 (by decide)
    obtain ⟨t8, ht8, H⟩ := zbs H
    have Fl := f_qTr_lookAt_b18_l (oc := 7) (oo := 180) (by decide) zfu _ _ ht8
    replace F := zFr_t F Fl
    clear Fl
    obtain ⟨p10, hp10, H⟩ := zbs H
    replace F := zFr_w F (f_qTr_layOut (by decide) hp10) (by decide)
    cases H
    exact F
  · obtain ⟨h1, eh1, H⟩ := zlets H
    replace F := zFr_s F eh1 (by decide)
    obtain ⟨h2, eh2, H⟩ := zlets H
    replace F := zFr_s F eh2 (by decide)
    obtain ⟨t8, ht8, H⟩ := zbs H
    have Fl := f_qTr_lookAt_b18_l (oc := 22) (oo := 180) (by decide) zfu _ _ ht8
    replace F := zFr_t F Fl
    clear Fl
    obtain ⟨p10, hp10, H⟩ := zbs H
    replace F := zFr_w F (f_qTr_layOut (by decide) hp10) (by decide)
    cases H
    exact F
  · obtain ⟨h1, eh1, H⟩ := zlets H
    replace F := zFr_s F eh1 (by decide)
    obtain ⟨h2, eh2, H⟩ := zlets H
    replace F := zFr_s F eh2 (by decide)
    obtain ⟨t8, ht8, H⟩ := zbs H
    have Fl := f_qTr_lookAt_b18_l (oc := 7) (oo := 186) (by decide) zfu _ _ ht8
    replace F := zFr_t F Fl
    clear Fl
    obtain ⟨p10, hp10, H⟩ := zbs H
    replace F := zFr_w F (f_qTr_layOut (by decide) hp10) (by decide)
    cases H
    exact F
  · obtain ⟨h1, eh1, H⟩ := zlets H
    replace F := zFr_s F eh1 (by decide)
    obtain ⟨h2, eh2, H⟩ := zlets H
    replace F := zFr_s F eh2 (by decide)
    obtain ⟨t8, ht8, H⟩ := zbs H
    have Fl := f_qTr_lookAt_b18_l (oc := 22) (oo := 186) (by decide) zfu _ _ ht8
    replace F := zFr_t F Fl
    clear Fl
    obtain ⟨p10, hp10, H⟩ := zbs H
    replace F := zFr_w F (f_qTr_layOut (by decide) hp10) (by decide)
    cases H
    exact F
theorem f_qTr_takeUp_b9 {h0 : zK} {oo : Nat} {x1 : Int32} {s : Int32 × zK} {e : (Int32 × zK) ⊕ (zK)} (ho : oo = 180 ∨ oo = 186) (F : zFr [182, 188] h0 s.2) (H : qTr_takeUp_b9 oo x1 s = some e) : match (generalizing := false) e with | .inl s' => zFr [182, 188] h0 s'.2 | .inr v => zFr [182, 188] h0 v := by
  unfold qTr_takeUp_b9 at H
  rcases ho with rfl | rfl
  · by_cases c3 : x1 ≤ s.1
    · replace H := zif_t c3 H
      cases H
      exact F
    · replace H := zif_f c3 H
      obtain ⟨j4, hj4, H⟩ := zbs H
      obtain ⟨h5, eh5, H⟩ := zlets H
      replace F := zFr_s F eh5 (by decide)
      cases H
      exact F
  · by_cases c3 : x1 ≤ s.1
    · replace H := zif_t c3 H
      cases H
      exact F
    · replace H := zif_f c3 H
      obtain ⟨j4, hj4, H⟩ := zbs H
      obtain ⟨h5, eh5, H⟩ := zlets H
      replace F := zFr_s F eh5 (by decide)
      cases H
      exact F
theorem f_qTr_takeUp_b9_l {oo : Nat} {x1 : Int32} (ho : oo = 180 ∨ oo = 186) (n : Nat) (s : Int32 × zK) (t : zK) (H : zloop (qTr_takeUp_b9 oo x1) n s = some t) : zFr [182, 188] s.2 t := by
  exact zloop_P (P := fun s => zFr [182, 188] s.2 t) (b := qTr_takeUp_b9 oo x1) (t := t) (fun s s2 hb hk => zFr_t (f_qTr_takeUp_b9 ho zFr_r hb) hk) (fun s hb => f_qTr_takeUp_b9 ho zFr_r hb) n s H
theorem f_qTr_takeUp {oo : Nat} {x1 : Int32} {h : zK} {p : zK} (ho : oo = 180 ∨ oo = 186) (H : qTr_takeUp oo x1 h = some p) : zFr [182, 188] h p := by
  unfold qTr_takeUp at H
  obtain ⟨h0, F, e0⟩ : ∃ h0, zFr [182, 188] h0 h ∧ h0 = h := ⟨h, zFr_r, rfl⟩
  rw [← e0]
  clear e0
  rcases ho with rfl | rfl
  · obtain ⟨j1, hj1, H⟩ := zbs H
    obtain ⟨h2, eh2, H⟩ := zlets H
    replace F := zFr_s F eh2 (by decide)
    obtain ⟨t6, ht6, H⟩ := zbs H
    have Fl := f_qTr_takeUp_b9_l (oo := 180) (by decide) zfu _ _ ht6
    replace F := zFr_t F Fl
    clear Fl
    cases H
    exact F
  · obtain ⟨j1, hj1, H⟩ := zbs H
    obtain ⟨h2, eh2, H⟩ := zlets H
    replace F := zFr_s F eh2 (by decide)
    obtain ⟨t6, ht6, H⟩ := zbs H
    have Fl := f_qTr_takeUp_b9_l (oo := 186) (by decide) zfu _ _ ht6
    replace F := zFr_t F Fl
    clear Fl
    cases H
    exact F
theorem f_qLa_sortPlaces_b12 {h0 : zK} {oc : Nat} {x2 : Int32} {s : Int32 × zK} {e : (Int32 × zK) ⊕ (Int32 × zK)} (ho : oc = 7 ∨ oc = 22) (F : zFr [190] h0 s.2) (H : qLa_sortPlaces_b12 oc x2 s = some e) : match (generalizing := false) e with | .inl s' => zFr [190] h0 s'.2 | .inr v => zFr [190] h0 v.2 := by
  unfold qLa_sortPlaces_b12 at H
  rcases ho with rfl | rfl
  · by_cases c2 : s.1 ≤ 0
    · replace H := zif_t c2 H
      cases H
      exact F
    · replace H := zif_f c2 H
      obtain ⟨j3, hj3, H⟩ := zbs H
      obtain ⟨j4, hj4, H⟩ := zbs H
      by_cases c5 : (gI s.2 190 j3) ≤ (gI s.2 (7 + 6) j4)
      · replace H := zif_t c5 H
        cases H
        exact F
      · replace H := zif_f c5 H
        obtain ⟨j6, hj6, H⟩ := zbs H
        obtain ⟨h7, eh7, H⟩ := zlets H
        replace F := zFr_s F eh7 (by decide)
        cases H
        exact F
  · by_cases c2 : s.1 ≤ 0
    · replace H := zif_t c2 H
      cases H
      exact F
    · replace H := zif_f c2 H
      obtain ⟨j3, hj3, H⟩ := zbs H
      obtain ⟨j4, hj4, H⟩ := zbs H
      by_cases c5 : (gI s.2 190 j3) ≤ (gI s.2 (22 + 6) j4)
      · replace H := zif_t c5 H
        cases H
        exact F
      · replace H := zif_f c5 H
        obtain ⟨j6, hj6, H⟩ := zbs H
        obtain ⟨h7, eh7, H⟩ := zlets H
        replace F := zFr_s F eh7 (by decide)
        cases H
        exact F
theorem f_qLa_sortPlaces_b12_l {oc : Nat} {x2 : Int32} (ho : oc = 7 ∨ oc = 22) (n : Nat) (s : Int32 × zK) (t : Int32 × zK) (H : zloop (qLa_sortPlaces_b12 oc x2) n s = some t) : zFr [190] s.2 t.2 := by
  exact zloop_P (P := fun s => zFr [190] s.2 t.2) (b := qLa_sortPlaces_b12 oc x2) (t := t) (fun s s2 hb hk => zFr_t (f_qLa_sortPlaces_b12 ho zFr_r hb) hk) (fun s hb => f_qLa_sortPlaces_b12 ho zFr_r hb) n s H
theorem f_qLa_sortPlaces_b2 {h0 : zK} {oc : Nat} {s : Int32 × zK} {e : (Int32 × zK) ⊕ (zK)} (ho : oc = 7 ∨ oc = 22) (F : zFr [190] h0 s.2) (H : qLa_sortPlaces_b2 oc s = some e) : match (generalizing := false) e with | .inl s' => zFr [190] h0 s'.2 | .inr v => zFr [190] h0 v := by
  unfold qLa_sortPlaces_b2 at H
  rcases ho with rfl | rfl
  · by_cases c1 : (gI s.2 7 2) ≤ s.1
    · replace H := zif_t c1 H
      cases H
      exact F
    · replace H := zif_f c1 H
      obtain ⟨t8, ht8, H⟩ := zbs H
      have Fl := f_qLa_sortPlaces_b12_l (oc := 7) (by decide) zfu _ _ ht8
      replace F := zFr_t F Fl
      clear Fl
      obtain ⟨j10, hj10, H⟩ := zbs H
      obtain ⟨j11, hj11, H⟩ := zbs H
      obtain ⟨h12, eh12, H⟩ := zlets H
      replace F := zFr_s F eh12 (by decide)
      cases H
      exact F
  · by_cases c1 : (gI s.2 22 2) ≤ s.1
    · replace H := zif_t c1 H
      cases H
      exact F
    · replace H := zif_f c1 H
      obtain ⟨t8, ht8, H⟩ := zbs H
      have Fl := f_qLa_sortPlaces_b12_l (oc := 22) (by decide) zfu _ _ ht8
      replace F := zFr_t F Fl
      clear Fl
      obtain ⟨j10, hj10, H⟩ := zbs H
      obtain ⟨j11, hj11, H⟩ := zbs H
      obtain ⟨h12, eh12, H⟩ := zlets H
      replace F := zFr_s F eh12 (by decide)
      cases H
      exact F
theorem f_qLa_sortPlaces_b2_l {oc : Nat} (ho : oc = 7 ∨ oc = 22) (n : Nat) (s : Int32 × zK) (t : zK) (H : zloop (qLa_sortPlaces_b2 oc) n s = some t) : zFr [190] s.2 t := by
  exact zloop_P (P := fun s => zFr [190] s.2 t) (b := qLa_sortPlaces_b2 oc) (t := t) (fun s s2 hb hk => zFr_t (f_qLa_sortPlaces_b2 ho zFr_r hb) hk) (fun s hb => f_qLa_sortPlaces_b2 ho zFr_r hb) n s H
theorem f_qLa_sortPlaces {oc : Nat} {h : zK} {p : zK} (ho : oc = 7 ∨ oc = 22) (H : qLa_sortPlaces oc h = some p) : zFr [190] h p := by
  unfold qLa_sortPlaces at H
  obtain ⟨h0, F, e0⟩ : ∃ h0, zFr [190] h0 h ∧ h0 = h := ⟨h, zFr_r, rfl⟩
  rw [← e0]
  clear e0
  rcases ho with rfl | rfl
  · obtain ⟨t13, ht13, H⟩ := zbs H
    have Fl := f_qLa_sortPlaces_b2_l (oc := 7) (by decide) zfu _ _ ht13
    replace F := zFr_t F Fl
    clear Fl
    cases H
    exact F
  · obtain ⟨t13, ht13, H⟩ := zbs H
    have Fl := f_qLa_sortPlaces_b2_l (oc := 22) (by decide) zfu _ _ ht13
    replace F := zFr_t F Fl
    clear Fl
    cases H
    exact F
theorem f_qLa_findTwins_b7 {h0 : zK} {oc : Nat} {s : Int32 × zK} {e : (Int32 × zK) ⊕ (zK)} (ho : oc = 7 ∨ oc = 22) (F : zFr [184] h0 s.2) (H : qLa_findTwins_b7 oc s = some e) : match (generalizing := false) e with | .inl s' => zFr [184] h0 s'.2 | .inr v => zFr [184] h0 v := by
  unfold qLa_findTwins_b7 at H
  rcases ho with rfl | rfl
  · by_cases c2 : (gI s.2 7 2) ≤ s.1
    · replace H := zif_t c2 H
      cases H
      exact F
    · replace H := zif_f c2 H
      obtain ⟨t14, ht14, H⟩ := zbs H
      obtain ⟨v17, hv17, H⟩ := zlets H
      obtain ⟨h18, eh18, H⟩ := zlets H
      replace F := zFr_s F eh18 (by decide)
      cases H
      exact F
  · by_cases c2 : (gI s.2 22 2) ≤ s.1
    · replace H := zif_t c2 H
      cases H
      exact F
    · replace H := zif_f c2 H
      obtain ⟨t14, ht14, H⟩ := zbs H
      obtain ⟨v17, hv17, H⟩ := zlets H
      obtain ⟨h18, eh18, H⟩ := zlets H
      replace F := zFr_s F eh18 (by decide)
      cases H
      exact F
theorem f_qLa_findTwins_b7_l {oc : Nat} (ho : oc = 7 ∨ oc = 22) (n : Nat) (s : Int32 × zK) (t : zK) (H : zloop (qLa_findTwins_b7 oc) n s = some t) : zFr [184] s.2 t := by
  exact zloop_P (P := fun s => zFr [184] s.2 t) (b := qLa_findTwins_b7 oc) (t := t) (fun s s2 hb hk => zFr_t (f_qLa_findTwins_b7 ho zFr_r hb) hk) (fun s hb => f_qLa_findTwins_b7 ho zFr_r hb) n s H
theorem f_qLa_findTwins {oc : Nat} {h : zK} {p : zK} (ho : oc = 7 ∨ oc = 22) (H : qLa_findTwins oc h = some p) : zFr [184] h p := by
  unfold qLa_findTwins at H
  obtain ⟨h0, F, e0⟩ : ∃ h0, zFr [184] h0 h ∧ h0 = h := ⟨h, zFr_r, rfl⟩
  rw [← e0]
  clear e0
  rcases ho with rfl | rfl
  · obtain ⟨h1, eh1, H⟩ := zlets H
    replace F := zFr_s F eh1 (by decide)
    obtain ⟨t19, ht19, H⟩ := zbs H
    have Fl := f_qLa_findTwins_b7_l (oc := 7) (by decide) zfu _ _ ht19
    replace F := zFr_t F Fl
    clear Fl
    cases H
    exact F
  · obtain ⟨h1, eh1, H⟩ := zlets H
    replace F := zFr_s F eh1 (by decide)
    obtain ⟨t19, ht19, H⟩ := zbs H
    have Fl := f_qLa_findTwins_b7_l (oc := 22) (by decide) zfu _ _ ht19
    replace F := zFr_t F Fl
    clear Fl
    cases H
    exact F
theorem f_qLa_keep_b7 {h0 : zK} {s : Int32 × zK} {e : (Int32 × zK) ⊕ (zK)} (F : zFr [184, 185] h0 s.2) (H : qLa_keep_b7 s = some e) : match (generalizing := false) e with | .inl s' => zFr [184, 185] h0 s'.2 | .inr v => zFr [184, 185] h0 v := by
  unfold qLa_keep_b7 at H
  by_cases c2 : (gI s.2 186 0) ≤ s.1
  · replace H := zif_t c2 H
    cases H
    exact F
  · replace H := zif_f c2 H
    obtain ⟨j3, hj3, H⟩ := zbs H
    obtain ⟨j4, hj4, H⟩ := zbs H
    obtain ⟨h5, eh5, H⟩ := zlets H
    replace F := zFr_s F eh5 (by decide)
    cases H
    exact F
theorem f_qLa_keep_b7_l (n : Nat) (s : Int32 × zK) (t : zK) (H : zloop (qLa_keep_b7) n s = some t) : zFr [184, 185] s.2 t := by
  exact zloop_P (P := fun s => zFr [184, 185] s.2 t) (b := qLa_keep_b7) (t := t) (fun s s2 hb hk => zFr_t (f_qLa_keep_b7 zFr_r hb) hk) (fun s hb => f_qLa_keep_b7 zFr_r hb) n s H
theorem f_qLa_keep {x1 : Int32} {h : zK} {p : zK} (H : qLa_keep x1 h = some p) : zFr [184, 185] h p := by
  unfold qLa_keep at H
  obtain ⟨h0, F, e0⟩ : ∃ h0, zFr [184, 185] h0 h ∧ h0 = h := ⟨h, zFr_r, rfl⟩
  rw [← e0]
  clear e0
  obtain ⟨h1, eh1, H⟩ := zlets H
  replace F := zFr_s F eh1 (by decide)
  obtain ⟨t6, ht6, H⟩ := zbs H
  have Fl := f_qLa_keep_b7_l zfu _ _ ht6
  replace F := zFr_t F Fl
  clear Fl
  cases H
  exact F
