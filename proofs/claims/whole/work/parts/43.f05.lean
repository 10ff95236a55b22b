theorem f_qM_findDuel_b11 {h0 : zK} {x1 : Int32} {x2 : Int32} {x3 : Int32} {s : Int32 × Int32 × zK} {e : (Int32 × Int32 × zK) ⊕ (Int32 × zK)} (F : zFr [215] h0 s.2.2) (H : qM_findDuel_b11 x1 x2 x3 s = some e) : match (generalizing := false) e with | .inl s' => zFr [215] h0 s'.2.2 | .inr v => zFr [215] h0 v.2 := by
  unfold qM_findDuel_b11 at H
  by_cases c2 : 7 < s.2.1
  · replace H := zif_t c2 H
    cases H
    exact F
  · replace H := zif_f c2 H
    obtain ⟨p3, hp3, H⟩ := zbs H
    obtain ⟨v5, hv5, H⟩ := zbs H
    replace F : zFr [215] h0 v5.2 := by
      clear H
      by_cases c4 : p3 = 1000000
      · replace hv5 := zif_t c4 hv5
        cases hv5
        exact F
      · replace hv5 := zif_f c4 hv5
        by_cases c6 : (gI s.2.2 215 42) = (-1)
        · replace hv5 := zif_t c6 hv5
          obtain ⟨h7, eh7, hv5⟩ := zlets hv5
          replace F := zFr_s F eh7 (by decide)
          cases hv5
          exact F
        · replace hv5 := zif_f c6 hv5
          by_cases c8 : ¬ (x1 - x1 / 2 * 2) = 0
          · replace hv5 := zif_t c8 hv5
            by_cases c9 : s.1 ≤ p3
            · replace hv5 := zif_t c9 hv5
              cases hv5
              exact F
            · replace hv5 := zif_f c9 hv5
              obtain ⟨h10, eh10, hv5⟩ := zlets hv5
              replace F := zFr_s F eh10 (by decide)
              cases hv5
              exact F
          · replace hv5 := zif_f c8 hv5
            by_cases c11 : p3 ≤ s.1
            · replace hv5 := zif_t c11 hv5
              cases hv5
              exact F
            · replace hv5 := zif_f c11 hv5
              obtain ⟨h12, eh12, hv5⟩ := zlets hv5
              replace F := zFr_s F eh12 (by decide)
              cases hv5
              exact F
    cases H
    exact F
theorem f_qM_findDuel_b11_l {x1 : Int32} {x2 : Int32} {x3 : Int32} (n : Nat) (s : Int32 × Int32 × zK) (t : Int32 × zK) (H : zloop (qM_findDuel_b11 x1 x2 x3) n s = some t) : zFr [215] s.2.2 t.2 := by
  exact zloop_P (P := fun s => zFr [215] s.2.2 t.2) (b := qM_findDuel_b11 x1 x2 x3) (t := t) (fun s s2 hb hk => zFr_t (f_qM_findDuel_b11 zFr_r hb) hk) (fun s hb => f_qM_findDuel_b11 zFr_r hb) n s H
theorem f_qM_findDuel {x1 : Int32} {x2 : Int32} {x3 : Int32} {h : zK} {p : Int32 × zK} (H : qM_findDuel x1 x2 x3 h = some p) : zFr [215] h p.2 := by
  unfold qM_findDuel at H
  obtain ⟨h0, F, e0⟩ : ∃ h0, zFr [215] h0 h ∧ h0 = h := ⟨h, zFr_r, rfl⟩
  rw [← e0]
  clear e0
  obtain ⟨h1, eh1, H⟩ := zlets H
  replace F := zFr_s F eh1 (by decide)
  obtain ⟨t13, ht13, H⟩ := zbs H
  have Fl := f_qM_findDuel_b11_l zfu _ _ ht13
  replace F := zFr_t F Fl
  clear Fl
  cases H
  exact F
theorem f_qM_duel_b29 {h0 : zK} {x2 : Int32} {x3 : Int32} {s : Int32 × zK} {e : (Int32 × zK) ⊕ (zK)} (F : zFr [215, 226, 227, 228, 229, 233] h0 s.2) (H : qM_duel_b29 x2 x3 s = some e) : match (generalizing := false) e with | .inl s' => zFr [215, 226, 227, 228, 229, 233] h0 s'.2 | .inr v => zFr [215, 226, 227, 228, 229, 233] h0 v := by
  unfold qM_duel_b29 at H
  by_cases c5 : 1024 ≤ s.1
  · replace H := zif_t c5 H
    cases H
    exact F
  · replace H := zif_f c5 H
    obtain ⟨j6, hj6, H⟩ := zbs H
    obtain ⟨h7, eh7, H⟩ := zlets H
    replace F := zFr_s F eh7 (by decide)
    cases H
    exact F
theorem f_qM_duel_b29_l {x2 : Int32} {x3 : Int32} (n : Nat) (s : Int32 × zK) (t : zK) (H : zloop (qM_duel_b29 x2 x3) n s = some t) : zFr [215, 226, 227, 228, 229, 233] s.2 t := by
  exact zloop_P (P := fun s => zFr [215, 226, 227, 228, 229, 233] s.2 t) (b := qM_duel_b29 x2 x3) (t := t) (fun s s2 hb hk => zFr_t (f_qM_duel_b29 zFr_r hb) hk) (fun s hb => f_qM_duel_b29 zFr_r hb) n s H
theorem f_qM_duel_b70 {h0 : zK} {x2 : Int32} {x3 : Int32} {x4 : Int32} {s : Int32 × zK} {e : (Int32 × zK) ⊕ (zK)} (F : zFr [215, 226, 227, 228, 229, 233] h0 s.2) (H : qM_duel_b70 x2 x3 x4 s = some e) : match (generalizing := false) e with | .inl s' => zFr [215, 226, 227, 228, 229, 233] h0 s'.2 | .inr v => zFr [215, 226, 227, 228, 229, 233] h0 v := by
  unfold qM_duel_b70 at H
  by_cases c11 : 1024 ≤ s.1
  · replace H := zif_t c11 H
    cases H
    exact F
  · replace H := zif_f c11 H
    obtain ⟨p12, hp12, H⟩ := zbs H
    replace F := zFr_w F (f_qM_findDuel hp12) (by decide)
    obtain ⟨j13, hj13, H⟩ := zbs H
    obtain ⟨h14, eh14, H⟩ := zlets H
    replace F := zFr_s F eh14 (by decide)
    cases H
    exact F
theorem f_qM_duel_b70_l {x2 : Int32} {x3 : Int32} {x4 : Int32} (n : Nat) (s : Int32 × zK) (t : zK) (H : zloop (qM_duel_b70 x2 x3 x4) n s = some t) : zFr [215, 226, 227, 228, 229, 233] s.2 t := by
  exact zloop_P (P := fun s => zFr [215, 226, 227, 228, 229, 233] s.2 t) (b := qM_duel_b70 x2 x3 x4) (t := t) (fun s s2 hb hk => zFr_t (f_qM_duel_b70 zFr_r hb) hk) (fun s hb => f_qM_duel_b70 zFr_r hb) n s H
theorem f_qM_duel_b62 {h0 : zK} {x2 : Int32} {x3 : Int32} {s : Int32 × zK} {e : (Int32 × zK) ⊕ (zK)} (F : zFr [215, 226, 227, 228, 229, 233] h0 s.2) (H : qM_duel_b62 x2 x3 s = some e) : match (generalizing := false) e with | .inl s' => zFr [215, 226, 227, 228, 229, 233] h0 s'.2 | .inr v => zFr [215, 226, 227, 228, 229, 233] h0 v := by
  unfold qM_duel_b62 at H
  by_cases c10 : s.1 < 0
  · replace H := zif_t c10 H
    cases H
    exact F
  · replace H := zif_f c10 H
    obtain ⟨t15, ht15, H⟩ := zbs H
    have Fl := f_qM_duel_b70_l zfu _ _ ht15
    replace F := zFr_t F Fl
    clear Fl
    cases H
    exact F
theorem f_qM_duel_b62_l {x2 : Int32} {x3 : Int32} (n : Nat) (s : Int32 × zK) (t : zK) (H : zloop (qM_duel_b62 x2 x3) n s = some t) : zFr [215, 226, 227, 228, 229, 233] s.2 t := by
  exact zloop_P (P := fun s => zFr [215, 226, 227, 228, 229, 233] s.2 t) (b := qM_duel_b62 x2 x3) (t := t) (fun s s2 hb hk => zFr_t (f_qM_duel_b62 zFr_r hb) hk) (fun s hb => f_qM_duel_b62 zFr_r hb) n s H
theorem f_qM_duel {x1 : Int32} {x2 : Int32} {x3 : Int32} {h : zK} {p : Int32 × zK} (H : qM_duel x1 x2 x3 h = some p) : zFr [215, 226, 227, 228, 229, 233] h p.2 := by
  unfold qM_duel at H
  obtain ⟨h0, F, e0⟩ : ∃ h0, zFr [215, 226, 227, 228, 229, 233] h0 h ∧ h0 = h := ⟨h, zFr_r, rfl⟩
  rw [← e0]
  clear e0
  obtain ⟨h1, eh1, H⟩ := zlets H
  replace F := zFr_s F eh1 (by decide)
  by_cases c2 : (zf_in x2 0 5) = 0
  · replace H := zif_t c2 H
    cases H
    exact F
  · replace H := zif_f c2 H
    obtain ⟨p3, hp3, H⟩ := zbs H
    replace F := zFr_w F (f_qM_hand hp3) (by decide)
    by_cases c4 : ¬ p3.1 = 0
    · replace H := zif_t c4 H
      obtain ⟨t8, ht8, H⟩ := zbs H
      have Fl := f_qM_duel_b29_l zfu _ _ ht8
      replace F := zFr_t F Fl
      clear Fl
      obtain ⟨t17, ht17, H⟩ := zbs H
      have Fl := f_qM_duel_b62_l zfu _ _ ht17
      replace F := zFr_t F Fl
      clear Fl
      by_cases c19 : x3 = 0
      · replace H := zif_t c19 H
        cases H
        exact F
      · replace H := zif_f c19 H
        obtain ⟨h20, eh20, H⟩ := zlets H
        replace F := zFr_s F eh20 (by decide)
        obtain ⟨v22, hv22, H⟩ := zbs H
        replace F : zFr [215, 226, 227, 228, 229, 233] h0 v22 := by
          clear H
          by_cases c21 : x2 ≤ 0
          · replace hv22 := zif_t c21 hv22
            cases hv22
            exact F
          · replace hv22 := zif_f c21 hv22
            obtain ⟨p23, hp23, hv22⟩ := zbs hv22
            replace F := zFr_w F (f_qM_findDuel hp23) (by decide)
            cases hv22
            exact F
        cases H
        exact F
    · replace H := zif_f c4 H
      cases H
      exact F
theorem f_qM_hold {x1 : Int32} {x2 : Int32} {x3 : Int32} {x4 : Int32} {x5 : Int32} {h : zK} {p : Int64 × zK} (H : qM_hold x1 x2 x3 x4 x5 h = some p) : zFr [215, 226, 227, 228, 229] h p.2 := by
  unfold qM_hold at H
  obtain ⟨h0, F, e0⟩ : ∃ h0, zFr [215, 226, 227, 228, 229] h0 h ∧ h0 = h := ⟨h, zFr_r, rfl⟩
  rw [← e0]
  clear e0
  obtain ⟨h1, eh1, H⟩ := zlets H
  replace F := zFr_s F eh1 (by decide)
  by_cases c2 : (zf_in x2 0 10) = 0
  · replace H := zif_t c2 H
    cases H
    exact F
  · replace H := zif_f c2 H
    by_cases c3 : (zf_in x3 0 2) = 0
    · replace H := zif_t c3 H
      cases H
      exact F
    · replace H := zif_f c3 H
      by_cases c4 : (zf_in x4 0 7) = 0
      · replace H := zif_t c4 H
        cases H
        exact F
      · replace H := zif_f c4 H
        obtain ⟨p5, hp5, H⟩ := zbs H
        replace F := zFr_w F (f_qM_hand hp5) (by decide)
        by_cases c6 : ¬ p5.1 = 0
        · replace H := zif_t c6 H
          obtain ⟨p7, hp7, H⟩ := zbs H
          obtain ⟨p8, hp8, H⟩ := zbs H
          obtain ⟨t15, ht15, H⟩ := zbs H
          obtain ⟨p17, hp17, H⟩ := zbs H
          obtain ⟨p18, hp18, H⟩ := zbs H
          cases H
          exact F
        · replace H := zif_f c6 H
          cases H
          exact F
theorem f_qM_hasLog {x1 : Int32} {h : zK} {p : Int32 × zK} (H : qM_hasLog x1 h = some p) : zFr [215] h p.2 := by
  unfold qM_hasLog at H
  obtain ⟨h0, F, e0⟩ : ∃ h0, zFr [215] h0 h ∧ h0 = h := ⟨h, zFr_r, rfl⟩
  rw [← e0]
  clear e0
  obtain ⟨h1, eh1, H⟩ := zlets H
  replace F := zFr_s F eh1 (by decide)
  obtain ⟨p2, hp2, H⟩ := zbs H
  obtain ⟨c3, H⟩ := zifn H
  cases H
  exact F
theorem f_qM_fact {x1 : Int32} {x2 : Int32} {x3 : Int32} {h : zK} {p : Int32 × zK} (H : qM_fact x1 x2 x3 h = some p) : zFr [215] h p.2 := by
  unfold qM_fact at H
  obtain ⟨h0, F, e0⟩ : ∃ h0, zFr [215] h0 h ∧ h0 = h := ⟨h, zFr_r, rfl⟩
  rw [← e0]
  clear e0
  obtain ⟨h1, eh1, H⟩ := zlets H
  replace F := zFr_s F eh1 (by decide)
  obtain ⟨p2, hp2, H⟩ := zbs H
  replace F := zFr_w F (f_qM_hasLog hp2) (by decide)
  by_cases c3 : ¬ p2.1 = 0
  · replace H := zif_t c3 H
    by_cases c4 : ¬ x2 = (-1)
    · replace H := zif_t c4 H
      obtain ⟨p5, hp5, H⟩ := zbs H
      by_cases c6 : (zf_in x2 0 (p5 - 1)) = 0
      · replace H := zif_t c6 H
        cases H
        exact F
      · replace H := zif_f c6 H
        by_cases c7 : (zf_in x3 0 1) = 0
        · replace H := zif_t c7 H
          cases H
          exact F
        · replace H := zif_f c7 H
          obtain ⟨p8, hp8, H⟩ := zbs H
          cases H
          exact F
    · replace H := zif_f c4 H
      by_cases c9 : ¬ x3 = 0
      · replace H := zif_t c9 H
        cases H
        exact F
      · replace H := zif_f c9 H
        obtain ⟨p10, hp10, H⟩ := zbs H
        cases H
        exact F
  · replace H := zif_f c3 H
    cases H
    exact F
theorem f_qM_isFit_b22 {h0 : zK} {s : Int32 × zK} {e : (Int32 × zK) ⊕ (zK)} (F : zFr [215, 226, 227, 228, 229, 235] h0 s.2) (H : qM_isFit_b22 s = some e) : match (generalizing := false) e with | .inl s' => zFr [215, 226, 227, 228, 229, 235] h0 s'.2 | .inr v => zFr [215, 226, 227, 228, 229, 235] h0 v := by
  unfold qM_isFit_b22 at H
  by_cases c4 : 20 < s.1
  · replace H := zif_t c4 H
    cases H
    exact F
  · replace H := zif_f c4 H
    obtain ⟨p5, hp5, H⟩ := zbs H
    replace F := zFr_w F (f_qM_goesOn hp5) (by decide)
    obtain ⟨j6, hj6, H⟩ := zbs H
    obtain ⟨h7, eh7, H⟩ := zlets H
    replace F := zFr_s F eh7 (by decide)
    cases H
    exact F
theorem f_qM_isFit_b22_l (n : Nat) (s : Int32 × zK) (t : zK) (H : zloop (qM_isFit_b22) n s = some t) : zFr [215, 226, 227, 228, 229, 235] s.2 t := by
  exact zloop_P (P := fun s => zFr [215, 226, 227, 228, 229, 235] s.2 t) (b := qM_isFit_b22) (t := t) (fun s s2 hb hk => zFr_t (f_qM_isFit_b22 zFr_r hb) hk) (fun s hb => f_qM_isFit_b22 zFr_r hb) n s H
theorem f_qM_isFit {x1 : Int32} {h : zK} {p : Int32 × zK} (H : qM_isFit x1 h = some p) : zFr [215, 226, 227, 228, 229, 235] h p.2 := by
  unfold qM_isFit at H
  obtain ⟨h0, F, e0⟩ : ∃ h0, zFr [215, 226, 227, 228, 229, 235] h0 h ∧ h0 = h := ⟨h, zFr_r, rfl⟩
  rw [← e0]
  clear e0
  obtain ⟨h1, eh1, H⟩ := zlets H
  replace F := zFr_s F eh1 (by decide)
  obtain ⟨h2, eh2, H⟩ := zlets H
  replace F := zFr_s F eh2 (by decide)
  obtain ⟨p3, hp3, H⟩ := zbs H
  replace F := zFr_w F (f_qM_asTold hp3) (by decide)
  obtain ⟨t8, ht8, H⟩ := zbs H
  have Fl := f_qM_isFit_b22_l zfu _ _ ht8
  replace F := zFr_t F Fl
  clear Fl
  obtain ⟨t18, ht18, H⟩ := zbs H
  obtain ⟨c20, H⟩ := zifn H
  cases H
  exact F
theorem f_qM_layLog_b25 {h0 : zK} {s : Int32 × zK} {e : (Int32 × zK) ⊕ (zK)} (F : zFr [215, 226, 227, 228, 229, 234, 235] h0 s.2) (H : qM_layLog_b25 s = some e) : match (generalizing := false) e with | .inl s' => zFr [215, 226, 227, 228, 229, 234, 235] h0 s'.2 | .inr v => zFr [215, 226, 227, 228, 229, 234, 235] h0 v := by
  unfold qM_layLog_b25 at H
  by_cases c6 : 100 ≤ s.1
  · replace H := zif_t c6 H
    cases H
    exact F
  · replace H := zif_f c6 H
    obtain ⟨p7, hp7, H⟩ := zbs H
    replace F := zFr_w F (f_qM_isFit hp7) (by decide)
    obtain ⟨v9, hv9, H⟩ := zbs H
    replace F : zFr [215, 226, 227, 228, 229, 234, 235] h0 v9 := by
      clear H
      by_cases c8 : p7.1 = 0
      · replace hv9 := zif_t c8 hv9
        cases hv9
        exact F
      · replace hv9 := zif_f c8 hv9
        obtain ⟨j10, hj10, hv9⟩ := zbs hv9
        obtain ⟨h11, eh11, hv9⟩ := zlets hv9
        replace F := zFr_s F eh11 (by decide)
        obtain ⟨h12, eh12, hv9⟩ := zlets hv9
        replace F := zFr_s F eh12 (by decide)
        cases hv9
        exact F
    cases H
    exact F
theorem f_qM_layLog_b25_l (n : Nat) (s : Int32 × zK) (t : zK) (H : zloop (qM_layLog_b25) n s = some t) : zFr [215, 226, 227, 228, 229, 234, 235] s.2 t := by
  exact zloop_P (P := fun s => zFr [215, 226, 227, 228, 229, 234, 235] s.2 t) (b := qM_layLog_b25) (t := t) (fun s s2 hb hk => zFr_t (f_qM_layLog_b25 zFr_r hb) hk) (fun s hb => f_qM_layLog_b25 zFr_r hb) n s H
theorem f_qM_layLog {x1 : Int32} {x2 : Int32} {h : zK} {p : Int32 × zK} (H : qM_layLog x1 x2 h = some p) : zFr [215, 226, 227, 228, 229, 234, 235] h p.2 := by
  unfold qM_layLog at H
  obtain ⟨h0, F, e0⟩ : ∃ h0, zFr [215, 226, 227, 228, 229, 234, 235] h0 h ∧ h0 = h := ⟨h, zFr_r, rfl⟩
  rw [← e0]
  clear e0
  obtain ⟨p1, hp1, H⟩ := zbs H
  replace F := zFr_w F (f_qM_hasLog hp1) (by decide)
  by_cases c2 : p1.1 = 0
  · replace H := zif_t c2 H
    cases H
    exact F
  · replace H := zif_f c2 H
    obtain ⟨p3, hp3, H⟩ := zbs H
    replace F := zFr_w F (f_qM_hand hp3) (by decide)
    by_cases c4 : ¬ p3.1 = 0
    · replace H := zif_t c4 H
      obtain ⟨h5, eh5, H⟩ := zlets H
      replace F := zFr_s F eh5 (by decide)
      obtain ⟨t13, ht13, H⟩ := zbs H
      have Fl := f_qM_layLog_b25_l zfu _ _ ht13
      replace F := zFr_t F Fl
      clear Fl
      cases H
      exact F
    · replace H := zif_f c4 H
      cases H
      exact F
theorem f_qM_fits {x1 : Int32} {x2 : Int32} {x3 : Int32} {h : zK} {p : Int32 × zK} (H : qM_fits x1 x2 x3 h = some p) : zFr [215, 226, 227, 228, 229, 234, 235] h p.2 := by
  unfold qM_fits at H
  obtain ⟨h0, F, e0⟩ : ∃ h0, zFr [215, 226, 227, 228, 229, 234, 235] h0 h ∧ h0 = h := ⟨h, zFr_r, rfl⟩
  rw [← e0]
  clear e0
  obtain ⟨h1, eh1, H⟩ := zlets H
  replace F := zFr_s F eh1 (by decide)
  obtain ⟨p2, hp2, H⟩ := zbs H
  replace F := zFr_w F (f_qM_layLog hp2) (by decide)
  by_cases c3 : ¬ p2.1 = 0
  · replace H := zif_t c3 H
    by_cases c4 : x3 < 10
    · replace H := zif_t c4 H
      by_cases c14 : x3 = 0
      · replace H := zif_t c14 H
        cases H
        exact F
      replace H := zif_f c14 H
      by_cases c15 : x3 = 1
      · replace H := zif_t c15 H
        obtain ⟨v6, hv6, H⟩ := zlets H
        obtain ⟨p7, hp7, H⟩ := zbs H
        cases H
        exact F
      replace H := zif_f c15 H
      by_cases c16 : x3 = 2
      · replace H := zif_t c16 H
        obtain ⟨v9, hv9, H⟩ := zlets H
        obtain ⟨p10, hp10, H⟩ := zbs H
        cases H
        exact F
      replace H := zif_f c16 H
      by_cases c17 : x3 = 3
      · replace H := zif_t c17 H
        obtain ⟨p11, hp11, H⟩ := zbs H
        cases H
        exact F
      replace H := zif_f c17 H
      cases H
      exact F
    · replace H := zif_f c4 H
      by_cases c12 : (gI p2.2 215 46) ≤ (x3 - 10)
      · replace H := zif_t c12 H
        cases H
        exact F
      · replace H := zif_f c12 H
        obtain ⟨j13, hj13, H⟩ := zbs H
        cases H
        exact F
  · replace H := zif_f c3 H
    cases H
    exact F
theorem f_qM_draw {x1 : Int32} {h : zK} {p : Int32 × zK} (H : qM_draw x1 h = some p) : zFr [215] h p.2 := by
  unfold qM_draw at H
  obtain ⟨h0, F, e0⟩ : ∃ h0, zFr [215] h0 h ∧ h0 = h := ⟨h, zFr_r, rfl⟩
  rw [← e0]
  clear e0
  obtain ⟨h1, eh1, H⟩ := zlets H
  replace F := zFr_s F eh1 (by decide)
  obtain ⟨c2, H⟩ := zifn H
  cases H
  exact F
theorem f_qM_drawDeed  {h : zK} {p : zK} (H : qM_drawDeed h = some p) : zFr [215, 226, 227, 228, 229] h p := by
  unfold qM_drawDeed at H
  obtain ⟨h0, F, e0⟩ : ∃ h0, zFr [215, 226, 227, 228, 229] h0 h ∧ h0 = h := ⟨h, zFr_r, rfl⟩
  rw [← e0]
  clear e0
  obtain ⟨p1, hp1, H⟩ := zbs H
  replace F := zFr_w F (f_qM_draw hp1) (by decide)
  by_cases c2 : 4 ≤ p1.1
  · replace H := zif_t c2 H
    by_cases c3 : (gI p1.2 215 23) ≤ 0
    · replace H := zif_t c3 H
      cases H
      exact F
    · replace H := zif_f c3 H
      obtain ⟨p4, hp4, H⟩ := zbs H
      replace F := zFr_w F (f_qM_draw hp4) (by decide)
      obtain ⟨v6, hv6, H⟩ := zbs H
      replace F : zFr [215, 226, 227, 228, 229] h0 v6.2 := by
        clear H
        by_cases c5 : p1.1 ≤ 7
        · replace hv6 := zif_t c5 hv6
          cases hv6
          exact F
        · replace hv6 := zif_f c5 hv6
          obtain ⟨p7, hp7, hv6⟩ := zbs hv6
          replace F := zFr_w F (f_qM_draw hp7) (by decide)
          cases hv6
          exact F
      obtain ⟨v9, hv9, H⟩ := zlets H
      obtain ⟨p12, hp12, H⟩ := zbs H
      replace F := zFr_w F (f_qM_does hp12) (by decide)
      cases H
      exact F
  · replace H := zif_f c2 H
    obtain ⟨p13, hp13, H⟩ := zbs H
    replace F := zFr_w F (f_qM_does hp13) (by decide)
    cases H
    exact F
theorem f_qM_drawn_b33 {h0 : zK} {x3 : Int32} {x4 : Int32} {s : Int32 × zK} {e : (Int32 × zK) ⊕ (zK)} (F : zFr [215, 226, 227, 228, 229] h0 s.2) (H : qM_drawn_b33 x3 x4 s = some e) : match (generalizing := false) e with | .inl s' => zFr [215, 226, 227, 228, 229] h0 s'.2 | .inr v => zFr [215, 226, 227, 228, 229] h0 v := by
  unfold qM_drawn_b33 at H
  by_cases c6 : x3 ≤ s.1
  · replace H := zif_t c6 H
    cases H
    exact F
  · replace H := zif_f c6 H
    obtain ⟨p7, hp7, H⟩ := zbs H
    replace F := zFr_w F (f_qM_drawDeed hp7) (by decide)
    cases H
    exact F
theorem f_qM_drawn_b33_l {x3 : Int32} {x4 : Int32} (n : Nat) (s : Int32 × zK) (t : zK) (H : zloop (qM_drawn_b33 x3 x4) n s = some t) : zFr [215, 226, 227, 228, 229] s.2 t := by
  exact zloop_P (P := fun s => zFr [215, 226, 227, 228, 229] s.2 t) (b := qM_drawn_b33 x3 x4) (t := t) (fun s s2 hb hk => zFr_t (f_qM_drawn_b33 zFr_r hb) hk) (fun s hb => f_qM_drawn_b33 zFr_r hb) n s H
theorem f_qM_drawn {x1 : Int32} {x2 : Int32} {x3 : Int32} {x4 : Int32} {h : zK} {p : Int32 × zK} (H : qM_drawn x1 x2 x3 x4 h = some p) : zFr [215, 226, 227, 228, 229] h p.2 := by
  unfold qM_drawn at H
  obtain ⟨h0, F, e0⟩ : ∃ h0, zFr [215, 226, 227, 228, 229] h0 h ∧ h0 = h := ⟨h, zFr_r, rfl⟩
  rw [← e0]
  clear e0
  obtain ⟨h1, eh1, H⟩ := zlets H
  replace F := zFr_s F eh1 (by decide)
  by_cases c2 : (zf_in x3 0 60) = 0
  · replace H := zif_t c2 H
    cases H
    exact F
  · replace H := zif_f c2 H
    obtain ⟨p3, hp3, H⟩ := zbs H
    replace F := zFr_w F (f_qM_hand hp3) (by decide)
    by_cases c4 : ¬ p3.1 = 0
    · replace H := zif_t c4 H
      obtain ⟨h5, eh5, H⟩ := zlets H
      replace F := zFr_s F eh5 (by decide)
      obtain ⟨t8, ht8, H⟩ := zbs H
      have Fl := f_qM_drawn_b33_l zfu _ _ ht8
      replace F := zFr_t F Fl
      clear Fl
      obtain ⟨p10, hp10, H⟩ := zbs H
      cases H
      exact F
    · replace H := zif_f c4 H
      cases H
      exact F
theorem f_qM_ruin_b7 {h0 : zK} {x1 : Int32} {s : Int32 × Int32 × Int32 × zK} {e : (Int32 × Int32 × Int32 × zK) ⊕ (Int32 × Int32 × zK)} (F : zFr [215, 227] h0 s.2.2.2) (H : qM_ruin_b7 x1 s = some e) : match (generalizing := false) e with | .inl s' => zFr [215, 227] h0 s'.2.2.2 | .inr v => zFr [215, 227] h0 v.2.2 := by
  unfold qM_ruin_b7 at H
  by_cases c1 : (gI s.2.2.2 215 23) ≤ s.2.2.1
  · replace H := zif_t c1 H
    cases H
    exact F
  · replace H := zif_f c1 H
    obtain ⟨p2, hp2, H⟩ := zbs H
    replace F := zFr_w F (f_qM_trainOf hp2) (by decide)
    obtain ⟨p3, hp3, H⟩ := zbs H
    obtain ⟨v5, hv5, H⟩ := zlets H
    cases H
    exact F
theorem f_qM_ruin_b7_l {x1 : Int32} (n : Nat) (s : Int32 × Int32 × Int32 × zK) (t : Int32 × Int32 × zK) (H : zloop (qM_ruin_b7 x1) n s = some t) : zFr [215, 227] s.2.2.2 t.2.2 := by
  exact zloop_P (P := fun s => zFr [215, 227] s.2.2.2 t.2.2) (b := qM_ruin_b7 x1) (t := t) (fun s s2 hb hk => zFr_t (f_qM_ruin_b7 zFr_r hb) hk) (fun s hb => f_qM_ruin_b7 zFr_r hb) n s H
theorem f_qM_ruin {x1 : Int32} {h : zK} {p : Int32 × zK} (H : qM_ruin x1 h = some p) : zFr [215, 227] h p.2 := by
  unfold qM_ruin at H
  obtain ⟨h0, F, e0⟩ : ∃ h0, zFr [215, 227] h0 h ∧ h0 = h := ⟨h, zFr_r, rfl⟩
  rw [← e0]
  clear e0
  obtain ⟨t6, ht6, H⟩ := zbs H
  have Fl := f_qM_ruin_b7_l zfu _ _ ht6
  replace F := zFr_t F Fl
  clear Fl
  by_cases c8 : x1 = 0
  · replace H := zif_t c8 H
    cases H
    exact F
  · replace H := zif_f c8 H
    cases H
    exact F
theorem f_qM_isCut_b2 {h0 : zK} {x1 : Int32} {s : Int32 × zK} {e : (Int32 × zK) ⊕ ((zK) ⊕ (Int32 × zK))} (F : zFr [215, 227] h0 s.2) (H : qM_isCut_b2 x1 s = some e) : match (generalizing := false) e with | .inl s' => zFr [215, 227] h0 s'.2 | .inr (.inl v) => zFr [215, 227] h0 v | .inr (.inr p) => zFr [215, 227] h0 p.2 := by
  unfold qM_isCut_b2 at H
  by_cases c1 : (gI s.2 215 23) ≤ s.1
  · replace H := zif_t c1 H
    cases H
    exact F
  · replace H := zif_f c1 H
    by_cases c2 : ¬ (zf_has x1 s.1) = 0
    · replace H := zif_t c2 H
      cases H
      exact F
    · replace H := zif_f c2 H
      obtain ⟨p3, hp3, H⟩ := zbs H
      replace F := zFr_w F (f_qM_trainOf hp3) (by decide)
      by_cases c4 : p3.1 = ((1 : Int32) <<< (s.1 &&& 31))
      · replace H := zif_t c4 H
        cases H
        exact F
      · replace H := zif_f c4 H
        cases H
        exact F
theorem f_qM_isCut_b2_l {x1 : Int32} (n : Nat) (s : Int32 × zK) (t : (zK) ⊕ (Int32 × zK)) (H : zloop (qM_isCut_b2 x1) n s = some t) : (match (generalizing := false) t with | .inl v => zFr [215, 227] s.2 v | .inr p => zFr [215, 227] s.2 p.2) := by
  rcases t with v | p
  · exact zloop_P (P := fun s => zFr [215, 227] s.2 v) (b := qM_isCut_b2 x1) (fun s s2 hb hk => zFr_t (f_qM_isCut_b2 zFr_r hb) hk) (fun s hb => f_qM_isCut_b2 zFr_r hb) n s H
  · exact zloop_P (P := fun s => zFr [215, 227] s.2 p.2) (b := qM_isCut_b2 x1) (fun s s2 hb hk => zFr_t (f_qM_isCut_b2 zFr_r hb) hk) (fun s hb => f_qM_isCut_b2 zFr_r hb) n s H
theorem f_qM_isCut {x1 : Int32} {h : zK} {p : Int32 × zK} (H : qM_isCut x1 h = some p) : zFr [215, 227] h p.2 := by
  unfold qM_isCut at H
  obtain ⟨h0, F, e0⟩ : ∃ h0, zFr [215, 227] h0 h ∧ h0 = h := ⟨h, zFr_r, rfl⟩
  rw [← e0]
  clear e0
  obtain ⟨t5, ht5, H⟩ := zbs H
  have Fl := f_qM_isCut_b2_l zfu _ _ ht5
  rcases t5 with v6 | p
  · dsimp only at H
    replace F := zFr_t F Fl
    cases H
    exact F
  · cases H
    exact zFr_t F Fl
theorem f_qM_cut_b4 {h0 : zK} {s : Int32 × Int32 × zK} {e : (Int32 × Int32 × zK) ⊕ (Int32 × zK)} (F : zFr [215, 227] h0 s.2.2) (H : qM_cut_b4 s = some e) : match (generalizing := false) e with | .inl s' => zFr [215, 227] h0 s'.2.2 | .inr v => zFr [215, 227] h0 v.2 := by
  unfold qM_cut_b4 at H
  by_cases c1 : ((1 : Int32) <<< ((gI s.2.2 215 23) &&& 31)) ≤ s.2.1
  · replace H := zif_t c1 H
    cases H
    exact F
  · replace H := zif_f c1 H
    obtain ⟨v3, hv3, H⟩ := zbs H
    obtain ⟨v8, hv8, H⟩ := zbs H
    replace F : zFr [215, 227] h0 v8.2 := by
      clear H
      by_cases c7 : v3 = 0
      · replace hv8 := zif_t c7 hv8
        cases hv8
        exact F
      · replace hv8 := zif_f c7 hv8
        obtain ⟨p9, hp9, hv8⟩ := zbs hv8
        replace F := zFr_w F (f_qM_isCut hp9) (by decide)
        by_cases c10 : p9.1 = 0
        · replace hv8 := zif_t c10 hv8
          cases hv8
          exact F
        · replace hv8 := zif_f c10 hv8
          cases hv8
          exact F
    cases H
    exact F
theorem f_qM_cut_b4_l (n : Nat) (s : Int32 × Int32 × zK) (t : Int32 × zK) (H : zloop (qM_cut_b4) n s = some t) : zFr [215, 227] s.2.2 t.2 := by
  exact zloop_P (P := fun s => zFr [215, 227] s.2.2 t.2) (b := qM_cut_b4) (t := t) (fun s s2 hb hk => zFr_t (f_qM_cut_b4 zFr_r hb) hk) (fun s hb => f_qM_cut_b4 zFr_r hb) n s H
theorem f_qM_cut  {h : zK} {p : Int32 × zK} (H : qM_cut h = some p) : zFr [215, 227] h p.2 := by
  unfold qM_cut at H
  obtain ⟨h0, F, e0⟩ : ∃ h0, zFr [215, 227] h0 h ∧ h0 = h := ⟨h, zFr_r, rfl⟩
  rw [← e0]
  clear e0
  obtain ⟨t11, ht11, H⟩ := zbs H
  have Fl := f_qM_cut_b4_l zfu _ _ ht11
  replace F := zFr_t F Fl
  clear Fl
  cases H
  exact F
theorem f_qM_calm_b10 {h0 : zK} {x1 : Int32} {s : Int32 × Int32 × Int32 × Int32 × zK} {e : (Int32 × Int32 × Int32 × Int32 × zK) ⊕ (Int32 × Int32 × zK)} (F : zFr [215, 226, 227] h0 s.2.2.2.2) (H : qM_calm_b10 x1 s = some e) : match (generalizing := false) e with | .inl s' => zFr [215, 226, 227] h0 s'.2.2.2.2 | .inr v => zFr [215, 226, 227] h0 v.2.2 := by
  unfold qM_calm_b10 at H
  by_cases c1 : 50 < s.2.2.2.1
  · replace H := zif_t c1 H
    cases H
    exact F
  · replace H := zif_f c1 H
    obtain ⟨p2, hp2, H⟩ := zbs H
    replace F := zFr_w F (f_qM_goesOn hp2) (by decide)
    obtain ⟨v4, hv4, H⟩ := zlets H
    obtain ⟨v6, hv6, H⟩ := zlets H
    cases H
    exact F
theorem f_qM_calm_b10_l {x1 : Int32} (n : Nat) (s : Int32 × Int32 × Int32 × Int32 × zK) (t : Int32 × Int32 × zK) (H : zloop (qM_calm_b10 x1) n s = some t) : zFr [215, 226, 227] s.2.2.2.2 t.2.2 := by
  exact zloop_P (P := fun s => zFr [215, 226, 227] s.2.2.2.2 t.2.2) (b := qM_calm_b10 x1) (t := t) (fun s s2 hb hk => zFr_t (f_qM_calm_b10 zFr_r hb) hk) (fun s hb => f_qM_calm_b10 zFr_r hb) n s H
theorem f_qM_calm {x1 : Int32} {h : zK} {p : Int32 × zK} (H : qM_calm x1 h = some p) : zFr [215, 226, 227] h p.2 := by
  unfold qM_calm at H
  obtain ⟨h0, F, e0⟩ : ∃ h0, zFr [215, 226, 227] h0 h ∧ h0 = h := ⟨h, zFr_r, rfl⟩
  rw [← e0]
  clear e0
  obtain ⟨t7, ht7, H⟩ := zbs H
  have Fl := f_qM_calm_b10_l zfu _ _ ht7
  replace F := zFr_t F Fl
  clear Fl
  by_cases c9 : x1 = 0
  · replace H := zif_t c9 H
    cases H
    exact F
  · replace H := zif_f c9 H
    cases H
    exact F
theorem f_qM_pair_b22 {h0 : zK} {x3 : Int32} {s : Int32 × Int32 × Int32 × zK} {e : (Int32 × Int32 × Int32 × zK) ⊕ (Int32 × Int32 × zK)} (F : zFr [215, 227, 229] h0 s.2.2.2) (H : qM_pair_b22 x3 s = some e) : match (generalizing := false) e with | .inl s' => zFr [215, 227, 229] h0 s'.2.2.2 | .inr v => zFr [215, 227, 229] h0 v.2.2 := by
  unfold qM_pair_b22 at H
  by_cases c3 : (gI s.2.2.2 215 23) ≤ s.2.2.1
  · replace H := zif_t c3 H
    cases H
    exact F
  · replace H := zif_f c3 H
    obtain ⟨p4, hp4, H⟩ := zbs H
    replace F := zFr_w F (f_qM_swapPlaces hp4) (by decide)
    obtain ⟨p5, hp5, H⟩ := zbs H
    replace F := zFr_w F (f_qM_greatestTrain hp5) (by decide)
    obtain ⟨p6, hp6, H⟩ := zbs H
    replace F := zFr_w F (f_qM_swapPlaces hp6) (by decide)
    obtain ⟨v8, hv8, H⟩ := zlets H
    cases H
    exact F
theorem f_qM_pair_b22_l {x3 : Int32} (n : Nat) (s : Int32 × Int32 × Int32 × zK) (t : Int32 × Int32 × zK) (H : zloop (qM_pair_b22 x3) n s = some t) : zFr [215, 227, 229] s.2.2.2 t.2.2 := by
  exact zloop_P (P := fun s => zFr [215, 227, 229] s.2.2.2 t.2.2) (b := qM_pair_b22 x3) (t := t) (fun s s2 hb hk => zFr_t (f_qM_pair_b22 zFr_r hb) hk) (fun s hb => f_qM_pair_b22 zFr_r hb) n s H
theorem f_qM_pair_b9 {h0 : zK} {s : Int32 × Int32 × Int32 × zK} {e : (Int32 × Int32 × Int32 × zK) ⊕ (Int32 × zK)} (F : zFr [215, 227, 229] h0 s.2.2.2) (H : qM_pair_b9 s = some e) : match (generalizing := false) e with | .inl s' => zFr [215, 227, 229] h0 s'.2.2.2 | .inr v => zFr [215, 227, 229] h0 v.2 := by
  unfold qM_pair_b9 at H
  by_cases c2 : (gI s.2.2.2 215 23) ≤ s.2.2.1
  · replace H := zif_t c2 H
    cases H
    exact F
  · replace H := zif_f c2 H
    obtain ⟨t9, ht9, H⟩ := zbs H
    have Fl := f_qM_pair_b22_l zfu _ _ ht9
    replace F := zFr_t F Fl
    clear Fl
    cases H
    exact F
theorem f_qM_pair_b9_l (n : Nat) (s : Int32 × Int32 × Int32 × zK) (t : Int32 × zK) (H : zloop (qM_pair_b9) n s = some t) : zFr [215, 227, 229] s.2.2.2 t.2 := by
  exact zloop_P (P := fun s => zFr [215, 227, 229] s.2.2.2 t.2) (b := qM_pair_b9) (t := t) (fun s s2 hb hk => zFr_t (f_qM_pair_b9 zFr_r hb) hk) (fun s hb => f_qM_pair_b9 zFr_r hb) n s H
theorem f_qM_pair  {h : zK} {p : Int32 × zK} (H : qM_pair h = some p) : zFr [215, 227, 229] h p.2 := by
  unfold qM_pair at H
  obtain ⟨h0, F, e0⟩ : ∃ h0, zFr [215, 227, 229] h0 h ∧ h0 = h := ⟨h, zFr_r, rfl⟩
  rw [← e0]
  clear e0
  obtain ⟨p1, hp1, H⟩ := zbs H
  replace F := zFr_w F (f_qM_greatestTrain hp1) (by decide)
  obtain ⟨t11, ht11, H⟩ := zbs H
  have Fl := f_qM_pair_b9_l zfu _ _ ht11
  replace F := zFr_t F Fl
  clear Fl
  cases H
  exact F
theorem f_qM_ofWit {x1 : Int32} {h : zK} {p : Int32 × zK} (H : qM_ofWit x1 h = some p) : zFr [215, 227] h p.2 := by
  unfold qM_ofWit at H
  obtain ⟨h0, F, e0⟩ : ∃ h0, zFr [215, 227] h0 h ∧ h0 = h := ⟨h, zFr_r, rfl⟩
  rw [← e0]
  clear e0
  by_cases c25 : x1 = 0
  · replace H := zif_t c25 H
    obtain ⟨p1, hp1, H⟩ := zbs H
    cases H
    exact F
  replace H := zif_f c25 H
  by_cases c26 : x1 = 1
  · replace H := zif_t c26 H
    obtain ⟨p2, hp2, H⟩ := zbs H
    cases H
    exact F
  replace H := zif_f c26 H
  by_cases c27 : x1 = 2
  · replace H := zif_t c27 H
    obtain ⟨p3, hp3, H⟩ := zbs H
    cases H
    exact F
  replace H := zif_f c27 H
  by_cases c28 : x1 = 3
  · replace H := zif_t c28 H
    obtain ⟨v5, hv5, H⟩ := zlets H
    obtain ⟨p6, hp6, H⟩ := zbs H
    replace F := zFr_w F (f_qM_ruin hp6) (by decide)
    cases H
    exact F
  replace H := zif_f c28 H
  by_cases c29 : x1 = 4
  · replace H := zif_t c29 H
    obtain ⟨v8, hv8, H⟩ := zlets H
    obtain ⟨p9, hp9, H⟩ := zbs H
    replace F := zFr_w F (f_qM_ruin hp9) (by decide)
    cases H
    exact F
  replace H := zif_f c29 H
  by_cases c30 : x1 = 5
  · replace H := zif_t c30 H
    obtain ⟨v11, hv11, H⟩ := zlets H
    obtain ⟨p12, hp12, H⟩ := zbs H
    cases H
    exact F
  replace H := zif_f c30 H
  by_cases c31 : x1 = 6
  · replace H := zif_t c31 H
    obtain ⟨v14, hv14, H⟩ := zlets H
    obtain ⟨p15, hp15, H⟩ := zbs H
    cases H
    exact F
  replace H := zif_f c31 H
  by_cases c32 : x1 = 7
  · replace H := zif_t c32 H
    obtain ⟨v17, hv17, H⟩ := zlets H
    obtain ⟨p18, hp18, H⟩ := zbs H
    cases H
    exact F
  replace H := zif_f c32 H
  by_cases c33 : x1 = 8
  · replace H := zif_t c33 H
    obtain ⟨v20, hv20, H⟩ := zlets H
    obtain ⟨p21, hp21, H⟩ := zbs H
    cases H
    exact F
  replace H := zif_f c33 H
  by_cases c34 : x1 = 9
  · replace H := zif_t c34 H
    obtain ⟨p22, hp22, H⟩ := zbs H
    replace F := zFr_w F (f_qM_cut hp22) (by decide)
    obtain ⟨p23, hp23, H⟩ := zbs H
    cases H
    exact F
  replace H := zif_f c34 H
  obtain ⟨p24, hp24, H⟩ := zbs H
  replace F := zFr_w F (f_qM_cut hp24) (by decide)
  cases H
  exact F
theorem f_qM_wit {x1 : Int32} {x2 : Int32} {h : zK} {p : Int32 × zK} (H : qM_wit x1 x2 h = some p) : zFr [215, 226, 227, 228, 229] h p.2 := by
  unfold qM_wit at H
  obtain ⟨h0, F, e0⟩ : ∃ h0, zFr [215, 226, 227, 228, 229] h0 h ∧ h0 = h := ⟨h, zFr_r, rfl⟩
  rw [← e0]
  clear e0
  obtain ⟨h1, eh1, H⟩ := zlets H
  replace F := zFr_s F eh1 (by decide)
  obtain ⟨p2, hp2, H⟩ := zbs H
  replace F := zFr_w F (f_qM_hand hp2) (by decide)
  by_cases c3 : ¬ p2.1 = 0
  · replace H := zif_t c3 H
    by_cases c4 : (zf_in x2 0 10) = 0
    · replace H := zif_t c4 H
      by_cases c18 : x2 = 11
      · replace H := zif_t c18 H
        obtain ⟨p5, hp5, H⟩ := zbs H
        cases H
        exact F
      replace H := zif_f c18 H
      by_cases c19 : x2 = 12
      · replace H := zif_t c19 H
        obtain ⟨p6, hp6, H⟩ := zbs H
        cases H
        exact F
      replace H := zif_f c19 H
      by_cases c20 : x2 = 13
      · replace H := zif_t c20 H
        obtain ⟨p7, hp7, H⟩ := zbs H
        cases H
        exact F
      replace H := zif_f c20 H
      by_cases c21 : x2 = 14
      · replace H := zif_t c21 H
        obtain ⟨v9, hv9, H⟩ := zlets H
        obtain ⟨p10, hp10, H⟩ := zbs H
        replace F := zFr_w F (f_qM_calm hp10) (by decide)
        cases H
        exact F
      replace H := zif_f c21 H
      by_cases c22 : x2 = 15
      · replace H := zif_t c22 H
        obtain ⟨v12, hv12, H⟩ := zlets H
        obtain ⟨p13, hp13, H⟩ := zbs H
        replace F := zFr_w F (f_qM_calm hp13) (by decide)
        cases H
        exact F
      replace H := zif_f c22 H
      by_cases c23 : x2 = 16
      · replace H := zif_t c23 H
        obtain ⟨p14, hp14, H⟩ := zbs H
        replace F := zFr_w F (f_qM_pair hp14) (by decide)
        cases H
        exact F
      replace H := zif_f c23 H
      by_cases c24 : x2 = 17
      · replace H := zif_t c24 H
        obtain ⟨p15, hp15, H⟩ := zbs H
        cases H
        exact F
      replace H := zif_f c24 H
      by_cases c25 : x2 = 18
      · replace H := zif_t c25 H
        obtain ⟨p16, hp16, H⟩ := zbs H
        cases H
        exact F
      replace H := zif_f c25 H
      cases H
      exact F
    · replace H := zif_f c4 H
      obtain ⟨p17, hp17, H⟩ := zbs H
      replace F := zFr_w F (f_qM_ofWit hp17) (by decide)
      cases H
      exact F
  · replace H := zif_f c3 H
    cases H
    exact F
theorem f_qM_flat {x1 : Int32} {x2 : Int32} {h : zK} {p : Int32 × zK} (H : qM_flat x1 x2 h = some p) : zFr [215, 226, 227, 228, 229] h p.2 := by
  unfold qM_flat at H
  obtain ⟨h0, F, e0⟩ : ∃ h0, zFr [215, 226, 227, 228, 229] h0 h ∧ h0 = h := ⟨h, zFr_r, rfl⟩
  rw [← e0]
  clear e0
  obtain ⟨h1, eh1, H⟩ := zlets H
  replace F := zFr_s F eh1 (by decide)
  by_cases c2 : (zf_in x2 0 50) = 0
  · replace H := zif_t c2 H
    cases H
    exact F
  · replace H := zif_f c2 H
    obtain ⟨p3, hp3, H⟩ := zbs H
    replace F := zFr_w F (f_qM_hand hp3) (by decide)
    by_cases c4 : ¬ p3.1 = 0
    · replace H := zif_t c4 H
      obtain ⟨t9, ht9, H⟩ := zbs H
      cases H
      exact F
    · replace H := zif_f c4 H
      cases H
      exact F
theorem f_qM_next_b30 {h0 : zK} {x2 : Int32} {s : Int32 × Int32 × zK} {e : (Int32 × Int32 × zK) ⊕ (Int32 × zK)} (F : zFr [215, 226, 227, 228, 229] h0 s.2.2) (H : qM_next_b30 x2 s = some e) : match (generalizing := false) e with | .inl s' => zFr [215, 226, 227, 228, 229] h0 s'.2.2 | .inr v => zFr [215, 226, 227, 228, 229] h0 v.2 := by
  unfold qM_next_b30 at H
  by_cases c5 : x2 ≤ s.2.1
  · replace H := zif_t c5 H
    cases H
    exact F
  · replace H := zif_f c5 H
    obtain ⟨p6, hp6, H⟩ := zbs H
    replace F := zFr_w F (f_qM_goesOn hp6) (by decide)
    cases H
    exact F
theorem f_qM_next_b30_l {x2 : Int32} (n : Nat) (s : Int32 × Int32 × zK) (t : Int32 × zK) (H : zloop (qM_next_b30 x2) n s = some t) : zFr [215, 226, 227, 228, 229] s.2.2 t.2 := by
  exact zloop_P (P := fun s => zFr [215, 226, 227, 228, 229] s.2.2 t.2) (b := qM_next_b30 x2) (t := t) (fun s s2 hb hk => zFr_t (f_qM_next_b30 zFr_r hb) hk) (fun s hb => f_qM_next_b30 zFr_r hb) n s H
theorem f_qM_next {x1 : Int32} {x2 : Int32} {h : zK} {p : Int32 × zK} (H : qM_next x1 x2 h = some p) : zFr [215, 226, 227, 228, 229] h p.2 := by
  unfold qM_next at H
  obtain ⟨h0, F, e0⟩ : ∃ h0, zFr [215, 226, 227, 228, 229] h0 h ∧ h0 = h := ⟨h, zFr_r, rfl⟩
  rw [← e0]
  clear e0
  obtain ⟨h1, eh1, H⟩ := zlets H
  replace F := zFr_s F eh1 (by decide)
  by_cases c2 : (zf_in x2 1 50) = 0
  · replace H := zif_t c2 H
    cases H
    exact F
  · replace H := zif_f c2 H
    obtain ⟨p3, hp3, H⟩ := zbs H
    replace F := zFr_w F (f_qM_hand hp3) (by decide)
    by_cases c4 : ¬ p3.1 = 0
    · replace H := zif_t c4 H
      obtain ⟨t7, ht7, H⟩ := zbs H
      have Fl := f_qM_next_b30_l zfu _ _ ht7
      replace F := zFr_t F Fl
      clear Fl
      cases H
      exact F
    · replace H := zif_f c4 H
      cases H
      exact F
theorem f_qM_half {x1 : Int32} {x2 : Int32} {x3 : Int32} {h : zK} {p : Int32 × zK} (H : qM_half x1 x2 x3 h = some p) : zFr [215, 226, 227, 228, 229] h p.2 := by
  unfold qM_half at H
  obtain ⟨h0, F, e0⟩ : ∃ h0, zFr [215, 226, 227, 228, 229] h0 h ∧ h0 = h := ⟨h, zFr_r, rfl⟩
  rw [← e0]
  clear e0
  obtain ⟨h1, eh1, H⟩ := zlets H
  replace F := zFr_s F eh1 (by decide)
  by_cases c2 : (zf_in x2 0 7) = 0
  · replace H := zif_t c2 H
    cases H
    exact F
  · replace H := zif_f c2 H
    obtain ⟨p3, hp3, H⟩ := zbs H
    replace F := zFr_w F (f_qM_hand hp3) (by decide)
    by_cases c4 : ¬ p3.1 = 0
    · replace H := zif_t c4 H
      obtain ⟨t17, ht17, H⟩ := zbs H
      by_cases c19 : t17 = (-1)
      · replace H := zif_t c19 H
        cases H
        exact F
      · replace H := zif_f c19 H
        by_cases c20 : x3 = 0
        · replace H := zif_t c20 H
          obtain ⟨p21, hp21, H⟩ := zbs H
          cases H
          exact F
        · replace H := zif_f c20 H
          cases H
          exact F
    · replace H := zif_f c4 H
      cases H
      exact F
theorem f_qM_after_b53 {h0 : zK} {x3 : Int32} {s : Int32 × Int32 × Int32 × Int32 × Int32 × Int32 × Int32 × Int32 × Int32 × zK} {e : (Int32 × Int32 × Int32 × Int32 × Int32 × Int32 × Int32 × Int32 × Int32 × zK) ⊕ (Int32 × Int32 × Int32 × Int32 × Int32 × zK)} (F : zFr [215, 226, 227, 228, 229] h0 s.2.2.2.2.2.2.2.2.2) (H : qM_after_b53 x3 s = some e) : match (generalizing := false) e with | .inl s' => zFr [215, 226, 227, 228, 229] h0 s'.2.2.2.2.2.2.2.2.2 | .inr v => zFr [215, 226, 227, 228, 229] h0 v.2.2.2.2.2 := by
  unfold qM_after_b53 at H
  by_cases c5 : s.2.2.2.2.2.2.2.1 = 0
  · replace H := zif_t c5 H
    cases H
    exact F
  · replace H := zif_f c5 H
    obtain ⟨p6, hp6, H⟩ := zbs H
    by_cases c7 : p6 ≤ s.2.2.2.2.2.2.2.2.1
    · replace H := zif_t c7 H
      cases H
      exact F
    · replace H := zif_f c7 H
      obtain ⟨p8, hp8, H⟩ := zbs H
      replace F := zFr_w F (f_qM_doesDeed hp8) (by decide)
      obtain ⟨v10, hv10, H⟩ := zbs H
      obtain ⟨p12, hp12, H⟩ := zbs H
      obtain ⟨v14, hv14, H⟩ := zlets H
      obtain ⟨v17, hv17, H⟩ := zlets H
      obtain ⟨v19, hv19, H⟩ := zlets H
      obtain ⟨v21, hv21, H⟩ := zbs H
      cases H
      exact F
theorem f_qM_after_b53_l {x3 : Int32} (n : Nat) (s : Int32 × Int32 × Int32 × Int32 × Int32 × Int32 × Int32 × Int32 × Int32 × zK) (t : Int32 × Int32 × Int32 × Int32 × Int32 × zK) (H : zloop (qM_after_b53 x3) n s = some t) : zFr [215, 226, 227, 228, 229] s.2.2.2.2.2.2.2.2.2 t.2.2.2.2.2 := by
  exact zloop_P (P := fun s => zFr [215, 226, 227, 228, 229] s.2.2.2.2.2.2.2.2.2 t.2.2.2.2.2) (b := qM_after_b53 x3) (t := t) (fun s s2 hb hk => zFr_t (f_qM_after_b53 zFr_r hb) hk) (fun s hb => f_qM_after_b53 zFr_r hb) n s H
theorem f_qM_after {x1 : Int32} {x2 : Int32} {x3 : Int32} {h : zK} {p : Int32 × zK} (H : qM_after x1 x2 x3 h = some p) : zFr [215, 226, 227, 228, 229] h p.2 := by
  unfold qM_after at H
  obtain ⟨h0, F, e0⟩ : ∃ h0, zFr [215, 226, 227, 228, 229] h0 h ∧ h0 = h := ⟨h, zFr_r, rfl⟩
  rw [← e0]
  clear e0
  obtain ⟨h1, eh1, H⟩ := zlets H
  replace F := zFr_s F eh1 (by decide)
  obtain ⟨p2, hp2, H⟩ := zbs H
  replace F := zFr_w F (f_qM_layAll hp2) (by decide)
  by_cases c3 : p2.1 = 0
  · replace H := zif_t c3 H
    cases H
    exact F
  · replace H := zif_f c3 H
    by_cases c4 : ¬ (zf_in x3 0 5) = 0
    · replace H := zif_t c4 H
      obtain ⟨t39, ht39, H⟩ := zbs H
      have Fl := f_qM_after_b53_l zfu _ _ ht39
      replace F := zFr_t F Fl
      clear Fl
      by_cases c41 : x3 = 0
      · replace H := zif_t c41 H
        cases H
        exact F
      replace H := zif_f c41 H
      by_cases c42 : x3 = 1
      · replace H := zif_t c42 H
        cases H
        exact F
      replace H := zif_f c42 H
      by_cases c43 : x3 = 2
      · replace H := zif_t c43 H
        cases H
        exact F
      replace H := zif_f c43 H
      by_cases c44 : x3 = 3
      · replace H := zif_t c44 H
        cases H
        exact F
      replace H := zif_f c44 H
      by_cases c45 : x3 = 4
      · replace H := zif_t c45 H
        cases H
        exact F
      replace H := zif_f c45 H
      cases H
      exact F
    · replace H := zif_f c4 H
      cases H
      exact F
theorem f_qM_odds {x1 : Int32} {x2 : Int32} {x3 : Int32} {x4 : Int32} {h : zK} {p : Int32 × zK} (H : qM_odds x1 x2 x3 x4 h = some p) : zFr [215, 226, 227, 228, 229, 234, 235] h p.2 := by
  unfold qM_odds at H
  obtain ⟨h0, F, e0⟩ : ∃ h0, zFr [215, 226, 227, 228, 229, 234, 235] h0 h ∧ h0 = h := ⟨h, zFr_r, rfl⟩
  rw [← e0]
  clear e0
  obtain ⟨h1, eh1, H⟩ := zlets H
  replace F := zFr_s F eh1 (by decide)
  by_cases c2 : (zf_in x3 0 9) = 0
  · replace H := zif_t c2 H
    cases H
    exact F
  · replace H := zif_f c2 H
    obtain ⟨p3, hp3, H⟩ := zbs H
    replace F := zFr_w F (f_qM_layLog hp3) (by decide)
    by_cases c4 : p3.1 = 0
    · replace H := zif_t c4 H
      cases H
      exact F
    · replace H := zif_f c4 H
      by_cases c5 : ¬ (gI p3.2 215 46) = 0
      · replace H := zif_t c5 H
        obtain ⟨t10, ht10, H⟩ := zbs H
        obtain ⟨v13, hv13, H⟩ := zlets H
        obtain ⟨p14, hp14, H⟩ := zbs H
        obtain ⟨c15, H⟩ := zifn H
        cases H
        exact F
      · replace H := zif_f c5 H
        cases H
        exact F
theorem f_qM_shock {x1 : Int32} {x2 : Int32} {x3 : Int32} {h : zK} {p : Int32 × zK} (H : qM_shock x1 x2 x3 h = some p) : zFr [215, 226, 227, 228, 229, 234, 235] h p.2 := by
  unfold qM_shock at H
  obtain ⟨h0, F, e0⟩ : ∃ h0, zFr [215, 226, 227, 228, 229, 234, 235] h0 h ∧ h0 = h := ⟨h, zFr_r, rfl⟩
  rw [← e0]
  clear e0
  obtain ⟨h1, eh1, H⟩ := zlets H
  replace F := zFr_s F eh1 (by decide)
  obtain ⟨p2, hp2, H⟩ := zbs H
  replace F := zFr_w F (f_qM_layLog hp2) (by decide)
  by_cases c3 : p2.1 = 0
  · replace H := zif_t c3 H
    cases H
    exact F
  · replace H := zif_f c3 H
    by_cases c4 : ¬ (gI p2.2 215 46) = 0
    · replace H := zif_t c4 H
      obtain ⟨t10, ht10, H⟩ := zbs H
      cases H
      exact F
    · replace H := zif_f c4 H
      cases H
      exact F
theorem f_qM_count {x1 : Int32} {h : zK} {p : Int32 × zK} (H : qM_count x1 h = some p) : zFr [215] h p.2 := by
  unfold qM_count at H
  obtain ⟨h0, F, e0⟩ : ∃ h0, zFr [215] h0 h ∧ h0 = h := ⟨h, zFr_r, rfl⟩
  rw [← e0]
  clear e0
  obtain ⟨h1, eh1, H⟩ := zlets H
  replace F := zFr_s F eh1 (by decide)
  by_cases c2 : (zf_in x1 0 2) = 0
  · replace H := zif_t c2 H
    cases H
    exact F
  · replace H := zif_f c2 H
    obtain ⟨j3, hj3, H⟩ := zbs H
    cases H
    exact F
theorem f_qM_image {x1 : Int32} {h : zK} {p : Int32 × zK} (H : qM_image x1 h = some p) : zFr [215, 216, 217, 218, 219, 220, 221, 222, 223, 236] h p.2 := by
  unfold qM_image at H
  obtain ⟨h0, F, e0⟩ : ∃ h0, zFr [215, 216, 217, 218, 219, 220, 221, 222, 223, 236] h0 h ∧ h0 = h := ⟨h, zFr_r, rfl⟩
  rw [← e0]
  clear e0
  obtain ⟨h1, eh1, H⟩ := zlets H
  replace F := zFr_s F eh1 (by decide)
  by_cases c2 : ¬ (zf_in x1 0 2) = 0
  · replace H := zif_t c2 H
    obtain ⟨p3, hp3, H⟩ := zbs H
    replace F := zFr_w F (f_qM_copyAll hp3) (by decide)
    obtain ⟨j4, hj4, H⟩ := zbs H
    obtain ⟨h5, eh5, H⟩ := zlets H
    replace F := zFr_s F eh5 (by decide)
    cases H
    exact F
  · replace H := zif_f c2 H
    cases H
    exact F
theorem f_qM_again {x1 : Int32} {h : zK} {p : Int32 × zK} (H : qM_again x1 h = some p) : zFr [215, 216, 217, 218, 219, 220, 221, 222, 223] h p.2 := by
  unfold qM_again at H
  obtain ⟨h0, F, e0⟩ : ∃ h0, zFr [215, 216, 217, 218, 219, 220, 221, 222, 223] h0 h ∧ h0 = h := ⟨h, zFr_r, rfl⟩
  rw [← e0]
  clear e0
  obtain ⟨h1, eh1, H⟩ := zlets H
  replace F := zFr_s F eh1 (by decide)
  by_cases c2 : (zf_in x1 0 2) = 0
  · replace H := zif_t c2 H
    cases H
    exact F
  · replace H := zif_f c2 H
    obtain ⟨j3, hj3, H⟩ := zbs H
    by_cases c4 : ¬ (gI h1 236 j3) = 0
    · replace H := zif_t c4 H
      obtain ⟨p5, hp5, H⟩ := zbs H
      replace F := zFr_w F (f_qM_copyAll hp5) (by decide)
      cases H
      exact F
    · replace H := zif_f c4 H
      cases H
      exact F
