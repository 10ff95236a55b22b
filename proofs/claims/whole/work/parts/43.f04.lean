theorem f_qM_copyRow_b3 {h0 : zK} {oa : Nat} {x1 : Int32} {x2 : Int32} {x3 : Int32} {s : Int32 × zK} {e : (Int32 × zK) ⊕ (zK)} (ho : oa = 217 ∨ oa = 218 ∨ oa = 219 ∨ oa = 220 ∨ oa = 221 ∨ oa = 222 ∨ oa = 223) (F : zFr [217, 218, 219, 220, 221, 222, 223] h0 s.2) (H : qM_copyRow_b3 oa x1 x2 x3 s = some e) : match (generalizing := false) e with | .inl s' => zFr [217, 218, 219, 220, 221, 222, 223] h0 s'.2 | .inr v => zFr [217, 218, 219, 220, 221, 222, 223] h0 v := by
  unfold qM_copyRow_b3 at H
  rcases ho with rfl | rfl | rfl | rfl | rfl | rfl | rfl
  · by_cases c1 : x1 ≤ s.1
    · replace H := zif_t c1 H
      cases H
      exact F
    · replace H := zif_f c1 H
      obtain ⟨j2, hj2, H⟩ := zbs H
      obtain ⟨j3, hj3, H⟩ := zbs H
      obtain ⟨h4, eh4, H⟩ := zlets H
      replace F := zFr_s F eh4 (by decide)
      cases H
      exact F
  · by_cases c1 : x1 ≤ s.1
    · replace H := zif_t c1 H
      cases H
      exact F
    · replace H := zif_f c1 H
      obtain ⟨j2, hj2, H⟩ := zbs H
      obtain ⟨j3, hj3, H⟩ := zbs H
      obtain ⟨h4, eh4, H⟩ := zlets H
      replace F := zFr_s F eh4 (by decide)
      cases H
      exact F
  · by_cases c1 : x1 ≤ s.1
    · replace H := zif_t c1 H
      cases H
      exact F
    · replace H := zif_f c1 H
      obtain ⟨j2, hj2, H⟩ := zbs H
      obtain ⟨j3, hj3, H⟩ := zbs H
      obtain ⟨h4, eh4, H⟩ := zlets H
      replace F := zFr_s F eh4 (by decide)
      cases H
      exact F
  · by_cases c1 : x1 ≤ s.1
    · replace H := zif_t c1 H
      cases H
      exact F
    · replace H := zif_f c1 H
      obtain ⟨j2, hj2, H⟩ := zbs H
      obtain ⟨j3, hj3, H⟩ := zbs H
      obtain ⟨h4, eh4, H⟩ := zlets H
      replace F := zFr_s F eh4 (by decide)
      cases H
      exact F
  · by_cases c1 : x1 ≤ s.1
    · replace H := zif_t c1 H
      cases H
      exact F
    · replace H := zif_f c1 H
      obtain ⟨j2, hj2, H⟩ := zbs H
      obtain ⟨j3, hj3, H⟩ := zbs H
      obtain ⟨h4, eh4, H⟩ := zlets H
      replace F := zFr_s F eh4 (by decide)
      cases H
      exact F
  · by_cases c1 : x1 ≤ s.1
    · replace H := zif_t c1 H
      cases H
      exact F
    · replace H := zif_f c1 H
      obtain ⟨j2, hj2, H⟩ := zbs H
      obtain ⟨j3, hj3, H⟩ := zbs H
      obtain ⟨h4, eh4, H⟩ := zlets H
      replace F := zFr_s F eh4 (by decide)
      cases H
      exact F
  · by_cases c1 : x1 ≤ s.1
    · replace H := zif_t c1 H
      cases H
      exact F
    · replace H := zif_f c1 H
      obtain ⟨j2, hj2, H⟩ := zbs H
      obtain ⟨j3, hj3, H⟩ := zbs H
      obtain ⟨h4, eh4, H⟩ := zlets H
      replace F := zFr_s F eh4 (by decide)
      cases H
      exact F
theorem f_qM_copyRow_b3_l {oa : Nat} {x1 : Int32} {x2 : Int32} {x3 : Int32} (ho : oa = 217 ∨ oa = 218 ∨ oa = 219 ∨ oa = 220 ∨ oa = 221 ∨ oa = 222 ∨ oa = 223) (n : Nat) (s : Int32 × zK) (t : zK) (H : zloop (qM_copyRow_b3 oa x1 x2 x3) n s = some t) : zFr [217, 218, 219, 220, 221, 222, 223] s.2 t := by
  exact zloop_P (P := fun s => zFr [217, 218, 219, 220, 221, 222, 223] s.2 t) (b := qM_copyRow_b3 oa x1 x2 x3) (t := t) (fun s s2 hb hk => zFr_t (f_qM_copyRow_b3 ho zFr_r hb) hk) (fun s hb => f_qM_copyRow_b3 ho zFr_r hb) n s H
theorem f_qM_copyRow {oa : Nat} {x1 : Int32} {x2 : Int32} {x3 : Int32} {h : zK} {p : zK} (ho : oa = 217 ∨ oa = 218 ∨ oa = 219 ∨ oa = 220 ∨ oa = 221 ∨ oa = 222 ∨ oa = 223) (H : qM_copyRow oa x1 x2 x3 h = some p) : zFr [217, 218, 219, 220, 221, 222, 223] h p := by
  unfold qM_copyRow at H
  obtain ⟨h0, F, e0⟩ : ∃ h0, zFr [217, 218, 219, 220, 221, 222, 223] h0 h ∧ h0 = h := ⟨h, zFr_r, rfl⟩
  rw [← e0]
  clear e0
  rcases ho with rfl | rfl | rfl | rfl | rfl | rfl | rfl
  · obtain ⟨t5, ht5, H⟩ := zbs H
    have Fl := f_qM_copyRow_b3_l (oa := 217) (by decide) zfu _ _ ht5
    replace F := zFr_t F Fl
    clear Fl
    cases H
    exact F
  · obtain ⟨t5, ht5, H⟩ := zbs H
    have Fl := f_qM_copyRow_b3_l (oa := 218) (by decide) zfu _ _ ht5
    replace F := zFr_t F Fl
    clear Fl
    cases H
    exact F
  · obtain ⟨t5, ht5, H⟩ := zbs H
    have Fl := f_qM_copyRow_b3_l (oa := 219) (by decide) zfu _ _ ht5
    replace F := zFr_t F Fl
    clear Fl
    cases H
    exact F
  · obtain ⟨t5, ht5, H⟩ := zbs H
    have Fl := f_qM_copyRow_b3_l (oa := 220) (by decide) zfu _ _ ht5
    replace F := zFr_t F Fl
    clear Fl
    cases H
    exact F
  · obtain ⟨t5, ht5, H⟩ := zbs H
    have Fl := f_qM_copyRow_b3_l (oa := 221) (by decide) zfu _ _ ht5
    replace F := zFr_t F Fl
    clear Fl
    cases H
    exact F
  · obtain ⟨t5, ht5, H⟩ := zbs H
    have Fl := f_qM_copyRow_b3_l (oa := 222) (by decide) zfu _ _ ht5
    replace F := zFr_t F Fl
    clear Fl
    cases H
    exact F
  · obtain ⟨t5, ht5, H⟩ := zbs H
    have Fl := f_qM_copyRow_b3_l (oa := 223) (by decide) zfu _ _ ht5
    replace F := zFr_t F Fl
    clear Fl
    cases H
    exact F
theorem f_qM_copyAll_b2 {h0 : zK} {x1 : Int32} {x2 : Int32} {s : Int32 × zK} {e : (Int32 × zK) ⊕ (zK)} (F : zFr [216, 217, 218, 219, 220, 221, 222, 223] h0 s.2) (H : qM_copyAll_b2 x1 x2 s = some e) : match (generalizing := false) e with | .inl s' => zFr [216, 217, 218, 219, 220, 221, 222, 223] h0 s'.2 | .inr v => zFr [216, 217, 218, 219, 220, 221, 222, 223] h0 v := by
  unfold qM_copyAll_b2 at H
  by_cases c1 : 600 ≤ s.1
  · replace H := zif_t c1 H
    cases H
    exact F
  · replace H := zif_f c1 H
    obtain ⟨j2, hj2, H⟩ := zbs H
    obtain ⟨j3, hj3, H⟩ := zbs H
    obtain ⟨h4, eh4, H⟩ := zlets H
    replace F := zFr_s F eh4 (by decide)
    cases H
    exact F
theorem f_qM_copyAll_b2_l {x1 : Int32} {x2 : Int32} (n : Nat) (s : Int32 × zK) (t : zK) (H : zloop (qM_copyAll_b2 x1 x2) n s = some t) : zFr [216, 217, 218, 219, 220, 221, 222, 223] s.2 t := by
  exact zloop_P (P := fun s => zFr [216, 217, 218, 219, 220, 221, 222, 223] s.2 t) (b := qM_copyAll_b2 x1 x2) (t := t) (fun s s2 hb hk => zFr_t (f_qM_copyAll_b2 zFr_r hb) hk) (fun s hb => f_qM_copyAll_b2 zFr_r hb) n s H
theorem f_qM_copyAll {x1 : Int32} {x2 : Int32} {h : zK} {p : zK} (H : qM_copyAll x1 x2 h = some p) : zFr [216, 217, 218, 219, 220, 221, 222, 223] h p := by
  unfold qM_copyAll at H
  obtain ⟨h0, F, e0⟩ : ∃ h0, zFr [216, 217, 218, 219, 220, 221, 222, 223] h0 h ∧ h0 = h := ⟨h, zFr_r, rfl⟩
  rw [← e0]
  clear e0
  obtain ⟨t5, ht5, H⟩ := zbs H
  have Fl := f_qM_copyAll_b2_l zfu _ _ ht5
  replace F := zFr_t F Fl
  clear Fl
  obtain ⟨p7, hp7, H⟩ := zbs H
  replace F := zFr_w F (f_qM_copyRow (by decide) hp7) (by decide)
  obtain ⟨p8, hp8, H⟩ := zbs H
  replace F := zFr_w F (f_qM_copyRow (by decide) hp8) (by decide)
  obtain ⟨p9, hp9, H⟩ := zbs H
  replace F := zFr_w F (f_qM_copyRow (by decide) hp9) (by decide)
  obtain ⟨p10, hp10, H⟩ := zbs H
  replace F := zFr_w F (f_qM_copyRow (by decide) hp10) (by decide)
  obtain ⟨p11, hp11, H⟩ := zbs H
  replace F := zFr_w F (f_qM_copyRow (by decide) hp11) (by decide)
  obtain ⟨p12, hp12, H⟩ := zbs H
  replace F := zFr_w F (f_qM_copyRow (by decide) hp12) (by decide)
  obtain ⟨p13, hp13, H⟩ := zbs H
  replace F := zFr_w F (f_qM_copyRow (by decide) hp13) (by decide)
  cases H
  exact F
theorem f_qM_four_b3 {h0 : zK} {x1 : Int32} {s : Int32 × zK} {e : (Int32 × zK) ⊕ (zK)} (F : zFr [216, 217] h0 s.2) (H : qM_four_b3 x1 s = some e) : match (generalizing := false) e with | .inl s' => zFr [216, 217] h0 s'.2 | .inr v => zFr [216, 217] h0 v := by
  unfold qM_four_b3 at H
  by_cases c1 : s.1 < 0
  · replace H := zif_t c1 H
    cases H
    exact F
  · replace H := zif_f c1 H
    obtain ⟨j2, hj2, H⟩ := zbs H
    obtain ⟨h3, eh3, H⟩ := zlets H
    replace F := zFr_s F eh3 (by decide)
    obtain ⟨h4, eh4, H⟩ := zlets H
    replace F := zFr_s F eh4 (by decide)
    cases H
    exact F
theorem f_qM_four_b3_l {x1 : Int32} (n : Nat) (s : Int32 × zK) (t : zK) (H : zloop (qM_four_b3 x1) n s = some t) : zFr [216, 217] s.2 t := by
  exact zloop_P (P := fun s => zFr [216, 217] s.2 t) (b := qM_four_b3 x1) (t := t) (fun s s2 hb hk => zFr_t (f_qM_four_b3 zFr_r hb) hk) (fun s hb => f_qM_four_b3 zFr_r hb) n s H
theorem f_qM_four {x1 : Int32} {h : zK} {p : zK} (H : qM_four x1 h = some p) : zFr [216, 217] h p := by
  unfold qM_four at H
  obtain ⟨h0, F, e0⟩ : ∃ h0, zFr [216, 217] h0 h ∧ h0 = h := ⟨h, zFr_r, rfl⟩
  rw [← e0]
  clear e0
  obtain ⟨t5, ht5, H⟩ := zbs H
  have Fl := f_qM_four_b3_l zfu _ _ ht5
  replace F := zFr_t F Fl
  clear Fl
  cases H
  exact F
theorem f_qM_feed {x1 : Int32} {x2 : Int32} {x3 : Int32} {x4 : Int32} {x5 : Int32} {h : zK} {p : Int32 × zK} (H : qM_feed x1 x2 x3 x4 x5 h = some p) : zFr [215, 216, 217] h p.2 := by
  unfold qM_feed at H
  obtain ⟨h0, F, e0⟩ : ∃ h0, zFr [215, 216, 217] h0 h ∧ h0 = h := ⟨h, zFr_r, rfl⟩
  rw [← e0]
  clear e0
  obtain ⟨h1, eh1, H⟩ := zlets H
  replace F := zFr_s F eh1 (by decide)
  by_cases c2 : ((gI h1 217 0) + 20) ≤ 600
  · replace H := zif_t c2 H
    obtain ⟨p3, hp3, H⟩ := zbs H
    replace F := zFr_w F (f_qM_four hp3) (by decide)
    obtain ⟨p4, hp4, H⟩ := zbs H
    replace F := zFr_w F (f_qM_four hp4) (by decide)
    obtain ⟨p5, hp5, H⟩ := zbs H
    replace F := zFr_w F (f_qM_four hp5) (by decide)
    obtain ⟨p6, hp6, H⟩ := zbs H
    replace F := zFr_w F (f_qM_four hp6) (by decide)
    obtain ⟨p7, hp7, H⟩ := zbs H
    replace F := zFr_w F (f_qM_four hp7) (by decide)
    cases H
    exact F
  · replace H := zif_f c2 H
    cases H
    exact F
theorem f_qM_end {x1 : Int32} {h : zK} {p : Int32 × zK} (H : qM_end x1 h = some p) : zFr [215, 217] h p.2 := by
  unfold qM_end at H
  obtain ⟨h0, F, e0⟩ : ∃ h0, zFr [215, 217] h0 h ∧ h0 = h := ⟨h, zFr_r, rfl⟩
  rw [← e0]
  clear e0
  obtain ⟨h1, eh1, H⟩ := zlets H
  replace F := zFr_s F eh1 (by decide)
  by_cases c2 : ¬ (zf_in x1 0 (gI h1 217 0)) = 0
  · replace H := zif_t c2 H
    obtain ⟨h3, eh3, H⟩ := zlets H
    replace F := zFr_s F eh3 (by decide)
    cases H
    exact F
  · replace H := zif_f c2 H
    cases H
    exact F
theorem f_qM_token_j18 {h0 : zK} {h : zK} {e : (zK) ⊕ (zK)} (F : zFr [215] h0 h) (H : qM_token_j18 h = some e) : match (generalizing := false) e with | .inl s' => zFr [215] h0 s' | .inr v => zFr [215] h0 v := by
  unfold qM_token_j18 at H
  obtain ⟨h3, eh3, H⟩ := zlets H
  replace F := zFr_s F eh3 (by decide)
  cases H
  exact F
theorem f_qM_token_b0 {h0 : zK} {s : zK} {e : (zK) ⊕ (zK)} (F : zFr [215] h0 s) (H : qM_token_b0 s = some e) : match (generalizing := false) e with | .inl s' => zFr [215] h0 s' | .inr v => zFr [215] h0 v := by
  unfold qM_token_b0 at H
  obtain ⟨p1, hp1, H⟩ := zbs H
  by_cases c2 : p1 = 10
  · replace H := zif_t c2 H
    exact f_qM_token_j18 F H
  · replace H := zif_f c2 H
    obtain ⟨p4, hp4, H⟩ := zbs H
    by_cases c5 : ¬ p4 = 32
    · replace H := zif_t c5 H
      cases H
      exact F
    · replace H := zif_f c5 H
      exact f_qM_token_j18 F H
theorem f_qM_token_b0_l (n : Nat) (s : zK) (t : zK) (H : zloop (qM_token_b0) n s = some t) : zFr [215] s t := by
  exact zloop_P (P := fun s => zFr [215] s t) (b := qM_token_b0) (t := t) (fun s s2 hb hk => zFr_t (f_qM_token_b0 zFr_r hb) hk) (fun s hb => f_qM_token_b0 zFr_r hb) n s H
theorem f_qM_token_b163 {h0 : zK} {s : Int32 × zK} {e : (Int32 × zK) ⊕ (Int32 × zK)} (F : zFr [215] h0 s.2) (H : qM_token_b163 s = some e) : match (generalizing := false) e with | .inl s' => zFr [215] h0 s'.2 | .inr v => zFr [215] h0 v.2 := by
  unfold qM_token_b163 at H
  obtain ⟨p19, hp19, H⟩ := zbs H
  by_cases c20 : (zf_in p19 48 57) = 0
  · replace H := zif_t c20 H
    cases H
    exact F
  · replace H := zif_f c20 H
    obtain ⟨v22, hv22, H⟩ := zbs H
    obtain ⟨h24, eh24, H⟩ := zlets H
    replace F := zFr_s F eh24 (by decide)
    obtain ⟨h25, eh25, H⟩ := zlets H
    replace F := zFr_s F eh25 (by decide)
    cases H
    exact F
theorem f_qM_token_b163_l (n : Nat) (s : Int32 × zK) (t : Int32 × zK) (H : zloop (qM_token_b163) n s = some t) : zFr [215] s.2 t.2 := by
  exact zloop_P (P := fun s => zFr [215] s.2 t.2) (b := qM_token_b163) (t := t) (fun s s2 hb hk => zFr_t (f_qM_token_b163 zFr_r hb) hk) (fun s hb => f_qM_token_b163 zFr_r hb) n s H
theorem f_qM_token_b74 {h0 : zK} {s : Int32 × zK} {e : (Int32 × zK) ⊕ (Int32 × zK)} (F : zFr [215] h0 s.2) (H : qM_token_b74 s = some e) : match (generalizing := false) e with | .inl s' => zFr [215] h0 s'.2 | .inr v => zFr [215] h0 v.2 := by
  unfold qM_token_b74 at H
  obtain ⟨p31, hp31, H⟩ := zbs H
  by_cases c32 : (zf_in p31 97 122) = 0
  · replace H := zif_t c32 H
    cases H
    exact F
  · replace H := zif_f c32 H
    obtain ⟨p33, hp33, H⟩ := zbs H
    obtain ⟨h34, eh34, H⟩ := zlets H
    replace F := zFr_sj F eh34 (by decide)
    obtain ⟨h35, eh35, H⟩ := zlets H
    replace F := zFr_s F eh35 (by decide)
    cases H
    exact F
theorem f_qM_token_b74_l (n : Nat) (s : Int32 × zK) (t : Int32 × zK) (H : zloop (qM_token_b74) n s = some t) : zFr [215] s.2 t.2 := by
  exact zloop_P (P := fun s => zFr [215] s.2 t.2) (b := qM_token_b74) (t := t) (fun s s2 hb hk => zFr_t (f_qM_token_b74 zFr_r hb) hk) (fun s hb => f_qM_token_b74 zFr_r hb) n s H
theorem f_qM_token  {h : zK} {p : zK} (H : qM_token h = some p) : zFr [215] h p := by
  unfold qM_token at H
  obtain ⟨h0, F, e0⟩ : ∃ h0, zFr [215] h0 h ∧ h0 = h := ⟨h, zFr_r, rfl⟩
  rw [← e0]
  clear e0
  obtain ⟨t6, ht6, H⟩ := zbs H
  have Fl := f_qM_token_b0_l zfu _ _ ht6
  replace F := zFr_t F Fl
  clear Fl
  obtain ⟨h8, eh8, H⟩ := zlets H
  replace F := zFr_s F eh8 (by decide)
  obtain ⟨p9, hp9, H⟩ := zbs H
  obtain ⟨h10, eh10, H⟩ := zlets H
  replace F := zFr_sj F eh10 (by decide)
  by_cases c11 : 0 ≤ p9
  · replace H := zif_t c11 H
    by_cases c12 : (zf_in p9 97 122) = 0
    · replace H := zif_t c12 H
      by_cases c13 : (zf_in p9 48 57) = 0
      · replace H := zif_t c13 H
        obtain ⟨h14, eh14, H⟩ := zlets H
        replace F := zFr_s F eh14 (by decide)
        by_cases c15 : ¬ p9 = 59
        · replace H := zif_t c15 H
          obtain ⟨h16, eh16, H⟩ := zlets H
          replace F := zFr_s F eh16 (by decide)
          cases H
          exact F
        · replace H := zif_f c15 H
          obtain ⟨h17, eh17, H⟩ := zlets H
          replace F := zFr_s F eh17 (by decide)
          cases H
          exact F
      · replace H := zif_f c13 H
        obtain ⟨h18, eh18, H⟩ := zlets H
        replace F := zFr_s F eh18 (by decide)
        obtain ⟨t26, ht26, H⟩ := zbs H
        have Fl := f_qM_token_b163_l zfu _ _ ht26
        replace F := zFr_t F Fl
        clear Fl
        obtain ⟨v29, hv29, H⟩ := zlets H
        obtain ⟨h30, eh30, H⟩ := zlets H
        replace F := zFr_s F eh30 (by decide)
        cases H
        exact F
    · replace H := zif_f c12 H
      obtain ⟨t36, ht36, H⟩ := zbs H
      have Fl := f_qM_token_b74_l zfu _ _ ht36
      replace F := zFr_t F Fl
      clear Fl
      obtain ⟨v39, hv39, H⟩ := zlets H
      obtain ⟨h40, eh40, H⟩ := zlets H
      replace F := zFr_sj F eh40 (by decide)
      obtain ⟨h41, eh41, H⟩ := zlets H
      replace F := zFr_s F eh41 (by decide)
      cases H
      exact F
  · replace H := zif_f c11 H
    obtain ⟨h42, eh42, H⟩ := zlets H
    replace F := zFr_s F eh42 (by decide)
    cases H
    exact F
theorem f_qM_fails  {h : zK} {p : Int32 × zK} (H : qM_fails h = some p) : zFr [215] h p.2 := by
  unfold qM_fails at H
  obtain ⟨h0, F, e0⟩ : ∃ h0, zFr [215] h0 h ∧ h0 = h := ⟨h, zFr_r, rfl⟩
  rw [← e0]
  clear e0
  obtain ⟨h1, eh1, H⟩ := zlets H
  replace F := zFr_s F eh1 (by decide)
  cases H
  exact F
theorem f_qM_addsFault_j31 {h0 : zK} {x1 : Int32} {x2 : Int32} {h : zK} {p : zK} (F : zFr [215] h0 h) (H : qM_addsFault_j31 x1 x2 h = some p) : zFr [215] h0 p := by
  unfold qM_addsFault_j31 at H
  obtain ⟨h2, eh2, H⟩ := zlets H
  replace F := zFr_s F eh2 (by decide)
  obtain ⟨h3, eh3, H⟩ := zlets H
  replace F := zFr_s F eh3 (by decide)
  cases H
  exact F
theorem f_qM_addsFault {x1 : Int32} {x2 : Int32} {h : zK} {p : zK} (H : qM_addsFault x1 x2 h = some p) : zFr [215] h p := by
  unfold qM_addsFault at H
  obtain ⟨h0, F, e0⟩ : ∃ h0, zFr [215] h0 h ∧ h0 = h := ⟨h, zFr_r, rfl⟩
  rw [← e0]
  clear e0
  by_cases c1 : (gI h 215 16) = 0
  · replace H := zif_t c1 H
    exact f_qM_addsFault_j31 F H
  · replace H := zif_f c1 H
    by_cases c4 : x2 < (gI h 215 17)
    · replace H := zif_t c4 H
      exact f_qM_addsFault_j31 F H
    · replace H := zif_f c4 H
      by_cases c5 : ¬ x2 = (gI h 215 17)
      · replace H := zif_t c5 H
        cases H
        exact F
      · replace H := zif_f c5 H
        by_cases c6 : (gI h 215 16) ≤ x1
        · replace H := zif_t c6 H
          cases H
          exact F
        · replace H := zif_f c6 H
          exact f_qM_addsFault_j31 F H
theorem f_qM_takeBut {x1 : Int32} {x2 : Int32} {x3 : Int32} {x4 : Int32} {h : zK} {p : Int32 × zK} (H : qM_takeBut x1 x2 x3 x4 h = some p) : zFr [215, 225] h p.2 := by
  unfold qM_takeBut at H
  obtain ⟨h0, F, e0⟩ : ∃ h0, zFr [215, 225] h0 h ∧ h0 = h := ⟨h, zFr_r, rfl⟩
  rw [← e0]
  clear e0
  by_cases c1 : (gI h 215 12) = 3
  · replace H := zif_t c1 H
    obtain ⟨j2, hj2, H⟩ := zbs H
    obtain ⟨h3, eh3, H⟩ := zlets H
    replace F := zFr_s F eh3 (by decide)
    obtain ⟨v5, hv5, H⟩ := zbs H
    replace F : zFr [215, 225] h0 v5 := by
      clear H
      by_cases c4 : (zf_in (gI h3 215 13) x2 x3) = 0
      · replace hv5 := zif_t c4 hv5
        obtain ⟨p6, hp6, hv5⟩ := zbs hv5
        replace F := zFr_w F (f_qM_addsFault hp6) (by decide)
        obtain ⟨h7, eh7, hv5⟩ := zlets hv5
        replace F := zFr_s F eh7 (by decide)
        cases hv5
        exact F
      · replace hv5 := zif_f c4 hv5
        by_cases c8 : ¬ (gI h3 215 13) = x4
        · replace hv5 := zif_t c8 hv5
          cases hv5
          exact F
        · replace hv5 := zif_f c8 hv5
          obtain ⟨p9, hp9, hv5⟩ := zbs hv5
          replace F := zFr_w F (f_qM_addsFault hp9) (by decide)
          obtain ⟨h10, eh10, hv5⟩ := zlets hv5
          replace F := zFr_s F eh10 (by decide)
          cases hv5
          exact F
    obtain ⟨p11, hp11, H⟩ := zbs H
    replace F := zFr_w F (f_qM_token hp11) (by decide)
    cases H
    exact F
  · replace H := zif_f c1 H
    obtain ⟨p12, hp12, H⟩ := zbs H
    replace F := zFr_w F (f_qM_fails hp12) (by decide)
    obtain ⟨c13, H⟩ := zifn H
    cases H
    exact F
theorem f_qM_take {x1 : Int32} {x2 : Int32} {x3 : Int32} {h : zK} {p : Int32 × zK} (H : qM_take x1 x2 x3 h = some p) : zFr [215, 225] h p.2 := by
  unfold qM_take at H
  obtain ⟨h0, F, e0⟩ : ∃ h0, zFr [215, 225] h0 h ∧ h0 = h := ⟨h, zFr_r, rfl⟩
  rw [← e0]
  clear e0
  obtain ⟨p1, hp1, H⟩ := zbs H
  replace F := zFr_w F (f_qM_takeBut hp1) (by decide)
  obtain ⟨c2, H⟩ := zifn H
  cases H
  exact F
theorem f_qM_full {x1 : Int32} {x2 : Int32} {x3 : Int32} {h : zK} {p : zK} (H : qM_full x1 x2 x3 h = some p) : zFr [215] h p := by
  unfold qM_full at H
  obtain ⟨h0, F, e0⟩ : ∃ h0, zFr [215] h0 h ∧ h0 = h := ⟨h, zFr_r, rfl⟩
  rw [← e0]
  clear e0
  obtain ⟨j1, hj1, H⟩ := zbs H
  by_cases c2 : ¬ (gI h 224 j1) = x2
  · replace H := zif_t c2 H
    cases H
    exact F
  · replace H := zif_f c2 H
    obtain ⟨p3, hp3, H⟩ := zbs H
    replace F := zFr_w F (f_qM_addsFault hp3) (by decide)
    cases H
    exact F
theorem f_qM_sayingLine_b87 {h0 : zK} {x2 : Int32} {s : Int32 × zK} {e : (Int32 × zK) ⊕ (zK)} (F : zFr [215, 224, 225] h0 s.2) (H : qM_sayingLine_b87 x2 s = some e) : match (generalizing := false) e with | .inl s' => zFr [215, 224, 225] h0 s'.2 | .inr v => zFr [215, 224, 225] h0 v := by
  unfold qM_sayingLine_b87 at H
  by_cases c15 : 6 ≤ s.1
  · replace H := zif_t c15 H
    cases H
    exact F
  · replace H := zif_f c15 H
    by_cases c16 : 7 ≤ x2
    · replace H := zif_t c16 H
      cases H
      exact F
    · replace H := zif_f c16 H
      obtain ⟨j17, hj17, H⟩ := zbs H
      obtain ⟨j18, hj18, H⟩ := zbs H
      obtain ⟨h19, eh19, H⟩ := zlets H
      replace F := zFr_s F eh19 (by decide)
      cases H
      exact F
theorem f_qM_sayingLine_b87_l {x2 : Int32} (n : Nat) (s : Int32 × zK) (t : zK) (H : zloop (qM_sayingLine_b87 x2) n s = some t) : zFr [215, 224, 225] s.2 t := by
  exact zloop_P (P := fun s => zFr [215, 224, 225] s.2 t) (b := qM_sayingLine_b87 x2) (t := t) (fun s s2 hb hk => zFr_t (f_qM_sayingLine_b87 zFr_r hb) hk) (fun s hb => f_qM_sayingLine_b87 zFr_r hb) n s H
theorem f_qM_sayingLine {x1 : Int32} {h : zK} {p : Int32 × zK} (H : qM_sayingLine x1 h = some p) : zFr [215, 224, 225] h p.2 := by
  unfold qM_sayingLine at H
  obtain ⟨h0, F, e0⟩ : ∃ h0, zFr [215, 224, 225] h0 h ∧ h0 = h := ⟨h, zFr_r, rfl⟩
  rw [← e0]
  clear e0
  obtain ⟨p1, hp1, H⟩ := zbs H
  replace F := zFr_w F (f_qM_full hp1) (by decide)
  obtain ⟨p2, hp2, H⟩ := zbs H
  replace F := zFr_w F (f_qM_token hp2) (by decide)
  obtain ⟨p3, hp3, H⟩ := zbs H
  replace F := zFr_w F (f_qM_take hp3) (by decide)
  by_cases c4 : p3.1 = 0
  · replace H := zif_t c4 H
    cases H
    exact F
  · replace H := zif_f c4 H
    obtain ⟨p5, hp5, H⟩ := zbs H
    replace F := zFr_w F (f_qM_take hp5) (by decide)
    by_cases c6 : p5.1 = 0
    · replace H := zif_t c6 H
      cases H
      exact F
    · replace H := zif_f c6 H
      obtain ⟨p7, hp7, H⟩ := zbs H
      replace F := zFr_w F (f_qM_take hp7) (by decide)
      by_cases c8 : p7.1 = 0
      · replace H := zif_t c8 H
        cases H
        exact F
      · replace H := zif_f c8 H
        obtain ⟨p9, hp9, H⟩ := zbs H
        replace F := zFr_w F (f_qM_take hp9) (by decide)
        by_cases c10 : p9.1 = 0
        · replace H := zif_t c10 H
          cases H
          exact F
        · replace H := zif_f c10 H
          obtain ⟨p11, hp11, H⟩ := zbs H
          replace F := zFr_w F (f_qM_take hp11) (by decide)
          by_cases c12 : p11.1 = 0
          · replace H := zif_t c12 H
            cases H
            exact F
          · replace H := zif_f c12 H
            obtain ⟨p13, hp13, H⟩ := zbs H
            replace F := zFr_w F (f_qM_take hp13) (by decide)
            by_cases c14 : ¬ p13.1 = 0
            · replace H := zif_t c14 H
              obtain ⟨t20, ht20, H⟩ := zbs H
              have Fl := f_qM_sayingLine_b87_l zfu _ _ ht20
              replace F := zFr_t F Fl
              clear Fl
              obtain ⟨h22, eh22, H⟩ := zlets H
              replace F := zFr_s F eh22 (by decide)
              cases H
              exact F
            · replace H := zif_f c14 H
              cases H
              exact F
theorem f_qM_cellarLine_j43 {h0 : zK} {x1 : Int64} {h : zK} {p : Int32 × zK} (F : zFr [215, 224, 225] h0 h) (H : qM_cellarLine_j43 x1 h = some p) : zFr [215, 224, 225] h0 p.2 := by
  unfold qM_cellarLine_j43 at H
  obtain ⟨p3, hp3, H⟩ := zbs H
  replace F := zFr_w F (f_qM_token hp3) (by decide)
  by_cases c4 : (lg_cmp x1 27424514944365171) = 0
  · replace H := zif_t c4 H
    obtain ⟨p5, hp5, H⟩ := zbs H
    replace F := zFr_w F (f_qM_take hp5) (by decide)
    by_cases c6 : p5.1 = 0
    · replace H := zif_t c6 H
      cases H
      exact F
    · replace H := zif_f c6 H
      obtain ⟨p7, hp7, H⟩ := zbs H
      replace F := zFr_w F (f_qM_takeBut hp7) (by decide)
      by_cases c8 : ¬ p7.1 = 0
      · replace H := zif_t c8 H
        obtain ⟨h9, eh9, H⟩ := zlets H
        replace F := zFr_s F eh9 (by decide)
        by_cases c10 : (gI h9 215 21) = 0
        · replace H := zif_t c10 H
          cases H
          exact F
        · replace H := zif_f c10 H
          obtain ⟨j11, hj11, H⟩ := zbs H
          obtain ⟨h12, eh12, H⟩ := zlets H
          replace F := zFr_s F eh12 (by decide)
          cases H
          exact F
      · replace H := zif_f c8 H
        cases H
        exact F
  · replace H := zif_f c4 H
    obtain ⟨v14, hv14, H⟩ := zlets H
    obtain ⟨p15, hp15, H⟩ := zbs H
    replace F := zFr_w F (f_qM_take hp15) (by decide)
    by_cases c16 : ¬ p15.1 = 0
    · replace H := zif_t c16 H
      obtain ⟨v18, hv18, H⟩ := zbs H
      obtain ⟨j20, hj20, H⟩ := zbs H
      obtain ⟨h21, eh21, H⟩ := zlets H
      replace F := zFr_s F eh21 (by decide)
      cases H
      exact F
    · replace H := zif_f c16 H
      cases H
      exact F
theorem f_qM_cellarLine {x1 : Int64} {x3 : Int32} {h : zK} {p : Int32 × zK} (H : qM_cellarLine x1 x3 h = some p) : zFr [215, 224, 225] h p.2 := by
  unfold qM_cellarLine at H
  obtain ⟨h0, F, e0⟩ : ∃ h0, zFr [215, 224, 225] h0 h ∧ h0 = h := ⟨h, zFr_r, rfl⟩
  rw [← e0]
  clear e0
  by_cases c1 : ¬ (lg_cmp x1 126862485974631) = 0
  · replace H := zif_t c1 H
    by_cases c2 : (lg_cmp x1 495673369451) = 0
    · replace H := zif_t c2 H
      exact f_qM_cellarLine_j43 F H
    · replace H := zif_f c2 H
      by_cases c22 : (lg_cmp x1 491327153000) = 0
      · replace H := zif_t c22 H
        exact f_qM_cellarLine_j43 F H
      · replace H := zif_f c22 H
        by_cases c23 : (lg_cmp x1 27424514944365171) = 0
        · replace H := zif_t c23 H
          exact f_qM_cellarLine_j43 F H
        · replace H := zif_f c23 H
          obtain ⟨p24, hp24, H⟩ := zbs H
          replace F := zFr_w F (f_qM_fails hp24) (by decide)
          obtain ⟨c25, H⟩ := zifn H
          cases H
          exact F
  · replace H := zif_f c1 H
    obtain ⟨p26, hp26, H⟩ := zbs H
    replace F := zFr_w F (f_qM_sayingLine hp26) (by decide)
    obtain ⟨c27, H⟩ := zifn H
    cases H
    exact F
theorem f_qM_keepRow_b16 {h0 : zK} {x1 : Int32} {x3 : Int32} {s : Int32 × zK} {e : (Int32 × zK) ⊕ (zK)} (F : zFr [224] h0 s.2) (H : qM_keepRow_b16 x1 x3 s = some e) : match (generalizing := false) e with | .inl s' => zFr [224] h0 s'.2 | .inr v => zFr [224] h0 v := by
  unfold qM_keepRow_b16 at H
  by_cases c2 : x1 ≤ s.1
  · replace H := zif_t c2 H
    cases H
    exact F
  · replace H := zif_f c2 H
    obtain ⟨j3, hj3, H⟩ := zbs H
    obtain ⟨j4, hj4, H⟩ := zbs H
    obtain ⟨h5, eh5, H⟩ := zlets H
    replace F := zFr_s F eh5 (by decide)
    cases H
    exact F
theorem f_qM_keepRow_b16_l {x1 : Int32} {x3 : Int32} (n : Nat) (s : Int32 × zK) (t : zK) (H : zloop (qM_keepRow_b16 x1 x3) n s = some t) : zFr [224] s.2 t := by
  exact zloop_P (P := fun s => zFr [224] s.2 t) (b := qM_keepRow_b16 x1 x3) (t := t) (fun s s2 hb hk => zFr_t (f_qM_keepRow_b16 zFr_r hb) hk) (fun s hb => f_qM_keepRow_b16 zFr_r hb) n s H
theorem f_qM_keepRow {x1 : Int32} {x2 : Int32} {h : zK} {p : zK} (H : qM_keepRow x1 x2 h = some p) : zFr [224] h p := by
  unfold qM_keepRow at H
  obtain ⟨h0, F, e0⟩ : ∃ h0, zFr [224] h0 h ∧ h0 = h := ⟨h, zFr_r, rfl⟩
  rw [← e0]
  clear e0
  by_cases c1 : ¬ (gI h 224 0) = x2
  · replace H := zif_t c1 H
    obtain ⟨t6, ht6, H⟩ := zbs H
    have Fl := f_qM_keepRow_b16_l zfu _ _ ht6
    replace F := zFr_t F Fl
    clear Fl
    obtain ⟨h8, eh8, H⟩ := zlets H
    replace F := zFr_s F eh8 (by decide)
    cases H
    exact F
  · replace H := zif_f c1 H
    cases H
    exact F
theorem f_qM_yearsLine_j79 {h0 : zK} {x4 : Int32} {h : zK} {p : Int32 × zK} (F : zFr [215, 224, 225] h0 h) (H : qM_yearsLine_j79 x4 h = some p) : zFr [215, 224, 225] h0 p.2 := by
  unfold qM_yearsLine_j79 at H
  obtain ⟨h8, eh8, H⟩ := zlets H
  replace F := zFr_s F eh8 (by decide)
  obtain ⟨p9, hp9, H⟩ := zbs H
  replace F := zFr_w F (f_qM_keepRow hp9) (by decide)
  cases H
  exact F
theorem f_qM_yearsLine_j60 {h0 : zK} {x4 : Int32} {h : zK} {p : Int32 × zK} (F : zFr [215, 224, 225] h0 h) (H : qM_yearsLine_j60 x4 h = some p) : zFr [215, 224, 225] h0 p.2 := by
  unfold qM_yearsLine_j60 at H
  by_cases c7 : ¬ x4 = 4
  · replace H := zif_t c7 H
    exact f_qM_yearsLine_j79 F H
  · replace H := zif_f c7 H
    obtain ⟨p10, hp10, H⟩ := zbs H
    replace F := zFr_w F (f_qM_take hp10) (by decide)
    by_cases c11 : ¬ p10.1 = 0
    · replace H := zif_t c11 H
      exact f_qM_yearsLine_j79 F H
    · replace H := zif_f c11 H
      cases H
      exact F
theorem f_qM_yearsLine {x1 : Int64} {x3 : Int32} {h : zK} {p : Int32 × zK} (H : qM_yearsLine x1 x3 h = some p) : zFr [215, 224, 225] h p.2 := by
  unfold qM_yearsLine at H
  obtain ⟨h0, F, e0⟩ : ∃ h0, zFr [215, 224, 225] h0 h ∧ h0 = h := ⟨h, zFr_r, rfl⟩
  rw [← e0]
  clear e0
  by_cases c1 : ¬ (qM_deedBy x1) = (-1)
  · replace H := zif_t c1 H
    obtain ⟨p2, hp2, H⟩ := zbs H
    replace F := zFr_w F (f_qM_full hp2) (by decide)
    obtain ⟨p3, hp3, H⟩ := zbs H
    replace F := zFr_w F (f_qM_token hp3) (by decide)
    obtain ⟨h4, eh4, H⟩ := zlets H
    replace F := zFr_s F eh4 (by decide)
    obtain ⟨h5, eh5, H⟩ := zlets H
    replace F := zFr_s F eh5 (by decide)
    by_cases c6 : (qM_deedBy x1) = 0
    · replace H := zif_t c6 H
      exact f_qM_yearsLine_j60 F H
    · replace H := zif_f c6 H
      obtain ⟨p12, hp12, H⟩ := zbs H
      replace F := zFr_w F (f_qM_take hp12) (by decide)
      by_cases c13 : p12.1 = 0
      · replace H := zif_t c13 H
        cases H
        exact F
      · replace H := zif_f c13 H
        exact f_qM_yearsLine_j60 F H
  · replace H := zif_f c1 H
    obtain ⟨p14, hp14, H⟩ := zbs H
    replace F := zFr_w F (f_qM_fails hp14) (by decide)
    obtain ⟨c15, H⟩ := zifn H
    cases H
    exact F
theorem f_qM_logLine {x1 : Int64} {x3 : Int32} {h : zK} {p : Int32 × zK} (H : qM_logLine x1 x3 h = some p) : zFr [215, 224, 225] h p.2 := by
  unfold qM_logLine at H
  obtain ⟨h0, F, e0⟩ : ∃ h0, zFr [215, 224, 225] h0 h ∧ h0 = h := ⟨h, zFr_r, rfl⟩
  rw [← e0]
  clear e0
  by_cases c1 : (lg_cmp x1 448377483876) = 0
  · replace H := zif_t c1 H
    obtain ⟨p2, hp2, H⟩ := zbs H
    replace F := zFr_w F (f_qM_full hp2) (by decide)
    obtain ⟨p3, hp3, H⟩ := zbs H
    replace F := zFr_w F (f_qM_token hp3) (by decide)
    obtain ⟨p4, hp4, H⟩ := zbs H
    replace F := zFr_w F (f_qM_take hp4) (by decide)
    by_cases c5 : p4.1 = 0
    · replace H := zif_t c5 H
      cases H
      exact F
    · replace H := zif_f c5 H
      obtain ⟨p6, hp6, H⟩ := zbs H
      replace F := zFr_w F (f_qM_take hp6) (by decide)
      by_cases c7 : ¬ p6.1 = 0
      · replace H := zif_t c7 H
        obtain ⟨p8, hp8, H⟩ := zbs H
        replace F := zFr_w F (f_qM_keepRow hp8) (by decide)
        cases H
        exact F
      · replace H := zif_f c7 H
        cases H
        exact F
  · replace H := zif_f c1 H
    obtain ⟨p9, hp9, H⟩ := zbs H
    replace F := zFr_w F (f_qM_fails hp9) (by decide)
    obtain ⟨c10, H⟩ := zifn H
    cases H
    exact F
theorem f_qM_allLines_b2 {h0 : zK} {x1 : Int32} {s : Int32 × zK} {e : (Int32 × zK) ⊕ (Int32 × zK)} (F : zFr [215, 224, 225] h0 s.2) (H : qM_allLines_b2 x1 s = some e) : match (generalizing := false) e with | .inl s' => zFr [215, 224, 225] h0 s'.2 | .inr v => zFr [215, 224, 225] h0 v.2 := by
  unfold qM_allLines_b2 at H
  by_cases c1 : s.1 = 0
  · replace H := zif_t c1 H
    cases H
    exact F
  · replace H := zif_f c1 H
    by_cases c2 : (gI s.2 215 12) = 0
    · replace H := zif_t c2 H
      cases H
      exact F
    · replace H := zif_f c2 H
      obtain ⟨v4, hv4, H⟩ := zlets H
      obtain ⟨h5, eh5, H⟩ := zlets H
      replace F := zFr_s F eh5 (by decide)
      obtain ⟨v7, hv7, H⟩ := zbs H
      replace F : zFr [215, 224, 225] h0 v7.2 := by
        clear H
        by_cases c6 : ¬ x1 = 0
        · replace hv7 := zif_t c6 hv7
          by_cases c8 : ¬ x1 = 1
          · replace hv7 := zif_t c8 hv7
            obtain ⟨p9, hp9, hv7⟩ := zbs hv7
            replace F := zFr_w F (f_qM_logLine hp9) (by decide)
            cases hv7
            exact F
          · replace hv7 := zif_f c8 hv7
            obtain ⟨p10, hp10, hv7⟩ := zbs hv7
            replace F := zFr_w F (f_qM_yearsLine hp10) (by decide)
            cases hv7
            exact F
        · replace hv7 := zif_f c6 hv7
          obtain ⟨p11, hp11, hv7⟩ := zbs hv7
          replace F := zFr_w F (f_qM_cellarLine hp11) (by decide)
          cases hv7
          exact F
      obtain ⟨v13, hv13, H⟩ := zbs H
      replace F : zFr [215, 224, 225] h0 v13.2 := by
        clear H
        by_cases c12 : v7.1 = 0
        · replace hv13 := zif_t c12 hv13
          cases hv13
          exact F
        · replace hv13 := zif_f c12 hv13
          by_cases c14 : (gI v7.2 215 12) = 4
          · replace hv13 := zif_t c14 hv13
            cases hv13
            exact F
          · replace hv13 := zif_f c14 hv13
            obtain ⟨p15, hp15, hv13⟩ := zbs hv13
            replace F := zFr_w F (f_qM_fails hp15) (by decide)
            cases hv13
            exact F
      obtain ⟨v17, hv17, H⟩ := zbs H
      replace F : zFr [215, 224, 225] h0 v17 := by
        clear H
        by_cases c16 : v13.1 = 0
        · replace hv17 := zif_t c16 hv17
          cases hv17
          exact F
        · replace hv17 := zif_f c16 hv17
          obtain ⟨p18, hp18, hv17⟩ := zbs hv17
          replace F := zFr_w F (f_qM_token hp18) (by decide)
          cases hv17
          exact F
      cases H
      exact F
theorem f_qM_allLines_b2_l {x1 : Int32} (n : Nat) (s : Int32 × zK) (t : Int32 × zK) (H : zloop (qM_allLines_b2 x1) n s = some t) : zFr [215, 224, 225] s.2 t.2 := by
  exact zloop_P (P := fun s => zFr [215, 224, 225] s.2 t.2) (b := qM_allLines_b2 x1) (t := t) (fun s s2 hb hk => zFr_t (f_qM_allLines_b2 zFr_r hb) hk) (fun s hb => f_qM_allLines_b2 zFr_r hb) n s H
theorem f_qM_allLines {x1 : Int32} {h : zK} {p : Int32 × zK} (H : qM_allLines x1 h = some p) : zFr [215, 224, 225] h p.2 := by
  unfold qM_allLines at H
  obtain ⟨h0, F, e0⟩ : ∃ h0, zFr [215, 224, 225] h0 h ∧ h0 = h := ⟨h, zFr_r, rfl⟩
  rw [← e0]
  clear e0
  obtain ⟨t19, ht19, H⟩ := zbs H
  have Fl := f_qM_allLines_b2_l zfu _ _ ht19
  replace F := zFr_t F Fl
  clear Fl
  obtain ⟨c21, H⟩ := zifn H
  cases H
  exact F
theorem f_qM_readText_b2 {h0 : zK} {x1 : Int32} {s : Int32 × zK} {e : (Int32 × zK) ⊕ (zK)} (F : zFr [215, 218, 219, 224, 225] h0 s.2) (H : qM_readText_b2 x1 s = some e) : match (generalizing := false) e with | .inl s' => zFr [215, 218, 219, 224, 225] h0 s'.2 | .inr v => zFr [215, 218, 219, 224, 225] h0 v := by
  unfold qM_readText_b2 at H
  by_cases c1 : 121 ≤ s.1
  · replace H := zif_t c1 H
    cases H
    exact F
  · replace H := zif_f c1 H
    obtain ⟨j2, hj2, H⟩ := zbs H
    obtain ⟨h3, eh3, H⟩ := zlets H
    replace F := zFr_s F eh3 (by decide)
    cases H
    exact F
theorem f_qM_readText_b2_l {x1 : Int32} (n : Nat) (s : Int32 × zK) (t : zK) (H : zloop (qM_readText_b2 x1) n s = some t) : zFr [215, 218, 219, 224, 225] s.2 t := by
  exact zloop_P (P := fun s => zFr [215, 218, 219, 224, 225] s.2 t) (b := qM_readText_b2 x1) (t := t) (fun s s2 hb hk => zFr_t (f_qM_readText_b2 zFr_r hb) hk) (fun s hb => f_qM_readText_b2 zFr_r hb) n s H
theorem f_qM_readText {x1 : Int32} {h : zK} {p : Int32 × zK} (H : qM_readText x1 h = some p) : zFr [215, 218, 219, 224, 225] h p.2 := by
  unfold qM_readText at H
  obtain ⟨h0, F, e0⟩ : ∃ h0, zFr [215, 218, 219, 224, 225] h0 h ∧ h0 = h := ⟨h, zFr_r, rfl⟩
  rw [← e0]
  clear e0
  obtain ⟨t4, ht4, H⟩ := zbs H
  have Fl := f_qM_readText_b2_l zfu _ _ ht4
  replace F := zFr_t F Fl
  clear Fl
  obtain ⟨v7, hv7, H⟩ := zlets H
  obtain ⟨h8, eh8, H⟩ := zlets H
  replace F := zFr_s F eh8 (by decide)
  obtain ⟨v10, hv10, H⟩ := zlets H
  obtain ⟨h11, eh11, H⟩ := zlets H
  replace F := zFr_s F eh11 (by decide)
  obtain ⟨h12, eh12, H⟩ := zlets H
  replace F := zFr_s F eh12 (by decide)
  obtain ⟨h13, eh13, H⟩ := zlets H
  replace F := zFr_s F eh13 (by decide)
  obtain ⟨h14, eh14, H⟩ := zlets H
  replace F := zFr_s F eh14 (by decide)
  obtain ⟨p15, hp15, H⟩ := zbs H
  replace F := zFr_w F (f_qM_token hp15) (by decide)
  obtain ⟨p16, hp16, H⟩ := zbs H
  replace F := zFr_w F (f_qM_allLines hp16) (by decide)
  obtain ⟨v18, hv18, H⟩ := zbs H
  replace F : zFr [215, 218, 219, 224, 225] h0 v18 := by
    clear H
    by_cases c17 : p16.1 = 0
    · replace hv18 := zif_t c17 hv18
      cases hv18
      exact F
    · replace hv18 := zif_f c17 hv18
      by_cases c19 : ¬ x1 = 0
      · replace hv18 := zif_t c19 hv18
        cases hv18
        exact F
      · replace hv18 := zif_f c19 hv18
        by_cases c20 : ¬ (gI p16.2 215 16) = 0
        · replace hv18 := zif_t c20 hv18
          cases hv18
          exact F
        · replace hv18 := zif_f c20 hv18
          by_cases c21 : (gI p16.2 215 20) < (gI p16.2 224 2)
          · replace hv18 := zif_t c21 hv18
            cases hv18
            exact F
          · replace hv18 := zif_f c21 hv18
            obtain ⟨p22, hp22, hv18⟩ := zbs hv18
            replace F := zFr_w F (f_qM_addsFault hp22) (by decide)
            cases hv18
            exact F
  obtain ⟨v24, hv24, H⟩ := zlets H
  obtain ⟨h25, eh25, H⟩ := zlets H
  replace F := zFr_s F eh25 (by decide)
  obtain ⟨v27, hv27, H⟩ := zlets H
  obtain ⟨h29, eh29, H⟩ := zlets H
  replace F := zFr_s F eh29 (by decide)
  by_cases c30 : ¬ (gI h29 218 0) = 0
  · replace H := zif_t c30 H
    cases H
    exact F
  · replace H := zif_f c30 H
    cases H
    exact F
theorem f_qM_store_b3 {h0 : zK} {oa : Nat} {x2 : Int32} {x3 : Int32} {s : Int32 × zK} {e : (Int32 × zK) ⊕ (zK)} (ho : oa = 221 ∨ oa = 222 ∨ oa = 223) (F : zFr [221, 222, 223] h0 s.2) (H : qM_store_b3 oa x2 x3 s = some e) : match (generalizing := false) e with | .inl s' => zFr [221, 222, 223] h0 s'.2 | .inr v => zFr [221, 222, 223] h0 v := by
  unfold qM_store_b3 at H
  rcases ho with rfl | rfl | rfl
  · by_cases c1 : x2 ≤ s.1
    · replace H := zif_t c1 H
      cases H
      exact F
    · replace H := zif_f c1 H
      obtain ⟨j2, hj2, H⟩ := zbs H
      obtain ⟨j3, hj3, H⟩ := zbs H
      obtain ⟨h4, eh4, H⟩ := zlets H
      replace F := zFr_s F eh4 (by decide)
      cases H
      exact F
  · by_cases c1 : x2 ≤ s.1
    · replace H := zif_t c1 H
      cases H
      exact F
    · replace H := zif_f c1 H
      obtain ⟨j2, hj2, H⟩ := zbs H
      obtain ⟨j3, hj3, H⟩ := zbs H
      obtain ⟨h4, eh4, H⟩ := zlets H
      replace F := zFr_s F eh4 (by decide)
      cases H
      exact F
  · by_cases c1 : x2 ≤ s.1
    · replace H := zif_t c1 H
      cases H
      exact F
    · replace H := zif_f c1 H
      obtain ⟨j2, hj2, H⟩ := zbs H
      obtain ⟨j3, hj3, H⟩ := zbs H
      obtain ⟨h4, eh4, H⟩ := zlets H
      replace F := zFr_s F eh4 (by decide)
      cases H
      exact F
theorem f_qM_store_b3_l {oa : Nat} {x2 : Int32} {x3 : Int32} (ho : oa = 221 ∨ oa = 222 ∨ oa = 223) (n : Nat) (s : Int32 × zK) (t : zK) (H : zloop (qM_store_b3 oa x2 x3) n s = some t) : zFr [221, 222, 223] s.2 t := by
  exact zloop_P (P := fun s => zFr [221, 222, 223] s.2 t) (b := qM_store_b3 oa x2 x3) (t := t) (fun s s2 hb hk => zFr_t (f_qM_store_b3 ho zFr_r hb) hk) (fun s hb => f_qM_store_b3 ho zFr_r hb) n s H
theorem f_qM_store {oa : Nat} {x2 : Int32} {x3 : Int32} {h : zK} {p : zK} (ho : oa = 221 ∨ oa = 222 ∨ oa = 223) (H : qM_store oa x2 x3 h = some p) : zFr [221, 222, 223] h p := by
  unfold qM_store at H
  obtain ⟨h0, F, e0⟩ : ∃ h0, zFr [221, 222, 223] h0 h ∧ h0 = h := ⟨h, zFr_r, rfl⟩
  rw [← e0]
  clear e0
  rcases ho with rfl | rfl | rfl
  · obtain ⟨t5, ht5, H⟩ := zbs H
    have Fl := f_qM_store_b3_l (oa := 221) (by decide) zfu _ _ ht5
    replace F := zFr_t F Fl
    clear Fl
    cases H
    exact F
  · obtain ⟨t5, ht5, H⟩ := zbs H
    have Fl := f_qM_store_b3_l (oa := 222) (by decide) zfu _ _ ht5
    replace F := zFr_t F Fl
    clear Fl
    cases H
    exact F
  · obtain ⟨t5, ht5, H⟩ := zbs H
    have Fl := f_qM_store_b3_l (oa := 223) (by decide) zfu _ _ ht5
    replace F := zFr_t F Fl
    clear Fl
    cases H
    exact F
theorem f_qM_text_j75 {h0 : zK} {x1 : Int32} {x2 : Int32} {h : zK} {p : Int32 × zK} (F : zFr [215, 217, 218, 219, 220, 221, 222, 223, 224, 225] h0 h) (H : qM_text_j75 x1 x2 h = some p) : zFr [215, 217, 218, 219, 220, 221, 222, 223, 224, 225] h0 p.2 := by
  unfold qM_text_j75 at H
  obtain ⟨p10, hp10, H⟩ := zbs H
  replace F := zFr_w F (f_qM_readText hp10) (by decide)
  by_cases c11 : ¬ p10.1 = 0
  · replace H := zif_t c11 H
    obtain ⟨v13, hv13, H⟩ := zbs H
    obtain ⟨j15, hj15, H⟩ := zbs H
    obtain ⟨v17, hv17, H⟩ := zlets H
    obtain ⟨h18, eh18, H⟩ := zlets H
    replace F := zFr_s F eh18 (by decide)
    by_cases c19 : ¬ x1 = 0
    · replace H := zif_t c19 H
      by_cases c20 : ¬ x1 = 1
      · replace H := zif_t c20 H
        obtain ⟨p21, hp21, H⟩ := zbs H
        replace F := zFr_w F (f_qM_store (by decide) hp21) (by decide)
        cases H
        exact F
      · replace H := zif_f c20 H
        obtain ⟨p22, hp22, H⟩ := zbs H
        replace F := zFr_w F (f_qM_store (by decide) hp22) (by decide)
        cases H
        exact F
    · replace H := zif_f c19 H
      obtain ⟨p23, hp23, H⟩ := zbs H
      replace F := zFr_w F (f_qM_store (by decide) hp23) (by decide)
      cases H
      exact F
  · replace H := zif_f c11 H
    cases H
    exact F
theorem f_qM_text {x1 : Int32} {x2 : Int32} {h : zK} {p : Int32 × zK} (H : qM_text x1 x2 h = some p) : zFr [215, 217, 218, 219, 220, 221, 222, 223, 224, 225] h p.2 := by
  unfold qM_text at H
  obtain ⟨h0, F, e0⟩ : ∃ h0, zFr [215, 217, 218, 219, 220, 221, 222, 223, 224, 225] h0 h ∧ h0 = h := ⟨h, zFr_r, rfl⟩
  rw [← e0]
  clear e0
  obtain ⟨h1, eh1, H⟩ := zlets H
  replace F := zFr_s F eh1 (by decide)
  obtain ⟨h2, eh2, H⟩ := zlets H
  replace F := zFr_s F eh2 (by decide)
  obtain ⟨h3, eh3, H⟩ := zlets H
  replace F := zFr_s F eh3 (by decide)
  obtain ⟨h4, eh4, H⟩ := zlets H
  replace F := zFr_s F eh4 (by decide)
  obtain ⟨h5, eh5, H⟩ := zlets H
  replace F := zFr_s F eh5 (by decide)
  by_cases c6 : (zf_in x1 0 2) = 0
  · replace H := zif_t c6 H
    cases H
    exact F
  · replace H := zif_f c6 H
    by_cases c7 : ¬ x2 = (-1)
    · replace H := zif_t c7 H
      obtain ⟨p8, hp8, H⟩ := zbs H
      by_cases c9 : ¬ p8 = 0
      · replace H := zif_t c9 H
        exact f_qM_text_j75 F H
      · replace H := zif_f c9 H
        cases H
        exact F
    · replace H := zif_f c7 H
      obtain ⟨j24, hj24, H⟩ := zbs H
      by_cases c25 : ¬ (gI h5 220 j24) = 2
      · replace H := zif_t c25 H
        exact f_qM_text_j75 F H
      · replace H := zif_f c25 H
        cases H
        exact F
theorem f_qM_fault {x1 : Int32} {h : zK} {p : Int32 × zK} (H : qM_fault x1 h = some p) : zFr [215] h p.2 := by
  unfold qM_fault at H
  obtain ⟨h0, F, e0⟩ : ∃ h0, zFr [215] h0 h ∧ h0 = h := ⟨h, zFr_r, rfl⟩
  rw [← e0]
  clear e0
  obtain ⟨h1, eh1, H⟩ := zlets H
  replace F := zFr_s F eh1 (by decide)
  by_cases c2 : ¬ x1 = 0
  · replace H := zif_t c2 H
    by_cases c3 : ¬ x1 = 1
    · replace H := zif_t c3 H
      cases H
      exact F
    · replace H := zif_f c3 H
      cases H
      exact F
  · replace H := zif_f c2 H
    cases H
    exact F
theorem f_qM_asTold_b37 {h0 : zK} {s : Int32 × zK} {e : (Int32 × zK) ⊕ (zK)} (F : zFr [215, 226, 227, 228, 229] h0 s.2) (H : qM_asTold_b37 s = some e) : match (generalizing := false) e with | .inl s' => zFr [215, 226, 227, 228, 229] h0 s'.2 | .inr v => zFr [215, 226, 227, 228, 229] h0 v := by
  unfold qM_asTold_b37 at H
  by_cases c8 : 7 ≤ s.1
  · replace H := zif_t c8 H
    cases H
    exact F
  · replace H := zif_f c8 H
    obtain ⟨p9, hp9, H⟩ := zbs H
    obtain ⟨j10, hj10, H⟩ := zbs H
    obtain ⟨h11, eh11, H⟩ := zlets H
    replace F := zFr_s F eh11 (by decide)
    obtain ⟨p12, hp12, H⟩ := zbs H
    obtain ⟨h13, eh13, H⟩ := zlets H
    replace F := zFr_s F eh13 (by decide)
    obtain ⟨p14, hp14, H⟩ := zbs H
    obtain ⟨h15, eh15, H⟩ := zlets H
    replace F := zFr_s F eh15 (by decide)
    obtain ⟨p16, hp16, H⟩ := zbs H
    obtain ⟨h17, eh17, H⟩ := zlets H
    replace F := zFr_s F eh17 (by decide)
    cases H
    exact F
theorem f_qM_asTold_b37_l (n : Nat) (s : Int32 × zK) (t : zK) (H : zloop (qM_asTold_b37) n s = some t) : zFr [215, 226, 227, 228, 229] s.2 t := by
  exact zloop_P (P := fun s => zFr [215, 226, 227, 228, 229] s.2 t) (b := qM_asTold_b37) (t := t) (fun s s2 hb hk => zFr_t (f_qM_asTold_b37 zFr_r hb) hk) (fun s hb => f_qM_asTold_b37 zFr_r hb) n s H
theorem f_qM_asTold  {h : zK} {p : zK} (H : qM_asTold h = some p) : zFr [215, 226, 227, 228, 229] h p := by
  unfold qM_asTold at H
  obtain ⟨h0, F, e0⟩ : ∃ h0, zFr [215, 226, 227, 228, 229] h0 h ∧ h0 = h := ⟨h, zFr_r, rfl⟩
  rw [← e0]
  clear e0
  obtain ⟨h1, eh1, H⟩ := zlets H
  replace F := zFr_s F eh1 (by decide)
  obtain ⟨h2, eh2, H⟩ := zlets H
  replace F := zFr_s F eh2 (by decide)
  obtain ⟨h3, eh3, H⟩ := zlets H
  replace F := zFr_s F eh3 (by decide)
  obtain ⟨h4, eh4, H⟩ := zlets H
  replace F := zFr_s F eh4 (by decide)
  obtain ⟨h5, eh5, H⟩ := zlets H
  replace F := zFr_s F eh5 (by decide)
  obtain ⟨h6, eh6, H⟩ := zlets H
  replace F := zFr_s F eh6 (by decide)
  obtain ⟨h7, eh7, H⟩ := zlets H
  replace F := zFr_s F eh7 (by decide)
  obtain ⟨t18, ht18, H⟩ := zbs H
  have Fl := f_qM_asTold_b37_l zfu _ _ ht18
  replace F := zFr_t F Fl
  clear Fl
  cases H
  exact F
theorem f_qM_hand {x1 : Int32} {h : zK} {p : Int32 × zK} (H : qM_hand x1 h = some p) : zFr [215, 226, 227, 228, 229] h p.2 := by
  unfold qM_hand at H
  obtain ⟨h0, F, e0⟩ : ∃ h0, zFr [215, 226, 227, 228, 229] h0 h ∧ h0 = h := ⟨h, zFr_r, rfl⟩
  rw [← e0]
  clear e0
  obtain ⟨p1, hp1, H⟩ := zbs H
  by_cases c2 : ¬ p1 = 0
  · replace H := zif_t c2 H
    obtain ⟨h3, eh3, H⟩ := zlets H
    replace F := zFr_s F eh3 (by decide)
    obtain ⟨p4, hp4, H⟩ := zbs H
    obtain ⟨h5, eh5, H⟩ := zlets H
    replace F := zFr_s F eh5 (by decide)
    obtain ⟨p6, hp6, H⟩ := zbs H
    obtain ⟨h7, eh7, H⟩ := zlets H
    replace F := zFr_s F eh7 (by decide)
    obtain ⟨p8, hp8, H⟩ := zbs H
    obtain ⟨h9, eh9, H⟩ := zlets H
    replace F := zFr_s F eh9 (by decide)
    obtain ⟨p10, hp10, H⟩ := zbs H
    replace F := zFr_w F (f_qM_asTold hp10) (by decide)
    cases H
    exact F
  · replace H := zif_f c2 H
    cases H
    exact F
theorem f_qM_burst_b39 {h0 : zK} {x1 : Int32} {s : Int32 × zK} {e : (Int32 × zK) ⊕ (zK)} (F : zFr [215, 227] h0 s.2) (H : qM_burst_b39 x1 s = some e) : match (generalizing := false) e with | .inl s' => zFr [215, 227] h0 s'.2 | .inr v => zFr [215, 227] h0 v := by
  unfold qM_burst_b39 at H
  by_cases c5 : (gI s.2 215 23) ≤ s.1
  · replace H := zif_t c5 H
    cases H
    exact F
  · replace H := zif_f c5 H
    obtain ⟨j6, hj6, H⟩ := zbs H
    obtain ⟨v8, hv8, H⟩ := zbs H
    obtain ⟨h11, eh11, H⟩ := zlets H
    replace F := zFr_s F eh11 (by decide)
    cases H
    exact F
theorem f_qM_burst_b39_l {x1 : Int32} (n : Nat) (s : Int32 × zK) (t : zK) (H : zloop (qM_burst_b39 x1) n s = some t) : zFr [215, 227] s.2 t := by
  exact zloop_P (P := fun s => zFr [215, 227] s.2 t) (b := qM_burst_b39 x1) (t := t) (fun s s2 hb hk => zFr_t (f_qM_burst_b39 zFr_r hb) hk) (fun s hb => f_qM_burst_b39 zFr_r hb) n s H
theorem f_qM_burst {x1 : Int32} {h : zK} {p : zK} (H : qM_burst x1 h = some p) : zFr [215, 227] h p := by
  unfold qM_burst at H
  obtain ⟨h0, F, e0⟩ : ∃ h0, zFr [215, 227] h0 h ∧ h0 = h := ⟨h, zFr_r, rfl⟩
  rw [← e0]
  clear e0
  obtain ⟨h1, eh1, H⟩ := zlets H
  replace F := zFr_s F eh1 (by decide)
  obtain ⟨h2, eh2, H⟩ := zlets H
  replace F := zFr_s F eh2 (by decide)
  obtain ⟨j3, hj3, H⟩ := zbs H
  obtain ⟨h4, eh4, H⟩ := zlets H
  replace F := zFr_s F eh4 (by decide)
  obtain ⟨t12, ht12, H⟩ := zbs H
  have Fl := f_qM_burst_b39_l zfu _ _ ht12
  replace F := zFr_t F Fl
  clear Fl
  cases H
  exact F
theorem f_qM_burstAll_b5 {h0 : zK} {s : Int32 × zK} {e : (Int32 × zK) ⊕ (zK)} (F : zFr [215, 227] h0 s.2) (H : qM_burstAll_b5 s = some e) : match (generalizing := false) e with | .inl s' => zFr [215, 227] h0 s'.2 | .inr v => zFr [215, 227] h0 v := by
  unfold qM_burstAll_b5 at H
  by_cases c2 : s.1 = (-1)
  · replace H := zif_t c2 H
    cases H
    exact F
  · replace H := zif_f c2 H
    obtain ⟨p3, hp3, H⟩ := zbs H
    replace F := zFr_w F (f_qM_burst hp3) (by decide)
    obtain ⟨p4, hp4, H⟩ := zbs H
    cases H
    exact F
theorem f_qM_burstAll_b5_l (n : Nat) (s : Int32 × zK) (t : zK) (H : zloop (qM_burstAll_b5) n s = some t) : zFr [215, 227] s.2 t := by
  exact zloop_P (P := fun s => zFr [215, 227] s.2 t) (b := qM_burstAll_b5) (t := t) (fun s s2 hb hk => zFr_t (f_qM_burstAll_b5 zFr_r hb) hk) (fun s hb => f_qM_burstAll_b5 zFr_r hb) n s H
theorem f_qM_burstAll  {h : zK} {p : zK} (H : qM_burstAll h = some p) : zFr [215, 227] h p := by
  unfold qM_burstAll at H
  obtain ⟨h0, F, e0⟩ : ∃ h0, zFr [215, 227] h0 h ∧ h0 = h := ⟨h, zFr_r, rfl⟩
  rw [← e0]
  clear e0
  obtain ⟨p1, hp1, H⟩ := zbs H
  obtain ⟨t5, ht5, H⟩ := zbs H
  have Fl := f_qM_burstAll_b5_l zfu _ _ ht5
  replace F := zFr_t F Fl
  clear Fl
  cases H
  exact F
theorem f_qM_cellar {x1 : Int32} {x2 : Int32} {h : zK} {p : Int32 × zK} (H : qM_cellar x1 x2 h = some p) : zFr [215, 226, 227, 228, 229] h p.2 := by
  unfold qM_cellar at H
  obtain ⟨h0, F, e0⟩ : ∃ h0, zFr [215, 226, 227, 228, 229] h0 h ∧ h0 = h := ⟨h, zFr_r, rfl⟩
  rw [← e0]
  clear e0
  obtain ⟨h1, eh1, H⟩ := zlets H
  replace F := zFr_s F eh1 (by decide)
  obtain ⟨p2, hp2, H⟩ := zbs H
  replace F := zFr_w F (f_qM_hand hp2) (by decide)
  by_cases c3 : ¬ p2.1 = 0
  · replace H := zif_t c3 H
    by_cases c4 : 10 ≤ x2
    · replace H := zif_t c4 H
      by_cases c5 : 80 ≤ x2
      · replace H := zif_t c5 H
        cases H
        exact F
      · replace H := zif_f c5 H
        by_cases c6 : (gI p2.2 215 23) ≤ (x2 - x2 / 10 * 10)
        · replace H := zif_t c6 H
          cases H
          exact F
        · replace H := zif_f c6 H
          obtain ⟨p7, hp7, H⟩ := zbs H
          cases H
          exact F
    · replace H := zif_f c4 H
      by_cases c8 : (zf_in x2 0 2) = 0
      · replace H := zif_t c8 H
        cases H
        exact F
      · replace H := zif_f c8 H
        obtain ⟨p9, hp9, H⟩ := zbs H
        cases H
        exact F
  · replace H := zif_f c3 H
    cases H
    exact F
theorem f_qM_hasYears {x1 : Int32} {h : zK} {p : Int32 × zK} (H : qM_hasYears x1 h = some p) : zFr [215] h p.2 := by
  unfold qM_hasYears at H
  obtain ⟨h0, F, e0⟩ : ∃ h0, zFr [215] h0 h ∧ h0 = h := ⟨h, zFr_r, rfl⟩
  rw [← e0]
  clear e0
  obtain ⟨h1, eh1, H⟩ := zlets H
  replace F := zFr_s F eh1 (by decide)
  obtain ⟨p2, hp2, H⟩ := zbs H
  obtain ⟨c3, H⟩ := zifn H
  cases H
  exact F
theorem f_qM_deed {x1 : Int32} {x2 : Int32} {x3 : Int32} {h : zK} {p : Int32 × zK} (H : qM_deed x1 x2 x3 h = some p) : zFr [215] h p.2 := by
  unfold qM_deed at H
  obtain ⟨h0, F, e0⟩ : ∃ h0, zFr [215] h0 h ∧ h0 = h := ⟨h, zFr_r, rfl⟩
  rw [← e0]
  clear e0
  obtain ⟨h1, eh1, H⟩ := zlets H
  replace F := zFr_s F eh1 (by decide)
  obtain ⟨p2, hp2, H⟩ := zbs H
  replace F := zFr_w F (f_qM_hasYears hp2) (by decide)
  by_cases c3 : ¬ p2.1 = 0
  · replace H := zif_t c3 H
    by_cases c4 : ¬ x2 = (-1)
    · replace H := zif_t c4 H
      obtain ⟨p5, hp5, H⟩ := zbs H
      by_cases c6 : (zf_in x2 0 (p5 - 1)) = 0
      · replace H := zif_t c6 H
        cases H
        exact F
      · replace H := zif_f c6 H
        by_cases c7 : (zf_in x3 0 2) = 0
        · replace H := zif_t c7 H
          cases H
          exact F
        · replace H := zif_f c7 H
          obtain ⟨p8, hp8, H⟩ := zbs H
          cases H
          exact F
    · replace H := zif_f c4 H
      by_cases c9 : ¬ x3 = 0
      · replace H := zif_t c9 H
        cases H
        exact F
      · replace H := zif_f c9 H
        obtain ⟨p10, hp10, H⟩ := zbs H
        cases H
        exact F
  · replace H := zif_f c3 H
    cases H
    exact F
theorem f_qM_goesOn_b13 {h0 : zK} {s : Int32 × zK} {e : (Int32 × zK) ⊕ (zK)} (F : zFr [215, 226, 227] h0 s.2) (H : qM_goesOn_b13 s = some e) : match (generalizing := false) e with | .inl s' => zFr [215, 226, 227] h0 s'.2 | .inr v => zFr [215, 226, 227] h0 v := by
  unfold qM_goesOn_b13 at H
  by_cases c2 : (gI s.2 215 23) ≤ s.1
  · replace H := zif_t c2 H
    cases H
    exact F
  · replace H := zif_f c2 H
    obtain ⟨v4, hv4, H⟩ := zbs H
    replace F : zFr [215, 226, 227] h0 v4 := by
      clear H
      by_cases c3 : ¬ (zf_has (gI s.2 215 29) s.1) = 0
      · replace hv4 := zif_t c3 hv4
        cases hv4
        exact F
      · replace hv4 := zif_f c3 hv4
        obtain ⟨j5, hj5, hv4⟩ := zbs hv4
        obtain ⟨p6, hp6, hv4⟩ := zbs hv4
        obtain ⟨h7, eh7, hv4⟩ := zlets hv4
        replace F := zFr_s F eh7 (by decide)
        obtain ⟨p8, hp8, hv4⟩ := zbs hv4
        obtain ⟨h9, eh9, hv4⟩ := zlets hv4
        replace F := zFr_s F eh9 (by decide)
        cases hv4
        exact F
    cases H
    exact F
theorem f_qM_goesOn_b13_l (n : Nat) (s : Int32 × zK) (t : zK) (H : zloop (qM_goesOn_b13) n s = some t) : zFr [215, 226, 227] s.2 t := by
  exact zloop_P (P := fun s => zFr [215, 226, 227] s.2 t) (b := qM_goesOn_b13) (t := t) (fun s s2 hb hk => zFr_t (f_qM_goesOn_b13 zFr_r hb) hk) (fun s hb => f_qM_goesOn_b13 zFr_r hb) n s H
theorem f_qM_goesOn  {h : zK} {p : Int32 × zK} (H : qM_goesOn h = some p) : zFr [215, 226, 227] h p.2 := by
  unfold qM_goesOn at H
  obtain ⟨h0, F, e0⟩ : ∃ h0, zFr [215, 226, 227] h0 h ∧ h0 = h := ⟨h, zFr_r, rfl⟩
  rw [← e0]
  clear e0
  by_cases c1 : ¬ (gI h 215 26) = 50
  · replace H := zif_t c1 H
    obtain ⟨t10, ht10, H⟩ := zbs H
    have Fl := f_qM_goesOn_b13_l zfu _ _ ht10
    replace F := zFr_t F Fl
    clear Fl
    obtain ⟨h12, eh12, H⟩ := zlets H
    replace F := zFr_s F eh12 (by decide)
    obtain ⟨p13, hp13, H⟩ := zbs H
    replace F := zFr_w F (f_qM_burstAll hp13) (by decide)
    cases H
    exact F
  · replace H := zif_f c1 H
    cases H
    exact F
theorem f_qM_does {x1 : Int32} {x2 : Int32} {x3 : Int32} {h : zK} {p : Int32 × zK} (H : qM_does x1 x2 x3 h = some p) : zFr [215, 226, 227, 228, 229] h p.2 := by
  unfold qM_does at H
  obtain ⟨h0, F, e0⟩ : ∃ h0, zFr [215, 226, 227, 228, 229] h0 h ∧ h0 = h := ⟨h, zFr_r, rfl⟩
  rw [← e0]
  clear e0
  by_cases c1 : ¬ x1 = 0
  · replace H := zif_t c1 H
    obtain ⟨p2, hp2, H⟩ := zbs H
    by_cases c3 : ¬ p2 = 0
    · replace H := zif_t c3 H
      by_cases c20 : x1 = 1
      · replace H := zif_t c20 H
        obtain ⟨h4, eh4, H⟩ := zlets H
        replace F := zFr_s F eh4 (by decide)
        obtain ⟨v6, hv6, H⟩ := zbs H
        obtain ⟨h8, eh8, H⟩ := zlets H
        replace F := zFr_s F eh8 (by decide)
        cases H
        exact F
      replace H := zif_f c20 H
      by_cases c21 : x1 = 2
      · replace H := zif_t c21 H
        by_cases c9 : (zf_has (gI h 215 30) x2) = 0
        · replace H := zif_t c9 H
          obtain ⟨h10, eh10, H⟩ := zlets H
          replace F := zFr_s F eh10 (by decide)
          obtain ⟨j11, hj11, H⟩ := zbs H
          obtain ⟨h12, eh12, H⟩ := zlets H
          replace F := zFr_s F eh12 (by decide)
          cases H
          exact F
        · replace H := zif_f c9 H
          cases H
          exact F
      replace H := zif_f c21 H
      by_cases c22 : x1 = 3
      · replace H := zif_t c22 H
        by_cases c13 : (zf_has (gI h 215 31) x2) = 0
        · replace H := zif_t c13 H
          obtain ⟨h14, eh14, H⟩ := zlets H
          replace F := zFr_s F eh14 (by decide)
          cases H
          exact F
        · replace H := zif_f c13 H
          cases H
          exact F
      replace H := zif_f c22 H
      obtain ⟨j15, hj15, H⟩ := zbs H
      by_cases c16 : ¬ (gI h 229 j15) = x3
      · replace H := zif_t c16 H
        obtain ⟨h17, eh17, H⟩ := zlets H
        replace F := zFr_s F eh17 (by decide)
        cases H
        exact F
      · replace H := zif_f c16 H
        cases H
        exact F
    · replace H := zif_f c3 H
      cases H
      exact F
  · replace H := zif_f c1 H
    obtain ⟨p18, hp18, H⟩ := zbs H
    replace F := zFr_w F (f_qM_goesOn hp18) (by decide)
    obtain ⟨c19, H⟩ := zifn H
    cases H
    exact F
theorem f_qM_doesDeed {x1 : Int32} {h : zK} {p : Int32 × zK} (H : qM_doesDeed x1 h = some p) : zFr [215, 226, 227, 228, 229] h p.2 := by
  unfold qM_doesDeed at H
  obtain ⟨h0, F, e0⟩ : ∃ h0, zFr [215, 226, 227, 228, 229] h0 h ∧ h0 = h := ⟨h, zFr_r, rfl⟩
  rw [← e0]
  clear e0
  obtain ⟨p1, hp1, H⟩ := zbs H
  obtain ⟨p2, hp2, H⟩ := zbs H
  obtain ⟨p3, hp3, H⟩ := zbs H
  obtain ⟨p4, hp4, H⟩ := zbs H
  replace F := zFr_w F (f_qM_does hp4) (by decide)
  obtain ⟨c5, H⟩ := zifn H
  cases H
  exact F
theorem f_qM_play_b2 {h0 : zK} {x1 : Int32} {s : Int32 × zK} {e : (Int32 × zK) ⊕ (Int32 × zK)} (F : zFr [215, 226, 227, 228, 229] h0 s.2) (H : qM_play_b2 x1 s = some e) : match (generalizing := false) e with | .inl s' => zFr [215, 226, 227, 228, 229] h0 s'.2 | .inr v => zFr [215, 226, 227, 228, 229] h0 v.2 := by
  unfold qM_play_b2 at H
  by_cases c1 : x1 ≤ s.1
  · replace H := zif_t c1 H
    cases H
    exact F
  · replace H := zif_f c1 H
    obtain ⟨p2, hp2, H⟩ := zbs H
    replace F := zFr_w F (f_qM_doesDeed hp2) (by decide)
    by_cases c3 : p2.1 = 0
    · replace H := zif_t c3 H
      cases H
      exact F
    · replace H := zif_f c3 H
      cases H
      exact F
theorem f_qM_play_b2_l {x1 : Int32} (n : Nat) (s : Int32 × zK) (t : Int32 × zK) (H : zloop (qM_play_b2 x1) n s = some t) : zFr [215, 226, 227, 228, 229] s.2 t.2 := by
  exact zloop_P (P := fun s => zFr [215, 226, 227, 228, 229] s.2 t.2) (b := qM_play_b2 x1) (t := t) (fun s s2 hb hk => zFr_t (f_qM_play_b2 zFr_r hb) hk) (fun s hb => f_qM_play_b2 zFr_r hb) n s H
theorem f_qM_play {x1 : Int32} {h : zK} {p : Int32 × zK} (H : qM_play x1 h = some p) : zFr [215, 226, 227, 228, 229] h p.2 := by
  unfold qM_play at H
  obtain ⟨h0, F, e0⟩ : ∃ h0, zFr [215, 226, 227, 228, 229] h0 h ∧ h0 = h := ⟨h, zFr_r, rfl⟩
  rw [← e0]
  clear e0
  obtain ⟨t4, ht4, H⟩ := zbs H
  have Fl := f_qM_play_b2_l zfu _ _ ht4
  replace F := zFr_t F Fl
  clear Fl
  cases H
  exact F
theorem f_qM_layAll {x1 : Int32} {x2 : Int32} {h : zK} {p : Int32 × zK} (H : qM_layAll x1 x2 h = some p) : zFr [215, 226, 227, 228, 229] h p.2 := by
  unfold qM_layAll at H
  obtain ⟨h0, F, e0⟩ : ∃ h0, zFr [215, 226, 227, 228, 229] h0 h ∧ h0 = h := ⟨h, zFr_r, rfl⟩
  rw [← e0]
  clear e0
  obtain ⟨p1, hp1, H⟩ := zbs H
  replace F := zFr_w F (f_qM_hasYears hp1) (by decide)
  by_cases c2 : p1.1 = 0
  · replace H := zif_t c2 H
    cases H
    exact F
  · replace H := zif_f c2 H
    obtain ⟨p3, hp3, H⟩ := zbs H
    replace F := zFr_w F (f_qM_hand hp3) (by decide)
    by_cases c4 : p3.1 = 0
    · replace H := zif_t c4 H
      cases H
      exact F
    · replace H := zif_f c4 H
      cases H
      exact F
theorem f_qM_till {x1 : Int32} {x2 : Int32} {h : zK} {p : Int32 × zK} (H : qM_till x1 x2 h = some p) : zFr [215, 226, 227, 228, 229] h p.2 := by
  unfold qM_till at H
  obtain ⟨h0, F, e0⟩ : ∃ h0, zFr [215, 226, 227, 228, 229] h0 h ∧ h0 = h := ⟨h, zFr_r, rfl⟩
  rw [← e0]
  clear e0
  obtain ⟨h1, eh1, H⟩ := zlets H
  replace F := zFr_s F eh1 (by decide)
  obtain ⟨p2, hp2, H⟩ := zbs H
  replace F := zFr_w F (f_qM_layAll hp2) (by decide)
  by_cases c3 : p2.1 = 0
  · replace H := zif_t c3 H
    cases H
    exact F
  · replace H := zif_f c3 H
    obtain ⟨p4, hp4, H⟩ := zbs H
    obtain ⟨p5, hp5, H⟩ := zbs H
    replace F := zFr_w F (f_qM_play hp5) (by decide)
    cases H
    exact F
theorem f_qM_state {x1 : Int32} {x2 : Int32} {x3 : Int32} {x4 : Int32} {h : zK} {p : Int32 × zK} (H : qM_state x1 x2 x3 x4 h = some p) : zFr [215, 226, 227, 228, 229] h p.2 := by
  unfold qM_state at H
  obtain ⟨h0, F, e0⟩ : ∃ h0, zFr [215, 226, 227, 228, 229] h0 h ∧ h0 = h := ⟨h, zFr_r, rfl⟩
  rw [← e0]
  clear e0
  obtain ⟨h1, eh1, H⟩ := zlets H
  replace F := zFr_s F eh1 (by decide)
  obtain ⟨p2, hp2, H⟩ := zbs H
  replace F := zFr_w F (f_qM_layAll hp2) (by decide)
  by_cases c3 : p2.1 = 0
  · replace H := zif_t c3 H
    cases H
    exact F
  · replace H := zif_f c3 H
    obtain ⟨p4, hp4, H⟩ := zbs H
    by_cases c5 : (zf_in x3 0 p4) = 0
    · replace H := zif_t c5 H
      cases H
      exact F
    · replace H := zif_f c5 H
      obtain ⟨p6, hp6, H⟩ := zbs H
      replace F := zFr_w F (f_qM_play hp6) (by decide)
      by_cases c7 : ¬ p6.1 = x3
      · replace H := zif_t c7 H
        cases H
        exact F
      · replace H := zif_f c7 H
        obtain ⟨p8, hp8, H⟩ := zbs H
        cases H
        exact F
theorem f_qM_trainOf_b7 {h0 : zK} {x1 : Int32} {x2 : Int32} {s : Int32 × zK} {e : (Int32 × zK) ⊕ (zK)} (F : zFr [215, 227] h0 s.2) (H : qM_trainOf_b7 x1 x2 s = some e) : match (generalizing := false) e with | .inl s' => zFr [215, 227] h0 s'.2 | .inr v => zFr [215, 227] h0 v := by
  unfold qM_trainOf_b7 at H
  by_cases c2 : (gI s.2 215 23) ≤ s.1
  · replace H := zif_t c2 H
    cases H
    exact F
  · replace H := zif_f c2 H
    obtain ⟨p3, hp3, H⟩ := zbs H
    obtain ⟨j4, hj4, H⟩ := zbs H
    obtain ⟨h5, eh5, H⟩ := zlets H
    replace F := zFr_s F eh5 (by decide)
    cases H
    exact F
theorem f_qM_trainOf_b7_l {x1 : Int32} {x2 : Int32} (n : Nat) (s : Int32 × zK) (t : zK) (H : zloop (qM_trainOf_b7 x1 x2) n s = some t) : zFr [215, 227] s.2 t := by
  exact zloop_P (P := fun s => zFr [215, 227] s.2 t) (b := qM_trainOf_b7 x1 x2) (t := t) (fun s s2 hb hk => zFr_t (f_qM_trainOf_b7 zFr_r hb) hk) (fun s hb => f_qM_trainOf_b7 zFr_r hb) n s H
theorem f_qM_trainOf {x1 : Int32} {x2 : Int32} {h : zK} {p : Int32 × zK} (H : qM_trainOf x1 x2 h = some p) : zFr [215, 227] h p.2 := by
  unfold qM_trainOf at H
  obtain ⟨h0, F, e0⟩ : ∃ h0, zFr [215, 227] h0 h ∧ h0 = h := ⟨h, zFr_r, rfl⟩
  rw [← e0]
  clear e0
  obtain ⟨h1, eh1, H⟩ := zlets H
  replace F := zFr_s F eh1 (by decide)
  obtain ⟨t6, ht6, H⟩ := zbs H
  have Fl := f_qM_trainOf_b7_l zfu _ _ ht6
  replace F := zFr_t F Fl
  clear Fl
  obtain ⟨p8, hp8, H⟩ := zbs H
  replace F := zFr_w F (f_qM_burst hp8) (by decide)
  obtain ⟨p9, hp9, H⟩ := zbs H
  replace F := zFr_w F (f_qM_burstAll hp9) (by decide)
  cases H
  exact F
theorem f_qM_train {x1 : Int32} {x2 : Int32} {h : zK} {p : Int32 × zK} (H : qM_train x1 x2 h = some p) : zFr [215, 226, 227, 228, 229] h p.2 := by
  unfold qM_train at H
  obtain ⟨h0, F, e0⟩ : ∃ h0, zFr [215, 226, 227, 228, 229] h0 h ∧ h0 = h := ⟨h, zFr_r, rfl⟩
  rw [← e0]
  clear e0
  obtain ⟨h1, eh1, H⟩ := zlets H
  replace F := zFr_s F eh1 (by decide)
  obtain ⟨p2, hp2, H⟩ := zbs H
  replace F := zFr_w F (f_qM_hand hp2) (by decide)
  by_cases c3 : p2.1 = 0
  · replace H := zif_t c3 H
    cases H
    exact F
  · replace H := zif_f c3 H
    obtain ⟨p4, hp4, H⟩ := zbs H
    by_cases c5 : p4 = 0
    · replace H := zif_t c5 H
      cases H
      exact F
    · replace H := zif_f c5 H
      obtain ⟨p6, hp6, H⟩ := zbs H
      replace F := zFr_w F (f_qM_trainOf hp6) (by decide)
      cases H
      exact F
theorem f_qM_greatestTrain_b4 {h0 : zK} {s : Int32 × Int32 × zK} {e : (Int32 × Int32 × zK) ⊕ (Int32 × zK)} (F : zFr [215, 227] h0 s.2.2) (H : qM_greatestTrain_b4 s = some e) : match (generalizing := false) e with | .inl s' => zFr [215, 227] h0 s'.2.2 | .inr v => zFr [215, 227] h0 v.2 := by
  unfold qM_greatestTrain_b4 at H
  by_cases c1 : (gI s.2.2 215 23) ≤ s.2.1
  · replace H := zif_t c1 H
    cases H
    exact F
  · replace H := zif_f c1 H
    obtain ⟨p2, hp2, H⟩ := zbs H
    replace F := zFr_w F (f_qM_trainOf hp2) (by decide)
    obtain ⟨p3, hp3, H⟩ := zbs H
    cases H
    exact F
theorem f_qM_greatestTrain_b4_l (n : Nat) (s : Int32 × Int32 × zK) (t : Int32 × zK) (H : zloop (qM_greatestTrain_b4) n s = some t) : zFr [215, 227] s.2.2 t.2 := by
  exact zloop_P (P := fun s => zFr [215, 227] s.2.2 t.2) (b := qM_greatestTrain_b4) (t := t) (fun s s2 hb hk => zFr_t (f_qM_greatestTrain_b4 zFr_r hb) hk) (fun s hb => f_qM_greatestTrain_b4 zFr_r hb) n s H
theorem f_qM_greatestTrain  {h : zK} {p : Int32 × zK} (H : qM_greatestTrain h = some p) : zFr [215, 227] h p.2 := by
  unfold qM_greatestTrain at H
  obtain ⟨h0, F, e0⟩ : ∃ h0, zFr [215, 227] h0 h ∧ h0 = h := ⟨h, zFr_r, rfl⟩
  rw [← e0]
  clear e0
  obtain ⟨t4, ht4, H⟩ := zbs H
  have Fl := f_qM_greatestTrain_b4_l zfu _ _ ht4
  replace F := zFr_t F Fl
  clear Fl
  cases H
  exact F
theorem f_qM_swapPlaces {x1 : Int32} {x2 : Int32} {h : zK} {p : zK} (H : qM_swapPlaces x1 x2 h = some p) : zFr [229] h p := by
  unfold qM_swapPlaces at H
  obtain ⟨h0, F, e0⟩ : ∃ h0, zFr [229] h0 h ∧ h0 = h := ⟨h, zFr_r, rfl⟩
  rw [← e0]
  clear e0
  obtain ⟨j1, hj1, H⟩ := zbs H
  obtain ⟨j2, hj2, H⟩ := zbs H
  obtain ⟨h3, eh3, H⟩ := zlets H
  replace F := zFr_s F eh3 (by decide)
  obtain ⟨h4, eh4, H⟩ := zlets H
  replace F := zFr_s F eh4 (by decide)
  cases H
  exact F
theorem f_qM_sortPlaces_b14 {h0 : zK} {x1 : Int32} {s : Int32 × zK} {e : (Int32 × zK) ⊕ (zK)} (F : zFr [229] h0 s.2) (H : qM_sortPlaces_b14 x1 s = some e) : match (generalizing := false) e with | .inl s' => zFr [229] h0 s'.2 | .inr v => zFr [229] h0 v := by
  unfold qM_sortPlaces_b14 at H
  by_cases c2 : (gI s.2 215 23) ≤ s.1
  · replace H := zif_t c2 H
    cases H
    exact F
  · replace H := zif_f c2 H
    obtain ⟨j3, hj3, H⟩ := zbs H
    obtain ⟨j4, hj4, H⟩ := zbs H
    obtain ⟨v6, hv6, H⟩ := zbs H
    replace F : zFr [229] h0 v6 := by
      clear H
      by_cases c5 : (gI s.2 229 j4) ≤ (gI s.2 229 j3)
      · replace hv6 := zif_t c5 hv6
        cases hv6
        exact F
      · replace hv6 := zif_f c5 hv6
        obtain ⟨p7, hp7, hv6⟩ := zbs hv6
        replace F := zFr_w F (f_qM_swapPlaces hp7) (by decide)
        cases hv6
        exact F
    cases H
    exact F
theorem f_qM_sortPlaces_b14_l {x1 : Int32} (n : Nat) (s : Int32 × zK) (t : zK) (H : zloop (qM_sortPlaces_b14 x1) n s = some t) : zFr [229] s.2 t := by
  exact zloop_P (P := fun s => zFr [229] s.2 t) (b := qM_sortPlaces_b14 x1) (t := t) (fun s s2 hb hk => zFr_t (f_qM_sortPlaces_b14 zFr_r hb) hk) (fun s hb => f_qM_sortPlaces_b14 zFr_r hb) n s H
theorem f_qM_sortPlaces_b2 {h0 : zK} {s : Int32 × zK} {e : (Int32 × zK) ⊕ (zK)} (F : zFr [229] h0 s.2) (H : qM_sortPlaces_b2 s = some e) : match (generalizing := false) e with | .inl s' => zFr [229] h0 s'.2 | .inr v => zFr [229] h0 v := by
  unfold qM_sortPlaces_b2 at H
  by_cases c1 : (gI s.2 215 23) ≤ s.1
  · replace H := zif_t c1 H
    cases H
    exact F
  · replace H := zif_f c1 H
    obtain ⟨t8, ht8, H⟩ := zbs H
    have Fl := f_qM_sortPlaces_b14_l zfu _ _ ht8
    replace F := zFr_t F Fl
    clear Fl
    cases H
    exact F
theorem f_qM_sortPlaces_b2_l (n : Nat) (s : Int32 × zK) (t : zK) (H : zloop (qM_sortPlaces_b2) n s = some t) : zFr [229] s.2 t := by
  exact zloop_P (P := fun s => zFr [229] s.2 t) (b := qM_sortPlaces_b2) (t := t) (fun s s2 hb hk => zFr_t (f_qM_sortPlaces_b2 zFr_r hb) hk) (fun s hb => f_qM_sortPlaces_b2 zFr_r hb) n s H
theorem f_qM_sortPlaces  {h : zK} {p : zK} (H : qM_sortPlaces h = some p) : zFr [229] h p := by
  unfold qM_sortPlaces at H
  obtain ⟨h0, F, e0⟩ : ∃ h0, zFr [229] h0 h ∧ h0 = h := ⟨h, zFr_r, rfl⟩
  rw [← e0]
  clear e0
  obtain ⟨t10, ht10, H⟩ := zbs H
  have Fl := f_qM_sortPlaces_b2_l zfu _ _ ht10
  replace F := zFr_t F Fl
  clear Fl
  cases H
  exact F
theorem f_qM_nextPlaces_b84 {h0 : zK} {s : Int32 × Int32 × zK} {e : (Int32 × Int32 × zK) ⊕ (zK)} (F : zFr [229] h0 s.2.2) (H : qM_nextPlaces_b84 s = some e) : match (generalizing := false) e with | .inl s' => zFr [229] h0 s'.2.2 | .inr v => zFr [229] h0 v := by
  unfold qM_nextPlaces_b84 at H
  by_cases c14 : s.2.1 ≤ s.1
  · replace H := zif_t c14 H
    cases H
    exact F
  · replace H := zif_f c14 H
    obtain ⟨p15, hp15, H⟩ := zbs H
    replace F := zFr_w F (f_qM_swapPlaces hp15) (by decide)
    cases H
    exact F
theorem f_qM_nextPlaces_b84_l (n : Nat) (s : Int32 × Int32 × zK) (t : zK) (H : zloop (qM_nextPlaces_b84) n s = some t) : zFr [229] s.2.2 t := by
  exact zloop_P (P := fun s => zFr [229] s.2.2 t) (b := qM_nextPlaces_b84) (t := t) (fun s s2 hb hk => zFr_t (f_qM_nextPlaces_b84 zFr_r hb) hk) (fun s hb => f_qM_nextPlaces_b84 zFr_r hb) n s H
theorem f_qM_nextPlaces  {h : zK} {p : Int32 × zK} (H : qM_nextPlaces h = some p) : zFr [229] h p.2 := by
  unfold qM_nextPlaces at H
  obtain ⟨h0, F, e0⟩ : ∃ h0, zFr [229] h0 h ∧ h0 = h := ⟨h, zFr_r, rfl⟩
  rw [← e0]
  clear e0
  obtain ⟨t5, ht5, H⟩ := zbs H
  by_cases c7 : 0 ≤ t5
  · replace H := zif_t c7 H
    obtain ⟨t11, ht11, H⟩ := zbs H
    obtain ⟨p13, hp13, H⟩ := zbs H
    replace F := zFr_w F (f_qM_swapPlaces hp13) (by decide)
    obtain ⟨t16, ht16, H⟩ := zbs H
    have Fl := f_qM_nextPlaces_b84_l zfu _ _ ht16
    replace F := zFr_t F Fl
    clear Fl
    cases H
    exact F
  · replace H := zif_f c7 H
    cases H
    exact F
theorem f_qM_laying_b54 {h0 : zK} {x2 : Int32} {x3 : Int32} {x5 : Int32} {s : Int32 × zK} {e : (Int32 × zK) ⊕ (zK)} (F : zFr [215, 226, 227, 228, 229, 230] h0 s.2) (H : qM_laying_b54 x2 x3 x5 s = some e) : match (generalizing := false) e with | .inl s' => zFr [215, 226, 227, 228, 229, 230] h0 s'.2 | .inr v => zFr [215, 226, 227, 228, 229, 230] h0 v := by
  unfold qM_laying_b54 at H
  by_cases c8 : (gI s.2 215 23) ≤ s.1
  · replace H := zif_t c8 H
    cases H
    exact F
  · replace H := zif_f c8 H
    by_cases c9 : x3 ≤ x5
    · replace H := zif_t c9 H
      cases H
      exact F
    · replace H := zif_f c9 H
      obtain ⟨j10, hj10, H⟩ := zbs H
      obtain ⟨h11, eh11, H⟩ := zlets H
      replace F := zFr_s F eh11 (by decide)
      cases H
      exact F
theorem f_qM_laying_b54_l {x2 : Int32} {x3 : Int32} {x5 : Int32} (n : Nat) (s : Int32 × zK) (t : zK) (H : zloop (qM_laying_b54 x2 x3 x5) n s = some t) : zFr [215, 226, 227, 228, 229, 230] s.2 t := by
  exact zloop_P (P := fun s => zFr [215, 226, 227, 228, 229, 230] s.2 t) (b := qM_laying_b54 x2 x3 x5) (t := t) (fun s s2 hb hk => zFr_t (f_qM_laying_b54 zFr_r hb) hk) (fun s hb => f_qM_laying_b54 zFr_r hb) n s H
theorem f_qM_laying_b40 {h0 : zK} {x2 : Int32} {s : Int32 × Int32 × zK} {e : (Int32 × Int32 × zK) ⊕ (Int32 × zK)} (F : zFr [215, 226, 227, 228, 229, 230] h0 s.2.2) (H : qM_laying_b40 x2 s = some e) : match (generalizing := false) e with | .inl s' => zFr [215, 226, 227, 228, 229, 230] h0 s'.2.2 | .inr v => zFr [215, 226, 227, 228, 229, 230] h0 v.2 := by
  unfold qM_laying_b40 at H
  by_cases c6 : s.2.1 = 0
  · replace H := zif_t c6 H
    cases H
    exact F
  · replace H := zif_f c6 H
    obtain ⟨p7, hp7, H⟩ := zbs H
    replace F := zFr_w F (f_qM_greatestTrain hp7) (by decide)
    obtain ⟨t12, ht12, H⟩ := zbs H
    have Fl := f_qM_laying_b54_l zfu _ _ ht12
    replace F := zFr_t F Fl
    clear Fl
    obtain ⟨p14, hp14, H⟩ := zbs H
    replace F := zFr_w F (f_qM_nextPlaces hp14) (by decide)
    cases H
    exact F
theorem f_qM_laying_b40_l {x2 : Int32} (n : Nat) (s : Int32 × Int32 × zK) (t : Int32 × zK) (H : zloop (qM_laying_b40 x2) n s = some t) : zFr [215, 226, 227, 228, 229, 230] s.2.2 t.2 := by
  exact zloop_P (P := fun s => zFr [215, 226, 227, 228, 229, 230] s.2.2 t.2) (b := qM_laying_b40 x2) (t := t) (fun s s2 hb hk => zFr_t (f_qM_laying_b40 zFr_r hb) hk) (fun s hb => f_qM_laying_b40 zFr_r hb) n s H
theorem f_qM_laying {x1 : Int32} {x2 : Int32} {h : zK} {p : Int32 × zK} (H : qM_laying x1 x2 h = some p) : zFr [215, 226, 227, 228, 229, 230] h p.2 := by
  unfold qM_laying at H
  obtain ⟨h0, F, e0⟩ : ∃ h0, zFr [215, 226, 227, 228, 229, 230] h0 h ∧ h0 = h := ⟨h, zFr_r, rfl⟩
  rw [← e0]
  clear e0
  obtain ⟨h1, eh1, H⟩ := zlets H
  replace F := zFr_s F eh1 (by decide)
  obtain ⟨p2, hp2, H⟩ := zbs H
  replace F := zFr_w F (f_qM_hand hp2) (by decide)
  by_cases c3 : p2.1 = 0
  · replace H := zif_t c3 H
    cases H
    exact F
  · replace H := zif_f c3 H
    by_cases c4 : ¬ (zf_in x2 (-1) ((gI p2.2 215 23) - 1)) = 0
    · replace H := zif_t c4 H
      obtain ⟨p5, hp5, H⟩ := zbs H
      replace F := zFr_w F (f_qM_sortPlaces hp5) (by decide)
      obtain ⟨t15, ht15, H⟩ := zbs H
      have Fl := f_qM_laying_b40_l zfu _ _ ht15
      replace F := zFr_t F Fl
      clear Fl
      by_cases c17 : ¬ x2 = (-1)
      · replace H := zif_t c17 H
        obtain ⟨j18, hj18, H⟩ := zbs H
        cases H
        exact F
      · replace H := zif_f c17 H
        cases H
        exact F
    · replace H := zif_f c4 H
      cases H
      exact F
theorem f_qM_life {x1 : Int32} {x2 : Int32} {h : zK} {p : Int32 × zK} (H : qM_life x1 x2 h = some p) : zFr [215, 226, 227, 228, 229] h p.2 := by
  unfold qM_life at H
  obtain ⟨h0, F, e0⟩ : ∃ h0, zFr [215, 226, 227, 228, 229] h0 h ∧ h0 = h := ⟨h, zFr_r, rfl⟩
  rw [← e0]
  clear e0
  obtain ⟨h1, eh1, H⟩ := zlets H
  replace F := zFr_s F eh1 (by decide)
  obtain ⟨p2, hp2, H⟩ := zbs H
  replace F := zFr_w F (f_qM_hand hp2) (by decide)
  by_cases c3 : p2.1 = 0
  · replace H := zif_t c3 H
    cases H
    exact F
  · replace H := zif_f c3 H
    obtain ⟨p4, hp4, H⟩ := zbs H
    by_cases c5 : p4 = 0
    · replace H := zif_t c5 H
      cases H
      exact F
    · replace H := zif_f c5 H
      obtain ⟨p6, hp6, H⟩ := zbs H
      cases H
      exact F
theorem f_qM_plan_b39 {h0 : zK} {x2 : Int32} {x3 : Int32} {s : Int32 × zK} {e : (Int32 × zK) ⊕ (zK)} (F : zFr [215, 226, 227, 228, 229, 231] h0 s.2) (H : qM_plan_b39 x2 x3 s = some e) : match (generalizing := false) e with | .inl s' => zFr [215, 226, 227, 228, 229, 231] h0 s'.2 | .inr v => zFr [215, 226, 227, 228, 229, 231] h0 v := by
  unfold qM_plan_b39 at H
  by_cases c6 : 128 ≤ s.1
  · replace H := zif_t c6 H
    cases H
    exact F
  · replace H := zif_f c6 H
    obtain ⟨j7, hj7, H⟩ := zbs H
    obtain ⟨h8, eh8, H⟩ := zlets H
    replace F := zFr_s F eh8 (by decide)
    cases H
    exact F
theorem f_qM_plan_b39_l {x2 : Int32} {x3 : Int32} (n : Nat) (s : Int32 × zK) (t : zK) (H : zloop (qM_plan_b39 x2 x3) n s = some t) : zFr [215, 226, 227, 228, 229, 231] s.2 t := by
  exact zloop_P (P := fun s => zFr [215, 226, 227, 228, 229, 231] s.2 t) (b := qM_plan_b39 x2 x3) (t := t) (fun s s2 hb hk => zFr_t (f_qM_plan_b39 zFr_r hb) hk) (fun s hb => f_qM_plan_b39 zFr_r hb) n s H
theorem f_qM_plan_b80 {h0 : zK} {x3 : Int32} {x4 : Int32} {s : Int32 × zK} {e : (Int32 × zK) ⊕ (zK)} (F : zFr [215, 226, 227, 228, 229, 231] h0 s.2) (H : qM_plan_b80 x3 x4 s = some e) : match (generalizing := false) e with | .inl s' => zFr [215, 226, 227, 228, 229, 231] h0 s'.2 | .inr v => zFr [215, 226, 227, 228, 229, 231] h0 v := by
  unfold qM_plan_b80 at H
  by_cases c12 : 128 ≤ s.1
  · replace H := zif_t c12 H
    cases H
    exact F
  · replace H := zif_f c12 H
    obtain ⟨t15, ht15, H⟩ := zbs H
    obtain ⟨j17, hj17, H⟩ := zbs H
    obtain ⟨h18, eh18, H⟩ := zlets H
    replace F := zFr_s F eh18 (by decide)
    cases H
    exact F
theorem f_qM_plan_b80_l {x3 : Int32} {x4 : Int32} (n : Nat) (s : Int32 × zK) (t : zK) (H : zloop (qM_plan_b80 x3 x4) n s = some t) : zFr [215, 226, 227, 228, 229, 231] s.2 t := by
  exact zloop_P (P := fun s => zFr [215, 226, 227, 228, 229, 231] s.2 t) (b := qM_plan_b80 x3 x4) (t := t) (fun s s2 hb hk => zFr_t (f_qM_plan_b80 zFr_r hb) hk) (fun s hb => f_qM_plan_b80 zFr_r hb) n s H
theorem f_qM_plan_b72 {h0 : zK} {x3 : Int32} {s : Int32 × zK} {e : (Int32 × zK) ⊕ (zK)} (F : zFr [215, 226, 227, 228, 229, 231] h0 s.2) (H : qM_plan_b72 x3 s = some e) : match (generalizing := false) e with | .inl s' => zFr [215, 226, 227, 228, 229, 231] h0 s'.2 | .inr v => zFr [215, 226, 227, 228, 229, 231] h0 v := by
  unfold qM_plan_b72 at H
  by_cases c11 : s.1 < 0
  · replace H := zif_t c11 H
    cases H
    exact F
  · replace H := zif_f c11 H
    obtain ⟨t19, ht19, H⟩ := zbs H
    have Fl := f_qM_plan_b80_l zfu _ _ ht19
    replace F := zFr_t F Fl
    clear Fl
    cases H
    exact F
theorem f_qM_plan_b72_l {x3 : Int32} (n : Nat) (s : Int32 × zK) (t : zK) (H : zloop (qM_plan_b72 x3) n s = some t) : zFr [215, 226, 227, 228, 229, 231] s.2 t := by
  exact zloop_P (P := fun s => zFr [215, 226, 227, 228, 229, 231] s.2 t) (b := qM_plan_b72 x3) (t := t) (fun s s2 hb hk => zFr_t (f_qM_plan_b72 zFr_r hb) hk) (fun s hb => f_qM_plan_b72 zFr_r hb) n s H
theorem f_qM_plan {x1 : Int32} {x2 : Int32} {x3 : Int32} {h : zK} {p : Int32 × zK} (H : qM_plan x1 x2 x3 h = some p) : zFr [215, 226, 227, 228, 229, 231] h p.2 := by
  unfold qM_plan at H
  obtain ⟨h0, F, e0⟩ : ∃ h0, zFr [215, 226, 227, 228, 229, 231] h0 h ∧ h0 = h := ⟨h, zFr_r, rfl⟩
  rw [← e0]
  clear e0
  obtain ⟨h1, eh1, H⟩ := zlets H
  replace F := zFr_s F eh1 (by decide)
  by_cases c2 : (zf_in x2 0 10) = 0
  · replace H := zif_t c2 H
    cases H
    exact F
  · replace H := zif_f c2 H
    obtain ⟨p3, hp3, H⟩ := zbs H
    replace F := zFr_w F (f_qM_hand hp3) (by decide)
    by_cases c4 : p3.1 = 0
    · replace H := zif_t c4 H
      cases H
      exact F
    · replace H := zif_f c4 H
      by_cases c5 : ¬ (zf_in x3 (-1) (x2 - 1)) = 0
      · replace H := zif_t c5 H
        obtain ⟨t9, ht9, H⟩ := zbs H
        have Fl := f_qM_plan_b39_l zfu _ _ ht9
        replace F := zFr_t F Fl
        clear Fl
        obtain ⟨t21, ht21, H⟩ := zbs H
        have Fl := f_qM_plan_b72_l zfu _ _ ht21
        replace F := zFr_t F Fl
        clear Fl
        obtain ⟨t31, ht31, H⟩ := zbs H
        by_cases c33 : ¬ x3 = (-1)
        · replace H := zif_t c33 H
          cases H
          exact F
        · replace H := zif_f c33 H
          cases H
          exact F
      · replace H := zif_f c5 H
        cases H
        exact F
theorem f_qM_talk_b31 {h0 : zK} {x2 : Int32} {x3 : Int32} {s : Int32 × zK} {e : (Int32 × zK) ⊕ (zK)} (F : zFr [215, 226, 227, 228, 229, 232] h0 s.2) (H : qM_talk_b31 x2 x3 s = some e) : match (generalizing := false) e with | .inl s' => zFr [215, 226, 227, 228, 229, 232] h0 s'.2 | .inr v => zFr [215, 226, 227, 228, 229, 232] h0 v := by
  unfold qM_talk_b31 at H
  by_cases c5 : 7 < s.1
  · replace H := zif_t c5 H
    cases H
    exact F
  · replace H := zif_f c5 H
    obtain ⟨t8, ht8, H⟩ := zbs H
    obtain ⟨j10, hj10, H⟩ := zbs H
    obtain ⟨h11, eh11, H⟩ := zlets H
    replace F := zFr_s F eh11 (by decide)
    cases H
    exact F
theorem f_qM_talk_b31_l {x2 : Int32} {x3 : Int32} (n : Nat) (s : Int32 × zK) (t : zK) (H : zloop (qM_talk_b31 x2 x3) n s = some t) : zFr [215, 226, 227, 228, 229, 232] s.2 t := by
  exact zloop_P (P := fun s => zFr [215, 226, 227, 228, 229, 232] s.2 t) (b := qM_talk_b31 x2 x3) (t := t) (fun s s2 hb hk => zFr_t (f_qM_talk_b31 zFr_r hb) hk) (fun s hb => f_qM_talk_b31 zFr_r hb) n s H
theorem f_qM_talk_b24 {h0 : zK} {x2 : Int32} {s : Int32 × zK} {e : (Int32 × zK) ⊕ (zK)} (F : zFr [215, 226, 227, 228, 229, 232] h0 s.2) (H : qM_talk_b24 x2 s = some e) : match (generalizing := false) e with | .inl s' => zFr [215, 226, 227, 228, 229, 232] h0 s'.2 | .inr v => zFr [215, 226, 227, 228, 229, 232] h0 v := by
  unfold qM_talk_b24 at H
  by_cases c4 : s.1 < 0
  · replace H := zif_t c4 H
    cases H
    exact F
  · replace H := zif_f c4 H
    obtain ⟨t12, ht12, H⟩ := zbs H
    have Fl := f_qM_talk_b31_l zfu _ _ ht12
    replace F := zFr_t F Fl
    clear Fl
    cases H
    exact F
theorem f_qM_talk_b24_l {x2 : Int32} (n : Nat) (s : Int32 × zK) (t : zK) (H : zloop (qM_talk_b24 x2) n s = some t) : zFr [215, 226, 227, 228, 229, 232] s.2 t := by
  exact zloop_P (P := fun s => zFr [215, 226, 227, 228, 229, 232] s.2 t) (b := qM_talk_b24 x2) (t := t) (fun s s2 hb hk => zFr_t (f_qM_talk_b24 zFr_r hb) hk) (fun s hb => f_qM_talk_b24 zFr_r hb) n s H
theorem f_qM_talk_j127 {h0 : zK} {x2 : Int32} {x3 : Int32} {h : zK} {p : Int32 × zK} (F : zFr [215, 226, 227, 228, 229, 232] h0 h) (H : qM_talk_j127 x2 x3 h = some p) : zFr [215, 226, 227, 228, 229, 232] h0 p.2 := by
  unfold qM_talk_j127 at H
  by_cases c17 : ¬ x2 = (-1)
  · replace H := zif_t c17 H
    cases H
    exact F
  · replace H := zif_f c17 H
    cases H
    exact F
theorem f_qM_talk {x1 : Int32} {x2 : Int32} {h : zK} {p : Int32 × zK} (H : qM_talk x1 x2 h = some p) : zFr [215, 226, 227, 228, 229, 232] h p.2 := by
  unfold qM_talk at H
  obtain ⟨h0, F, e0⟩ : ∃ h0, zFr [215, 226, 227, 228, 229, 232] h0 h ∧ h0 = h := ⟨h, zFr_r, rfl⟩
  rw [← e0]
  clear e0
  obtain ⟨h1, eh1, H⟩ := zlets H
  replace F := zFr_s F eh1 (by decide)
  obtain ⟨p2, hp2, H⟩ := zbs H
  replace F := zFr_w F (f_qM_hand hp2) (by decide)
  by_cases c3 : ¬ p2.1 = 0
  · replace H := zif_t c3 H
    obtain ⟨t14, ht14, H⟩ := zbs H
    have Fl := f_qM_talk_b24_l zfu _ _ ht14
    replace F := zFr_t F Fl
    clear Fl
    by_cases c16 : x2 = (-1)
    · replace H := zif_t c16 H
      exact f_qM_talk_j127 F H
    · replace H := zif_f c16 H
      by_cases c18 : ¬ (zf_in x2 0 ((gI t14 232 896) - 1)) = 0
      · replace H := zif_t c18 H
        obtain ⟨t25, ht25, H⟩ := zbs H
        cases H
        exact F
      · replace H := zif_f c18 H
        exact f_qM_talk_j127 F H
  · replace H := zif_f c3 H
    cases H
    exact F
theorem f_qM_dinner_b49 {h0 : zK} {x2 : Int32} {x3 : Int32} {x4 : Int32} {s : Int32 × zK} {e : (Int32 × zK) ⊕ (zK)} (F : zFr [215, 226, 227, 228, 229, 232] h0 s.2) (H : qM_dinner_b49 x2 x3 x4 s = some e) : match (generalizing := false) e with | .inl s' => zFr [215, 226, 227, 228, 229, 232] h0 s'.2 | .inr v => zFr [215, 226, 227, 228, 229, 232] h0 v := by
  unfold qM_dinner_b49 at H
  by_cases c6 : 7 < s.1
  · replace H := zif_t c6 H
    cases H
    exact F
  · replace H := zif_f c6 H
    obtain ⟨v8, hv8, H⟩ := zlets H
    obtain ⟨t11, ht11, H⟩ := zbs H
    obtain ⟨j13, hj13, H⟩ := zbs H
    obtain ⟨h14, eh14, H⟩ := zlets H
    replace F := zFr_s F eh14 (by decide)
    cases H
    exact F
theorem f_qM_dinner_b49_l {x2 : Int32} {x3 : Int32} {x4 : Int32} (n : Nat) (s : Int32 × zK) (t : zK) (H : zloop (qM_dinner_b49 x2 x3 x4) n s = some t) : zFr [215, 226, 227, 228, 229, 232] s.2 t := by
  exact zloop_P (P := fun s => zFr [215, 226, 227, 228, 229, 232] s.2 t) (b := qM_dinner_b49 x2 x3 x4) (t := t) (fun s s2 hb hk => zFr_t (f_qM_dinner_b49 zFr_r hb) hk) (fun s hb => f_qM_dinner_b49 zFr_r hb) n s H
theorem f_qM_dinner_b41 {h0 : zK} {x2 : Int32} {x3 : Int32} {s : Int32 × zK} {e : (Int32 × zK) ⊕ (zK)} (F : zFr [215, 226, 227, 228, 229, 232] h0 s.2) (H : qM_dinner_b41 x2 x3 s = some e) : match (generalizing := false) e with | .inl s' => zFr [215, 226, 227, 228, 229, 232] h0 s'.2 | .inr v => zFr [215, 226, 227, 228, 229, 232] h0 v := by
  unfold qM_dinner_b41 at H
  by_cases c5 : s.1 < 0
  · replace H := zif_t c5 H
    cases H
    exact F
  · replace H := zif_f c5 H
    obtain ⟨t15, ht15, H⟩ := zbs H
    have Fl := f_qM_dinner_b49_l zfu _ _ ht15
    replace F := zFr_t F Fl
    clear Fl
    cases H
    exact F
theorem f_qM_dinner_b41_l {x2 : Int32} {x3 : Int32} (n : Nat) (s : Int32 × zK) (t : zK) (H : zloop (qM_dinner_b41 x2 x3) n s = some t) : zFr [215, 226, 227, 228, 229, 232] s.2 t := by
  exact zloop_P (P := fun s => zFr [215, 226, 227, 228, 229, 232] s.2 t) (b := qM_dinner_b41 x2 x3) (t := t) (fun s s2 hb hk => zFr_t (f_qM_dinner_b41 zFr_r hb) hk) (fun s hb => f_qM_dinner_b41 zFr_r hb) n s H
theorem f_qM_dinner {x1 : Int32} {x2 : Int32} {h : zK} {p : Int32 × zK} (H : qM_dinner x1 x2 h = some p) : zFr [215, 226, 227, 228, 229, 232] h p.2 := by
  unfold qM_dinner at H
  obtain ⟨h0, F, e0⟩ : ∃ h0, zFr [215, 226, 227, 228, 229, 232] h0 h ∧ h0 = h := ⟨h, zFr_r, rfl⟩
  rw [← e0]
  clear e0
  obtain ⟨h1, eh1, H⟩ := zlets H
  replace F := zFr_s F eh1 (by decide)
  obtain ⟨p2, hp2, H⟩ := zbs H
  replace F := zFr_w F (f_qM_hand hp2) (by decide)
  by_cases c3 : p2.1 = 0
  · replace H := zif_t c3 H
    cases H
    exact F
  · replace H := zif_f c3 H
    by_cases c4 : ¬ (zf_in x2 (-1) ((gI p2.2 215 23) - 1)) = 0
    · replace H := zif_t c4 H
      obtain ⟨t17, ht17, H⟩ := zbs H
      have Fl := f_qM_dinner_b41_l zfu _ _ ht17
      replace F := zFr_t F Fl
      clear Fl
      obtain ⟨t25, ht25, H⟩ := zbs H
      by_cases c27 : ¬ x2 = (-1)
      · replace H := zif_t c27 H
        cases H
        exact F
      · replace H := zif_f c27 H
        cases H
        exact F
    · replace H := zif_f c4 H
      cases H
      exact F
theorem f_qM_wires_b80 {h0 : zK} {x2 : Int32} {x3 : Int32} {x4 : Int32} {x5 : Int32} {s : Int32 × zK} {e : (Int32 × zK) ⊕ (zK)} (F : zFr [215, 226, 227, 228, 229] h0 s.2) (H : qM_wires_b80 x2 x3 x4 x5 s = some e) : match (generalizing := false) e with | .inl s' => zFr [215, 226, 227, 228, 229] h0 s'.2 | .inr v => zFr [215, 226, 227, 228, 229] h0 v := by
  unfold qM_wires_b80 at H
  by_cases c14 : (gI s.2 215 23) ≤ s.1
  · replace H := zif_t c14 H
    cases H
    exact F
  · replace H := zif_f c14 H
    obtain ⟨j15, hj15, H⟩ := zbs H
    obtain ⟨v17, hv17, H⟩ := zlets H
    obtain ⟨h18, eh18, H⟩ := zlets H
    replace F := zFr_s F eh18 (by decide)
    cases H
    exact F
theorem f_qM_wires_b80_l {x2 : Int32} {x3 : Int32} {x4 : Int32} {x5 : Int32} (n : Nat) (s : Int32 × zK) (t : zK) (H : zloop (qM_wires_b80 x2 x3 x4 x5) n s = some t) : zFr [215, 226, 227, 228, 229] s.2 t := by
  exact zloop_P (P := fun s => zFr [215, 226, 227, 228, 229] s.2 t) (b := qM_wires_b80 x2 x3 x4 x5) (t := t) (fun s s2 hb hk => zFr_t (f_qM_wires_b80 zFr_r hb) hk) (fun s hb => f_qM_wires_b80 zFr_r hb) n s H
theorem f_qM_wires_b123 {h0 : zK} {x2 : Int32} {x3 : Int32} {x4 : Int32} {x5 : Int32} {s : Int32 × zK} {e : (Int32 × zK) ⊕ (zK)} (F : zFr [215, 226, 227, 228, 229] h0 s.2) (H : qM_wires_b123 x2 x3 x4 x5 s = some e) : match (generalizing := false) e with | .inl s' => zFr [215, 226, 227, 228, 229] h0 s'.2 | .inr v => zFr [215, 226, 227, 228, 229] h0 v := by
  unfold qM_wires_b123 at H
  by_cases c21 : x2 ≤ s.1
  · replace H := zif_t c21 H
    cases H
    exact F
  · replace H := zif_f c21 H
    obtain ⟨p22, hp22, H⟩ := zbs H
    replace F := zFr_w F (f_qM_goesOn hp22) (by decide)
    cases H
    exact F
theorem f_qM_wires_b123_l {x2 : Int32} {x3 : Int32} {x4 : Int32} {x5 : Int32} (n : Nat) (s : Int32 × zK) (t : zK) (H : zloop (qM_wires_b123 x2 x3 x4 x5) n s = some t) : zFr [215, 226, 227, 228, 229] s.2 t := by
  exact zloop_P (P := fun s => zFr [215, 226, 227, 228, 229] s.2 t) (b := qM_wires_b123 x2 x3 x4 x5) (t := t) (fun s s2 hb hk => zFr_t (f_qM_wires_b123 zFr_r hb) hk) (fun s hb => f_qM_wires_b123 zFr_r hb) n s H
theorem f_qM_wires_b31 {h0 : zK} {x2 : Int32} {x3 : Int32} {s : Int32 × Int32 × zK} {e : (Int32 × Int32 × zK) ⊕ (Int32 × zK)} (F : zFr [215, 226, 227, 228, 229] h0 s.2.2) (H : qM_wires_b31 x2 x3 s = some e) : match (generalizing := false) e with | .inl s' => zFr [215, 226, 227, 228, 229] h0 s'.2.2 | .inr v => zFr [215, 226, 227, 228, 229] h0 v.2 := by
  unfold qM_wires_b31 at H
  by_cases c5 : ((1 : Int32) <<< ((gI s.2.2 215 23) &&& 31)) ≤ s.2.1
  · replace H := zif_t c5 H
    cases H
    exact F
  · replace H := zif_f c5 H
    obtain ⟨v7, hv7, H⟩ := zbs H
    obtain ⟨v12, hv12, H⟩ := zbs H
    replace F : zFr [215, 226, 227, 228, 229] h0 v12.2 := by
      clear H
      by_cases c11 : v7 = 0
      · replace hv12 := zif_t c11 hv12
        cases hv12
        exact F
      · replace hv12 := zif_f c11 hv12
        obtain ⟨p13, hp13, hv12⟩ := zbs hv12
        replace F := zFr_w F (f_qM_asTold hp13) (by decide)
        obtain ⟨t19, ht19, hv12⟩ := zbs hv12
        have Fl := f_qM_wires_b80_l zfu _ _ ht19
        replace F := zFr_t F Fl
        clear Fl
        obtain ⟨t23, ht23, hv12⟩ := zbs hv12
        have Fl := f_qM_wires_b123_l zfu _ _ ht23
        replace F := zFr_t F Fl
        clear Fl
        obtain ⟨v26, hv26, hv12⟩ := zlets hv12
        cases hv12
        exact F
    cases H
    exact F
theorem f_qM_wires_b31_l {x2 : Int32} {x3 : Int32} (n : Nat) (s : Int32 × Int32 × zK) (t : Int32 × zK) (H : zloop (qM_wires_b31 x2 x3) n s = some t) : zFr [215, 226, 227, 228, 229] s.2.2 t.2 := by
  exact zloop_P (P := fun s => zFr [215, 226, 227, 228, 229] s.2.2 t.2) (b := qM_wires_b31 x2 x3) (t := t) (fun s s2 hb hk => zFr_t (f_qM_wires_b31 zFr_r hb) hk) (fun s hb => f_qM_wires_b31 zFr_r hb) n s H
theorem f_qM_wires {x1 : Int32} {x2 : Int32} {x3 : Int32} {h : zK} {p : Int32 × zK} (H : qM_wires x1 x2 x3 h = some p) : zFr [215, 226, 227, 228, 229] h p.2 := by
  unfold qM_wires at H
  obtain ⟨h0, F, e0⟩ : ∃ h0, zFr [215, 226, 227, 228, 229] h0 h ∧ h0 = h := ⟨h, zFr_r, rfl⟩
  rw [← e0]
  clear e0
  obtain ⟨h1, eh1, H⟩ := zlets H
  replace F := zFr_s F eh1 (by decide)
  by_cases c2 : (zf_in x2 0 20) = 0
  · replace H := zif_t c2 H
    cases H
    exact F
  · replace H := zif_f c2 H
    obtain ⟨p3, hp3, H⟩ := zbs H
    replace F := zFr_w F (f_qM_hand hp3) (by decide)
    by_cases c4 : ¬ p3.1 = 0
    · replace H := zif_t c4 H
      obtain ⟨t27, ht27, H⟩ := zbs H
      have Fl := f_qM_wires_b31_l zfu _ _ ht27
      replace F := zFr_t F Fl
      clear Fl
      by_cases c29 : t27.1 = (-1)
      · replace H := zif_t c29 H
        cases H
        exact F
      · replace H := zif_f c29 H
        by_cases c30 : x3 = 0
        · replace H := zif_t c30 H
          obtain ⟨p31, hp31, H⟩ := zbs H
          cases H
          exact F
        · replace H := zif_f c30 H
          cases H
          exact F
    · replace H := zif_f c4 H
      cases H
      exact F
