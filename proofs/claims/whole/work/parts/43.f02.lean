theorem f_qLa_settle_b23 {h0 : zK} {x1 : Int32} {rec : Int32 → Int32 → zK → Option zK} (hrec : ∀ x1 x2 (h p : zK), rec x1 x2 h = some p → zFr [182, 183, 184, 185, 188, 189, 191] h p) {s : Int32 × zK} {e : (Int32 × zK) ⊕ (zK)} (F : zFr [182, 183, 184, 185, 188, 189, 191] h0 s.2) (H : qLa_settle_b23 rec x1 s = some e) : match (generalizing := false) e with | .inl s' => zFr [182, 183, 184, 185, 188, 189, 191] h0 s'.2 | .inr v => zFr [182, 183, 184, 185, 188, 189, 191] h0 v := by
  unfold qLa_settle_b23 at H
  by_cases c3 : (gI s.2 186 0) ≤ s.1
  · replace H := zif_t c3 H
    cases H
    exact F
  · replace H := zif_f c3 H
    by_cases c4 : (gI s.2 184 0) ≤ (gI s.2 184 7)
    · replace H := zif_t c4 H
      cases H
      exact F
    · replace H := zif_f c4 H
      obtain ⟨v6, hv6, H⟩ := zbs H
      replace F : zFr [182, 183, 184, 185, 188, 189, 191] h0 v6 := by
        clear H
        by_cases c5 : ¬ (qLa_isNextFree s.1 s.2) = 0
        · replace hv6 := zif_t c5 hv6
          obtain ⟨h7, eh7, hv6⟩ := zlets hv6
          replace F := zFr_s F eh7 (by decide)
          obtain ⟨j8, hj8, hv6⟩ := zbs hv6
          obtain ⟨h9, eh9, hv6⟩ := zlets hv6
          replace F := zFr_s F eh9 (by decide)
          obtain ⟨j10, hj10, hv6⟩ := zbs hv6
          obtain ⟨p11, hp11, hv6⟩ := zbs hv6
          replace F := zFr_w F (f_qTr_lay (by decide) hp11) (by decide)
          obtain ⟨p12, hp12, hv6⟩ := zbs hv6
          obtain ⟨v14, hv14, hv6⟩ := zbs hv6
          replace F : zFr [182, 183, 184, 185, 188, 189, 191] h0 v14 := by
            clear hv6
            by_cases c13 : (gI p11 184 0) ≤ p12
            · replace hv14 := zif_t c13 hv14
              cases hv14
              exact F
            · replace hv14 := zif_f c13 hv14
              obtain ⟨p15, hp15, hv14⟩ := zbs hv14
              replace F := zFr_w F (hrec _ _ _ _ hp15) (by decide)
              cases hv14
              exact F
          obtain ⟨p16, hp16, hv6⟩ := zbs hv6
          replace F := zFr_w F (f_qTr_takeUp (by decide) hp16) (by decide)
          obtain ⟨h17, eh17, hv6⟩ := zlets hv6
          replace F := zFr_s F eh17 (by decide)
          cases hv6
          exact F
        · replace hv6 := zif_f c5 hv6
          cases hv6
          exact F
      cases H
      exact F
theorem f_qLa_settle_b23_l {x1 : Int32} {rec : Int32 → Int32 → zK → Option zK} (hrec : ∀ x1 x2 (h p : zK), rec x1 x2 h = some p → zFr [182, 183, 184, 185, 188, 189, 191] h p) (n : Nat) (s : Int32 × zK) (t : zK) (H : zloop (qLa_settle_b23 rec x1) n s = some t) : zFr [182, 183, 184, 185, 188, 189, 191] s.2 t := by
  exact zloop_P (P := fun s => zFr [182, 183, 184, 185, 188, 189, 191] s.2 t) (b := qLa_settle_b23 rec x1) (t := t) (fun s s2 hb hk => zFr_t (f_qLa_settle_b23 hrec zFr_r hb) hk) (fun s hb => f_qLa_settle_b23 hrec zFr_r hb) n s H
theorem f_qLa_settle_F {x1 : Int32} {x2 : Int32} {h : zK} {p : zK} {rec : Int32 → Int32 → zK → Option zK} (hrec : ∀ x1 x2 (h p : zK), rec x1 x2 h = some p → zFr [182, 183, 184, 185, 188, 189, 191] h p) (H : qLa_settle_F rec x1 x2 h = some p) : zFr [182, 183, 184, 185, 188, 189, 191] h p := by
  unfold qLa_settle_F at H
  obtain ⟨h0, F, e0⟩ : ∃ h0, zFr [182, 183, 184, 185, 188, 189, 191] h0 h ∧ h0 = h := ⟨h, zFr_r, rfl⟩
  rw [← e0]
  clear e0
  by_cases c1 : x1 < (gI h 186 0)
  · replace H := zif_t c1 H
    obtain ⟨p2, hp2, H⟩ := zbs H
    obtain ⟨t18, ht18, H⟩ := zbs H
    have Fl := f_qLa_settle_b23_l hrec zfu _ _ ht18
    replace F := zFr_t F Fl
    clear Fl
    cases H
    exact F
  · replace H := zif_f c1 H
    obtain ⟨p20, hp20, H⟩ := zbs H
    replace F := zFr_w F (f_qLa_keep hp20) (by decide)
    cases H
    exact F
theorem f_qLa_settleN : ∀ (n : Nat) (x1 x2 : Int32) (h p : zK), qLa_settleN n x1 x2 h = some p → zFr [182, 183, 184, 185, 188, 189, 191] h p := by
  intro n
  induction n with
  | zero => intro x1 x2 h p H; unfold qLa_settleN at H; cases H
  | succ n ih =>
    intro x1 x2 h p H
    unfold qLa_settleN at H
    exact f_qLa_settle_F ih H
theorem f_qLa_settle {x1 x2 : Int32} {h p : zK} (H : qLa_settle x1 x2 h = some p) : zFr [182, 183, 184, 185, 188, 189, 191] h p := f_qLa_settleN 9 _ _ _ _ H
theorem f_qLa_find_b24 {h0 : zK} {oc : Nat} {s : Int32 × zK} {e : (Int32 × zK) ⊕ (zK)} (ho : oc = 7 ∨ oc = 22) (F : zFr [180, 181, 182, 183, 184, 185, 186, 187, 188, 189, 190, 191] h0 s.2) (H : qLa_find_b24 oc s = some e) : match (generalizing := false) e with | .inl s' => zFr [180, 181, 182, 183, 184, 185, 186, 187, 188, 189, 190, 191] h0 s'.2 | .inr v => zFr [180, 181, 182, 183, 184, 185, 186, 187, 188, 189, 190, 191] h0 v := by
  unfold qLa_find_b24 at H
  rcases ho with rfl | rfl
  · by_cases c4 : (gI s.2 7 2) ≤ s.1
    · replace H := zif_t c4 H
      cases H
      exact F
    · replace H := zif_f c4 H
      obtain ⟨p5, hp5, H⟩ := zbs H
      replace F := zFr_w F (f_qTr_takeUp (by decide) hp5) (by decide)
      cases H
      exact F
  · by_cases c4 : (gI s.2 22 2) ≤ s.1
    · replace H := zif_t c4 H
      cases H
      exact F
    · replace H := zif_f c4 H
      obtain ⟨p5, hp5, H⟩ := zbs H
      replace F := zFr_w F (f_qTr_takeUp (by decide) hp5) (by decide)
      cases H
      exact F
theorem f_qLa_find_b24_l {oc : Nat} (ho : oc = 7 ∨ oc = 22) (n : Nat) (s : Int32 × zK) (t : zK) (H : zloop (qLa_find_b24 oc) n s = some t) : zFr [180, 181, 182, 183, 184, 185, 186, 187, 188, 189, 190, 191] s.2 t := by
  exact zloop_P (P := fun s => zFr [180, 181, 182, 183, 184, 185, 186, 187, 188, 189, 190, 191] s.2 t) (b := qLa_find_b24 oc) (t := t) (fun s s2 hb hk => zFr_t (f_qLa_find_b24 ho zFr_r hb) hk) (fun s hb => f_qLa_find_b24 ho zFr_r hb) n s H
theorem f_qLa_find {x1 : Int32} {oc : Nat} {h : zK} {p : zK} (ho : oc = 7 ∨ oc = 22) (H : qLa_find x1 oc h = some p) : zFr [180, 181, 182, 183, 184, 185, 186, 187, 188, 189, 190, 191] h p := by
  unfold qLa_find at H
  obtain ⟨h0, F, e0⟩ : ∃ h0, zFr [180, 181, 182, 183, 184, 185, 186, 187, 188, 189, 190, 191] h0 h ∧ h0 = h := ⟨h, zFr_r, rfl⟩
  rw [← e0]
  clear e0
  rcases ho with rfl | rfl
  · by_cases c1 : ¬ (gI h 184 8) = x1
    · replace H := zif_t c1 H
      obtain ⟨h2, eh2, H⟩ := zlets H
      replace F := zFr_s F eh2 (by decide)
      obtain ⟨p3, hp3, H⟩ := zbs H
      replace F := zFr_w F (f_qTr_lookAt (by decide) hp3) (by decide)
      obtain ⟨t6, ht6, H⟩ := zbs H
      have Fl := f_qLa_find_b24_l (oc := 7) (by decide) zfu _ _ ht6
      replace F := zFr_t F Fl
      clear Fl
      obtain ⟨p8, hp8, H⟩ := zbs H
      replace F := zFr_w F (f_qLa_sortPlaces (by decide) hp8) (by decide)
      obtain ⟨p9, hp9, H⟩ := zbs H
      replace F := zFr_w F (f_qLa_findTwins (by decide) hp9) (by decide)
      obtain ⟨h10, eh10, H⟩ := zlets H
      replace F := zFr_s F eh10 (by decide)
      obtain ⟨h11, eh11, H⟩ := zlets H
      replace F := zFr_s F eh11 (by decide)
      obtain ⟨p12, hp12, H⟩ := zbs H
      obtain ⟨h13, eh13, H⟩ := zlets H
      replace F := zFr_s F eh13 (by decide)
      obtain ⟨p14, hp14, H⟩ := zbs H
      replace F := zFr_w F (f_qLa_settle hp14) (by decide)
      cases H
      exact F
    · replace H := zif_f c1 H
      cases H
      exact F
  · by_cases c1 : ¬ (gI h 184 8) = x1
    · replace H := zif_t c1 H
      obtain ⟨h2, eh2, H⟩ := zlets H
      replace F := zFr_s F eh2 (by decide)
      obtain ⟨p3, hp3, H⟩ := zbs H
      replace F := zFr_w F (f_qTr_lookAt (by decide) hp3) (by decide)
      obtain ⟨t6, ht6, H⟩ := zbs H
      have Fl := f_qLa_find_b24_l (oc := 22) (by decide) zfu _ _ ht6
      replace F := zFr_t F Fl
      clear Fl
      obtain ⟨p8, hp8, H⟩ := zbs H
      replace F := zFr_w F (f_qLa_sortPlaces (by decide) hp8) (by decide)
      obtain ⟨p9, hp9, H⟩ := zbs H
      replace F := zFr_w F (f_qLa_findTwins (by decide) hp9) (by decide)
      obtain ⟨h10, eh10, H⟩ := zlets H
      replace F := zFr_s F eh10 (by decide)
      obtain ⟨h11, eh11, H⟩ := zlets H
      replace F := zFr_s F eh11 (by decide)
      obtain ⟨p12, hp12, H⟩ := zbs H
      obtain ⟨h13, eh13, H⟩ := zlets H
      replace F := zFr_s F eh13 (by decide)
      obtain ⟨p14, hp14, H⟩ := zbs H
      replace F := zFr_w F (f_qLa_settle hp14) (by decide)
      cases H
      exact F
    · replace H := zif_f c1 H
      cases H
      exact F
set_option maxRecDepth 20000 in
theorem f_qLo_become {oo : Nat} {oq : Nat} {h : zK} {p : zK} (ho : (oo = 19 ∧ oq = 56) ∨ (oo = 34 ∧ oq = 71) ∨ (oo = 19 ∧ oq = 92) ∨ (oo = 34 ∧ oq = 107) ∨ (oo = 19 ∧ oq = 128) ∨ (oo = 34 ∧ oq = 143) ∨ (oo = 56 ∧ oq = 19) ∨ (oo = 71 ∧ oq = 34) ∨ (oo = 92 ∧ oq = 19) ∨ (oo = 107 ∧ oq = 34) ∨ (oo = 128 ∧ oq = 19) ∨ (oo = 143 ∧ oq = 34) ∨ (oo = 19 ∧ oq = 160) ∨ (oo = 34 ∧ oq = 160)) (H : qLo_become oo oq h = some p) : zFr [19, 20, 21, 34, 35, 36, 56, 57, 58, 71, 72, 73, 92, 93, 94, 107, 108, 109, 128, 129, 130, 143, 144, 145] h p := by
  unfold qLo_become at H
  obtain ⟨h0, F, e0⟩ : ∃ h0, zFr [19, 20, 21, 34, 35, 36, 56, 57, 58, 71, 72, 73, 92, 93, 94, 107, 108, 109, 128, 129, 130, 143, 144, 145] h0 h ∧ h0 = h := ⟨h, zFr_r, rfl⟩
  rw [← e0]
  clear e0
  rcases ho with ⟨rfl, rfl⟩ | ⟨rfl, rfl⟩ | ⟨rfl, rfl⟩ | ⟨rfl, rfl⟩ | ⟨rfl, rfl⟩ | ⟨rfl, rfl⟩ | ⟨rfl, rfl⟩ | ⟨rfl, rfl⟩ | ⟨rfl, rfl⟩ | ⟨rfl, rfl⟩ | ⟨rfl, rfl⟩ | ⟨rfl, rfl⟩ | ⟨rfl, rfl⟩ | ⟨rfl, rfl⟩
  · obtain ⟨h1, eh1, H⟩ := zlets H
    replace F := zFr_s F eh1 (by decide)
    obtain ⟨h2, eh2, H⟩ := zlets H
    replace F := zFr_c F eh2 (by decide)
    obtain ⟨h4, eh4, H⟩ := zlets H
    replace F := zFr_c F eh4 (by decide)
    cases H
    exact F
  · obtain ⟨h1, eh1, H⟩ := zlets H
    replace F := zFr_s F eh1 (by decide)
    obtain ⟨h2, eh2, H⟩ := zlets H
    replace F := zFr_c F eh2 (by decide)
    obtain ⟨h4, eh4, H⟩ := zlets H
    replace F := zFr_c F eh4 (by decide)
    cases H
    exact F
  · obtain ⟨h1, eh1, H⟩ := zlets H
    replace F := zFr_s F eh1 (by decide)
    obtain ⟨h2, eh2, H⟩ := zlets H
    replace F := zFr_c F eh2 (by decide)
    obtain ⟨h4, eh4, H⟩ := zlets H
    replace F := zFr_c F eh4 (by decide)
    cases H
    exact F
  · obtain ⟨h1, eh1, H⟩ := zlets H
    replace F := zFr_s F eh1 (by decide)
    obtain ⟨h2, eh2, H⟩ := zlets H
    replace F := zFr_c F eh2 (by decide)
    obtain ⟨h4, eh4, H⟩ := zlets H
    replace F := zFr_c F eh4 (by decide)
    cases H
    exact F
  · obtain ⟨h1, eh1, H⟩ := zlets H
    replace F := zFr_s F eh1 (by decide)
    obtain ⟨h2, eh2, H⟩ := zlets H
    replace F := zFr_c F eh2 (by decide)
    obtain ⟨h4, eh4, H⟩ := zlets H
    replace F := zFr_c F eh4 (by decide)
    cases H
    exact F
  · obtain ⟨h1, eh1, H⟩ := zlets H
    replace F := zFr_s F eh1 (by decide)
    obtain ⟨h2, eh2, H⟩ := zlets H
    replace F := zFr_c F eh2 (by decide)
    obtain ⟨h4, eh4, H⟩ := zlets H
    replace F := zFr_c F eh4 (by decide)
    cases H
    exact F
  · obtain ⟨h1, eh1, H⟩ := zlets H
    replace F := zFr_s F eh1 (by decide)
    obtain ⟨h2, eh2, H⟩ := zlets H
    replace F := zFr_c F eh2 (by decide)
    obtain ⟨h4, eh4, H⟩ := zlets H
    replace F := zFr_c F eh4 (by decide)
    cases H
    exact F
  · obtain ⟨h1, eh1, H⟩ := zlets H
    replace F := zFr_s F eh1 (by decide)
    obtain ⟨h2, eh2, H⟩ := zlets H
    replace F := zFr_c F eh2 (by decide)
    obtain ⟨h4, eh4, H⟩ := zlets H
    replace F := zFr_c F eh4 (by decide)
    cases H
    exact F
  · obtain ⟨h1, eh1, H⟩ := zlets H
    replace F := zFr_s F eh1 (by decide)
    obtain ⟨h2, eh2, H⟩ := zlets H
    replace F := zFr_c F eh2 (by decide)
    obtain ⟨h4, eh4, H⟩ := zlets H
    replace F := zFr_c F eh4 (by decide)
    cases H
    exact F
  · obtain ⟨h1, eh1, H⟩ := zlets H
    replace F := zFr_s F eh1 (by decide)
    obtain ⟨h2, eh2, H⟩ := zlets H
    replace F := zFr_c F eh2 (by decide)
    obtain ⟨h4, eh4, H⟩ := zlets H
    replace F := zFr_c F eh4 (by decide)
    cases H
    exact F
  · obtain ⟨h1, eh1, H⟩ := zlets H
    replace F := zFr_s F eh1 (by decide)
    obtain ⟨h2, eh2, H⟩ := zlets H
    replace F := zFr_c F eh2 (by decide)
    obtain ⟨h4, eh4, H⟩ := zlets H
    replace F := zFr_c F eh4 (by decide)
    cases H
    exact F
  · obtain ⟨h1, eh1, H⟩ := zlets H
    replace F := zFr_s F eh1 (by decide)
    obtain ⟨h2, eh2, H⟩ := zlets H
    replace F := zFr_c F eh2 (by decide)
    obtain ⟨h4, eh4, H⟩ := zlets H
    replace F := zFr_c F eh4 (by decide)
    cases H
    exact F
  · obtain ⟨h1, eh1, H⟩ := zlets H
    replace F := zFr_s F eh1 (by decide)
    obtain ⟨h2, eh2, H⟩ := zlets H
    replace F := zFr_c F eh2 (by decide)
    obtain ⟨h4, eh4, H⟩ := zlets H
    replace F := zFr_c F eh4 (by decide)
    cases H
    exact F
  · obtain ⟨h1, eh1, H⟩ := zlets H
    replace F := zFr_s F eh1 (by decide)
    obtain ⟨h2, eh2, H⟩ := zlets H
    replace F := zFr_c F eh2 (by decide)
    obtain ⟨h4, eh4, H⟩ := zlets H
    replace F := zFr_c F eh4 (by decide)
    cases H
    exact F
theorem f_qLo_add {x1 : Int32} {x2 : Int32} {h : zK} {p : zK} (H : qLo_add x1 x2 h = some p) : zFr [160, 161, 162] h p := by
  unfold qLo_add at H
  obtain ⟨h0, F, e0⟩ : ∃ h0, zFr [160, 161, 162] h0 h ∧ h0 = h := ⟨h, zFr_r, rfl⟩
  rw [← e0]
  clear e0
  by_cases c1 : (qLo_isFull h) = 0
  · replace H := zif_t c1 H
    obtain ⟨j2, hj2, H⟩ := zbs H
    obtain ⟨h3, eh3, H⟩ := zlets H
    replace F := zFr_s F eh3 (by decide)
    obtain ⟨j4, hj4, H⟩ := zbs H
    obtain ⟨h5, eh5, H⟩ := zlets H
    replace F := zFr_s F eh5 (by decide)
    obtain ⟨h6, eh6, H⟩ := zlets H
    replace F := zFr_s F eh6 (by decide)
    cases H
    exact F
  · replace H := zif_f c1 H
    cases H
    exact F
theorem f_qOr_bestPlan_b2 {h0 : zK} {oc : Nat} {x2 : Int32} {s : Int32 × zK} {e : (Int32 × zK) ⊕ (zK)} (ho : oc = 7 ∨ oc = 22) (F : zFr [192, 193, 194, 195] h0 s.2) (H : qOr_bestPlan_b2 oc x2 s = some e) : match (generalizing := false) e with | .inl s' => zFr [192, 193, 194, 195] h0 s'.2 | .inr v => zFr [192, 193, 194, 195] h0 v := by
  unfold qOr_bestPlan_b2 at H
  rcases ho with rfl | rfl
  · by_cases c1 : (gI s.2 7 2) ≤ s.1
    · replace H := zif_t c1 H
      cases H
      exact F
    · replace H := zif_f c1 H
      obtain ⟨p2, hp2, H⟩ := zbs H
      obtain ⟨v4, hv4, H⟩ := zlets H
      obtain ⟨j5, hj5, H⟩ := zbs H
      obtain ⟨h6, eh6, H⟩ := zlets H
      replace F := zFr_s F eh6 (by decide)
      cases H
      exact F
  · by_cases c1 : (gI s.2 22 2) ≤ s.1
    · replace H := zif_t c1 H
      cases H
      exact F
    · replace H := zif_f c1 H
      obtain ⟨p2, hp2, H⟩ := zbs H
      obtain ⟨v4, hv4, H⟩ := zlets H
      obtain ⟨j5, hj5, H⟩ := zbs H
      obtain ⟨h6, eh6, H⟩ := zlets H
      replace F := zFr_s F eh6 (by decide)
      cases H
      exact F
theorem f_qOr_bestPlan_b2_l {oc : Nat} {x2 : Int32} (ho : oc = 7 ∨ oc = 22) (n : Nat) (s : Int32 × zK) (t : zK) (H : zloop (qOr_bestPlan_b2 oc x2) n s = some t) : zFr [192, 193, 194, 195] s.2 t := by
  exact zloop_P (P := fun s => zFr [192, 193, 194, 195] s.2 t) (b := qOr_bestPlan_b2 oc x2) (t := t) (fun s s2 hb hk => zFr_t (f_qOr_bestPlan_b2 ho zFr_r hb) hk) (fun s hb => f_qOr_bestPlan_b2 ho zFr_r hb) n s H
theorem f_qOr_bestPlan_b44 {h0 : zK} {oc : Nat} {x2 : Int32} {s : Int32 × zK} {e : (Int32 × zK) ⊕ (zK)} (ho : oc = 7 ∨ oc = 22) (F : zFr [192, 193, 194, 195] h0 s.2) (H : qOr_bestPlan_b44 oc x2 s = some e) : match (generalizing := false) e with | .inl s' => zFr [192, 193, 194, 195] h0 s'.2 | .inr v => zFr [192, 193, 194, 195] h0 v := by
  unfold qOr_bestPlan_b44 at H
  rcases ho with rfl | rfl
  · by_cases c9 : (qCe_all 7 s.2) < s.1
    · replace H := zif_t c9 H
      cases H
      exact F
    · replace H := zif_f c9 H
      obtain ⟨j10, hj10, H⟩ := zbs H
      obtain ⟨h11, eh11, H⟩ := zlets H
      replace F := zFr_s F eh11 (by decide)
      cases H
      exact F
  · by_cases c9 : (qCe_all 22 s.2) < s.1
    · replace H := zif_t c9 H
      cases H
      exact F
    · replace H := zif_f c9 H
      obtain ⟨j10, hj10, H⟩ := zbs H
      obtain ⟨h11, eh11, H⟩ := zlets H
      replace F := zFr_s F eh11 (by decide)
      cases H
      exact F
theorem f_qOr_bestPlan_b44_l {oc : Nat} {x2 : Int32} (ho : oc = 7 ∨ oc = 22) (n : Nat) (s : Int32 × zK) (t : zK) (H : zloop (qOr_bestPlan_b44 oc x2) n s = some t) : zFr [192, 193, 194, 195] s.2 t := by
  exact zloop_P (P := fun s => zFr [192, 193, 194, 195] s.2 t) (b := qOr_bestPlan_b44 oc x2) (t := t) (fun s s2 hb hk => zFr_t (f_qOr_bestPlan_b44 ho zFr_r hb) hk) (fun s hb => f_qOr_bestPlan_b44 ho zFr_r hb) n s H
theorem f_qOr_bestPlan_b82 {h0 : zK} {oc : Nat} {x2 : Int32} {x3 : Int32} {s : Int32 × zK} {e : (Int32 × zK) ⊕ (zK)} (ho : oc = 7 ∨ oc = 22) (F : zFr [192, 193, 194, 195] h0 s.2) (H : qOr_bestPlan_b82 oc x2 x3 s = some e) : match (generalizing := false) e with | .inl s' => zFr [192, 193, 194, 195] h0 s'.2 | .inr v => zFr [192, 193, 194, 195] h0 v := by
  unfold qOr_bestPlan_b82 at H
  rcases ho with rfl | rfl
  · by_cases c15 : (qCe_all 7 s.2) < s.1
    · replace H := zif_t c15 H
      cases H
      exact F
    · replace H := zif_f c15 H
      obtain ⟨v17, hv17, H⟩ := zbs H
      replace F : zFr [192, 193, 194, 195] h0 v17 := by
        clear H
        by_cases c16 : x3 < (qIn_bitCount s.1)
        · replace hv17 := zif_t c16 hv17
          cases hv17
          exact F
        · replace hv17 := zif_f c16 hv17
          obtain ⟨p18, hp18, hv17⟩ := zbs hv17
          obtain ⟨p19, hp19, hv17⟩ := zbs hv17
          obtain ⟨j20, hj20, hv17⟩ := zbs hv17
          obtain ⟨h21, eh21, hv17⟩ := zlets hv17
          replace F := zFr_s F eh21 (by decide)
          cases hv17
          exact F
      cases H
      exact F
  · by_cases c15 : (qCe_all 22 s.2) < s.1
    · replace H := zif_t c15 H
      cases H
      exact F
    · replace H := zif_f c15 H
      obtain ⟨v17, hv17, H⟩ := zbs H
      replace F : zFr [192, 193, 194, 195] h0 v17 := by
        clear H
        by_cases c16 : x3 < (qIn_bitCount s.1)
        · replace hv17 := zif_t c16 hv17
          cases hv17
          exact F
        · replace hv17 := zif_f c16 hv17
          obtain ⟨p18, hp18, hv17⟩ := zbs hv17
          obtain ⟨p19, hp19, hv17⟩ := zbs hv17
          obtain ⟨j20, hj20, hv17⟩ := zbs hv17
          obtain ⟨h21, eh21, hv17⟩ := zlets hv17
          replace F := zFr_s F eh21 (by decide)
          cases hv17
          exact F
      cases H
      exact F
theorem f_qOr_bestPlan_b82_l {oc : Nat} {x2 : Int32} {x3 : Int32} (ho : oc = 7 ∨ oc = 22) (n : Nat) (s : Int32 × zK) (t : zK) (H : zloop (qOr_bestPlan_b82 oc x2 x3) n s = some t) : zFr [192, 193, 194, 195] s.2 t := by
  exact zloop_P (P := fun s => zFr [192, 193, 194, 195] s.2 t) (b := qOr_bestPlan_b82 oc x2 x3) (t := t) (fun s s2 hb hk => zFr_t (f_qOr_bestPlan_b82 ho zFr_r hb) hk) (fun s hb => f_qOr_bestPlan_b82 ho zFr_r hb) n s H
theorem f_qOr_bestPlan_b75 {h0 : zK} {oc : Nat} {x2 : Int32} {s : Int32 × zK} {e : (Int32 × zK) ⊕ (zK)} (ho : oc = 7 ∨ oc = 22) (F : zFr [192, 193, 194, 195] h0 s.2) (H : qOr_bestPlan_b75 oc x2 s = some e) : match (generalizing := false) e with | .inl s' => zFr [192, 193, 194, 195] h0 s'.2 | .inr v => zFr [192, 193, 194, 195] h0 v := by
  unfold qOr_bestPlan_b75 at H
  rcases ho with rfl | rfl
  · by_cases c14 : s.1 < 0
    · replace H := zif_t c14 H
      cases H
      exact F
    · replace H := zif_f c14 H
      obtain ⟨t22, ht22, H⟩ := zbs H
      have Fl := f_qOr_bestPlan_b82_l (oc := 7) (by decide) zfu _ _ ht22
      replace F := zFr_t F Fl
      clear Fl
      cases H
      exact F
  · by_cases c14 : s.1 < 0
    · replace H := zif_t c14 H
      cases H
      exact F
    · replace H := zif_f c14 H
      obtain ⟨t22, ht22, H⟩ := zbs H
      have Fl := f_qOr_bestPlan_b82_l (oc := 22) (by decide) zfu _ _ ht22
      replace F := zFr_t F Fl
      clear Fl
      cases H
      exact F
theorem f_qOr_bestPlan_b75_l {oc : Nat} {x2 : Int32} (ho : oc = 7 ∨ oc = 22) (n : Nat) (s : Int32 × zK) (t : zK) (H : zloop (qOr_bestPlan_b75 oc x2) n s = some t) : zFr [192, 193, 194, 195] s.2 t := by
  exact zloop_P (P := fun s => zFr [192, 193, 194, 195] s.2 t) (b := qOr_bestPlan_b75 oc x2) (t := t) (fun s s2 hb hk => zFr_t (f_qOr_bestPlan_b75 ho zFr_r hb) hk) (fun s hb => f_qOr_bestPlan_b75 ho zFr_r hb) n s H
theorem f_qOr_bestPlan_b156 {h0 : zK} {oc : Nat} {x2 : Int32} {s : Int32 × Int32 × zK} {e : (Int32 × Int32 × zK) ⊕ (zK)} (ho : oc = 7 ∨ oc = 22) (F : zFr [192, 193, 194, 195] h0 s.2.2) (H : qOr_bestPlan_b156 oc x2 s = some e) : match (generalizing := false) e with | .inl s' => zFr [192, 193, 194, 195] h0 s'.2.2 | .inr v => zFr [192, 193, 194, 195] h0 v := by
  unfold qOr_bestPlan_b156 at H
  rcases ho with rfl | rfl
  · by_cases c27 : x2 ≤ s.2.1
    · replace H := zif_t c27 H
      cases H
      exact F
    · replace H := zif_f c27 H
      obtain ⟨p28, hp28, H⟩ := zbs H
      obtain ⟨j29, hj29, H⟩ := zbs H
      obtain ⟨h30, eh30, H⟩ := zlets H
      replace F := zFr_s F eh30 (by decide)
      cases H
      exact F
  · by_cases c27 : x2 ≤ s.2.1
    · replace H := zif_t c27 H
      cases H
      exact F
    · replace H := zif_f c27 H
      obtain ⟨p28, hp28, H⟩ := zbs H
      obtain ⟨j29, hj29, H⟩ := zbs H
      obtain ⟨h30, eh30, H⟩ := zlets H
      replace F := zFr_s F eh30 (by decide)
      cases H
      exact F
theorem f_qOr_bestPlan_b156_l {oc : Nat} {x2 : Int32} (ho : oc = 7 ∨ oc = 22) (n : Nat) (s : Int32 × Int32 × zK) (t : zK) (H : zloop (qOr_bestPlan_b156 oc x2) n s = some t) : zFr [192, 193, 194, 195] s.2.2 t := by
  exact zloop_P (P := fun s => zFr [192, 193, 194, 195] s.2.2 t) (b := qOr_bestPlan_b156 oc x2) (t := t) (fun s s2 hb hk => zFr_t (f_qOr_bestPlan_b156 ho zFr_r hb) hk) (fun s hb => f_qOr_bestPlan_b156 ho zFr_r hb) n s H
theorem f_qOr_bestPlan {oc : Nat} {x2 : Int32} {h : zK} {p : zK} (ho : oc = 7 ∨ oc = 22) (H : qOr_bestPlan oc x2 h = some p) : zFr [192, 193, 194, 195] h p := by
  unfold qOr_bestPlan at H
  obtain ⟨h0, F, e0⟩ : ∃ h0, zFr [192, 193, 194, 195] h0 h ∧ h0 = h := ⟨h, zFr_r, rfl⟩
  rw [← e0]
  clear e0
  rcases ho with rfl | rfl
  · obtain ⟨t7, ht7, H⟩ := zbs H
    have Fl := f_qOr_bestPlan_b2_l (oc := 7) (by decide) zfu _ _ ht7
    replace F := zFr_t F Fl
    clear Fl
    obtain ⟨t12, ht12, H⟩ := zbs H
    have Fl := f_qOr_bestPlan_b44_l (oc := 7) (by decide) zfu _ _ ht12
    replace F := zFr_t F Fl
    clear Fl
    obtain ⟨t24, ht24, H⟩ := zbs H
    have Fl := f_qOr_bestPlan_b75_l (oc := 7) (by decide) zfu _ _ ht24
    replace F := zFr_t F Fl
    clear Fl
    obtain ⟨h26, eh26, H⟩ := zlets H
    replace F := zFr_s F eh26 (by decide)
    obtain ⟨t31, ht31, H⟩ := zbs H
    have Fl := f_qOr_bestPlan_b156_l (oc := 7) (by decide) zfu _ _ ht31
    replace F := zFr_t F Fl
    clear Fl
    cases H
    exact F
  · obtain ⟨t7, ht7, H⟩ := zbs H
    have Fl := f_qOr_bestPlan_b2_l (oc := 22) (by decide) zfu _ _ ht7
    replace F := zFr_t F Fl
    clear Fl
    obtain ⟨t12, ht12, H⟩ := zbs H
    have Fl := f_qOr_bestPlan_b44_l (oc := 22) (by decide) zfu _ _ ht12
    replace F := zFr_t F Fl
    clear Fl
    obtain ⟨t24, ht24, H⟩ := zbs H
    have Fl := f_qOr_bestPlan_b75_l (oc := 22) (by decide) zfu _ _ ht24
    replace F := zFr_t F Fl
    clear Fl
    obtain ⟨h26, eh26, H⟩ := zlets H
    replace F := zFr_s F eh26 (by decide)
    obtain ⟨t31, ht31, H⟩ := zbs H
    have Fl := f_qOr_bestPlan_b156_l (oc := 22) (by decide) zfu _ _ ht31
    replace F := zFr_t F Fl
    clear Fl
    cases H
    exact F
theorem f_qOr_bestRow_b12 {h0 : zK} {oc : Nat} {x2 : Int32} {x3 : Int32} {s : Int32 × zK} {e : (Int32 × zK) ⊕ (zK)} (ho : oc = 7 ∨ oc = 22) (F : zFr [192, 193, 194] h0 s.2) (H : qOr_bestRow_b12 oc x2 x3 s = some e) : match (generalizing := false) e with | .inl s' => zFr [192, 193, 194] h0 s'.2 | .inr v => zFr [192, 193, 194] h0 v := by
  unfold qOr_bestRow_b12 at H
  rcases ho with rfl | rfl
  · by_cases c2 : (gI s.2 7 2) ≤ s.1
    · replace H := zif_t c2 H
      cases H
      exact F
    · replace H := zif_f c2 H
      obtain ⟨v4, hv4, H⟩ := zbs H
      replace F : zFr [192, 193, 194] h0 v4 := by
        clear H
        by_cases c3 : (zf_cin x3 s.1) = 0
        · replace hv4 := zif_t c3 hv4
          cases hv4
          exact F
        · replace hv4 := zif_f c3 hv4
          obtain ⟨p5, hp5, hv4⟩ := zbs hv4
          obtain ⟨v7, hv7, hv4⟩ := zbs hv4
          obtain ⟨j9, hj9, hv4⟩ := zbs hv4
          obtain ⟨h10, eh10, hv4⟩ := zlets hv4
          replace F := zFr_s F eh10 (by decide)
          cases hv4
          exact F
      cases H
      exact F
  · by_cases c2 : (gI s.2 22 2) ≤ s.1
    · replace H := zif_t c2 H
      cases H
      exact F
    · replace H := zif_f c2 H
      obtain ⟨v4, hv4, H⟩ := zbs H
      replace F : zFr [192, 193, 194] h0 v4 := by
        clear H
        by_cases c3 : (zf_cin x3 s.1) = 0
        · replace hv4 := zif_t c3 hv4
          cases hv4
          exact F
        · replace hv4 := zif_f c3 hv4
          obtain ⟨p5, hp5, hv4⟩ := zbs hv4
          obtain ⟨v7, hv7, hv4⟩ := zbs hv4
          obtain ⟨j9, hj9, hv4⟩ := zbs hv4
          obtain ⟨h10, eh10, hv4⟩ := zlets hv4
          replace F := zFr_s F eh10 (by decide)
          cases hv4
          exact F
      cases H
      exact F
theorem f_qOr_bestRow_b12_l {oc : Nat} {x2 : Int32} {x3 : Int32} (ho : oc = 7 ∨ oc = 22) (n : Nat) (s : Int32 × zK) (t : zK) (H : zloop (qOr_bestRow_b12 oc x2 x3) n s = some t) : zFr [192, 193, 194] s.2 t := by
  exact zloop_P (P := fun s => zFr [192, 193, 194] s.2 t) (b := qOr_bestRow_b12 oc x2 x3) (t := t) (fun s s2 hb hk => zFr_t (f_qOr_bestRow_b12 ho zFr_r hb) hk) (fun s hb => f_qOr_bestRow_b12 ho zFr_r hb) n s H
theorem f_qOr_bestRow_b5 {h0 : zK} {oc : Nat} {x2 : Int32} {s : Int32 × zK} {e : (Int32 × zK) ⊕ (zK)} (ho : oc = 7 ∨ oc = 22) (F : zFr [192, 193, 194] h0 s.2) (H : qOr_bestRow_b5 oc x2 s = some e) : match (generalizing := false) e with | .inl s' => zFr [192, 193, 194] h0 s'.2 | .inr v => zFr [192, 193, 194] h0 v := by
  unfold qOr_bestRow_b5 at H
  rcases ho with rfl | rfl
  · by_cases c1 : s.1 ≤ 0
    · replace H := zif_t c1 H
      cases H
      exact F
    · replace H := zif_f c1 H
      obtain ⟨t11, ht11, H⟩ := zbs H
      have Fl := f_qOr_bestRow_b12_l (oc := 7) (by decide) zfu _ _ ht11
      replace F := zFr_t F Fl
      clear Fl
      cases H
      exact F
  · by_cases c1 : s.1 ≤ 0
    · replace H := zif_t c1 H
      cases H
      exact F
    · replace H := zif_f c1 H
      obtain ⟨t11, ht11, H⟩ := zbs H
      have Fl := f_qOr_bestRow_b12_l (oc := 22) (by decide) zfu _ _ ht11
      replace F := zFr_t F Fl
      clear Fl
      cases H
      exact F
theorem f_qOr_bestRow_b5_l {oc : Nat} {x2 : Int32} (ho : oc = 7 ∨ oc = 22) (n : Nat) (s : Int32 × zK) (t : zK) (H : zloop (qOr_bestRow_b5 oc x2) n s = some t) : zFr [192, 193, 194] s.2 t := by
  exact zloop_P (P := fun s => zFr [192, 193, 194] s.2 t) (b := qOr_bestRow_b5 oc x2) (t := t) (fun s s2 hb hk => zFr_t (f_qOr_bestRow_b5 ho zFr_r hb) hk) (fun s hb => f_qOr_bestRow_b5 ho zFr_r hb) n s H
theorem f_qOr_bestRow_b106 {h0 : zK} {oc : Nat} {x2 : Int32} {s : Int32 × Int32 × Int32 × zK} {e : (Int32 × Int32 × Int32 × zK) ⊕ ((zK) ⊕ (zK))} (ho : oc = 7 ∨ oc = 22) (F : zFr [192, 193, 194] h0 s.2.2.2) (H : qOr_bestRow_b106 oc x2 s = some e) : match (generalizing := false) e with | .inl s' => zFr [192, 193, 194] h0 s'.2.2.2 | .inr (.inl v) => zFr [192, 193, 194] h0 v | .inr (.inr p) => zFr [192, 193, 194] h0 p := by
  unfold qOr_bestRow_b106 at H
  rcases ho with rfl | rfl
  · by_cases c17 : (gI s.2.2.2 7 2) ≤ s.2.2.1
    · replace H := zif_t c17 H
      cases H
      exact F
    · replace H := zif_f c17 H
      obtain ⟨p18, hp18, H⟩ := zbs H
      by_cases c19 : ¬ p18 = 7
      · replace H := zif_t c19 H
        obtain ⟨v21, hv21, H⟩ := zbs H
        obtain ⟨h23, eh23, H⟩ := zlets H
        replace F := zFr_s F eh23 (by decide)
        obtain ⟨j24, hj24, H⟩ := zbs H
        obtain ⟨h25, eh25, H⟩ := zlets H
        replace F := zFr_s F eh25 (by decide)
        obtain ⟨h26, eh26, H⟩ := zlets H
        replace F := zFr_s F eh26 (by decide)
        cases H
        exact F
      · replace H := zif_f c19 H
        cases H
        exact F
  · by_cases c17 : (gI s.2.2.2 22 2) ≤ s.2.2.1
    · replace H := zif_t c17 H
      cases H
      exact F
    · replace H := zif_f c17 H
      obtain ⟨p18, hp18, H⟩ := zbs H
      by_cases c19 : ¬ p18 = 7
      · replace H := zif_t c19 H
        obtain ⟨v21, hv21, H⟩ := zbs H
        obtain ⟨h23, eh23, H⟩ := zlets H
        replace F := zFr_s F eh23 (by decide)
        obtain ⟨j24, hj24, H⟩ := zbs H
        obtain ⟨h25, eh25, H⟩ := zlets H
        replace F := zFr_s F eh25 (by decide)
        obtain ⟨h26, eh26, H⟩ := zlets H
        replace F := zFr_s F eh26 (by decide)
        cases H
        exact F
      · replace H := zif_f c19 H
        cases H
        exact F
theorem f_qOr_bestRow_b106_l {oc : Nat} {x2 : Int32} (ho : oc = 7 ∨ oc = 22) (n : Nat) (s : Int32 × Int32 × Int32 × zK) (t : (zK) ⊕ (zK)) (H : zloop (qOr_bestRow_b106 oc x2) n s = some t) : (match (generalizing := false) t with | .inl v => zFr [192, 193, 194] s.2.2.2 v | .inr p => zFr [192, 193, 194] s.2.2.2 p) := by
  rcases t with v | p
  · exact zloop_P (P := fun s => zFr [192, 193, 194] s.2.2.2 v) (b := qOr_bestRow_b106 oc x2) (fun s s2 hb hk => zFr_t (f_qOr_bestRow_b106 ho zFr_r hb) hk) (fun s hb => f_qOr_bestRow_b106 ho zFr_r hb) n s H
  · exact zloop_P (P := fun s => zFr [192, 193, 194] s.2.2.2 p) (b := qOr_bestRow_b106 oc x2) (fun s s2 hb hk => zFr_t (f_qOr_bestRow_b106 ho zFr_r hb) hk) (fun s hb => f_qOr_bestRow_b106 ho zFr_r hb) n s H
theorem f_qOr_bestRow {oc : Nat} {x2 : Int32} {h : zK} {p : zK} (ho : oc = 7 ∨ oc = 22) (H : qOr_bestRow oc x2 h = some p) : zFr [192, 193, 194] h p := by
  unfold qOr_bestRow at H
  obtain ⟨h0, F, e0⟩ : ∃ h0, zFr [192, 193, 194] h0 h ∧ h0 = h := ⟨h, zFr_r, rfl⟩
  rw [← e0]
  clear e0
  rcases ho with rfl | rfl
  · obtain ⟨t13, ht13, H⟩ := zbs H
    have Fl := f_qOr_bestRow_b5_l (oc := 7) (by decide) zfu _ _ ht13
    replace F := zFr_t F Fl
    clear Fl
    obtain ⟨h15, eh15, H⟩ := zlets H
    replace F := zFr_s F eh15 (by decide)
    obtain ⟨h16, eh16, H⟩ := zlets H
    replace F := zFr_s F eh16 (by decide)
    obtain ⟨t27, ht27, H⟩ := zbs H
    have Fl := f_qOr_bestRow_b106_l (oc := 7) (by decide) zfu _ _ ht27
    rcases t27 with v28 | p
    · dsimp only at H
      replace F := zFr_t F Fl
      cases H
      exact F
    · cases H
      exact zFr_t F Fl
  · obtain ⟨t13, ht13, H⟩ := zbs H
    have Fl := f_qOr_bestRow_b5_l (oc := 22) (by decide) zfu _ _ ht13
    replace F := zFr_t F Fl
    clear Fl
    obtain ⟨h15, eh15, H⟩ := zlets H
    replace F := zFr_s F eh15 (by decide)
    obtain ⟨h16, eh16, H⟩ := zlets H
    replace F := zFr_s F eh16 (by decide)
    obtain ⟨t27, ht27, H⟩ := zbs H
    have Fl := f_qOr_bestRow_b106_l (oc := 22) (by decide) zfu _ _ ht27
    rcases t27 with v28 | p
    · dsimp only at H
      replace F := zFr_t F Fl
      cases H
      exact F
    · cases H
      exact zFr_t F Fl
theorem f_qOr_playTurn_b29 {h0 : zK} {oc : Nat} {x2 : Int32} {x3 : Int32} {x4 : Int32} {s : Int32 × zK} {e : (Int32 × zK) ⊕ (zK)} (ho : oc = 7 ∨ oc = 22) (F : zFr [194] h0 s.2) (H : qOr_playTurn_b29 oc x2 x3 x4 s = some e) : match (generalizing := false) e with | .inl s' => zFr [194] h0 s'.2 | .inr v => zFr [194] h0 v := by
  unfold qOr_playTurn_b29 at H
  rcases ho with rfl | rfl
  · by_cases c4 : 7 < s.1
    · replace H := zif_t c4 H
      cases H
      exact F
    · replace H := zif_f c4 H
      obtain ⟨v6, hv6, H⟩ := zlets H
      obtain ⟨v9, hv9, H⟩ := zbs H
      replace F : zFr [194] h0 v9 := by
        clear H
        by_cases c8 : v6 = 0
        · replace hv9 := zif_t c8 hv9
          cases hv9
          exact F
        · replace hv9 := zif_f c8 hv9
          obtain ⟨p10, hp10, hv9⟩ := zbs hv9
          obtain ⟨p11, hp11, hv9⟩ := zbs hv9
          obtain ⟨j12, hj12, hv9⟩ := zbs hv9
          obtain ⟨h13, eh13, hv9⟩ := zlets hv9
          replace F := zFr_s F eh13 (by decide)
          cases hv9
          exact F
      cases H
      exact F
  · by_cases c4 : 7 < s.1
    · replace H := zif_t c4 H
      cases H
      exact F
    · replace H := zif_f c4 H
      obtain ⟨v6, hv6, H⟩ := zlets H
      obtain ⟨v9, hv9, H⟩ := zbs H
      replace F : zFr [194] h0 v9 := by
        clear H
        by_cases c8 : v6 = 0
        · replace hv9 := zif_t c8 hv9
          cases hv9
          exact F
        · replace hv9 := zif_f c8 hv9
          obtain ⟨p10, hp10, hv9⟩ := zbs hv9
          obtain ⟨p11, hp11, hv9⟩ := zbs hv9
          obtain ⟨j12, hj12, hv9⟩ := zbs hv9
          obtain ⟨h13, eh13, hv9⟩ := zlets hv9
          replace F := zFr_s F eh13 (by decide)
          cases hv9
          exact F
      cases H
      exact F
theorem f_qOr_playTurn_b29_l {oc : Nat} {x2 : Int32} {x3 : Int32} {x4 : Int32} (ho : oc = 7 ∨ oc = 22) (n : Nat) (s : Int32 × zK) (t : zK) (H : zloop (qOr_playTurn_b29 oc x2 x3 x4) n s = some t) : zFr [194] s.2 t := by
  exact zloop_P (P := fun s => zFr [194] s.2 t) (b := qOr_playTurn_b29 oc x2 x3 x4) (t := t) (fun s s2 hb hk => zFr_t (f_qOr_playTurn_b29 ho zFr_r hb) hk) (fun s hb => f_qOr_playTurn_b29 ho zFr_r hb) n s H
theorem f_qOr_playTurn_b3 {h0 : zK} {oc : Nat} {x2 : Int32} {x3 : Int32} {s : Int32 × zK} {e : (Int32 × zK) ⊕ (zK)} (ho : oc = 7 ∨ oc = 22) (F : zFr [194] h0 s.2) (H : qOr_playTurn_b3 oc x2 x3 s = some e) : match (generalizing := false) e with | .inl s' => zFr [194] h0 s'.2 | .inr v => zFr [194] h0 v := by
  unfold qOr_playTurn_b3 at H
  rcases ho with rfl | rfl
  · by_cases c1 : (qCe_all 7 s.2) < s.1
    · replace H := zif_t c1 H
      cases H
      exact F
    · replace H := zif_f c1 H
      obtain ⟨v3, hv3, H⟩ := zbs H
      replace F : zFr [194] h0 v3 := by
        clear H
        by_cases c2 : (qIn_bitCount s.1) ≤ (x2 - x3)
        · replace hv3 := zif_t c2 hv3
          obtain ⟨t14, ht14, hv3⟩ := zbs hv3
          have Fl := f_qOr_playTurn_b29_l (oc := 7) (by decide) zfu _ _ ht14
          replace F := zFr_t F Fl
          clear Fl
          cases hv3
          exact F
        · replace hv3 := zif_f c2 hv3
          cases hv3
          exact F
      cases H
      exact F
  · by_cases c1 : (qCe_all 22 s.2) < s.1
    · replace H := zif_t c1 H
      cases H
      exact F
    · replace H := zif_f c1 H
      obtain ⟨v3, hv3, H⟩ := zbs H
      replace F : zFr [194] h0 v3 := by
        clear H
        by_cases c2 : (qIn_bitCount s.1) ≤ (x2 - x3)
        · replace hv3 := zif_t c2 hv3
          obtain ⟨t14, ht14, hv3⟩ := zbs hv3
          have Fl := f_qOr_playTurn_b29_l (oc := 22) (by decide) zfu _ _ ht14
          replace F := zFr_t F Fl
          clear Fl
          cases hv3
          exact F
        · replace hv3 := zif_f c2 hv3
          cases hv3
          exact F
      cases H
      exact F
theorem f_qOr_playTurn_b3_l {oc : Nat} {x2 : Int32} {x3 : Int32} (ho : oc = 7 ∨ oc = 22) (n : Nat) (s : Int32 × zK) (t : zK) (H : zloop (qOr_playTurn_b3 oc x2 x3) n s = some t) : zFr [194] s.2 t := by
  exact zloop_P (P := fun s => zFr [194] s.2 t) (b := qOr_playTurn_b3 oc x2 x3) (t := t) (fun s s2 hb hk => zFr_t (f_qOr_playTurn_b3 ho zFr_r hb) hk) (fun s hb => f_qOr_playTurn_b3 ho zFr_r hb) n s H
theorem f_qOr_playTurn {oc : Nat} {x2 : Int32} {x3 : Int32} {h : zK} {p : zK} (ho : oc = 7 ∨ oc = 22) (H : qOr_playTurn oc x2 x3 h = some p) : zFr [194] h p := by
  unfold qOr_playTurn at H
  obtain ⟨h0, F, e0⟩ : ∃ h0, zFr [194] h0 h ∧ h0 = h := ⟨h, zFr_r, rfl⟩
  rw [← e0]
  clear e0
  rcases ho with rfl | rfl
  · obtain ⟨t16, ht16, H⟩ := zbs H
    have Fl := f_qOr_playTurn_b3_l (oc := 7) (by decide) zfu _ _ ht16
    replace F := zFr_t F Fl
    clear Fl
    cases H
    exact F
  · obtain ⟨t16, ht16, H⟩ := zbs H
    have Fl := f_qOr_playTurn_b3_l (oc := 22) (by decide) zfu _ _ ht16
    replace F := zFr_t F Fl
    clear Fl
    cases H
    exact F
theorem f_qOr_playOut_b12 {h0 : zK} {oc : Nat} {x2 : Int32} {s : Int32 × zK} {e : (Int32 × zK) ⊕ (zK)} (ho : oc = 7 ∨ oc = 22) (F : zFr [192, 194] h0 s.2) (H : qOr_playOut_b12 oc x2 s = some e) : match (generalizing := false) e with | .inl s' => zFr [192, 194] h0 s'.2 | .inr v => zFr [192, 194] h0 v := by
  unfold qOr_playOut_b12 at H
  rcases ho with rfl | rfl
  · by_cases c3 : 1024 ≤ s.1
    · replace H := zif_t c3 H
      cases H
      exact F
    · replace H := zif_f c3 H
      obtain ⟨j4, hj4, H⟩ := zbs H
      obtain ⟨h5, eh5, H⟩ := zlets H
      replace F := zFr_s F eh5 (by decide)
      cases H
      exact F
  · by_cases c3 : 1024 ≤ s.1
    · replace H := zif_t c3 H
      cases H
      exact F
    · replace H := zif_f c3 H
      obtain ⟨j4, hj4, H⟩ := zbs H
      obtain ⟨h5, eh5, H⟩ := zlets H
      replace F := zFr_s F eh5 (by decide)
      cases H
      exact F
theorem f_qOr_playOut_b12_l {oc : Nat} {x2 : Int32} (ho : oc = 7 ∨ oc = 22) (n : Nat) (s : Int32 × zK) (t : zK) (H : zloop (qOr_playOut_b12 oc x2) n s = some t) : zFr [192, 194] s.2 t := by
  exact zloop_P (P := fun s => zFr [192, 194] s.2 t) (b := qOr_playOut_b12 oc x2) (t := t) (fun s s2 hb hk => zFr_t (f_qOr_playOut_b12 ho zFr_r hb) hk) (fun s hb => f_qOr_playOut_b12 ho zFr_r hb) n s H
theorem f_qOr_playOut_b34 {h0 : zK} {oc : Nat} {x2 : Int32} {s : Int32 × zK} {e : (Int32 × zK) ⊕ (zK)} (ho : oc = 7 ∨ oc = 22) (F : zFr [192, 194] h0 s.2) (H : qOr_playOut_b34 oc x2 s = some e) : match (generalizing := false) e with | .inl s' => zFr [192, 194] h0 s'.2 | .inr v => zFr [192, 194] h0 v := by
  unfold qOr_playOut_b34 at H
  rcases ho with rfl | rfl
  · by_cases c8 : x2 ≤ s.1
    · replace H := zif_t c8 H
      cases H
      exact F
    · replace H := zif_f c8 H
      obtain ⟨p9, hp9, H⟩ := zbs H
      replace F := zFr_w F (f_qOr_playTurn (by decide) hp9) (by decide)
      cases H
      exact F
  · by_cases c8 : x2 ≤ s.1
    · replace H := zif_t c8 H
      cases H
      exact F
    · replace H := zif_f c8 H
      obtain ⟨p9, hp9, H⟩ := zbs H
      replace F := zFr_w F (f_qOr_playTurn (by decide) hp9) (by decide)
      cases H
      exact F
theorem f_qOr_playOut_b34_l {oc : Nat} {x2 : Int32} (ho : oc = 7 ∨ oc = 22) (n : Nat) (s : Int32 × zK) (t : zK) (H : zloop (qOr_playOut_b34 oc x2) n s = some t) : zFr [192, 194] s.2 t := by
  exact zloop_P (P := fun s => zFr [192, 194] s.2 t) (b := qOr_playOut_b34 oc x2) (t := t) (fun s s2 hb hk => zFr_t (f_qOr_playOut_b34 ho zFr_r hb) hk) (fun s hb => f_qOr_playOut_b34 ho zFr_r hb) n s H
theorem f_qOr_playOut {oc : Nat} {x2 : Int32} {h : zK} {p : zK} (ho : oc = 7 ∨ oc = 22) (H : qOr_playOut oc x2 h = some p) : zFr [192, 194] h p := by
  unfold qOr_playOut at H
  obtain ⟨h0, F, e0⟩ : ∃ h0, zFr [192, 194] h0 h ∧ h0 = h := ⟨h, zFr_r, rfl⟩
  rw [← e0]
  clear e0
  rcases ho with rfl | rfl
  · obtain ⟨h1, eh1, H⟩ := zlets H
    replace F := zFr_s F eh1 (by decide)
    obtain ⟨h2, eh2, H⟩ := zlets H
    replace F := zFr_s F eh2 (by decide)
    obtain ⟨t6, ht6, H⟩ := zbs H
    have Fl := f_qOr_playOut_b12_l (oc := 7) (by decide) zfu _ _ ht6
    replace F := zFr_t F Fl
    clear Fl
    obtain ⟨t10, ht10, H⟩ := zbs H
    have Fl := f_qOr_playOut_b34_l (oc := 7) (by decide) zfu _ _ ht10
    replace F := zFr_t F Fl
    clear Fl
    by_cases c12 : x2 ≤ 0
    · replace H := zif_t c12 H
      cases H
      exact F
    · replace H := zif_f c12 H
      obtain ⟨p13, hp13, H⟩ := zbs H
      obtain ⟨h14, eh14, H⟩ := zlets H
      replace F := zFr_s F eh14 (by decide)
      obtain ⟨p15, hp15, H⟩ := zbs H
      obtain ⟨h16, eh16, H⟩ := zlets H
      replace F := zFr_s F eh16 (by decide)
      cases H
      exact F
  · obtain ⟨h1, eh1, H⟩ := zlets H
    replace F := zFr_s F eh1 (by decide)
    obtain ⟨h2, eh2, H⟩ := zlets H
    replace F := zFr_s F eh2 (by decide)
    obtain ⟨t6, ht6, H⟩ := zbs H
    have Fl := f_qOr_playOut_b12_l (oc := 22) (by decide) zfu _ _ ht6
    replace F := zFr_t F Fl
    clear Fl
    obtain ⟨t10, ht10, H⟩ := zbs H
    have Fl := f_qOr_playOut_b34_l (oc := 22) (by decide) zfu _ _ ht10
    replace F := zFr_t F Fl
    clear Fl
    by_cases c12 : x2 ≤ 0
    · replace H := zif_t c12 H
      cases H
      exact F
    · replace H := zif_f c12 H
      obtain ⟨p13, hp13, H⟩ := zbs H
      obtain ⟨h14, eh14, H⟩ := zlets H
      replace F := zFr_s F eh14 (by decide)
      obtain ⟨p15, hp15, H⟩ := zbs H
      obtain ⟨h16, eh16, H⟩ := zlets H
      replace F := zFr_s F eh16 (by decide)
      cases H
      exact F
theorem f_qRe_begin {x2 : Int32} {h : zK} {p : zK} (H : qRe_begin x2 h = some p) : zFr [147, 148, 155, 156, 160, 163] h p := by
  unfold qRe_begin at H
  obtain ⟨h0, F, e0⟩ : ∃ h0, zFr [147, 148, 155, 156, 160, 163] h0 h ∧ h0 = h := ⟨h, zFr_r, rfl⟩
  rw [← e0]
  clear e0
  obtain ⟨h1, eh1, H⟩ := zlets H
  replace F := zFr_s F eh1 (by decide)
  obtain ⟨c3, H⟩ := zifn H
  obtain ⟨h2, eh2, H⟩ := zlets H
  replace F := zFr_c F eh2 (by decide)
  obtain ⟨h4, eh4, H⟩ := zlets H
  replace F := zFr_s F eh4 (by decide)
  obtain ⟨h5, eh5, H⟩ := zlets H
  replace F := zFr_s F eh5 (by decide)
  obtain ⟨h6, eh6, H⟩ := zlets H
  replace F := zFr_s F eh6 (by decide)
  obtain ⟨h7, eh7, H⟩ := zlets H
  replace F := zFr_s F eh7 (by decide)
  obtain ⟨p8, hp8, H⟩ := zbs H
  replace F := zFr_w F (f_qCe_clear hp8) (by decide)
  obtain ⟨h9, eh9, H⟩ := zlets H
  replace F := zFr_s F eh9 (by decide)
  obtain ⟨h10, eh10, H⟩ := zlets H
  replace F := zFr_s F eh10 (by decide)
  cases H
  exact F
theorem f_qRe_stepNumber_b5 {h0 : zK} {s : zK} {e : (zK) ⊕ (zK)} (F : zFr [147] h0 s) (H : qRe_stepNumber_b5 s = some e) : match (generalizing := false) e with | .inl s' => zFr [147] h0 s' | .inr v => zFr [147] h0 v := by
  unfold qRe_stepNumber_b5 at H
  by_cases c2 : (gI s 147 8) ≤ (gI s 147 9)
  · replace H := zif_t c2 H
    cases H
    exact F
  · replace H := zif_f c2 H
    obtain ⟨j3, hj3, H⟩ := zbs H
    by_cases c4 : (qRe_isDigit (gI s 163 j3)) = 0
    · replace H := zif_t c4 H
      cases H
      exact F
    · replace H := zif_f c4 H
      obtain ⟨h5, eh5, H⟩ := zlets H
      replace F := zFr_s F eh5 (by decide)
      obtain ⟨h6, eh6, H⟩ := zlets H
      replace F := zFr_s F eh6 (by decide)
      cases H
      exact F
theorem f_qRe_stepNumber_b5_l (n : Nat) (s : zK) (t : zK) (H : zloop (qRe_stepNumber_b5) n s = some t) : zFr [147] s t := by
  exact zloop_P (P := fun s => zFr [147] s t) (b := qRe_stepNumber_b5) (t := t) (fun s s2 hb hk => zFr_t (f_qRe_stepNumber_b5 zFr_r hb) hk) (fun s hb => f_qRe_stepNumber_b5 zFr_r hb) n s H
theorem f_qRe_stepNumber  {h : zK} {p : zK} (H : qRe_stepNumber h = some p) : zFr [147] h p := by
  unfold qRe_stepNumber at H
  obtain ⟨h0, F, e0⟩ : ∃ h0, zFr [147] h0 h ∧ h0 = h := ⟨h, zFr_r, rfl⟩
  rw [← e0]
  clear e0
  obtain ⟨h1, eh1, H⟩ := zlets H
  replace F := zFr_s F eh1 (by decide)
  obtain ⟨t7, ht7, H⟩ := zbs H
  have Fl := f_qRe_stepNumber_b5_l zfu _ _ ht7
  replace F := zFr_t F Fl
  clear Fl
  by_cases c9 : 2 < ((gI t7 147 9) - (gI t7 147 11))
  · replace H := zif_t c9 H
    obtain ⟨h10, eh10, H⟩ := zlets H
    replace F := zFr_s F eh10 (by decide)
    cases H
    exact F
  · replace H := zif_f c9 H
    obtain ⟨h11, eh11, H⟩ := zlets H
    replace F := zFr_s F eh11 (by decide)
    cases H
    exact F
theorem f_qRe_step_j39 {h0 : zK} {h : zK} {e : (zK) ⊕ (zK)} (F : zFr [147] h0 h) (H : qRe_step_j39 h = some e) : match (generalizing := false) e with | .inl s' => zFr [147] h0 s' | .inr v => zFr [147] h0 v := by
  unfold qRe_step_j39 at H
  obtain ⟨h4, eh4, H⟩ := zlets H
  replace F := zFr_s F eh4 (by decide)
  cases H
  exact F
theorem f_qRe_step_b0 {h0 : zK} {s : zK} {e : (zK) ⊕ (zK)} (F : zFr [147] h0 s) (H : qRe_step_b0 s = some e) : match (generalizing := false) e with | .inl s' => zFr [147] h0 s' | .inr v => zFr [147] h0 v := by
  unfold qRe_step_b0 at H
  by_cases c1 : (gI s 147 8) ≤ (gI s 147 9)
  · replace H := zif_t c1 H
    cases H
    exact F
  · replace H := zif_f c1 H
    obtain ⟨j2, hj2, H⟩ := zbs H
    by_cases c3 : (gI s 163 j2) = 32
    · replace H := zif_t c3 H
      exact f_qRe_step_j39 F H
    · replace H := zif_f c3 H
      by_cases c5 : ¬ (gI s 163 j2) = 10
      · replace H := zif_t c5 H
        cases H
        exact F
      · replace H := zif_f c5 H
        exact f_qRe_step_j39 F H
theorem f_qRe_step_b0_l (n : Nat) (s : zK) (t : zK) (H : zloop (qRe_step_b0) n s = some t) : zFr [147] s t := by
  exact zloop_P (P := fun s => zFr [147] s t) (b := qRe_step_b0) (t := t) (fun s s2 hb hk => zFr_t (f_qRe_step_b0 zFr_r hb) hk) (fun s hb => f_qRe_step_b0 zFr_r hb) n s H
theorem f_qRe_step_b99 {h0 : zK} {s : zK} {e : (zK) ⊕ (zK)} (F : zFr [147] h0 s) (H : qRe_step_b99 s = some e) : match (generalizing := false) e with | .inl s' => zFr [147] h0 s' | .inr v => zFr [147] h0 v := by
  unfold qRe_step_b99 at H
  by_cases c19 : (gI s 147 8) ≤ (gI s 147 9)
  · replace H := zif_t c19 H
    cases H
    exact F
  · replace H := zif_f c19 H
    obtain ⟨j20, hj20, H⟩ := zbs H
    by_cases c21 : (qRe_isLetter (gI s 163 j20)) = 0
    · replace H := zif_t c21 H
      cases H
      exact F
    · replace H := zif_f c21 H
      obtain ⟨h22, eh22, H⟩ := zlets H
      replace F := zFr_s F eh22 (by decide)
      cases H
      exact F
theorem f_qRe_step_b99_l (n : Nat) (s : zK) (t : zK) (H : zloop (qRe_step_b99) n s = some t) : zFr [147] s t := by
  exact zloop_P (P := fun s => zFr [147] s t) (b := qRe_step_b99) (t := t) (fun s s2 hb hk => zFr_t (f_qRe_step_b99 zFr_r hb) hk) (fun s hb => f_qRe_step_b99 zFr_r hb) n s H
theorem f_qRe_step  {h : zK} {p : zK} (H : qRe_step h = some p) : zFr [147] h p := by
  unfold qRe_step at H
  obtain ⟨h0, F, e0⟩ : ∃ h0, zFr [147] h0 h ∧ h0 = h := ⟨h, zFr_r, rfl⟩
  rw [← e0]
  clear e0
  obtain ⟨t6, ht6, H⟩ := zbs H
  have Fl := f_qRe_step_b0_l zfu _ _ ht6
  replace F := zFr_t F Fl
  clear Fl
  obtain ⟨h8, eh8, H⟩ := zlets H
  replace F := zFr_s F eh8 (by decide)
  by_cases c9 : (gI h8 147 9) < (gI h8 147 8)
  · replace H := zif_t c9 H
    obtain ⟨j10, hj10, H⟩ := zbs H
    by_cases c11 : (qRe_isLetter (gI h8 163 j10)) = 0
    · replace H := zif_t c11 H
      by_cases c12 : (qRe_isDigit (gI h8 163 j10)) = 0
      · replace H := zif_t c12 H
        obtain ⟨v14, hv14, H⟩ := zlets H
        obtain ⟨h15, eh15, H⟩ := zlets H
        replace F := zFr_s F eh15 (by decide)
        obtain ⟨h16, eh16, H⟩ := zlets H
        replace F := zFr_s F eh16 (by decide)
        cases H
        exact F
      · replace H := zif_f c12 H
        obtain ⟨p17, hp17, H⟩ := zbs H
        replace F := zFr_w F (f_qRe_stepNumber hp17) (by decide)
        cases H
        exact F
    · replace H := zif_f c11 H
      obtain ⟨h18, eh18, H⟩ := zlets H
      replace F := zFr_s F eh18 (by decide)
      obtain ⟨t23, ht23, H⟩ := zbs H
      have Fl := f_qRe_step_b99_l zfu _ _ ht23
      replace F := zFr_t F Fl
      clear Fl
      cases H
      exact F
  · replace H := zif_f c9 H
    obtain ⟨h25, eh25, H⟩ := zlets H
    replace F := zFr_s F eh25 (by decide)
    cases H
    exact F
theorem f_qRe_stopHere  {h : zK} {p : zK} (H : qRe_stopHere h = some p) : zFr [147] h p := by
  unfold qRe_stopHere at H
  obtain ⟨h0, F, e0⟩ : ∃ h0, zFr [147] h0 h ∧ h0 = h := ⟨h, zFr_r, rfl⟩
  rw [← e0]
  clear e0
  obtain ⟨h1, eh1, H⟩ := zlets H
  replace F := zFr_s F eh1 (by decide)
  obtain ⟨h2, eh2, H⟩ := zlets H
  replace F := zFr_s F eh2 (by decide)
  cases H
  exact F
theorem f_qRe_note {x1 : Int32} {x2 : Int32} {h : zK} {p : zK} (H : qRe_note x1 x2 h = some p) : zFr [147] h p := by
  unfold qRe_note at H
  obtain ⟨h0, F, e0⟩ : ∃ h0, zFr [147] h0 h ∧ h0 = h := ⟨h, zFr_r, rfl⟩
  rw [← e0]
  clear e0
  by_cases c1 : ¬ (gI h 147 3) = 0
  · replace H := zif_t c1 H
    cases H
    exact F
  · replace H := zif_f c1 H
    obtain ⟨h2, eh2, H⟩ := zlets H
    replace F := zFr_s F eh2 (by decide)
    obtain ⟨h3, eh3, H⟩ := zlets H
    replace F := zFr_s F eh3 (by decide)
    cases H
    exact F
theorem f_qRe_judge_b16 {h0 : zK} {x1 : Int32} {s : Int32 × zK} {e : (Int32 × zK) ⊕ (zK)} (F : zFr [147] h0 s.2) (H : qRe_judge_b16 x1 s = some e) : match (generalizing := false) e with | .inl s' => zFr [147] h0 s'.2 | .inr v => zFr [147] h0 v := by
  unfold qRe_judge_b16 at H
  obtain ⟨j5, hj5, H⟩ := zbs H
  by_cases c6 : (List.getD zA_NUMBERS j5 0) ≤ s.1
  · replace H := zif_t c6 H
    cases H
    exact F
  · replace H := zif_f c6 H
    obtain ⟨j7, hj7, H⟩ := zbs H
    obtain ⟨j8, hj8, H⟩ := zbs H
    obtain ⟨v10, hv10, H⟩ := zbs H
    replace F : zFr [147] h0 v10 := by
      clear H
      by_cases c9 : (gI s.2 164 j7) < (List.getD zA_LOW j8 0)
      · replace hv10 := zif_t c9 hv10
        obtain ⟨p11, hp11, hv10⟩ := zbs hv10
        replace F := zFr_w F (f_qRe_note hp11) (by decide)
        cases hv10
        exact F
      · replace hv10 := zif_f c9 hv10
        by_cases c12 : (gI s.2 164 j7) ≤ (List.getD zA_HIGH j8 0)
        · replace hv10 := zif_t c12 hv10
          cases hv10
          exact F
        · replace hv10 := zif_f c12 hv10
          obtain ⟨p13, hp13, hv10⟩ := zbs hv10
          replace F := zFr_w F (f_qRe_note hp13) (by decide)
          cases hv10
          exact F
    cases H
    exact F
theorem f_qRe_judge_b16_l {x1 : Int32} (n : Nat) (s : Int32 × zK) (t : zK) (H : zloop (qRe_judge_b16 x1) n s = some t) : zFr [147] s.2 t := by
  exact zloop_P (P := fun s => zFr [147] s.2 t) (b := qRe_judge_b16 x1) (t := t) (fun s s2 hb hk => zFr_t (f_qRe_judge_b16 zFr_r hb) hk) (fun s hb => f_qRe_judge_b16 zFr_r hb) n s H
theorem f_qRe_judge {x1 : Int32} {x2 : Int32} {h : zK} {p : zK} (H : qRe_judge x1 x2 h = some p) : zFr [147] h p := by
  unfold qRe_judge at H
  obtain ⟨h0, F, e0⟩ : ∃ h0, zFr [147] h0 h ∧ h0 = h := ⟨h, zFr_r, rfl⟩
  rw [← e0]
  clear e0
  obtain ⟨p1, hp1, H⟩ := zbs H
  obtain ⟨v3, hv3, H⟩ := zbs H
  replace F : zFr [147] h0 v3 := by
    clear H
    by_cases c2 : p1 = 0
    · replace hv3 := zif_t c2 hv3
      cases hv3
      exact F
    · replace hv3 := zif_f c2 hv3
      obtain ⟨p4, hp4, hv3⟩ := zbs hv3
      replace F := zFr_w F (f_qRe_note hp4) (by decide)
      cases hv3
      exact F
  obtain ⟨t14, ht14, H⟩ := zbs H
  have Fl := f_qRe_judge_b16_l zfu _ _ ht14
  replace F := zFr_t F Fl
  clear Fl
  by_cases c16 : ¬ x1 = 3
  · replace H := zif_t c16 H
    cases H
    exact F
  · replace H := zif_f c16 H
    by_cases c17 : ¬ (gI t14 164 0) = (gI t14 164 1)
    · replace H := zif_t c17 H
      cases H
      exact F
    · replace H := zif_f c17 H
      obtain ⟨p18, hp18, H⟩ := zbs H
      replace F := zFr_w F (f_qRe_note hp18) (by decide)
      cases H
      exact F
theorem f_qRe_tell {x1 : Int32} {h : zK} {p : zK} (H : qRe_tell x1 h = some p) : zFr [147, 148, 149, 150, 151, 152, 153, 154, 155, 156, 157, 158, 159, 160, 161, 162] h p := by
  unfold qRe_tell at H
  obtain ⟨h0, F, e0⟩ : ∃ h0, zFr [147, 148, 149, 150, 151, 152, 153, 154, 155, 156, 157, 158, 159, 160, 161, 162] h0 h ∧ h0 = h := ⟨h, zFr_r, rfl⟩
  rw [← e0]
  clear e0
  by_cases c43 : x1 = 0
  · replace H := zif_t c43 H
    obtain ⟨h1, eh1, H⟩ := zlets H
    replace F := zFr_s F eh1 (by decide)
    cases H
    exact F
  replace H := zif_f c43 H
  by_cases c44 : x1 = 1
  · replace H := zif_t c44 H
    obtain ⟨h2, eh2, H⟩ := zlets H
    replace F := zFr_s F eh2 (by decide)
    cases H
    exact F
  replace H := zif_f c44 H
  by_cases c45 : x1 = 2
  · replace H := zif_t c45 H
    obtain ⟨p3, hp3, H⟩ := zbs H
    replace F := zFr_w F (f_qCe_add hp3) (by decide)
    cases H
    exact F
  replace H := zif_f c45 H
  by_cases c46 : x1 = 3
  · replace H := zif_t c46 H
    obtain ⟨p4, hp4, H⟩ := zbs H
    replace F := zFr_w F (f_qCe_addAnswer hp4) (by decide)
    obtain ⟨h5, eh5, H⟩ := zlets H
    replace F := zFr_s F eh5 (by decide)
    cases H
    exact F
  replace H := zif_f c46 H
  by_cases c47 : x1 = 4
  · replace H := zif_t c47 H
    obtain ⟨j6, hj6, H⟩ := zbs H
    obtain ⟨v8, hv8, H⟩ := zlets H
    obtain ⟨v10, hv10, H⟩ := zlets H
    obtain ⟨p11, hp11, H⟩ := zbs H
    replace F := zFr_w F (f_qDe_add hp11) (by decide)
    cases H
    exact F
  replace H := zif_f c47 H
  by_cases c48 : x1 = 5
  · replace H := zif_t c48 H
    obtain ⟨j12, hj12, H⟩ := zbs H
    obtain ⟨v14, hv14, H⟩ := zlets H
    obtain ⟨v16, hv16, H⟩ := zlets H
    obtain ⟨p17, hp17, H⟩ := zbs H
    replace F := zFr_w F (f_qDe_add hp17) (by decide)
    cases H
    exact F
  replace H := zif_f c48 H
  by_cases c49 : x1 = 6
  · replace H := zif_t c49 H
    obtain ⟨j18, hj18, H⟩ := zbs H
    obtain ⟨v20, hv20, H⟩ := zlets H
    obtain ⟨v22, hv22, H⟩ := zlets H
    obtain ⟨p23, hp23, H⟩ := zbs H
    replace F := zFr_w F (f_qDe_add hp23) (by decide)
    cases H
    exact F
  replace H := zif_f c49 H
  by_cases c50 : x1 = 7
  · replace H := zif_t c50 H
    obtain ⟨j24, hj24, H⟩ := zbs H
    obtain ⟨v26, hv26, H⟩ := zlets H
    obtain ⟨v28, hv28, H⟩ := zlets H
    obtain ⟨p29, hp29, H⟩ := zbs H
    replace F := zFr_w F (f_qDe_add hp29) (by decide)
    cases H
    exact F
  replace H := zif_f c50 H
  by_cases c51 : x1 = 8
  · replace H := zif_t c51 H
    obtain ⟨j30, hj30, H⟩ := zbs H
    obtain ⟨v32, hv32, H⟩ := zlets H
    obtain ⟨v34, hv34, H⟩ := zlets H
    obtain ⟨p35, hp35, H⟩ := zbs H
    replace F := zFr_w F (f_qDe_add hp35) (by decide)
    cases H
    exact F
  replace H := zif_f c51 H
  by_cases c52 : x1 = 9
  · replace H := zif_t c52 H
    obtain ⟨p36, hp36, H⟩ := zbs H
    replace F := zFr_w F (f_qLo_add hp36) (by decide)
    cases H
    exact F
  replace H := zif_f c52 H
  obtain ⟨j37, hj37, H⟩ := zbs H
  obtain ⟨v39, hv39, H⟩ := zlets H
  obtain ⟨v41, hv41, H⟩ := zlets H
  obtain ⟨p42, hp42, H⟩ := zbs H
  replace F := zFr_w F (f_qDe_add hp42) (by decide)
  cases H
  exact F
theorem f_qRe_readLine_b28 {h0 : zK} {x2 : Int32} {x3 : Int32} {s : Int32 × zK} {e : (Int32 × zK) ⊕ ((zK) ⊕ (zK))} (F : zFr [147, 148, 149, 150, 151, 152, 153, 154, 155, 156, 157, 158, 159, 160, 161, 162, 164, 165] h0 s.2) (H : qRe_readLine_b28 x2 x3 s = some e) : match (generalizing := false) e with | .inl s' => zFr [147, 148, 149, 150, 151, 152, 153, 154, 155, 156, 157, 158, 159, 160, 161, 162, 164, 165] h0 s'.2 | .inr (.inl v) => zFr [147, 148, 149, 150, 151, 152, 153, 154, 155, 156, 157, 158, 159, 160, 161, 162, 164, 165] h0 v | .inr (.inr p) => zFr [147, 148, 149, 150, 151, 152, 153, 154, 155, 156, 157, 158, 159, 160, 161, 162, 164, 165] h0 p := by
  unfold qRe_readLine_b28 at H
  obtain ⟨j4, hj4, H⟩ := zbs H
  by_cases c5 : (List.getD zA_NUMBERS j4 0) ≤ s.1
  · replace H := zif_t c5 H
    cases H
    exact F
  · replace H := zif_f c5 H
    by_cases c6 : (gI s.2 147 10) = 2
    · replace H := zif_t c6 H
      obtain ⟨j7, hj7, H⟩ := zbs H
      obtain ⟨h8, eh8, H⟩ := zlets H
      replace F := zFr_s F eh8 (by decide)
      obtain ⟨h9, eh9, H⟩ := zlets H
      replace F := zFr_s F eh9 (by decide)
      obtain ⟨p10, hp10, H⟩ := zbs H
      replace F := zFr_w F (f_qRe_step hp10) (by decide)
      cases H
      exact F
    · replace H := zif_f c6 H
      obtain ⟨p11, hp11, H⟩ := zbs H
      replace F := zFr_w F (f_qRe_stopHere hp11) (by decide)
      cases H
      exact F
theorem f_qRe_readLine_b28_l {x2 : Int32} {x3 : Int32} (n : Nat) (s : Int32 × zK) (t : (zK) ⊕ (zK)) (H : zloop (qRe_readLine_b28 x2 x3) n s = some t) : (match (generalizing := false) t with | .inl v => zFr [147, 148, 149, 150, 151, 152, 153, 154, 155, 156, 157, 158, 159, 160, 161, 162, 164, 165] s.2 v | .inr p => zFr [147, 148, 149, 150, 151, 152, 153, 154, 155, 156, 157, 158, 159, 160, 161, 162, 164, 165] s.2 p) := by
  rcases t with v | p
  · exact zloop_P (P := fun s => zFr [147, 148, 149, 150, 151, 152, 153, 154, 155, 156, 157, 158, 159, 160, 161, 162, 164, 165] s.2 v) (b := qRe_readLine_b28 x2 x3) (fun s s2 hb hk => zFr_t (f_qRe_readLine_b28 zFr_r hb) hk) (fun s hb => f_qRe_readLine_b28 zFr_r hb) n s H
  · exact zloop_P (P := fun s => zFr [147, 148, 149, 150, 151, 152, 153, 154, 155, 156, 157, 158, 159, 160, 161, 162, 164, 165] s.2 p) (b := qRe_readLine_b28 x2 x3) (fun s s2 hb hk => zFr_t (f_qRe_readLine_b28 zFr_r hb) hk) (fun s hb => f_qRe_readLine_b28 zFr_r hb) n s H
theorem f_qRe_readLine {x1 : Int32} {h : zK} {p : zK} (H : qRe_readLine x1 h = some p) : zFr [147, 148, 149, 150, 151, 152, 153, 154, 155, 156, 157, 158, 159, 160, 161, 162, 164, 165] h p := by
  unfold qRe_readLine at H
  obtain ⟨h0, F, e0⟩ : ∃ h0, zFr [147, 148, 149, 150, 151, 152, 153, 154, 155, 156, 157, 158, 159, 160, 161, 162, 164, 165] h0 h ∧ h0 = h := ⟨h, zFr_r, rfl⟩
  rw [← e0]
  clear e0
  obtain ⟨p1, hp1, H⟩ := zbs H
  by_cases c2 : ¬ p1 = (-1)
  · replace H := zif_t c2 H
    obtain ⟨p3, hp3, H⟩ := zbs H
    replace F := zFr_w F (f_qRe_step hp3) (by decide)
    obtain ⟨t12, ht12, H⟩ := zbs H
    have Fl := f_qRe_readLine_b28_l zfu _ _ ht12
    rcases t12 with v13 | p
    · dsimp only at H
      replace F := zFr_t F Fl
      by_cases c14 : (gI v13 147 10) = 3
      · replace H := zif_t c14 H
        obtain ⟨p15, hp15, H⟩ := zbs H
        replace F := zFr_w F (f_qRe_step hp15) (by decide)
        obtain ⟨p16, hp16, H⟩ := zbs H
        replace F := zFr_w F (f_qRe_judge hp16) (by decide)
        by_cases c17 : ¬ (gI p16 147 3) = 0
        · replace H := zif_t c17 H
          cases H
          exact F
        · replace H := zif_f c17 H
          obtain ⟨p18, hp18, H⟩ := zbs H
          replace F := zFr_w F (f_qRe_tell hp18) (by decide)
          cases H
          exact F
      · replace H := zif_f c14 H
        obtain ⟨p19, hp19, H⟩ := zbs H
        replace F := zFr_w F (f_qRe_stopHere hp19) (by decide)
        cases H
        exact F
    · cases H
      exact zFr_t F Fl
  · replace H := zif_f c2 H
    obtain ⟨p20, hp20, H⟩ := zbs H
    replace F := zFr_w F (f_qRe_stopHere hp20) (by decide)
    cases H
    exact F
theorem f_qRe_read_b13 {h0 : zK} {x1 : Int32} {s : Int32 × zK} {e : (Int32 × zK) ⊕ (zK)} (F : zFr [147, 148, 149, 150, 151, 152, 153, 154, 155, 156, 157, 158, 159, 160, 161, 162, 163, 164, 165] h0 s.2) (H : qRe_read_b13 x1 s = some e) : match (generalizing := false) e with | .inl s' => zFr [147, 148, 149, 150, 151, 152, 153, 154, 155, 156, 157, 158, 159, 160, 161, 162, 163, 164, 165] h0 s'.2 | .inr v => zFr [147, 148, 149, 150, 151, 152, 153, 154, 155, 156, 157, 158, 159, 160, 161, 162, 163, 164, 165] h0 v := by
  unfold qRe_read_b13 at H
  by_cases c3 : 600 < s.1
  · replace H := zif_t c3 H
    cases H
    exact F
  · replace H := zif_f c3 H
    by_cases c4 : (gI s.2 147 10) = 0
    · replace H := zif_t c4 H
      cases H
      exact F
    · replace H := zif_f c4 H
      by_cases c5 : (gI s.2 147 3) = 1
      · replace H := zif_t c5 H
        cases H
        exact F
      · replace H := zif_f c5 H
        obtain ⟨p6, hp6, H⟩ := zbs H
        replace F := zFr_w F (f_qRe_readLine hp6) (by decide)
        cases H
        exact F
theorem f_qRe_read_b13_l {x1 : Int32} (n : Nat) (s : Int32 × zK) (t : zK) (H : zloop (qRe_read_b13 x1) n s = some t) : zFr [147, 148, 149, 150, 151, 152, 153, 154, 155, 156, 157, 158, 159, 160, 161, 162, 163, 164, 165] s.2 t := by
  exact zloop_P (P := fun s => zFr [147, 148, 149, 150, 151, 152, 153, 154, 155, 156, 157, 158, 159, 160, 161, 162, 163, 164, 165] s.2 t) (b := qRe_read_b13 x1) (t := t) (fun s s2 hb hk => zFr_t (f_qRe_read_b13 zFr_r hb) hk) (fun s hb => f_qRe_read_b13 zFr_r hb) n s H
theorem f_qRe_read {x1 : Int32} {x3 : Int32} {h : zK} {p : zK} (H : qRe_read x1 x3 h = some p) : zFr [147, 148, 149, 150, 151, 152, 153, 154, 155, 156, 157, 158, 159, 160, 161, 162, 163, 164, 165] h p := by
  unfold qRe_read at H
  obtain ⟨h0, F, e0⟩ : ∃ h0, zFr [147, 148, 149, 150, 151, 152, 153, 154, 155, 156, 157, 158, 159, 160, 161, 162, 163, 164, 165] h0 h ∧ h0 = h := ⟨h, zFr_r, rfl⟩
  rw [← e0]
  clear e0
  obtain ⟨p1, hp1, H⟩ := zbs H
  replace F := zFr_w F (f_qRe_begin hp1) (by decide)
  obtain ⟨p2, hp2, H⟩ := zbs H
  replace F := zFr_w F (f_qRe_step hp2) (by decide)
  obtain ⟨t7, ht7, H⟩ := zbs H
  have Fl := f_qRe_read_b13_l zfu _ _ ht7
  replace F := zFr_t F Fl
  clear Fl
  by_cases c9 : ¬ x1 = 0
  · replace H := zif_t c9 H
    cases H
    exact F
  · replace H := zif_f c9 H
    by_cases c10 : ((gI t7 147 13) &&& ((qCe_all 148 t7) ^^^ (-1))) = 0
    · replace H := zif_t c10 H
      cases H
      exact F
    · replace H := zif_f c10 H
      obtain ⟨p11, hp11, H⟩ := zbs H
      replace F := zFr_w F (f_qRe_note hp11) (by decide)
      cases H
      exact F
theorem f_qRu_openUp_j83 {h0 : zK} {oo : Nat} {x1 : Int32} {h : zK} {p : zK} (ho : oo = 166 ∨ oo = 198) (F : zFr [166, 198] h0 h) (H : qRu_openUp_j83 oo x1 h = some p) : zFr [166, 198] h0 p := by
  unfold qRu_openUp_j83 at H
  rcases ho with rfl | rfl
  · obtain ⟨h6, eh6, H⟩ := zlets H
    replace F := zFr_s F eh6 (by decide)
    obtain ⟨j7, hj7, H⟩ := zbs H
    obtain ⟨h8, eh8, H⟩ := zlets H
    replace F := zFr_s F eh8 (by decide)
    cases H
    exact F
  · obtain ⟨h6, eh6, H⟩ := zlets H
    replace F := zFr_s F eh6 (by decide)
    obtain ⟨j7, hj7, H⟩ := zbs H
    obtain ⟨h8, eh8, H⟩ := zlets H
    replace F := zFr_s F eh8 (by decide)
    cases H
    exact F
theorem f_qRu_openUp {oo : Nat} {x1 : Int32} {h : zK} {p : zK} (ho : oo = 166 ∨ oo = 198) (H : qRu_openUp oo x1 h = some p) : zFr [166, 198] h p := by
  unfold qRu_openUp at H
  obtain ⟨h0, F, e0⟩ : ∃ h0, zFr [166, 198] h0 h ∧ h0 = h := ⟨h, zFr_r, rfl⟩
  rw [← e0]
  clear e0
  rcases ho with rfl | rfl
  · obtain ⟨h1, eh1, H⟩ := zlets H
    replace F := zFr_s F eh1 (by decide)
    by_cases c2 : (zf_cin (gI h1 166 13) x1) = 0
    · replace H := zif_t c2 H
      obtain ⟨j3, hj3, H⟩ := zbs H
      obtain ⟨h4, eh4, H⟩ := zlets H
      replace F := zFr_s F eh4 (by decide)
      by_cases c5 : (gI h4 166 14) < (gI h4 (166 + 10) j3)
      · replace H := zif_t c5 H
        exact f_qRu_openUp_j83 (oo := 166) (by decide) F H
      · replace H := zif_f c5 H
        by_cases c9 : ¬ (gI h4 (166 + 10) j3) = (gI h4 166 14)
        · replace H := zif_t c9 H
          cases H
          exact F
        · replace H := zif_f c9 H
          by_cases c10 : (gI h4 166 6) ≤ x1
          · replace H := zif_t c10 H
            cases H
            exact F
          · replace H := zif_f c10 H
            exact f_qRu_openUp_j83 (oo := 166) (by decide) F H
    · replace H := zif_f c2 H
      obtain ⟨h11, eh11, H⟩ := zlets H
      replace F := zFr_s F eh11 (by decide)
      cases H
      exact F
  · obtain ⟨h1, eh1, H⟩ := zlets H
    replace F := zFr_s F eh1 (by decide)
    by_cases c2 : (zf_cin (gI h1 198 13) x1) = 0
    · replace H := zif_t c2 H
      obtain ⟨j3, hj3, H⟩ := zbs H
      obtain ⟨h4, eh4, H⟩ := zlets H
      replace F := zFr_s F eh4 (by decide)
      by_cases c5 : (gI h4 198 14) < (gI h4 (198 + 10) j3)
      · replace H := zif_t c5 H
        exact f_qRu_openUp_j83 (oo := 198) (by decide) F H
      · replace H := zif_f c5 H
        by_cases c9 : ¬ (gI h4 (198 + 10) j3) = (gI h4 198 14)
        · replace H := zif_t c9 H
          cases H
          exact F
        · replace H := zif_f c9 H
          by_cases c10 : (gI h4 198 6) ≤ x1
          · replace H := zif_t c10 H
            cases H
            exact F
          · replace H := zif_f c10 H
            exact f_qRu_openUp_j83 (oo := 198) (by decide) F H
    · replace H := zif_f c2 H
      obtain ⟨h11, eh11, H⟩ := zlets H
      replace F := zFr_s F eh11 (by decide)
      cases H
      exact F
theorem f_qRu_wiredDown {oo : Nat} {x1 : Int32} {h : zK} {p : Int32 × zK} (ho : oo = 166 ∨ oo = 198) (H : qRu_wiredDown oo x1 h = some p) : zFr [166, 178, 198, 210] h p.2 := by
  unfold qRu_wiredDown at H
  obtain ⟨h0, F, e0⟩ : ∃ h0, zFr [166, 178, 198, 210] h0 h ∧ h0 = h := ⟨h, zFr_r, rfl⟩
  rw [← e0]
  clear e0
  rcases ho with rfl | rfl
  · by_cases c1 : (zf_cin (gI h 166 12) x1) = 0
    · replace H := zif_t c1 H
      obtain ⟨h2, eh2, H⟩ := zlets H
      replace F := zFr_s F eh2 (by decide)
      obtain ⟨j3, hj3, H⟩ := zbs H
      obtain ⟨h4, eh4, H⟩ := zlets H
      replace F := zFr_s F eh4 (by decide)
      cases H
      exact F
    · replace H := zif_f c1 H
      cases H
      exact F
  · by_cases c1 : (zf_cin (gI h 198 12) x1) = 0
    · replace H := zif_t c1 H
      obtain ⟨h2, eh2, H⟩ := zlets H
      replace F := zFr_s F eh2 (by decide)
      obtain ⟨j3, hj3, H⟩ := zbs H
      obtain ⟨h4, eh4, H⟩ := zlets H
      replace F := zFr_s F eh4 (by decide)
      cases H
      exact F
    · replace H := zif_f c1 H
      cases H
      exact F
theorem f_qRu_becameTainted {oo : Nat} {x1 : Int32} {h : zK} {p : Int32 × zK} (ho : oo = 166 ∨ oo = 198) (H : qRu_becameTainted oo x1 h = some p) : zFr [166, 198] h p.2 := by
  unfold qRu_becameTainted at H
  obtain ⟨h0, F, e0⟩ : ∃ h0, zFr [166, 198] h0 h ∧ h0 = h := ⟨h, zFr_r, rfl⟩
  rw [← e0]
  clear e0
  rcases ho with rfl | rfl
  · by_cases c1 : (zf_cin (gI h 166 13) x1) = 0
    · replace H := zif_t c1 H
      obtain ⟨h2, eh2, H⟩ := zlets H
      replace F := zFr_s F eh2 (by decide)
      cases H
      exact F
    · replace H := zif_f c1 H
      cases H
      exact F
  · by_cases c1 : (zf_cin (gI h 198 13) x1) = 0
    · replace H := zif_t c1 H
      obtain ⟨h2, eh2, H⟩ := zlets H
      replace F := zFr_s F eh2 (by decide)
      cases H
      exact F
    · replace H := zif_f c1 H
      cases H
      exact F
theorem f_qRu_movedTo {oo : Nat} {x1 : Int32} {x2 : Int32} {h : zK} {p : Int32 × zK} (ho : oo = 166 ∨ oo = 198) (H : qRu_movedTo oo x1 x2 h = some p) : zFr [166, 179, 198, 211] h p.2 := by
  unfold qRu_movedTo at H
  obtain ⟨h0, F, e0⟩ : ∃ h0, zFr [166, 179, 198, 211] h0 h ∧ h0 = h := ⟨h, zFr_r, rfl⟩
  rw [← e0]
  clear e0
  rcases ho with rfl | rfl
  · obtain ⟨j1, hj1, H⟩ := zbs H
    by_cases c2 : ¬ (gI h (166 + 13) j1) = x2
    · replace H := zif_t c2 H
      obtain ⟨h3, eh3, H⟩ := zlets H
      replace F := zFr_s F eh3 (by decide)
      obtain ⟨h4, eh4, H⟩ := zlets H
      replace F := zFr_s F eh4 (by decide)
      cases H
      exact F
    · replace H := zif_f c2 H
      cases H
      exact F
  · obtain ⟨j1, hj1, H⟩ := zbs H
    by_cases c2 : ¬ (gI h (198 + 13) j1) = x2
    · replace H := zif_t c2 H
      obtain ⟨h3, eh3, H⟩ := zlets H
      replace F := zFr_s F eh3 (by decide)
      obtain ⟨h4, eh4, H⟩ := zlets H
      replace F := zFr_s F eh4 (by decide)
      cases H
      exact F
    · replace H := zif_f c2 H
      cases H
      exact F
theorem f_qRu_did {oo : Nat} {x1 : Int32} {x2 : Int32} {x3 : Int32} {h : zK} {p : Int32 × zK} (ho : oo = 166 ∨ oo = 198) (H : qRu_did oo x1 x2 x3 h = some p) : zFr [166, 167, 176, 177, 178, 179, 198, 199, 208, 209, 210, 211] h p.2 := by
  unfold qRu_did at H
  obtain ⟨h0, F, e0⟩ : ∃ h0, zFr [166, 167, 176, 177, 178, 179, 198, 199, 208, 209, 210, 211] h0 h ∧ h0 = h := ⟨h, zFr_r, rfl⟩
  rw [← e0]
  clear e0
  rcases ho with rfl | rfl
  · by_cases c1 : ¬ x1 = 0
    · replace H := zif_t c1 H
      obtain ⟨a2, ea2, H⟩ := zlets H
      obtain ⟨c3, H⟩ := zifn H
      rcases c3 with rfl | rfl
      · by_cases c4 : (qCe_has 7 x2 h) = 0
        · replace H := zif_t c4 H
          cases H
          exact F
        · replace H := zif_f c4 H
          by_cases c5 : (zf_cin (gI h 166 2) x2) = 0
          · replace H := zif_t c5 H
            by_cases c15 : x1 = 1
            · replace H := zif_t c15 H
              obtain ⟨p6, hp6, H⟩ := zbs H
              replace F := zFr_w F (f_qRu_openUp (by decide) hp6) (by decide)
              cases H
              exact F
            replace H := zif_f c15 H
            by_cases c16 : x1 = 2
            · replace H := zif_t c16 H
              obtain ⟨p7, hp7, H⟩ := zbs H
              replace F := zFr_w F (f_qRu_wiredDown (by decide) hp7) (by decide)
              obtain ⟨c8, H⟩ := zifn H
              cases H
              exact F
            replace H := zif_f c16 H
            by_cases c17 : x1 = 3
            · replace H := zif_t c17 H
              obtain ⟨p9, hp9, H⟩ := zbs H
              replace F := zFr_w F (f_qRu_becameTainted (by decide) hp9) (by decide)
              obtain ⟨c10, H⟩ := zifn H
              cases H
              exact F
            replace H := zif_f c17 H
            by_cases c18 : x1 = 4
            · replace H := zif_t c18 H
              obtain ⟨p11, hp11, H⟩ := zbs H
              replace F := zFr_w F (f_qRu_movedTo (by decide) hp11) (by decide)
              obtain ⟨c12, H⟩ := zifn H
              cases H
              exact F
            replace H := zif_f c18 H
            cases H
            exact F
          · replace H := zif_f c5 H
            cases H
            exact F
      · by_cases c4 : (qCe_has 22 x2 h) = 0
        · replace H := zif_t c4 H
          cases H
          exact F
        · replace H := zif_f c4 H
          by_cases c5 : (zf_cin (gI h 166 2) x2) = 0
          · replace H := zif_t c5 H
            by_cases c15 : x1 = 1
            · replace H := zif_t c15 H
              obtain ⟨p6, hp6, H⟩ := zbs H
              replace F := zFr_w F (f_qRu_openUp (by decide) hp6) (by decide)
              cases H
              exact F
            replace H := zif_f c15 H
            by_cases c16 : x1 = 2
            · replace H := zif_t c16 H
              obtain ⟨p7, hp7, H⟩ := zbs H
              replace F := zFr_w F (f_qRu_wiredDown (by decide) hp7) (by decide)
              obtain ⟨c8, H⟩ := zifn H
              cases H
              exact F
            replace H := zif_f c16 H
            by_cases c17 : x1 = 3
            · replace H := zif_t c17 H
              obtain ⟨p9, hp9, H⟩ := zbs H
              replace F := zFr_w F (f_qRu_becameTainted (by decide) hp9) (by decide)
              obtain ⟨c10, H⟩ := zifn H
              cases H
              exact F
            replace H := zif_f c17 H
            by_cases c18 : x1 = 4
            · replace H := zif_t c18 H
              obtain ⟨p11, hp11, H⟩ := zbs H
              replace F := zFr_w F (f_qRu_movedTo (by decide) hp11) (by decide)
              obtain ⟨c12, H⟩ := zifn H
              cases H
              exact F
            replace H := zif_f c18 H
            cases H
            exact F
          · replace H := zif_f c5 H
            cases H
            exact F
    · replace H := zif_f c1 H
      obtain ⟨p13, hp13, H⟩ := zbs H
      replace F := zFr_w F (f_qRu_passedYear (by decide) hp13) (by decide)
      obtain ⟨c14, H⟩ := zifn H
      cases H
      exact F
  · by_cases c1 : ¬ x1 = 0
    · replace H := zif_t c1 H
      obtain ⟨a2, ea2, H⟩ := zlets H
      obtain ⟨c3, H⟩ := zifn H
      rcases c3 with rfl | rfl
      · by_cases c4 : (qCe_has 7 x2 h) = 0
        · replace H := zif_t c4 H
          cases H
          exact F
        · replace H := zif_f c4 H
          by_cases c5 : (zf_cin (gI h 198 2) x2) = 0
          · replace H := zif_t c5 H
            by_cases c15 : x1 = 1
            · replace H := zif_t c15 H
              obtain ⟨p6, hp6, H⟩ := zbs H
              replace F := zFr_w F (f_qRu_openUp (by decide) hp6) (by decide)
              cases H
              exact F
            replace H := zif_f c15 H
            by_cases c16 : x1 = 2
            · replace H := zif_t c16 H
              obtain ⟨p7, hp7, H⟩ := zbs H
              replace F := zFr_w F (f_qRu_wiredDown (by decide) hp7) (by decide)
              obtain ⟨c8, H⟩ := zifn H
              cases H
              exact F
            replace H := zif_f c16 H
            by_cases c17 : x1 = 3
            · replace H := zif_t c17 H
              obtain ⟨p9, hp9, H⟩ := zbs H
              replace F := zFr_w F (f_qRu_becameTainted (by decide) hp9) (by decide)
              obtain ⟨c10, H⟩ := zifn H
              cases H
              exact F
            replace H := zif_f c17 H
            by_cases c18 : x1 = 4
            · replace H := zif_t c18 H
              obtain ⟨p11, hp11, H⟩ := zbs H
              replace F := zFr_w F (f_qRu_movedTo (by decide) hp11) (by decide)
              obtain ⟨c12, H⟩ := zifn H
              cases H
              exact F
            replace H := zif_f c18 H
            cases H
            exact F
          · replace H := zif_f c5 H
            cases H
            exact F
      · by_cases c4 : (qCe_has 22 x2 h) = 0
        · replace H := zif_t c4 H
          cases H
          exact F
        · replace H := zif_f c4 H
          by_cases c5 : (zf_cin (gI h 198 2) x2) = 0
          · replace H := zif_t c5 H
            by_cases c15 : x1 = 1
            · replace H := zif_t c15 H
              obtain ⟨p6, hp6, H⟩ := zbs H
              replace F := zFr_w F (f_qRu_openUp (by decide) hp6) (by decide)
              cases H
              exact F
            replace H := zif_f c15 H
            by_cases c16 : x1 = 2
            · replace H := zif_t c16 H
              obtain ⟨p7, hp7, H⟩ := zbs H
              replace F := zFr_w F (f_qRu_wiredDown (by decide) hp7) (by decide)
              obtain ⟨c8, H⟩ := zifn H
              cases H
              exact F
            replace H := zif_f c16 H
            by_cases c17 : x1 = 3
            · replace H := zif_t c17 H
              obtain ⟨p9, hp9, H⟩ := zbs H
              replace F := zFr_w F (f_qRu_becameTainted (by decide) hp9) (by decide)
              obtain ⟨c10, H⟩ := zifn H
              cases H
              exact F
            replace H := zif_f c17 H
            by_cases c18 : x1 = 4
            · replace H := zif_t c18 H
              obtain ⟨p11, hp11, H⟩ := zbs H
              replace F := zFr_w F (f_qRu_movedTo (by decide) hp11) (by decide)
              obtain ⟨c12, H⟩ := zifn H
              cases H
              exact F
            replace H := zif_f c18 H
            cases H
            exact F
          · replace H := zif_f c5 H
            cases H
            exact F
    · replace H := zif_f c1 H
      obtain ⟨p13, hp13, H⟩ := zbs H
      replace F := zFr_w F (f_qRu_passedYear (by decide) hp13) (by decide)
      obtain ⟨c14, H⟩ := zifn H
      cases H
      exact F
theorem f_qRu_follow_b2 {h0 : zK} {oe : Nat} {oo : Nat} {x2 : Int32} {s : Int32 × zK} {e : (Int32 × zK) ⊕ ((zK) ⊕ (Int32 × zK))} (ho : (oe = 15 ∧ oo = 166) ∨ (oe = 30 ∧ oo = 166) ∨ (oe = 15 ∧ oo = 198) ∨ (oe = 30 ∧ oo = 198)) (F : zFr [166, 167, 176, 177, 178, 179, 198, 199, 208, 209, 210, 211] h0 s.2) (H : qRu_follow_b2 oe oo x2 s = some e) : match (generalizing := false) e with | .inl s' => zFr [166, 167, 176, 177, 178, 179, 198, 199, 208, 209, 210, 211] h0 s'.2 | .inr (.inl v) => zFr [166, 167, 176, 177, 178, 179, 198, 199, 208, 209, 210, 211] h0 v | .inr (.inr p) => zFr [166, 167, 176, 177, 178, 179, 198, 199, 208, 209, 210, 211] h0 p.2 := by
  unfold qRu_follow_b2 at H
  rcases ho with ⟨rfl, rfl⟩ | ⟨rfl, rfl⟩ | ⟨rfl, rfl⟩ | ⟨rfl, rfl⟩
  · by_cases c1 : x2 ≤ s.1
    · replace H := zif_t c1 H
      cases H
      exact F
    · replace H := zif_f c1 H
      by_cases c2 : (gI s.2 15 0) ≤ s.1
      · replace H := zif_t c2 H
        cases H
        exact F
      · replace H := zif_f c2 H
        obtain ⟨j3, hj3, H⟩ := zbs H
        obtain ⟨p4, hp4, H⟩ := zbs H
        replace F := zFr_w F (f_qRu_did (by decide) hp4) (by decide)
        by_cases c5 : ¬ p4.1 = 0
        · replace H := zif_t c5 H
          cases H
          exact F
        · replace H := zif_f c5 H
          cases H
          exact F
  · by_cases c1 : x2 ≤ s.1
    · replace H := zif_t c1 H
      cases H
      exact F
    · replace H := zif_f c1 H
      by_cases c2 : (gI s.2 30 0) ≤ s.1
      · replace H := zif_t c2 H
        cases H
        exact F
      · replace H := zif_f c2 H
        obtain ⟨j3, hj3, H⟩ := zbs H
        obtain ⟨p4, hp4, H⟩ := zbs H
        replace F := zFr_w F (f_qRu_did (by decide) hp4) (by decide)
        by_cases c5 : ¬ p4.1 = 0
        · replace H := zif_t c5 H
          cases H
          exact F
        · replace H := zif_f c5 H
          cases H
          exact F
  · by_cases c1 : x2 ≤ s.1
    · replace H := zif_t c1 H
      cases H
      exact F
    · replace H := zif_f c1 H
      by_cases c2 : (gI s.2 15 0) ≤ s.1
      · replace H := zif_t c2 H
        cases H
        exact F
      · replace H := zif_f c2 H
        obtain ⟨j3, hj3, H⟩ := zbs H
        obtain ⟨p4, hp4, H⟩ := zbs H
        replace F := zFr_w F (f_qRu_did (by decide) hp4) (by decide)
        by_cases c5 : ¬ p4.1 = 0
        · replace H := zif_t c5 H
          cases H
          exact F
        · replace H := zif_f c5 H
          cases H
          exact F
  · by_cases c1 : x2 ≤ s.1
    · replace H := zif_t c1 H
      cases H
      exact F
    · replace H := zif_f c1 H
      by_cases c2 : (gI s.2 30 0) ≤ s.1
      · replace H := zif_t c2 H
        cases H
        exact F
      · replace H := zif_f c2 H
        obtain ⟨j3, hj3, H⟩ := zbs H
        obtain ⟨p4, hp4, H⟩ := zbs H
        replace F := zFr_w F (f_qRu_did (by decide) hp4) (by decide)
        by_cases c5 : ¬ p4.1 = 0
        · replace H := zif_t c5 H
          cases H
          exact F
        · replace H := zif_f c5 H
          cases H
          exact F
theorem f_qRu_follow_b2_l {oe : Nat} {oo : Nat} {x2 : Int32} (ho : (oe = 15 ∧ oo = 166) ∨ (oe = 30 ∧ oo = 166) ∨ (oe = 15 ∧ oo = 198) ∨ (oe = 30 ∧ oo = 198)) (n : Nat) (s : Int32 × zK) (t : (zK) ⊕ (Int32 × zK)) (H : zloop (qRu_follow_b2 oe oo x2) n s = some t) : (match (generalizing := false) t with | .inl v => zFr [166, 167, 176, 177, 178, 179, 198, 199, 208, 209, 210, 211] s.2 v | .inr p => zFr [166, 167, 176, 177, 178, 179, 198, 199, 208, 209, 210, 211] s.2 p.2) := by
  rcases t with v | p
  · exact zloop_P (P := fun s => zFr [166, 167, 176, 177, 178, 179, 198, 199, 208, 209, 210, 211] s.2 v) (b := qRu_follow_b2 oe oo x2) (fun s s2 hb hk => zFr_t (f_qRu_follow_b2 ho zFr_r hb) hk) (fun s hb => f_qRu_follow_b2 ho zFr_r hb) n s H
  · exact zloop_P (P := fun s => zFr [166, 167, 176, 177, 178, 179, 198, 199, 208, 209, 210, 211] s.2 p.2) (b := qRu_follow_b2 oe oo x2) (fun s s2 hb hk => zFr_t (f_qRu_follow_b2 ho zFr_r hb) hk) (fun s hb => f_qRu_follow_b2 ho zFr_r hb) n s H
theorem f_qRu_follow {oo : Nat} {oe : Nat} {x2 : Int32} {h : zK} {p : Int32 × zK} (ho : (oe = 15 ∧ oo = 166) ∨ (oe = 30 ∧ oo = 166) ∨ (oe = 15 ∧ oo = 198) ∨ (oe = 30 ∧ oo = 198)) (H : qRu_follow oo oe x2 h = some p) : zFr [166, 167, 176, 177, 178, 179, 198, 199, 208, 209, 210, 211] h p.2 := by
  unfold qRu_follow at H
  obtain ⟨h0, F, e0⟩ : ∃ h0, zFr [166, 167, 176, 177, 178, 179, 198, 199, 208, 209, 210, 211] h0 h ∧ h0 = h := ⟨h, zFr_r, rfl⟩
  rw [← e0]
  clear e0
  rcases ho with ⟨rfl, rfl⟩ | ⟨rfl, rfl⟩ | ⟨rfl, rfl⟩ | ⟨rfl, rfl⟩
  · obtain ⟨t6, ht6, H⟩ := zbs H
    have Fl := f_qRu_follow_b2_l (oe := 15) (oo := 166) (by decide) zfu _ _ ht6
    rcases t6 with v7 | p
    · dsimp only at H
      replace F := zFr_t F Fl
      cases H
      exact F
    · cases H
      exact zFr_t F Fl
  · obtain ⟨t6, ht6, H⟩ := zbs H
    have Fl := f_qRu_follow_b2_l (oe := 30) (oo := 166) (by decide) zfu _ _ ht6
    rcases t6 with v7 | p
    · dsimp only at H
      replace F := zFr_t F Fl
      cases H
      exact F
    · cases H
      exact zFr_t F Fl
  · obtain ⟨t6, ht6, H⟩ := zbs H
    have Fl := f_qRu_follow_b2_l (oe := 15) (oo := 198) (by decide) zfu _ _ ht6
    rcases t6 with v7 | p
    · dsimp only at H
      replace F := zFr_t F Fl
      cases H
      exact F
    · cases H
      exact zFr_t F Fl
  · obtain ⟨t6, ht6, H⟩ := zbs H
    have Fl := f_qRu_follow_b2_l (oe := 30) (oo := 198) (by decide) zfu _ _ ht6
    rcases t6 with v7 | p
    · dsimp only at H
      replace F := zFr_t F Fl
      cases H
      exact F
    · cases H
      exact zFr_t F Fl
theorem f_qRu_below {oo : Nat} {x1 : Int32} {h : zK} {p : Int32 × zK} (ho : oo = 166 ∨ oo = 198) (H : qRu_below oo x1 h = some p) : zFr [166, 198] h p.2 := by
  unfold qRu_below at H
  obtain ⟨h0, F, e0⟩ : ∃ h0, zFr [166, 198] h0 h ∧ h0 = h := ⟨h, zFr_r, rfl⟩
  rw [← e0]
  clear e0
  rcases ho with rfl | rfl
  · obtain ⟨h1, eh1, H⟩ := zlets H
    replace F := zFr_s F eh1 (by decide)
    by_cases c2 : x1 ≤ 0
    · replace H := zif_t c2 H
      cases H
      exact F
    · replace H := zif_f c2 H
      obtain ⟨c3, H⟩ := zifn H
      cases H
      exact F
  · obtain ⟨h1, eh1, H⟩ := zlets H
    replace F := zFr_s F eh1 (by decide)
    by_cases c2 : x1 ≤ 0
    · replace H := zif_t c2 H
      cases H
      exact F
    · replace H := zif_f c2 H
      obtain ⟨c3, H⟩ := zifn H
      cases H
      exact F
