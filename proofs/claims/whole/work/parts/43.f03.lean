theorem f_qRu_draw_b7 {h0 : zK} {oo : Nat} {x2 : Int32} {s : Int32 × zK} {e : (Int32 × zK) ⊕ (zK)} (ho : oo = 166 ∨ oo = 198) (F : zFr [166, 167, 176, 177, 178, 179, 198, 199, 208, 209, 210, 211] h0 s.2) (H : qRu_draw_b7 oo x2 s = some e) : match (generalizing := false) e with | .inl s' => zFr [166, 167, 176, 177, 178, 179, 198, 199, 208, 209, 210, 211] h0 s'.2 | .inr v => zFr [166, 167, 176, 177, 178, 179, 198, 199, 208, 209, 210, 211] h0 v := by
  unfold qRu_draw_b7 at H
  rcases ho with rfl | rfl
  · by_cases c2 : x2 ≤ s.1
    · replace H := zif_t c2 H
      cases H
      exact F
    · replace H := zif_f c2 H
      obtain ⟨p3, hp3, H⟩ := zbs H
      replace F := zFr_w F (f_qRu_below (by decide) hp3) (by decide)
      obtain ⟨p4, hp4, H⟩ := zbs H
      obtain ⟨v6, hv6, H⟩ := zbs H
      replace F : zFr [166, 167, 176, 177, 178, 179, 198, 199, 208, 209, 210, 211] h0 v6 := by
        clear H
        by_cases c5 : ¬ p4 = 0
        · replace hv6 := zif_t c5 hv6
          obtain ⟨a7, ea7, hv6⟩ := zlets hv6
          obtain ⟨c8, hv6⟩ := zifn hv6
          rcases c8 with rfl | rfl
          · by_cases c9 : (gI p3.2 7 2) ≤ 0
            · replace hv6 := zif_t c9 hv6
              cases hv6
              exact F
            · replace hv6 := zif_f c9 hv6
              obtain ⟨a10, ea10, hv6⟩ := zlets hv6
              obtain ⟨c11, hv6⟩ := zifn hv6
              rcases c11 with rfl | rfl
              · obtain ⟨p12, hp12, hv6⟩ := zbs hv6
                replace F := zFr_w F (f_qRu_below (by decide) hp12) (by decide)
                obtain ⟨v14, hv14, hv6⟩ := zbs hv6
                replace F : zFr [166, 167, 176, 177, 178, 179, 198, 199, 208, 209, 210, 211] h0 v14.2 := by
                  clear hv6
                  by_cases c13 : ¬ p4 = 4
                  · replace hv14 := zif_t c13 hv14
                    cases hv14
                    exact F
                  · replace hv14 := zif_f c13 hv14
                    obtain ⟨p15, hp15, hv14⟩ := zbs hv14
                    replace F := zFr_w F (f_qRu_below (by decide) hp15) (by decide)
                    cases hv14
                    exact F
                obtain ⟨p16, hp16, hv6⟩ := zbs hv6
                replace F := zFr_w F (f_qRu_did (by decide) hp16) (by decide)
                cases hv6
                exact F
              · obtain ⟨p12, hp12, hv6⟩ := zbs hv6
                replace F := zFr_w F (f_qRu_below (by decide) hp12) (by decide)
                obtain ⟨v14, hv14, hv6⟩ := zbs hv6
                replace F : zFr [166, 167, 176, 177, 178, 179, 198, 199, 208, 209, 210, 211] h0 v14.2 := by
                  clear hv6
                  by_cases c13 : ¬ p4 = 4
                  · replace hv14 := zif_t c13 hv14
                    cases hv14
                    exact F
                  · replace hv14 := zif_f c13 hv14
                    obtain ⟨p15, hp15, hv14⟩ := zbs hv14
                    replace F := zFr_w F (f_qRu_below (by decide) hp15) (by decide)
                    cases hv14
                    exact F
                obtain ⟨p16, hp16, hv6⟩ := zbs hv6
                replace F := zFr_w F (f_qRu_did (by decide) hp16) (by decide)
                cases hv6
                exact F
          · by_cases c9 : (gI p3.2 22 2) ≤ 0
            · replace hv6 := zif_t c9 hv6
              cases hv6
              exact F
            · replace hv6 := zif_f c9 hv6
              obtain ⟨a10, ea10, hv6⟩ := zlets hv6
              obtain ⟨c11, hv6⟩ := zifn hv6
              rcases c11 with rfl | rfl
              · obtain ⟨p12, hp12, hv6⟩ := zbs hv6
                replace F := zFr_w F (f_qRu_below (by decide) hp12) (by decide)
                obtain ⟨v14, hv14, hv6⟩ := zbs hv6
                replace F : zFr [166, 167, 176, 177, 178, 179, 198, 199, 208, 209, 210, 211] h0 v14.2 := by
                  clear hv6
                  by_cases c13 : ¬ p4 = 4
                  · replace hv14 := zif_t c13 hv14
                    cases hv14
                    exact F
                  · replace hv14 := zif_f c13 hv14
                    obtain ⟨p15, hp15, hv14⟩ := zbs hv14
                    replace F := zFr_w F (f_qRu_below (by decide) hp15) (by decide)
                    cases hv14
                    exact F
                obtain ⟨p16, hp16, hv6⟩ := zbs hv6
                replace F := zFr_w F (f_qRu_did (by decide) hp16) (by decide)
                cases hv6
                exact F
              · obtain ⟨p12, hp12, hv6⟩ := zbs hv6
                replace F := zFr_w F (f_qRu_below (by decide) hp12) (by decide)
                obtain ⟨v14, hv14, hv6⟩ := zbs hv6
                replace F : zFr [166, 167, 176, 177, 178, 179, 198, 199, 208, 209, 210, 211] h0 v14.2 := by
                  clear hv6
                  by_cases c13 : ¬ p4 = 4
                  · replace hv14 := zif_t c13 hv14
                    cases hv14
                    exact F
                  · replace hv14 := zif_f c13 hv14
                    obtain ⟨p15, hp15, hv14⟩ := zbs hv14
                    replace F := zFr_w F (f_qRu_below (by decide) hp15) (by decide)
                    cases hv14
                    exact F
                obtain ⟨p16, hp16, hv6⟩ := zbs hv6
                replace F := zFr_w F (f_qRu_did (by decide) hp16) (by decide)
                cases hv6
                exact F
        · replace hv6 := zif_f c5 hv6
          obtain ⟨p17, hp17, hv6⟩ := zbs hv6
          replace F := zFr_w F (f_qRu_passedYear (by decide) hp17) (by decide)
          cases hv6
          exact F
      cases H
      exact F
  · by_cases c2 : x2 ≤ s.1
    · replace H := zif_t c2 H
      cases H
      exact F
    · replace H := zif_f c2 H
      obtain ⟨p3, hp3, H⟩ := zbs H
      replace F := zFr_w F (f_qRu_below (by decide) hp3) (by decide)
      obtain ⟨p4, hp4, H⟩ := zbs H
      obtain ⟨v6, hv6, H⟩ := zbs H
      replace F : zFr [166, 167, 176, 177, 178, 179, 198, 199, 208, 209, 210, 211] h0 v6 := by
        clear H
        by_cases c5 : ¬ p4 = 0
        · replace hv6 := zif_t c5 hv6
          obtain ⟨a7, ea7, hv6⟩ := zlets hv6
          obtain ⟨c8, hv6⟩ := zifn hv6
          rcases c8 with rfl | rfl
          · by_cases c9 : (gI p3.2 7 2) ≤ 0
            · replace hv6 := zif_t c9 hv6
              cases hv6
              exact F
            · replace hv6 := zif_f c9 hv6
              obtain ⟨a10, ea10, hv6⟩ := zlets hv6
              obtain ⟨c11, hv6⟩ := zifn hv6
              rcases c11 with rfl | rfl
              · obtain ⟨p12, hp12, hv6⟩ := zbs hv6
                replace F := zFr_w F (f_qRu_below (by decide) hp12) (by decide)
                obtain ⟨v14, hv14, hv6⟩ := zbs hv6
                replace F : zFr [166, 167, 176, 177, 178, 179, 198, 199, 208, 209, 210, 211] h0 v14.2 := by
                  clear hv6
                  by_cases c13 : ¬ p4 = 4
                  · replace hv14 := zif_t c13 hv14
                    cases hv14
                    exact F
                  · replace hv14 := zif_f c13 hv14
                    obtain ⟨p15, hp15, hv14⟩ := zbs hv14
                    replace F := zFr_w F (f_qRu_below (by decide) hp15) (by decide)
                    cases hv14
                    exact F
                obtain ⟨p16, hp16, hv6⟩ := zbs hv6
                replace F := zFr_w F (f_qRu_did (by decide) hp16) (by decide)
                cases hv6
                exact F
              · obtain ⟨p12, hp12, hv6⟩ := zbs hv6
                replace F := zFr_w F (f_qRu_below (by decide) hp12) (by decide)
                obtain ⟨v14, hv14, hv6⟩ := zbs hv6
                replace F : zFr [166, 167, 176, 177, 178, 179, 198, 199, 208, 209, 210, 211] h0 v14.2 := by
                  clear hv6
                  by_cases c13 : ¬ p4 = 4
                  · replace hv14 := zif_t c13 hv14
                    cases hv14
                    exact F
                  · replace hv14 := zif_f c13 hv14
                    obtain ⟨p15, hp15, hv14⟩ := zbs hv14
                    replace F := zFr_w F (f_qRu_below (by decide) hp15) (by decide)
                    cases hv14
                    exact F
                obtain ⟨p16, hp16, hv6⟩ := zbs hv6
                replace F := zFr_w F (f_qRu_did (by decide) hp16) (by decide)
                cases hv6
                exact F
          · by_cases c9 : (gI p3.2 22 2) ≤ 0
            · replace hv6 := zif_t c9 hv6
              cases hv6
              exact F
            · replace hv6 := zif_f c9 hv6
              obtain ⟨a10, ea10, hv6⟩ := zlets hv6
              obtain ⟨c11, hv6⟩ := zifn hv6
              rcases c11 with rfl | rfl
              · obtain ⟨p12, hp12, hv6⟩ := zbs hv6
                replace F := zFr_w F (f_qRu_below (by decide) hp12) (by decide)
                obtain ⟨v14, hv14, hv6⟩ := zbs hv6
                replace F : zFr [166, 167, 176, 177, 178, 179, 198, 199, 208, 209, 210, 211] h0 v14.2 := by
                  clear hv6
                  by_cases c13 : ¬ p4 = 4
                  · replace hv14 := zif_t c13 hv14
                    cases hv14
                    exact F
                  · replace hv14 := zif_f c13 hv14
                    obtain ⟨p15, hp15, hv14⟩ := zbs hv14
                    replace F := zFr_w F (f_qRu_below (by decide) hp15) (by decide)
                    cases hv14
                    exact F
                obtain ⟨p16, hp16, hv6⟩ := zbs hv6
                replace F := zFr_w F (f_qRu_did (by decide) hp16) (by decide)
                cases hv6
                exact F
              · obtain ⟨p12, hp12, hv6⟩ := zbs hv6
                replace F := zFr_w F (f_qRu_below (by decide) hp12) (by decide)
                obtain ⟨v14, hv14, hv6⟩ := zbs hv6
                replace F : zFr [166, 167, 176, 177, 178, 179, 198, 199, 208, 209, 210, 211] h0 v14.2 := by
                  clear hv6
                  by_cases c13 : ¬ p4 = 4
                  · replace hv14 := zif_t c13 hv14
                    cases hv14
                    exact F
                  · replace hv14 := zif_f c13 hv14
                    obtain ⟨p15, hp15, hv14⟩ := zbs hv14
                    replace F := zFr_w F (f_qRu_below (by decide) hp15) (by decide)
                    cases hv14
                    exact F
                obtain ⟨p16, hp16, hv6⟩ := zbs hv6
                replace F := zFr_w F (f_qRu_did (by decide) hp16) (by decide)
                cases hv6
                exact F
        · replace hv6 := zif_f c5 hv6
          obtain ⟨p17, hp17, hv6⟩ := zbs hv6
          replace F := zFr_w F (f_qRu_passedYear (by decide) hp17) (by decide)
          cases hv6
          exact F
      cases H
      exact F
theorem f_qRu_draw_b7_l {oo : Nat} {x2 : Int32} (ho : oo = 166 ∨ oo = 198) (n : Nat) (s : Int32 × zK) (t : zK) (H : zloop (qRu_draw_b7 oo x2) n s = some t) : zFr [166, 167, 176, 177, 178, 179, 198, 199, 208, 209, 210, 211] s.2 t := by
  exact zloop_P (P := fun s => zFr [166, 167, 176, 177, 178, 179, 198, 199, 208, 209, 210, 211] s.2 t) (b := qRu_draw_b7 oo x2) (t := t) (fun s s2 hb hk => zFr_t (f_qRu_draw_b7 ho zFr_r hb) hk) (fun s hb => f_qRu_draw_b7 ho zFr_r hb) n s H
theorem f_qRu_draw {oo : Nat} {x1 : Int32} {x2 : Int32} {h : zK} {p : zK} (ho : oo = 166 ∨ oo = 198) (H : qRu_draw oo x1 x2 h = some p) : zFr [166, 167, 176, 177, 178, 179, 198, 199, 208, 209, 210, 211] h p := by
  unfold qRu_draw at H
  obtain ⟨h0, F, e0⟩ : ∃ h0, zFr [166, 167, 176, 177, 178, 179, 198, 199, 208, 209, 210, 211] h0 h ∧ h0 = h := ⟨h, zFr_r, rfl⟩
  rw [← e0]
  clear e0
  rcases ho with rfl | rfl
  · obtain ⟨h1, eh1, H⟩ := zlets H
    replace F := zFr_s F eh1 (by decide)
    obtain ⟨t18, ht18, H⟩ := zbs H
    have Fl := f_qRu_draw_b7_l (oo := 166) (by decide) zfu _ _ ht18
    replace F := zFr_t F Fl
    clear Fl
    cases H
    exact F
  · obtain ⟨h1, eh1, H⟩ := zlets H
    replace F := zFr_s F eh1 (by decide)
    obtain ⟨t18, ht18, H⟩ := zbs H
    have Fl := f_qRu_draw_b7_l (oo := 198) (by decide) zfu _ _ ht18
    replace F := zFr_t F Fl
    clear Fl
    cases H
    exact F
theorem f_qT_push_b3 {h0 : zK} {x1 : Int32} {s : Int32 × zK} {e : (Int32 × zK) ⊕ (zK)} (F : zFr [1, 2] h0 s.2) (H : qT_push_b3 x1 s = some e) : match (generalizing := false) e with | .inl s' => zFr [1, 2] h0 s'.2 | .inr v => zFr [1, 2] h0 v := by
  unfold qT_push_b3 at H
  by_cases c1 : s.1 < 0
  · replace H := zif_t c1 H
    cases H
    exact F
  · replace H := zif_f c1 H
    by_cases c2 : 600 ≤ (gI s.2 1 1)
    · replace H := zif_t c2 H
      cases H
      exact F
    · replace H := zif_f c2 H
      obtain ⟨j3, hj3, H⟩ := zbs H
      obtain ⟨h4, eh4, H⟩ := zlets H
      replace F := zFr_s F eh4 (by decide)
      obtain ⟨h5, eh5, H⟩ := zlets H
      replace F := zFr_s F eh5 (by decide)
      cases H
      exact F
theorem f_qT_push_b3_l {x1 : Int32} (n : Nat) (s : Int32 × zK) (t : zK) (H : zloop (qT_push_b3 x1) n s = some t) : zFr [1, 2] s.2 t := by
  exact zloop_P (P := fun s => zFr [1, 2] s.2 t) (b := qT_push_b3 x1) (t := t) (fun s s2 hb hk => zFr_t (f_qT_push_b3 zFr_r hb) hk) (fun s hb => f_qT_push_b3 zFr_r hb) n s H
theorem f_qT_push {x1 : Int32} {h : zK} {p : zK} (H : qT_push x1 h = some p) : zFr [1, 2] h p := by
  unfold qT_push at H
  obtain ⟨h0, F, e0⟩ : ∃ h0, zFr [1, 2] h0 h ∧ h0 = h := ⟨h, zFr_r, rfl⟩
  rw [← e0]
  clear e0
  obtain ⟨t6, ht6, H⟩ := zbs H
  have Fl := f_qT_push_b3_l zfu _ _ ht6
  replace F := zFr_t F Fl
  clear Fl
  cases H
  exact F
set_option maxRecDepth 20000 in
theorem f_qT_take_j85 {h0 : zK} {x2 : Int32} {x3 : Int32} {h : zK} {p : zK} (F : zFr [3, 7, 8, 9, 10, 11, 12, 13, 14, 15, 16, 17, 18, 19, 20, 21, 22, 23, 24, 25, 26, 27, 28, 29, 30, 31, 32, 33, 34, 35, 36, 44, 45, 46, 47, 48, 49, 50, 51, 52, 53, 54, 55, 56, 57, 58, 59, 60, 61, 62, 63, 64, 65, 66, 67, 68, 69, 70, 71, 72, 73, 80, 81, 82, 83, 84, 85, 86, 87, 88, 89, 90, 91, 92, 93, 94, 95, 96, 97, 98, 99, 100, 101, 102, 103, 104, 105, 106, 107, 108, 109, 116, 117, 118, 119, 120, 121, 122, 123, 124, 125, 126, 127, 128, 129, 130, 131, 132, 133, 134, 135, 136, 137, 138, 139, 140, 141, 142, 143, 144, 145] h0 h) (H : qT_take_j85 x2 x3 h = some p) : zFr [3, 7, 8, 9, 10, 11, 12, 13, 14, 15, 16, 17, 18, 19, 20, 21, 22, 23, 24, 25, 26, 27, 28, 29, 30, 31, 32, 33, 34, 35, 36, 44, 45, 46, 47, 48, 49, 50, 51, 52, 53, 54, 55, 56, 57, 58, 59, 60, 61, 62, 63, 64, 65, 66, 67, 68, 69, 70, 71, 72, 73, 80, 81, 82, 83, 84, 85, 86, 87, 88, 89, 90, 91, 92, 93, 94, 95, 96, 97, 98, 99, 100, 101, 102, 103, 104, 105, 106, 107, 108, 109, 116, 117, 118, 119, 120, 121, 122, 123, 124, 125, 126, 127, 128, 129, 130, 131, 132, 133, 134, 135, 136, 137, 138, 139, 140, 141, 142, 143, 144, 145] h0 p := by
  unfold qT_take_j85 at H
  obtain ⟨j7, hj7, H⟩ := zbs H
  obtain ⟨h8, eh8, H⟩ := zlets H
  replace F := zFr_s F eh8 (by decide)
  cases H
  exact F
set_option maxRecDepth 20000 in
theorem f_qT_take {x2 : Int32} {x3 : Int32} {h : zK} {p : zK} (H : qT_take x2 x3 h = some p) : zFr [3, 7, 8, 9, 10, 11, 12, 13, 14, 15, 16, 17, 18, 19, 20, 21, 22, 23, 24, 25, 26, 27, 28, 29, 30, 31, 32, 33, 34, 35, 36, 44, 45, 46, 47, 48, 49, 50, 51, 52, 53, 54, 55, 56, 57, 58, 59, 60, 61, 62, 63, 64, 65, 66, 67, 68, 69, 70, 71, 72, 73, 80, 81, 82, 83, 84, 85, 86, 87, 88, 89, 90, 91, 92, 93, 94, 95, 96, 97, 98, 99, 100, 101, 102, 103, 104, 105, 106, 107, 108, 109, 116, 117, 118, 119, 120, 121, 122, 123, 124, 125, 126, 127, 128, 129, 130, 131, 132, 133, 134, 135, 136, 137, 138, 139, 140, 141, 142, 143, 144, 145] h p := by
  unfold qT_take at H
  obtain ⟨h0, F, e0⟩ : ∃ h0, zFr [3, 7, 8, 9, 10, 11, 12, 13, 14, 15, 16, 17, 18, 19, 20, 21, 22, 23, 24, 25, 26, 27, 28, 29, 30, 31, 32, 33, 34, 35, 36, 44, 45, 46, 47, 48, 49, 50, 51, 52, 53, 54, 55, 56, 57, 58, 59, 60, 61, 62, 63, 64, 65, 66, 67, 68, 69, 70, 71, 72, 73, 80, 81, 82, 83, 84, 85, 86, 87, 88, 89, 90, 91, 92, 93, 94, 95, 96, 97, 98, 99, 100, 101, 102, 103, 104, 105, 106, 107, 108, 109, 116, 117, 118, 119, 120, 121, 122, 123, 124, 125, 126, 127, 128, 129, 130, 131, 132, 133, 134, 135, 136, 137, 138, 139, 140, 141, 142, 143, 144, 145] h0 h ∧ h0 = h := ⟨h, zFr_r, rfl⟩
  rw [← e0]
  clear e0
  by_cases c1 : x3 < 0
  · replace H := zif_t c1 H
    cases H
    exact F
  · replace H := zif_f c1 H
    by_cases c2 : x3 < 2
    · replace H := zif_t c2 H
      by_cases c17 : x2 = 0
      · replace H := zif_t c17 H
        obtain ⟨j3, hj3, H⟩ := zbs H
        obtain ⟨a4, ea4, H⟩ := zlets H
        obtain ⟨c5, H⟩ := zifn H
        rcases c5 with rfl | rfl
        · obtain ⟨p6, hp6, H⟩ := zbs H
          replace F := zFr_w F (f_qCe_become (by decide) hp6) (by decide)
          exact f_qT_take_j85 F H
        · obtain ⟨p6, hp6, H⟩ := zbs H
          replace F := zFr_w F (f_qCe_become (by decide) hp6) (by decide)
          exact f_qT_take_j85 F H
      replace H := zif_f c17 H
      by_cases c18 : x2 = 1
      · replace H := zif_t c18 H
        obtain ⟨j9, hj9, H⟩ := zbs H
        obtain ⟨a10, ea10, H⟩ := zlets H
        obtain ⟨c11, H⟩ := zifn H
        rcases c11 with rfl | rfl
        · obtain ⟨p12, hp12, H⟩ := zbs H
          replace F := zFr_w F (f_qDe_become (by decide) hp12) (by decide)
          exact f_qT_take_j85 F H
        · obtain ⟨p12, hp12, H⟩ := zbs H
          replace F := zFr_w F (f_qDe_become (by decide) hp12) (by decide)
          exact f_qT_take_j85 F H
      replace H := zif_f c18 H
      by_cases c19 : x2 = 2
      · replace H := zif_t c19 H
        obtain ⟨j13, hj13, H⟩ := zbs H
        obtain ⟨a14, ea14, H⟩ := zlets H
        obtain ⟨c15, H⟩ := zifn H
        rcases c15 with rfl | rfl
        · obtain ⟨p16, hp16, H⟩ := zbs H
          replace F := zFr_w F (f_qLo_become (by decide) hp16) (by decide)
          exact f_qT_take_j85 F H
        · obtain ⟨p16, hp16, H⟩ := zbs H
          replace F := zFr_w F (f_qLo_become (by decide) hp16) (by decide)
          exact f_qT_take_j85 F H
      replace H := zif_f c19 H
      cases H
      exact F
    · replace H := zif_f c2 H
      cases H
      exact F
set_option maxRecDepth 20000 in
theorem f_qT_become_b56 {h0 : zK} {oo : Nat} {oq : Nat} {s : Int32 × zK} {e : (Int32 × zK) ⊕ (zK)} (ho : (oo = 1 ∧ oq = 38) ∨ (oo = 1 ∧ oq = 74) ∨ (oo = 1 ∧ oq = 110) ∨ (oo = 38 ∧ oq = 1) ∨ (oo = 74 ∧ oq = 1) ∨ (oo = 110 ∧ oq = 1)) (F : zFr [1, 2, 3, 7, 8, 9, 10, 11, 12, 13, 14, 15, 16, 17, 18, 19, 20, 21, 22, 23, 24, 25, 26, 27, 28, 29, 30, 31, 32, 33, 34, 35, 36, 38, 39, 40, 44, 45, 46, 47, 48, 49, 50, 51, 52, 53, 54, 55, 56, 57, 58, 59, 60, 61, 62, 63, 64, 65, 66, 67, 68, 69, 70, 71, 72, 73, 74, 75, 76, 80, 81, 82, 83, 84, 85, 86, 87, 88, 89, 90, 91, 92, 93, 94, 95, 96, 97, 98, 99, 100, 101, 102, 103, 104, 105, 106, 107, 108, 109, 110, 111, 112, 116, 117, 118, 119, 120, 121, 122, 123, 124, 125, 126, 127, 128, 129, 130, 131, 132, 133, 134, 135, 136, 137, 138, 139, 140, 141, 142, 143, 144, 145] h0 s.2) (H : qT_become_b56 oo oq s = some e) : match (generalizing := false) e with | .inl s' => zFr [1, 2, 3, 7, 8, 9, 10, 11, 12, 13, 14, 15, 16, 17, 18, 19, 20, 21, 22, 23, 24, 25, 26, 27, 28, 29, 30, 31, 32, 33, 34, 35, 36, 38, 39, 40, 44, 45, 46, 47, 48, 49, 50, 51, 52, 53, 54, 55, 56, 57, 58, 59, 60, 61, 62, 63, 64, 65, 66, 67, 68, 69, 70, 71, 72, 73, 74, 75, 76, 80, 81, 82, 83, 84, 85, 86, 87, 88, 89, 90, 91, 92, 93, 94, 95, 96, 97, 98, 99, 100, 101, 102, 103, 104, 105, 106, 107, 108, 109, 110, 111, 112, 116, 117, 118, 119, 120, 121, 122, 123, 124, 125, 126, 127, 128, 129, 130, 131, 132, 133, 134, 135, 136, 137, 138, 139, 140, 141, 142, 143, 144, 145] h0 s'.2 | .inr v => zFr [1, 2, 3, 7, 8, 9, 10, 11, 12, 13, 14, 15, 16, 17, 18, 19, 20, 21, 22, 23, 24, 25, 26, 27, 28, 29, 30, 31, 32, 33, 34, 35, 36, 38, 39, 40, 44, 45, 46, 47, 48, 49, 50, 51, 52, 53, 54, 55, 56, 57, 58, 59, 60, 61, 62, 63, 64, 65, 66, 67, 68, 69, 70, 71, 72, 73, 74, 75, 76, 80, 81, 82, 83, 84, 85, 86, 87, 88, 89, 90, 91, 92, 93, 94, 95, 96, 97, 98, 99, 100, 101, 102, 103, 104, 105, 106, 107, 108, 109, 110, 111, 112, 116, 117, 118, 119, 120, 121, 122, 123, 124, 125, 126, 127, 128, 129, 130, 131, 132, 133, 134, 135, 136, 137, 138, 139, 140, 141, 142, 143, 144, 145] h0 v := by
  unfold qT_become_b56 at H
  rcases ho with ⟨rfl, rfl⟩ | ⟨rfl, rfl⟩ | ⟨rfl, rfl⟩ | ⟨rfl, rfl⟩ | ⟨rfl, rfl⟩ | ⟨rfl, rfl⟩
  · by_cases c8 : 2 ≤ s.1
    · replace H := zif_t c8 H
      cases H
      exact F
    · replace H := zif_f c8 H
      obtain ⟨j9, hj9, H⟩ := zbs H
      obtain ⟨a10, ea10, H⟩ := zlets H
      obtain ⟨a11, ea11, H⟩ := zlets H
      obtain ⟨c12, H⟩ := zifn H
      obtain ⟨p13, hp13, H⟩ := zbs H
      replace F := zFr_w F (f_qCe_become c12 hp13) (by decide)
      obtain ⟨a14, ea14, H⟩ := zlets H
      obtain ⟨a15, ea15, H⟩ := zlets H
      obtain ⟨c16, H⟩ := zifn H
      obtain ⟨p17, hp17, H⟩ := zbs H
      replace F := zFr_w F (f_qDe_become c16 hp17) (by decide)
      obtain ⟨a18, ea18, H⟩ := zlets H
      obtain ⟨a19, ea19, H⟩ := zlets H
      obtain ⟨c20, H⟩ := zifn H
      obtain ⟨p21, hp21, H⟩ := zbs H
      replace F := zFr_w F (f_qLo_become c20 hp21) (by decide)
      cases H
      exact F
  · by_cases c8 : 2 ≤ s.1
    · replace H := zif_t c8 H
      cases H
      exact F
    · replace H := zif_f c8 H
      obtain ⟨j9, hj9, H⟩ := zbs H
      obtain ⟨a10, ea10, H⟩ := zlets H
      obtain ⟨a11, ea11, H⟩ := zlets H
      obtain ⟨c12, H⟩ := zifn H
      obtain ⟨p13, hp13, H⟩ := zbs H
      replace F := zFr_w F (f_qCe_become c12 hp13) (by decide)
      obtain ⟨a14, ea14, H⟩ := zlets H
      obtain ⟨a15, ea15, H⟩ := zlets H
      obtain ⟨c16, H⟩ := zifn H
      obtain ⟨p17, hp17, H⟩ := zbs H
      replace F := zFr_w F (f_qDe_become c16 hp17) (by decide)
      obtain ⟨a18, ea18, H⟩ := zlets H
      obtain ⟨a19, ea19, H⟩ := zlets H
      obtain ⟨c20, H⟩ := zifn H
      obtain ⟨p21, hp21, H⟩ := zbs H
      replace F := zFr_w F (f_qLo_become c20 hp21) (by decide)
      cases H
      exact F
  · by_cases c8 : 2 ≤ s.1
    · replace H := zif_t c8 H
      cases H
      exact F
    · replace H := zif_f c8 H
      obtain ⟨j9, hj9, H⟩ := zbs H
      obtain ⟨a10, ea10, H⟩ := zlets H
      obtain ⟨a11, ea11, H⟩ := zlets H
      obtain ⟨c12, H⟩ := zifn H
      obtain ⟨p13, hp13, H⟩ := zbs H
      replace F := zFr_w F (f_qCe_become c12 hp13) (by decide)
      obtain ⟨a14, ea14, H⟩ := zlets H
      obtain ⟨a15, ea15, H⟩ := zlets H
      obtain ⟨c16, H⟩ := zifn H
      obtain ⟨p17, hp17, H⟩ := zbs H
      replace F := zFr_w F (f_qDe_become c16 hp17) (by decide)
      obtain ⟨a18, ea18, H⟩ := zlets H
      obtain ⟨a19, ea19, H⟩ := zlets H
      obtain ⟨c20, H⟩ := zifn H
      obtain ⟨p21, hp21, H⟩ := zbs H
      replace F := zFr_w F (f_qLo_become c20 hp21) (by decide)
      cases H
      exact F
  · by_cases c8 : 2 ≤ s.1
    · replace H := zif_t c8 H
      cases H
      exact F
    · replace H := zif_f c8 H
      obtain ⟨j9, hj9, H⟩ := zbs H
      obtain ⟨a10, ea10, H⟩ := zlets H
      obtain ⟨a11, ea11, H⟩ := zlets H
      obtain ⟨c12, H⟩ := zifn H
      obtain ⟨p13, hp13, H⟩ := zbs H
      replace F := zFr_w F (f_qCe_become c12 hp13) (by decide)
      obtain ⟨a14, ea14, H⟩ := zlets H
      obtain ⟨a15, ea15, H⟩ := zlets H
      obtain ⟨c16, H⟩ := zifn H
      obtain ⟨p17, hp17, H⟩ := zbs H
      replace F := zFr_w F (f_qDe_become c16 hp17) (by decide)
      obtain ⟨a18, ea18, H⟩ := zlets H
      obtain ⟨a19, ea19, H⟩ := zlets H
      obtain ⟨c20, H⟩ := zifn H
      obtain ⟨p21, hp21, H⟩ := zbs H
      replace F := zFr_w F (f_qLo_become c20 hp21) (by decide)
      cases H
      exact F
  · by_cases c8 : 2 ≤ s.1
    · replace H := zif_t c8 H
      cases H
      exact F
    · replace H := zif_f c8 H
      obtain ⟨j9, hj9, H⟩ := zbs H
      obtain ⟨a10, ea10, H⟩ := zlets H
      obtain ⟨a11, ea11, H⟩ := zlets H
      obtain ⟨c12, H⟩ := zifn H
      obtain ⟨p13, hp13, H⟩ := zbs H
      replace F := zFr_w F (f_qCe_become c12 hp13) (by decide)
      obtain ⟨a14, ea14, H⟩ := zlets H
      obtain ⟨a15, ea15, H⟩ := zlets H
      obtain ⟨c16, H⟩ := zifn H
      obtain ⟨p17, hp17, H⟩ := zbs H
      replace F := zFr_w F (f_qDe_become c16 hp17) (by decide)
      obtain ⟨a18, ea18, H⟩ := zlets H
      obtain ⟨a19, ea19, H⟩ := zlets H
      obtain ⟨c20, H⟩ := zifn H
      obtain ⟨p21, hp21, H⟩ := zbs H
      replace F := zFr_w F (f_qLo_become c20 hp21) (by decide)
      cases H
      exact F
  · by_cases c8 : 2 ≤ s.1
    · replace H := zif_t c8 H
      cases H
      exact F
    · replace H := zif_f c8 H
      obtain ⟨j9, hj9, H⟩ := zbs H
      obtain ⟨a10, ea10, H⟩ := zlets H
      obtain ⟨a11, ea11, H⟩ := zlets H
      obtain ⟨c12, H⟩ := zifn H
      obtain ⟨p13, hp13, H⟩ := zbs H
      replace F := zFr_w F (f_qCe_become c12 hp13) (by decide)
      obtain ⟨a14, ea14, H⟩ := zlets H
      obtain ⟨a15, ea15, H⟩ := zlets H
      obtain ⟨c16, H⟩ := zifn H
      obtain ⟨p17, hp17, H⟩ := zbs H
      replace F := zFr_w F (f_qDe_become c16 hp17) (by decide)
      obtain ⟨a18, ea18, H⟩ := zlets H
      obtain ⟨a19, ea19, H⟩ := zlets H
      obtain ⟨c20, H⟩ := zifn H
      obtain ⟨p21, hp21, H⟩ := zbs H
      replace F := zFr_w F (f_qLo_become c20 hp21) (by decide)
      cases H
      exact F
set_option maxRecDepth 20000 in
theorem f_qT_become_b56_l {oo : Nat} {oq : Nat} (ho : (oo = 1 ∧ oq = 38) ∨ (oo = 1 ∧ oq = 74) ∨ (oo = 1 ∧ oq = 110) ∨ (oo = 38 ∧ oq = 1) ∨ (oo = 74 ∧ oq = 1) ∨ (oo = 110 ∧ oq = 1)) (n : Nat) (s : Int32 × zK) (t : zK) (H : zloop (qT_become_b56 oo oq) n s = some t) : zFr [1, 2, 3, 7, 8, 9, 10, 11, 12, 13, 14, 15, 16, 17, 18, 19, 20, 21, 22, 23, 24, 25, 26, 27, 28, 29, 30, 31, 32, 33, 34, 35, 36, 38, 39, 40, 44, 45, 46, 47, 48, 49, 50, 51, 52, 53, 54, 55, 56, 57, 58, 59, 60, 61, 62, 63, 64, 65, 66, 67, 68, 69, 70, 71, 72, 73, 74, 75, 76, 80, 81, 82, 83, 84, 85, 86, 87, 88, 89, 90, 91, 92, 93, 94, 95, 96, 97, 98, 99, 100, 101, 102, 103, 104, 105, 106, 107, 108, 109, 110, 111, 112, 116, 117, 118, 119, 120, 121, 122, 123, 124, 125, 126, 127, 128, 129, 130, 131, 132, 133, 134, 135, 136, 137, 138, 139, 140, 141, 142, 143, 144, 145] s.2 t := by
  exact zloop_P (P := fun s => zFr [1, 2, 3, 7, 8, 9, 10, 11, 12, 13, 14, 15, 16, 17, 18, 19, 20, 21, 22, 23, 24, 25, 26, 27, 28, 29, 30, 31, 32, 33, 34, 35, 36, 38, 39, 40, 44, 45, 46, 47, 48, 49, 50, 51, 52, 53, 54, 55, 56, 57, 58, 59, 60, 61, 62, 63, 64, 65, 66, 67, 68, 69, 70, 71, 72, 73, 74, 75, 76, 80, 81, 82, 83, 84, 85, 86, 87, 88, 89, 90, 91, 92, 93, 94, 95, 96, 97, 98, 99, 100, 101, 102, 103, 104, 105, 106, 107, 108, 109, 110, 111, 112, 116, 117, 118, 119, 120, 121, 122, 123, 124, 125, 126, 127, 128, 129, 130, 131, 132, 133, 134, 135, 136, 137, 138, 139, 140, 141, 142, 143, 144, 145] s.2 t) (b := qT_become_b56 oo oq) (t := t) (fun s s2 hb hk => zFr_t (f_qT_become_b56 ho zFr_r hb) hk) (fun s hb => f_qT_become_b56 ho zFr_r hb) n s H
set_option maxRecDepth 20000 in
theorem f_qT_become {oo : Nat} {oq : Nat} {h : zK} {p : zK} (ho : (oo = 1 ∧ oq = 38) ∨ (oo = 1 ∧ oq = 74) ∨ (oo = 1 ∧ oq = 110) ∨ (oo = 38 ∧ oq = 1) ∨ (oo = 74 ∧ oq = 1) ∨ (oo = 110 ∧ oq = 1)) (H : qT_become oo oq h = some p) : zFr [1, 2, 3, 7, 8, 9, 10, 11, 12, 13, 14, 15, 16, 17, 18, 19, 20, 21, 22, 23, 24, 25, 26, 27, 28, 29, 30, 31, 32, 33, 34, 35, 36, 38, 39, 40, 44, 45, 46, 47, 48, 49, 50, 51, 52, 53, 54, 55, 56, 57, 58, 59, 60, 61, 62, 63, 64, 65, 66, 67, 68, 69, 70, 71, 72, 73, 74, 75, 76, 80, 81, 82, 83, 84, 85, 86, 87, 88, 89, 90, 91, 92, 93, 94, 95, 96, 97, 98, 99, 100, 101, 102, 103, 104, 105, 106, 107, 108, 109, 110, 111, 112, 116, 117, 118, 119, 120, 121, 122, 123, 124, 125, 126, 127, 128, 129, 130, 131, 132, 133, 134, 135, 136, 137, 138, 139, 140, 141, 142, 143, 144, 145] h p := by
  unfold qT_become at H
  obtain ⟨h0, F, e0⟩ : ∃ h0, zFr [1, 2, 3, 7, 8, 9, 10, 11, 12, 13, 14, 15, 16, 17, 18, 19, 20, 21, 22, 23, 24, 25, 26, 27, 28, 29, 30, 31, 32, 33, 34, 35, 36, 38, 39, 40, 44, 45, 46, 47, 48, 49, 50, 51, 52, 53, 54, 55, 56, 57, 58, 59, 60, 61, 62, 63, 64, 65, 66, 67, 68, 69, 70, 71, 72, 73, 74, 75, 76, 80, 81, 82, 83, 84, 85, 86, 87, 88, 89, 90, 91, 92, 93, 94, 95, 96, 97, 98, 99, 100, 101, 102, 103, 104, 105, 106, 107, 108, 109, 110, 111, 112, 116, 117, 118, 119, 120, 121, 122, 123, 124, 125, 126, 127, 128, 129, 130, 131, 132, 133, 134, 135, 136, 137, 138, 139, 140, 141, 142, 143, 144, 145] h0 h ∧ h0 = h := ⟨h, zFr_r, rfl⟩
  rw [← e0]
  clear e0
  rcases ho with ⟨rfl, rfl⟩ | ⟨rfl, rfl⟩ | ⟨rfl, rfl⟩ | ⟨rfl, rfl⟩ | ⟨rfl, rfl⟩ | ⟨rfl, rfl⟩
  · obtain ⟨h1, eh1, H⟩ := zlets H
    replace F := zFr_c F eh1 (by decide)
    obtain ⟨h3, eh3, H⟩ := zlets H
    replace F := zFr_s F eh3 (by decide)
    obtain ⟨h4, eh4, H⟩ := zlets H
    replace F := zFr_s F eh4 (by decide)
    obtain ⟨h5, eh5, H⟩ := zlets H
    replace F := zFr_s F eh5 (by decide)
    obtain ⟨h6, eh6, H⟩ := zlets H
    replace F := zFr_c F eh6 (by decide)
    obtain ⟨t22, ht22, H⟩ := zbs H
    have Fl := f_qT_become_b56_l (oo := 1) (oq := 38) (by decide) zfu _ _ ht22
    replace F := zFr_t F Fl
    clear Fl
    cases H
    exact F
  · obtain ⟨h1, eh1, H⟩ := zlets H
    replace F := zFr_c F eh1 (by decide)
    obtain ⟨h3, eh3, H⟩ := zlets H
    replace F := zFr_s F eh3 (by decide)
    obtain ⟨h4, eh4, H⟩ := zlets H
    replace F := zFr_s F eh4 (by decide)
    obtain ⟨h5, eh5, H⟩ := zlets H
    replace F := zFr_s F eh5 (by decide)
    obtain ⟨h6, eh6, H⟩ := zlets H
    replace F := zFr_c F eh6 (by decide)
    obtain ⟨t22, ht22, H⟩ := zbs H
    have Fl := f_qT_become_b56_l (oo := 1) (oq := 74) (by decide) zfu _ _ ht22
    replace F := zFr_t F Fl
    clear Fl
    cases H
    exact F
  · obtain ⟨h1, eh1, H⟩ := zlets H
    replace F := zFr_c F eh1 (by decide)
    obtain ⟨h3, eh3, H⟩ := zlets H
    replace F := zFr_s F eh3 (by decide)
    obtain ⟨h4, eh4, H⟩ := zlets H
    replace F := zFr_s F eh4 (by decide)
    obtain ⟨h5, eh5, H⟩ := zlets H
    replace F := zFr_s F eh5 (by decide)
    obtain ⟨h6, eh6, H⟩ := zlets H
    replace F := zFr_c F eh6 (by decide)
    obtain ⟨t22, ht22, H⟩ := zbs H
    have Fl := f_qT_become_b56_l (oo := 1) (oq := 110) (by decide) zfu _ _ ht22
    replace F := zFr_t F Fl
    clear Fl
    cases H
    exact F
  · obtain ⟨h1, eh1, H⟩ := zlets H
    replace F := zFr_c F eh1 (by decide)
    obtain ⟨h3, eh3, H⟩ := zlets H
    replace F := zFr_s F eh3 (by decide)
    obtain ⟨h4, eh4, H⟩ := zlets H
    replace F := zFr_s F eh4 (by decide)
    obtain ⟨h5, eh5, H⟩ := zlets H
    replace F := zFr_s F eh5 (by decide)
    obtain ⟨h6, eh6, H⟩ := zlets H
    replace F := zFr_c F eh6 (by decide)
    obtain ⟨t22, ht22, H⟩ := zbs H
    have Fl := f_qT_become_b56_l (oo := 38) (oq := 1) (by decide) zfu _ _ ht22
    replace F := zFr_t F Fl
    clear Fl
    cases H
    exact F
  · obtain ⟨h1, eh1, H⟩ := zlets H
    replace F := zFr_c F eh1 (by decide)
    obtain ⟨h3, eh3, H⟩ := zlets H
    replace F := zFr_s F eh3 (by decide)
    obtain ⟨h4, eh4, H⟩ := zlets H
    replace F := zFr_s F eh4 (by decide)
    obtain ⟨h5, eh5, H⟩ := zlets H
    replace F := zFr_s F eh5 (by decide)
    obtain ⟨h6, eh6, H⟩ := zlets H
    replace F := zFr_c F eh6 (by decide)
    obtain ⟨t22, ht22, H⟩ := zbs H
    have Fl := f_qT_become_b56_l (oo := 74) (oq := 1) (by decide) zfu _ _ ht22
    replace F := zFr_t F Fl
    clear Fl
    cases H
    exact F
  · obtain ⟨h1, eh1, H⟩ := zlets H
    replace F := zFr_c F eh1 (by decide)
    obtain ⟨h3, eh3, H⟩ := zlets H
    replace F := zFr_s F eh3 (by decide)
    obtain ⟨h4, eh4, H⟩ := zlets H
    replace F := zFr_s F eh4 (by decide)
    obtain ⟨h5, eh5, H⟩ := zlets H
    replace F := zFr_s F eh5 (by decide)
    obtain ⟨h6, eh6, H⟩ := zlets H
    replace F := zFr_c F eh6 (by decide)
    obtain ⟨t22, ht22, H⟩ := zbs H
    have Fl := f_qT_become_b56_l (oo := 110) (oq := 1) (by decide) zfu _ _ ht22
    replace F := zFr_t F Fl
    clear Fl
    cases H
    exact F
theorem f_qTr_exchange {oo : Nat} {x1 : Int32} {x2 : Int32} {h : zK} {p : zK} (ho : oo = 180 ∨ oo = 186) (H : qTr_exchange oo x1 x2 h = some p) : zFr [182, 183, 188, 189] h p := by
  unfold qTr_exchange at H
  obtain ⟨h0, F, e0⟩ : ∃ h0, zFr [182, 183, 188, 189] h0 h ∧ h0 = h := ⟨h, zFr_r, rfl⟩
  rw [← e0]
  clear e0
  rcases ho with rfl | rfl
  · obtain ⟨j1, hj1, H⟩ := zbs H
    obtain ⟨j2, hj2, H⟩ := zbs H
    obtain ⟨h3, eh3, H⟩ := zlets H
    replace F := zFr_s F eh3 (by decide)
    obtain ⟨h4, eh4, H⟩ := zlets H
    replace F := zFr_s F eh4 (by decide)
    obtain ⟨p5, hp5, H⟩ := zbs H
    replace F := zFr_w F (f_qTr_layOut (by decide) hp5) (by decide)
    cases H
    exact F
  · obtain ⟨j1, hj1, H⟩ := zbs H
    obtain ⟨j2, hj2, H⟩ := zbs H
    obtain ⟨h3, eh3, H⟩ := zlets H
    replace F := zFr_s F eh3 (by decide)
    obtain ⟨h4, eh4, H⟩ := zlets H
    replace F := zFr_s F eh4 (by decide)
    obtain ⟨p5, hp5, H⟩ := zbs H
    replace F := zFr_w F (f_qTr_layOut (by decide) hp5) (by decide)
    cases H
    exact F
theorem f_qTr_pair_b26 {h0 : zK} {oo : Nat} {x3 : Int32} {s : Int32 × Int32 × Int32 × zK} {e : (Int32 × Int32 × Int32 × zK) ⊕ (Int32 × Int32 × zK)} (ho : oo = 180 ∨ oo = 186) (F : zFr [182, 183, 188, 189] h0 s.2.2.2) (H : qTr_pair_b26 oo x3 s = some e) : match (generalizing := false) e with | .inl s' => zFr [182, 183, 188, 189] h0 s'.2.2.2 | .inr v => zFr [182, 183, 188, 189] h0 v.2.2 := by
  unfold qTr_pair_b26 at H
  rcases ho with rfl | rfl
  · by_cases c3 : (gI s.2.2.2 180 0) ≤ s.2.2.1
    · replace H := zif_t c3 H
      cases H
      exact F
    · replace H := zif_f c3 H
      obtain ⟨p4, hp4, H⟩ := zbs H
      replace F := zFr_w F (f_qTr_exchange (by decide) hp4) (by decide)
      obtain ⟨p5, hp5, H⟩ := zbs H
      obtain ⟨v7, hv7, H⟩ := zlets H
      obtain ⟨p8, hp8, H⟩ := zbs H
      replace F := zFr_w F (f_qTr_exchange (by decide) hp8) (by decide)
      cases H
      exact F
  · by_cases c3 : (gI s.2.2.2 186 0) ≤ s.2.2.1
    · replace H := zif_t c3 H
      cases H
      exact F
    · replace H := zif_f c3 H
      obtain ⟨p4, hp4, H⟩ := zbs H
      replace F := zFr_w F (f_qTr_exchange (by decide) hp4) (by decide)
      obtain ⟨p5, hp5, H⟩ := zbs H
      obtain ⟨v7, hv7, H⟩ := zlets H
      obtain ⟨p8, hp8, H⟩ := zbs H
      replace F := zFr_w F (f_qTr_exchange (by decide) hp8) (by decide)
      cases H
      exact F
theorem f_qTr_pair_b26_l {oo : Nat} {x3 : Int32} (ho : oo = 180 ∨ oo = 186) (n : Nat) (s : Int32 × Int32 × Int32 × zK) (t : Int32 × Int32 × zK) (H : zloop (qTr_pair_b26 oo x3) n s = some t) : zFr [182, 183, 188, 189] s.2.2.2 t.2.2 := by
  exact zloop_P (P := fun s => zFr [182, 183, 188, 189] s.2.2.2 t.2.2) (b := qTr_pair_b26 oo x3) (t := t) (fun s s2 hb hk => zFr_t (f_qTr_pair_b26 ho zFr_r hb) hk) (fun s hb => f_qTr_pair_b26 ho zFr_r hb) n s H
theorem f_qTr_pair_b13 {h0 : zK} {oo : Nat} {s : Int32 × Int32 × Int32 × zK} {e : (Int32 × Int32 × Int32 × zK) ⊕ (Int32 × zK)} (ho : oo = 180 ∨ oo = 186) (F : zFr [182, 183, 188, 189] h0 s.2.2.2) (H : qTr_pair_b13 oo s = some e) : match (generalizing := false) e with | .inl s' => zFr [182, 183, 188, 189] h0 s'.2.2.2 | .inr v => zFr [182, 183, 188, 189] h0 v.2 := by
  unfold qTr_pair_b13 at H
  rcases ho with rfl | rfl
  · by_cases c2 : (gI s.2.2.2 180 0) ≤ s.2.2.1
    · replace H := zif_t c2 H
      cases H
      exact F
    · replace H := zif_f c2 H
      obtain ⟨t9, ht9, H⟩ := zbs H
      have Fl := f_qTr_pair_b26_l (oo := 180) (by decide) zfu _ _ ht9
      replace F := zFr_t F Fl
      clear Fl
      cases H
      exact F
  · by_cases c2 : (gI s.2.2.2 186 0) ≤ s.2.2.1
    · replace H := zif_t c2 H
      cases H
      exact F
    · replace H := zif_f c2 H
      obtain ⟨t9, ht9, H⟩ := zbs H
      have Fl := f_qTr_pair_b26_l (oo := 186) (by decide) zfu _ _ ht9
      replace F := zFr_t F Fl
      clear Fl
      cases H
      exact F
theorem f_qTr_pair_b13_l {oo : Nat} (ho : oo = 180 ∨ oo = 186) (n : Nat) (s : Int32 × Int32 × Int32 × zK) (t : Int32 × zK) (H : zloop (qTr_pair_b13 oo) n s = some t) : zFr [182, 183, 188, 189] s.2.2.2 t.2 := by
  exact zloop_P (P := fun s => zFr [182, 183, 188, 189] s.2.2.2 t.2) (b := qTr_pair_b13 oo) (t := t) (fun s s2 hb hk => zFr_t (f_qTr_pair_b13 ho zFr_r hb) hk) (fun s hb => f_qTr_pair_b13 ho zFr_r hb) n s H
theorem f_qTr_pair {oo : Nat} {h : zK} {p : Int32 × zK} (ho : oo = 180 ∨ oo = 186) (H : qTr_pair oo h = some p) : zFr [182, 183, 188, 189] h p.2 := by
  unfold qTr_pair at H
  obtain ⟨h0, F, e0⟩ : ∃ h0, zFr [182, 183, 188, 189] h0 h ∧ h0 = h := ⟨h, zFr_r, rfl⟩
  rw [← e0]
  clear e0
  rcases ho with rfl | rfl
  · obtain ⟨p1, hp1, H⟩ := zbs H
    obtain ⟨t11, ht11, H⟩ := zbs H
    have Fl := f_qTr_pair_b13_l (oo := 180) (by decide) zfu _ _ ht11
    replace F := zFr_t F Fl
    clear Fl
    cases H
    exact F
  · obtain ⟨p1, hp1, H⟩ := zbs H
    obtain ⟨t11, ht11, H⟩ := zbs H
    have Fl := f_qTr_pair_b13_l (oo := 186) (by decide) zfu _ _ ht11
    replace F := zFr_t F Fl
    clear Fl
    cases H
    exact F
theorem f_qC_feed {x1 : Int32} {x2 : Int32} {x3 : Int32} {x4 : Int32} {x5 : Int32} {h : zK} {p : Int32 × zK} (H : qC_feed x1 x2 x3 x4 x5 h = some p) : zFr [1, 2] h p.2 := by
  unfold qC_feed at H
  obtain ⟨h0, F, e0⟩ : ∃ h0, zFr [1, 2] h0 h ∧ h0 = h := ⟨h, zFr_r, rfl⟩
  rw [← e0]
  clear e0
  by_cases c1 : ((gI h 1 1) + 20) ≤ 600
  · replace H := zif_t c1 H
    obtain ⟨p2, hp2, H⟩ := zbs H
    replace F := zFr_w F (f_qT_push hp2) (by decide)
    obtain ⟨p3, hp3, H⟩ := zbs H
    replace F := zFr_w F (f_qT_push hp3) (by decide)
    obtain ⟨p4, hp4, H⟩ := zbs H
    replace F := zFr_w F (f_qT_push hp4) (by decide)
    obtain ⟨p5, hp5, H⟩ := zbs H
    replace F := zFr_w F (f_qT_push hp5) (by decide)
    obtain ⟨p6, hp6, H⟩ := zbs H
    replace F := zFr_w F (f_qT_push hp6) (by decide)
    cases H
    exact F
  · replace H := zif_f c1 H
    cases H
    exact F
theorem f_qC_end {x1 : Int32} {h : zK} {p : Int32 × zK} (H : qC_end x1 h = some p) : zFr [1] h p.2 := by
  unfold qC_end at H
  obtain ⟨h0, F, e0⟩ : ∃ h0, zFr [1] h0 h ∧ h0 = h := ⟨h, zFr_r, rfl⟩
  rw [← e0]
  clear e0
  by_cases c1 : x1 < 0
  · replace H := zif_t c1 H
    cases H
    exact F
  · replace H := zif_f c1 H
    by_cases c2 : x1 ≤ (gI h 1 1)
    · replace H := zif_t c2 H
      obtain ⟨h3, eh3, H⟩ := zlets H
      replace F := zFr_s F eh3 (by decide)
      cases H
      exact F
    · replace H := zif_f c2 H
      cases H
      exact F
theorem f_qC_forgetCellars  {h : zK} {p : zK} (H : qC_forgetCellars h = some p) : zFr [184, 213] h p := by
  unfold qC_forgetCellars at H
  obtain ⟨h0, F, e0⟩ : ∃ h0, zFr [184, 213] h0 h ∧ h0 = h := ⟨h, zFr_r, rfl⟩
  rw [← e0]
  clear e0
  obtain ⟨p1, hp1, H⟩ := zbs H
  replace F := zFr_w F (f_qLa_forget hp1) (by decide)
  obtain ⟨p2, hp2, H⟩ := zbs H
  replace F := zFr_w F (f_qLw_forget hp2) (by decide)
  cases H
  exact F
set_option maxRecDepth 20000 in
theorem f_qC_text {x1 : Int32} {x2 : Int32} {h : zK} {p : Int32 × zK} (H : qC_text x1 x2 h = some p) : zFr [1, 3, 7, 8, 9, 10, 11, 12, 13, 14, 15, 16, 17, 18, 19, 20, 21, 22, 23, 24, 25, 26, 27, 28, 29, 30, 31, 32, 33, 34, 35, 36, 44, 45, 46, 47, 48, 49, 50, 51, 52, 53, 54, 55, 56, 57, 58, 59, 60, 61, 62, 63, 64, 65, 66, 67, 68, 69, 70, 71, 72, 73, 80, 81, 82, 83, 84, 85, 86, 87, 88, 89, 90, 91, 92, 93, 94, 95, 96, 97, 98, 99, 100, 101, 102, 103, 104, 105, 106, 107, 108, 109, 116, 117, 118, 119, 120, 121, 122, 123, 124, 125, 126, 127, 128, 129, 130, 131, 132, 133, 134, 135, 136, 137, 138, 139, 140, 141, 142, 143, 144, 145, 147, 148, 149, 150, 151, 152, 153, 154, 155, 156, 157, 158, 159, 160, 161, 162, 163, 164, 165, 184, 213] h p.2 := by
  unfold qC_text at H
  obtain ⟨h0, F, e0⟩ : ∃ h0, zFr [1, 3, 7, 8, 9, 10, 11, 12, 13, 14, 15, 16, 17, 18, 19, 20, 21, 22, 23, 24, 25, 26, 27, 28, 29, 30, 31, 32, 33, 34, 35, 36, 44, 45, 46, 47, 48, 49, 50, 51, 52, 53, 54, 55, 56, 57, 58, 59, 60, 61, 62, 63, 64, 65, 66, 67, 68, 69, 70, 71, 72, 73, 80, 81, 82, 83, 84, 85, 86, 87, 88, 89, 90, 91, 92, 93, 94, 95, 96, 97, 98, 99, 100, 101, 102, 103, 104, 105, 106, 107, 108, 109, 116, 117, 118, 119, 120, 121, 122, 123, 124, 125, 126, 127, 128, 129, 130, 131, 132, 133, 134, 135, 136, 137, 138, 139, 140, 141, 142, 143, 144, 145, 147, 148, 149, 150, 151, 152, 153, 154, 155, 156, 157, 158, 159, 160, 161, 162, 163, 164, 165, 184, 213] h0 h ∧ h0 = h := ⟨h, zFr_r, rfl⟩
  rw [← e0]
  clear e0
  obtain ⟨h1, eh1, H⟩ := zlets H
  replace F := zFr_s F eh1 (by decide)
  obtain ⟨h2, eh2, H⟩ := zlets H
  replace F := zFr_s F eh2 (by decide)
  obtain ⟨h3, eh3, H⟩ := zlets H
  replace F := zFr_s F eh3 (by decide)
  by_cases c4 : x1 < 0
  · replace H := zif_t c4 H
    cases H
    exact F
  · replace H := zif_f c4 H
    by_cases c5 : x1 < 3
    · replace H := zif_t c5 H
      obtain ⟨v7, hv7, H⟩ := zbs H
      obtain ⟨v10, hv10, H⟩ := zbs H
      by_cases c12 : v7 < 0
      · replace H := zif_t c12 H
        cases H
        exact F
      · replace H := zif_f c12 H
        by_cases c13 : v7 < v10
        · replace H := zif_t c13 H
          obtain ⟨p14, hp14, H⟩ := zbs H
          replace F := zFr_w F (f_qRe_read hp14) (by decide)
          by_cases c15 : (gI p14 147 3) = 0
          · replace H := zif_t c15 H
            obtain ⟨p16, hp16, H⟩ := zbs H
            replace F := zFr_w F (f_qT_take hp16) (by decide)
            by_cases c17 : ¬ x1 = 0
            · replace H := zif_t c17 H
              cases H
              exact F
            · replace H := zif_f c17 H
              obtain ⟨p18, hp18, H⟩ := zbs H
              replace F := zFr_w F (f_qC_forgetCellars hp18) (by decide)
              cases H
              exact F
          · replace H := zif_f c15 H
            obtain ⟨h19, eh19, H⟩ := zlets H
            replace F := zFr_s F eh19 (by decide)
            obtain ⟨h20, eh20, H⟩ := zlets H
            replace F := zFr_s F eh20 (by decide)
            cases H
            exact F
        · replace H := zif_f c13 H
          cases H
          exact F
    · replace H := zif_f c5 H
      cases H
      exact F
theorem f_qC_till {x1 : Int32} {x2 : Int32} {h : zK} {p : Int32 × zK} (H : qC_till x1 x2 h = some p) : zFr [166, 167, 176, 177, 178, 179, 198, 199, 208, 209, 210, 211] h p.2 := by
  unfold qC_till at H
  obtain ⟨h0, F, e0⟩ : ∃ h0, zFr [166, 167, 176, 177, 178, 179, 198, 199, 208, 209, 210, 211] h0 h ∧ h0 = h := ⟨h, zFr_r, rfl⟩
  rw [← e0]
  clear e0
  obtain ⟨p1, hp1, H⟩ := zbs H
  rcases p1 with _ | v2
  · dsimp only at H
    obtain ⟨p3, hp3, H⟩ := zbs H
    rcases p3 with _ | v4
    · dsimp only at H
      cases H
      exact F
    · dsimp only at H
      cases H
      exact F
  · dsimp only at H
    obtain ⟨p5, hp5, H⟩ := zbs H
    rcases p5 with _ | v6
    · dsimp only at H
      cases H
      exact F
    · dsimp only at H
      obtain ⟨c7, H⟩ := zifn H
      rcases c7 with rfl | rfl
      · obtain ⟨p8, hp8, H⟩ := zbs H
        replace F := zFr_w F (f_qRu_begin (by decide) hp8) (by decide)
        obtain ⟨c9, H⟩ := zifn H
        rcases c9 with rfl | rfl
        · obtain ⟨p10, hp10, H⟩ := zbs H
          replace F := zFr_w F (f_qRu_follow (by decide) hp10) (by decide)
          cases H
          exact F
        · obtain ⟨p10, hp10, H⟩ := zbs H
          replace F := zFr_w F (f_qRu_follow (by decide) hp10) (by decide)
          cases H
          exact F
      · obtain ⟨p8, hp8, H⟩ := zbs H
        replace F := zFr_w F (f_qRu_begin (by decide) hp8) (by decide)
        obtain ⟨c9, H⟩ := zifn H
        rcases c9 with rfl | rfl
        · obtain ⟨p10, hp10, H⟩ := zbs H
          replace F := zFr_w F (f_qRu_follow (by decide) hp10) (by decide)
          cases H
          exact F
        · obtain ⟨p10, hp10, H⟩ := zbs H
          replace F := zFr_w F (f_qRu_follow (by decide) hp10) (by decide)
          cases H
          exact F
theorem f_qC_state {x1 : Int32} {x2 : Int32} {x3 : Int32} {x4 : Int32} {h : zK} {p : Int32 × zK} (H : qC_state x1 x2 x3 x4 h = some p) : zFr [166, 167, 176, 177, 178, 179, 198, 199, 208, 209, 210, 211] h p.2 := by
  unfold qC_state at H
  obtain ⟨h0, F, e0⟩ : ∃ h0, zFr [166, 167, 176, 177, 178, 179, 198, 199, 208, 209, 210, 211] h0 h ∧ h0 = h := ⟨h, zFr_r, rfl⟩
  rw [← e0]
  clear e0
  obtain ⟨p1, hp1, H⟩ := zbs H
  rcases p1 with _ | v2
  · dsimp only at H
    obtain ⟨p3, hp3, H⟩ := zbs H
    rcases p3 with _ | v4
    · dsimp only at H
      cases H
      exact F
    · dsimp only at H
      cases H
      exact F
  · dsimp only at H
    obtain ⟨p5, hp5, H⟩ := zbs H
    rcases p5 with _ | v6
    · dsimp only at H
      cases H
      exact F
    · dsimp only at H
      by_cases c7 : x3 < 0
      · replace H := zif_t c7 H
        cases H
        exact F
      · replace H := zif_f c7 H
        obtain ⟨c8, H⟩ := zifn H
        rcases c8 with rfl | rfl
        · by_cases c9 : x3 ≤ (gI h 15 0)
          · replace H := zif_t c9 H
            obtain ⟨c10, H⟩ := zifn H
            rcases c10 with rfl | rfl
            · obtain ⟨p11, hp11, H⟩ := zbs H
              replace F := zFr_w F (f_qRu_begin (by decide) hp11) (by decide)
              obtain ⟨p12, hp12, H⟩ := zbs H
              replace F := zFr_w F (f_qRu_follow (by decide) hp12) (by decide)
              by_cases c13 : x3 ≤ p12.1
              · replace H := zif_t c13 H
                obtain ⟨p14, hp14, H⟩ := zbs H
                cases H
                exact F
              · replace H := zif_f c13 H
                cases H
                exact F
            · obtain ⟨p11, hp11, H⟩ := zbs H
              replace F := zFr_w F (f_qRu_begin (by decide) hp11) (by decide)
              obtain ⟨p12, hp12, H⟩ := zbs H
              replace F := zFr_w F (f_qRu_follow (by decide) hp12) (by decide)
              by_cases c13 : x3 ≤ p12.1
              · replace H := zif_t c13 H
                obtain ⟨p14, hp14, H⟩ := zbs H
                cases H
                exact F
              · replace H := zif_f c13 H
                cases H
                exact F
          · replace H := zif_f c9 H
            cases H
            exact F
        · by_cases c9 : x3 ≤ (gI h 30 0)
          · replace H := zif_t c9 H
            obtain ⟨c10, H⟩ := zifn H
            rcases c10 with rfl | rfl
            · obtain ⟨p11, hp11, H⟩ := zbs H
              replace F := zFr_w F (f_qRu_begin (by decide) hp11) (by decide)
              obtain ⟨p12, hp12, H⟩ := zbs H
              replace F := zFr_w F (f_qRu_follow (by decide) hp12) (by decide)
              by_cases c13 : x3 ≤ p12.1
              · replace H := zif_t c13 H
                obtain ⟨p14, hp14, H⟩ := zbs H
                cases H
                exact F
              · replace H := zif_f c13 H
                cases H
                exact F
            · obtain ⟨p11, hp11, H⟩ := zbs H
              replace F := zFr_w F (f_qRu_begin (by decide) hp11) (by decide)
              obtain ⟨p12, hp12, H⟩ := zbs H
              replace F := zFr_w F (f_qRu_follow (by decide) hp12) (by decide)
              by_cases c13 : x3 ≤ p12.1
              · replace H := zif_t c13 H
                obtain ⟨p14, hp14, H⟩ := zbs H
                cases H
                exact F
              · replace H := zif_f c13 H
                cases H
                exact F
          · replace H := zif_f c9 H
            cases H
            exact F
theorem f_qC_train {x1 : Int32} {x2 : Int32} {h : zK} {p : Int32 × zK} (H : qC_train x1 x2 h = some p) : zFr [180, 181, 182, 183, 186, 187, 188, 189] h p.2 := by
  unfold qC_train at H
  obtain ⟨h0, F, e0⟩ : ∃ h0, zFr [180, 181, 182, 183, 186, 187, 188, 189] h0 h ∧ h0 = h := ⟨h, zFr_r, rfl⟩
  rw [← e0]
  clear e0
  obtain ⟨p1, hp1, H⟩ := zbs H
  rcases p1 with _ | v2
  · dsimp only at H
    cases H
    exact F
  · dsimp only at H
    obtain ⟨c3, H⟩ := zifn H
    rcases c3 with rfl | rfl
    · by_cases c4 : ¬ (qCe_has 7 x2 h) = 0
      · replace H := zif_t c4 H
        obtain ⟨p5, hp5, H⟩ := zbs H
        replace F := zFr_w F (f_qTr_lookAt (by decide) hp5) (by decide)
        obtain ⟨p6, hp6, H⟩ := zbs H
        cases H
        exact F
      · replace H := zif_f c4 H
        cases H
        exact F
    · by_cases c4 : ¬ (qCe_has 22 x2 h) = 0
      · replace H := zif_t c4 H
        obtain ⟨p5, hp5, H⟩ := zbs H
        replace F := zFr_w F (f_qTr_lookAt (by decide) hp5) (by decide)
        obtain ⟨p6, hp6, H⟩ := zbs H
        cases H
        exact F
      · replace H := zif_f c4 H
        cases H
        exact F
theorem f_qC_laying_j28 {h0 : zK} {v2 : Nat} {x1 : Int32} {x2 : Int32} {h : zK} {p : Int32 × zK} (ho : v2 = 7 ∨ v2 = 22) (F : zFr [180, 181, 182, 183, 184, 185, 186, 187, 188, 189, 190, 191] h0 h) (H : qC_laying_j28 v2 x1 x2 h = some p) : zFr [180, 181, 182, 183, 184, 185, 186, 187, 188, 189, 190, 191] h0 p.2 := by
  unfold qC_laying_j28 at H
  rcases ho with rfl | rfl
  · obtain ⟨p5, hp5, H⟩ := zbs H
    replace F := zFr_w F (f_qLa_find (by decide) hp5) (by decide)
    by_cases c6 : ¬ x2 = (-1)
    · replace H := zif_t c6 H
      obtain ⟨j7, hj7, H⟩ := zbs H
      cases H
      exact F
    · replace H := zif_f c6 H
      cases H
      exact F
  · obtain ⟨p5, hp5, H⟩ := zbs H
    replace F := zFr_w F (f_qLa_find (by decide) hp5) (by decide)
    by_cases c6 : ¬ x2 = (-1)
    · replace H := zif_t c6 H
      obtain ⟨j7, hj7, H⟩ := zbs H
      cases H
      exact F
    · replace H := zif_f c6 H
      cases H
      exact F
theorem f_qC_laying {x1 : Int32} {x2 : Int32} {h : zK} {p : Int32 × zK} (H : qC_laying x1 x2 h = some p) : zFr [180, 181, 182, 183, 184, 185, 186, 187, 188, 189, 190, 191] h p.2 := by
  unfold qC_laying at H
  obtain ⟨h0, F, e0⟩ : ∃ h0, zFr [180, 181, 182, 183, 184, 185, 186, 187, 188, 189, 190, 191] h0 h ∧ h0 = h := ⟨h, zFr_r, rfl⟩
  rw [← e0]
  clear e0
  obtain ⟨p1, hp1, H⟩ := zbs H
  rcases p1 with _ | v2
  · dsimp only at H
    cases H
    exact F
  · dsimp only at H
    by_cases c3 : x2 = (-1)
    · replace H := zif_t c3 H
      obtain ⟨c4, H⟩ := zifn H
      rcases c4 with rfl | rfl
      · exact f_qC_laying_j28 (v2 := 7) (by decide) F H
      · exact f_qC_laying_j28 (v2 := 22) (by decide) F H
    · replace H := zif_f c3 H
      obtain ⟨c8, H⟩ := zifn H
      rcases c8 with rfl | rfl
      · by_cases c9 : ¬ (qCe_has 7 x2 h) = 0
        · replace H := zif_t c9 H
          exact f_qC_laying_j28 (v2 := 7) (by decide) F H
        · replace H := zif_f c9 H
          cases H
          exact F
      · by_cases c9 : ¬ (qCe_has 22 x2 h) = 0
        · replace H := zif_t c9 H
          exact f_qC_laying_j28 (v2 := 22) (by decide) F H
        · replace H := zif_f c9 H
          cases H
          exact F
theorem f_qC_plan {x1 : Int32} {x2 : Int32} {x3 : Int32} {h : zK} {p : Int32 × zK} (H : qC_plan x1 x2 x3 h = some p) : zFr [192, 193, 194, 195] h p.2 := by
  unfold qC_plan at H
  obtain ⟨h0, F, e0⟩ : ∃ h0, zFr [192, 193, 194, 195] h0 h ∧ h0 = h := ⟨h, zFr_r, rfl⟩
  rw [← e0]
  clear e0
  obtain ⟨p1, hp1, H⟩ := zbs H
  rcases p1 with _ | v2
  · dsimp only at H
    cases H
    exact F
  · dsimp only at H
    by_cases c3 : x2 < 0
    · replace H := zif_t c3 H
      cases H
      exact F
    · replace H := zif_f c3 H
      by_cases c4 : 10 < x2
      · replace H := zif_t c4 H
        cases H
        exact F
      · replace H := zif_f c4 H
        by_cases c5 : x3 < (-1)
        · replace H := zif_t c5 H
          cases H
          exact F
        · replace H := zif_f c5 H
          by_cases c6 : x3 < x2
          · replace H := zif_t c6 H
            obtain ⟨c7, H⟩ := zifn H
            rcases c7 with rfl | rfl
            · obtain ⟨p8, hp8, H⟩ := zbs H
              replace F := zFr_w F (f_qOr_bestPlan (by decide) hp8) (by decide)
              by_cases c9 : ¬ x3 = (-1)
              · replace H := zif_t c9 H
                obtain ⟨j10, hj10, H⟩ := zbs H
                cases H
                exact F
              · replace H := zif_f c9 H
                cases H
                exact F
            · obtain ⟨p8, hp8, H⟩ := zbs H
              replace F := zFr_w F (f_qOr_bestPlan (by decide) hp8) (by decide)
              by_cases c9 : ¬ x3 = (-1)
              · replace H := zif_t c9 H
                obtain ⟨j10, hj10, H⟩ := zbs H
                cases H
                exact F
              · replace H := zif_f c9 H
                cases H
                exact F
          · replace H := zif_f c6 H
            cases H
            exact F
theorem f_qC_talk {x1 : Int32} {x2 : Int32} {h : zK} {p : Int32 × zK} (H : qC_talk x1 x2 h = some p) : zFr [192, 193, 194] h p.2 := by
  unfold qC_talk at H
  obtain ⟨h0, F, e0⟩ : ∃ h0, zFr [192, 193, 194] h0 h ∧ h0 = h := ⟨h, zFr_r, rfl⟩
  rw [← e0]
  clear e0
  obtain ⟨p1, hp1, H⟩ := zbs H
  rcases p1 with _ | v2
  · dsimp only at H
    cases H
    exact F
  · dsimp only at H
    obtain ⟨c3, H⟩ := zifn H
    rcases c3 with rfl | rfl
    · obtain ⟨p4, hp4, H⟩ := zbs H
      replace F := zFr_w F (f_qOr_bestRow (by decide) hp4) (by decide)
      obtain ⟨p5, hp5, H⟩ := zbs H
      cases H
      exact F
    · obtain ⟨p4, hp4, H⟩ := zbs H
      replace F := zFr_w F (f_qOr_bestRow (by decide) hp4) (by decide)
      obtain ⟨p5, hp5, H⟩ := zbs H
      cases H
      exact F
theorem f_qC_dinner {x1 : Int32} {x2 : Int32} {h : zK} {p : Int32 × zK} (H : qC_dinner x1 x2 h = some p) : zFr [192, 193, 194] h p.2 := by
  unfold qC_dinner at H
  obtain ⟨h0, F, e0⟩ : ∃ h0, zFr [192, 193, 194] h0 h ∧ h0 = h := ⟨h, zFr_r, rfl⟩
  rw [← e0]
  clear e0
  obtain ⟨p1, hp1, H⟩ := zbs H
  rcases p1 with _ | v2
  · dsimp only at H
    cases H
    exact F
  · dsimp only at H
    obtain ⟨c3, H⟩ := zifn H
    rcases c3 with rfl | rfl
    · obtain ⟨p4, hp4, H⟩ := zbs H
      replace F := zFr_w F (f_qOr_bestRow (by decide) hp4) (by decide)
      obtain ⟨p5, hp5, H⟩ := zbs H
      cases H
      exact F
    · obtain ⟨p4, hp4, H⟩ := zbs H
      replace F := zFr_w F (f_qOr_bestRow (by decide) hp4) (by decide)
      obtain ⟨p5, hp5, H⟩ := zbs H
      cases H
      exact F
theorem f_qC_duel {x1 : Int32} {x2 : Int32} {x3 : Int32} {h : zK} {p : Int32 × zK} (H : qC_duel x1 x2 x3 h = some p) : zFr [192, 194] h p.2 := by
  unfold qC_duel at H
  obtain ⟨h0, F, e0⟩ : ∃ h0, zFr [192, 194] h0 h ∧ h0 = h := ⟨h, zFr_r, rfl⟩
  rw [← e0]
  clear e0
  obtain ⟨p1, hp1, H⟩ := zbs H
  rcases p1 with _ | v2
  · dsimp only at H
    cases H
    exact F
  · dsimp only at H
    by_cases c3 : x2 < 0
    · replace H := zif_t c3 H
      cases H
      exact F
    · replace H := zif_f c3 H
      by_cases c4 : x2 ≤ 5
      · replace H := zif_t c4 H
        obtain ⟨c5, H⟩ := zifn H
        rcases c5 with rfl | rfl
        · obtain ⟨p6, hp6, H⟩ := zbs H
          replace F := zFr_w F (f_qOr_playOut (by decide) hp6) (by decide)
          by_cases c7 : x3 = 0
          · replace H := zif_t c7 H
            cases H
            exact F
          · replace H := zif_f c7 H
            cases H
            exact F
        · obtain ⟨p6, hp6, H⟩ := zbs H
          replace F := zFr_w F (f_qOr_playOut (by decide) hp6) (by decide)
          by_cases c7 : x3 = 0
          · replace H := zif_t c7 H
            cases H
            exact F
          · replace H := zif_f c7 H
            cases H
            exact F
      · replace H := zif_f c4 H
        cases H
        exact F
theorem f_qC_fits {x1 : Int32} {x2 : Int32} {x3 : Int32} {h : zK} {p : Int32 × zK} (H : qC_fits x1 x2 x3 h = some p) : zFr [166, 167, 176, 177, 178, 179, 196, 197, 198, 199, 208, 209, 210, 211, 212, 213, 214] h p.2 := by
  unfold qC_fits at H
  obtain ⟨h0, F, e0⟩ : ∃ h0, zFr [166, 167, 176, 177, 178, 179, 196, 197, 198, 199, 208, 209, 210, 211, 212, 213, 214] h0 h ∧ h0 = h := ⟨h, zFr_r, rfl⟩
  rw [← e0]
  clear e0
  obtain ⟨p1, hp1, H⟩ := zbs H
  rcases p1 with _ | v2
  · dsimp only at H
    obtain ⟨p3, hp3, H⟩ := zbs H
    rcases p3 with _ | v4
    · dsimp only at H
      cases H
      exact F
    · dsimp only at H
      cases H
      exact F
  · dsimp only at H
    obtain ⟨p5, hp5, H⟩ := zbs H
    rcases p5 with _ | v6
    · dsimp only at H
      cases H
      exact F
    · dsimp only at H
      by_cases c7 : 0 ≤ x3
      · replace H := zif_t c7 H
        obtain ⟨c8, H⟩ := zifn H
        rcases c8 with rfl | rfl
        · obtain ⟨c9, H⟩ := zifn H
          rcases c9 with rfl | rfl
          · obtain ⟨p10, hp10, H⟩ := zbs H
            replace F := zFr_w F (f_qLw_find (by decide) hp10) (by decide)
            by_cases c17 : x3 = 0
            · replace H := zif_t c17 H
              cases H
              exact F
            replace H := zif_f c17 H
            by_cases c18 : x3 = 1
            · replace H := zif_t c18 H
              obtain ⟨p11, hp11, H⟩ := zbs H
              cases H
              exact F
            replace H := zif_f c18 H
            by_cases c19 : x3 = 2
            · replace H := zif_t c19 H
              obtain ⟨p12, hp12, H⟩ := zbs H
              cases H
              exact F
            replace H := zif_f c19 H
            by_cases c20 : x3 = 3
            · replace H := zif_t c20 H
              obtain ⟨p13, hp13, H⟩ := zbs H
              replace F := zFr_w F (f_qLw_yearToAsk hp13) (by decide)
              cases H
              exact F
            replace H := zif_f c20 H
            by_cases c14 : (x3 - 10) < 0
            · replace H := zif_t c14 H
              cases H
              exact F
            · replace H := zif_f c14 H
              by_cases c15 : (gI p10 196 0) ≤ (x3 - 10)
              · replace H := zif_t c15 H
                cases H
                exact F
              · replace H := zif_f c15 H
                obtain ⟨j16, hj16, H⟩ := zbs H
                cases H
                exact F
          · obtain ⟨p10, hp10, H⟩ := zbs H
            replace F := zFr_w F (f_qLw_find (by decide) hp10) (by decide)
            by_cases c17 : x3 = 0
            · replace H := zif_t c17 H
              cases H
              exact F
            replace H := zif_f c17 H
            by_cases c18 : x3 = 1
            · replace H := zif_t c18 H
              obtain ⟨p11, hp11, H⟩ := zbs H
              cases H
              exact F
            replace H := zif_f c18 H
            by_cases c19 : x3 = 2
            · replace H := zif_t c19 H
              obtain ⟨p12, hp12, H⟩ := zbs H
              cases H
              exact F
            replace H := zif_f c19 H
            by_cases c20 : x3 = 3
            · replace H := zif_t c20 H
              obtain ⟨p13, hp13, H⟩ := zbs H
              replace F := zFr_w F (f_qLw_yearToAsk hp13) (by decide)
              cases H
              exact F
            replace H := zif_f c20 H
            by_cases c14 : (x3 - 10) < 0
            · replace H := zif_t c14 H
              cases H
              exact F
            · replace H := zif_f c14 H
              by_cases c15 : (gI p10 196 0) ≤ (x3 - 10)
              · replace H := zif_t c15 H
                cases H
                exact F
              · replace H := zif_f c15 H
                obtain ⟨j16, hj16, H⟩ := zbs H
                cases H
                exact F
        · obtain ⟨c9, H⟩ := zifn H
          rcases c9 with rfl | rfl
          · obtain ⟨p10, hp10, H⟩ := zbs H
            replace F := zFr_w F (f_qLw_find (by decide) hp10) (by decide)
            by_cases c17 : x3 = 0
            · replace H := zif_t c17 H
              cases H
              exact F
            replace H := zif_f c17 H
            by_cases c18 : x3 = 1
            · replace H := zif_t c18 H
              obtain ⟨p11, hp11, H⟩ := zbs H
              cases H
              exact F
            replace H := zif_f c18 H
            by_cases c19 : x3 = 2
            · replace H := zif_t c19 H
              obtain ⟨p12, hp12, H⟩ := zbs H
              cases H
              exact F
            replace H := zif_f c19 H
            by_cases c20 : x3 = 3
            · replace H := zif_t c20 H
              obtain ⟨p13, hp13, H⟩ := zbs H
              replace F := zFr_w F (f_qLw_yearToAsk hp13) (by decide)
              cases H
              exact F
            replace H := zif_f c20 H
            by_cases c14 : (x3 - 10) < 0
            · replace H := zif_t c14 H
              cases H
              exact F
            · replace H := zif_f c14 H
              by_cases c15 : (gI p10 196 0) ≤ (x3 - 10)
              · replace H := zif_t c15 H
                cases H
                exact F
              · replace H := zif_f c15 H
                obtain ⟨j16, hj16, H⟩ := zbs H
                cases H
                exact F
          · obtain ⟨p10, hp10, H⟩ := zbs H
            replace F := zFr_w F (f_qLw_find (by decide) hp10) (by decide)
            by_cases c17 : x3 = 0
            · replace H := zif_t c17 H
              cases H
              exact F
            replace H := zif_f c17 H
            by_cases c18 : x3 = 1
            · replace H := zif_t c18 H
              obtain ⟨p11, hp11, H⟩ := zbs H
              cases H
              exact F
            replace H := zif_f c18 H
            by_cases c19 : x3 = 2
            · replace H := zif_t c19 H
              obtain ⟨p12, hp12, H⟩ := zbs H
              cases H
              exact F
            replace H := zif_f c19 H
            by_cases c20 : x3 = 3
            · replace H := zif_t c20 H
              obtain ⟨p13, hp13, H⟩ := zbs H
              replace F := zFr_w F (f_qLw_yearToAsk hp13) (by decide)
              cases H
              exact F
            replace H := zif_f c20 H
            by_cases c14 : (x3 - 10) < 0
            · replace H := zif_t c14 H
              cases H
              exact F
            · replace H := zif_f c14 H
              by_cases c15 : (gI p10 196 0) ≤ (x3 - 10)
              · replace H := zif_t c15 H
                cases H
                exact F
              · replace H := zif_f c15 H
                obtain ⟨j16, hj16, H⟩ := zbs H
                cases H
                exact F
      · replace H := zif_f c7 H
        cases H
        exact F
theorem f_qC_drawn {x1 : Int32} {x2 : Int32} {x3 : Int32} {x4 : Int32} {h : zK} {p : Int32 × zK} (H : qC_drawn x1 x2 x3 x4 h = some p) : zFr [166, 167, 176, 177, 178, 179, 198, 199, 208, 209, 210, 211] h p.2 := by
  unfold qC_drawn at H
  obtain ⟨h0, F, e0⟩ : ∃ h0, zFr [166, 167, 176, 177, 178, 179, 198, 199, 208, 209, 210, 211] h0 h ∧ h0 = h := ⟨h, zFr_r, rfl⟩
  rw [← e0]
  clear e0
  obtain ⟨p1, hp1, H⟩ := zbs H
  rcases p1 with _ | v2
  · dsimp only at H
    cases H
    exact F
  · dsimp only at H
    by_cases c3 : x3 < 0
    · replace H := zif_t c3 H
      cases H
      exact F
    · replace H := zif_f c3 H
      by_cases c4 : x3 ≤ 60
      · replace H := zif_t c4 H
        obtain ⟨c5, H⟩ := zifn H
        rcases c5 with rfl | rfl
        · obtain ⟨p6, hp6, H⟩ := zbs H
          replace F := zFr_w F (f_qRu_begin (by decide) hp6) (by decide)
          obtain ⟨p7, hp7, H⟩ := zbs H
          replace F := zFr_w F (f_qRu_draw (by decide) hp7) (by decide)
          obtain ⟨p8, hp8, H⟩ := zbs H
          cases H
          exact F
        · obtain ⟨p6, hp6, H⟩ := zbs H
          replace F := zFr_w F (f_qRu_begin (by decide) hp6) (by decide)
          obtain ⟨p7, hp7, H⟩ := zbs H
          replace F := zFr_w F (f_qRu_draw (by decide) hp7) (by decide)
          obtain ⟨p8, hp8, H⟩ := zbs H
          cases H
          exact F
      · replace H := zif_f c4 H
        cases H
        exact F
theorem f_qC_calmYears {oc : Nat} {x2 : Int32} {h : zK} {p : Int32 × zK} (ho : oc = 7 ∨ oc = 22) (H : qC_calmYears oc x2 h = some p) : zFr [166, 167, 176, 177, 178, 179, 198, 199, 208, 209, 210, 211] h p.2 := by
  unfold qC_calmYears at H
  obtain ⟨h0, F, e0⟩ : ∃ h0, zFr [166, 167, 176, 177, 178, 179, 198, 199, 208, 209, 210, 211] h0 h ∧ h0 = h := ⟨h, zFr_r, rfl⟩
  rw [← e0]
  clear e0
  rcases ho with rfl | rfl
  · obtain ⟨p1, hp1, H⟩ := zbs H
    replace F := zFr_w F (f_qRu_begin (by decide) hp1) (by decide)
    obtain ⟨p2, hp2, H⟩ := zbs H
    replace F := zFr_w F (f_qRu_passYears (by decide) hp2) (by decide)
    obtain ⟨t9, ht9, H⟩ := zbs H
    by_cases c11 : x2 = 0
    · replace H := zif_t c11 H
      cases H
      exact F
    · replace H := zif_f c11 H
      cases H
      exact F
  · obtain ⟨p1, hp1, H⟩ := zbs H
    replace F := zFr_w F (f_qRu_begin (by decide) hp1) (by decide)
    obtain ⟨p2, hp2, H⟩ := zbs H
    replace F := zFr_w F (f_qRu_passYears (by decide) hp2) (by decide)
    obtain ⟨t9, ht9, H⟩ := zbs H
    by_cases c11 : x2 = 0
    · replace H := zif_t c11 H
      cases H
      exact F
    · replace H := zif_f c11 H
      cases H
      exact F
theorem f_qC_wit {x1 : Int32} {x2 : Int32} {h : zK} {p : Int32 × zK} (H : qC_wit x1 x2 h = some p) : zFr [166, 167, 176, 177, 178, 179, 180, 181, 182, 183, 186, 187, 188, 189, 198, 199, 208, 209, 210, 211] h p.2 := by
  unfold qC_wit at H
  obtain ⟨h0, F, e0⟩ : ∃ h0, zFr [166, 167, 176, 177, 178, 179, 180, 181, 182, 183, 186, 187, 188, 189, 198, 199, 208, 209, 210, 211] h0 h ∧ h0 = h := ⟨h, zFr_r, rfl⟩
  rw [← e0]
  clear e0
  obtain ⟨p1, hp1, H⟩ := zbs H
  rcases p1 with _ | v2
  · dsimp only at H
    cases H
    exact F
  · dsimp only at H
    obtain ⟨c3, H⟩ := zifn H
    rcases c3 with rfl | rfl
    · obtain ⟨p4, hp4, H⟩ := zbs H
      replace F := zFr_w F (f_qTr_lookAt (by decide) hp4) (by decide)
      by_cases c24 : x2 = 0
      · replace H := zif_t c24 H
        obtain ⟨p5, hp5, H⟩ := zbs H
        cases H
        exact F
      replace H := zif_f c24 H
      by_cases c25 : x2 = 1
      · replace H := zif_t c25 H
        obtain ⟨p6, hp6, H⟩ := zbs H
        cases H
        exact F
      replace H := zif_f c25 H
      by_cases c26 : x2 = 2
      · replace H := zif_t c26 H
        obtain ⟨p7, hp7, H⟩ := zbs H
        cases H
        exact F
      replace H := zif_f c26 H
      by_cases c27 : x2 = 3
      · replace H := zif_t c27 H
        obtain ⟨p8, hp8, H⟩ := zbs H
        cases H
        exact F
      replace H := zif_f c27 H
      by_cases c28 : x2 = 4
      · replace H := zif_t c28 H
        obtain ⟨p9, hp9, H⟩ := zbs H
        cases H
        exact F
      replace H := zif_f c28 H
      by_cases c29 : x2 = 5
      · replace H := zif_t c29 H
        obtain ⟨p10, hp10, H⟩ := zbs H
        cases H
        exact F
      replace H := zif_f c29 H
      by_cases c30 : x2 = 6
      · replace H := zif_t c30 H
        obtain ⟨p11, hp11, H⟩ := zbs H
        cases H
        exact F
      replace H := zif_f c30 H
      by_cases c31 : x2 = 7
      · replace H := zif_t c31 H
        obtain ⟨p12, hp12, H⟩ := zbs H
        cases H
        exact F
      replace H := zif_f c31 H
      by_cases c32 : x2 = 8
      · replace H := zif_t c32 H
        obtain ⟨p13, hp13, H⟩ := zbs H
        cases H
        exact F
      replace H := zif_f c32 H
      by_cases c33 : x2 = 9
      · replace H := zif_t c33 H
        obtain ⟨p14, hp14, H⟩ := zbs H
        cases H
        exact F
      replace H := zif_f c33 H
      by_cases c34 : x2 = 10
      · replace H := zif_t c34 H
        obtain ⟨p15, hp15, H⟩ := zbs H
        cases H
        exact F
      replace H := zif_f c34 H
      by_cases c35 : x2 = 11
      · replace H := zif_t c35 H
        obtain ⟨p16, hp16, H⟩ := zbs H
        cases H
        exact F
      replace H := zif_f c35 H
      by_cases c36 : x2 = 12
      · replace H := zif_t c36 H
        obtain ⟨p17, hp17, H⟩ := zbs H
        cases H
        exact F
      replace H := zif_f c36 H
      by_cases c37 : x2 = 13
      · replace H := zif_t c37 H
        obtain ⟨p18, hp18, H⟩ := zbs H
        cases H
        exact F
      replace H := zif_f c37 H
      by_cases c38 : x2 = 14
      · replace H := zif_t c38 H
        obtain ⟨p19, hp19, H⟩ := zbs H
        replace F := zFr_w F (f_qC_calmYears (by decide) hp19) (by decide)
        cases H
        exact F
      replace H := zif_f c38 H
      by_cases c39 : x2 = 15
      · replace H := zif_t c39 H
        obtain ⟨p20, hp20, H⟩ := zbs H
        replace F := zFr_w F (f_qC_calmYears (by decide) hp20) (by decide)
        cases H
        exact F
      replace H := zif_f c39 H
      by_cases c40 : x2 = 16
      · replace H := zif_t c40 H
        obtain ⟨p21, hp21, H⟩ := zbs H
        replace F := zFr_w F (f_qTr_pair (by decide) hp21) (by decide)
        cases H
        exact F
      replace H := zif_f c40 H
      by_cases c41 : x2 = 17
      · replace H := zif_t c41 H
        obtain ⟨p22, hp22, H⟩ := zbs H
        cases H
        exact F
      replace H := zif_f c41 H
      by_cases c42 : x2 = 18
      · replace H := zif_t c42 H
        obtain ⟨p23, hp23, H⟩ := zbs H
        cases H
        exact F
      replace H := zif_f c42 H
      cases H
      exact F
    · obtain ⟨p4, hp4, H⟩ := zbs H
      replace F := zFr_w F (f_qTr_lookAt (by decide) hp4) (by decide)
      by_cases c24 : x2 = 0
      · replace H := zif_t c24 H
        obtain ⟨p5, hp5, H⟩ := zbs H
        cases H
        exact F
      replace H := zif_f c24 H
      by_cases c25 : x2 = 1
      · replace H := zif_t c25 H
        obtain ⟨p6, hp6, H⟩ := zbs H
        cases H
        exact F
      replace H := zif_f c25 H
      by_cases c26 : x2 = 2
      · replace H := zif_t c26 H
        obtain ⟨p7, hp7, H⟩ := zbs H
        cases H
        exact F
      replace H := zif_f c26 H
      by_cases c27 : x2 = 3
      · replace H := zif_t c27 H
        obtain ⟨p8, hp8, H⟩ := zbs H
        cases H
        exact F
      replace H := zif_f c27 H
      by_cases c28 : x2 = 4
      · replace H := zif_t c28 H
        obtain ⟨p9, hp9, H⟩ := zbs H
        cases H
        exact F
      replace H := zif_f c28 H
      by_cases c29 : x2 = 5
      · replace H := zif_t c29 H
        obtain ⟨p10, hp10, H⟩ := zbs H
        cases H
        exact F
      replace H := zif_f c29 H
      by_cases c30 : x2 = 6
      · replace H := zif_t c30 H
        obtain ⟨p11, hp11, H⟩ := zbs H
        cases H
        exact F
      replace H := zif_f c30 H
      by_cases c31 : x2 = 7
      · replace H := zif_t c31 H
        obtain ⟨p12, hp12, H⟩ := zbs H
        cases H
        exact F
      replace H := zif_f c31 H
      by_cases c32 : x2 = 8
      · replace H := zif_t c32 H
        obtain ⟨p13, hp13, H⟩ := zbs H
        cases H
        exact F
      replace H := zif_f c32 H
      by_cases c33 : x2 = 9
      · replace H := zif_t c33 H
        obtain ⟨p14, hp14, H⟩ := zbs H
        cases H
        exact F
      replace H := zif_f c33 H
      by_cases c34 : x2 = 10
      · replace H := zif_t c34 H
        obtain ⟨p15, hp15, H⟩ := zbs H
        cases H
        exact F
      replace H := zif_f c34 H
      by_cases c35 : x2 = 11
      · replace H := zif_t c35 H
        obtain ⟨p16, hp16, H⟩ := zbs H
        cases H
        exact F
      replace H := zif_f c35 H
      by_cases c36 : x2 = 12
      · replace H := zif_t c36 H
        obtain ⟨p17, hp17, H⟩ := zbs H
        cases H
        exact F
      replace H := zif_f c36 H
      by_cases c37 : x2 = 13
      · replace H := zif_t c37 H
        obtain ⟨p18, hp18, H⟩ := zbs H
        cases H
        exact F
      replace H := zif_f c37 H
      by_cases c38 : x2 = 14
      · replace H := zif_t c38 H
        obtain ⟨p19, hp19, H⟩ := zbs H
        replace F := zFr_w F (f_qC_calmYears (by decide) hp19) (by decide)
        cases H
        exact F
      replace H := zif_f c38 H
      by_cases c39 : x2 = 15
      · replace H := zif_t c39 H
        obtain ⟨p20, hp20, H⟩ := zbs H
        replace F := zFr_w F (f_qC_calmYears (by decide) hp20) (by decide)
        cases H
        exact F
      replace H := zif_f c39 H
      by_cases c40 : x2 = 16
      · replace H := zif_t c40 H
        obtain ⟨p21, hp21, H⟩ := zbs H
        replace F := zFr_w F (f_qTr_pair (by decide) hp21) (by decide)
        cases H
        exact F
      replace H := zif_f c40 H
      by_cases c41 : x2 = 17
      · replace H := zif_t c41 H
        obtain ⟨p22, hp22, H⟩ := zbs H
        cases H
        exact F
      replace H := zif_f c41 H
      by_cases c42 : x2 = 18
      · replace H := zif_t c42 H
        obtain ⟨p23, hp23, H⟩ := zbs H
        cases H
        exact F
      replace H := zif_f c42 H
      cases H
      exact F
theorem f_qC_next {x1 : Int32} {x2 : Int32} {h : zK} {p : Int32 × zK} (H : qC_next x1 x2 h = some p) : zFr [166, 167, 176, 177, 178, 179, 198, 199, 208, 209, 210, 211] h p.2 := by
  unfold qC_next at H
  obtain ⟨h0, F, e0⟩ : ∃ h0, zFr [166, 167, 176, 177, 178, 179, 198, 199, 208, 209, 210, 211] h0 h ∧ h0 = h := ⟨h, zFr_r, rfl⟩
  rw [← e0]
  clear e0
  obtain ⟨p1, hp1, H⟩ := zbs H
  rcases p1 with _ | v2
  · dsimp only at H
    cases H
    exact F
  · dsimp only at H
    by_cases c3 : x2 < 1
    · replace H := zif_t c3 H
      cases H
      exact F
    · replace H := zif_f c3 H
      by_cases c4 : x2 ≤ 50
      · replace H := zif_t c4 H
        obtain ⟨c5, H⟩ := zifn H
        rcases c5 with rfl | rfl
        · obtain ⟨p6, hp6, H⟩ := zbs H
          replace F := zFr_w F (f_qRu_begin (by decide) hp6) (by decide)
          obtain ⟨p7, hp7, H⟩ := zbs H
          replace F := zFr_w F (f_qRu_passYears (by decide) hp7) (by decide)
          obtain ⟨j8, hj8, H⟩ := zbs H
          cases H
          exact F
        · obtain ⟨p6, hp6, H⟩ := zbs H
          replace F := zFr_w F (f_qRu_begin (by decide) hp6) (by decide)
          obtain ⟨p7, hp7, H⟩ := zbs H
          replace F := zFr_w F (f_qRu_passYears (by decide) hp7) (by decide)
          obtain ⟨j8, hj8, H⟩ := zbs H
          cases H
          exact F
      · replace H := zif_f c4 H
        cases H
        exact F
theorem f_qC_after {x1 : Int32} {x2 : Int32} {x3 : Int32} {h : zK} {p : Int32 × zK} (H : qC_after x1 x2 x3 h = some p) : zFr [166, 167, 176, 177, 178, 179, 198, 199, 208, 209, 210, 211] h p.2 := by
  unfold qC_after at H
  obtain ⟨h0, F, e0⟩ : ∃ h0, zFr [166, 167, 176, 177, 178, 179, 198, 199, 208, 209, 210, 211] h0 h ∧ h0 = h := ⟨h, zFr_r, rfl⟩
  rw [← e0]
  clear e0
  obtain ⟨p1, hp1, H⟩ := zbs H
  rcases p1 with _ | v2
  · dsimp only at H
    obtain ⟨p3, hp3, H⟩ := zbs H
    rcases p3 with _ | v4
    · dsimp only at H
      cases H
      exact F
    · dsimp only at H
      cases H
      exact F
  · dsimp only at H
    obtain ⟨p5, hp5, H⟩ := zbs H
    rcases p5 with _ | v6
    · dsimp only at H
      cases H
      exact F
    · dsimp only at H
      obtain ⟨c7, H⟩ := zifn H
      rcases c7 with rfl | rfl
      · obtain ⟨p8, hp8, H⟩ := zbs H
        replace F := zFr_w F (f_qRu_begin (by decide) hp8) (by decide)
        obtain ⟨c9, H⟩ := zifn H
        rcases c9 with rfl | rfl
        · obtain ⟨p10, hp10, H⟩ := zbs H
          replace F := zFr_w F (f_qRu_follow (by decide) hp10) (by decide)
          by_cases c13 : x3 = 0
          · replace H := zif_t c13 H
            obtain ⟨p11, hp11, H⟩ := zbs H
            cases H
            exact F
          replace H := zif_f c13 H
          by_cases c14 : x3 = 1
          · replace H := zif_t c14 H
            obtain ⟨p12, hp12, H⟩ := zbs H
            cases H
            exact F
          replace H := zif_f c14 H
          by_cases c15 : x3 = 2
          · replace H := zif_t c15 H
            cases H
            exact F
          replace H := zif_f c15 H
          by_cases c16 : x3 = 3
          · replace H := zif_t c16 H
            cases H
            exact F
          replace H := zif_f c16 H
          by_cases c17 : x3 = 4
          · replace H := zif_t c17 H
            cases H
            exact F
          replace H := zif_f c17 H
          by_cases c18 : x3 = 5
          · replace H := zif_t c18 H
            cases H
            exact F
          replace H := zif_f c18 H
          cases H
          exact F
        · obtain ⟨p10, hp10, H⟩ := zbs H
          replace F := zFr_w F (f_qRu_follow (by decide) hp10) (by decide)
          by_cases c13 : x3 = 0
          · replace H := zif_t c13 H
            obtain ⟨p11, hp11, H⟩ := zbs H
            cases H
            exact F
          replace H := zif_f c13 H
          by_cases c14 : x3 = 1
          · replace H := zif_t c14 H
            obtain ⟨p12, hp12, H⟩ := zbs H
            cases H
            exact F
          replace H := zif_f c14 H
          by_cases c15 : x3 = 2
          · replace H := zif_t c15 H
            cases H
            exact F
          replace H := zif_f c15 H
          by_cases c16 : x3 = 3
          · replace H := zif_t c16 H
            cases H
            exact F
          replace H := zif_f c16 H
          by_cases c17 : x3 = 4
          · replace H := zif_t c17 H
            cases H
            exact F
          replace H := zif_f c17 H
          by_cases c18 : x3 = 5
          · replace H := zif_t c18 H
            cases H
            exact F
          replace H := zif_f c18 H
          cases H
          exact F
      · obtain ⟨p8, hp8, H⟩ := zbs H
        replace F := zFr_w F (f_qRu_begin (by decide) hp8) (by decide)
        obtain ⟨c9, H⟩ := zifn H
        rcases c9 with rfl | rfl
        · obtain ⟨p10, hp10, H⟩ := zbs H
          replace F := zFr_w F (f_qRu_follow (by decide) hp10) (by decide)
          by_cases c13 : x3 = 0
          · replace H := zif_t c13 H
            obtain ⟨p11, hp11, H⟩ := zbs H
            cases H
            exact F
          replace H := zif_f c13 H
          by_cases c14 : x3 = 1
          · replace H := zif_t c14 H
            obtain ⟨p12, hp12, H⟩ := zbs H
            cases H
            exact F
          replace H := zif_f c14 H
          by_cases c15 : x3 = 2
          · replace H := zif_t c15 H
            cases H
            exact F
          replace H := zif_f c15 H
          by_cases c16 : x3 = 3
          · replace H := zif_t c16 H
            cases H
            exact F
          replace H := zif_f c16 H
          by_cases c17 : x3 = 4
          · replace H := zif_t c17 H
            cases H
            exact F
          replace H := zif_f c17 H
          by_cases c18 : x3 = 5
          · replace H := zif_t c18 H
            cases H
            exact F
          replace H := zif_f c18 H
          cases H
          exact F
        · obtain ⟨p10, hp10, H⟩ := zbs H
          replace F := zFr_w F (f_qRu_follow (by decide) hp10) (by decide)
          by_cases c13 : x3 = 0
          · replace H := zif_t c13 H
            obtain ⟨p11, hp11, H⟩ := zbs H
            cases H
            exact F
          replace H := zif_f c13 H
          by_cases c14 : x3 = 1
          · replace H := zif_t c14 H
            obtain ⟨p12, hp12, H⟩ := zbs H
            cases H
            exact F
          replace H := zif_f c14 H
          by_cases c15 : x3 = 2
          · replace H := zif_t c15 H
            cases H
            exact F
          replace H := zif_f c15 H
          by_cases c16 : x3 = 3
          · replace H := zif_t c16 H
            cases H
            exact F
          replace H := zif_f c16 H
          by_cases c17 : x3 = 4
          · replace H := zif_t c17 H
            cases H
            exact F
          replace H := zif_f c17 H
          by_cases c18 : x3 = 5
          · replace H := zif_t c18 H
            cases H
            exact F
          replace H := zif_f c18 H
          cases H
          exact F
theorem f_qC_odds {x1 : Int32} {x2 : Int32} {x3 : Int32} {x4 : Int32} {h : zK} {p : Int32 × zK} (H : qC_odds x1 x2 x3 x4 h = some p) : zFr [166, 167, 176, 177, 178, 179, 196, 197, 198, 199, 208, 209, 210, 211, 212, 213] h p.2 := by
  unfold qC_odds at H
  obtain ⟨h0, F, e0⟩ : ∃ h0, zFr [166, 167, 176, 177, 178, 179, 196, 197, 198, 199, 208, 209, 210, 211, 212, 213] h0 h ∧ h0 = h := ⟨h, zFr_r, rfl⟩
  rw [← e0]
  clear e0
  obtain ⟨p1, hp1, H⟩ := zbs H
  rcases p1 with _ | v2
  · dsimp only at H
    obtain ⟨p3, hp3, H⟩ := zbs H
    rcases p3 with _ | v4
    · dsimp only at H
      cases H
      exact F
    · dsimp only at H
      cases H
      exact F
  · dsimp only at H
    obtain ⟨p5, hp5, H⟩ := zbs H
    rcases p5 with _ | v6
    · dsimp only at H
      cases H
      exact F
    · dsimp only at H
      by_cases c7 : x3 < 0
      · replace H := zif_t c7 H
        cases H
        exact F
      · replace H := zif_f c7 H
        by_cases c8 : x3 ≤ 9
        · replace H := zif_t c8 H
          obtain ⟨c9, H⟩ := zifn H
          rcases c9 with rfl | rfl
          · obtain ⟨c10, H⟩ := zifn H
            rcases c10 with rfl | rfl
            · obtain ⟨p11, hp11, H⟩ := zbs H
              replace F := zFr_w F (f_qLw_find (by decide) hp11) (by decide)
              obtain ⟨p12, hp12, H⟩ := zbs H
              obtain ⟨p13, hp13, H⟩ := zbs H
              cases H
              exact F
            · obtain ⟨p11, hp11, H⟩ := zbs H
              replace F := zFr_w F (f_qLw_find (by decide) hp11) (by decide)
              obtain ⟨p12, hp12, H⟩ := zbs H
              obtain ⟨p13, hp13, H⟩ := zbs H
              cases H
              exact F
          · obtain ⟨c10, H⟩ := zifn H
            rcases c10 with rfl | rfl
            · obtain ⟨p11, hp11, H⟩ := zbs H
              replace F := zFr_w F (f_qLw_find (by decide) hp11) (by decide)
              obtain ⟨p12, hp12, H⟩ := zbs H
              obtain ⟨p13, hp13, H⟩ := zbs H
              cases H
              exact F
            · obtain ⟨p11, hp11, H⟩ := zbs H
              replace F := zFr_w F (f_qLw_find (by decide) hp11) (by decide)
              obtain ⟨p12, hp12, H⟩ := zbs H
              obtain ⟨p13, hp13, H⟩ := zbs H
              cases H
              exact F
        · replace H := zif_f c8 H
          cases H
          exact F
theorem f_qC_shock {x1 : Int32} {x2 : Int32} {x3 : Int32} {h : zK} {p : Int32 × zK} (H : qC_shock x1 x2 x3 h = some p) : zFr [166, 167, 176, 177, 178, 179, 196, 197, 198, 199, 208, 209, 210, 211, 212, 213] h p.2 := by
  unfold qC_shock at H
  obtain ⟨h0, F, e0⟩ : ∃ h0, zFr [166, 167, 176, 177, 178, 179, 196, 197, 198, 199, 208, 209, 210, 211, 212, 213] h0 h ∧ h0 = h := ⟨h, zFr_r, rfl⟩
  rw [← e0]
  clear e0
  obtain ⟨p1, hp1, H⟩ := zbs H
  rcases p1 with _ | v2
  · dsimp only at H
    obtain ⟨p3, hp3, H⟩ := zbs H
    rcases p3 with _ | v4
    · dsimp only at H
      cases H
      exact F
    · dsimp only at H
      cases H
      exact F
  · dsimp only at H
    obtain ⟨p5, hp5, H⟩ := zbs H
    rcases p5 with _ | v6
    · dsimp only at H
      cases H
      exact F
    · dsimp only at H
      obtain ⟨c7, H⟩ := zifn H
      rcases c7 with rfl | rfl
      · obtain ⟨c8, H⟩ := zifn H
        rcases c8 with rfl | rfl
        · obtain ⟨p9, hp9, H⟩ := zbs H
          replace F := zFr_w F (f_qLw_find (by decide) hp9) (by decide)
          by_cases c10 : x3 = 0
          · replace H := zif_t c10 H
            obtain ⟨p11, hp11, H⟩ := zbs H
            cases H
            exact F
          · replace H := zif_f c10 H
            obtain ⟨p12, hp12, H⟩ := zbs H
            cases H
            exact F
        · obtain ⟨p9, hp9, H⟩ := zbs H
          replace F := zFr_w F (f_qLw_find (by decide) hp9) (by decide)
          by_cases c10 : x3 = 0
          · replace H := zif_t c10 H
            obtain ⟨p11, hp11, H⟩ := zbs H
            cases H
            exact F
          · replace H := zif_f c10 H
            obtain ⟨p12, hp12, H⟩ := zbs H
            cases H
            exact F
      · obtain ⟨c8, H⟩ := zifn H
        rcases c8 with rfl | rfl
        · obtain ⟨p9, hp9, H⟩ := zbs H
          replace F := zFr_w F (f_qLw_find (by decide) hp9) (by decide)
          by_cases c10 : x3 = 0
          · replace H := zif_t c10 H
            obtain ⟨p11, hp11, H⟩ := zbs H
            cases H
            exact F
          · replace H := zif_f c10 H
            obtain ⟨p12, hp12, H⟩ := zbs H
            cases H
            exact F
        · obtain ⟨p9, hp9, H⟩ := zbs H
          replace F := zFr_w F (f_qLw_find (by decide) hp9) (by decide)
          by_cases c10 : x3 = 0
          · replace H := zif_t c10 H
            obtain ⟨p11, hp11, H⟩ := zbs H
            cases H
            exact F
          · replace H := zif_f c10 H
            obtain ⟨p12, hp12, H⟩ := zbs H
            cases H
            exact F
set_option maxRecDepth 20000 in
theorem f_qC_image {x1 : Int32} {h : zK} {p : Int32 × zK} (H : qC_image x1 h = some p) : zFr [1, 2, 3, 7, 8, 9, 10, 11, 12, 13, 14, 15, 16, 17, 18, 19, 20, 21, 22, 23, 24, 25, 26, 27, 28, 29, 30, 31, 32, 33, 34, 35, 36, 38, 39, 40, 44, 45, 46, 47, 48, 49, 50, 51, 52, 53, 54, 55, 56, 57, 58, 59, 60, 61, 62, 63, 64, 65, 66, 67, 68, 69, 70, 71, 72, 73, 74, 75, 76, 80, 81, 82, 83, 84, 85, 86, 87, 88, 89, 90, 91, 92, 93, 94, 95, 96, 97, 98, 99, 100, 101, 102, 103, 104, 105, 106, 107, 108, 109, 110, 111, 112, 116, 117, 118, 119, 120, 121, 122, 123, 124, 125, 126, 127, 128, 129, 130, 131, 132, 133, 134, 135, 136, 137, 138, 139, 140, 141, 142, 143, 144, 145, 146] h p.2 := by
  unfold qC_image at H
  obtain ⟨h0, F, e0⟩ : ∃ h0, zFr [1, 2, 3, 7, 8, 9, 10, 11, 12, 13, 14, 15, 16, 17, 18, 19, 20, 21, 22, 23, 24, 25, 26, 27, 28, 29, 30, 31, 32, 33, 34, 35, 36, 38, 39, 40, 44, 45, 46, 47, 48, 49, 50, 51, 52, 53, 54, 55, 56, 57, 58, 59, 60, 61, 62, 63, 64, 65, 66, 67, 68, 69, 70, 71, 72, 73, 74, 75, 76, 80, 81, 82, 83, 84, 85, 86, 87, 88, 89, 90, 91, 92, 93, 94, 95, 96, 97, 98, 99, 100, 101, 102, 103, 104, 105, 106, 107, 108, 109, 110, 111, 112, 116, 117, 118, 119, 120, 121, 122, 123, 124, 125, 126, 127, 128, 129, 130, 131, 132, 133, 134, 135, 136, 137, 138, 139, 140, 141, 142, 143, 144, 145, 146] h0 h ∧ h0 = h := ⟨h, zFr_r, rfl⟩
  rw [← e0]
  clear e0
  by_cases c1 : x1 < 0
  · replace H := zif_t c1 H
    cases H
    exact F
  · replace H := zif_f c1 H
    by_cases c2 : x1 < 3
    · replace H := zif_t c2 H
      obtain ⟨j3, hj3, H⟩ := zbs H
      obtain ⟨a4, ea4, H⟩ := zlets H
      obtain ⟨c5, H⟩ := zifn H
      rcases c5 with rfl | rfl | rfl
      · obtain ⟨p6, hp6, H⟩ := zbs H
        replace F := zFr_w F (f_qT_become (by decide) hp6) (by decide)
        obtain ⟨h7, eh7, H⟩ := zlets H
        replace F := zFr_s F eh7 (by decide)
        cases H
        exact F
      · obtain ⟨p6, hp6, H⟩ := zbs H
        replace F := zFr_w F (f_qT_become (by decide) hp6) (by decide)
        obtain ⟨h7, eh7, H⟩ := zlets H
        replace F := zFr_s F eh7 (by decide)
        cases H
        exact F
      · obtain ⟨p6, hp6, H⟩ := zbs H
        replace F := zFr_w F (f_qT_become (by decide) hp6) (by decide)
        obtain ⟨h7, eh7, H⟩ := zlets H
        replace F := zFr_s F eh7 (by decide)
        cases H
        exact F
    · replace H := zif_f c2 H
      cases H
      exact F
set_option maxRecDepth 20000 in
theorem f_qC_again {x1 : Int32} {h : zK} {p : Int32 × zK} (H : qC_again x1 h = some p) : zFr [1, 2, 3, 7, 8, 9, 10, 11, 12, 13, 14, 15, 16, 17, 18, 19, 20, 21, 22, 23, 24, 25, 26, 27, 28, 29, 30, 31, 32, 33, 34, 35, 36, 38, 39, 40, 44, 45, 46, 47, 48, 49, 50, 51, 52, 53, 54, 55, 56, 57, 58, 59, 60, 61, 62, 63, 64, 65, 66, 67, 68, 69, 70, 71, 72, 73, 74, 75, 76, 80, 81, 82, 83, 84, 85, 86, 87, 88, 89, 90, 91, 92, 93, 94, 95, 96, 97, 98, 99, 100, 101, 102, 103, 104, 105, 106, 107, 108, 109, 110, 111, 112, 116, 117, 118, 119, 120, 121, 122, 123, 124, 125, 126, 127, 128, 129, 130, 131, 132, 133, 134, 135, 136, 137, 138, 139, 140, 141, 142, 143, 144, 145, 184, 213] h p.2 := by
  unfold qC_again at H
  obtain ⟨h0, F, e0⟩ : ∃ h0, zFr [1, 2, 3, 7, 8, 9, 10, 11, 12, 13, 14, 15, 16, 17, 18, 19, 20, 21, 22, 23, 24, 25, 26, 27, 28, 29, 30, 31, 32, 33, 34, 35, 36, 38, 39, 40, 44, 45, 46, 47, 48, 49, 50, 51, 52, 53, 54, 55, 56, 57, 58, 59, 60, 61, 62, 63, 64, 65, 66, 67, 68, 69, 70, 71, 72, 73, 74, 75, 76, 80, 81, 82, 83, 84, 85, 86, 87, 88, 89, 90, 91, 92, 93, 94, 95, 96, 97, 98, 99, 100, 101, 102, 103, 104, 105, 106, 107, 108, 109, 110, 111, 112, 116, 117, 118, 119, 120, 121, 122, 123, 124, 125, 126, 127, 128, 129, 130, 131, 132, 133, 134, 135, 136, 137, 138, 139, 140, 141, 142, 143, 144, 145, 184, 213] h0 h ∧ h0 = h := ⟨h, zFr_r, rfl⟩
  rw [← e0]
  clear e0
  by_cases c1 : x1 < 0
  · replace H := zif_t c1 H
    cases H
    exact F
  · replace H := zif_f c1 H
    by_cases c2 : 3 ≤ x1
    · replace H := zif_t c2 H
      cases H
      exact F
    · replace H := zif_f c2 H
      obtain ⟨j3, hj3, H⟩ := zbs H
      by_cases c4 : ¬ (gI h 146 j3) = 0
      · replace H := zif_t c4 H
        obtain ⟨a5, ea5, H⟩ := zlets H
        obtain ⟨c6, H⟩ := zifn H
        rcases c6 with rfl | rfl | rfl
        · obtain ⟨p7, hp7, H⟩ := zbs H
          replace F := zFr_w F (f_qT_become (by decide) hp7) (by decide)
          obtain ⟨p8, hp8, H⟩ := zbs H
          replace F := zFr_w F (f_qC_forgetCellars hp8) (by decide)
          cases H
          exact F
        · obtain ⟨p7, hp7, H⟩ := zbs H
          replace F := zFr_w F (f_qT_become (by decide) hp7) (by decide)
          obtain ⟨p8, hp8, H⟩ := zbs H
          replace F := zFr_w F (f_qC_forgetCellars hp8) (by decide)
          cases H
          exact F
        · obtain ⟨p7, hp7, H⟩ := zbs H
          replace F := zFr_w F (f_qT_become (by decide) hp7) (by decide)
          obtain ⟨p8, hp8, H⟩ := zbs H
          replace F := zFr_w F (f_qC_forgetCellars hp8) (by decide)
          cases H
          exact F
      · replace H := zif_f c4 H
        cases H
        exact F
