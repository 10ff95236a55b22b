/-! ALL TOGETHER: what holds between the calls, and the thirty operations -/
theorem yCan_eq2 {h h' : zK} {k : Nat} (hk : k < 2) (e : ∀ b j, (7 ≤ b ∧ b ≤ 14) ∨ (22 ≤ b ∧ b ≤ 29) → gI h' b j = gI h b j) : yCan h' (7 + 15 * k) = yCan h (7 + 15 * k) := by
  have q : ∀ i j, i ≤ 7 → gI h' (7 + 15 * k + i) j = gI h (7 + 15 * k + i) j := fun i j hi => e _ _ (by omega)
  unfold yCan
  refine Prod.ext ?_ (Prod.ext ?_ (Prod.ext ?_ ?_))
  · show (gI h' (7 + 15 * k + 0) 2).toNatClampNeg = (gI h (7 + 15 * k + 0) 2).toNatClampNeg
    rw [q 0 2 (by omega)]
  · show (gI h' (7 + 15 * k + 0) 0).toNatClampNeg = (gI h (7 + 15 * k + 0) 0).toNatClampNeg
    rw [q 0 0 (by omega)]
  · show (gI h' (7 + 15 * k + 0) 1).toNatClampNeg = (gI h (7 + 15 * k + 0) 1).toNatClampNeg
    rw [q 0 1 (by omega)]
  · funext i s
    show (if i < 7 then (gI h' (7 + 15 * k + 1 + i) s).toNatClampNeg else 0) = (if i < 7 then (gI h (7 + 15 * k + 1 + i) s).toNatClampNeg else 0)
    by_cases hi : i < 7
    · rw [if_pos hi, if_pos hi, show 7 + 15 * k + 1 + i = 7 + 15 * k + (1 + i) by omega, q (1 + i) s (by omega)]
    · rw [if_neg hi, if_neg hi]
theorem yCL_2 {h h' : zK} (e : ∀ b j, (7 ≤ b ∧ b ≤ 14) ∨ (22 ≤ b ∧ b ≤ 29) → gI h' b j = gI h b j) (e2 : ∀ b j, b = 184 ∨ b = 185 → gI h' b j = gI h b j) (C : yCL h) : yCL h' := fun k hk e7 => by
  rw [e2 184 8 (by omega)] at e7
  rw [yCan_eq2 hk e, e2 184 0 (by omega)]
  obtain ⟨b, r, b1, b2, b3, b4⟩ := C k hk e7
  exact ⟨b, r, b1, b2, b3, fun s hs => (e2 185 s (by omega)).trans (b4 s hs)⟩
theorem yCW_2 {h h' : zK} (e : ∀ b j, (7 ≤ b ∧ b ≤ 14) ∨ (22 ≤ b ∧ b ≤ 29) → gI h' b j = gI h b j) (e2 : ∀ j, gI h' 213 j = gI h 213 j) (e3 : ∀ j, gJ h' 212 j = gJ h 212 j) (C : yCW h) : yCW h' := fun k hk => by
  rw [yCan_eq2 hk e, e2 k]
  refine ⟨(C k hk).1, fun z L hL => ?_⟩
  rw [e3]
  exact (C k hk).2 z L hL
theorem yCL_0 {h : zK} (e : gI h 184 8 = -1) : yCL h := fun k hk e7 => by
  rw [e] at e7
  exact absurd e7.symm (nI_nm1 (by omega))
theorem yCW_0 {h : zK} (e0 : gI h 213 0 = 0) (e1 : gI h 213 1 = 0) : yCW h := fun k hk => by
  have e : gI h 213 k = 0 := by
    rcases (by omega : k = 0 ∨ k = 1) with rfl | rfl
    · exact e0
    · exact e1
  rw [e]
  exact ⟨Or.inl rfl, fun z => absurd z (by decide)⟩
/-- what holds between the calls -/
def yInv (h : zK) : Prop := InvB h ∧ yCL h ∧ yCW h
theorem yInv_2 {h h' : zK} (e : wEq2 h h') (I : yInv h) : yInv h' := by
  have g : ∀ b j, (7 ≤ b ∧ b ≤ 14) ∨ (22 ≤ b ∧ b ≤ 29) → gI h' b j = gI h b j := fun b j hb => wEq_g (wEq_2 e) (by unfold wKp; omega) j
  refine ⟨InvB_eq (wEq_2 e) I.1, yCL_2 g (fun b j hb => ?_) I.2.1, yCW_2 g (fun j => ?_) (fun j => ?_) I.2.2⟩
  · rcases hb with rfl | rfl
    · exact congrFun (e 184 (by decide)).1 j
    · exact congrFun (e 185 (by decide)).1 j
  · exact congrFun (e 213 (by decide)).1 j
  · exact congrFun (e 212 (by decide)).2 j
theorem yFr_g {W : List Nat} {h h' : zK} (F : zFr W h h') {a : Nat} (ha : a ∉ W) (j : Nat) : gI h' a j = gI h a j := congrFun (F.2.1 a ha) j
theorem yFr_J {W : List Nat} {h h' : zK} (F : zFr W h h') {a : Nat} (ha : a ∉ W) (j : Nat) : gJ h' a j = gJ h a j := congrFun (F.2.2 a ha) j
theorem zp_feed : zo_feed yInv := by
  intro a0 a1 a2 a3 a4 h I
  obtain ⟨w, h1, h2, e1, e2, e3⟩ := wo_feed I.1 a0 a1 a2 a3 a4
  have F1 := f_qC_feed e1
  have F2 := f_qM_feed e2
  have g : ∀ b j, (7 ≤ b ∧ b ≤ 14) ∨ (22 ≤ b ∧ b ≤ 29) ∨ (150 ≤ b ∧ b < 215) → gI h2 b j = gI h b j := fun b j hb => (yFr_g F2 (fun hh => by
    simp only [List.mem_cons, List.not_mem_nil, or_false] at hh
    omega) j).trans (yFr_g F1 (fun hh => by
    simp only [List.mem_cons, List.not_mem_nil, or_false] at hh
    omega) j)
  exact ⟨w, h1, h2, e1, e2, e3, yCL_2 (fun b j hb => g b j (by omega)) (fun b j hb => g b j (by omega)) I.2.1, yCW_2 (fun b j hb => g b j (by omega)) (fun j => g 213 j (by omega)) (fun j => (yFr_J F2 (a := 212) (by decide) j).trans (yFr_J F1 (a := 212) (by decide) j)) I.2.2⟩
theorem zp_end : zo_end yInv := by
  intro a0 h I
  obtain ⟨w, h1, h2, e1, e2, e3⟩ := wo_end I.1 a0
  have F1 := f_qC_end e1
  have F2 := f_qM_end e2
  have g : ∀ b j, (7 ≤ b ∧ b ≤ 14) ∨ (22 ≤ b ∧ b ≤ 29) ∨ (150 ≤ b ∧ b < 215) → gI h2 b j = gI h b j := fun b j hb => (yFr_g F2 (fun hh => by
    simp only [List.mem_cons, List.not_mem_nil, or_false] at hh
    omega) j).trans (yFr_g F1 (fun hh => by
    simp only [List.mem_cons, List.not_mem_nil, or_false] at hh
    omega) j)
  exact ⟨w, h1, h2, e1, e2, e3, yCL_2 (fun b j hb => g b j (by omega)) (fun b j hb => g b j (by omega)) I.2.1, yCW_2 (fun b j hb => g b j (by omega)) (fun j => g 213 j (by omega)) (fun j => (yFr_J F2 (a := 212) (by decide) j).trans (yFr_J F1 (a := 212) (by decide) j)) I.2.2⟩
theorem zp_text : zo_text yInv := by
  intro a0 a1 h I
  obtain ⟨w, h1, h2, e1, e2, e3, e4⟩ := wo_text I.1 a0 a1
  have F1 := f_qC_text e1
  have F2 := f_qM_text e2
  refine ⟨w, h1, h2, e1, e2, e3, ?_⟩
  rcases e4 with ⟨k1, k2, k3⟩ | g
  · exact ⟨yCL_0 k1, yCW_0 k2 k3⟩
  · exact ⟨yCL_2 (fun b j hb => g b j (by omega)) (fun b j hb => g b j (by omega)) I.2.1, yCW_2 (fun b j hb => g b j (by omega)) (fun j => g 213 j (by omega)) (fun j => (yFr_J F2 (a := 212) (by decide) j).trans (yFr_J F1 (a := 212) (by decide) j)) I.2.2⟩
theorem zp_fault : zo_fault yInv := by
  intro a0 h I
  exact ⟨_, wo_fault I.1 a0, yInv_2 (wEq2_f (f_qM_fault (wo_fault I.1 a0)) (by decide)) I⟩
theorem zp_cellar : zo_cellar yInv := by
  intro a0 a1 h I
  obtain ⟨w, h2, e1, e2⟩ := wo_cellar I.1 a0 a1
  exact ⟨w, h2, e1, e2, yInv_2 (wEq2_f (f_qM_cellar e2) (by decide)) I⟩
theorem zp_deed : zo_deed yInv := by
  intro a0 a1 a2 h I
  obtain ⟨w, h2, e1, e2⟩ := wo_deed I.1 a0 a1 a2
  exact ⟨w, h2, e1, e2, yInv_2 (wEq2_f (f_qM_deed e2) (by decide)) I⟩
theorem zp_till : zo_till yInv := by
  intro a0 a1 h I
  obtain ⟨w, h1, h2, e1, e2⟩ := wo_till I.1 a0 a1
  exact ⟨w, h1, h2, e1, e2, yInv_2 (wEq2_t (wEq2_f (f_qC_till e1) (by decide)) (wEq2_f (f_qM_till e2) (by decide))) I⟩
theorem zp_state : zo_state yInv := by
  intro a0 a1 a2 a3 h I
  obtain ⟨w, h1, h2, e1, e2⟩ := wo_state I.1 a0 a1 a2 a3
  exact ⟨w, h1, h2, e1, e2, yInv_2 (wEq2_t (wEq2_f (f_qC_state e1) (by decide)) (wEq2_f (f_qM_state e2) (by decide))) I⟩
theorem zp_train : zo_train yInv := by
  intro a0 a1 h I
  obtain ⟨w, h1, h2, e1, e2⟩ := wo_train I.1 a0 a1
  exact ⟨w, h1, h2, e1, e2, yInv_2 (wEq2_t (wEq2_f (f_qC_train e1) (by decide)) (wEq2_f (f_qM_train e2) (by decide))) I⟩
theorem zp_laying : zo_laying yInv := by
  intro a0 a1 h I
  obtain ⟨w, h1, h2, e1, e2, e3⟩ := wo_laying I.1 I.2.1 a0 a1
  have F1 := f_qC_laying e1
  have g : ∀ b j, b < 150 ∨ b = 213 ∨ 215 < b → gI h1 b j = gI h b j := fun b j hb => yFr_g F1 (fun hh => by
    simp only [List.mem_cons, List.not_mem_nil, or_false] at hh
    omega) j
  have E1 : wEq h h1 := fun a ha => funext fun j => g a j (by unfold wKp at ha; omega)
  exact ⟨w, h1, h2, e1, e2, yInv_2 (wEq2_f (f_qM_laying e2) (by decide)) ⟨InvB_eq E1 I.1, e3, yCW_2 (fun b j hb => g b j (by omega)) (fun j => g 213 j (by omega)) (fun j => yFr_J F1 (a := 212) (by decide) j) I.2.2⟩⟩
theorem zp_life : zo_life yInv := by
  intro a0 a1 h I
  obtain ⟨w, h2, e1, e2⟩ := wo_life I.1 a0 a1
  exact ⟨w, h2, e1, e2, yInv_2 (wEq2_f (f_qM_life e2) (by decide)) I⟩
theorem zp_plan : zo_plan yInv := by
  intro a0 a1 a2 h I
  obtain ⟨w, h1, h2, e1, e2⟩ := wo_plan I.1 a0 a1 a2
  exact ⟨w, h1, h2, e1, e2, yInv_2 (wEq2_t (wEq2_f (f_qC_plan e1) (by decide)) (wEq2_f (f_qM_plan e2) (by decide))) I⟩
theorem zp_talk : zo_talk yInv := by
  intro a0 a1 h I
  obtain ⟨w, h1, h2, e1, e2⟩ := wo_talk I.1 a0 a1
  exact ⟨w, h1, h2, e1, e2, yInv_2 (wEq2_t (wEq2_f (f_qC_talk e1) (by decide)) (wEq2_f (f_qM_talk e2) (by decide))) I⟩
theorem zp_dinner : zo_dinner yInv := by
  intro a0 a1 h I
  obtain ⟨w, h1, h2, e1, e2⟩ := wo_dinner I.1 a0 a1
  exact ⟨w, h1, h2, e1, e2, yInv_2 (wEq2_t (wEq2_f (f_qC_dinner e1) (by decide)) (wEq2_f (f_qM_dinner e2) (by decide))) I⟩
theorem zp_wires : zo_wires yInv := by
  intro a0 a1 a2 h hb I
  obtain ⟨w, h2, e1, e2⟩ := wo_wires I.1 a0 a1 a2
  exact ⟨w, h2, e1, e2, yInv_2 (wEq2_f (f_qM_wires e2) (by decide)) I⟩
theorem zp_duel : zo_duel yInv := by
  intro a0 a1 a2 h hb I
  obtain ⟨w, h1, h2, e1, e2⟩ := wo_duel I.1 a0 a1 a2
  exact ⟨w, h1, h2, e1, e2, yInv_2 (wEq2_t (wEq2_f (f_qC_duel e1) (by decide)) (wEq2_f (f_qM_duel e2) (by decide))) I⟩
theorem zp_hold : zo_hold yInv := by
  intro a0 a1 a2 a3 a4 h hb I
  obtain ⟨w, h2, e1, e2⟩ := wo_hold I.1 a0 a1 a2 a3 a4 hb
  exact ⟨w, h2, e1, e2, yInv_2 (wEq2_f (f_qM_hold e2) (by decide)) I⟩
theorem zp_fact : zo_fact yInv := by
  intro a0 a1 a2 h I
  obtain ⟨w, h2, e1, e2⟩ := wo_fact I.1 a0 a1 a2
  exact ⟨w, h2, e1, e2, yInv_2 (wEq2_f (f_qM_fact e2) (by decide)) I⟩
theorem zp_fits : zo_fits yInv := by
  intro a0 a1 a2 h I
  obtain ⟨w, h1, h2, e1, e2, e3⟩ := wo_fits I.1 I.2.2 a0 a1 a2
  have F1 := f_qC_fits e1
  have g : ∀ b j, b < 150 ∨ b = 184 ∨ b = 185 ∨ 215 < b → gI h1 b j = gI h b j := fun b j hb => yFr_g F1 (fun hh => by
    simp only [List.mem_cons, List.not_mem_nil, or_false] at hh
    omega) j
  have E1 : wEq h h1 := fun a ha => funext fun j => g a j (by unfold wKp at ha; omega)
  exact ⟨w, h1, h2, e1, e2, yInv_2 (wEq2_f (f_qM_fits e2) (by decide)) ⟨InvB_eq E1 I.1, yCL_2 (fun b j hb => g b j (by omega)) (fun b j hb => g b j (by omega)) I.2.1, e3⟩⟩
theorem zp_drawn : zo_drawn yInv := by
  intro a0 a1 a2 a3 h I
  obtain ⟨w, h1, h2, e1, e2⟩ := wo_drawn I.1 a0 a1 a2 a3
  exact ⟨w, h1, h2, e1, e2, yInv_2 (wEq2_t (wEq2_f (f_qC_drawn e1) (by decide)) (wEq2_f (f_qM_drawn e2) (by decide))) I⟩
theorem zp_wit : zo_wit yInv := by
  intro a0 a1 h I
  obtain ⟨w, h1, h2, e1, e2⟩ := wo_wit I.1 a0 a1
  exact ⟨w, h1, h2, e1, e2, yInv_2 (wEq2_t (wEq2_f (f_qC_wit e1) (by decide)) (wEq2_f (f_qM_wit e2) (by decide))) I⟩
theorem zp_flat : zo_flat yInv := by
  intro a0 a1 h I
  obtain ⟨w, h2, e1, e2⟩ := wo_flat I.1 a0 a1
  exact ⟨w, h2, e1, e2, yInv_2 (wEq2_f (f_qM_flat e2) (by decide)) I⟩
theorem zp_next : zo_next yInv := by
  intro a0 a1 h I
  obtain ⟨w, h1, h2, e1, e2⟩ := wo_next I.1 a0 a1
  exact ⟨w, h1, h2, e1, e2, yInv_2 (wEq2_t (wEq2_f (f_qC_next e1) (by decide)) (wEq2_f (f_qM_next e2) (by decide))) I⟩
theorem zp_half : zo_half yInv := by
  intro a0 a1 a2 h hb I
  obtain ⟨w, h2, e1, e2⟩ := wo_half I.1 a0 a1 a2
  exact ⟨w, h2, e1, e2, yInv_2 (wEq2_f (f_qM_half e2) (by decide)) I⟩
theorem zp_after : zo_after yInv := by
  intro a0 a1 a2 h I
  obtain ⟨w, h1, h2, e1, e2⟩ := wo_after I.1 a0 a1 a2
  exact ⟨w, h1, h2, e1, e2, yInv_2 (wEq2_t (wEq2_f (f_qC_after e1) (by decide)) (wEq2_f (f_qM_after e2) (by decide))) I⟩
theorem zp_odds : zo_odds yInv := by
  intro a0 a1 a2 a3 h hb I
  obtain ⟨w, h1, h2, e1, e2, e3⟩ := wo_odds I.1 I.2.2 a0 a1 a2 a3
  have F1 := f_qC_odds e1
  have g : ∀ b j, b < 150 ∨ b = 184 ∨ b = 185 ∨ 215 < b → gI h1 b j = gI h b j := fun b j hb => yFr_g F1 (fun hh => by
    simp only [List.mem_cons, List.not_mem_nil, or_false] at hh
    omega) j
  have E1 : wEq h h1 := fun a ha => funext fun j => g a j (by unfold wKp at ha; omega)
  exact ⟨w, h1, h2, e1, e2, yInv_2 (wEq2_f (f_qM_odds e2) (by decide)) ⟨InvB_eq E1 I.1, yCL_2 (fun b j hb => g b j (by omega)) (fun b j hb => g b j (by omega)) I.2.1, e3⟩⟩
theorem zp_shock : zo_shock yInv := by
  intro a0 a1 a2 h hb I
  obtain ⟨w, h1, h2, e1, e2, e3⟩ := wo_shock I.1 I.2.2 a0 a1 a2
  have F1 := f_qC_shock e1
  have g : ∀ b j, b < 150 ∨ b = 184 ∨ b = 185 ∨ 215 < b → gI h1 b j = gI h b j := fun b j hb => yFr_g F1 (fun hh => by
    simp only [List.mem_cons, List.not_mem_nil, or_false] at hh
    omega) j
  have E1 : wEq h h1 := fun a ha => funext fun j => g a j (by unfold wKp at ha; omega)
  exact ⟨w, h1, h2, e1, e2, yInv_2 (wEq2_f (f_qM_shock e2) (by decide)) ⟨InvB_eq E1 I.1, yCL_2 (fun b j hb => g b j (by omega)) (fun b j hb => g b j (by omega)) I.2.1, e3⟩⟩
theorem zp_count : zo_count yInv := by
  intro a0 h I
  obtain ⟨w, e1, e2⟩ := wo_count I.1 a0
  exact ⟨w, _, e1, e2, yInv_2 (wEq2_f (f_qM_count e2) (by decide)) I⟩
theorem zp_image : zo_image yInv := by
  intro a0 h I
  obtain ⟨w, h1, h2, e1, e2, e3, g, e4⟩ := wo_image I.1 a0
  exact ⟨w, h1, h2, e1, e2, e3, yCL_2 (fun b j hb => g b (by omega) j) (fun b j hb => g b (by omega) j) I.2.1, yCW_2 (fun b j hb => g b (by omega) j) (fun j => g 213 (by omega) j) (fun j => congrFun (congrFun e4 212) j) I.2.2⟩
theorem zp_again : zo_again yInv := by
  intro a0 h I
  obtain ⟨w, h1, h2, e1, e2, e3, e4⟩ := wo_again I.1 a0
  refine ⟨w, h1, h2, e1, e2, e3, ?_⟩
  rcases e4 with ⟨k1, k2, k3⟩ | ⟨g, e4⟩
  · exact ⟨yCL_0 k1, yCW_0 k2 k3⟩
  · exact ⟨yCL_2 (fun b j hb => g b (by omega) j) (fun b j hb => g b (by omega) j) I.2.1, yCW_2 (fun b j hb => g b (by omega) j) (fun j => g 213 (by omega) j) (fun j => congrFun (congrFun e4 212) j) I.2.2⟩
theorem zSt_1 : gI zSt 1 1 = 0 ∧ gI zSt 217 0 = 0 ∧ gI zSt 1 2 = gI zSt 218 0 ∧ gI zSt 1 3 = gI zSt 219 0 := by decide +kernel
theorem zSt_2 : ∀ j, j < 3 → gI zSt 3 j = 0 ∧ gI zSt 220 j = 0 ∧ gI zSt 146 j = 0 ∧ gI zSt 236 j = 0 := by decide +kernel
theorem zSt_3 : gI zSt 184 8 = -1 ∧ gI zSt 213 0 = 0 ∧ gI zSt 213 1 = 0 := by decide +kernel
theorem yInv_st : yInv zSt := by
  obtain ⟨a1, a2, a3, a4⟩ := zSt_1
  refine ⟨⟨⟨⟨0, by omega, a1, a2, fun j hj => absurd hj (Nat.not_lt_zero _)⟩, ⟨a3, a4⟩, fun _ => 0, fun r hr => ⟨Nat.zero_le 2, (zSt_2 r hr).1, ?_⟩, fun k hk => absurd hk (Nat.not_lt_zero _), fun k hk => absurd hk (Nat.not_lt_zero _), fun k hk => absurd hk (Nat.not_lt_zero _)⟩, fun j hj => ?_⟩, yCL_0 zSt_3.1, yCW_0 zSt_3.2.1 zSt_3.2.2⟩
  · show gI zSt 220 (3 * 0 + r) = nI 0
    rw [show 3 * 0 + r = r by omega]
    exact (zSt_2 r hr).2.1
  · obtain ⟨-, -, b1, b2⟩ := zSt_2 j hj
    refine ⟨b1.trans b2.symm, Or.inl b1, fun z => ?_⟩
    rw [b1] at z
    exact absurd z (by decide)
theorem yLaw_all : zLaw := zLaw_of (zpure zp_feed zp_end zp_text zp_fault zp_cellar zp_deed zp_till zp_state zp_train zp_laying zp_life zp_plan zp_talk zp_dinner zp_wires zp_duel zp_hold zp_fact zp_fits zp_drawn zp_wit zp_flat zp_next zp_half zp_after zp_odds zp_shock zp_count zp_image zp_again yInv_st)
