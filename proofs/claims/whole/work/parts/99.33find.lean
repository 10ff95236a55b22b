/-! LAYING: the class finds the answer, keeps it, and the reference answers the same -/
section FINDL
variable {h : zK} {o m : Nat} {c : wC}
theorem qTr_takeUp0_ev (hm : m < 7) (z : ∀ t, t < m → gI h 188 t = 0) : ∃ h', qTr_takeUp 186 (nI m) h = some h' ∧ (∀ t, t < m + 1 → gI h' 188 t = 0) ∧ ∀ a j, a ≠ 188 → gI h' a j = gI h a j := by
  have key : ∃ h', zloop (qTr_takeUp_b9 186 (nI m)) zfu (0, sI h 188 m 0) = some h' ∧ (∀ t, t < m + 1 → gI h' 188 t = 0) ∧ ∀ a j, a ≠ 188 → gI h' a j = gI h a j := by
    refine zloop_fx (S := fun i x => ∃ h', x = (nI i, h') ∧ (∀ t, t < m + 1 → gI h' 188 t = 0) ∧ ∀ a j, a ≠ 188 → gI h' a j = gI h a j) m ?_ ?_ (zfu_lt (by omega)) ⟨sI h 188 m 0, rfl, fun t ht => ?_, fun a j ha => gI_ne ha⟩
    · rintro i x hi ⟨h', rfl, f1, f2⟩
      refine ⟨(nI i + 1, sI h' 188 i 0), ?_, sI h' 188 i 0, by rw [show nI i + 1 = nI (i + 1) from nI_add i 1], fun t ht => ?_, fun a j ha => (gI_ne ha).trans (f2 a j ha)⟩
      · unfold qTr_takeUp_b9
        dsimp only
        rw [if_neg (show ¬ nI m ≤ nI i from nI_ge hi (by omega)), zix_nI (by omega) (by omega), Option.bind_some]
        simp only [zlet]
        rw [show gI h' (186 + 2) i = 0 from f1 i (by omega), Int32.zero_and]
      · by_cases e : t = i
        · rw [e, gI_eq]
        · rw [gI_nk e]; exact f1 t ht
    · rintro x ⟨h', rfl, f1, f2⟩
      refine ⟨h', ?_, f1, f2⟩
      unfold qTr_takeUp_b9
      dsimp only
      rw [if_pos (show nI m ≤ nI m from Int32.le_refl _)]
    · by_cases e : t = m
      · rw [e, gI_eq]
      · rw [gI_nk e]; exact z t (by omega)
  obtain ⟨h', k1, k2⟩ := key
  refine ⟨h', ?_, k2⟩
  unfold qTr_takeUp
  rw [zix_nI (by omega) (by omega), Option.bind_some]
  simp only [zlet]
  rw [show (186 + 2 : Nat) = 188 from rfl, k1]
  rfl
theorem cC_lt {h' : zK} (hoc : o = 7 ∨ o = 22) (e : ∀ a j, a < 100 → gI h' a j = gI h a j) (hc : cC h o c) : cC h' o c := ⟨(e _ _ (by omega)).trans hc.1, (e _ _ (by omega)).trans hc.2.1, (e _ _ (by omega)).trans hc.2.2.1, fun i s hi hs => (e _ _ (by omega)).trans (hc.2.2.2 i s hi hs)⟩
theorem qLa_find_ev (hoc : o = 7 ∨ o = 22) (hc : cC h o c) (ok : wCok c) (x1 : Int32) (ne : ¬ gI h 184 8 = x1) : ∃ h' b r, qLa_find x1 o h = some h' ∧ yBst c b r ∧ b ≤ 7 ∧ gI h' 184 8 = x1 ∧ gI h' 184 0 = nI b ∧ ∀ s, s < c.1 → gI h' 185 s = nI (r s) := by
  have n7 := ok.1
  have c20 : ∀ s, s < c.1 → c.2.2.2 5 s ≤ 20 := fun s hs => (ok.2.2.2 s hs).2.2.2.2.2.2.1
  have hc2 : cC (sI h 184 8 x1) o c := cC_lt hoc (fun a j ha => gI_ne (by omega)) hc
  obtain ⟨p3, a1, a2⟩ := qTr_lookAt_ev (oo := 186) (Or.inr rfl) hoc hc2 ok
  have F3 := f_qTr_lookAt (by omega) a1
  have g3 : ∀ a j, (a < 180 ∨ a = 184) → gI p3 a j = gI (sI h 184 8 x1) a j := fun a j ha => congrFun (F3.2.1 a (fun hh => by
    simp only [List.mem_cons, List.not_mem_nil, or_false] at hh
    omega)) j
  have hc3 : cC p3 o c := cC_lt hoc (fun a j ha => g3 a j (Or.inl (by omega))) hc2
  have e37 : gI p3 184 8 = x1 := (g3 184 8 (Or.inr rfl)).trans gI_eq
  have loop : ∃ t6, zloop (qLa_find_b24 o) zfu (0, p3) = some t6 ∧ (∀ t, t < c.1 → gI t6 188 t = 0) ∧ ∀ a j, a ≠ 188 → gI t6 a j = gI p3 a j := by
    refine zloop_fx (S := fun i x => ∃ h', x = (nI i, h') ∧ (∀ t, t < i → gI h' 188 t = 0) ∧ ∀ a j, a ≠ 188 → gI h' a j = gI p3 a j) c.1 ?_ ?_ (zfu_lt (by omega)) ⟨p3, rfl, fun t ht => absurd ht (Nat.not_lt_zero _), fun _ _ _ => rfl⟩
    · rintro i x hi ⟨h', rfl, f1, f2⟩
      obtain ⟨h2, u1, u2, u3⟩ := qTr_takeUp0_ev (by omega : i < 7) f1
      refine ⟨(nI i + 1, h2), ?_, h2, by rw [show nI i + 1 = nI (i + 1) from nI_add i 1], u2, fun a j ha => (u3 a j ha).trans (f2 a j ha)⟩
      unfold qLa_find_b24
      dsimp only
      rw [f2 o 2 (by omega), hc3.2.2.1, if_neg (show ¬ nI c.1 ≤ nI i from nI_ge hi (by omega)), u1]
      rfl
    · rintro x ⟨h', rfl, f1, f2⟩
      refine ⟨h', ?_, f1, f2⟩
      unfold qLa_find_b24
      dsimp only
      rw [f2 o 2 (by omega), hc3.2.2.1, if_pos (show nI c.1 ≤ nI c.1 from Int32.le_refl _)]
  obtain ⟨t6, l1, l2, l3⟩ := loop
  have hc6 : cC t6 o c := cC_lt hoc (fun a j ha => l3 a j (by omega)) hc3
  obtain ⟨p8, s1, A, s2, s3, s4, s5⟩ := qLa_sortPlaces_ev hoc hc6 ok
  have hc8 : cC p8 o c := cC_lt hoc (fun a j ha => s5 a j (by omega)) hc6
  obtain ⟨p9, T, w1, w2, w3, w4⟩ := qLa_findTwins_ev hoc hc8 ok s2
  let h10 : zK := sI (sI p9 184 6 0) 184 0 (nI c.1 + 1)
  have g10 : ∀ a j, a ≠ 184 → gI h10 a j = gI p8 a j := fun a j ha => ((gI_ne ha).trans (gI_ne ha)).trans (w4 a j (fun z => absurd z ha))
  obtain ⟨T1, T2, T3⟩ := a2
  have P10 : yPt h10 c (c.2.2.2 5) 0 := by
    have q : ∀ a j, a ≠ 184 → a ≠ 190 → a ≠ 188 → gI h10 a j = gI p3 a j := fun a j h1 h2 h3 => ((g10 a j h1).trans (s5 a j h2)).trans (l3 a j h3)
    refine ⟨(q 186 0 (by decide) (by decide) (by decide)).trans T1, (q 186 2 (by decide) (by decide) (by decide)).trans T3.1, fun t ht => (q 187 t (by decide) (by decide) (by decide)).trans (T2 t ht), fun t ht => ?_, fun t ht => absurd ht (Nat.not_lt_zero _)⟩
    have e0 : yNp c (c.2.2.2 5) 0 t = 0 := if_neg (Nat.not_lt_zero _)
    rw [e0]
    exact ((g10 188 t (by decide)).trans (s5 188 t (by decide))).trans (l2 t ht)
  have en1 : nI c.1 + 1 = nI (c.1 + 1) := nI_add c.1 1
  obtain ⟨r, r1, r2, r3, r4⟩ := qTr_greatest_ev (yPt_T ok (Nat.zero_le _) P10) (e := c.1 + 1) (by omega)
  have gn := yGr_le (yNd c) (yNp c (c.2.2.2 5) 0) n7
  have er : r = yGr (yNd c) (yNp c (c.2.2.2 5) 0) c.1 := r3 (by omega)
  let h12 : zK := sI h10 184 7 (nI r)
  have g12 : ∀ a j, a ≠ 184 → gI h12 a j = gI p8 a j := fun a j ha => (gI_ne ha).trans (g10 a j ha)
  have D : yDk h12 c A (c.2.2.2 5) (fun _ => 0) 0 0 := ⟨yPt_g P10 fun a j h1 h2 => gI_ne (by omega), fun t ht => ⟨(g12 190 t (by decide)).trans (s2 t ht).1, (s2 t ht).2⟩, (gI_nk (by decide)).trans ((gI_nk (by decide)).trans gI_eq), fun s hs => absurd hs (Nat.not_lt_zero _)⟩
  have G : yDp c A T (c.2.2.2 5) (fun _ => 0) 0 0 := ⟨Nat.two_pow_pos _, fun s hs => absurd hs (Nat.not_lt_zero _), fun v => yUc_00 A v c.1, yUc_00 _ 0 c.1, fun i _ b => (by rw [Nat.zero_testBit] at b; exact absurd b (by decide)), fun a b _ hb => absurd hb (Nat.not_lt_zero _), fun _ _ _ s t _ ht => absurd ht (Nat.not_lt_zero _)⟩
  have z12 : gI h12 184 0 = nI (c.1 + 1) := by
    refine (gI_nk (by decide)).trans (gI_eq.trans en1)
  have Bs : yBk h12 c (c.1 + 1) (fun _ => 0) := ⟨z12, Nat.le_refl _, fun hb => absurd hb (by omega)⟩
  have LT : yLT h12 r T := ⟨gI_eq, (gI_nk (by decide)).trans ((gI_nk (by decide)).trans ((gI_nk (by decide)).trans w3))⟩
  have low : ∀ p, r ≤ yGs c p := fun p => by
    rw [er]
    exact yPt_le ok (Nat.zero_le _) fun s hs => absurd hs (Nat.not_lt_zero _)
  obtain ⟨h', B', R', t1, t2, t3, t4, t5⟩ := qLa_settleN_ev (L := r) ok w2 s4 s3 (fun s hs => (s2 s hs).2) low (by omega) c.1 9 0 h12 (c.2.2.2 5) (fun _ => 0) 0 (c.1 + 1) (fun _ => 0) r rfl (by omega) D G Bs LT er (by omega)
  have best : B' ≤ c.1 ∧ yBst c B' R' := by
    rcases t5 with ⟨-, -, no⟩ | ⟨i1, i2, i3, i4⟩
    · obtain ⟨q, o1, o2, o3, o4, -⟩ := yOr2_ex ok w2 _ (c.2.2.2 5) (Nat.le_refl _) (yPm_s s3) c20
      have := no q ⟨o1, o2, o3, fun s hs => absurd hs (Nat.not_lt_zero _)⟩
      have := yGr_le (yNd c) (yNe c.2.2.1 q c.1) n7
      have e : yGs c q = yGr (yNd c) (yNe c.2.2.1 q c.1) c.1 := rfl
      omega
    · exact ⟨by omega, yBst_of2 ok w2 s3 i2.2.1 i2.2.2.1 i3 fun p o1 o2 o3 => i4 p ⟨o1, o2, o3, fun s hs => absurd hs (Nat.not_lt_zero _)⟩⟩
  refine ⟨h', B', R', ?_, best.2, by omega, ?_, t3.1, t3.2.2 best.1⟩
  · unfold qLa_find
    rw [if_pos ne]
    simp only [zlet]
    rw [a1, Option.bind_some, l1, Option.bind_some, s1, Option.bind_some, w1, Option.bind_some]
    have e2 : gI (sI p9 184 6 0) o 2 = nI c.1 := (gI_ne (by omega)).trans ((w4 o 2 (fun z => by omega)).trans hc8.2.2.1)
    have e0 : gI h10 184 0 = nI (c.1 + 1) := gI_eq.trans en1
    have e6 : gI h12 184 7 = nI r := gI_eq
    rw [e2]
    show ((qTr_greatest 186 (gI h10 184 0) h10).bind fun p11 => (qLa_settle 0 (gI (sI h10 184 7 p11) 184 7) (sI h10 184 7 p11)).bind fun p13 => some p13) = _
    rw [e0, r1, Option.bind_some]
    show ((qLa_settleN 9 0 (gI h12 184 7) h12).bind fun p13 => some p13) = _
    rw [e6, show (0 : Int32) = nI 0 from rfl, t1]
    rfl
  · rw [t4 184 8 (by decide) (by decide) (by decide) (by decide) (by decide) (by decide) (fun _ => ⟨by decide, by decide⟩)]
    show gI (sI (sI (sI _ _ _ _) _ _ _) _ _ _) _ _ = _
    rw [gI_nk (by decide), gI_nk (by decide), gI_nk (by decide), w4 184 8 (fun _ => by decide), s5 184 8 (by decide), l3 184 8 (by decide)]
    exact e37
/-- what Laying keeps is the answer for the cellar it was found for -/
def yCL (h : zK) : Prop := ∀ k, k < 2 → gI h 184 8 = nI k → ∃ b r, yBst (yCan h (7 + 15 * k)) b r ∧ b ≤ 7 ∧ gI h 184 0 = nI b ∧ ∀ s, s < (yCan h (7 + 15 * k)).1 → gI h 185 s = nI (r s)
theorem yCL_eq {h h' : zK} (e : ∀ a j, (a < 100 ∨ a = 184 ∨ a = 185) → gI h' a j = gI h a j) (C : yCL h) : yCL h' := fun k hk e7 => by
  rw [e 184 8 (by omega)] at e7
  rw [yCan_eq (h := h) (h' := h') (fun a j ha => e a j (Or.inl ha)) (by omega), e 184 0 (by omega)]
  obtain ⟨b, r, b1, b2, b3, b4⟩ := C k hk e7
  exact ⟨b, r, b1, b2, b3, fun s hs => (e 185 s (by omega)).trans (b4 s hs)⟩
theorem yIn_1 {n : Nat} (hn : n ≤ 7) {x : Int32} (hx : x = -1 ∨ ∃ s, s < n ∧ x = nI s) : zf_in x (-1) (nI n - 1) = 1 := by
  have en : (nI n - 1).toInt = (n : Int) - 1 := by
    rcases n with _ | n
    · rfl
    · rw [show nI (n + 1) - 1 = nI n from nI_sub (b := 1) (by omega), nI_toInt (by omega)]
      omega
  have m1 : (-1 : Int32).toInt = -1 := rfl
  have key : -1 ≤ x.toInt ∧ x.toInt ≤ (n : Int) - 1 := by
    rcases hx with rfl | ⟨s, hs, rfl⟩
    · rw [m1]; omega
    · rw [nI_toInt (by omega)]; omega
  unfold zf_in
  rw [if_pos (show (-1 : Int32) ≤ x by rw [Int32.le_iff_toInt_le, m1]; exact key.1), if_pos (show x ≤ nI n - 1 by rw [Int32.le_iff_toInt_le, en]; exact key.2)]
theorem yIn_0 {n : Nat} (hn : n ≤ 7) {x : Int32} (hx1 : x ≠ -1) (hx : x < 0 ∨ ∃ j, n ≤ j ∧ j < 2 ^ 31 ∧ x = nI j) : zf_in x (-1) (nI n - 1) = 0 := by
  have en : (nI n - 1).toInt = (n : Int) - 1 := by
    rcases n with _ | n
    · rfl
    · rw [show nI (n + 1) - 1 = nI n from nI_sub (b := 1) (by omega), nI_toInt (by omega)]
      omega
  have m1 : (-1 : Int32).toInt = -1 := rfl
  unfold zf_in
  rcases hx with hx | ⟨j, j1, j2, rfl⟩
  · rw [if_neg]
    rw [Int32.le_iff_toInt_le, m1]
    rw [Int32.lt_iff_toInt_lt] at hx
    have e0 : (0 : Int32).toInt = 0 := rfl
    have : x.toInt ≠ -1 := fun z => hx1 (Int32.toInt_inj.mp (z.trans m1.symm))
    omega
  · rw [if_pos (show (-1 : Int32) ≤ nI j by rw [Int32.le_iff_toInt_le, m1, nI_toInt j2]; omega), if_neg]
    rw [Int32.le_iff_toInt_le, en, nI_toInt j2]
    omega
/-- the class finds, or has found -/
theorem qLa_found {k : Nat} (hk : k < 2) (hoc : 7 + 15 * k = 7 ∨ 7 + 15 * k = 22) (ec : c = yCan h (7 + 15 * k)) (hc : cC h (7 + 15 * k) c) (ok : wCok c) (C : yCL h) : ∃ h' b r, qLa_find (nI k) (7 + 15 * k) h = some h' ∧ yBst c b r ∧ b ≤ 7 ∧ gI h' 184 0 = nI b ∧ (∀ s, s < c.1 → gI h' 185 s = nI (r s)) ∧ yCL h' := by
  by_cases e : gI h 184 8 = nI k
  · obtain ⟨b, r, b1, b2, b3, b4⟩ := C k hk e
    rw [← ec] at b1 b4
    refine ⟨h, b, r, ?_, b1, b2, b3, b4, C⟩
    unfold qLa_find
    rw [if_neg (fun z => z e)]
  · obtain ⟨h', b, r, q1, q2, q3, q4, q5, q6⟩ := qLa_find_ev hoc hc ok (nI k) e
    have F := f_qLa_find hoc q1
    have g : ∀ a j, a < 100 → gI h' a j = gI h a j := fun a j ha => congrFun (F.2.1 a (fun hh => by
      simp only [List.mem_cons, List.not_mem_nil, or_false] at hh
      omega)) j
    refine ⟨h', b, r, q1, q2, q3, q5, q6, fun k' hk' e7 => ?_⟩
    rw [q4] at e7
    have := (nI_eq (by omega) (by omega)).mp e7
    subst this
    rw [yCan_eq g (by omega), ← ec]
    exact ⟨b, r, q2, q3, q5, q6⟩
theorem wo_laying {h : zK} (H : InvB h) (C : yCL h) (a x : Int32) : ∃ w h1 h2, qC_laying a x h = some (w, h1) ∧ qM_laying a x h1 = some (w, h2) ∧ yCL h1 := by
  unfold qC_laying qM_laying
  simp only [zlet]
  rcases wcell2 H a with ⟨e1, e2⟩ | ⟨k, c, ec, hk, rfl, c1, c2, c3, e1, e2, e4⟩
  · rw [e1, Option.bind_some]
    refine ⟨-1, h, sI h 215 0 0, rfl, ?_, C⟩
    rw [e2 _ (wEq_s (by unfold wKp; omega)), Option.bind_some]
    rfl
  · rw [e1, Option.bind_some]
    simp only [if_pos e2]
    have yes : (x = -1 ∨ ∃ s, s < c.1 ∧ x = nI s) → ∃ w h1 h2, qC_laying_j28 (7 + 15 * k) (nI k) x h = some (w, h1) ∧ ((qM_hand (nI k) (sI h1 215 0 0)).bind fun p2 => if p2.1 = 0 then some (-1, p2.2) else if ¬ (zf_in x (-1) ((gI p2.2 215 23) - 1)) = 0 then (qM_sortPlaces p2.2).bind fun p5 => (zloop (qM_laying_b40 x) zfu (1000000, 1, p5)).bind fun t15 => if ¬ x = (-1) then (zix x 7).bind fun j18 => some (gI t15.2 230 j18, t15.2) else some (t15.1, t15.2) else some (-1, p2.2)) = some (w, h2) ∧ yCL h1 := fun hx => by
      obtain ⟨h1, b, r, q1, q2, q3, q4, q5, q6⟩ := qLa_found hk e2 ec c2 c1 C
      have F := f_qLa_find e2 q1
      have E1 : wEq h h1 := fun a ha => by
        refine F.2.1 a fun hh => ?_
        unfold wKp at ha
        simp only [List.mem_cons, List.not_mem_nil, or_false] at hh
        omega
      obtain ⟨h2, p1, B, B2, B3, -⟩ := e4 (sI h1 215 0 0) (wEq_t E1 (wEq_s (by unfold wKp; omega)))
      obtain ⟨b', r', h3, -, u2, u3⟩ := qM_layBody_ev c1 (yM_of c1 B B2 B3) x hx
      obtain ⟨eb, erow⟩ := yBst_one q2 u2
      have n7 := c1.1
      have e23 : gI h2 215 23 = nI c.1 := B.2.2.1
      refine ⟨if x = -1 then nI b' else nI (r' x.toNatClampNeg), h1, h3, ?_, ?_, q6⟩
      · unfold qC_laying_j28
        rw [q1, Option.bind_some]
        rcases hx with hx | ⟨s, hs, rfl⟩
        · rw [if_neg (fun z => z hx), if_pos hx, q4, eb]
        · rw [if_pos (nI_nm1 (by omega)), if_neg (nI_nm1 (by omega)), zix_nI (by omega) (by omega), Option.bind_some, q5 s hs, nI_clamp (by omega), erow s hs]
      · rw [p1, Option.bind_some]
        dsimp only
        rw [if_neg (show ¬ (1 : Int32) = 0 by decide), e23, yIn_1 n7 hx, if_pos (show ¬ (1 : Int32) = 0 by decide)]
        exact u3
    by_cases hx : x = -1
    · rw [if_pos hx]
      exact yes (Or.inl hx)
    · rw [if_neg hx]
      rcases qCe_has_ev c2 c1.1 x with ⟨s, hs, rfl, hz, hz2⟩ | ⟨hr, hz, hz2⟩
      · rw [hz, if_pos (show ¬ (1 : Int32) = 0 by decide)]
        exact yes (Or.inr ⟨s, hs, rfl⟩)
      · rw [hz, if_neg (show ¬ ¬ (0 : Int32) = 0 from fun z => z rfl)]
        obtain ⟨h2, p1, B, B2, B3, -⟩ := e4 (sI h 215 0 0) (wEq_s (by unfold wKp; omega))
        refine ⟨-1, h, h2, rfl, ?_, C⟩
        have e23 : gI h2 215 23 = nI c.1 := B.2.2.1
        rw [p1, Option.bind_some]
        dsimp only
        rw [if_neg (show ¬ (1 : Int32) = 0 by decide), e23, yIn_0 c1.1 hx hr, if_neg (show ¬ ¬ (0 : Int32) = 0 from fun z => z rfl)]
end FINDL
