theorem yCW_eq {h h' : zK} (e : ∀ a j, (a < 100 ∨ a = 213) → gI h' a j = gI h a j) (e2 : ∀ j, gJ h' 212 j = gJ h 212 j) (C : yCW h) : yCW h' := fun k hk => by
  rw [yCan_eq (h := h) (h' := h') (fun a j ha => e a j (Or.inl ha)) (by omega), e 213 k (Or.inr rfl)]
  refine ⟨(C k hk).1, fun z L hL => ?_⟩
  rw [e2]
  exact (C k hk).2 z L hL
/-- class and reference on the way to the laws that fit -/
theorem wlaws {h : zK} (H : InvB h) (CW : yCW h) (a b : Int32) : ((∀ h', wEq h h' → ∃ h2, qM_layLog a b h' = some (0, h2)) ∧ ((qT_cellarAt a h = some none) ∨ (∃ v, qT_cellarAt a h = some (some v)) ∧ qT_logAt b h = some none) ∧ (qT_cellarAt a h = some none → ∃ z, qT_logAt b h = some z)) ∨ ∃ k kl c m K x, k < 2 ∧ a = nI k ∧ wCok c ∧ qT_cellarAt a h = some (some (7 + 15 * k)) ∧ (7 + 15 * k = 7 ∨ 7 + 15 * k = 22) ∧ qT_logAt b h = some (some (19 + 15 * kl)) ∧ (19 + 15 * kl = 19 ∨ 19 + 15 * kl = 34) ∧ qLw_find a (7 + 15 * k) (19 + 15 * kl) h = some x ∧ yRC x m K ∧ (∀ i j, i ≤ j → j < m → K i ≤ K j) ∧ yLs x k c ∧ yCW x ∧ wEq h x ∧ ∀ h', wEq h h' → ∃ h2, qM_layLog a b h' = some (1, h2) ∧ yRM h2 m K ∧ yRY h2 m c K := by
  have hlz : ∃ z, qT_logAt b h = some z := by
    rcases wlog H b with ⟨d1, -⟩ | ⟨ky, d, -, rfl, -, -, -, d1, -⟩
    · exact ⟨_, d1⟩
    · exact ⟨_, d1⟩
  rcases wlog H b with ⟨d1, d2⟩ | ⟨kl, l, hkl, rfl, l1, l2, l3, d1, d2, d3⟩
  · left
    refine ⟨fun h' e => ?_, ?_, fun _ => hlz⟩
    · unfold qM_layLog
      rw [d2 h' e, Option.bind_some]
      exact ⟨_, rfl⟩
    · rcases wcell H a with ⟨e1, -⟩ | ⟨k, c, -, rfl, -, -, -, e1, -⟩
      · exact Or.inl e1
      · exact Or.inr ⟨⟨_, e1⟩, d1⟩
  · rcases wcell2 H a with ⟨e1, e2⟩ | ⟨k, c, ec, hk, rfl, c1, c2, c3, e1, e2, e4⟩
    · left
      refine ⟨fun h' e => ?_, Or.inl e1, fun _ => hlz⟩
      unfold qM_layLog
      rw [d3 h' e, Option.bind_some]
      dsimp only
      rw [if_neg (show ¬ (1 : Int32) = 0 by decide), e2 _ (wEq_t e (wEq_s (by unfold wKp; omega))), Option.bind_some]
      exact ⟨_, rfl⟩
    · right
      obtain ⟨x, x1, x2, x3, x4⟩ := qLw_find_ev e2 d2 ec c2 c1 hk l2 l1 CW
      have eqx : wEq h x := fun a ha => by
        have F := f_qLw_find (by omega) x1
        refine F.2.1 a fun hh => ?_
        unfold wKp at ha
        simp only [List.mem_cons, List.not_mem_nil, or_false] at hh
        omega
      have fl := yFn_le c l 100
      refine ⟨k, kl, c, yFn c l 100, yKt c l, x, hk, rfl, c1, e1, e2, d1, d2, x1, ⟨fl, x3.1, fun j hj => ⟨yFd_k x3 hj, (yKt_ok hj).1⟩⟩, fun i j h1 h2 => yKt_mono h1 h2, x2, x4, eqx, fun h' e => ?_⟩
      obtain ⟨h2, q1, q2, q3, q4, q5⟩ := e4 (sI h' 215 43 (nI kl)) (wEq_t e (wEq_s (by unfold wKp; omega)))
      have F := f_qM_hand q1
      have e5 : wEq h h2 := wEq_t (wEq_t e (wEq_s (by unfold wKp; omega))) (wEq_2 (wEq2_f F (by decide)))
      have lm := lM_eq e5 l3
      have mg : yMg (sI h2 215 46 0) k kl c l := ⟨mB_l' q2 (fun j _ _ => gI_nk (by omega)) rfl, by
        rw [gI_nk (by decide), q5 43 (by omega), gI_eq], ⟨(gI_ne (by decide)).trans lm.1, fun r i hr hi => (gI_ne (by decide)).trans (lm.2 r i hr hi)⟩⟩
      obtain ⟨y, y1, y2⟩ := qM_layLog_b25_ev c1 l1 hkl mg gI_eq
      refine ⟨y, ?_, ⟨fl, y2.1, fun j hj => ⟨(yMd_k y2 hj).1, (yKt_ok hj).1⟩⟩, fun j hj => (yMd_k y2 hj).2⟩
      unfold qM_layLog
      rw [d3 h' e, Option.bind_some]
      dsimp only
      rw [if_neg (show ¬ (1 : Int32) = 0 by decide), q1, Option.bind_some]
      dsimp only
      rw [if_pos (show ¬ (1 : Int32) = 0 by decide)]
      simp only [zlet]
      rw [y1]
      rfl
theorem wo_shock {h : zK} (H : InvB h) (CW : yCW h) (a b y : Int32) : ∃ w h1 h2, qC_shock a b y h = some (w, h1) ∧ qM_shock a b y h1 = some (w, h2) ∧ yCW h1 := by
  unfold qC_shock
  rcases wlaws H CW a b with ⟨m1, m2, m3⟩ | ⟨k, kl, c, m, K, x, hk, rfl, c1, e1, e2, d1, d2, x1, C, mono, S, CX, eqx, ref⟩
  · obtain ⟨h2, q⟩ := m1 (sI h 215 0 0) (wEq_s (by unfold wKp; omega))
    refine ⟨-1, h, h2, ?_, by unfold qM_shock; simp only [zlet]; rw [q, Option.bind_some]; rfl, CW⟩
    rcases m2 with m2 | ⟨⟨v, m4⟩, m5⟩
    · obtain ⟨z, hz⟩ := m3 m2
      rw [m2, Option.bind_some, hz, Option.bind_some]
      cases z with
      | none => rfl
      | some v => rfl
    · rw [m4, Option.bind_some, m5, Option.bind_some]
      rfl
  · have mm := C.1
    obtain ⟨h2, q, M, -⟩ := ref (sI x 215 0 0) (wEq_t eqx (wEq_s (by unfold wKp; omega)))
    simp only [e1, d1, Option.bind_some]
    rw [if_pos e2, if_pos d2, x1, Option.bind_some, qLw_leastShock_ev C, qLw_greatestShock_ev C, Option.bind_some, Option.bind_some]
    have ref2 : qM_shock (nI k) b y x = some (if m = 0 then -1 else if y = 0 then nI (yL2 (fun j => K j % 10) m) else nI (yG2 (fun j => K j % 10) m), h2) := by
      unfold qM_shock
      simp only [zlet]
      rw [q, Option.bind_some]
      dsimp only
      rw [if_neg (show ¬ (1 : Int32) = 0 by decide), M.2.1]
      by_cases h0 : m = 0
      · rw [if_pos h0, h0, if_neg (show ¬ ¬ nI 0 = 0 from fun z => z rfl)]
      · rw [if_neg h0, if_pos (nI_ne0 (by omega) (by omega)), qM_shock_b37_ev M (by omega), Option.bind_some]
    refine ⟨_, x, h2, ?_, ref2, CX⟩
    by_cases hy : y = 0
    · rw [if_pos hy, if_pos hy]
    · rw [if_neg hy, if_neg hy]
theorem wo_odds {h : zK} (H : InvB h) (CW : yCW h) (a b r y : Int32) : ∃ w h1 h2, qC_odds a b r y h = some (w, h1) ∧ qM_odds a b r y h1 = some (w, h2) ∧ yCW h1 := by
  have e10 : nI 10 - 1 = (9 : Int32) := by decide
  unfold qC_odds
  rcases wlaws H CW a b with ⟨m1, m2, m3⟩ | ⟨k, kl, c, m, K, x, hk, rfl, c1, e1, e2, d1, d2, x1, C, mono, S, CX, eqx, ref⟩
  · obtain ⟨h2, q⟩ := m1 (sI h 215 0 0) (wEq_s (by unfold wKp; omega))
    have rf : ∃ h2, qM_odds a b r y h = some (-1, h2) := by
      unfold qM_odds
      simp only [zlet]
      by_cases hz : zf_in r 0 9 = 0
      · rw [if_pos hz]; exact ⟨_, rfl⟩
      · rw [if_neg hz, q, Option.bind_some]; exact ⟨_, rfl⟩
    obtain ⟨h2, rf⟩ := rf
    refine ⟨-1, h, h2, ?_, rf, CW⟩
    rcases m2 with m2 | ⟨⟨v, m4⟩, m5⟩
    · obtain ⟨z, hz⟩ := m3 m2
      rw [m2, Option.bind_some, hz, Option.bind_some]
      cases z with
      | none => rfl
      | some v => rfl
    · rw [m4, Option.bind_some, m5, Option.bind_some]
      rfl
  · have mm := C.1
    simp only [e1, d1, Option.bind_some]
    rcases zf_in_n (m := 10) (by omega) r with ⟨j, hj, rfl, hz⟩ | ⟨hr, hz⟩
    · rw [e10] at hz
      obtain ⟨h2, q, M, -⟩ := ref (sI x 215 0 0) (wEq_t eqx (wEq_s (by unfold wKp; omega)))
      have cl := yCr2_le K j m
      rw [if_neg (nI_pos (by omega)), if_pos (show nI j ≤ (9 : Int32) from nI_le (b := 9) (by omega) (by decide)), if_pos e2, if_pos d2, x1, Option.bind_some, qLw_sizeOfReach_ev C hj, Option.bind_some, C.2.1, nI_l (by omega), nI_l (by omega), qC_inLeastTerms_ev (by omega) (by omega), Option.bind_some]
      have ref2 : qM_odds (nI k) b (nI j) y x = some (if m = 0 then -1 else nI ((if y = 0 then yCr2 K j m else m) / Nat.gcd m (yCr2 K j m)), h2) := by
        unfold qM_odds
        simp only [zlet]
        rw [hz, if_neg (show ¬ (1 : Int32) = 0 by decide), q, Option.bind_some]
        dsimp only
        rw [if_neg (show ¬ (1 : Int32) = 0 by decide), M.2.1]
        by_cases h0 : m = 0
        · rw [if_pos h0, h0, if_neg (show ¬ ¬ nI 0 = 0 from fun z => z rfl)]
        · have gp : 0 < Nat.gcd (yCr2 K j m) m := Nat.gcd_pos_of_pos_right _ (by omega)
          have gl : Nat.gcd (yCr2 K j m) m ≤ m := Nat.gcd_le_right _ (by omega)
          rw [if_neg h0, if_pos (nI_ne0 (by omega) (by omega)), qM_odds_b39_ev M hj, Option.bind_some, qM_common_ev (by omega) (by omega), Option.bind_some, if_pos (nI_ne0 (by omega) (by omega)), Nat.gcd_comm m]
          by_cases hy : y = 0
          · rw [if_pos hy, if_pos hy, nI_div (by omega) (by omega)]
          · rw [if_neg hy, if_neg hy, nI_div (by omega) (by omega)]
      refine ⟨_, x, h2, ?_, ref2, CX⟩
      by_cases h0 : m = 0
      · rw [if_pos h0, if_pos h0]
        rfl
      · rw [if_neg h0, if_neg h0, lN_int]
    · rw [e10] at hz
      refine ⟨-1, h, sI h 215 0 0, ?_, by unfold qM_odds; simp only [zlet]; rw [hz]; rfl, CW⟩
      rcases hr with hr | ⟨j, j1, j2, rfl⟩
      · rw [if_pos hr]
      · rw [if_neg (nI_pos j2), if_neg (show ¬ nI j ≤ (9 : Int32) from nI_ge (a := 9) (by omega) j2)]
theorem wo_fits {h : zK} (H : InvB h) (CW : yCW h) (a b y : Int32) : ∃ w h1 h2, qC_fits a b y h = some (w, h1) ∧ qM_fits a b y h1 = some (w, h2) ∧ yCW h1 := by
  unfold qC_fits
  rcases wlaws H CW a b with ⟨m1, m2, m3⟩ | ⟨k, kl, c, m, K, x, hk, rfl, c1, e1, e2, d1, d2, x1, C, mono, S, CX, eqx, ref⟩
  · obtain ⟨h2, q⟩ := m1 (sI h 215 0 0) (wEq_s (by unfold wKp; omega))
    refine ⟨-2, h, h2, ?_, by unfold qM_fits; simp only [zlet]; rw [q, Option.bind_some]; rfl, CW⟩
    rcases m2 with m2 | ⟨⟨v, m4⟩, m5⟩
    · obtain ⟨z, hz⟩ := m3 m2
      rw [m2, Option.bind_some, hz, Option.bind_some]
      cases z with
      | none => rfl
      | some v => rfl
    · rw [m4, Option.bind_some, m5, Option.bind_some]
      rfl
  · have mm := C.1
    simp only [e1, d1, Option.bind_some]
    by_cases hy : y < 0
    · obtain ⟨h2, q, M, -⟩ := ref (sI h 215 0 0) (wEq_s (by unfold wKp; omega))
      refine ⟨-2, h, h2, by rw [if_neg (Int32.not_le.mpr hy)], ?_, CW⟩
      unfold qM_fits
      simp only [zlet]
      rw [q, Option.bind_some]
      dsimp only
      have n : ∀ j : Nat, j < 2 ^ 31 → ¬ y = nI j := fun j hj e => by rw [e] at hy; exact nI_pos hj hy
      rw [if_pos (show ¬ (1 : Int32) = 0 by decide), if_pos (show y < 10 by
        rw [Int32.lt_iff_toInt_lt] at hy ⊢
        have e0 : (0 : Int32).toInt = 0 := rfl
        have e1 : (10 : Int32).toInt = 10 := rfl
        omega), if_neg (show ¬ y = 0 from n 0 (by omega)), if_neg (show ¬ y = 1 from n 1 (by omega)), if_neg (show ¬ y = 2 from n 2 (by omega)), if_neg (show ¬ y = 3 from n 3 (by omega))]
    · obtain ⟨v, hv, rfl⟩ := nI_of hy
      rw [if_pos (show (0 : Int32) ≤ nI v from nI_pos' hv), if_pos e2, if_pos d2, x1, Option.bind_some]
      have ref1 : ∀ g, wEq h g → ∃ h2, yRM h2 m K ∧ yRY h2 m c K ∧ qM_fits (nI k) b (nI v) g = (if nI v < 10 then
          if nI v = 0 then some (nI m, h2)
          else if nI v = 1 then (qM_sure (if ¬ nI v = 1 then 0 else 1) h2).bind fun p7 => some (p7, h2)
          else if nI v = 2 then (qM_sure (if ¬ nI v = 1 then 0 else 1) h2).bind fun p10 => some (p10, h2)
          else if nI v = 3 then (qM_ask h2).bind fun p11 => some (p11, h2)
          else some (-2, h2)
        else if nI m ≤ nI v - 10 then some (-2, h2) else (zix (nI v - 10) 100).bind fun j13 => some (gI h2 234 j13, h2)) := fun g e => by
        obtain ⟨h2, q, M, Y⟩ := ref (sI g 215 0 0) (wEq_t e (wEq_s (by unfold wKp; omega)))
        refine ⟨h2, M, Y, ?_⟩
        unfold qM_fits
        simp only [zlet]
        rw [q, Option.bind_some]
        dsimp only
        rw [if_pos (show ¬ (1 : Int32) = 0 by decide), M.2.1]
      by_cases hv4 : v < 4
      · rcases (by omega : v = 0 ∨ v = 1 ∨ v = 2 ∨ v = 3) with rfl | rfl | rfl | rfl
        · obtain ⟨h2, M, Y, r⟩ := ref1 x eqx
          rw [if_pos (show nI 0 < 10 by decide), if_pos (show nI 0 = 0 from rfl)] at r
          exact ⟨nI m, x, h2, by rw [if_pos (show nI 0 = 0 from rfl), C.2.1], r, CX⟩
        · obtain ⟨h2, M, Y, r⟩ := ref1 x eqx
          rw [if_pos (show nI 1 < 10 by decide), if_neg (show ¬ nI 1 = 0 by decide), if_pos (show nI 1 = 1 from rfl), if_neg (show ¬ ¬ nI 1 = 1 from fun z => z rfl), qM_sure_ev (F := fun j => K j / 10) M (fun j hj => ⟨by have := (M.2.2 j hj).2; omega, by rw [if_neg (show ¬ (1 : Int32) = 0 by decide), wd10 (M.2.2 j hj).2]⟩), Option.bind_some] at r
          exact ⟨_, x, h2, by rw [if_neg (show ¬ nI 1 = 0 by decide), if_pos (show nI 1 = 1 from rfl), qLw_sureReach_ev C mono, Option.bind_some], r, CX⟩
        · obtain ⟨h2, M, Y, r⟩ := ref1 x eqx
          rw [if_pos (show nI 2 < 10 by decide), if_neg (show ¬ nI 2 = 0 by decide), if_neg (show ¬ nI 2 = 1 by decide), if_pos (show nI 2 = 2 from rfl), if_pos (show ¬ nI 2 = 1 by decide), qM_sure_ev (F := fun j => K j % 10) M (fun j hj => ⟨by omega, by rw [if_pos rfl, wm10 (M.2.2 j hj).2]⟩), Option.bind_some] at r
          exact ⟨_, x, h2, by rw [if_neg (show ¬ nI 2 = 0 by decide), if_neg (show ¬ nI 2 = 1 by decide), if_pos (show nI 2 = 2 from rfl), qLw_sureShock_ev C, Option.bind_some], r, CX⟩
        · obtain ⟨g, ya⟩ := qLw_yearToAsk_ev c1 hk S C
          have F := f_qLw_yearToAsk ya
          obtain ⟨h2, M, Y, r⟩ := ref1 g (wEq_t eqx (wEq_2 (wEq2_f F (by decide))))
          rw [if_pos (show nI 3 < 10 by decide), if_neg (show ¬ nI 3 = 0 by decide), if_neg (show ¬ nI 3 = 1 by decide), if_neg (show ¬ nI 3 = 2 by decide), if_pos (show nI 3 = 3 from rfl), qM_ask_ev c1 M Y, Option.bind_some] at r
          refine ⟨_, g, h2, by rw [if_neg (show ¬ nI 3 = 0 by decide), if_neg (show ¬ nI 3 = 1 by decide), if_neg (show ¬ nI 3 = 2 by decide), if_pos (show nI 3 = 3 from rfl), ya, Option.bind_some], r, yCW_eq (fun a j ha => congrFun (F.2.1 a ?_) j) (fun j => congrFun (F.2.2 212 (by decide)) j) CX⟩
          intro hh
          simp only [List.mem_cons, List.not_mem_nil, or_false] at hh
          omega
      · have n : ∀ j : Nat, j < 4 → ¬ nI v = nI j := fun j hj e => by have := (nI_eq hv (by omega)).mp e; omega
        obtain ⟨h2, M, Y, r⟩ := ref1 x eqx
        rw [if_neg (show ¬ nI v = 0 from n 0 (by omega)), if_neg (show ¬ nI v = 1 from n 1 (by omega)), if_neg (show ¬ nI v = 2 from n 2 (by omega)), if_neg (show ¬ nI v = 3 from n 3 (by omega))] at r ⊢
        by_cases h10 : v < 10
        · rw [if_pos (show nI v < (10 : Int32) from nI_lt (b := 10) h10 (by decide))] at r
          refine ⟨-2, x, h2, ?_, r, CX⟩
          rw [if_pos]
          rw [Int32.lt_iff_toInt_lt, fb_subI, nI_toInt hv]
          · have e0 : (0 : Int32).toInt = 0 := rfl
            have e1 : (10 : Int32).toInt = 10 := rfl
            omega
          · rw [nI_toInt hv]
            have e1 : (10 : Int32).toInt = 10 := rfl
            omega
          · rw [nI_toInt hv]
            have e1 : (10 : Int32).toInt = 10 := rfl
            omega
        · have es : nI v - 10 = nI (v - 10) := nI_sub (b := 10) (by omega)
          rw [if_neg (show ¬ nI v < (10 : Int32) from nI_nlt (b := 10) (by omega) hv), es] at r
          rw [es, if_neg (nI_pos (by omega)), C.2.1]
          by_cases hm : v - 10 < m
          · rw [if_neg (nI_ge hm (by omega)), zix_nI (by omega) (by omega), Option.bind_some, (M.2.2 _ hm).1] at r
            refine ⟨_, x, h2, ?_, r, CX⟩
            rw [if_neg (nI_ge hm (by omega)), zix_nI (by omega) (by omega), Option.bind_some, (C.2.2 _ hm).1]
          · rw [if_pos (nI_le (by omega) (by omega))] at r
            exact ⟨-2, x, h2, by rw [if_pos (nI_le (by omega) (by omega))], r, CX⟩
