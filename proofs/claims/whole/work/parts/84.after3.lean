section AFTER3
variable {h : zK} {o oc k n s i : Nat} {c : wC} {d : wD} {re sh : Int32} {σ τ τ' : wS}
def yRe (y : Nat) (b : Nat → Nat) (τ : wS) (g : zK) : Int32 × Int32 × Int32 × Int32 × Int32 × zK := (wO (yAf b y).1, wO (yAf b y).2.1, τ.1 7, τ.1 8, τ.1 9, g)
theorem qM_after_loop {ky : Nat} (B : mB h k c) (N : mN h re sh) (ok : wCok c) (hky : ky < 2) (e37 : gI h 215 37 = nI ky) (dm : dM h (121 * ky) d) (od : wDok d) (x3 : Int32) : ∃ t, zloop (qM_after_b53 x3) zfu (-1, -1, 0, -1, -1, 0, 0, 1, 0, lS (wLm c.1) h (wS0 c)) = some t ∧ ∃ y b, yJ c.1 y b (spSt re sh c d (wS0 c) (spQ re sh c d (wS0 c) d.1)) ∧ t = yRe y b (spSt re sh c d (wS0 c) (spQ re sh c d (wS0 c) d.1)) (lS (wLm c.1) h (spSt re sh c d (wS0 c) (spQ re sh c d (wS0 c) d.1))) := by
  have hd := od.1
  have n7 := ok.1
  obtain ⟨q, hq⟩ : ∃ q, q = spQ re sh c d (wS0 c) d.1 := ⟨_, rfl⟩
  have q1 : q ≤ d.1 := by rw [hq]; exact fa_first_le _ _
  have sk := spSt_ok (re := re) (sh := sh) n7 od (wS0_ok ok)
  rw [← hq]
  have m0 : ∀ τ : wS, qM_deeds (lS (wLm c.1) h τ) = some (nI d.1) := fun τ => by
    unfold qM_deeds
    rw [show gI (lS (wLm c.1) h τ) 215 37 = nI ky from (lS_m3 (by omega)).trans e37, show (121 : Int32) = nI 121 from rfl, nI_mul, zix_nI (by omega) (by omega), Option.bind_some]
    exact congrArg some ((lS_m2 (by omega) (by omega)).trans dm.1)
  refine zloop_me (Q := fun m x => (∃ i y b, i ≤ q ∧ m + i = q + 1 ∧ yJ c.1 y b (spSt re sh c d (wS0 c) i) ∧ x = yLo y b (spSt re sh c d (wS0 c) i) 1 (nI i) (lS (wLm c.1) h (spSt re sh c d (wS0 c) i))) ∨ (m = 0 ∧ ∃ y b kx, yJ c.1 y b (spSt re sh c d (wS0 c) q) ∧ x = yLo y b (spSt re sh c d (wS0 c) q) 0 kx (lS (wLm c.1) h (spSt re sh c d (wS0 c) q)))) ?_ zfu (q + 1) _ (Or.inl ⟨0, 0, fun _ => 0, by omega, by omega, yJ_0 n7, rfl⟩) (zfu_lt (by omega))
  rintro m x (⟨i, y, b, hi, hm, J, rfl⟩ | ⟨rfl, y, b, kx, J, rfl⟩)
  · by_cases h1 : i < q
    · have np := fa_first_no (spQp re sh c d (wS0 c)) d.1 i (by show i < spQ re sh c d (wS0 c) d.1; omega)
      unfold spQp at np
      cases e : spDid re sh c (spK d i) (d.2 1 i) (d.2 2 i) (spSt re sh c d (wS0 c) i) with
      | none => rw [e] at np; cases np
      | some τ' =>
        obtain ⟨y', b', J', e2⟩ := qM_after_b53_y B N ok (sk i (by omega)) hky e37 dm od (show i < d.1 by omega) x3 J e
        have es : spSt re sh c d (wS0 c) (i + 1) = τ' := by rw [spSt_s, e]; rfl
        exact Or.inr ⟨m - 1, _, e2, by omega, Or.inl ⟨i + 1, y', b', by omega, by omega, by rw [es]; exact J', by rw [es]⟩⟩
    · have ei : i = q := by omega
      subst ei
      by_cases h2 : i < d.1
      · have yp : spQp re sh c d (wS0 c) i = true := by
          have : spQ re sh c d (wS0 c) d.1 < d.1 := by omega
          have := fa_first_yes (spQp re sh c d (wS0 c)) d.1 this
          rw [hq]; exact this
        unfold spQp at yp
        cases e : spDid re sh c (spK d i) (d.2 1 i) (d.2 2 i) (spSt re sh c d (wS0 c) i) with
        | some τ' => rw [e] at yp; cases yp
        | none =>
          have dd := qM_doesDeed_ev (re := re) (sh := sh) B N ok (sk i (by omega)) hky e37 dm od h2
          have g37 : gI (lS (wLm c.1) h (spSt re sh c d (wS0 c) i)) 215 37 = nI ky := (lS_m3 (by omega)).trans e37
          have dm' : dM (lS (wLm c.1) h (spSt re sh c d (wS0 c) i)) (121 * ky) d := ⟨(lS_m2 (by omega) (by omega)).trans dm.1, fun r i hr hi => (lS_m2 (by omega) (by omega)).trans (dm.2 r i hr hi)⟩
          have k1 := qM_deedOf_ev (x := 1) (r := 1) hky g37 dm' od h2 rfl (by omega)
          have am := yAf_m J.2.2.2.1 y
          refine Or.inr ⟨0, yLo y b (spSt re sh c d (wS0 c) i) 0 (nI (i + 1)) (lS (wLm c.1) h (spSt re sh c d (wS0 c) i)), ?_, by omega, Or.inr ⟨rfl, y, b, _, J, rfl⟩⟩
          unfold yLo qM_after_b53
          simp only [zlet]
          rw [if_neg (show ¬ (1 : Int32) = 0 by decide), m0, Option.bind_some, if_neg (nI_ge h2 (by omega)), dd, e, Option.bind_some]
          unfold wD2
          dsimp only
          rw [if_pos rfl, Option.bind_some, k1, Option.bind_some, nI_1, Int32.sub_self, if_pos (show ¬ (-1 : Int32) = 1 by decide), if_pos (show ¬ (-1 : Int32) = 4 by decide), if_pos (show ¬ (-1 : Int32) = 1 by decide), Option.bind_some, if_pos (show (0 : Int32) ≤ nI (yAf b y).2.2 from nI_pos' (by omega)), wgre_0 (by omega), Int32.add_zero, if_pos (Int32.le_refl _)]
          congr 2
          refine Prod.ext ?_ rfl
          dsimp only
          split <;> rfl
      · refine Or.inl ⟨yRe y b (spSt re sh c d (wS0 c) i) (lS (wLm c.1) h (spSt re sh c d (wS0 c) i)), ?_, y, b, J, rfl⟩
        unfold yLo qM_after_b53
        dsimp only
        rw [if_neg (show ¬ (1 : Int32) = 0 by decide), m0, Option.bind_some, if_pos (nI_le (by omega) (by omega))]
        rfl
  · refine Or.inl ⟨yRe y b (spSt re sh c d (wS0 c) q) (lS (wLm c.1) h (spSt re sh c d (wS0 c) q)), ?_, y, b, J, rfl⟩
    unfold yLo qM_after_b53
    dsimp only
    rw [if_pos rfl]
    rfl
theorem qRu_firstBurstYear_ev {y : Nat} {b : Nat → Nat} (J : yJ n y b τ) : qRu_firstBurstYear 166 (lS (wLc n 166) h τ) = some (wO (yAf b 50).1) := by
  have key : ∃ t, zloop (qRu_firstBurstYear_b2 166 (lS (wLc n 166) h τ)) zfu 1 = some t ∧ t = (match (yAf b 50).1 with | none => Sum.inl () | some v => Sum.inr (nI v)) := by
    refine zloop_me (Q := fun m x => ∃ i, m + i = 50 ∧ (yAf b i).1 = none ∧ x = nI (i + 1)) ?_ zfu 50 _ ⟨0, by omega, rfl, rfl⟩ (zfu_lt (by omega))
    rintro m x ⟨i, hi, hn, rfl⟩
    unfold qRu_firstBurstYear_b2
    by_cases h1 : i < 50
    · have b7 := J.2.2.2.1 (i + 1)
      rw [if_neg (show ¬ (50 : Int32) < nI (i + 1) from nI_nlt (a := 50) (by omega) (by decide)), zix_nI (by omega) (by omega), Option.bind_some, cS_4 (by omega), J.2.2.1 (i + 1) (by omega)]
      by_cases h0 : b (i + 1) = 0
      · rw [h0, if_pos (show nI 0 ≤ 0 by decide), nI_1]
        refine Or.inr ⟨m - 1, _, rfl, by omega, i + 1, by omega, ?_, rfl⟩
        rw [yAf_s, yAfS_0 h0]; exact hn
      · rw [if_neg (nI_nle (by omega) (by omega))]
        refine Or.inl ⟨_, rfl, ?_⟩
        have e1 : (yAf b (i + 1)).1 = some (i + 1) := by
          rw [yAf_s]
          unfold yAfS
          dsimp only
          rw [if_pos ⟨hn, by omega⟩]
        have e2 := yAf_1 e1 (50 - (i + 1))
        rw [show i + 1 + (50 - (i + 1)) = 50 by omega] at e2
        rw [e2]
    · have ei : i = 50 := by omega
      subst ei
      rw [if_pos (show (50 : Int32) < nI (50 + 1) from nI_lt (a := 50) (by omega) (by decide)), hn]
      exact Or.inl ⟨_, rfl, rfl⟩
  obtain ⟨t, e1, rfl⟩ := key
  unfold qRu_firstBurstYear
  rw [e1, Option.bind_some]
  cases (yAf b 50).1 <;> rfl
theorem qRu_mostBurstYear_ev {y : Nat} {b : Nat → Nat} (J : yJ n y b τ) : qRu_mostBurstYear 166 (lS (wLc n 166) h τ) = some (wO (yAf b 50).2.1) := by
  have e : zloop (qRu_mostBurstYear_b6 166 (lS (wLc n 166) h τ)) zfu (0, -1, 1) = some (wO (yAf b 50).2.1) := by
    refine zloop_for (fun i => (nI (yAf b i).2.2, wO (yAf b i).2.1, nI (i + 1))) 50 (fun i hi => ?_) ?_ (zfu_lt (by omega))
    · unfold qRu_mostBurstYear_b6
      dsimp only
      have b7 := J.2.2.2.1 (i + 1)
      have am := yAf_m J.2.2.2.1 i
      rw [if_neg (show ¬ (50 : Int32) < nI (i + 1) from nI_nlt (a := 50) (by omega) (by decide)), zix_nI (by omega) (by omega), Option.bind_some, cS_4 (by omega), J.2.2.1 (i + 1) (by omega), nI_1, yAf_s]
      simp only [zlet]
      unfold yAfS
      by_cases h0 : (yAf b i).2.2 < b (i + 1)
      · rw [if_neg (nI_ge h0 (by omega)), if_pos h0, if_pos h0]
        rfl
      · rw [if_pos (nI_le (by omega) (by omega)), if_neg h0, if_neg h0]
    · unfold qRu_mostBurstYear_b6
      dsimp only
      rw [if_pos (show (50 : Int32) < nI (50 + 1) from nI_lt (a := 50) (by omega) (by decide))]
  unfold qRu_mostBurstYear
  rw [e]; rfl
end AFTER3
theorem wo_after {h : zK} (H : InvB h) (a b x : Int32) : ∃ w h1 h2, qC_after a b x h = some (w, h1) ∧ qM_after a b x h1 = some (w, h2) := by
  have e5' : nI 6 - 1 = (5 : Int32) := by decide
  unfold qC_after
  rcases wlay H a b with ⟨m1, m2, m3⟩ | ⟨k, c, ky, d, hk, rfl, c1, c2, e1, e2, hky, rfl, d1, d2, d3, d4, e5⟩
  · obtain ⟨h2, q⟩ := m1 (sI h 215 0 0) (wEq_s (by unfold wKp; omega))
    refine ⟨-2, h, h2, ?_, by unfold qM_after; simp only [zlet]; rw [q, Option.bind_some]; rfl⟩
    rcases m2 with m2 | ⟨⟨v, m4⟩, m5⟩
    · obtain ⟨z, hz⟩ := m3 m2
      rw [m2, Option.bind_some, hz, Option.bind_some]
      cases z with
      | none => rfl
      | some v => rfl
    · rw [m4, Option.bind_some, m5, Option.bind_some]
      rfl
  · obtain ⟨h1, b1, b2, b3, b4⟩ := qRu_begin_ev (o := 166) (Or.inl rfl) e2 c2 c1
    have dc1 : dC h1 (15 + 15 * ky) d := ⟨(congrFun (b4 _ (by omega)) _).trans d2.1, fun r i hr hi => (congrFun (b4 _ (by omega)) _).trans (d2.2 r i hr hi)⟩
    have F := qRu_follow_ev (σ := wS0 c) b2 c1 (wS0_ok c1) d4 dc1 d1 (Nat.le_refl _)
    rw [b3] at F
    have eq2 := wEq_2 (wEq2_f (f_qRu_begin (by rcases e2 with e | e <;> rw [e] <;> decide) b1) (by decide))
    have eq3 := wEq_2 (wEq2_f (f_qRu_follow (by rcases d4 with e | e <;> rw [e] <;> decide) F) (by decide))
    obtain ⟨q, hq⟩ : ∃ q, q = spQ (nI c.2.2.1) (nI c.2.1) c d (wS0 c) d.1 := ⟨_, rfl⟩
    obtain ⟨τ, hτ⟩ : ∃ τ, τ = spSt (nI c.2.2.1) (nI c.2.1) c d (wS0 c) q := ⟨_, rfl⟩
    rw [← hq, ← hτ] at F
    have eq3' : wEq h1 (lS (wLc c.1 166) h1 τ) := by rw [hτ, hq]; exact eq3
    obtain ⟨h2, g1, g2, g3, g4, g5, g6⟩ := e5 (sI (lS (wLc c.1 166) h1 τ) 215 0 0) (wEq_t (wEq_t eq2 eq3') (wEq_s (by unfold wKp; omega)))
    obtain ⟨t, P, y, bb, J, rfl⟩ := qM_after_loop (re := nI c.2.2.1) (sh := nI c.2.1) g2 ⟨g3.1, g3.2⟩ c1 hky g5 g6 d1 x
    rw [mB3_l g4, ← hq, ← hτ] at P
    rw [← hq, ← hτ] at J
    have a50 := yAf_st J.2.2.2.2.1 (50 - y)
    rw [show y + (50 - y) = 50 by have := J.1; omega] at a50
    have w6 : gI (lS (wLm c.1) h2 τ) 215 32 = τ.1 6 := lS_sc (wLm_ok c.1) (i := 6) (show 6 < 7 by decide) rfl
    simp only [e1, d3, Option.bind_some]
    rw [if_pos e2, b1, Option.bind_some, if_pos d4, dc1.1, F, Option.bind_some]
    dsimp only
    rw [qRu_firstBurstYear_ev J, qRu_mostBurstYear_ev J, a50, cS_g (i := 7) (f := 6) (by decide) rfl, cS_g (i := 6) (f := 7) (by decide) rfl, cS_g (i := 8) (f := 8) (by decide) rfl, cS_g (i := 9) (f := 9) (by decide) rfl]
    rcases zf_in_n (m := 6) (by omega) x with ⟨j, hj, rfl, hz⟩ | ⟨hx, hz⟩
    · rw [e5'] at hz
      have fin : ∀ w : Int32, qM_after (nI k) (nI ky) (nI j) (lS (wLc c.1 166) h1 τ) = some (w, lS (wLm c.1) h2 τ) → ∃ w' h1' h2', some (w, lS (wLc c.1 166) h1 τ) = some (w', h1') ∧ qM_after (nI k) (nI ky) (nI j) h1' = some (w', h2') := fun w e => ⟨w, _, _, rfl, e⟩
      have rf : qM_after (nI k) (nI ky) (nI j) (lS (wLc c.1 166) h1 τ) = (if nI j = 0 then some (wO (yAf bb y).1, lS (wLm c.1) h2 τ) else if nI j = 1 then some (wO (yAf bb y).2.1, lS (wLm c.1) h2 τ) else if nI j = 2 then some (τ.1 7, lS (wLm c.1) h2 τ) else if nI j = 3 then some (τ.1 6, lS (wLm c.1) h2 τ) else if nI j = 4 then some (τ.1 8, lS (wLm c.1) h2 τ) else some (τ.1 9, lS (wLm c.1) h2 τ)) := by
        unfold qM_after
        simp only [zlet]
        rw [g1, Option.bind_some]
        dsimp only
        rw [if_neg (show ¬ (1 : Int32) = 0 by decide), hz, if_pos (show ¬ (1 : Int32) = 0 by decide), P, Option.bind_some]
        unfold yRe
        dsimp only
        rw [w6]
      rcases (by omega : j = 0 ∨ j = 1 ∨ j = 2 ∨ j = 3 ∨ j = 4 ∨ j = 5) with rfl | rfl | rfl | rfl | rfl | rfl
      · rw [if_pos (show nI 0 = 0 from rfl), Option.bind_some]
        rw [if_pos (show nI 0 = 0 from rfl)] at rf
        exact fin _ rf
      · rw [if_neg (show ¬ nI 1 = 0 by decide), if_pos (show nI 1 = 1 from rfl), Option.bind_some]
        rw [if_neg (show ¬ nI 1 = 0 by decide), if_pos (show nI 1 = 1 from rfl)] at rf
        exact fin _ rf
      · rw [if_neg (show ¬ nI 2 = 0 by decide), if_neg (show ¬ nI 2 = 1 by decide), if_pos (show nI 2 = 2 from rfl)]
        rw [if_neg (show ¬ nI 2 = 0 by decide), if_neg (show ¬ nI 2 = 1 by decide), if_pos (show nI 2 = 2 from rfl)] at rf
        exact fin _ rf
      · rw [if_neg (show ¬ nI 3 = 0 by decide), if_neg (show ¬ nI 3 = 1 by decide), if_neg (show ¬ nI 3 = 2 by decide), if_pos (show nI 3 = 3 from rfl)]
        rw [if_neg (show ¬ nI 3 = 0 by decide), if_neg (show ¬ nI 3 = 1 by decide), if_neg (show ¬ nI 3 = 2 by decide), if_pos (show nI 3 = 3 from rfl)] at rf
        exact fin _ rf
      · rw [if_neg (show ¬ nI 4 = 0 by decide), if_neg (show ¬ nI 4 = 1 by decide), if_neg (show ¬ nI 4 = 2 by decide), if_neg (show ¬ nI 4 = 3 by decide), if_pos (show nI 4 = 4 from rfl)]
        rw [if_neg (show ¬ nI 4 = 0 by decide), if_neg (show ¬ nI 4 = 1 by decide), if_neg (show ¬ nI 4 = 2 by decide), if_neg (show ¬ nI 4 = 3 by decide), if_pos (show nI 4 = 4 from rfl)] at rf
        exact fin _ rf
      · rw [if_neg (show ¬ nI 5 = 0 by decide), if_neg (show ¬ nI 5 = 1 by decide), if_neg (show ¬ nI 5 = 2 by decide), if_neg (show ¬ nI 5 = 3 by decide), if_neg (show ¬ nI 5 = 4 by decide), if_pos (show nI 5 = 5 from rfl)]
        rw [if_neg (show ¬ nI 5 = 0 by decide), if_neg (show ¬ nI 5 = 1 by decide), if_neg (show ¬ nI 5 = 2 by decide), if_neg (show ¬ nI 5 = 3 by decide), if_neg (show ¬ nI 5 = 4 by decide)] at rf
        exact fin _ rf
    · rw [e5'] at hz
      refine ⟨-2, lS (wLc c.1 166) h1 τ, h2, ?_, ?_⟩
      · rw [if_neg (show ¬ x = (0 : Int32) from wne (r := 0) (by omega) (by omega) hx), if_neg (show ¬ x = (1 : Int32) from wne (r := 1) (by omega) (by omega) hx), if_neg (show ¬ x = (2 : Int32) from wne (r := 2) (by omega) (by omega) hx), if_neg (show ¬ x = (3 : Int32) from wne (r := 3) (by omega) (by omega) hx), if_neg (show ¬ x = (4 : Int32) from wne (r := 4) (by omega) (by omega) hx), if_neg (show ¬ x = (5 : Int32) from wne (r := 5) (by omega) (by omega) hx)]
      · unfold qM_after
        simp only [zlet]
        rw [g1, Option.bind_some]
        dsimp only
        rw [if_neg (show ¬ (1 : Int32) = 0 by decide), hz]
        rfl
