/-! the state looked at; TILL, STATE -/
section TILL
variable {h hm : zK} {o oc oe k n s i : Nat} {c : wC} {re sh : Int32} {σ : wS} {d : wD}
theorem wlook (B : wBc h o oc c re sh) (ok : wCok c) (Bm : mB hm k c) (x : Int32) : ∃ v, qRu_look o x (lS (wLc c.1 o) h σ) = some v ∧ qM_ofState x (lS (wLm c.1) hm σ) = some v := by
  have n7 := ok.1
  have L := wLm_ok c.1
  have g : ∀ (i : Nat), i < 7 → gI (lS (wLm c.1) hm σ) 215 (26 + i) = σ.1 i := fun i hi => lS_sc (A := wLm c.1) (σ := σ) L hi rfl
  have gr : ∀ (r t : Nat), r < 4 → t < c.1 → gI (lS (wLm c.1) hm σ) (226 + r) t = σ.2 r t := fun r t hr ht => lS_rw (A := wLm c.1) (σ := σ) L hr rfl ht
  have cc : cC (lS (wLc c.1 o) h σ) oc c := cC_l B.1 B.2.1 B.2.2.2.2.2
  have e23 : gI (lS (wLm c.1) hm σ) 215 23 = nI c.1 := (lS_m (by omega)).trans Bm.2.2.1
  unfold qRu_look qM_ofState
  simp only [zlet]
  rw [gR_l, B.2.2.1, if_pos B.2.1, cS_g (i := 0) (f := 0) (by decide) rfl, cS_g (i := 1) (f := 11) (by decide) rfl, cS_g (i := 2) (f := 1) (by decide) rfl, cS_g (i := 3) (f := 2) (by decide) rfl, cS_g (i := 4) (f := 12) (by decide) rfl, cS_g (i := 5) (f := 13) (by decide) rfl, g 0 (by omega), g 1 (by omega), g 2 (by omega), g 3 (by omega), g 4 (by omega), g 5 (by omega), e23]
  by_cases hx : x < 0
  · have q : ∀ r, r < 6 → ¬ x = nI r := fun r hr e => by rw [e] at hx; exact nI_pos (by omega) hx
    refine ⟨-1, ?_, ?_⟩
    · rw [if_neg (show ¬ x = (0 : Int32) from q 0 (by omega)), if_neg (show ¬ x = (1 : Int32) from q 1 (by omega)), if_neg (show ¬ x = (2 : Int32) from q 2 (by omega)), if_neg (show ¬ x = (3 : Int32) from q 3 (by omega)), if_neg (show ¬ x = (4 : Int32) from q 4 (by omega)), if_neg (show ¬ x = (5 : Int32) from q 5 (by omega)), if_pos hx]
    · have h10 : x < 10 := by
        rw [Int32.lt_iff_toInt_lt] at hx ⊢
        have e0 : (0 : Int32).toInt = 0 := rfl
        have e1 : (10 : Int32).toInt = 10 := rfl
        omega
      rw [if_pos h10, if_neg (show ¬ x = (0 : Int32) from q 0 (by omega)), if_neg (show ¬ x = (1 : Int32) from q 1 (by omega)), if_neg (show ¬ x = (2 : Int32) from q 2 (by omega)), if_neg (show ¬ x = (3 : Int32) from q 3 (by omega)), if_neg (show ¬ x = (4 : Int32) from q 4 (by omega)), if_neg (show ¬ x = (5 : Int32) from q 5 (by omega))]
  · obtain ⟨w, hw, rfl⟩ := nI_of hx
    by_cases w6 : w < 6
    · refine ⟨σ.1 w, ?_, ?_⟩
      · rcases (by omega : w = 0 ∨ w = 1 ∨ w = 2 ∨ w = 3 ∨ w = 4 ∨ w = 5) with rfl | rfl | rfl | rfl | rfl | rfl <;> rfl
      · rw [if_pos (show nI w < (10 : Int32) from nI_lt (b := 10) (by omega) (by decide))]
        rcases (by omega : w = 0 ∨ w = 1 ∨ w = 2 ∨ w = 3 ∨ w = 4 ∨ w = 5) with rfl | rfl | rfl | rfl | rfl | rfl <;> rfl
    · have q : ∀ r, r < 6 → ¬ nI w = nI r := fun r hr e => by rw [nI_eq hw (by omega)] at e; omega
      have er : nI w - nI w / 10 * 10 = nI (w % 10) := nI_rem (b := 10) hw (by omega)
      have ed : nI w / 10 = nI (w / 10) := nI_div (b := 10) hw (by omega)
      have hr : w % 10 < 10 := Nat.mod_lt _ (by omega)
      have hdv := Nat.div_add_mod w 10
      rw [if_neg (show ¬ nI w = (0 : Int32) from q 0 (by omega)), if_neg (show ¬ nI w = (1 : Int32) from q 1 (by omega)), if_neg (show ¬ nI w = (2 : Int32) from q 2 (by omega)), if_neg (show ¬ nI w = (3 : Int32) from q 3 (by omega)), if_neg (show ¬ nI w = (4 : Int32) from q 4 (by omega)), if_neg (show ¬ nI w = (5 : Int32) from q 5 (by omega)), if_neg hx, er, ed]
      by_cases w10 : w < 10
      · refine ⟨-1, ?_, ?_⟩
        · have e0 : w / 10 = 0 := by omega
          rw [e0, if_neg (show ¬ nI 0 = (1 : Int32) by decide), if_neg (show ¬ nI 0 = (2 : Int32) by decide), if_neg (show ¬ nI 0 = (3 : Int32) by decide), if_neg (show ¬ nI 0 = (4 : Int32) by decide)]
          split <;> rfl
        · rw [if_pos (show nI w < (10 : Int32) from nI_lt (b := 10) w10 (by decide)), if_neg (show ¬ nI w = (0 : Int32) from q 0 (by omega)), if_neg (show ¬ nI w = (1 : Int32) from q 1 (by omega)), if_neg (show ¬ nI w = (2 : Int32) from q 2 (by omega)), if_neg (show ¬ nI w = (3 : Int32) from q 3 (by omega)), if_neg (show ¬ nI w = (4 : Int32) from q 4 (by omega)), if_neg (show ¬ nI w = (5 : Int32) from q 5 (by omega))]
      · rw [if_neg (show ¬ nI w < (10 : Int32) from nI_nlt (b := 10) (by omega) hw)]
        rcases qCe_has_ev cc n7 (nI (w % 10)) with ⟨s, hs, es, hz, -⟩ | ⟨hq, hz, -⟩
        · rw [nI_eq (by omega) (by omega)] at es
          rw [hz, if_pos (show ¬ (1 : Int32) = 0 by decide), es, zix_nI (by omega) (by omega), if_neg (nI_ge hs (by omega))]
          simp only [Option.bind_some]
          rw [cS_r (r := 0) (a := 10) (by decide) rfl hs, cS_r (r := 1) (a := 11) (by decide) rfl hs, cS_r (r := 2) (a := 12) (by decide) rfl hs, cS_r (r := 3) (a := 13) (by decide) rfl hs, gr 0 s (by omega) hs, gr 1 s (by omega) hs, gr 2 s (by omega) hs, gr 3 s (by omega) hs]
          by_cases w50 : w < 50
          · rw [if_pos (show nI w < (50 : Int32) from nI_lt (b := 50) w50 (by decide))]
            rcases (by omega : w / 10 = 1 ∨ w / 10 = 2 ∨ w / 10 = 3 ∨ w / 10 = 4) with e | e | e | e
            · refine ⟨σ.2 0 s, by rw [e]; rfl, ?_⟩
              rw [if_neg (show ¬ (20 : Int32) ≤ nI w from nI_ge (b := 20) (by omega) (by decide))]
            · refine ⟨σ.2 1 s, by rw [e]; rfl, ?_⟩
              rw [if_pos (show (20 : Int32) ≤ nI w from nI_le (a := 20) (by omega) hw), if_neg (show ¬ (30 : Int32) ≤ nI w from nI_ge (b := 30) (by omega) (by decide))]
            · refine ⟨σ.2 2 s, by rw [e]; rfl, ?_⟩
              rw [if_pos (show (20 : Int32) ≤ nI w from nI_le (a := 20) (by omega) hw), if_pos (show (30 : Int32) ≤ nI w from nI_le (a := 30) (by omega) hw), if_neg (show ¬ (40 : Int32) ≤ nI w from nI_ge (b := 40) (by omega) (by decide))]
            · refine ⟨σ.2 3 s, by rw [e]; rfl, ?_⟩
              rw [if_pos (show (20 : Int32) ≤ nI w from nI_le (a := 20) (by omega) hw), if_pos (show (30 : Int32) ≤ nI w from nI_le (a := 30) (by omega) hw), if_pos (show (40 : Int32) ≤ nI w from nI_le (a := 40) (by omega) hw)]
          · have qq : ∀ r, r < 5 → ¬ nI (w / 10) = nI r := fun r hr e => by rw [nI_eq (by omega) (by omega)] at e; omega
            refine ⟨-1, ?_, ?_⟩
            · rw [if_neg (show ¬ nI (w / 10) = (1 : Int32) from qq 1 (by omega)), if_neg (show ¬ nI (w / 10) = (2 : Int32) from qq 2 (by omega)), if_neg (show ¬ nI (w / 10) = (3 : Int32) from qq 3 (by omega)), if_neg (show ¬ nI (w / 10) = (4 : Int32) from qq 4 (by omega))]
            · rw [if_neg (show ¬ nI w < (50 : Int32) from nI_nlt (b := 50) (by omega) hw)]
        · have hqn : c.1 ≤ w % 10 := by
            rcases hq with hq | ⟨j, h1, h2', hq⟩
            · exact absurd hq (nI_pos (by omega))
            · rw [nI_eq (by omega) h2'] at hq; omega
          refine ⟨-1, ?_, ?_⟩
          · rw [hz, if_neg (show ¬ ¬ (0 : Int32) = 0 by decide)]
          · rw [if_pos (nI_le hqn (by omega))]
end TILL
/-- class and reference on the way to years of a cellar -/
theorem wlay {h : zK} (H : InvB h) (a b : Int32) : (∀ h', wEq h h' → ∃ h2, qM_layAll a b h' = some (0, h2)) ∧ ((qT_cellarAt a h = some none) ∨ (∃ v, qT_cellarAt a h = some (some v)) ∧ qT_deedsAt b h = some none) ∧ (qT_cellarAt a h = some none → ∃ z, qT_deedsAt b h = some z) ∨ ∃ k c ky d, k < 2 ∧ a = nI k ∧ wCok c ∧ cC h (7 + 15 * k) c ∧ qT_cellarAt a h = some (some (7 + 15 * k)) ∧ (7 + 15 * k = 7 ∨ 7 + 15 * k = 22) ∧ ky < 2 ∧ b = nI ky ∧ wDok d ∧ dC h (15 + 15 * ky) d ∧ qT_deedsAt b h = some (some (15 + 15 * ky)) ∧ (15 + 15 * ky = 15 ∨ 15 + 15 * ky = 30) ∧ ∀ h', wEq h h' → ∃ h2, qM_layAll a b h' = some (1, h2) ∧ mB h2 k c ∧ mB2 h2 c ∧ mB3 h2 c ∧ gI h2 215 37 = nI ky ∧ dM h2 (121 * ky) d := by
  have hdz : ∃ z, qT_deedsAt b h = some z := by
    rcases wdeed H b with ⟨d1, -⟩ | ⟨ky, d, -, rfl, -, -, -, d1, -⟩
    · exact ⟨_, d1⟩
    · exact ⟨_, d1⟩
  rcases wdeed H b with ⟨d1, d2⟩ | ⟨ky, d, hky, rfl, d1, d2, d3, d4, d5, d6⟩
  · left
    refine ⟨fun h' e => ?_, ?_, fun _ => hdz⟩
    · unfold qM_layAll
      rw [d2 h' e, Option.bind_some]
      exact ⟨_, rfl⟩
    · rcases wcell H a with ⟨e1, -⟩ | ⟨k, c, -, rfl, -, -, -, e1, -⟩
      · exact Or.inl e1
      · exact Or.inr ⟨⟨_, e1⟩, d1⟩
  · rcases wcell H a with ⟨e1, e2⟩ | ⟨k, c, hk, rfl, c1, c2, c3, e1, e2, e4⟩
    · left
      refine ⟨fun h' e => ?_, Or.inl e1, fun _ => hdz⟩
      unfold qM_layAll
      rw [d6 h' e, Option.bind_some]
      dsimp only
      rw [if_neg (show ¬ (1 : Int32) = 0 by decide), e2 _ (wEq_t e (wEq_s (by unfold wKp; omega))), Option.bind_some]
      exact ⟨_, rfl⟩
    · right
      refine ⟨k, c, ky, d, hk, rfl, c1, c2, e1, e2, hky, rfl, d1, d2, d4, d5, fun h' e => ?_⟩
      obtain ⟨h2, q1, q2, q3, q4, q5⟩ := e4 (sI h' 215 37 (nI ky)) (wEq_t e (wEq_s (by unfold wKp; omega)))
      have F := f_qM_hand q1
      refine ⟨h2, ?_, q2, q3, q4, ?_, ?_⟩
      · unfold qM_layAll
        rw [d6 h' e, Option.bind_some]
        dsimp only
        rw [if_neg (show ¬ (1 : Int32) = 0 by decide), q1, Option.bind_some]
        rfl
      · rw [q5 37 (by omega)]; rfl
      · have e5 : wEq h h2 := wEq_t (wEq_t e (wEq_s (by unfold wKp; omega))) (wEq_2 (wEq2_f F (by decide)))
        exact dM_eq e5 d3
theorem wo_till {h : zK} (H : InvB h) (a b : Int32) : ∃ w h1 h2, qC_till a b h = some (w, h1) ∧ qM_till a b h1 = some (w, h2) := by
  unfold qC_till qM_till
  simp only [zlet]
  rcases wlay H a b with ⟨m1, m2, m3⟩ | ⟨k, c, ky, d, hk, rfl, c1, c2, e1, e2, hky, rfl, d1, d2, d3, d4, e5⟩
  · obtain ⟨h2, q⟩ := m1 (sI h 215 0 0) (wEq_s (by unfold wKp; omega))
    refine ⟨-1, h, h2, ?_, by rw [q, Option.bind_some]; rfl⟩
    rcases m2 with m2 | ⟨⟨v, m4⟩, m5⟩
    · obtain ⟨z, hz⟩ := m3 m2
      rw [m2, Option.bind_some, hz, Option.bind_some]
      cases z with
      | none => rfl
      | some v => rfl
    · rw [m4, Option.bind_some, m5, Option.bind_some]
      rfl
  · obtain ⟨h1, b1, b2, b3, b4⟩ := qRu_begin_ev (o := 166) (Or.inl rfl) e2 c2 c1
    have dc1 : dC h1 (15 + 15 * ky) d := ⟨(congrFun (b4 _ (by omega)) _).trans d2.1, fun r i hr hi => (congrFun (b4 _ (by omega)) _).trans (d2.2 r i hr hi)⟩
    have F := qRu_follow_ev (σ := wS0 c) b2 c1 (wS0_ok c1) d4 dc1 d1 (Nat.le_refl _)
    rw [b3] at F
    have eq2 := wEq_2 (wEq2_f (f_qRu_begin (by rcases e2 with e | e <;> rw [e] <;> decide) b1) (by decide))
    have eq3 := wEq_2 (wEq2_f (f_qRu_follow (by rcases d4 with e | e <;> rw [e] <;> decide) F) (by decide))
    obtain ⟨q, hq⟩ : ∃ q, q = spQ (nI c.2.2.1) (nI c.2.1) c d (wS0 c) d.1 := ⟨_, rfl⟩
    obtain ⟨τ, hτ⟩ : ∃ τ, τ = spSt (nI c.2.2.1) (nI c.2.1) c d (wS0 c) q := ⟨_, rfl⟩
    rw [← hq, ← hτ] at F
    have eq3' : wEq h1 (lS (wLc c.1 166) h1 τ) := by rw [hτ, hq]; exact eq3
    obtain ⟨h2, g1, g2, g3, g4, g5, g6⟩ := e5 (sI (lS (wLc c.1 166) h1 τ) 215 0 0) (wEq_t (wEq_t eq2 eq3') (wEq_s (by unfold wKp; omega)))
    have P := qM_play_ev (re := nI c.2.2.1) (sh := nI c.2.1) (σ := wS0 c) g2 ⟨g3.1, g3.2⟩ c1 (wS0_ok c1) hky g5 g6 d1 (Nat.le_refl _)
    rw [mB3_l g4, ← hq, ← hτ] at P
    have m0 : qM_deeds h2 = some (nI d.1) := by
      unfold qM_deeds
      rw [g5, show (121 : Int32) = nI 121 from rfl, nI_mul, zix_nI (by omega) (by omega), Option.bind_some]
      exact congrArg some g6.1
    refine ⟨nI q, lS (wLc c.1 166) h1 τ, lS (wLm c.1) h2 τ, ?_, ?_⟩
    · simp only [e1, d3, Option.bind_some]
      rw [if_pos e2, b1, Option.bind_some, if_pos d4, dc1.1, F, Option.bind_some]
    · rw [g1, Option.bind_some]
      dsimp only
      rw [if_neg (show ¬ (1 : Int32) = 0 by decide), m0, Option.bind_some, P, Option.bind_some]
theorem wo_state {h : zK} (H : InvB h) (a b x y : Int32) : ∃ w h1 h2, qC_state a b x y h = some (w, h1) ∧ qM_state a b x y h1 = some (w, h2) := by
  unfold qC_state qM_state
  simp only [zlet]
  rcases wlay H a b with ⟨m1, m2, m3⟩ | ⟨k, c, ky, d, hk, rfl, c1, c2, e1, e2, hky, rfl, d1, d2, d3, d4, e5⟩
  · obtain ⟨h2, q⟩ := m1 (sI h 215 0 0) (wEq_s (by unfold wKp; omega))
    refine ⟨-1, h, h2, ?_, by rw [q, Option.bind_some]; rfl⟩
    rcases m2 with m2 | ⟨⟨v, m4⟩, m5⟩
    · obtain ⟨z, hz⟩ := m3 m2
      rw [m2, Option.bind_some, hz, Option.bind_some]
      cases z with
      | none => rfl
      | some v => rfl
    · rw [m4, Option.bind_some, m5, Option.bind_some]
      rfl
  · simp only [e1, d3, Option.bind_some, if_pos e2, if_pos d4]
    rw [d2.1]
    have hd := d1.1
    have m0 : ∀ g : zK, gI g 215 37 = nI ky → dM g (121 * ky) d → qM_deeds g = some (nI d.1) := fun g g5 g6 => by
      unfold qM_deeds
      rw [g5, show (121 : Int32) = nI 121 from rfl, nI_mul, zix_nI (by omega) (by omega), Option.bind_some]
      exact congrArg some g6.1
    rcases zf_in_n (m := d.1 + 1) (by omega) x with ⟨m, hm, rfl, hz⟩ | ⟨hxx, hz⟩
    · rw [nI_pred] at hz
      rw [if_neg (nI_pos (by omega)), if_pos (nI_le (by omega) (by omega))]
      obtain ⟨h1, b1, b2, b3, b4⟩ := qRu_begin_ev (o := 166) (Or.inl rfl) e2 c2 c1
      have dc1 : dC h1 (15 + 15 * ky) d := ⟨(congrFun (b4 _ (by omega)) _).trans d2.1, fun r i hr hi => (congrFun (b4 _ (by omega)) _).trans (d2.2 r i hr hi)⟩
      have F := qRu_follow_ev (σ := wS0 c) b2 c1 (wS0_ok c1) d4 dc1 d1 (m := m) (by omega)
      rw [b3] at F
      have eq2 := wEq_2 (wEq2_f (f_qRu_begin (by rcases e2 with e | e <;> rw [e] <;> decide) b1) (by decide))
      have eq3 := wEq_2 (wEq2_f (f_qRu_follow (by rcases d4 with e | e <;> rw [e] <;> decide) F) (by decide))
      obtain ⟨q, hq⟩ : ∃ q, q = spQ (nI c.2.2.1) (nI c.2.1) c d (wS0 c) m := ⟨_, rfl⟩
      obtain ⟨τ, hτ⟩ : ∃ τ, τ = spSt (nI c.2.2.1) (nI c.2.1) c d (wS0 c) q := ⟨_, rfl⟩
      rw [← hq, ← hτ] at F
      have eq3' : wEq h1 (lS (wLc c.1 166) h1 τ) := by rw [hτ, hq]; exact eq3
      have hqm : q ≤ m := by rw [hq]; exact fa_first_le _ _
      obtain ⟨h2, g1, g2, g3, g4, g5, g6⟩ := e5 (sI (lS (wLc c.1 166) h1 τ) 215 0 0) (wEq_t (wEq_t eq2 eq3') (wEq_s (by unfold wKp; omega)))
      have P := qM_play_ev (re := nI c.2.2.1) (sh := nI c.2.1) (σ := wS0 c) g2 ⟨g3.1, g3.2⟩ c1 (wS0_ok c1) hky g5 g6 d1 (m := m) (by omega)
      rw [mB3_l g4, ← hq, ← hτ] at P
      obtain ⟨v, v1, v2⟩ := wlook (σ := τ) b2 c1 g2 y
      rw [b1, Option.bind_some, F, Option.bind_some]
      dsimp only
      by_cases hqq : q = m
      · rw [hqq, if_pos (nI_le (Nat.le_refl _) (by omega)), v1, Option.bind_some]
        refine ⟨v, lS (wLc c.1 166) h1 τ, lS (wLm c.1) h2 τ, rfl, ?_⟩
        rw [g1, Option.bind_some]
        dsimp only
        rw [if_neg (show ¬ (1 : Int32) = 0 by decide), m0 h2 g5 g6, Option.bind_some, hz, if_neg (show ¬ (1 : Int32) = 0 by decide), P, Option.bind_some]
        dsimp only
        rw [hqq, if_neg (show ¬ ¬ nI m = nI m from fun z => z rfl), v2, Option.bind_some]
      · rw [if_neg (nI_ge (by omega) (by omega))]
        refine ⟨-1, lS (wLc c.1 166) h1 τ, lS (wLm c.1) h2 τ, rfl, ?_⟩
        rw [g1, Option.bind_some]
        dsimp only
        rw [if_neg (show ¬ (1 : Int32) = 0 by decide), m0 h2 g5 g6, Option.bind_some, hz, if_neg (show ¬ (1 : Int32) = 0 by decide), P, Option.bind_some]
        dsimp only
        rw [if_pos (show ¬ nI q = nI m from fun z => hqq ((nI_eq (by omega) (by omega)).mp z))]
    · rw [nI_pred] at hz
      obtain ⟨h2, g1, g2, g3, g4, g5, g6⟩ := e5 (sI h 215 0 0) (wEq_s (by unfold wKp; omega))
      refine ⟨-1, h, h2, ?_, ?_⟩
      · rcases hxx with hxx | ⟨j, j1, j2, rfl⟩
        · rw [if_pos hxx]
        · rw [if_neg (nI_pos j2), if_neg (nI_ge (by omega) j2)]
      · rw [g1, Option.bind_some]
        dsimp only
        rw [if_neg (show ¬ (1 : Int32) = 0 by decide), m0 h2 g5 g6, Option.bind_some, hz, if_pos rfl]
