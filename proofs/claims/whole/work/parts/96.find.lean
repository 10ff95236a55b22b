/-! LAWS: what the class learns and finds -/
section FIND
variable {h : zK} {o k n : Nat} {c : wC} {l : wLg}
def yHi (c : wC) (L : Nat) : Nat := yH (yB c L) 20
theorem gJ_sJ {h : zK} {a k : Nat} {v : Int64} {b j : Nat} : gJ (sJ h a k v) b j = if b = a ∧ j = k then v else gJ h b j := rfl
theorem gI_sJ {h : zK} {a k : Nat} {v : Int64} {b j : Nat} : gI (sJ h a k v) b j = gI h b j := rfl
theorem qLw_learn_law (hoc : o = 7 ∨ o = 22) (hc : cC h o c) (ok : wCok c) (hk : k < 2) (h6 : gI h 196 6 = nI (100 * k)) {L : Nat} (hL : L < 100) : ∃ h', qLw_learn_b2 o (nI L, h) = some (.inl (nI (L + 1), h')) ∧ (∀ a j, a < 100 → gI h' a j = gI h a j) ∧ gI h' 196 6 = nI (100 * k) ∧ gJ h' 212 (100 * k + L) = lN (yHi c L) ∧ ∀ j, j ≠ 100 * k + L → gJ h' 212 j = gJ h 212 j := by
  have n7 := ok.1
  obtain ⟨h1, b1, b2, b3, b4⟩ := qRu_begin_ev (o := 198) (Or.inr rfl) hoc hc ok
  have F1 := f_qRu_begin (by omega) b1
  have d10 : nI L / 10 = nI (L / 10) := nI_div (b := 10) (by omega) (by omega)
  have m10 : nI L - nI (L / 10) * 10 = nI (L % 10) := by
    have := nI_rem (a := L) (b := 10) (by omega) (by omega)
    rw [show nI L / nI 10 = nI (L / 10) from d10] at this
    exact this
  let h4 : zK := sI (sI h1 198 3 (nI (L / 10))) 198 4 (nI (L % 10))
  have B4 : wBc h4 198 o c (nI (L / 10)) (nI (L % 10)) := by
    obtain ⟨q1, q2, q3, q4, q5, q6⟩ := b2
    refine ⟨q1, q2, q3, ?_, gI_eq, cC_g hoc (fun a j ha => ?_) q6⟩
    · show gI (sI (sI _ _ _ _) _ _ _) _ _ = _
      rw [gI_nk (by decide), gI_eq]
    · show gI (sI (sI _ _ _ _) _ _ _) _ _ = _
      rw [gI_ne (by omega), gI_ne (by omega)]
  have out3 : ∀ v σ g, sI (lS (wLc c.1 198) g σ) 198 3 v = lS (wLc c.1 198) (sI g 198 3 v) σ := fun v σ g => lS_out (fun i hi e => (wLc_n3 i hi).1 (Prod.mk.inj e).2) (fun r hr e => wLc_p r hr (by have : 198 + [10, 11, 12, 13, 1].getD r 100 = 198 := e; omega))
  have out4 : ∀ v σ g, sI (lS (wLc c.1 198) g σ) 198 4 v = lS (wLc c.1 198) (sI g 198 4 v) σ := fun v σ g => lS_out (fun i hi e => (wLc_n3 i hi).2 (Prod.mk.inj e).2) (fun r hr e => wLc_p r hr (by have : 198 + [10, 11, 12, 13, 1].getD r 100 = 198 := e; omega))
  have l4 : lS (wLc c.1 198) h4 (wS0 c) = h4 := by
    show lS (wLc c.1 198) (sI (sI h1 198 3 (nI (L / 10))) 198 4 (nI (L % 10))) (wS0 c) = sI (sI h1 198 3 (nI (L / 10))) 198 4 (nI (L % 10))
    rw [← out4, ← out3, b3]
  have P := qRu_passYears_ev B4 ok (m := 20) (by omega)
  rw [l4] at P
  have P' : qRu_passYears 198 20 h4 = some (lS (wLc c.1 198) h4 (yLy c L 20)) := P
  have F2 := f_qRu_passYears (Or.inr rfl) P'
  have hb := yB_7 (L := L) ok
  have hist : ∀ x2, zloop (qLw_learn_b52 o x2 (lS (wLc c.1 198) h4 (yLy c L 20))) zfu (0, 1) = some (lN (yHi c L)) := fun x2 => by
    refine zloop_for (fun i => (lN (yH (yB c L) i), nI (i + 1))) 20 (fun i hi => ?_) ?_ (zfu_lt (by omega))
    · unfold qLw_learn_b52
      dsimp only
      have r4 : gI (lS (wLc c.1 198) h4 (yLy c L 20)) 199 (i + 1) = nI (yB c L (i + 1)) := (cS_4 (n := c.1) (o := 198) (h := h4) (τ := yLy c L 20) (t := i + 1) (by omega)).trans (yB_4 ok (by omega) (by omega) (by omega))
      rw [if_neg (show ¬ (20 : Int32) < nI (i + 1) from nI_nlt (a := 20) (by omega) (by decide)), zix_nI (by omega) (by omega), Option.bind_some, r4, show (3 : Int32) = nI 3 from rfl, nI_mul, yH_or hb hi, nI_1]
    · unfold qLw_learn_b52
      dsimp only
      rw [if_pos (show (20 : Int32) < nI (20 + 1) from nI_lt (a := 20) (by omega) (by decide))]
      rfl
  have g6 : gI (lS (wLc c.1 198) h4 (yLy c L 20)) 196 6 = nI (100 * k) := by
    rw [← h6]
    have a1 : gI (lS (wLc c.1 198) h4 (yLy c L 20)) 196 6 = gI h4 196 6 := congrFun (F2.2.1 196 (by decide)) 6
    have a2 : gI h4 196 6 = gI h1 196 6 := by
      show gI (sI (sI _ _ _ _) _ _ _) _ _ = _
      rw [gI_ne (by decide), gI_ne (by decide)]
    rw [a1, a2]
    exact congrFun (F1.2.1 196 (by decide)) 6
  have j0 : ∀ j, gJ (lS (wLc c.1 198) h4 (yLy c L 20)) 212 j = gJ h 212 j := fun j => by
    have a1 : gJ (lS (wLc c.1 198) h4 (yLy c L 20)) 212 j = gJ h4 212 j := congrFun (F2.2.2 212 (by decide)) j
    rw [a1]
    exact congrFun (F1.2.2 212 (by decide)) j
  refine ⟨sJ (lS (wLc c.1 198) h4 (yLy c L 20)) 212 (100 * k + L) (lN (yHi c L)), ?_, fun a j ha => ?_, ?_, ?_, fun j hj => ?_⟩
  · unfold qLw_learn_b2
    simp only [zlet]
    rw [if_neg (show ¬ (100 : Int32) ≤ nI L from nI_ge (b := 100) hL (by decide)), b1, Option.bind_some, d10, m10]
    show ((qRu_passYears 198 20 h4).bind _) = _
    rw [P', Option.bind_some, hist, Option.bind_some, g6, nI_add, zix_nI (by omega) (by omega), Option.bind_some, nI_1]
  · rw [gI_sJ, lS_c (Or.inr rfl) ha]
    show gI (sI (sI _ _ _ _) _ _ _) _ _ = _
    rw [gI_ne (by omega), gI_ne (by omega)]
    exact congrFun (b4 a ha) j
  · rw [gI_sJ]; exact g6
  · rw [gJ_sJ, if_pos ⟨rfl, rfl⟩]
  · rw [gJ_sJ, if_neg (fun z => hj z.2)]; exact j0 j
theorem qLw_learn_ev (hoc : o = 7 ∨ o = 22) (hc : cC h o c) (ok : wCok c) (hk : k < 2) (h6 : gI h 196 6 = nI (100 * k)) : ∃ h', qLw_learn o h = some h' ∧ (∀ a j, a < 100 → gI h' a j = gI h a j) ∧ gI h' 196 6 = nI (100 * k) ∧ (∀ L, L < 100 → gJ h' 212 (100 * k + L) = lN (yHi c L)) ∧ ∀ j, (j < 100 * k ∨ 100 * k + 100 ≤ j) → gJ h' 212 j = gJ h 212 j := by
  have key : ∃ x, zloop (qLw_learn_b2 o) zfu (0, h) = some x ∧ ((∀ a j, a < 100 → gI x a j = gI h a j) ∧ gI x 196 6 = nI (100 * k) ∧ (∀ L, L < 100 → gJ x 212 (100 * k + L) = lN (yHi c L)) ∧ ∀ j, (j < 100 * k ∨ 100 * k + 100 ≤ j) → gJ x 212 j = gJ h 212 j) := by
    refine zloop_fx (S := fun i x => ∃ g, x = (nI i, g) ∧ (∀ a j, a < 100 → gI g a j = gI h a j) ∧ gI g 196 6 = nI (100 * k) ∧ (∀ L, L < i → gJ g 212 (100 * k + L) = lN (yHi c L)) ∧ ∀ j, (j < 100 * k ∨ 100 * k + 100 ≤ j) → gJ g 212 j = gJ h 212 j) 100 ?_ ?_ (zfu_lt (by omega)) ⟨h, rfl, fun _ _ _ => rfl, h6, fun L hL => absurd hL (Nat.not_lt_zero _), fun _ _ => rfl⟩
    · rintro i x hi ⟨g, rfl, g1, g2, g3, g4⟩
      obtain ⟨h', e1, e2, e3, e4, e5⟩ := qLw_learn_law hoc (cC_g hoc g1 hc) ok hk g2 hi
      refine ⟨_, e1, h', rfl, fun a j ha => (e2 a j ha).trans (g1 a j ha), e3, fun L hL => ?_, fun j hj => (e5 j (by omega)).trans (g4 j hj)⟩
      by_cases e : L = i
      · subst e; exact e4
      · rw [e5 _ (by omega)]; exact g3 L (by omega)
    · rintro x ⟨g, rfl, g1, g2, g3, g4⟩
      unfold qLw_learn_b2
      dsimp only
      rw [if_pos (show (100 : Int32) ≤ nI 100 from nI_le (a := 100) (Nat.le_refl _) (by decide))]
      exact ⟨_, rfl, g1, g2, g3, g4⟩
  obtain ⟨x, e1, e2⟩ := key
  refine ⟨x, ?_, e2⟩
  unfold qLw_learn
  rw [e1]; rfl
/-! which fit -/
def yFit (c : wC) (l : wLg) (L : Nat) : Bool := !decide (fa_first (fun i => !decide (yB c L (l.2 0 i) = l.2 1 i)) l.1 < l.1)
/-- the class's laws of cellar k stand -/
def yLs (h : zK) (k : Nat) (c : wC) : Prop := gI h 196 6 = nI (100 * k) ∧ ∀ L, L < 100 → gJ h 212 (100 * k + L) = lN (yHi c L)
theorem qLw_burstsBy_ev (ok : wCok c) (hk : k < 2) (S : yLs h k c) {L y : Nat} (hL : L < 100) (h1 : 1 ≤ y) (h2 : y ≤ 20) : qLw_burstsBy (nI L) (nI y) h = some (nI (yB c L y)) := by
  unfold qLw_burstsBy
  rw [S.1, nI_add, zix_nI (by omega) (by omega), Option.bind_some, S.2 L hL, show (3 : Int32) = nI 3 from rfl, nI_mul]
  exact congrArg some (yH_get (yB_7 ok) h1 h2)
theorem qLw_doesFit_ev {og : Nat} (ok : wCok c) (hk : k < 2) (S : yLs h k c) (lc : lC h og l) (lo : wLok l) {L : Nat} (hL : L < 100) : qLw_doesFit (nI L) og h = some (if yFit c l L then 1 else 0) := by
  have l8 := lo.1
  have fl := fa_first_le (fun i => !decide (yB c L (l.2 0 i) = l.2 1 i)) l.1
  have g0 : ∀ i, i < l.1 → gI h (og + 1) i = nI (l.2 0 i) := fun i hi => lc.2 0 i (by omega) hi
  have g1 : ∀ i, i < l.1 → gI h (og + 2) i = nI (l.2 1 i) := fun i hi => lc.2 1 i (by omega) hi
  have e : zloop (qLw_doesFit_b2 og (nI L) h) zfu 0 = some (if yFit c l L then Sum.inl () else Sum.inr 0) := by
    refine zloop_for (fun i => nI i) (fa_first (fun i => !decide (yB c L (l.2 0 i) = l.2 1 i)) l.1) (fun i hi => ?_) ?_ (zfu_lt (by omega))
    · have q := fa_first_no (fun i => !decide (yB c L (l.2 0 i) = l.2 1 i)) l.1 i hi
      obtain ⟨a1, a2, a3⟩ := lo.2 i (by omega)
      have q' : yB c L (l.2 0 i) = l.2 1 i := by simpa using q
      unfold qLw_doesFit_b2
      rw [lc.1, if_neg (nI_ge (show i < l.1 by omega) (by omega)), zix_nI (by omega) (by omega), Option.bind_some, g0 i (by omega), g1 i (by omega), qLw_burstsBy_ev ok hk S hL a1 a2, Option.bind_some, q', if_pos rfl, nI_1]
    · unfold qLw_doesFit_b2 yFit
      by_cases hl : fa_first (fun i => !decide (yB c L (l.2 0 i) = l.2 1 i)) l.1 < l.1
      · have q := fa_first_yes (fun i => !decide (yB c L (l.2 0 i) = l.2 1 i)) l.1 hl
        rw [decide_eq_true hl]
        generalize fa_first (fun i => !decide (yB c L (l.2 0 i) = l.2 1 i)) l.1 = i at *
        obtain ⟨a1, a2, a3⟩ := lo.2 i hl
        have b7 := yB_7 (L := L) ok (l.2 0 i)
        have q' : ¬ yB c L (l.2 0 i) = l.2 1 i := by simpa using q
        rw [lc.1, if_neg (nI_ge hl (by omega)), zix_nI (by omega) (by omega), Option.bind_some, g0 i hl, g1 i hl, qLw_burstsBy_ev ok hk S hL a1 a2, Option.bind_some, if_neg (fun z => q' ((nI_eq (by omega) (by omega)).mp z))]
        rfl
      · rw [lc.1, if_pos (nI_le (by omega) (by omega)), decide_eq_false hl]
        rfl
  unfold qLw_doesFit
  rw [e, Option.bind_some]
  cases yFit c l L <;> rfl
def yFn (c : wC) (l : wLg) (i : Nat) : Nat := fb_ct (yFit c l) i
theorem yFn_le (c : wC) (l : wLg) (i : Nat) : yFn c l i ≤ i := fb_ct_le _ _
theorem yFn_s (c : wC) (l : wLg) (i : Nat) : yFn c l (i + 1) = yFn c l i + (if yFit c l i then 1 else 0) := fb_ct_succ _ _
/-- what is found stands in the class's row -/
def yFd (h : zK) (c : wC) (l : wLg) (i : Nat) : Prop := gI h 196 0 = nI (yFn c l i) ∧ ∀ L, L < i → yFit c l L = true → gI h 197 (yFn c l L) = nI L
theorem yFn_lt {c : wC} {l : wLg} {i L : Nat} (h : L < i) (hf : yFit c l L = true) : yFn c l L < yFn c l i := by
  have a := yFn_s c l L
  rw [hf, if_pos rfl] at a
  have := fb_ct_mono (yFit c l) (show L + 1 ≤ i by omega)
  have b : yFn c l (L + 1) ≤ yFn c l i := this
  omega
theorem qLw_find_b47_ev {oc og : Nat} (hog : og = 19 ∨ og = 34) (ok : wCok c) (hk : k < 2) (S : yLs h k c) (lc : lC h og l) (lo : wLok l) (h0 : gI h 196 0 = 0) : ∃ x, zloop (qLw_find_b47 oc og) zfu (0, h) = some x ∧ yLs x k c ∧ yFd x c l 100 ∧ (∀ a j, a ≠ 196 → a ≠ 197 → gI x a j = gI h a j) ∧ x.2.2 = h.2.2 := by
  refine zloop_fx (S := fun i x => ∃ g, x = (nI i, g) ∧ ((∀ a j, a ≠ 196 → a ≠ 197 → gI g a j = gI h a j) ∧ g.2.2 = h.2.2) ∧ yLs g k c ∧ yFd g c l i) 100 ?_ ?_ (zfu_lt (by omega)) ⟨h, rfl, ⟨fun _ _ _ _ => rfl, rfl⟩, S, h0, fun L hL => absurd hL (Nat.not_lt_zero _)⟩
  · rintro i x hi ⟨g, rfl, g1, g2, g3, g4⟩
    have lc' : lC g og l := ⟨(g1.1 _ _ (by omega) (by omega)).trans lc.1, fun r i hr hi => (g1.1 _ _ (by omega) (by omega)).trans (lc.2 r i hr hi)⟩
    have fl := yFn_le c l i
    unfold qLw_find_b47
    dsimp only
    rw [if_neg (show ¬ (100 : Int32) ≤ nI i from nI_ge (b := 100) hi (by decide)), qLw_doesFit_ev ok hk g2 lc' lo hi, Option.bind_some, nI_1]
    cases hf : yFit c l i with
    | true =>
      rw [if_pos rfl, if_neg (show ¬ (1 : Int32) = 0 by decide), g3, zix_nI (by omega) (by omega), Option.bind_some]
      simp only [zlet]
      rw [Option.bind_some, gI_ne (show 196 ≠ 197 by decide), g3, nI_1]
      refine ⟨_, rfl, _, rfl, ⟨fun a j ha hb => ?_, g1.2⟩, ⟨?_, g2.2⟩, ?_, fun L hL hfL => ?_⟩
      · rw [gI_ne ha, gI_ne hb]; exact g1.1 a j ha hb
      · rw [gI_nk (by decide), gI_ne (by decide)]; exact g2.1
      · rw [gI_eq, yFn_s, hf]; rfl
      · rw [gI_ne (by decide)]
        by_cases e : L = i
        · subst e; rw [gI_eq]
        · have := yFn_lt (show L < i by omega) hfL
          rw [gI_nk (by omega)]
          exact g4 L (by omega) hfL
    | false =>
      rw [if_neg (show ¬ false = true by decide), if_pos rfl, Option.bind_some]
      refine ⟨_, rfl, g, rfl, g1, g2, ?_, fun L hL hfL => ?_⟩
      · rw [yFn_s, hf]; exact g3
      · have : L ≠ i := fun e => by rw [e, hf] at hfL; cases hfL
        exact g4 L (by omega) hfL
  · rintro x ⟨g, rfl, g1, g2, g3⟩
    unfold qLw_find_b47
    dsimp only
    rw [if_pos (show (100 : Int32) ≤ nI 100 from nI_le (a := 100) (Nat.le_refl _) (by decide))]
    exact ⟨_, rfl, g2, g3, g1.1, g1.2⟩
/-- the class's cache of laws -/
def yCW (h : zK) : Prop := ∀ k, k < 2 → (gI h 213 k = 0 ∨ gI h 213 k = 1) ∧ (gI h 213 k = 1 → ∀ L, L < 100 → gJ h 212 (100 * k + L) = lN (yHi (yCan h (7 + 15 * k)) L))
theorem qLw_find_ev {og : Nat} (hoc : 7 + 15 * k = 7 ∨ 7 + 15 * k = 22) (hog : og = 19 ∨ og = 34) (ec : c = yCan h (7 + 15 * k)) (hc : cC h (7 + 15 * k) c) (ok : wCok c) (hk : k < 2) (lc : lC h og l) (lo : wLok l) (CW : yCW h) : ∃ x, qLw_find (nI k) (7 + 15 * k) og h = some x ∧ yLs x k c ∧ yFd x c l 100 ∧ yCW x := by
  let h4 : zK := sI (sI h 196 0 0) 196 6 (nI (100 * k))
  have q4 : ∀ a j, a ≠ 196 → gI h4 a j = gI h a j := fun a j ha => by
    show gI (sI (sI _ _ _ _) _ _ _) _ _ = _
    rw [gI_ne ha, gI_ne ha]
  have e6 : gI h4 196 6 = nI (100 * k) := gI_eq
  have e0 : gI h4 196 0 = 0 := by
    show gI (sI (sI _ _ _ _) _ _ _) _ _ = _
    rw [gI_nk (by decide), gI_eq]
  have lg : ∀ g : zK, (∀ a j, a < 100 → gI g a j = gI h a j) → lC g og l := fun g e => ⟨(e _ _ (by omega)).trans lc.1, fun r i hr hi => (e _ _ (by omega)).trans (lc.2 r i hr hi)⟩
  -- behind the learning
  have mid : ∃ v, (if ¬ gI h4 213 k = 0 then some h4 else (qLw_learn (7 + 15 * k) h4).bind fun p8 => zlet (sI p8 213 k (vp_nar .boolean 1)) fun h9 => some h9) = some v ∧ (∀ a j, a < 100 → gI v a j = gI h a j) ∧ gI v 196 0 = 0 ∧ yLs v k c ∧ yCW v := by
    rw [q4 213 k (by decide)]
    obtain ⟨z1, z2⟩ := CW k hk
    by_cases h0 : gI h 213 k = 0
    · obtain ⟨p8, l1, l2, l3, l4, l5⟩ := qLw_learn_ev hoc (cC_g hoc (fun a j ha => q4 a j (by omega)) hc) ok hk e6
      have F := f_qLw_learn hoc l1
      rw [if_neg (show ¬ ¬ gI h 213 k = 0 from fun z => z h0), l1, Option.bind_some]
      simp only [zlet]
      rw [wnar1]
      have a100 : ∀ a j, a < 100 → gI (sI p8 213 k 1) a j = gI h a j := fun a j ha => by
        rw [gI_ne (by omega), l2 a j ha, q4 a j (by omega)]
      refine ⟨_, rfl, a100, ?_, ⟨(gI_ne (by decide)).trans l3, l4⟩, fun k' hk' => ?_⟩
      · rw [gI_ne (by decide), show gI p8 196 0 = gI h4 196 0 from congrFun (F.2.1 196 (by decide)) 0]
        exact e0
      · rw [yCan_eq a100 (by omega)]
        by_cases e : k' = k
        · subst e
          rw [gI_eq]
          refine ⟨Or.inr rfl, fun _ L hL => ?_⟩
          rw [← ec]
          exact l4 L hL
        · rw [gI_nk e, show gI p8 213 k' = gI h4 213 k' from congrFun (F.2.1 213 (by decide)) k', q4 213 k' (by decide)]
          refine ⟨(CW k' hk').1, fun z L hL => ?_⟩
          rw [← (CW k' hk').2 z L hL]
          exact l5 _ (by omega)
    · have z3 := z1.resolve_left h0
      rw [if_pos h0]
      have a100 : ∀ a j, a < 100 → gI h4 a j = gI h a j := fun a j ha => q4 a j (by omega)
      refine ⟨h4, rfl, a100, e0, ⟨e6, fun L hL => ?_⟩, fun k' hk' => ?_⟩
      · have := z2 z3 L hL
        rw [← ec] at this
        exact this
      · rw [yCan_eq a100 (by omega), q4 213 k' (by decide)]
        exact CW k' hk'
  obtain ⟨v, m1, m2, m3, m4, m5⟩ := mid
  obtain ⟨x, x1, x2, x3, x4, x5⟩ := qLw_find_b47_ev (oc := 7 + 15 * k) hog ok hk m4 (lg v m2) lo m3
  refine ⟨x, ?_, x2, x3, fun k' hk' => ?_⟩
  · unfold qLw_find
    simp only [zlet]
    rw [if_neg (nI_pos (by omega)), if_pos (show nI k < (2 : Int32) from nI_lt (b := 2) hk (by decide)), zix_nI hk (by omega), Option.bind_some, show (100 : Int32) = nI 100 from rfl, nI_mul, show k * 100 = 100 * k from Nat.mul_comm _ _]
    simp only [zlet] at m1
    show Option.bind (if ¬ gI h4 213 k = 0 then some h4 else _) _ = _
    rw [m1, Option.bind_some, x1]
    rfl
  · have a100 : ∀ a j, a < 100 → gI x a j = gI v a j := fun a j ha => x4 a j (by omega) (by omega)
    rw [yCan_eq a100 (by omega), x4 213 k' (by decide) (by decide)]
    refine ⟨(m5 k' hk').1, fun z L hL => ?_⟩
    rw [← (m5 k' hk').2 z L hL]
    show x.2.2 212 _ = v.2.2 212 _
    rw [x5]
end FIND
