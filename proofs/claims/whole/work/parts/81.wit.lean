/-! WIT: all its answers -/
theorem yCu_some {P : Nat → Bool} {n : Nat} {nd ne : Nat → Nat} (hn : n ≤ 7) : ∃ j, j < 128 ∧ yCu (yCalm nd ne n) (2 ^ n) = some j := by
  have p7 := w2n hn
  have e := yCu_end (nd := nd) (ne := ne) hn
  exact ⟨_, by have := yCu_lt e; omega, e⟩
set_option maxHeartbeats 1000000 in
theorem wo_wit {h : zK} (H : InvB h) (a x : Int32) : ∃ w h1 h2, qC_wit a x h = some (w, h1) ∧ qM_wit a x h1 = some (w, h2) := by
  unfold qC_wit qM_wit
  simp only [zlet]
  rcases wcell H a with ⟨e1, e2⟩ | ⟨k, c, hk, rfl, c1, c2, c3, e1, e2, e4⟩
  · rw [e1, Option.bind_some]
    refine ⟨-2, h, sI h 215 0 0, rfl, ?_⟩
    rw [e2 _ (wEq_s (by unfold wKp; omega)), Option.bind_some]
    rfl
  · rw [e1, Option.bind_some]
    simp only [if_pos e2]
    obtain ⟨h1, q1, T⟩ := qTr_lookAt_ev (oo := 180) (Or.inl rfl) e2 c2 c1
    have F := f_qTr_lookAt (by omega) q1
    have E1 : wEq h h1 := wEq_2 (wEq2_f F (by decide))
    have c2' : cC h1 (7 + 15 * k) c := cC_eq E1 (by omega) (by omega) c2
    have Ty := yTs_T c1 T
    have HD : ∀ g, wEq h g → ∃ h2, qM_hand (nI k) (sI g 215 0 0) = some (1, h2) ∧ mB h2 k c ∧ mB2 h2 c ∧ mB3 h2 c := fun g e => by
      obtain ⟨h2, p1, B, B2, B3, -⟩ := e4 (sI g 215 0 0) (wEq_t e (wEq_s (by unfold wKp; omega)))
      exact ⟨h2, p1, B, B2, B3⟩
    obtain ⟨h2, p1, B, B2, B3⟩ := HD h1 E1
    have M := yM_of c1 B B2 B3
    have n1 : ¬ (1 : Int32) = 0 := by decide
    rw [q1, Option.bind_some]
    by_cases hx0 : x = 0
    · subst hx0
      refine ⟨wO (wWtt c), h1, h2, ?_, ?_⟩
      · rw [if_pos (show (0 : Int32) = 0 from rfl), qLk_wittiest_ev c2' c1]
        rfl
      · rw [p1, Option.bind_some]
        dsimp only
        rw [if_pos n1, show zf_in (0 : Int32) 0 10 = 1 by decide, if_neg n1]
        unfold qM_ofWit
        unfold zlet
        rw [if_pos (show (0 : Int32) = 0 from rfl), qM_wittiest_ev B c1]
        rfl
    by_cases hx1 : x = 1
    · subst hx1
      refine ⟨nI (wAll c 0), h1, h2, ?_, ?_⟩
      · rw [if_neg (show ¬ (1 : Int32) = 0 by decide), if_pos (show (1 : Int32) = 1 from rfl), show (0 : Int32) = nI 0 from rfl, qLk_witOfAll_ev2 c2' c1 (by omega)]
        rfl
      · rw [p1, Option.bind_some]
        dsimp only
        rw [if_pos n1, show zf_in (1 : Int32) 0 10 = 1 by decide, if_neg n1]
        unfold qM_ofWit
        unfold zlet
        rw [if_neg (show ¬ (1 : Int32) = 0 by decide), if_pos (show (1 : Int32) = 1 from rfl), show (127 : Int32) = nI 127 from rfl, qM_witsOf_ev B c1 (by omega), wWitOf_all c1]
        rfl
    by_cases hx2 : x = 2
    · subst hx2
      refine ⟨wO (wLvl c), h1, h2, ?_, ?_⟩
      · rw [if_neg (show ¬ (2 : Int32) = 0 by decide), if_neg (show ¬ (2 : Int32) = 1 by decide), if_pos (show (2 : Int32) = 2 from rfl), qLk_liveliest_ev c2' c1]
        rfl
      · rw [p1, Option.bind_some]
        dsimp only
        rw [if_pos n1, show zf_in (2 : Int32) 0 10 = 1 by decide, if_neg n1]
        unfold qM_ofWit
        unfold zlet
        rw [if_neg (show ¬ (2 : Int32) = 0 by decide), if_neg (show ¬ (2 : Int32) = 1 by decide), if_pos (show (2 : Int32) = 2 from rfl), qM_liveliest_ev B c1]
        rfl
    by_cases hx3 : x = 3
    · subst hx3
      obtain ⟨h3, r1⟩ := qM_ruin_ev c1 M 0
      refine ⟨wO (yAr (yRuW c (yNd c) (yNe c.2.2.1 (c.2.2.2 5) c.1)) c.1), h1, h3, ?_, ?_⟩
      · rw [if_neg (show ¬ (3 : Int32) = 0 by decide), if_neg (show ¬ (3 : Int32) = 1 by decide), if_neg (show ¬ (3 : Int32) = 2 by decide), if_pos (show (3 : Int32) = 3 from rfl), qTr_ruin_ev c2' c1 Ty]
        rfl
      · rw [p1, Option.bind_some]
        dsimp only
        rw [if_pos n1, show zf_in (3 : Int32) 0 10 = 1 by decide, if_neg n1]
        unfold qM_ofWit
        unfold zlet
        rw [if_neg (show ¬ (3 : Int32) = 0 by decide), if_neg (show ¬ (3 : Int32) = 1 by decide), if_neg (show ¬ (3 : Int32) = 2 by decide), if_pos (show (3 : Int32) = 3 from rfl), if_pos (show ¬ (3 : Int32) = 4 by decide)]
        dsimp only
        rw [r1]
        rfl
    by_cases hx4 : x = 4
    · subst hx4
      obtain ⟨h3, r1⟩ := qM_ruin_ev c1 M 1
      refine ⟨yArV (yRuW c (yNd c) (yNe c.2.2.1 (c.2.2.2 5) c.1)) (yAr (yRuW c (yNd c) (yNe c.2.2.1 (c.2.2.2 5) c.1)) c.1), h1, h3, ?_, ?_⟩
      · rw [if_neg (show ¬ (4 : Int32) = 0 by decide), if_neg (show ¬ (4 : Int32) = 1 by decide), if_neg (show ¬ (4 : Int32) = 2 by decide), if_neg (show ¬ (4 : Int32) = 3 by decide), if_pos (show (4 : Int32) = 4 from rfl), qTr_ruinWit_ev c2' c1 Ty]
        rfl
      · rw [p1, Option.bind_some]
        dsimp only
        rw [if_pos n1, show zf_in (4 : Int32) 0 10 = 1 by decide, if_neg n1]
        unfold qM_ofWit
        unfold zlet
        rw [if_neg (show ¬ (4 : Int32) = 0 by decide), if_neg (show ¬ (4 : Int32) = 1 by decide), if_neg (show ¬ (4 : Int32) = 2 by decide), if_neg (show ¬ (4 : Int32) = 3 by decide), if_pos (show (4 : Int32) = 4 from rfl), if_neg (show ¬ ¬ (4 : Int32) = 4 from fun z => z rfl)]
        dsimp only
        rw [r1]
        rfl
    by_cases hx5 : x = 5
    · subst hx5
      refine ⟨wNsP (wNs c c.1), h1, h2, ?_, ?_⟩
      · rw [if_neg (show ¬ (5 : Int32) = 0 by decide), if_neg (show ¬ (5 : Int32) = 1 by decide), if_neg (show ¬ (5 : Int32) = 2 by decide), if_neg (show ¬ (5 : Int32) = 3 by decide), if_neg (show ¬ (5 : Int32) = 4 by decide), if_pos (show (5 : Int32) = 5 from rfl), qLk_closest_ev c2' c1]
        rfl
      · rw [p1, Option.bind_some]
        dsimp only
        rw [if_pos n1, show zf_in (5 : Int32) 0 10 = 1 by decide, if_neg n1]
        unfold qM_ofWit
        unfold zlet
        rw [if_neg (show ¬ (5 : Int32) = 0 by decide), if_neg (show ¬ (5 : Int32) = 1 by decide), if_neg (show ¬ (5 : Int32) = 2 by decide), if_neg (show ¬ (5 : Int32) = 3 by decide), if_neg (show ¬ (5 : Int32) = 4 by decide), if_pos (show (5 : Int32) = 5 from rfl), if_pos (show ¬ (5 : Int32) = 6 by decide)]
        dsimp only
        rw [qM_close_ev B B3 c1 0]
        rfl
    by_cases hx6 : x = 6
    · subst hx6
      refine ⟨wNsV c (wNs c c.1), h1, h2, ?_, ?_⟩
      · rw [if_neg (show ¬ (6 : Int32) = 0 by decide), if_neg (show ¬ (6 : Int32) = 1 by decide), if_neg (show ¬ (6 : Int32) = 2 by decide), if_neg (show ¬ (6 : Int32) = 3 by decide), if_neg (show ¬ (6 : Int32) = 4 by decide), if_neg (show ¬ (6 : Int32) = 5 by decide), if_pos (show (6 : Int32) = 6 from rfl), qLk_closestGap_ev c2' c1]
        rfl
      · rw [p1, Option.bind_some]
        dsimp only
        rw [if_pos n1, show zf_in (6 : Int32) 0 10 = 1 by decide, if_neg n1]
        unfold qM_ofWit
        unfold zlet
        rw [if_neg (show ¬ (6 : Int32) = 0 by decide), if_neg (show ¬ (6 : Int32) = 1 by decide), if_neg (show ¬ (6 : Int32) = 2 by decide), if_neg (show ¬ (6 : Int32) = 3 by decide), if_neg (show ¬ (6 : Int32) = 4 by decide), if_neg (show ¬ (6 : Int32) = 5 by decide), if_pos (show (6 : Int32) = 6 from rfl), if_neg (show ¬ ¬ (6 : Int32) = 6 from fun z => z rfl)]
        dsimp only
        rw [qM_close_ev B B3 c1 1]
        rfl
    by_cases hx7 : x = 7
    · subst hx7
      refine ⟨nI (yRwN c (c.2.2.2 5) c.1), h1, h2, ?_, ?_⟩
      · rw [if_neg (show ¬ (7 : Int32) = 0 by decide), if_neg (show ¬ (7 : Int32) = 1 by decide), if_neg (show ¬ (7 : Int32) = 2 by decide), if_neg (show ¬ (7 : Int32) = 3 by decide), if_neg (show ¬ (7 : Int32) = 4 by decide), if_neg (show ¬ (7 : Int32) = 5 by decide), if_neg (show ¬ (7 : Int32) = 6 by decide), if_pos (show (7 : Int32) = 7 from rfl), qTr_rows_ev c1 T]
        rfl
      · rw [p1, Option.bind_some]
        dsimp only
        rw [if_pos n1, show zf_in (7 : Int32) 0 10 = 1 by decide, if_neg n1]
        unfold qM_ofWit
        unfold zlet
        rw [if_neg (show ¬ (7 : Int32) = 0 by decide), if_neg (show ¬ (7 : Int32) = 1 by decide), if_neg (show ¬ (7 : Int32) = 2 by decide), if_neg (show ¬ (7 : Int32) = 3 by decide), if_neg (show ¬ (7 : Int32) = 4 by decide), if_neg (show ¬ (7 : Int32) = 5 by decide), if_neg (show ¬ (7 : Int32) = 6 by decide), if_pos (show (7 : Int32) = 7 from rfl), if_pos (show ¬ (7 : Int32) = 8 by decide)]
        dsimp only
        rw [qM_rows_ev c1 M 0]
        rfl
    by_cases hx8 : x = 8
    · subst hx8
      refine ⟨nI (yRwM c (c.2.2.2 5) c.1), h1, h2, ?_, ?_⟩
      · rw [if_neg (show ¬ (8 : Int32) = 0 by decide), if_neg (show ¬ (8 : Int32) = 1 by decide), if_neg (show ¬ (8 : Int32) = 2 by decide), if_neg (show ¬ (8 : Int32) = 3 by decide), if_neg (show ¬ (8 : Int32) = 4 by decide), if_neg (show ¬ (8 : Int32) = 5 by decide), if_neg (show ¬ (8 : Int32) = 6 by decide), if_neg (show ¬ (8 : Int32) = 7 by decide), if_pos (show (8 : Int32) = 8 from rfl), qTr_largestRow_ev c1 T]
        rfl
      · rw [p1, Option.bind_some]
        dsimp only
        rw [if_pos n1, show zf_in (8 : Int32) 0 10 = 1 by decide, if_neg n1]
        unfold qM_ofWit
        unfold zlet
        rw [if_neg (show ¬ (8 : Int32) = 0 by decide), if_neg (show ¬ (8 : Int32) = 1 by decide), if_neg (show ¬ (8 : Int32) = 2 by decide), if_neg (show ¬ (8 : Int32) = 3 by decide), if_neg (show ¬ (8 : Int32) = 4 by decide), if_neg (show ¬ (8 : Int32) = 5 by decide), if_neg (show ¬ (8 : Int32) = 6 by decide), if_neg (show ¬ (8 : Int32) = 7 by decide), if_pos (show (8 : Int32) = 8 from rfl), if_neg (show ¬ ¬ (8 : Int32) = 8 from fun z => z rfl)]
        dsimp only
        rw [qM_rows_ev c1 M 1]
        rfl
    by_cases hx9 : x = 9
    · subst hx9
      obtain ⟨j, j1, j2⟩ := yCu_some (P := (yCalm (yNd c) (yNe c.2.2.1 (c.2.2.2 5) c.1) c.1)) (nd := yNd c) (ne := yNe c.2.2.1 (c.2.2.2 5) c.1) c1.1
      obtain ⟨h3, r1⟩ := qM_cut_ev c1 M
      refine ⟨nI (wones j), h1, h3, ?_, ?_⟩
      · rw [if_neg (show ¬ (9 : Int32) = 0 by decide), if_neg (show ¬ (9 : Int32) = 1 by decide), if_neg (show ¬ (9 : Int32) = 2 by decide), if_neg (show ¬ (9 : Int32) = 3 by decide), if_neg (show ¬ (9 : Int32) = 4 by decide), if_neg (show ¬ (9 : Int32) = 5 by decide), if_neg (show ¬ (9 : Int32) = 6 by decide), if_neg (show ¬ (9 : Int32) = 7 by decide), if_neg (show ¬ (9 : Int32) = 8 by decide), if_pos (show (9 : Int32) = 9 from rfl), qTr_cut_ev Ty, j2, Option.bind_some]
        rw [show wO (some j) = nI j from rfl, wbc j j1]
      · rw [p1, Option.bind_some]
        dsimp only
        rw [if_pos n1, show zf_in (9 : Int32) 0 10 = 1 by decide, if_neg n1]
        unfold qM_ofWit
        unfold zlet
        rw [if_neg (show ¬ (9 : Int32) = 0 by decide), if_neg (show ¬ (9 : Int32) = 1 by decide), if_neg (show ¬ (9 : Int32) = 2 by decide), if_neg (show ¬ (9 : Int32) = 3 by decide), if_neg (show ¬ (9 : Int32) = 4 by decide), if_neg (show ¬ (9 : Int32) = 5 by decide), if_neg (show ¬ (9 : Int32) = 6 by decide), if_neg (show ¬ (9 : Int32) = 7 by decide), if_neg (show ¬ (9 : Int32) = 8 by decide), if_pos (show (9 : Int32) = 9 from rfl), r1, Option.bind_some, j2]
        dsimp only
        rw [show wO (some j) = nI j from rfl, qM_ones_ev j1]
        rfl
    by_cases hx10 : x = 10
    · subst hx10
      obtain ⟨j, j1, j2⟩ := yCu_some (P := (yCalm (yNd c) (yNe c.2.2.1 (c.2.2.2 5) c.1) c.1)) (nd := yNd c) (ne := yNe c.2.2.1 (c.2.2.2 5) c.1) c1.1
      obtain ⟨h3, r1⟩ := qM_cut_ev c1 M
      refine ⟨nI j, h1, h3, ?_, ?_⟩
      · rw [if_neg (show ¬ (10 : Int32) = 0 by decide), if_neg (show ¬ (10 : Int32) = 1 by decide), if_neg (show ¬ (10 : Int32) = 2 by decide), if_neg (show ¬ (10 : Int32) = 3 by decide), if_neg (show ¬ (10 : Int32) = 4 by decide), if_neg (show ¬ (10 : Int32) = 5 by decide), if_neg (show ¬ (10 : Int32) = 6 by decide), if_neg (show ¬ (10 : Int32) = 7 by decide), if_neg (show ¬ (10 : Int32) = 8 by decide), if_neg (show ¬ (10 : Int32) = 9 by decide), if_pos (show (10 : Int32) = 10 from rfl), qTr_cut_ev Ty, j2, Option.bind_some]
        rfl
      · rw [p1, Option.bind_some]
        dsimp only
        rw [if_pos n1, show zf_in (10 : Int32) 0 10 = 1 by decide, if_neg n1]
        unfold qM_ofWit
        unfold zlet
        rw [if_neg (show ¬ (10 : Int32) = 0 by decide), if_neg (show ¬ (10 : Int32) = 1 by decide), if_neg (show ¬ (10 : Int32) = 2 by decide), if_neg (show ¬ (10 : Int32) = 3 by decide), if_neg (show ¬ (10 : Int32) = 4 by decide), if_neg (show ¬ (10 : Int32) = 5 by decide), if_neg (show ¬ (10 : Int32) = 6 by decide), if_neg (show ¬ (10 : Int32) = 7 by decide), if_neg (show ¬ (10 : Int32) = 8 by decide), if_neg (show ¬ (10 : Int32) = 9 by decide), r1, Option.bind_some, j2]
        dsimp only
        rfl
    by_cases hx11 : x = 11
    · subst hx11
      refine ⟨wGoodI c, h1, h2, ?_, ?_⟩
      · rw [if_neg (show ¬ (11 : Int32) = 0 by decide), if_neg (show ¬ (11 : Int32) = 1 by decide), if_neg (show ¬ (11 : Int32) = 2 by decide), if_neg (show ¬ (11 : Int32) = 3 by decide), if_neg (show ¬ (11 : Int32) = 4 by decide), if_neg (show ¬ (11 : Int32) = 5 by decide), if_neg (show ¬ (11 : Int32) = 6 by decide), if_neg (show ¬ (11 : Int32) = 7 by decide), if_neg (show ¬ (11 : Int32) = 8 by decide), if_neg (show ¬ (11 : Int32) = 9 by decide), if_neg (show ¬ (11 : Int32) = 10 by decide), if_pos (show (11 : Int32) = 11 from rfl), qLk_goodYear_ev c2' c1]
        rfl
      · rw [p1, Option.bind_some]
        dsimp only
        rw [if_pos n1, show zf_in (11 : Int32) 0 10 = 0 by decide, if_pos (show (0 : Int32) = 0 from rfl), if_pos (show (11 : Int32) = 11 from rfl), qM_good_ev B c1]
        rfl
    by_cases hx12 : x = 12
    · subst hx12
      refine ⟨nI (wBits (fun t => wMt c t c.1) c.1), h1, h2, ?_, ?_⟩
      · rw [if_neg (show ¬ (12 : Int32) = 0 by decide), if_neg (show ¬ (12 : Int32) = 1 by decide), if_neg (show ¬ (12 : Int32) = 2 by decide), if_neg (show ¬ (12 : Int32) = 3 by decide), if_neg (show ¬ (12 : Int32) = 4 by decide), if_neg (show ¬ (12 : Int32) = 5 by decide), if_neg (show ¬ (12 : Int32) = 6 by decide), if_neg (show ¬ (12 : Int32) = 7 by decide), if_neg (show ¬ (12 : Int32) = 8 by decide), if_neg (show ¬ (12 : Int32) = 9 by decide), if_neg (show ¬ (12 : Int32) = 10 by decide), if_neg (show ¬ (12 : Int32) = 11 by decide), if_pos (show (12 : Int32) = 12 from rfl), qLk_mute_ev c2' c1, wMu_eq c1]
        rfl
      · rw [p1, Option.bind_some]
        dsimp only
        rw [if_pos n1, show zf_in (12 : Int32) 0 10 = 0 by decide, if_pos (show (0 : Int32) = 0 from rfl), if_neg (show ¬ (12 : Int32) = 11 by decide), if_pos (show (12 : Int32) = 12 from rfl), qM_mute_ev B c1]
        rfl
    by_cases hx13 : x = 13
    · subst hx13
      refine ⟨wO (yRg c 7 c.1), h1, h2, ?_, ?_⟩
      · rw [if_neg (show ¬ (13 : Int32) = 0 by decide), if_neg (show ¬ (13 : Int32) = 1 by decide), if_neg (show ¬ (13 : Int32) = 2 by decide), if_neg (show ¬ (13 : Int32) = 3 by decide), if_neg (show ¬ (13 : Int32) = 4 by decide), if_neg (show ¬ (13 : Int32) = 5 by decide), if_neg (show ¬ (13 : Int32) = 6 by decide), if_neg (show ¬ (13 : Int32) = 7 by decide), if_neg (show ¬ (13 : Int32) = 8 by decide), if_neg (show ¬ (13 : Int32) = 9 by decide), if_neg (show ¬ (13 : Int32) = 10 by decide), if_neg (show ¬ (13 : Int32) = 11 by decide), if_neg (show ¬ (13 : Int32) = 12 by decide), if_pos (show (13 : Int32) = 13 from rfl), qLk_ring_ev c2' c1, yRg_eq c1.1]
        rfl
      · rw [p1, Option.bind_some]
        dsimp only
        rw [if_pos n1, show zf_in (13 : Int32) 0 10 = 0 by decide, if_pos (show (0 : Int32) = 0 from rfl), if_neg (show ¬ (13 : Int32) = 11 by decide), if_neg (show ¬ (13 : Int32) = 12 by decide), if_pos (show (13 : Int32) = 13 from rfl), qM_ring_ev B c1]
        rfl
    by_cases hx14 : x = 14
    · subst hx14
      obtain ⟨h3, b1, b2, b3, b4⟩ := qRu_begin_ev (o := 166) (Or.inl rfl) e2 c2' c1
      have F3 := qRu_passYears_ev b2 c1 (m := 50) (by omega)
      rw [b3] at F3
      have F4 : qRu_passYears 166 50 h3 = some (lS (wLc c.1 166) h3 (wYr (nI c.2.2.1) (nI c.2.1) c 50)) := F3
      have eq2 := wEq_2 (wEq2_f (f_qRu_begin (by rcases e2 with e | e <;> rw [e] <;> decide) b1) (by decide))
      have eq3 := wEq_2 (wEq2_f (f_qRu_passYears (by decide) F4) (by decide))
      obtain ⟨h2, p1, B, B2, B3⟩ := HD (lS (wLc c.1 166) h3 (wYr (nI c.2.2.1) (nI c.2.1) c 50)) (wEq_t E1 (wEq_t eq2 eq3))
      have P := qM_calm_ev (re := nI c.2.2.1) (sh := nI c.2.1) B ⟨B2.1, B2.2⟩ c1 0
      rw [mB3_l B3] at P
      refine ⟨(wClm (nI c.2.2.1) (nI c.2.1) c 50).1, lS (wLc c.1 166) h3 (wYr (nI c.2.2.1) (nI c.2.1) c 50), lS (wLm c.1) h2 (wYr (nI c.2.2.1) (nI c.2.1) c 50), ?_, ?_⟩
      · rw [if_neg (show ¬ (14 : Int32) = 0 by decide), if_neg (show ¬ (14 : Int32) = 1 by decide), if_neg (show ¬ (14 : Int32) = 2 by decide), if_neg (show ¬ (14 : Int32) = 3 by decide), if_neg (show ¬ (14 : Int32) = 4 by decide), if_neg (show ¬ (14 : Int32) = 5 by decide), if_neg (show ¬ (14 : Int32) = 6 by decide), if_neg (show ¬ (14 : Int32) = 7 by decide), if_neg (show ¬ (14 : Int32) = 8 by decide), if_neg (show ¬ (14 : Int32) = 9 by decide), if_neg (show ¬ (14 : Int32) = 10 by decide), if_neg (show ¬ (14 : Int32) = 11 by decide), if_neg (show ¬ (14 : Int32) = 12 by decide), if_neg (show ¬ (14 : Int32) = 13 by decide), if_pos (show (14 : Int32) = 14 from rfl)]
        unfold qC_calmYears
        rw [b1, Option.bind_some, F4, Option.bind_some, qC_calm_ev c1, Option.bind_some, if_pos (show (0 : Int32) = 0 from rfl), Option.bind_some]
      · rw [p1, Option.bind_some]
        dsimp only
        rw [if_pos n1, show zf_in (14 : Int32) 0 10 = 0 by decide, if_pos (show (0 : Int32) = 0 from rfl), if_neg (show ¬ (14 : Int32) = 11 by decide), if_neg (show ¬ (14 : Int32) = 12 by decide), if_neg (show ¬ (14 : Int32) = 13 by decide), if_pos (show (14 : Int32) = 14 from rfl), if_pos (show ¬ (14 : Int32) = 15 by decide)]
        unfold qM_calm
        rw [P, Option.bind_some, if_pos (show (0 : Int32) = 0 from rfl), Option.bind_some]
    by_cases hx15 : x = 15
    · subst hx15
      obtain ⟨h3, b1, b2, b3, b4⟩ := qRu_begin_ev (o := 166) (Or.inl rfl) e2 c2' c1
      have F3 := qRu_passYears_ev b2 c1 (m := 50) (by omega)
      rw [b3] at F3
      have F4 : qRu_passYears 166 50 h3 = some (lS (wLc c.1 166) h3 (wYr (nI c.2.2.1) (nI c.2.1) c 50)) := F3
      have eq2 := wEq_2 (wEq2_f (f_qRu_begin (by rcases e2 with e | e <;> rw [e] <;> decide) b1) (by decide))
      have eq3 := wEq_2 (wEq2_f (f_qRu_passYears (by decide) F4) (by decide))
      obtain ⟨h2, p1, B, B2, B3⟩ := HD (lS (wLc c.1 166) h3 (wYr (nI c.2.2.1) (nI c.2.1) c 50)) (wEq_t E1 (wEq_t eq2 eq3))
      have P := qM_calm_ev (re := nI c.2.2.1) (sh := nI c.2.1) B ⟨B2.1, B2.2⟩ c1 1
      rw [mB3_l B3] at P
      refine ⟨(wClm (nI c.2.2.1) (nI c.2.1) c 50).2.1, lS (wLc c.1 166) h3 (wYr (nI c.2.2.1) (nI c.2.1) c 50), lS (wLm c.1) h2 (wYr (nI c.2.2.1) (nI c.2.1) c 50), ?_, ?_⟩
      · rw [if_neg (show ¬ (15 : Int32) = 0 by decide), if_neg (show ¬ (15 : Int32) = 1 by decide), if_neg (show ¬ (15 : Int32) = 2 by decide), if_neg (show ¬ (15 : Int32) = 3 by decide), if_neg (show ¬ (15 : Int32) = 4 by decide), if_neg (show ¬ (15 : Int32) = 5 by decide), if_neg (show ¬ (15 : Int32) = 6 by decide), if_neg (show ¬ (15 : Int32) = 7 by decide), if_neg (show ¬ (15 : Int32) = 8 by decide), if_neg (show ¬ (15 : Int32) = 9 by decide), if_neg (show ¬ (15 : Int32) = 10 by decide), if_neg (show ¬ (15 : Int32) = 11 by decide), if_neg (show ¬ (15 : Int32) = 12 by decide), if_neg (show ¬ (15 : Int32) = 13 by decide), if_neg (show ¬ (15 : Int32) = 14 by decide), if_pos (show (15 : Int32) = 15 from rfl)]
        unfold qC_calmYears
        rw [b1, Option.bind_some, F4, Option.bind_some, qC_calm_ev c1, Option.bind_some, if_neg n1, Option.bind_some]
      · rw [p1, Option.bind_some]
        dsimp only
        rw [if_pos n1, show zf_in (15 : Int32) 0 10 = 0 by decide, if_pos (show (0 : Int32) = 0 from rfl), if_neg (show ¬ (15 : Int32) = 11 by decide), if_neg (show ¬ (15 : Int32) = 12 by decide), if_neg (show ¬ (15 : Int32) = 13 by decide), if_neg (show ¬ (15 : Int32) = 14 by decide), if_pos (show (15 : Int32) = 15 from rfl), if_neg (show ¬ ¬ (15 : Int32) = 15 from fun z => z rfl)]
        unfold qM_calm
        rw [P, Option.bind_some, if_neg n1, Option.bind_some]
    by_cases hx16 : x = 16
    · subst hx16
      obtain ⟨h3, r1⟩ := qTr_pair_ev c1 (fun t ht => (c1.2.2.2 t ht).2.2.2.2.2.2.1) T
      have E3 : wEq h h3 := wEq_t E1 (wEq_2 (wEq2_f (f_qTr_pair (Or.inl rfl) r1) (by decide)))
      obtain ⟨h2, p1, B, B2, B3⟩ := HD h3 E3
      obtain ⟨h4, r2⟩ := qM_pair_ev c1 (yM_of c1 B B2 B3)
      refine ⟨wO (yPr (yGp c (c.2.2.2 5)) c.1 (yGs c (c.2.2.2 5)) c.1).2, h3, h4, ?_, ?_⟩
      · rw [if_neg (show ¬ (16 : Int32) = 0 by decide), if_neg (show ¬ (16 : Int32) = 1 by decide), if_neg (show ¬ (16 : Int32) = 2 by decide), if_neg (show ¬ (16 : Int32) = 3 by decide), if_neg (show ¬ (16 : Int32) = 4 by decide), if_neg (show ¬ (16 : Int32) = 5 by decide), if_neg (show ¬ (16 : Int32) = 6 by decide), if_neg (show ¬ (16 : Int32) = 7 by decide), if_neg (show ¬ (16 : Int32) = 8 by decide), if_neg (show ¬ (16 : Int32) = 9 by decide), if_neg (show ¬ (16 : Int32) = 10 by decide), if_neg (show ¬ (16 : Int32) = 11 by decide), if_neg (show ¬ (16 : Int32) = 12 by decide), if_neg (show ¬ (16 : Int32) = 13 by decide), if_neg (show ¬ (16 : Int32) = 14 by decide), if_neg (show ¬ (16 : Int32) = 15 by decide), if_pos (show (16 : Int32) = 16 from rfl), r1, Option.bind_some]
      · rw [p1, Option.bind_some]
        dsimp only
        rw [if_pos n1, show zf_in (16 : Int32) 0 10 = 0 by decide, if_pos (show (0 : Int32) = 0 from rfl), if_neg (show ¬ (16 : Int32) = 11 by decide), if_neg (show ¬ (16 : Int32) = 12 by decide), if_neg (show ¬ (16 : Int32) = 13 by decide), if_neg (show ¬ (16 : Int32) = 14 by decide), if_neg (show ¬ (16 : Int32) = 15 by decide), if_pos (show (16 : Int32) = 16 from rfl), r2]
        rfl
    by_cases hx17 : x = 17
    · subst hx17
      refine ⟨wO (wEr c c.1), h1, h2, ?_, ?_⟩
      · rw [if_neg (show ¬ (17 : Int32) = 0 by decide), if_neg (show ¬ (17 : Int32) = 1 by decide), if_neg (show ¬ (17 : Int32) = 2 by decide), if_neg (show ¬ (17 : Int32) = 3 by decide), if_neg (show ¬ (17 : Int32) = 4 by decide), if_neg (show ¬ (17 : Int32) = 5 by decide), if_neg (show ¬ (17 : Int32) = 6 by decide), if_neg (show ¬ (17 : Int32) = 7 by decide), if_neg (show ¬ (17 : Int32) = 8 by decide), if_neg (show ¬ (17 : Int32) = 9 by decide), if_neg (show ¬ (17 : Int32) = 10 by decide), if_neg (show ¬ (17 : Int32) = 11 by decide), if_neg (show ¬ (17 : Int32) = 12 by decide), if_neg (show ¬ (17 : Int32) = 13 by decide), if_neg (show ¬ (17 : Int32) = 14 by decide), if_neg (show ¬ (17 : Int32) = 15 by decide), if_neg (show ¬ (17 : Int32) = 16 by decide), if_pos (show (17 : Int32) = 17 from rfl), qLk_earliest_ev c2' c1]
        rfl
      · rw [p1, Option.bind_some]
        dsimp only
        rw [if_pos n1, show zf_in (17 : Int32) 0 10 = 0 by decide, if_pos (show (0 : Int32) = 0 from rfl), if_neg (show ¬ (17 : Int32) = 11 by decide), if_neg (show ¬ (17 : Int32) = 12 by decide), if_neg (show ¬ (17 : Int32) = 13 by decide), if_neg (show ¬ (17 : Int32) = 14 by decide), if_neg (show ¬ (17 : Int32) = 15 by decide), if_neg (show ¬ (17 : Int32) = 16 by decide), if_pos (show (17 : Int32) = 17 from rfl), qM_earliest_ev B c1]
        rfl
    by_cases hx18 : x = 18
    · subst hx18
      refine ⟨nI (wBits (wLast c) c.1), h1, h2, ?_, ?_⟩
      · rw [if_neg (show ¬ (18 : Int32) = 0 by decide), if_neg (show ¬ (18 : Int32) = 1 by decide), if_neg (show ¬ (18 : Int32) = 2 by decide), if_neg (show ¬ (18 : Int32) = 3 by decide), if_neg (show ¬ (18 : Int32) = 4 by decide), if_neg (show ¬ (18 : Int32) = 5 by decide), if_neg (show ¬ (18 : Int32) = 6 by decide), if_neg (show ¬ (18 : Int32) = 7 by decide), if_neg (show ¬ (18 : Int32) = 8 by decide), if_neg (show ¬ (18 : Int32) = 9 by decide), if_neg (show ¬ (18 : Int32) = 10 by decide), if_neg (show ¬ (18 : Int32) = 11 by decide), if_neg (show ¬ (18 : Int32) = 12 by decide), if_neg (show ¬ (18 : Int32) = 13 by decide), if_neg (show ¬ (18 : Int32) = 14 by decide), if_neg (show ¬ (18 : Int32) = 15 by decide), if_neg (show ¬ (18 : Int32) = 16 by decide), if_neg (show ¬ (18 : Int32) = 17 by decide), if_pos (show (18 : Int32) = 18 from rfl), qLk_lasting_ev c2' c1]
        rfl
      · rw [p1, Option.bind_some]
        dsimp only
        rw [if_pos n1, show zf_in (18 : Int32) 0 10 = 0 by decide, if_pos (show (0 : Int32) = 0 from rfl), if_neg (show ¬ (18 : Int32) = 11 by decide), if_neg (show ¬ (18 : Int32) = 12 by decide), if_neg (show ¬ (18 : Int32) = 13 by decide), if_neg (show ¬ (18 : Int32) = 14 by decide), if_neg (show ¬ (18 : Int32) = 15 by decide), if_neg (show ¬ (18 : Int32) = 16 by decide), if_neg (show ¬ (18 : Int32) = 17 by decide), if_pos (show (18 : Int32) = 18 from rfl), qM_lasting_ev B c1]
        rfl
    refine ⟨-2, h1, h2, ?_, ?_⟩
    · rw [if_neg hx0, if_neg hx1, if_neg hx2, if_neg hx3, if_neg hx4, if_neg hx5, if_neg hx6, if_neg hx7, if_neg hx8, if_neg hx9, if_neg hx10, if_neg hx11, if_neg hx12, if_neg hx13, if_neg hx14, if_neg hx15, if_neg hx16, if_neg hx17, if_neg hx18]
    · have hz : zf_in x 0 10 = 0 := by
        have e11 : nI 11 - 1 = (10 : Int32) := by decide
        rcases zf_in_n (m := 11) (by omega) x with ⟨j, hj, rfl, -⟩ | ⟨-, hz⟩
        · exfalso
          rcases (by omega : j = 0 ∨ j = 1 ∨ j = 2 ∨ j = 3 ∨ j = 4 ∨ j = 5 ∨ j = 6 ∨ j = 7 ∨ j = 8 ∨ j = 9 ∨ j = 10) with rfl | rfl | rfl | rfl | rfl | rfl | rfl | rfl | rfl | rfl | rfl
          · exact hx0 rfl
          · exact hx1 rfl
          · exact hx2 rfl
          · exact hx3 rfl
          · exact hx4 rfl
          · exact hx5 rfl
          · exact hx6 rfl
          · exact hx7 rfl
          · exact hx8 rfl
          · exact hx9 rfl
          · exact hx10 rfl
        · rw [e11] at hz; exact hz
      rw [p1, Option.bind_some]
      dsimp only
      rw [if_pos n1, hz, if_pos (show (0 : Int32) = 0 from rfl), if_neg hx11, if_neg hx12, if_neg hx13, if_neg hx14, if_neg hx15, if_neg hx16, if_neg hx17, if_neg hx18]
