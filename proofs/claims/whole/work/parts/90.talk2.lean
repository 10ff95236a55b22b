theorem qOr_worthOrNumber_ev {x : zK} {L : Nat} {v : Int32} {r : Nat → Int32} (hL : L ≤ 7) (h0 : gI x 192 0 = v) (h3 : gI x 192 3 = nI L) (hr : ∀ k, k < L → gI x 193 k = r k) (y : Int32) : (y = -1 ∧ qOr_worthOrNumber y x = some v) ∨ (¬ y = -1 ∧ ((∃ k, k < L ∧ y = nI k ∧ qOr_worthOrNumber y x = some (r k)) ∨ ((y < 0 ∨ ∃ j, L ≤ j ∧ j < 2 ^ 31 ∧ y = nI j) ∧ qOr_worthOrNumber y x = some (-1)))) := by
  unfold qOr_worthOrNumber
  by_cases hy : y = -1
  · refine Or.inl ⟨hy, ?_⟩
    rw [if_neg (show ¬ ¬ y = -1 from fun z => z hy), h0]
  · refine Or.inr ⟨hy, ?_⟩
    rw [if_pos hy]
    by_cases h1 : y < 0
    · rw [if_pos h1]
      exact Or.inr ⟨Or.inl h1, rfl⟩
    · obtain ⟨j, hj, rfl⟩ := nI_of h1
      rw [if_neg h1, h3]
      by_cases h2 : j < L
      · rw [if_neg (nI_ge h2 (by omega)), zix_nI (by omega) (by omega), Option.bind_some, hr j h2]
        exact Or.inl ⟨j, h2, rfl, rfl⟩
      · rw [if_pos (nI_le (by omega) hj)]
        exact Or.inr ⟨Or.inr ⟨j, by omega, hj, rfl⟩, rfl⟩
theorem wo_talk {h : zK} (H : InvB h) (a y : Int32) : ∃ w h1 h2, qC_talk a y h = some (w, h1) ∧ qM_talk a y h1 = some (w, h2) := by
  unfold qC_talk qM_talk
  simp only [zlet]
  rcases wcell H a with ⟨e1, e2⟩ | ⟨k, c, hk, rfl, c1, c2, c3, e1, e2, e4⟩
  · rw [e1, Option.bind_some]
    refine ⟨-1, h, sI h 215 0 0, rfl, ?_⟩
    rw [e2 _ (wEq_s (by unfold wKp; omega)), Option.bind_some]
    rfl
  · rw [e1, Option.bind_some]
    dsimp only
    rw [if_pos e2]
    have n7 := c1.1
    have p0 := w2p c.1
    have ln := yLn_le c true
    obtain ⟨h1, b1, b2, b3, b4⟩ := qOr_bestRow_ev (tk := true) e2 c2 c1
    have b1' : qOr_bestRow (7 + 15 * k) 1 h = some h1 := b1
    have eq1 := wEq_2 (wEq2_f (f_qOr_bestRow e2 b1') (by decide))
    obtain ⟨h2, p1, B, -, -, -⟩ := e4 (sI h1 215 0 0) (wEq_t eq1 (wEq_s (by unfold wKp; omega)))
    obtain ⟨g2, r1, T, rfl, r2⟩ := qM_talk_b24_ev B c1 y
    rw [yLn_t c1, ← iI_nat (by omega)] at b2
    have t896 : gI (rI h2 232 T) 232 896 = nI (yLn c true) := by
      rw [gI_rI, iI_nat (by omega), ← yLn_t c1]
      exact r2 0 7 (Nat.zero_le _) (by omega) (by omega)
    rw [b1', Option.bind_some]
    have ref : ∀ w : Int32, (if y = -1 then qM_talk_j127 y (nI (yLn c true)) (rI h2 232 T) else if ¬ zf_in y 0 (nI (yLn c true) - 1) = 0 then (zloop (qM_talk_b148 y (rI h2 232 T)) zfu (0, 7, 0)).bind fun t25 => some (t25, rI h2 232 T) else qM_talk_j127 y (nI (yLn c true)) (rI h2 232 T)) = some (w, rI h2 232 T) → ((qM_hand (nI k) (sI h1 215 0 0)).bind fun p2 => if ¬ p2.1 = 0 then (zloop (qM_talk_b24 y) zfu (((1 : Int32) <<< ((gI p2.2 215 23) &&& 31)) - 1, p2.2)).bind fun t14 => if y = -1 then qM_talk_j127 y (gI t14 232 896) t14 else if ¬ zf_in y 0 ((gI t14 232 896) - 1) = 0 then (zloop (qM_talk_b148 y t14) zfu (0, 7, 0)).bind fun t25 => some (t25, t14) else qM_talk_j127 y (gI t14 232 896) t14 else some (-1, p2.2)) = some (w, rI h2 232 T) := fun w hw => by
      rw [p1, Option.bind_some]
      dsimp only
      rw [if_pos (show ¬ (1 : Int32) = 0 by decide), B.2.2.1, wshl c.1 (by omega), r1, Option.bind_some, t896]
      exact hw
    rcases qOr_worthOrNumber_ev (by omega) b2 b3 b4 y with ⟨hy, q1⟩ | ⟨hy, ⟨j, hj, hyj, q1⟩ | ⟨hyj, q1⟩⟩
    · refine ⟨nI (yLn c true), h1, rI h2 232 T, by rw [q1, Option.bind_some], ref _ ?_⟩
      rw [if_pos hy]
      unfold qM_talk_j127
      rw [if_neg (show ¬ ¬ y = -1 from fun z => z hy)]
    · refine ⟨_, h1, rI h2 232 T, by rw [q1, Option.bind_some], ref _ ?_⟩
      rcases zf_in_n (m := yLn c true) (by omega) y with ⟨j', -, -, hz⟩ | ⟨hx, -⟩
      · rw [if_neg hy, hz, if_pos (show ¬ (1 : Int32) = 0 by decide), hyj, qM_talk_b148_ev B c1 r2 hj, Option.bind_some]
      · exact absurd hyj (wne hj (by omega) hx)
    · refine ⟨-1, h1, rI h2 232 T, by rw [q1, Option.bind_some], ref _ ?_⟩
      rcases zf_in_n (m := yLn c true) (by omega) y with ⟨j', hj', hyj', -⟩ | ⟨-, hz⟩
      · exact absurd hyj' (wne hj' (by omega) hyj)
      · rw [if_neg hy, hz, if_neg (show ¬ ¬ (0 : Int32) = 0 from fun z => z rfl)]
        unfold qM_talk_j127
        rw [if_pos hy]
theorem wo_dinner {h : zK} (H : InvB h) (a y : Int32) : ∃ w h1 h2, qC_dinner a y h = some (w, h1) ∧ qM_dinner a y h1 = some (w, h2) := by
  unfold qC_dinner qM_dinner
  simp only [zlet]
  rcases wcell H a with ⟨e1, e2⟩ | ⟨k, c, hk, rfl, c1, c2, c3, e1, e2, e4⟩
  · rw [e1, Option.bind_some]
    refine ⟨-1, h, sI h 215 0 0, rfl, ?_⟩
    rw [e2 _ (wEq_s (by unfold wKp; omega)), Option.bind_some]
    rfl
  · rw [e1, Option.bind_some]
    dsimp only
    rw [if_pos e2]
    have n7 := c1.1
    have p0 := w2p c.1
    have ln := yLn_d c1
    obtain ⟨h1, b1, b2, b3, b4⟩ := qOr_bestRow_ev (tk := false) e2 c2 c1
    have b1' : qOr_bestRow (7 + 15 * k) 0 h = some h1 := b1
    have eq1 := wEq_2 (wEq2_f (f_qOr_bestRow e2 b1') (by decide))
    obtain ⟨h2, p1, B, -, -, -⟩ := e4 (sI h1 215 0 0) (wEq_t eq1 (wEq_s (by unfold wKp; omega)))
    obtain ⟨g2, r1, T, rfl, r2⟩ := qM_dinner_b41_ev B c1 y
    have pe : nI (2 ^ c.1) - 1 = nI (2 ^ c.1 - 1) := by
      obtain ⟨m, hm⟩ : ∃ m, 2 ^ c.1 = m + 1 := ⟨2 ^ c.1 - 1, by omega⟩
      rw [hm, nI_pred, Nat.add_sub_cancel]
    rw [pe] at r1
    have t896 : gI (rI h2 232 T) 232 896 = iI (yTv c false 0 7) := by
      rw [gI_rI]
      exact r2 0 7 (Nat.zero_le _) (by omega) (by omega)
    rw [b1', Option.bind_some]
    rw [ln] at b3 b4
    have ref : ∀ w : Int32, zf_in y (-1) (nI c.1 - 1) = 1 → ((zloop (qM_dinner_b144 y (rI h2 232 T)) zfu (0, 7, 0)).bind fun t25 => if ¬ y = -1 then some (t25, rI h2 232 T) else some (iI (yTv c false 0 7), rI h2 232 T)) = some (w, rI h2 232 T) → ((qM_hand (nI k) (sI h1 215 0 0)).bind fun p2 => if p2.1 = 0 then some (-1, p2.2) else if ¬ zf_in y (-1) ((gI p2.2 215 23) - 1) = 0 then (zloop (qM_dinner_b41 y (((1 : Int32) <<< ((gI p2.2 215 23) &&& 31)) - 1)) zfu (((1 : Int32) <<< ((gI p2.2 215 23) &&& 31)) - 1, p2.2)).bind fun t17 => (zloop (qM_dinner_b144 y t17) zfu (0, 7, 0)).bind fun t25 => if ¬ y = -1 then some (t25, t17) else some (gI t17 232 896, t17) else some (-1, p2.2)) = some (w, rI h2 232 T) := fun w hz hw => by
      rw [p1, Option.bind_some]
      dsimp only
      rw [if_neg (show ¬ (1 : Int32) = 0 by decide), B.2.2.1, hz, if_pos (show ¬ (1 : Int32) = 0 by decide), wall1 c.1 (by omega), r1, Option.bind_some, t896]
      exact hw
    rcases wkin (show c.1 ≤ 1000 by omega) y with ⟨hy, hz⟩ | ⟨j, hj, hyj, hz⟩ | ⟨hyj, hz⟩
    · rcases qOr_worthOrNumber_ev (by omega) b2 b3 b4 y with ⟨-, q1⟩ | ⟨hn, -⟩
      · refine ⟨iI (yTv c false 0 7), h1, rI h2 232 T, by rw [q1, Option.bind_some], ref _ hz ?_⟩
        have l0 : zloop (qM_dinner_b144 y (rI h2 232 T)) zfu (0, 7, 0) = some 7 := zloop_e (n := 19999) (by
          unfold qM_dinner_b144
          dsimp only
          rw [hy, if_pos (show (-1 : Int32) < 0 by decide)])
        rw [l0, Option.bind_some, if_neg (show ¬ ¬ y = -1 from fun z => z hy)]
      · exact absurd hy hn
    · have hn : ¬ y = -1 := by rw [hyj]; exact nI_nm1 (by omega)
      rcases qOr_worthOrNumber_ev (by omega) b2 b3 b4 y with ⟨hy, -⟩ | ⟨-, ⟨j', hj', hyj', q1⟩ | ⟨hx, -⟩⟩
      · exact absurd hy hn
      · have : j' = j := by rw [hyj] at hyj'; exact ((nI_eq (by omega) (by omega)).mp hyj').symm
        subst this
        refine ⟨_, h1, rI h2 232 T, by rw [q1, Option.bind_some], ref _ hz ?_⟩
        rw [hyj, qM_dinner_b144_ev B c1 r2 (by omega), Option.bind_some, if_pos (nI_nm1 (by omega))]
      · exact absurd hyj (wne hj (by omega) hx)
    · have hn : ¬ y = -1 := by
        rcases hyj with hyj | ⟨j, -, j2, rfl⟩
        · intro z
          rw [z] at hyj
          exact absurd hyj (by decide)
        · exact nI_nm1 j2
      have q1 : qOr_worthOrNumber y h1 = some (-1) := by
        rcases qOr_worthOrNumber_ev (by omega) b2 b3 b4 y with ⟨hy, -⟩ | ⟨-, ⟨j', hj', hyj', q1⟩ | ⟨-, q1⟩⟩
        · exact absurd hy hn
        · exfalso
          rcases hyj with hyj | ⟨j, j1, j2, rfl⟩
          · rw [hyj'] at hyj
            rw [Int32.lt_iff_toInt_lt, nI_toInt (by omega)] at hyj
            have em : (-1 : Int32).toInt = -1 := rfl
            omega
          · have := (nI_eq j2 (by omega)).mp hyj'
            omega
        · exact q1
      refine ⟨-1, h1, h2, by rw [q1, Option.bind_some], ?_⟩
      rw [p1, Option.bind_some]
      dsimp only
      rw [if_neg (show ¬ (1 : Int32) = 0 by decide), B.2.2.1, hz]
      rfl
