theorem qC_hold_h {h : zK} {v n : Nat} {x5 : Int32} {x7 x9 : Int64} (e : gI h v 2 = nI n) : qC_hold_b74 v x5 x7 x9 h = qC_hold_b74 7 x5 x7 x9 (wHn n) := by
  funext s
  unfold qC_hold_b74
  rw [e, show gI (wHn n) 7 2 = nI n from rfl]
theorem qM_hold_h {h : zK} {n : Nat} {x4 x5 : Int32} {x6 x8 : Int64} (e : gI h 215 23 = nI n) : qM_hold_b73 x4 x5 x6 x8 h = qM_hold_b73 x4 x5 x6 x8 (wHn n) := by
  funext s
  unfold qM_hold_b73
  rw [e, show gI (wHn n) 215 23 = nI n from rfl]
theorem wo_hold {h : zK} (H : InvB h) (a x y z u : Int32) (hu : u = 0 ∨ u = 1) : ∃ w h2, qC_hold a x y z u h = some w ∧ qM_hold a x y z u h = some (w, h2) := by
  have e11 : nI 11 - 1 = (10 : Int32) := by decide
  have e3 : nI 3 - 1 = (2 : Int32) := by decide
  have e8 : nI 8 - 1 = (7 : Int32) := by decide
  obtain ⟨uu, hu2, rfl⟩ : ∃ uu, uu < 2 ∧ u = nI uu := by
    rcases hu with rfl | rfl
    · exact ⟨0, by omega, rfl⟩
    · exact ⟨1, by omega, rfl⟩
  unfold qC_hold qM_hold
  simp only [zlet]
  rcases wcell H a with ⟨q1, q2⟩ | ⟨k, c, hk, rfl, c1, c2, c3, q1, q2, q4⟩
  · rw [q1, Option.bind_some, q2 _ (wEq_s (by unfold wKp; omega)), Option.bind_some]
    refine ⟨-1, sI h 215 0 0, rfl, ?_⟩
    split
    · rfl
    · split
      · rfl
      · split <;> rfl
  · obtain ⟨h2, g1, B, -, -⟩ := q4 (sI h 215 0 0) (wEq_s (by unfold wKp; omega))
    rw [q1, Option.bind_some, g1, Option.bind_some]
    simp only [if_pos q2]
    have lo : ∀ (t : Int32) (m : Nat), m < 2 ^ 31 → (t < 0 ∨ ∃ j, m ≤ j ∧ j < 2 ^ 31 ∧ t = nI j) → ¬ t < 0 → nI m ≤ t := fun t m hm q hn => by
      rcases q with q | ⟨j, j1, j2, rfl⟩
      · exact absurd q hn
      · exact nI_le j1 j2
    rcases zf_in_n (m := 11) (by omega) x with ⟨p, hp, rfl, hz⟩ | ⟨hx, hz⟩
    · rw [e11] at hz
      rw [hz, if_neg (show ¬ (1 : Int32) = 0 by decide), if_neg (nI_pos (by omega)), if_neg (show ¬ (10 : Int32) < nI p from nI_nlt (a := 10) (by omega) (by decide))]
      rcases zf_in_n (m := 3) (by omega) y with ⟨yy, hy, rfl, hz2⟩ | ⟨hx, hz2⟩
      · rw [e3] at hz2
        rw [hz2, if_neg (show ¬ (1 : Int32) = 0 by decide), if_neg (nI_pos (by omega)), if_neg (show ¬ (2 : Int32) < nI yy from nI_nlt (a := 2) (by omega) (by decide))]
        rcases zf_in_n (m := 8) (by omega) z with ⟨m, hm, rfl, hz3⟩ | ⟨hx, hz3⟩
        · rw [e8] at hz3
          rw [hz3, if_neg (show ¬ (1 : Int32) = 0 by decide), if_neg (nI_pos (by omega)), if_pos (show nI m ≤ (7 : Int32) from nI_le (b := 7) (by omega) (by decide)), if_pos (show ¬ (1 : Int32) = 0 by decide)]
          obtain ⟨d1, d2⟩ := wHD_all c1.1 hp yy hy m hm uu hu2
          obtain ⟨w, hw⟩ := Option.isSome_iff_exists.mp d2
          have hw2 := d1.symm.trans hw
          refine ⟨w, h2, ?_, ?_⟩
          · rw [← hw]
            unfold wHC
            simp only [qC_hold_h (cC_n c2), cC_n c2]
          · unfold wHM at hw2
            obtain ⟨p7, a7, hw2⟩ := zbs hw2
            obtain ⟨p8, a8, hw2⟩ := zbs hw2
            obtain ⟨t15, a15, hw2⟩ := zbs hw2
            obtain ⟨p17, a17, hw2⟩ := zbs hw2
            obtain ⟨p18, a18, hw2⟩ := zbs hw2
            rw [a7, Option.bind_some, a8, Option.bind_some, qM_hold_h B.2.2.1, a15, Option.bind_some, B.2.2.1, a17, Option.bind_some, a18, Option.bind_some]
            cases hw2
            rfl
        · rw [e8] at hz3
          rw [hz3, if_pos rfl]
          refine ⟨-1, _, ?_, rfl⟩
          by_cases hn : z < 0
          · rw [if_pos hn]
          · rw [if_neg hn, if_neg]
            have := lo z 8 (by omega) hx hn
            intro q
            rw [Int32.le_iff_toInt_le] at q this
            rw [nI_toInt (by omega)] at this
            have e7 : (7 : Int32).toInt = 7 := rfl
            omega
      · rw [e3] at hz2
        rw [hz2, if_pos rfl]
        refine ⟨-1, _, ?_, rfl⟩
        by_cases hn : y < 0
        · rw [if_pos hn]
        · rw [if_neg hn, if_pos]
          have := lo y 3 (by omega) hx hn
          rw [Int32.le_iff_toInt_le] at this
          rw [nI_toInt (by omega)] at this
          rw [Int32.lt_iff_toInt_lt]
          have e7 : (2 : Int32).toInt = 2 := rfl
          omega
    · rw [e11] at hz
      rw [hz, if_pos rfl]
      refine ⟨-1, _, ?_, rfl⟩
      by_cases hn : x < 0
      · rw [if_pos hn]
      · rw [if_neg hn, if_pos]
        have := lo x 11 (by omega) hx hn
        rw [Int32.le_iff_toInt_le] at this
        rw [nI_toInt (by omega)] at this
        rw [Int32.lt_iff_toInt_lt]
        have e7 : (10 : Int32).toInt = 10 := rfl
        omega
