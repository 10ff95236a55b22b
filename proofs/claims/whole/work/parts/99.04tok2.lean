/-! TEXTS: tokens, the reference -/
section TOKM
variable {x : zK} {u : Nat → Nat} {len a : Nat}
def yTm (x : zK) (u : Nat → Nat) (len : Nat) : Prop := len ≤ 600 ∧ gI x 215 10 = nI len ∧ ∀ j, j < len → gI x 216 j = yBt (u j) ∧ u j < 256
theorem qM_see_ev (T : yTm x u len) {i : Nat} (hi : i ≤ len) (e9 : gI x 215 9 = nI i) : qM_see x = some (if i < len then nI (u i) else -1) := by
  have l6 := T.1
  unfold qM_see
  rw [T.2.1, e9]
  by_cases hl : i < len
  · obtain ⟨r1, r2⟩ := T.2.2 i hl
    rw [if_neg (nI_ge hl (by omega)), zix_nI (by omega) (by omega), Option.bind_some, r1, yBt_and _ r2, if_pos hl]
  · rw [if_pos (nI_le (by omega) (by omega)), if_neg hl]
theorem yTm_s {k : Nat} {v : Int32} (hk : k ≠ 10) (T : yTm x u len) : yTm (sI x 215 k v) u len := ⟨T.1, (gI_nk (fun e => hk e.symm)).trans T.2.1, fun j hj => ⟨(gI_ne (by decide)).trans (T.2.2 j hj).1, (T.2.2 j hj).2⟩⟩
theorem yTm_j {k : Nat} {v : Int64} (T : yTm x u len) : yTm (sJ x 215 k v) u len := T
def yKr (k : Nat) : Nat := if k = 0 then 0 else if k = 1 then 2 else if k = 2 then 3 else if k = 3 then 4 else 1
/-- letters as one number -/
def yPk (u : Nat → Nat) (s : Nat) : Nat → Nat
  | 0 => 0
  | i + 1 => yPk u s i * 256 + u (s + i)
theorem yPk_lt {s n : Nat} (hu : ∀ i, i < n → u (s + i) < 256) : ∀ i, i ≤ n → yPk u s i < 2 ^ (8 * i)
  | 0, _ => (by decide : 0 < 2 ^ (8 * 0))
  | i + 1, hi => by
    have ih := yPk_lt hu i (by omega)
    have b := hu i (by omega)
    have e : 2 ^ (8 * (i + 1)) = 2 ^ (8 * i) * 256 := by rw [show 8 * (i + 1) = 8 * i + 8 by omega, Nat.pow_add]
    show yPk u s i * 256 + u (s + i) < _
    omega
def yWf (u : Nat → Nat) (s i : Nat) : Int64 := wfold (fun j w => (w <<< (Int32.toInt64 8 &&& 63)) ||| (nI (u (s + j))).toInt64) 0 i
theorem yWf_p {s n : Nat} (hu : ∀ i, i < n → u (s + i) < 256) (hn : n ≤ 8) : ∀ i, i ≤ n → yWf u s i = lN (yPk u s i)
  | 0, _ => rfl
  | i + 1, hi => by
    have ih := yWf_p hu hn i (by omega)
    have b := hu i (by omega)
    have l1 := yPk_lt hu i (by omega)
    have l2 := yPk_lt hu (i + 1) hi
    have l3 : 2 ^ (8 * (i + 1)) ≤ 2 ^ 64 := Nat.pow_le_pow_right (by omega) (by omega)
    show (yWf u s i <<< (Int32.toInt64 8 &&& 63)) ||| (nI (u (s + i))).toInt64 = lN (yPk u s i * 256 + u (s + i))
    have l4 : yPk u s i * 256 + u (s + i) < 2 ^ 64 := Nat.lt_of_lt_of_le l2 l3
    rw [ih, nI_l (by omega), show (8 : Int32) = nI 8 from rfl, wb_shl _ (by omega), show 2 ^ 8 = 256 from rfl]
    exact g_or (k := 8) (p := 256) rfl b l4
def yMS (x : zK) (u : Nat → Nat) (len s : Nat) : Prop := gI x 215 11 = nI s ∧ gI x 215 12 = nI (yKr (yKd u len s)) ∧ gI x 215 9 = nI (yNx u len s) ∧ (yKd u len s = 2 → gI x 215 13 = nI (yVl u s (yNx u len s - s))) ∧ (yKd u len s = 1 → gJ x 215 14 = if yNx u len s - s ≤ 8 then lN (yPk u s (yNx u len s - s)) else 0)
def yFM (x x' : zK) : Prop := (∀ a j, a ≠ 215 → gJ x' a j = gJ x a j) ∧ ∀ a j, (a ≠ 215 ∨ (j ≠ 9 ∧ j ≠ 11 ∧ j ≠ 12 ∧ j ≠ 13)) → gI x' a j = gI x a j
theorem yFM_t {x x1 x2 : zK} (a : yFM x x1) (b : yFM x1 x2) : yFM x x2 := ⟨fun y j h => (b.1 y j h).trans (a.1 y j h), fun y j h => (b.2 y j h).trans (a.2 y j h)⟩
theorem yFM_s {k : Nat} {v : Int32} (hk : k = 9 ∨ k = 11 ∨ k = 12 ∨ k = 13) : yFM x (sI x 215 k v) := ⟨fun _ _ _ => rfl, fun y j h => by
  by_cases e : y = 215
  · rw [gI_nk (by omega)]
  · rw [gI_ne e]⟩
theorem yFM_j {k : Nat} {v : Int64} : yFM x (sJ x 215 k v) := ⟨fun y j h => by rw [gJ_sJ, if_neg (fun z => h z.1)], fun _ _ _ => rfl⟩
theorem gJ_sI {h : zK} {a k : Nat} {v : Int32} {b j : Nat} : gJ (sI h a k v) b j = gJ h b j := rfl
theorem ym1_d : zf_in (-1) 48 57 = 0 := by decide
theorem ym1_l : zf_in (-1) 97 122 = 0 := by decide
theorem sI_sw {h : zK} {a k1 k2 : Nat} {v0 w0 v w : Int32} (hk : k1 ≠ k2) : sI (sI (sI (sI h a k1 v0) a k2 w0) a k1 v) a k2 w = sI (sI h a k1 v) a k2 w := by
  unfold sI
  refine Prod.ext rfl (Prod.ext ?_ rfl)
  funext b j
  dsimp only
  unfold zu
  by_cases c1 : b = a ∧ j = k2
  · rw [if_pos c1, if_pos c1]
  · rw [if_neg c1, if_neg c1]
    by_cases c2 : b = a ∧ j = k1
    · rw [if_pos c2, if_pos c2, if_neg c1]
    · rw [if_neg c2, if_neg c2, if_neg c1, if_neg c2]
theorem sJ_sw {h : zK} {a k1 k2 : Nat} {v0 v : Int64} {w0 w : Int32} : sI (sJ (sI (sJ h a k1 v0) a k2 w0) a k1 v) a k2 w = sI (sJ h a k1 v) a k2 w := by
  unfold sI sJ
  refine Prod.ext rfl (Prod.ext ?_ ?_)
  · funext b j
    dsimp only
    unfold zu
    by_cases c1 : b = a ∧ j = k2
    · rw [if_pos c1, if_pos c1]
    · rw [if_neg c1, if_neg c1, if_neg c1]
  · funext b j
    dsimp only
    unfold zu
    by_cases c2 : b = a ∧ j = k1
    · rw [if_pos c2, if_pos c2]
    · rw [if_neg c2, if_neg c2, if_neg c2]
theorem qM_token_ev (T : yTm x u len) (ha : a ≤ len) (e9 : gI x 215 9 = nI a) : ∃ x', qM_token x = some x' ∧ yMS x' u len (ySt u len a) ∧ yFM x x' := by
  have l6 := T.1
  have sle : ySt u len a ≤ len := ySc_le ha
  have sge : a ≤ ySt u len a := ySc_ge
  have b0 : zloop qM_token_b0 zfu x = some (sI x 215 9 (nI (ySt u len a))) := by
    have st : x = sI x 215 9 (nI (a + 0)) := (sI_self e9).symm
    have key : zloop qM_token_b0 zfu (sI x 215 9 (nI (a + 0))) = some (sI x 215 9 (nI (ySt u len a))) := by
      refine zloop_for (fun i => sI x 215 9 (nI (a + i))) (ySt u len a - a) (fun i hi => ?_) ?_ (zfu_lt (by omega))
      · have see := qM_see_ev (i := a + i) (yTm_s (k := 9) (v := nI (a + i)) (by decide) T) (by omega) gI_eq
        have bl : yBl (u (a + i)) = true := ySc_y (p := fun j => yBl (u j)) (len := len) (a := a) (j := a + i) (by omega) (by show a + i < ySt u len a; omega)
        obtain ⟨-, r2⟩ := T.2.2 (a + i) (by omega)
        unfold qM_token_b0 qM_token_j18
        simp only [zlet]
        rw [see, Option.bind_some, if_pos (show a + i < len by omega), gI_eq, sI_twice, nI_1]
        unfold yBl at bl
        by_cases h10 : u (a + i) = 10
        · rw [h10, if_pos (show nI 10 = 10 from rfl)]
          rfl
        · have h32 : u (a + i) = 32 := by
            rw [decide_eq_false h10, Bool.false_or] at bl
            exact of_decide_eq_true bl
          rw [h32, if_neg (show ¬ nI 32 = 10 by decide), Option.bind_some, if_neg (show ¬ ¬ nI 32 = 32 from fun z => z rfl)]
          rfl
      · rw [show a + (ySt u len a - a) = ySt u len a by omega]
        have see := qM_see_ev (i := ySt u len a) (yTm_s (k := 9) (v := nI (ySt u len a)) (by decide) T) sle gI_eq
        unfold qM_token_b0 qM_token_j18
        simp only [zlet]
        rw [see, Option.bind_some]
        by_cases hl : ySt u len a < len
        · have nb : yBl (u (ySt u len a)) = false := ySc_n (p := fun j => yBl (u j)) ha hl
          obtain ⟨-, r2⟩ := T.2.2 _ hl
          unfold yBl at nb
          rw [Bool.or_eq_false_iff] at nb
          rw [if_pos hl, if_neg (show ¬ nI (u (ySt u len a)) = (10 : Int32) from fun z => of_decide_eq_false nb.1 ((nI_eq (b := 10) (by omega) (by omega)).mp z)), Option.bind_some, if_pos (show ¬ nI (u (ySt u len a)) = (32 : Int32) from fun z => of_decide_eq_false nb.2 ((nI_eq (b := 32) (by omega) (by omega)).mp z))]
        · rw [if_neg hl, if_neg (show ¬ (-1 : Int32) = 10 by decide), Option.bind_some, if_pos (show ¬ (-1 : Int32) = 32 by decide)]
    rw [← st] at key
    exact key
  generalize hs : ySt u len a = s at *
  let h8 : zK := sI (sI x 215 9 (nI s)) 215 11 (nI s)
  have T8 : yTm h8 u len := yTm_s (by decide) (yTm_s (by decide) T)
  have e8 : gI h8 215 9 = nI s := by
    show gI (sI (sI _ _ _ _) _ _ _) _ _ = _
    rw [gI_nk (by decide), gI_eq]
  have e11 : gI h8 215 11 = nI s := gI_eq
  have f8 : yFM x h8 := yFM_t (yFM_s (by omega)) (yFM_s (by omega))
  have see8 := qM_see_ev T8 sle e8
  unfold qM_token
  rw [b0, Option.bind_some]
  simp only [zlet]
  rw [gI_eq]
  show ∃ x', ((qM_see h8).bind fun p9 => _) = some x' ∧ _
  rw [see8, Option.bind_some]
  let h10 : zK := sJ h8 215 14 0
  have T10 : yTm h10 u len := T8
  have f10 : yFM x h10 := yFM_t f8 yFM_j
  unfold yMS yKd yNx
  by_cases hl : s < len
  · obtain ⟨r1, r2⟩ := T8.2.2 s hl
    rw [if_pos hl, if_pos (show (0 : Int32) ≤ nI (u s) from nI_pos' (by omega)), yin_l _ r2, yin_d _ r2, if_neg (show ¬ len ≤ s by omega), if_neg (show ¬ len ≤ s by omega)]
    cases hL : yLt (u s) with
    | true =>
      rw [if_pos rfl, if_neg (show ¬ (1 : Int32) = 0 by decide), if_pos rfl, if_pos rfl]
      generalize hr : ySc (fun j => yLt (u j)) len s = r at *
      have ge : s ≤ r := hr ▸ ySc_ge
      have le : r ≤ len := hr ▸ ySc_le sle
      have ys : ∀ i, i < r - s → yLt (u (s + i)) = true := fun i hi => ySc_y (p := fun j => yLt (u j)) (len := len) (a := s) (j := s + i) (by omega) (by rw [hr]; omega)
      have us : ∀ i, i < r - s → u (s + i) < 256 := fun i hi => (T8.2.2 (s + i) (by omega)).2
      have b1 : zloop qM_token_b74 zfu (0, h10) = some (nI (r - s), sI (sJ h8 215 14 (yWf u s (r - s))) 215 9 (nI r)) := by
        have st : ((0 : Int32), h10) = (nI 0, sI (sJ h8 215 14 (yWf u s 0)) 215 9 (nI (s + 0))) := by
          rw [sI_self (show gI (sJ h8 215 14 (yWf u s 0)) 215 9 = nI (s + 0) from e8)]
          rfl
        rw [st]
        refine zloop_for (fun i => (nI i, sI (sJ h8 215 14 (yWf u s i)) 215 9 (nI (s + i)))) (r - s) (fun i hi => ?_) ?_ (zfu_lt (by omega))
        · have see := qM_see_ev (x := sI (sJ h8 215 14 (yWf u s i)) 215 9 (nI (s + i))) (u := u) (len := len) (i := s + i) (yTm_s (by decide) T8) (by omega) gI_eq
          have gj : gJ (sI (sJ h8 215 14 (yWf u s i)) 215 9 (nI (s + i))) 215 14 = yWf u s i := by
            rw [gJ_sI, gJ_sJ, if_pos ⟨rfl, rfl⟩]
          unfold qM_token_b74
          simp only [zlet]
          rw [see, Option.bind_some, if_pos (show s + i < len by omega), yin_l _ (us i hi), ys i hi, if_pos rfl, if_neg (show ¬ (1 : Int32) = 0 by decide), Option.bind_some, gj, gI_sJ, gI_eq, nI_1, nI_1, sJ_sw]
          rfl
        · rw [show s + (r - s) = r by omega]
          have see := qM_see_ev (x := sI (sJ h8 215 14 (yWf u s (r - s))) 215 9 (nI r)) (u := u) (len := len) (i := r) (yTm_s (by decide) T8) le gI_eq
          unfold qM_token_b74
          simp only [zlet]
          rw [see, Option.bind_some]
          by_cases hq : r < len
          · have nl : yLt (u r) = false := by
              have := ySc_n (p := fun j => yLt (u j)) sle (by rw [hr]; exact hq)
              rw [hr] at this
              exact this
            rw [if_pos hq, yin_l _ (T8.2.2 r hq).2, nl, if_neg (show ¬ false = true by decide), if_pos rfl]
          · rw [if_neg hq, ym1_l, if_pos rfl]
      show ∃ x', ((zloop qM_token_b74 zfu (0, h10)).bind fun t36 => _) = some x' ∧ _
      rw [b1, Option.bind_some]
      dsimp only
      have gj : gJ (sI (sJ h8 215 14 (yWf u s (r - s))) 215 9 (nI r)) 215 14 = yWf u s (r - s) := by
        rw [gJ_sI, gJ_sJ, if_pos ⟨rfl, rfl⟩]
      rw [gj]
      refine ⟨_, rfl, ⟨?_, ?_, ?_, fun z => absurd z (by decide), fun _ => ?_⟩, yFM_t (yFM_t (yFM_t (yFM_t f8 yFM_j) (yFM_s (by omega))) yFM_j) (yFM_s (by omega))⟩
      · rw [gI_nk (by decide), gI_sJ, gI_nk (by decide), gI_sJ]; exact e11
      · rw [gI_eq]; rfl
      · rw [gI_nk (by decide), gI_sJ, gI_eq]
      · rw [gJ_sI, gJ_sJ, if_pos ⟨rfl, rfl⟩]
        by_cases h8' : r - s ≤ 8
        · rw [if_pos (show nI (r - s) ≤ (8 : Int32) from nI_le (b := 8) h8' (by decide)), if_pos h8', yWf_p us h8' (r - s) (Nat.le_refl _)]
        · rw [if_neg (show ¬ nI (r - s) ≤ (8 : Int32) from nI_ge (a := 8) (by omega) (by omega)), if_neg h8']
    | false =>
      rw [if_neg (show ¬ false = true by decide), if_pos rfl, if_neg (show ¬ false = true by decide), if_neg (show ¬ false = true by decide)]
      cases hD : yDg (u s) with
      | true =>
        rw [if_pos rfl, if_neg (show ¬ (1 : Int32) = 0 by decide), if_pos rfl, if_pos rfl]
        have gt : s < ySc (fun j => yDg (u j)) len s := ySc_gt (p := fun j => yDg (u j)) hl hD
        generalize hr : ySc (fun j => yDg (u j)) len s = r at *
        have le : r ≤ len := hr ▸ ySc_le sle
        have ys : ∀ i, i < r - s → yDg (u (s + i)) = true := fun i hi => ySc_y (p := fun j => yDg (u j)) (len := len) (a := s) (j := s + i) (by omega) (by rw [hr]; omega)
        have us : ∀ i, i < r - s → u (s + i) < 256 := fun i hi => (T8.2.2 (s + i) (by omega)).2
        have dg : ∀ i, i < r - s → 48 ≤ u (s + i) ∧ u (s + i) ≤ 57 := fun i hi => by
          have := ys i hi
          unfold yDg at this
          rw [Bool.and_eq_true] at this
          exact ⟨of_decide_eq_true this.1, of_decide_eq_true this.2⟩
        have b1 : zloop qM_token_b163 zfu (0, sI h10 215 13 0) = some (nI (r - s), sI (sI h10 215 13 (nI (yVl u s (r - s)))) 215 9 (nI r)) := by
          have st : ((0 : Int32), sI h10 215 13 0) = (nI 0, sI (sI h10 215 13 (nI (if 0 = 0 then 0 else yVl u s 0))) 215 9 (nI (s + 0))) := by
            rw [if_pos rfl, sI_self (show gI (sI h10 215 13 (nI 0)) 215 9 = nI (s + 0) from (gI_nk (h := h10) (by decide)).trans e8)]
            rfl
          have en : nI (yVl u s (r - s)) = nI (if r - s = 0 then 0 else yVl u s (r - s)) := by rw [if_neg (by omega)]
          rw [st, en]
          refine zloop_for (fun i => (nI i, sI (sI h10 215 13 (nI (if i = 0 then 0 else yVl u s i))) 215 9 (nI (s + i)))) (r - s) (fun i hi => ?_) ?_ (zfu_lt (by omega))
          · have see := qM_see_ev (x := sI (sI h10 215 13 (nI (if i = 0 then 0 else yVl u s i))) 215 9 (nI (s + i))) (u := u) (len := len) (i := s + i) (yTm_s (by decide) (yTm_s (by decide) T10)) (by omega) gI_eq
            have g13 : gI (sI (sI h10 215 13 (nI (if i = 0 then 0 else yVl u s i))) 215 9 (nI (s + i))) 215 13 = nI (if i = 0 then 0 else yVl u s i) := by rw [gI_nk (by decide), gI_eq]
            have d := dg i hi
            have d0 := dg 0 (by omega)
            rw [Nat.add_zero] at d0
            have val : (if (2 : Int32) ≤ nI i then some (nI (if i = 0 then 0 else yVl u s i)) else (some (nI (u (s + i)))).bind fun p23 => some (((10 * nI (if i = 0 then 0 else yVl u s i)) + p23) - 48)) = some (nI (if i + 1 = 0 then 0 else yVl u s (i + 1))) := by
              rw [if_neg (show ¬ i + 1 = 0 by omega)]
              by_cases h0 : i = 0
              · subst h0
                rw [if_neg (show ¬ (2 : Int32) ≤ nI 0 by decide), Option.bind_some, if_pos rfl, Nat.add_zero, show (10 : Int32) = nI 10 from rfl, nI_mul, nI_add, show (48 : Int32) = nI 48 from rfl, nI_sub (by omega)]
                unfold yVl
                rw [if_pos rfl]
                congr 2
                omega
              · rw [if_neg h0]
                by_cases h1 : i = 1
                · subst h1
                  rw [if_neg (show ¬ (2 : Int32) ≤ nI 1 by decide), Option.bind_some, show (10 : Int32) = nI 10 from rfl, nI_mul, nI_add, show (48 : Int32) = nI 48 from rfl, nI_sub (by omega)]
                  unfold yVl
                  rw [if_pos rfl, if_neg (by omega)]
                  congr 2
                  omega
                · rw [if_pos (show (2 : Int32) ≤ nI i from nI_le (a := 2) (by omega) (by omega))]
                  unfold yVl
                  rw [if_neg h1, if_neg (by omega)]
            unfold qM_token_b163
            simp only [zlet]
            rw [see, Option.bind_some, if_pos (show s + i < len by omega), yin_d _ (us i hi), ys i hi, if_pos rfl, if_neg (show ¬ (1 : Int32) = 0 by decide), g13, val, Option.bind_some, gI_nk (show 9 ≠ 13 by decide), gI_eq, nI_1, nI_1, sI_sw (by decide)]
            rfl
          · rw [show s + (r - s) = r by omega]
            have see := qM_see_ev (x := sI (sI h10 215 13 (nI (if r - s = 0 then 0 else yVl u s (r - s)))) 215 9 (nI r)) (u := u) (len := len) (i := r) (yTm_s (by decide) (yTm_s (by decide) T10)) le gI_eq
            unfold qM_token_b163
            simp only [zlet]
            rw [see, Option.bind_some]
            by_cases hq : r < len
            · have nl : yDg (u r) = false := by
                have := ySc_n (p := fun j => yDg (u j)) sle (by rw [hr]; exact hq)
                rw [hr] at this
                exact this
              rw [if_pos hq, yin_d _ (T8.2.2 r hq).2, nl, if_neg (show ¬ false = true by decide), if_pos rfl]
            · rw [if_neg hq, ym1_d, if_pos rfl]
        show ∃ x', ((zloop qM_token_b163 zfu (0, sI h10 215 13 0)).bind fun t26 => _) = some x' ∧ _
        rw [b1, Option.bind_some]
        dsimp only
        have fr : yFM x (sI (sI h10 215 13 (nI (yVl u s (r - s)))) 215 9 (nI r)) := yFM_t f10 (yFM_t (yFM_s (by omega)) (yFM_s (by omega)))
        by_cases h2 : r - s ≤ 2
        · rw [if_pos (show nI (r - s) ≤ (2 : Int32) from nI_le (b := 2) h2 (by decide)), if_pos h2]
          refine ⟨_, rfl, ⟨?_, ?_, ?_, fun _ => ?_, fun z => absurd z (by decide)⟩, yFM_t fr (yFM_s (by omega))⟩
          · rw [gI_nk (by decide), gI_nk (by decide), gI_nk (by decide)]; exact e11
          · rw [gI_eq]; rfl
          · rw [gI_nk (by decide), gI_eq]
          · rw [gI_nk (by decide), gI_nk (by decide), gI_eq]
        · rw [if_neg (show ¬ nI (r - s) ≤ (2 : Int32) from nI_ge (a := 2) (by omega) (by omega)), if_neg h2]
          refine ⟨_, rfl, ⟨?_, ?_, ?_, fun z => absurd z (by decide), fun z => absurd z (by decide)⟩, yFM_t fr (yFM_s (by omega))⟩
          · rw [gI_nk (by decide), gI_nk (by decide), gI_nk (by decide)]; exact e11
          · rw [gI_eq]; rfl
          · rw [gI_nk (by decide), gI_eq]
      | false =>
        rw [if_neg (show ¬ false = true by decide), if_pos rfl, if_neg (show ¬ false = true by decide), if_neg (show ¬ false = true by decide)]
        have e9' : gI h10 215 9 = nI s := e8
        show ∃ x', (if ¬ nI (u s) = 59 then some (sI (sI h10 215 9 (gI h10 215 9 + 1)) 215 12 1) else some (sI (sI h10 215 9 (gI h10 215 9 + 1)) 215 12 4)) = some x' ∧ _
        rw [e9', nI_1]
        by_cases h59 : u s = 59
        · rw [h59, if_neg (show ¬ ¬ nI 59 = 59 from fun z => z rfl), if_pos rfl]
          refine ⟨_, rfl, ⟨?_, ?_, ?_, fun z => absurd z (by decide), fun z => absurd z (by decide)⟩, yFM_t f10 (yFM_t (yFM_s (by omega)) (yFM_s (by omega)))⟩
          · rw [gI_nk (by decide), gI_nk (by decide)]; exact e11
          · rw [gI_eq]; rfl
          · rw [gI_nk (by decide), gI_eq]
        · rw [if_pos (show ¬ nI (u s) = (59 : Int32) from fun z => h59 ((nI_eq (b := 59) (by omega) (by omega)).mp z)), if_neg h59]
          refine ⟨_, rfl, ⟨?_, ?_, ?_, fun z => absurd z (by decide), fun z => absurd z (by decide)⟩, yFM_t f10 (yFM_t (yFM_s (by omega)) (yFM_s (by omega)))⟩
          · rw [gI_nk (by decide), gI_nk (by decide)]; exact e11
          · rw [gI_eq]; rfl
          · rw [gI_nk (by decide), gI_eq]
  · rw [if_neg hl, if_neg (show ¬ (0 : Int32) ≤ -1 by decide), if_pos (by omega), if_pos (by omega)]
    refine ⟨_, rfl, ⟨?_, ?_, ?_, fun z => absurd z (by decide), fun z => absurd z (by decide)⟩, yFM_t f10 (yFM_s (by omega))⟩
    · rw [gI_nk (by decide)]; exact e11
    · rw [gI_eq]; rfl
    · rw [gI_nk (by decide)]; exact e8
end TOKM
