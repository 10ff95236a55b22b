/-! TEXTS: both sides read a text -/
section READS
variable {g x : zK} {u : Nat → Nat} {len so : Nat}
theorem yDone_x {x' : zK} (h : ∀ j, gI x' 224 j = gI x 224 j) (D : yDone so g x) : yDone so g x' := by
  unfold yDone at *
  split
  · rw [if_pos (by assumption)] at D
    obtain ⟨c, ok, cc, X⟩ := D
    exact ⟨c, ok, cc, (h _).trans X.1, (h _).trans X.2.1, (h _).trans X.2.2.1, fun i s hi hs => (h _).trans (X.2.2.2 i s hi hs)⟩
  · rw [if_neg (by assumption)] at D
    split
    · rw [if_pos (by assumption)] at D
      obtain ⟨d, ok, c, X⟩ := D
      exact ⟨d, ok, c, (h _).trans X.1, fun r i hr hi => (h _).trans (X.2 r i hr hi)⟩
    · rw [if_neg (by assumption)] at D
      obtain ⟨d, ok, c, X⟩ := D
      exact ⟨d, ok, c, (h _).trans X.1, fun r i hr hi => (h _).trans (X.2 r i hr hi)⟩
theorem yReads (hso : so < 3) (l6 : len ≤ 600) (us : ∀ j, j < len → gI g 2 j = yBt (u j) ∧ u j < 256) (x10 : gI x 215 10 = nI len) (xs : ∀ j, j < len → gI x 216 j = yBt (u j)) : ∃ g' ok x', qRe_read (nI so) (nI len) g = some g' ∧ qM_readText (nI so) x = some (ok, x') ∧ ((gI g' 147 3 = 0 ∧ gI x' 218 0 = 0 ∧ gI x' 219 0 = -1 ∧ ok = 1 ∧ yDone so g' x') ∨ (¬ gI g' 147 3 = 0 ∧ gI x' 218 0 = gI g' 147 3 ∧ gI x' 219 0 = gI g' 147 4 ∧ ok = 0)) := by
  have us' : ∀ j, j < len → u j < 256 := fun j hj => (us j hj).2
  -- the class begins
  obtain ⟨g1, a0, T1, a9, a3, a13, b0, b1, b2, b3, b4, b5⟩ := qRe_begin_ev l6 us
  obtain ⟨g2, c0, c1, c2⟩ := qRe_step_ev T1 (a := 0) (Nat.zero_le _) a9
  have t0 : ySt u len 0 ≤ len := by unfold ySt; exact ySc_le (Nat.zero_le _)
  have RS : yRS g2 u len (ySt u len 0) := ⟨yTp_f T1 c2, c1, t0⟩
  -- the reference begins
  obtain ⟨r, r0, rj, r1, r2⟩ := qM_clear_ev x (nI so)
  let x8 : zK := sI (sI r 224 0 (if ¬ nI so = 0 then 0 else 3)) 224 1 (if ¬ nI so = 0 then 0 else 1)
  let x14 : zK := sI (sI (sI x8 215 20 (-1)) 215 9 0) 215 16 0
  have f8 : ∀ a j, a ≠ 224 → a ≠ 215 → gI x14 a j = gI x a j := fun a j h1 h2 => (gI_ne h2).trans ((gI_ne h2).trans ((gI_ne h2).trans ((gI_ne h1).trans ((gI_ne h1).trans (r1 a j h1)))))
  have f24 : ∀ j, gI x14 224 j = gI x8 224 j := fun j => (gI_ne (by decide)).trans ((gI_ne (by decide)).trans (gI_ne (by decide)))
  have T2 : yTm x14 u len := by
    refine ⟨l6, ?_, fun j hj => ⟨(f8 216 j (by decide) (by decide)).trans (xs j hj), us' j hj⟩⟩
    show gI (sI (sI (sI (sI (sI r _ _ _) _ _ _) 215 20 (-1)) 215 9 0) 215 16 0) 215 10 = _
    rw [gI_nk (by decide), gI_nk (by decide), gI_nk (by decide), gI_ne (by decide), gI_ne (by decide), r1 215 10 (by decide)]
    exact x10
  have x9 : gI x14 215 9 = nI 0 := (gI_nk (by decide)).trans gI_eq
  have x16 : gI x14 215 16 = 0 := gI_eq
  have x20 : gI x14 215 20 = -1 := (gI_nk (by decide)).trans ((gI_nk (by decide)).trans gI_eq)
  obtain ⟨x15, d0, d1, d2⟩ := qM_token_ev T2 (a := 0) (Nat.zero_le _) x9
  have RX : yRX x15 u len (ySt u len 0) := ⟨yTm_f T2 d2, d1, t0⟩
  have x24 : ∀ j, j < 121 → j ≠ 0 → j ≠ 1 → gI x15 224 j = 0 := fun j h1 h2 h3 => by
    rw [d2.2 224 j (Or.inl (by decide)), f24 j]
    exact (gI_nk h3).trans ((gI_nk h2).trans (r2 j h1))
  have x240 : gI x15 224 0 = if ¬ nI so = 0 then 0 else 3 := by
    rw [d2.2 224 0 (Or.inl (by decide)), f24 0]
    exact (gI_nk (by decide)).trans gI_eq
  have x241 : gI x15 224 1 = if ¬ nI so = 0 then 0 else 1 := by
    rw [d2.2 224 1 (Or.inl (by decide)), f24 1]
    exact gI_eq
  have J : yJo so u len (ySt u len 0) (0, 0) g2 x15 := by
    refine ⟨RS, RX, ⟨by decide, (c2.2 147 3 (by omega)).trans a3, fun z => absurd rfl z⟩, ⟨by decide, (d2.2 215 16 (by omega)).trans x16, fun z => absurd rfl z⟩, fun z => absurd rfl z, by decide, ?_, fun _ => ?_⟩
    · by_cases s0 : so = 0
      · subst s0
        exact ⟨0, by decide, x24 2 (by decide) (by decide) (by decide)⟩
      · refine ⟨0, Nat.zero_le _, ?_⟩
        rw [if_neg s0, x240, if_pos (fun z => s0 ((nI_z (by omega)).mp z))]
        rfl
    · rcases (by omega : so = 0 ∨ so = 1 ∨ so = 2) with rfl | rfl | rfl
      · refine ⟨(3, 1, 0, fun _ _ => 0, fun _ => 0, 0), ⟨by decide, by decide, by decide, fun s hs => absurd hs (Nat.not_lt_zero _), fun s _ => ⟨by show 0 < 128; omega, Nat.zero_testBit _, fun t ht => ht⟩, by decide⟩, ⟨(c2.2 148 0 (by omega)).trans b0, (c2.2 148 1 (by omega)).trans b1, (c2.2 148 2 (by omega)).trans b2, fun i s hi hs => absurd hs (Nat.not_lt_zero _), fun s hs => (c2.2 155 s (by omega)).trans (b3 s hs), (c2.2 147 13 (by omega)).trans a13⟩, ⟨x240, x241, x24 2 (by decide) (by decide) (by decide), fun i s hi hs => absurd hs (Nat.not_lt_zero _), fun s hs => x24 (45 + s) (by omega) (by omega) (by omega), (d2.2 215 20 (by omega)).trans x20⟩⟩
      · exact ⟨(0, fun _ _ => 0), ⟨by decide, fun i hi => absurd hi (Nat.not_lt_zero _)⟩, ⟨(c2.2 156 0 (by omega)).trans b4, fun r i hr hi => absurd hi (Nat.not_lt_zero _)⟩, ⟨x240, fun r i hr hi => absurd hi (Nat.not_lt_zero _)⟩⟩
      · exact ⟨(0, fun _ _ => 0), ⟨by decide, fun i hi => absurd hi (Nat.not_lt_zero _)⟩, ⟨(c2.2 160 0 (by omega)).trans b5, fun r i hr hi => absurd hi (Nat.not_lt_zero _)⟩, ⟨x240, fun r i hr hi => absurd hi (Nat.not_lt_zero _)⟩⟩
  obtain ⟨g3, ok, x3, e1, e2, e3⟩ := yLines hso us' l6 600 _ 0 _ g2 x15 zfu zfu (by omega) (Nat.zero_le _) (zfu_lt (by omega)) (zfu_lt (by omega)) J
  have ob : ok = 0 ∨ ok = 1 := by
    rcases e3 with ⟨h, -⟩ | ⟨h, -⟩
    · exact Or.inl h
    · exact Or.inr h
  have zb : zbool ok = true := by
    rcases ob with h | h
    · rw [h]; exact zbool_0
    · rw [h]; exact zbool_1
  have rd : qRe_read (nI so) (nI len) g = (if ¬ nI so = 0 then some g3 else if ((gI g3 147 13) &&& ((qCe_all 148 g3) ^^^ (-1))) = 0 then some g3 else (qRe_note 4 (gI g3 147 8) g3).bind fun p11 => some p11) := by
    unfold qRe_read
    rw [a0, Option.bind_some, c0, Option.bind_some]
    have e1' : zloop (qRe_read_b13 (nI so)) zfu (0, g2) = some g3 := e1
    rw [e1', Option.bind_some]
  have al : qM_allLines (nI so) x15 = some (ok, x3) := by
    unfold qM_allLines
    rw [e2, Option.bind_some]
    dsimp only
    rw [if_pos zb]
  have rt : qM_readText (nI so) x = Option.bind (if ok = 0 then some x3 else if ¬ nI so = 0 then some x3 else if ¬ (gI x3 215 16) = 0 then some x3 else if (gI x3 215 20) < (gI x3 224 2) then some x3 else (qM_addsFault 4 (gI x3 215 11) x3).bind fun p22 => some p22) fun v18 => if ¬ (gI (sI (sI v18 218 0 (if ok = 0 then 1 else gI v18 215 16)) 219 0 (if ¬ ok = 0 then if (gI (sI v18 218 0 (if ok = 0 then 1 else gI v18 215 16)) 215 16) ≤ 0 then -1 else gI (sI v18 218 0 (if ok = 0 then 1 else gI v18 215 16)) 215 17 else gI (sI v18 218 0 (if ok = 0 then 1 else gI v18 215 16)) 215 15)) 218 0) = 0 then some (0, sI (sI v18 218 0 (if ok = 0 then 1 else gI v18 215 16)) 219 0 (if ¬ ok = 0 then if (gI (sI v18 218 0 (if ok = 0 then 1 else gI v18 215 16)) 215 16) ≤ 0 then -1 else gI (sI v18 218 0 (if ok = 0 then 1 else gI v18 215 16)) 215 17 else gI (sI v18 218 0 (if ok = 0 then 1 else gI v18 215 16)) 215 15)) else some (1, sI (sI v18 218 0 (if ok = 0 then 1 else gI v18 215 16)) 219 0 (if ¬ ok = 0 then if (gI (sI v18 218 0 (if ok = 0 then 1 else gI v18 215 16)) 215 16) ≤ 0 then -1 else gI (sI v18 218 0 (if ok = 0 then 1 else gI v18 215 16)) 215 17 else gI (sI v18 218 0 (if ok = 0 then 1 else gI v18 215 16)) 215 15)) := by
    unfold qM_readText
    rw [r0, Option.bind_some]
    simp only [zlet]
    show ((qM_token x14).bind _) = _
    rw [d0, Option.bind_some, al, Option.bind_some]
  rw [rd, rt]
  rcases e3 with ⟨h0, h3, p, hp, hp'⟩ | ⟨h1, F, J'⟩
  · subst h0
    have cl : (if ¬ nI so = 0 then some g3 else if ((gI g3 147 13) &&& ((qCe_all 148 g3) ^^^ (-1))) = 0 then some g3 else (qRe_note 4 (gI g3 147 8) g3).bind fun p11 => some p11) = some g3 := by
      split
      · rfl
      · split
        · rfl
        · unfold qRe_note
          rw [if_pos (show ¬ gI g3 147 3 = 0 by rw [h3]; decide)]
          rfl
    rw [cl]
    simp only [↓reduceIte, not_true_eq_false, Option.bind_some]
    rw [if_pos (show ¬ gI (sI (sI x3 218 0 1) 219 0 (gI (sI x3 218 0 1) 215 15)) 218 0 = 0 by rw [gI_ne (by decide), gI_eq]; decide)]
    refine ⟨g3, 0, _, rfl, rfl, Or.inr ⟨by rw [h3]; decide, ?_, ?_, rfl⟩⟩
    · rw [gI_ne (by decide), gI_eq, h3]
    · rw [gI_eq, gI_ne (by decide), hp, hp']
  · subst h1
    obtain ⟨g', x', G, q1, q2, q3, q4, q5⟩ := yEnds hso J'
    rw [q1, q2, Option.bind_some]
    simp only [if_neg (show ¬ (1 : Int32) = 0 by decide), if_pos (show ¬ (1 : Int32) = 0 by decide)]
    have fl : ∀ a j, a ≠ 218 → a ≠ 219 → ∀ w z, gI (sI (sI x' 218 0 w) 219 0 z) a j = gI x' a j := fun a j h1 h2 w z => (gI_ne h2).trans (gI_ne h1)
    rw [gI_ne (show 215 ≠ 218 by decide), gI_ne (show 215 ≠ 218 by decide), q4.2.1]
    have g4 := q3.1
    by_cases z : G.1 = 0
    · have n0 : nI G.1 = 0 := by rw [z]; rfl
      rw [n0, if_pos (show (0 : Int32) ≤ 0 by decide), if_neg (show ¬ ¬ gI (sI (sI x' 218 0 0) 219 0 (-1)) 218 0 = 0 by rw [gI_ne (by decide), gI_eq]; exact fun z => z rfl)]
      exact ⟨g', 1, _, rfl, rfl, Or.inl ⟨q3.2.1.trans n0, by rw [gI_ne (by decide), gI_eq], gI_eq, rfl, yDone_x (fun j => fl 224 j (by decide) (by decide) _ _) (q5 z)⟩⟩
    · have n0 : ¬ nI G.1 = 0 := fun zz => z ((nI_z (by omega)).mp zz)
      rw [if_neg (show ¬ nI G.1 ≤ 0 from nI_ge (b := G.1) (a := 0) (by omega) (by omega)), if_pos (show ¬ gI (sI (sI x' 218 0 (nI G.1)) 219 0 (gI x' 215 17)) 218 0 = 0 by rw [gI_ne (by decide), gI_eq]; exact n0)]
      exact ⟨g', 0, _, rfl, rfl, Or.inr ⟨by rw [q3.2.1]; exact n0, by rw [gI_ne (by decide), gI_eq, q3.2.1], by rw [gI_eq, q4.2.2 z, q3.2.2 z], rfl⟩⟩
end READS
