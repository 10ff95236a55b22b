/-! TEXTS: the beginning and the end of reading -/
theorem yi8 : ∀ n, n < 256 → yBt n = (Int8.ofNat n).toInt32 := by decide +kernel
def yU (h : zK) (j : Nat) : Nat := (gI h 2 j).toInt8.toBitVec.toNat
theorem yU_256 (h : zK) (j : Nat) : yU h j < 256 := (gI h 2 j).toInt8.toBitVec.isLt
theorem yU_b {h : zK} {j : Nat} (e : (gI h 2 j).toInt8.toInt32 = gI h 2 j) : yBt (yU h j) = gI h 2 j := by
  have q : Int8.ofNat (yU h j) = (gI h 2 j).toInt8 := by
    apply Int8.toBitVec_inj.1
    unfold yU
    simp
  rw [yi8 _ (yU_256 h j), q, e]
/-- a cellar in the reference's row -/
def yCX (x : zK) (c : wC) : Prop := gI x 224 0 = nI c.2.1 ∧ gI x 224 1 = nI c.2.2.1 ∧ gI x 224 2 = nI c.1 ∧ ∀ i s, i < 7 → s < c.1 → gI x 224 (3 + 7 * i + s) = nI (c.2.2.2 i s)
/-- a text that is told well -/
def yDone (so : Nat) (g x : zK) : Prop := if so = 0 then ∃ c, wCok c ∧ cC g 148 c ∧ yCX x c else if so = 1 then yK1 g x else yK2 g x
section READ
variable {g x : zK} {u : Nat → Nat} {len : Nat} {F : Nat × Nat} {so : Nat}
theorem ysub_lt {a b n : Nat} (h : ySub a b) (hb : b < 2 ^ n) : a < 2 ^ n := by
  apply Nat.lt_pow_two_of_testBit
  intro i hi
  cases e : a.testBit i
  · rfl
  · have := h i e
    rw [Nat.testBit_lt_two_pow (Nat.lt_of_lt_of_le hb (Nat.pow_le_pow_right (by omega) hi))] at this
    cases this
theorem yDone_0 {P : yS0} (ok : yOk0 P) (G : yC0g g P) (X : yX0 x P) (hn : P.2.2.2.2.2 < 2 ^ P.2.2.1) : yDone 0 g x := by
  obtain ⟨o1, o2, o3, o4, o5, o6⟩ := ok
  obtain ⟨g0, g1, g2, g3, g4, g5⟩ := G
  obtain ⟨x0, x1, x2, x3, x4, x5⟩ := X
  show ∃ c, wCok c ∧ cC g 148 c ∧ yCX x c
  refine ⟨(P.2.2.1, P.1, P.2.1, fun i s => if i < 6 then P.2.2.2.1 i s else P.2.2.2.2.1 s), ⟨o3, o1, o2, fun s hs => ?_⟩, ⟨g0, g1, g2, fun i s hi hs => ?_⟩, ⟨x0, x1, x2, fun i s hi hs => ?_⟩⟩
  · have hs' : s < P.2.2.1 := hs
    obtain ⟨a1, a2, a3, a4, a5, a6, a7⟩ := o4 s hs
    obtain ⟨b1, b2, b3⟩ := o5 s (by omega)
    exact ⟨a1, a2, a3, a4, a5, a6, a7, ysub_lt b3 hn, b2⟩
  · have hs' : s < P.2.2.1 := hs
    show gI g (148 + 1 + i) s = nI (if i < 6 then P.2.2.2.1 i s else P.2.2.2.2.1 s)
    by_cases e : i < 6
    · rw [if_pos e, show 148 + 1 + i = 149 + i by omega]; exact g3 i s e hs
    · have : i = 6 := by omega
      subst this
      rw [if_neg e]; exact g4 s (by omega)
  · have hs' : s < P.2.2.1 := hs
    show _ = nI (if i < 6 then P.2.2.2.1 i s else P.2.2.2.2.1 s)
    by_cases e : i < 6
    · rw [if_pos e]; exact x3 i s e hs
    · have : i = 6 := by omega
      subst this
      rw [if_neg e]; exact x4 s (by omega)
/-- the ends -/
theorem yEnds (hso : so < 3) (J : yJo so u len len F g x) : ∃ g' x' G, (if ¬ nI so = 0 then some g else if ((gI g 147 13) &&& ((qCe_all 148 g) ^^^ (-1))) = 0 then some g else (qRe_note 4 (gI g 147 8) g).bind fun p11 => some p11) = some g' ∧ (if (1 : Int32) = 0 then some x else if ¬ nI so = 0 then some x else if ¬ (gI x 215 16) = 0 then some x else if (gI x 215 20) < (gI x 224 2) then some x else (qM_addsFault 4 (gI x 215 11) x).bind fun p22 => some p22) = some x' ∧ yFc g' G ∧ yFl x' G ∧ (G.1 = 0 → yDone so g' x') := by
  obtain ⟨R, R', Lc, L, hF, h1, W, K⟩ := J
  rw [if_neg (show ¬ (1 : Int32) = 0 by decide)]
  by_cases s0 : so = 0
  · subst s0
    rw [if_neg (show ¬ ¬ nI 0 = 0 from fun z => z rfl), if_neg (show ¬ ¬ nI 0 = 0 from fun z => z rfl), L.2.1]
    have e8 : gI g 147 8 = nI len := R.1.2.1
    have e11 : gI x 215 11 = nI len := R'.2.1.1
    have l6 := R.1.1
    obtain ⟨g2, q1, q2, q3⟩ := qRe_note_ev Lc (f := 4) (p := len) (by omega)
    have q1' : qRe_note 4 (nI len) g = some g2 := q1
    rw [e8, e11, q1', Option.bind_some]
    by_cases z : F.1 = 0
    · rw [if_neg (show ¬ ¬ nI F.1 = 0 from fun zz => zz (by rw [z]; rfl))]
      obtain ⟨P, ok, G, X⟩ := (show yK0 g x from K z)
      have n7 := ok.2.2.1
      have nm := ok.2.2.2.2.2
      have e := yNmf_end _ nm P.2.2.1 (by omega)
      have al : qCe_all 148 g = nI (2 ^ P.2.2.1 - 1) := by
        unfold qCe_all
        rw [G.2.2.1, wall1 _ (by omega)]
      rw [al, G.2.2.2.2.2, X.2.2.2.2.2, X.2.2.1]
      by_cases hn : P.2.2.2.2.2 < 2 ^ P.2.2.1
      · rw [if_pos (e.2.mpr hn), if_pos (e.1.mpr hn)]
        exact ⟨g, x, F, rfl, rfl, Lc, L, fun _ => yDone_0 ok G X hn⟩
      · obtain ⟨y, y1, y2, y3, y4⟩ := qM_addsFault_ev L (f := 4) (p := len) (by omega) (by omega) hF
        have y1' : qM_addsFault 4 (nI len) x = some y := y1
        rw [if_neg (fun zz => hn (e.2.mp zz)), if_neg (fun zz => hn (e.1.mp zz)), y1', Option.bind_some]
        refine ⟨g2, y, _, rfl, rfl, q2, y2, fun zz => ?_⟩
        exact absurd (yAd_z (by decide) zz).2 (by decide)
    · rw [if_pos (show ¬ nI F.1 = 0 from fun zz => z ((nI_z (by have := Lc.1; omega)).mp zz))]
      have ad : yAd F true 4 len = F := by unfold yAd; rw [decide_eq_false z]; rfl
      rw [ad] at q2
      by_cases hn : gI g 147 13 &&& (qCe_all 148 g ^^^ -1) = 0
      · rw [if_pos hn]
        exact ⟨g, x, F, rfl, rfl, Lc, L, fun zz => absurd zz z⟩
      · rw [if_neg hn]
        exact ⟨g2, x, F, rfl, rfl, q2, L, fun zz => absurd zz z⟩
  · have ns : ¬ nI so = 0 := fun z => s0 ((nI_z (by omega)).mp z)
    rw [if_pos ns, if_pos ns]
    refine ⟨g, x, F, rfl, rfl, Lc, L, fun z => ?_⟩
    have k := K z
    unfold yK at k
    unfold yDone
    rw [if_neg s0] at k ⊢
    exact k
/-- the class begins -/
theorem qRe_begin_ev (l6 : len ≤ 600) (us : ∀ j, j < len → gI g 2 j = yBt (u j) ∧ u j < 256) : ∃ g', qRe_begin (nI len) g = some g' ∧ yTp g' u len ∧ gI g' 147 9 = 0 ∧ gI g' 147 3 = 0 ∧ gI g' 147 13 = 0 ∧ gI g' 148 0 = 3 ∧ gI g' 148 1 = 1 ∧ gI g' 148 2 = 0 ∧ (∀ s, s < 7 → gI g' 155 s = 0) ∧ gI g' 156 0 = 0 ∧ gI g' 160 0 = 0 := by
  have e0 : zf_max 0 (zf_min (nI len) (zf_min 600 600)) = nI len := by
    have a : zf_min (600 : Int32) 600 = 600 := by decide
    rw [a]
    unfold zf_min
    rw [if_neg (show ¬ (600 : Int32) < nI len from nI_nlt (a := 600) l6 (by decide))]
    unfold zf_max
    by_cases z : len = 0
    · subst z; rfl
    · rw [if_pos (show (0 : Int32) < nI len from nI_lt (a := 0) (by omega) (by omega))]
  have cl : (nI len).toNatClampNeg = len := nI_clamp (by omega)
  unfold qRe_begin
  simp only [zlet]
  rw [e0, gI_eq, cl]
  have zc : zcpb 0 0 (nI len) 600 600 = true := by
    unfold zcpb
    rw [decide_eq_true_iff, cl]
    have c0 : (0 : Int32).toNatClampNeg = 0 := rfl
    rw [c0]
    exact ⟨by decide, by decide, nI_pos (by omega), by omega, by omega⟩
  rw [if_pos zc]
  let y : zK := sI (sI (sI (sI (cI (sI g 147 8 (nI len)) 2 163 0 0 len) 147 9 0) 147 3 0) 147 4 (-1)) 147 13 0
  let y3 : zK := sI (sI (sI y 148 0 3) 148 1 1) 148 2 0
  have key : ∃ r, zloop qCe_clear_b17 zfu (0, y3) = some r ∧ (∀ a j, a ≠ 155 → gI r a j = gI y3 a j) ∧ ∀ s, s < 7 → gI r 155 s = 0 := by
    refine zloop_me (Q := fun q s => ∃ i r, q + i = 7 ∧ s = (nI i, r) ∧ (∀ a j, a ≠ 155 → gI r a j = gI y3 a j) ∧ ∀ s, s < i → gI r 155 s = 0) ?_ zfu 7 _ ⟨0, y3, by omega, rfl, fun _ _ _ => rfl, fun s hs => absurd hs (Nat.not_lt_zero _)⟩ (zfu_lt (by omega))
    rintro q s ⟨i, r, hq, rfl, r1, r2⟩
    unfold qCe_clear_b17
    dsimp only
    by_cases hi : i < 7
    · rw [if_neg (show ¬ (7 : Int32) ≤ nI i from nI_ge (b := 7) hi (by decide)), zix_nI hi (by omega), Option.bind_some, nI_1]
      simp only [zlet]
      refine Or.inr ⟨q - 1, _, rfl, by omega, i + 1, _, by omega, rfl, fun a j h => (gI_ne h).trans (r1 a j h), fun s hs => ?_⟩
      by_cases e : s = i
      · subst e; exact gI_eq
      · rw [gI_nk e]; exact r2 s (by omega)
    · have ei : i = 7 := by omega
      subst ei
      rw [if_pos (show (7 : Int32) ≤ nI 7 by decide)]
      exact Or.inl ⟨_, rfl, r1, r2⟩
  obtain ⟨r, r0, r1, r2⟩ := key
  have cr : qCe_clear y = some r := by
    unfold qCe_clear
    simp only [zlet]
    show (zloop qCe_clear_b17 zfu (0, y3)).bind _ = _
    rw [r0]
    rfl
  show ∃ g', ((qCe_clear y).bind fun p8 => some (sI (sI p8 156 0 0) 160 0 0)) = some g' ∧ _
  rw [cr, Option.bind_some]
  have fr : ∀ a j, a ≠ 155 → a ≠ 156 → a ≠ 160 → gI (sI (sI r 156 0 0) 160 0 0) a j = gI y3 a j := fun a j h1 h2 h3 => (gI_ne h3).trans ((gI_ne h2).trans (r1 a j h1))
  have fy : ∀ a j, a ≠ 148 → a ≠ 155 → a ≠ 156 → a ≠ 160 → gI (sI (sI r 156 0 0) 160 0 0) a j = gI y a j := fun a j h0 h1 h2 h3 => (fr a j h1 h2 h3).trans ((gI_ne h0).trans ((gI_ne h0).trans (gI_ne h0)))
  refine ⟨_, rfl, ⟨l6, ?_, fun j hj => ⟨?_, (us j hj).2⟩⟩, ?_, ?_, ?_, ?_, ?_, ?_, fun s hs => ?_, ?_, ?_⟩
  · rw [fy 147 8 (by decide) (by decide) (by decide) (by decide)]
    show gI (sI (sI (sI (sI (cI _ 2 163 0 0 len) 147 9 0) 147 3 0) 147 4 (-1)) 147 13 0) 147 8 = _
    rw [gI_nk (by decide), gI_nk (by decide), gI_nk (by decide), gI_nk (by decide), gI_c_ne (by decide), gI_eq]
  · rw [fy 163 j (by decide) (by decide) (by decide) (by decide)]
    show gI (sI (sI (sI (sI (cI _ 2 163 0 0 len) 147 9 0) 147 3 0) 147 4 (-1)) 147 13 0) 163 j = _
    rw [gI_ne (by decide), gI_ne (by decide), gI_ne (by decide), gI_ne (by decide), gI_c_in hj, gI_ne (by decide)]
    exact (us j hj).1
  · rw [fy 147 9 (by decide) (by decide) (by decide) (by decide)]
    show gI (sI (sI (sI (sI _ 147 9 0) 147 3 0) 147 4 (-1)) 147 13 0) 147 9 = _
    rw [gI_nk (by decide), gI_nk (by decide), gI_nk (by decide), gI_eq]
  · rw [fy 147 3 (by decide) (by decide) (by decide) (by decide)]
    show gI (sI (sI (sI _ 147 3 0) 147 4 (-1)) 147 13 0) 147 3 = _
    rw [gI_nk (by decide), gI_nk (by decide), gI_eq]
  · rw [fy 147 13 (by decide) (by decide) (by decide) (by decide)]
    show gI (sI _ 147 13 0) 147 13 = _
    rw [gI_eq]
  · rw [fr 148 0 (by decide) (by decide) (by decide)]
    show gI (sI (sI (sI y 148 0 3) 148 1 1) 148 2 0) 148 0 = _
    rw [gI_nk (by decide), gI_nk (by decide), gI_eq]
  · rw [fr 148 1 (by decide) (by decide) (by decide)]
    show gI (sI (sI (sI y 148 0 3) 148 1 1) 148 2 0) 148 1 = _
    rw [gI_nk (by decide), gI_eq]
  · rw [fr 148 2 (by decide) (by decide) (by decide)]
    show gI (sI (sI (sI y 148 0 3) 148 1 1) 148 2 0) 148 2 = _
    rw [gI_eq]
  · rw [gI_ne (by decide), gI_ne (by decide)]; exact r2 s hs
  · rw [gI_ne (by decide), gI_eq]
  · rw [gI_eq]
/-- the reference's row is cleared -/
theorem qM_clear_ev (x : zK) (so : Int32) : ∃ r, zloop (qM_readText_b2 so) zfu (0, x) = some r ∧ r.2.2 = x.2.2 ∧ (∀ a j, a ≠ 224 → gI r a j = gI x a j) ∧ ∀ s, s < 121 → gI r 224 s = 0 := by
  refine zloop_me (Q := fun q s => ∃ i r, q + i = 121 ∧ s = (nI i, r) ∧ r.2.2 = x.2.2 ∧ (∀ a j, a ≠ 224 → gI r a j = gI x a j) ∧ ∀ s, s < i → gI r 224 s = 0) ?_ zfu 121 _ ⟨0, x, by omega, rfl, rfl, fun _ _ _ => rfl, fun s hs => absurd hs (Nat.not_lt_zero _)⟩ (zfu_lt (by omega))
  rintro q s ⟨i, r, hq, rfl, r0, r1, r2⟩
  unfold qM_readText_b2
  dsimp only
  by_cases hi : i < 121
  · rw [if_neg (show ¬ (121 : Int32) ≤ nI i from nI_ge (b := 121) hi (by decide)), zix_nI hi (by omega), Option.bind_some, nI_1]
    simp only [zlet]
    refine Or.inr ⟨q - 1, _, rfl, by omega, i + 1, _, by omega, rfl, r0, fun a j h => (gI_ne h).trans (r1 a j h), fun s hs => ?_⟩
    by_cases e : s = i
    · subst e; exact gI_eq
    · rw [gI_nk e]; exact r2 s (by omega)
  · have ei : i = 121 := by omega
    subst ei
    rw [if_pos (show (121 : Int32) ≤ nI 121 by decide)]
    exact Or.inl ⟨_, rfl, r0, r1, r2⟩
end READ
