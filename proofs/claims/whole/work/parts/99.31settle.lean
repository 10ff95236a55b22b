/-! LAYING: the class's search -/
/-- the class's cells while m sayings are laid -/
def yDk (h : zK) (c : wC) (A pl ix : Nat → Nat) (U m : Nat) : Prop := yPt h c pl m ∧ yP9 h A c.1 ∧ gI h 184 6 = nI U ∧ ∀ s, s < m → gI h 191 s = nI (ix s)
def yBk (h : zK) (c : wC) (B : Nat) (R : Nat → Nat) : Prop := gI h 184 0 = nI B ∧ B ≤ c.1 + 1 ∧ (B ≤ c.1 → ∀ s, s < c.1 → gI h 185 s = nI (R s))
def yFm (h h' : zK) : Prop := ∀ a j, a ≠ 182 → a ≠ 183 → a ≠ 185 → a ≠ 188 → a ≠ 189 → a ≠ 191 → (a = 184 → j ≠ 0 ∧ j ≠ 6) → gI h' a j = gI h a j
theorem yFm_r (h : zK) : yFm h h := fun _ _ _ _ _ _ _ _ _ => rfl
theorem yFm_t {h h' h'' : zK} (a : yFm h h') (b : yFm h' h'') : yFm h h'' := fun x j h1 h2 h3 h4 h5 h6 h7 => (b x j h1 h2 h3 h4 h5 h6 h7).trans (a x j h1 h2 h3 h4 h5 h6 h7)
/-- what stays all through the search: the least number, the twins -/
def yLT (h : zK) (L T : Nat) : Prop := gI h 184 7 = nI L ∧ gI h 184 5 = nI T
theorem yLT_f {h h' : zK} {L T : Nat} (F : yFm h h') (e : yLT h L T) : yLT h' L T := ⟨(F 184 7 (by decide) (by decide) (by decide) (by decide) (by decide) (by decide) (fun _ => ⟨by decide, by decide⟩)).trans e.1, (F 184 5 (by decide) (by decide) (by decide) (by decide) (by decide) (by decide) (fun _ => ⟨by decide, by decide⟩)).trans e.2⟩
section SETTLE
variable {h : zK} {c : wC} {A pl ix : Nat → Nat} {T U m L : Nat}
theorem qLa_keep_ev (ok : wCok c) (D : yDk h c A pl ix U c.1) (G : yDp c A T pl ix U c.1) (g : Nat) : ∃ h', qLa_keep (nI g) h = some h' ∧ gI h' 184 0 = nI g ∧ (∀ s, s < c.1 → gI h' 185 s = nI (pl s)) ∧ ∀ a j, a ≠ 185 → (a = 184 → j ≠ 0) → gI h' a j = gI h a j := by
  have n7 := ok.1
  obtain ⟨P, P9, e5, ex⟩ := D
  have key : ∃ h', zloop qLa_keep_b7 zfu (0, sI h 184 0 (nI g)) = some h' ∧ gI h' 184 0 = nI g ∧ (∀ s, s < c.1 → gI h' 185 s = nI (pl s)) ∧ ∀ a j, a ≠ 185 → (a = 184 → j ≠ 0) → gI h' a j = gI h a j := by
    refine zloop_fx (S := fun i x => ∃ h', x = (nI i, h') ∧ gI h' 184 0 = nI g ∧ (∀ s, s < i → gI h' 185 s = nI (pl s)) ∧ ∀ a j, a ≠ 185 → (a = 184 → j ≠ 0) → gI h' a j = gI h a j) c.1 ?_ ?_ (zfu_lt (by omega)) ⟨sI h 184 0 (nI g), rfl, gI_eq, fun s hs => absurd hs (Nat.not_lt_zero _), fun a j h1 h2 => ?_⟩
    · rintro i x hi ⟨h', rfl, f1, f2, f3⟩
      have gx := G.2.1 i hi
      have e1 : gI h' 191 i = nI (ix i) := (f3 191 i (by decide) (fun z => absurd z (by decide))).trans (ex i hi)
      have e2 : gI h' 190 (ix i) = nI (A (ix i)) := (f3 190 _ (by decide) (fun z => absurd z (by decide))).trans (P9 (ix i) gx.1).1
      have e3 : gI h' 186 0 = nI c.1 := (f3 186 0 (by decide) (fun z => absurd z (by decide))).trans P.1
      refine ⟨(nI i + 1, sI h' 185 i (nI (pl i))), ?_, sI h' 185 i (nI (pl i)), by rw [show nI i + 1 = nI (i + 1) from nI_add i 1], (gI_ne (by decide)).trans f1, fun s hs => ?_, fun a j h1 h2 => (gI_ne h1).trans (f3 a j h1 h2)⟩
      · unfold qLa_keep_b7
        dsimp only
        rw [e3, if_neg (show ¬ nI c.1 ≤ nI i from nI_ge hi (by omega)), zix_nI (by omega) (by omega), Option.bind_some, e1, zix_nI (by omega) (by omega), Option.bind_some]
        simp only [zlet]
        rw [e2, gx.2.2]
      · by_cases e : s = i
        · rw [e, gI_eq]
        · rw [gI_nk e]
          exact f2 s (by omega)
    · rintro x ⟨h', rfl, f1, f2, f3⟩
      refine ⟨h', ?_, f1, f2, f3⟩
      unfold qLa_keep_b7
      dsimp only
      rw [f3 186 0 (by decide) (fun z => absurd z (by decide)), P.1, if_pos (show nI c.1 ≤ nI c.1 from Int32.le_refl _)]
    · by_cases e : a = 184
      · rw [e] at h2 ⊢
        exact gI_nk (h2 rfl)
      · exact gI_ne e
  obtain ⟨h', k1, k2⟩ := key
  refine ⟨h', ?_, k2⟩
  unfold qLa_keep
  simp only [zlet]
  rw [k1]
  rfl
theorem yU_off : ∀ U, U < 128 → ∀ i, i < 7 → U.testBit i = false → (U ||| 2 ^ i) &&& (127 ^^^ 2 ^ i) = U := by decide +kernel
/-- one place is tried for saying m -/
theorem qLa_try_ev (ok : wCok c) {rec : Int32 → Int32 → zK → Option zK} (hm : m < c.1) (IH : ∀ (h : zK) (pl ix : Nat → Nat) (U B : Nat) (R : Nat → Nat) (g : Nat), yDk h c A pl ix U (m + 1) → yDp c A T pl ix U (m + 1) → yBk h c B R → yLT h L T → g = yGr (yNd c) (yNp c pl (m + 1)) c.1 → g < B → ∃ h' B' R', rec (nI (m + 1)) (nI g) h = some h' ∧ yDk h' c A pl ix U (m + 1) ∧ yBk h' c B' R' ∧ yFm h h' ∧ yIm c (yKl c A T pl (m + 1)) B R B' R') (D : yDk h c A pl ix U m) {B : Nat} {R : Nat → Nat} (Bs : yBk h c B R) (e6 : yLT h L T) {i : Nat} (hi : i < c.1) (hU : U < 128) (fr : U.testBit i = false) (G' : yDp c A T (fun t => if t = m then A i else pl t) (fun t => if t = m then i else ix t) (U ||| 2 ^ i) (m + 1)) : ∃ h' B' R', (zlet (sI h 184 6 ((gI h 184 6) ||| ((1 : Int32) <<< (nI i &&& 31)))) fun h8 =>
            (zix (nI m) 7).bind fun j9 =>
            zlet (sI h8 191 j9 (nI i)) fun h10 =>
            (zix (nI i) 7).bind fun j11 =>
            (qTr_lay 186 (nI m) (gI h10 190 j11) h10).bind fun p12 =>
            (qTr_greatest 186 (gI p12 184 0) p12).bind fun p13 =>
            Option.bind (
                if (gI p12 184 0) ≤ p13 then
                  some p12
                else
                  (rec (nI m + 1) p13 p12).bind fun p16 =>
                  some p16
              ) fun (v15 : zK) =>
            (qTr_takeUp 186 (nI m) v15).bind fun p17 =>
            zlet (sI p17 184 6 ((gI p17 184 6) &&& (((1 : Int32) <<< (nI i &&& 31)) ^^^ (-1)))) fun h18 =>
            some h18) = some h' ∧ yDk h' c A pl ix U m ∧ yBk h' c B' R' ∧ yFm h h' ∧ yIm c (fun p => yKl c A T pl m p ∧ p m = A i) B R B' R' := by
  have n7 := ok.1
  obtain ⟨P, P9, e5, ex⟩ := D
  obtain ⟨b1, b2, b3⟩ := Bs
  have p2i := wpow7 i (by omega)
  have hm1 : m + 1 ≤ c.1 := by omega
  let h10 : zK := sI (sI h 184 6 (nI (U ||| 2 ^ i))) 191 m (nI i)
  have g10 : ∀ a j, a ≠ 191 → (a = 184 → j ≠ 6) → gI h10 a j = gI h a j := fun a j h1 h2 => by
    refine (gI_ne h1).trans ?_
    by_cases e : a = 184
    · exact gI_nk (h2 e)
    · exact gI_ne e
  have P10 : yPt h10 c pl m := yPt_g P fun a j h1 h2 => g10 a j (by omega) (fun z => by omega)
  have Ai := P9 i hi
  obtain ⟨p12, l1, l2, l3⟩ := yPt_lay ok hm P10 Ai.2
  have D12 : yDk p12 c A (fun t => if t = m then A i else pl t) (fun t => if t = m then i else ix t) (U ||| 2 ^ i) (m + 1) := by
    refine ⟨l2, fun t ht => ⟨?_, (P9 t ht).2⟩, ?_, fun s hs => ?_⟩
    · rw [l3 190 t (by decide) (by decide) (by decide) (by decide), g10 190 t (by decide) (fun z => absurd z (by decide))]
      exact (P9 t ht).1
    · rw [l3 184 6 (by decide) (by decide) (by decide) (by decide)]
      exact (gI_ne (by decide)).trans gI_eq
    · show gI p12 191 s = nI (if s = m then i else ix s)
      rw [l3 191 s (by decide) (by decide) (by decide) (by decide)]
      by_cases e : s = m
      · rw [if_pos e, e]
        exact gI_eq
      · rw [if_neg e]
        refine (gI_nk e).trans ((gI_ne (by decide)).trans (ex s (by omega)))
  have c12 : ∀ a j, a ≠ 188 → a ≠ 189 → a ≠ 182 → a ≠ 183 → a ≠ 191 → (a = 184 → j ≠ 6) → gI p12 a j = gI h a j := fun a j h1 h2 h3 h4 h5 h6 => (l3 a j h1 h2 h3 h4).trans (g10 a j h5 h6)
  have z12 : gI p12 184 0 = nI B := (c12 184 0 (by decide) (by decide) (by decide) (by decide) (by decide) (fun _ => by decide)).trans b1
  have B12 : yBk p12 c B R := ⟨z12, b2, fun hb s hs => (c12 185 s (by decide) (by decide) (by decide) (by decide) (by decide) (fun z => absurd z (by decide))).trans (b3 hb s hs)⟩
  have F12 : yFm h p12 := fun a j h1 h2 h3 h4 h5 h6 h7 => c12 a j h4 h5 h1 h2 h6 (fun z => (h7 z).2)
  have e612 : yLT p12 L T := yLT_f F12 e6
  obtain ⟨r, r1, r2, r3, r4⟩ := qTr_greatest_ev (yPt_T ok hm1 l2) (e := B) (by omega)
  have rn := yGr_le (yNd c) (yNp c (fun t => if t = m then A i else pl t) (m + 1)) n7
  have ext : ∀ p, yKl c A T (fun t => if t = m then A i else pl t) (m + 1) p ↔ (yKl c A T pl m p ∧ p m = A i) := fun p => by
    constructor
    · rintro ⟨k1, k2, k3, k4⟩
      refine ⟨⟨k1, k2, k3, fun s hs => ?_⟩, ?_⟩
      · have this : p s = if s = m then A i else pl s := k4 s (by omega)
        rw [if_neg (show ¬ s = m by omega)] at this
        exact this
      · have this : p m = if m = m then A i else pl m := k4 m (by omega)
        rw [if_pos (rfl : m = m)] at this
        exact this
    · rintro ⟨⟨k1, k2, k3, k4⟩, k5⟩
      refine ⟨k1, k2, k3, fun s hs => ?_⟩
      show p s = if s = m then A i else pl s
      by_cases e : s = m
      · rw [if_pos e, e]; exact k5
      · rw [if_neg e]; exact k4 s (by omega)
  have mid : ∃ v B' R', (if nI B ≤ nI r then some p12 else (rec (nI m + 1) (nI r) p12).bind fun p16 => some p16) = some v ∧ yDk v c A (fun t => if t = m then A i else pl t) (fun t => if t = m then i else ix t) (U ||| 2 ^ i) (m + 1) ∧ yBk v c B' R' ∧ yFm p12 v ∧ yIm c (fun p => yKl c A T pl m p ∧ p m = A i) B R B' R' := by
    by_cases hb : B ≤ r
    · refine ⟨p12, B, R, by rw [if_pos (nI_le hb (by omega))], D12, B12, yFm_r _, Or.inl ⟨rfl, rfl, fun p hp => ?_⟩⟩
      have := yPt_le (c := c) (pl := fun t => if t = m then A i else pl t) (m := m + 1) ok hm1 (p := p) (fun s hs => (((ext p).mpr hp).2.2.2 s hs).symm)
      omega
    · have er : r = yGr (yNd c) (yNp c (fun t => if t = m then A i else pl t) (m + 1)) c.1 := by
        by_cases hg : yGr (yNd c) (yNp c (fun t => if t = m then A i else pl t) (m + 1)) c.1 < B
        · exact r3 hg
        · exact absurd (r4 (by omega)) hb
      obtain ⟨h', B', R', i1, i2, i3, i4, i5⟩ := IH p12 _ _ _ B R r D12 G' B12 e612 er (by omega)
      refine ⟨h', B', R', ?_, i2, i3, i4, yIm_e i5 (fun p => (ext p).symm)⟩
      rw [if_neg (show ¬ nI B ≤ nI r from nI_ge (by omega) (by omega)), show nI m + 1 = nI (m + 1) from nI_add m 1, i1]
      rfl
  obtain ⟨v, B', R', v1, ⟨D1, D2, D3, D4⟩, v3, v4, v5⟩ := mid
  obtain ⟨p17, u1, u2, u3⟩ := yPt_up ok hm D1
  have g18 : ∀ a j, a ≠ 188 → (a = 184 → j ≠ 6) → gI (sI p17 184 6 (nI U)) a j = gI v a j := fun a j h1 h2 => by
    by_cases e : a = 184
    · exact (gI_nk (h2 e)).trans (u3 a j h1)
    · exact (gI_ne e).trans (u3 a j h1)
  refine ⟨sI p17 184 6 (nI U), B', R', ?_, ⟨?_, fun t ht => ⟨(g18 190 t (by decide) (fun z => absurd z (by decide))).trans (D2 t ht).1, (D2 t ht).2⟩, gI_eq, fun s hs => ?_⟩, ⟨(g18 184 0 (by decide) (fun _ => by decide)).trans v3.1, v3.2.1, fun hb s hs => (g18 185 s (by decide) (fun z => absurd z (by decide))).trans (v3.2.2 hb s hs)⟩, ?_, v5⟩
  · simp only [zlet]
    rw [e5, wshl i (by omega), fa_or, zix_nI (by omega) (by omega), Option.bind_some]
    rw [zix_nI (by omega) (by omega), Option.bind_some]
    have e190 : gI h10 190 i = nI (A i) := (g10 190 i (by decide) (fun z => absurd z (by decide))).trans Ai.1
    have l1' : qTr_lay 186 (nI m) (gI (sI (sI h 184 6 (nI (U ||| 2 ^ i))) 191 m (nI i)) 190 i) (sI (sI h 184 6 (nI (U ||| 2 ^ i))) 191 m (nI i)) = some p12 := by
      show qTr_lay 186 (nI m) (gI h10 190 i) h10 = some p12
      rw [e190]
      exact l1
    rw [l1', Option.bind_some, z12, r1, Option.bind_some, v1, Option.bind_some, u1, Option.bind_some, u3 184 6 (by decide), D3, wnot _ (wor_lt hU p2i) _ p2i, yU_off U hU i (by omega) fr]
  · refine yPt_cong (pl := fun t => if t = m then A i else pl t) (yPt_g u2 fun a j h1 h2 => gI_ne (by omega)) fun s hs => if_neg (by omega)
  · have this : gI v 191 s = nI (if s = m then i else ix s) := D4 s (by omega)
    rw [if_neg (show ¬ s = m by omega)] at this
    exact (g18 191 s (by decide) (fun z => absurd z (by decide))).trans this
  · refine yFm_t F12 (yFm_t v4 fun a j h1 h2 h3 h4 h5 h6 h7 => g18 a j h4 (fun z => (h7 z).2))
end SETTLE
