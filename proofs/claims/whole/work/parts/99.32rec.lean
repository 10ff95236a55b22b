/-! LAYING: the class's search, all of it -/
section REC
variable {c : wC} {A : Nat → Nat} {L T : Nat}
theorem qLa_settleN_ev (ok : wCok c) (K : yTwk c A T) (rise : ∀ s t, s ≤ t → t < c.1 → A s ≤ A t) (pm : yPm A (c.2.2.2 5) c.1) (a20 : ∀ s, s < c.1 → A s ≤ 20) (low : ∀ p, L ≤ yGs c p) (L7 : L ≤ 7) : ∀ (d f m : Nat) (h : zK) (pl ix : Nat → Nat) (U B : Nat) (R : Nat → Nat) (g : Nat), d + m = c.1 → d < f → yDk h c A pl ix U m → yDp c A T pl ix U m → yBk h c B R → yLT h L T → g = yGr (yNd c) (yNp c pl m) c.1 → g < B → ∃ h' B' R', qLa_settleN f (nI m) (nI g) h = some h' ∧ yDk h' c A pl ix U m ∧ yBk h' c B' R' ∧ yFm h h' ∧ yIm c (yKl c A T pl m) B R B' R' := by
  have n7 := ok.1
  intro d
  induction d with
  | zero =>
    intro f m h pl ix U B R g hd hf D G Bs e6 eg gB
    have em : m = c.1 := by omega
    subst em
    obtain ⟨f, rfl⟩ : ∃ k, f = k + 1 := ⟨f - 1, by omega⟩
    obtain ⟨h', k1, k2, k3, k4⟩ := qLa_keep_ev ok D G g
    have gs : yGs c pl = g := by rw [eg]; exact (yPt_all ok).symm
    have full := yUc_full G.2.2.2.1
    have pmp : yPm pl (c.2.2.2 5) c.1 := fun v => by rw [← pm v, ← yUc_all (A := A) (v := v) full, G.2.2.1 v]
    have p20 : ∀ s, s < c.1 → pl s ≤ 20 := fun s hs => (D.1.2.2.2.2 s hs).2
    have od : yOr2 c A T pl := ⟨fun a b h1 h2 e => G.2.2.2.2.2.1 a b h1 h2 e, G.2.2.2.2.2.2⟩
    have g' : ∀ a j, a ≠ 185 → a ≠ 184 → gI h' a j = gI h a j := fun a j h1 h2 => k4 a j h1 (fun z => absurd z h2)
    refine ⟨h', g, pl, ?_, ⟨yPt_g D.1 fun a j h1 h2 => g' a j (by omega) (by omega), fun t ht => ⟨(g' 190 t (by decide) (by decide)).trans (D.2.1 t ht).1, (D.2.1 t ht).2⟩, (k4 184 6 (by decide) (fun _ => by decide)).trans D.2.2.1, fun s hs => (g' 191 s (by decide) (by decide)).trans (D.2.2.2 s hs)⟩, ⟨k2, by have := Bs.2.1; omega, fun _ s hs => k3 s hs⟩, fun a j h1 h2 h3 h4 h5 h6 h7 => k4 a j h3 (fun z => (h7 z).1), Or.inr ⟨gB, ⟨od, pmp, p20, fun _ _ => rfl⟩, gs, fun p hp => ?_⟩⟩
    · show qLa_settle_F (qLa_settleN f) (nI c.1) (nI g) h = some h'
      unfold qLa_settle_F
      rw [D.1.1, if_neg (show ¬ nI c.1 < nI c.1 from nI_nlt (Nat.le_refl _) (by omega)), k1]
      rfl
    · have e1 : yGs c p = g := (yGs_cong ok hp.2.2.2).trans gs
      have e2 : yCo p c.1 = yCo pl c.1 := yCo_cong hp.2.2.2
      exact ⟨by omega, fun z => by omega⟩
  | succ d ih =>
    intro f m h pl ix U B R g hd hf D G Bs e6 eg gB
    obtain ⟨f, rfl⟩ : ∃ k, f = k + 1 := ⟨f - 1, by omega⟩
    have hm : m < c.1 := by omega
    have hU : U < 128 := Nat.lt_of_lt_of_le G.1 (by have := Nat.pow_le_pow_right (show 0 < 2 by omega) n7; omega)
    obtain ⟨st, q1, q2⟩ := qLa_firstPlaceFor_ev ok hm D.1.2.2.1 D.2.2.2
    have stn : st ≤ c.1 := by
      rcases q2 with ⟨rfl, -⟩ | ⟨s, s1, -, -, rfl⟩
      · omega
      · exact (G.2.1 s s1).1
    have key : ∃ h', zloop (qLa_settle_b23 (qLa_settleN f) (nI m)) zfu (nI st, h) = some h' ∧ ∃ B' R', yDk h' c A pl ix U m ∧ yBk h' c B' R' ∧ yFm h h' ∧ yIm c (yKl c A T pl m) B R B' R' := by
      refine zloop_me (Q := fun q x => ∃ i h1 B1 R1, q + i = c.1 ∧ st ≤ i ∧ x = (nI i, h1) ∧ yDk h1 c A pl ix U m ∧ yBk h1 c B1 R1 ∧ yFm h h1 ∧ yIm c (fun p => yKl c A T pl m p ∧ ∃ j, st ≤ j ∧ j < i ∧ yFre T U j ∧ A j = p m) B R B1 R1) ?_ zfu (c.1 - st) _ ⟨st, h, B, R, by omega, Nat.le_refl _, rfl, D, Bs, yFm_r h, Or.inl ⟨rfl, rfl, fun p hp => ?_⟩⟩ (zfu_lt (by omega))
      · rintro q x ⟨i, h1, B1, R1, hq, hi, rfl, D1, Bs1, F1, I1⟩
        have e61 : yLT h1 L T := yLT_f F1 e6
        have bn := Bs1.2.1
        unfold qLa_settle_b23
        dsimp only
        rw [D1.1.1]
        by_cases hn : i < c.1
        · rw [if_neg (show ¬ nI c.1 ≤ nI i from nI_ge hn (by omega)), Bs1.1, e61.1]
          by_cases hl : B1 ≤ L
          · rw [if_pos (show nI B1 ≤ nI L from nI_le hl (by omega))]
            refine Or.inl ⟨h1, rfl, B1, R1, D1, Bs1, F1, ?_⟩
            rcases I1 with ⟨i1, i2, i3⟩ | ⟨i1, i2, i3, i4⟩
            · refine Or.inl ⟨i1, i2, fun p hp => ?_⟩
              have := low p
              omega
            · refine Or.inr ⟨i1, i2.1, i3, fun p hp => ?_⟩
              have lp := low p
              refine ⟨by omega, fun z => ?_⟩
              obtain ⟨j, j1, j2, j3, j4⟩ := yKl_try K rise pm G hm q2 hp
              by_cases ji : j < i
              · exact (i4 p ⟨hp, j, j1, ji, j3, j4⟩).2 z
              · obtain ⟨j', x1, x2, x3, x4⟩ := i2.2
                have lt := yFre_lt K G.2.2.2.2.1 rise x3 j3 (by omega) j2
                have := yCo_lt (p := R1) (q := p) (d := m) i2.1.2.2.1 hm (fun s hs => (i2.1.2.2.2 s hs).trans (hp.2.2.2 s hs).symm) (by omega)
                omega
          · rw [if_neg (show ¬ nI B1 ≤ nI L from nI_ge (by omega) (by omega))]
            rcases qLa_isNextFree_ev (h := h1) (T := T) (U := U) (i := i) K.1 (yTwk_0 K) (by omega) hU e61.2 D1.2.2.1 with ⟨v1, fr⟩ | ⟨v1, fr⟩
            · rw [v1, if_pos (show ¬ (1 : Int32) = 0 by decide)]
              obtain ⟨h2, B2, R2, t1, t2, t3, t4, t5⟩ := qLa_try_ev (L := L) ok (rec := qLa_settleN f) hm (fun h pl ix U B R g a1 a2 a3 a4 a5 a6 => ih f (m + 1) h pl ix U B R g (by omega) (by omega) a1 a2 a3 a4 a5 a6) D1 Bs1 e61 hn hU fr.1 (yDp_lay K rise G q2 hi hn fr)
              rw [t1, Option.bind_some]
              refine Or.inr ⟨q - 1, (nI i + 1, h2), rfl, by omega, i + 1, h2, B2, R2, by omega, by omega, by rw [show nI i + 1 = nI (i + 1) from nI_add i 1], t2, t3, yFm_t F1 t4, yIm_two I1 t5 ?_ ?_⟩
              · rintro p p' ⟨k1, j, j1, j2, j3, j4⟩ ⟨k2, j5⟩
                have lt := yFre_lt K G.2.2.2.2.1 rise j3 fr j2 hn
                exact yCo_lt (d := m) k1.2.2.1 hm (fun s hs => (k1.2.2.2 s hs).trans (k2.2.2.2 s hs).symm) (by omega)
              · intro p
                constructor
                · rintro ⟨k, j, j1, j2, j3, j4⟩
                  by_cases e : j = i
                  · subst e; exact Or.inr ⟨k, j4.symm⟩
                  · exact Or.inl ⟨k, j, j1, by omega, j3, j4⟩
                · rintro (⟨k, j, j1, j2, j3, j4⟩ | ⟨k, k2⟩)
                  · exact ⟨k, j, j1, by omega, j3, j4⟩
                  · exact ⟨k, i, hi, by omega, fr, k2.symm⟩
            · rw [v1, if_neg (show ¬ ¬ (0 : Int32) = 0 from fun z => z rfl), Option.bind_some]
              refine Or.inr ⟨q - 1, (nI i + 1, h1), rfl, by omega, i + 1, h1, B1, R1, by omega, by omega, by rw [show nI i + 1 = nI (i + 1) from nI_add i 1], D1, Bs1, F1, yIm_e I1 fun p => ?_⟩
              constructor
              · rintro ⟨k, j, j1, j2, j3, j4⟩
                have : j ≠ i := fun e => fr (e ▸ j3)
                exact ⟨k, j, j1, by omega, j3, j4⟩
              · rintro ⟨k, j, j1, j2, j3, j4⟩
                exact ⟨k, j, j1, by omega, j3, j4⟩
        · rw [if_pos (show nI c.1 ≤ nI i from nI_le (by omega) (by omega))]
          refine Or.inl ⟨h1, rfl, B1, R1, D1, Bs1, F1, yIm_e I1 fun p => ?_⟩
          constructor
          · intro k
            obtain ⟨j, j1, j2, j3, j4⟩ := yKl_try K rise pm G hm q2 k
            exact ⟨k, j, j1, by omega, j3, j4⟩
          · exact fun k => k.1
      · obtain ⟨-, j, j1, j2, -⟩ := hp
        omega
    obtain ⟨h', k1, B', R', k2⟩ := key
    refine ⟨h', B', R', ?_, k2⟩
    show qLa_settle_F (qLa_settleN f) (nI m) (nI g) h = some h'
    unfold qLa_settle_F
    rw [D.1.1, if_pos (show nI m < nI c.1 from nI_lt hm (by omega)), q1, Option.bind_some, k1]
    rfl
end REC
