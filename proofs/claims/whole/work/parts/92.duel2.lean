/-! DUEL: the reference -/
def ySg (t : Nat) : Int := if t % 2 = 0 then 1 else -1
theorem ySg_s (t : Nat) : ySg (t + 1) = -ySg t := by
  unfold ySg
  by_cases h : t % 2 = 0
  · rw [if_pos h, if_neg (by omega)]
  · rw [if_neg h, if_pos (by omega)]; rfl
theorem ySg_or (t : Nat) : ySg t = 1 ∨ ySg t = -1 := by
  unfold ySg
  split
  · exact Or.inl rfl
  · exact Or.inr rfl
section DUEL2
variable {h : zK} {o k n b l s t : Nat} {c : wC} {W : Nat → Nat → Int}
def yDo (t : Nat) : Option Int → Int
  | none => 1000000
  | some u => ySg t * u
/-- the table of the turns behind t -/
def yDw (h : zK) (t : Nat) (W : Nat → Nat → Int) : Prop := ∀ b l, b < 128 → l ≤ 7 → gI h 233 (1024 * (t + 1) + 128 * l + b) = iI (ySg (t + 1) * W b l)
theorem qM_duelBy_ev (B : mB h k c) (ok : wCok c) (ht : t < 5) (hb : b < 128) (hl : l ≤ 7) (hs : s ≤ 7) (T : yDw h t W) (hW : ∀ b l, -1000 ≤ W b l ∧ W b l ≤ 1000) : qM_duelBy (nI t) (nI b) (nI l) (nI s) h = some (iI (yDo t (yDf c W b l s))) := by
  have n7 := ok.1
  unfold qM_duelBy
  rw [nI_1, show (1024 : Int32) = nI 1024 from rfl, nI_mul]
  by_cases h7 : s = 7
  · subst h7
    rw [if_neg (show ¬ ¬ nI 7 = 7 from fun z => z rfl), show (128 : Int32) = nI 128 from rfl, nI_mul, nI_add, nI_add, zix_nI (by omega) (by omega), Option.bind_some, T b l hb hl, yDf_7, ySg_s]
    show some (iI (-ySg t * W b l)) = some (iI (ySg t * -(W b l)))
    rw [Int.neg_mul, Int.mul_neg]
  · rw [if_pos (show ¬ nI s = 7 from fun z => h7 ((nI_eq (b := 7) (by omega) (by omega)).mp z)), B.2.2.1]
    by_cases h1 : s < c.1
    · rw [if_neg (nI_ge h1 (by omega)), whas b hb s (by omega)]
      by_cases h2 : b.testBit s = true
      · rw [if_pos h2, if_neg (show ¬ (1 : Int32) = 0 by decide), yDf_n (by omega) (fun z => by rw [h2] at z; cases z.2)]
        exact congrArg some iI_farp.symm
      · have pw := wpow7 s (by omega)
        have ob : b ||| 2 ^ s < 128 := wor_lt hb pw
        have a := hW (b ||| 2 ^ s) s
        have tl := yTl_le ok h1 l
        have r2 : nI t - nI t / 2 * 2 = nI (t % 2) := nI_rem (b := 2) (by omega) (by omega)
        rw [if_neg h2, if_pos rfl, qM_tellsBy_ev B ok hl h1, Option.bind_some]
        simp only [zlet]
        rw [r2, wshl s (by omega), fa_or, show (128 : Int32) = nI 128 from rfl, nI_mul, nI_add, nI_add, zix_nI (by omega) (by omega), Option.bind_some, T _ s ob (by omega), yDf_s (by omega) h1 (ybf h2), ySg_s]
        have gn : (if ¬ nI (t % 2) = 0 then -nI (yTl c l s) else nI (yTl c l s)) = iI (ySg t * (yTl c l s : Int)) := by
          unfold ySg
          by_cases h3 : t % 2 = 0
          · rw [h3, if_neg (show ¬ ¬ nI 0 = 0 from fun z => z rfl), if_pos rfl, Int.one_mul, iI_nat (by omega)]
          · rw [if_pos (nI_ne0 (by omega) (by omega)), if_neg h3, iI_nat (by omega), iI_neg (iB_nat (by omega))]
            congr 1
            omega
        rw [gn]
        rcases ySg_or t with e | e
        · rw [e, Int.one_mul, iI_add (iB_nat (by omega)) (by unfold iB; omega) (by unfold iB; omega)]
          show some (iI _) = some (iI (ySg t * _))
          rw [e]
          congr 2
          omega
        · rw [e, iI_add (by unfold iB; omega) (by unfold iB; omega) (by unfold iB; omega)]
          show some (iI _) = some (iI (ySg t * _))
          rw [e]
          congr 2
          omega
    · rw [if_pos (nI_le (by omega) (by omega)), yDf_n (by omega) (fun z => h1 z.1)]
      exact congrArg some iI_farp.symm
def yFo : Option (Nat × Int) → Int32
  | none => -1
  | some p => nI p.1
theorem qM_findDuel_ev (B : mB h k c) (ok : wCok c) (ht : t < 5) (hb : b < 128) (hl : l ≤ 7) (T : yDw h t W) (hW : ∀ b l, -1000 ≤ W b l ∧ W b l ≤ 1000) : qM_findDuel (nI t) (nI b) (nI l) h = some (iI (ySg t * yVa 0 (yBo (yDf c W b l) 8)), sI h 215 42 (yFo (yBo (yDf c W b l) 8))) := by
  have n7 := ok.1
  have bd := yDf_bd (b := b) (l := l) ok hW
  have r2 : nI t - nI t / 2 * 2 = nI (t % 2) := nI_rem (b := 2) (by omega) (by omega)
  have e : zloop (qM_findDuel_b11 (nI t) (nI b) (nI l)) zfu (0, 0, sI h 215 42 (-1)) = some (iI (ySg t * yVa 0 (yBo (yDf c W b l) 8)), sI h 215 42 (yFo (yBo (yDf c W b l) 8))) := by
    have st : ((0 : Int32), (0 : Int32), sI h 215 42 (-1)) = (iI (ySg t * yVa 0 (yBo (yDf c W b l) 0)), nI 0, sI h 215 42 (yFo (yBo (yDf c W b l) 0))) := by
      show _ = (iI (ySg t * 0), nI 0, sI h 215 42 (-1))
      rw [Int.mul_zero]
      rfl
    rw [st]
    refine zloop_for (fun i => (iI (ySg t * yVa 0 (yBo (yDf c W b l) i)), nI i, sI h 215 42 (yFo (yBo (yDf c W b l) i)))) 8 (fun i hi => ?_) ?_ (zfu_lt (by omega))
    · unfold qM_findDuel_b11
      dsimp only
      have B' : mB (sI h 215 42 (yFo (yBo (yDf c W b l) i))) k c := mB_l' B (fun j _ _ => gI_nk (by omega)) rfl
      have T' : yDw (sI h 215 42 (yFo (yBo (yDf c W b l) i))) t W := fun b l hb hl => (gI_ne (by decide)).trans (T b l hb hl)
      rw [if_neg (show ¬ (7 : Int32) < nI i from nI_nlt (a := 7) (by omega) (by decide)), qM_duelBy_ev B' ok ht hb hl (by omega) T' hW, Option.bind_some, nI_1, yBo_s]
      simp only [zlet]
      rw [gI_eq, sI_twice, r2]
      unfold yBoS
      cases ef : yDf c W b l i with
      | none =>
        rw [if_pos (show iI (yDo t none) = 1000000 from iI_farp), Option.bind_some]
      | some u =>
        have ub := bd i u hi ef
        have su : -1060 ≤ ySg t * u ∧ ySg t * u ≤ 1060 := by
          rcases ySg_or t with e | e <;> rw [e] <;> omega
        have nf : ¬ iI (yDo t (some u)) = 1000000 := fun z => by
          rw [← iI_farp] at z
          have := (iI_eq (a := ySg t * u) (b := 1000000) (by unfold iB; omega) (by unfold iB; omega)).mp z
          omega
        rw [if_neg nf]
        dsimp only
        cases eb : yBo (yDf c W b l) i with
        | none =>
          rw [if_pos (show yFo none = -1 from rfl), Option.bind_some]
          rfl
        | some p =>
          have ib := yBo_IB (w := p.1) (v := p.2) eb
          have pb := bd p.1 p.2 (by have := ib.1; omega) ib.2.1
          have sp : -1060 ≤ ySg t * p.2 ∧ ySg t * p.2 ≤ 1060 := by
            rcases ySg_or t with e | e <;> rw [e] <;> omega
          have p8 := ib.1
          have le1 := iI_le (a := ySg t * p.2) (b := ySg t * u) (by unfold iB; omega) (by unfold iB; omega)
          have le2 := iI_le (a := ySg t * u) (b := ySg t * p.2) (by unfold iB; omega) (by unfold iB; omega)
          dsimp only
          rw [if_neg (show ¬ yFo (some p) = -1 from nI_nm1 (by omega)), show yDo t (some u) = ySg t * u from rfl, show yVa 0 (some p) = p.2 from rfl]
          by_cases h3 : t % 2 = 0
          · have sg : ySg t = 1 := by unfold ySg; rw [if_pos h3]
            rw [sg, Int.one_mul, Int.one_mul] at le2
            rw [h3, if_neg (show ¬ ¬ nI 0 = 0 from fun z => z rfl), sg, Int.one_mul, Int.one_mul]
            by_cases hq : p.2 < u
            · rw [if_neg (fun z => absurd (le2.mp z) (by omega)), if_pos hq, Option.bind_some]
              show some (Sum.inl (iI u, nI (i + 1), sI h 215 42 (nI i))) = some (Sum.inl (iI (1 * u), nI (i + 1), sI h 215 42 (nI i)))
              rw [Int.one_mul]
            · rw [if_pos (le2.mpr (by omega)), if_neg hq, Option.bind_some]
              show some (Sum.inl (iI p.2, nI (i + 1), sI h 215 42 (nI p.1))) = some (Sum.inl (iI (1 * p.2), nI (i + 1), sI h 215 42 (nI p.1)))
              rw [Int.one_mul]
          · have sg : ySg t = -1 := by unfold ySg; rw [if_neg h3]
            rw [sg] at le1
            rw [if_pos (nI_ne0 (by omega) (by omega)), sg]
            by_cases hq : p.2 < u
            · rw [if_neg (fun z => absurd (le1.mp z) (by omega)), if_pos hq, Option.bind_some]
              rfl
            · rw [if_pos (le1.mpr (by omega)), if_neg hq, Option.bind_some]
              rfl
    · unfold qM_findDuel_b11
      dsimp only
      rw [if_pos (show (7 : Int32) < nI 8 from nI_lt (a := 7) (by omega) (by decide))]
  unfold qM_findDuel
  simp only [zlet]
  rw [e]
  rfl
/-- the whole table, turns from t on -/
def yDM (c : wC) (n t i : Nat) (T : Nat → Int32) : Prop := ∀ t' b l, b < 128 → l ≤ 7 → ((t < t' ∧ t' ≤ n) ∨ (t' = t ∧ 128 * l + b < i)) → T (1024 * t' + 128 * l + b) = iI (ySg t' * yDu c (n - t') b l)
theorem yDM_w {T : Nat → Int32} (ht : t < n) {i : Nat} (hT : ∀ j, gI h 233 j = T j) (H : yDM c n t i T) : yDw h t (yDu c (n - (t + 1))) := fun b l hb hl => by
  rw [hT]
  exact H (t + 1) b l hb hl (Or.inl ⟨by omega, by omega⟩)
theorem qM_duel_b70_ev (B : mB h k c) (ok : wCok c) (ht : t < n) (hn : n ≤ 5) (x2 x3 : Int32) {T : Nat → Int32} (hT : ∀ j, gI h 233 j = T j) (H : yDM c n t 0 T) : ∃ x, zloop (qM_duel_b70 x2 x3 (nI t)) zfu (0, h) = some x ∧ ∃ T', mB x k c ∧ (∀ j, gI x 233 j = T' j) ∧ yDM c n t 1024 T' := by
  have n7 := ok.1
  have hW := yDu_1000 ok (r := n - (t + 1)) (by omega)
  refine zloop_fx (S := fun i x => ∃ g T', x = (nI i, g) ∧ mB g k c ∧ (∀ j, gI g 233 j = T' j) ∧ yDM c n t i T') 1024 ?_ ?_ (zfu_lt (by omega)) ⟨h, T, rfl, B, hT, H⟩
  · rintro i x hi ⟨g, T', rfl, Bg, gT, H'⟩
    unfold qM_duel_b70
    dsimp only
    have d1 : nI i / 128 = nI (i / 128) := nI_div (b := 128) (by omega) (by omega)
    have m1 : nI i - nI (i / 128) * 128 = nI (i % 128) := by
      have := nI_rem (a := i) (b := 128) (by omega) (by omega)
      rw [show nI i / nI 128 = nI (i / 128) from d1] at this
      exact this
    rw [if_neg (show ¬ (1024 : Int32) ≤ nI i from nI_ge (b := 1024) hi (by decide)), d1, m1, qM_findDuel_ev Bg ok (by omega) (by omega) (by omega) (yDM_w ht gT H') hW, Option.bind_some, show (1024 : Int32) = nI 1024 from rfl, nI_mul, nI_add, zix_nI (by omega) (by omega), Option.bind_some]
    simp only [zlet]
    rw [nI_1]
    refine ⟨_, rfl, _, upd T' (1024 * t + i) (iI (ySg t * yVa 0 (yBo (yDf c (yDu c (n - (t + 1))) (i % 128) (i / 128)) 8))), rfl, mB_l' Bg (fun j h1 h2 => ?_) rfl, fun j => ?_, fun t' b l hb hl hq => ?_⟩
    · rw [gI_ne (by decide), gI_nk (by omega)]
    · by_cases e : j = 1024 * t + i
      · subst e; rw [gI_eq, upd_e]
      · rw [gI_nk e, gI_ne (by decide), upd_n e]; exact gT j
    · by_cases e : 1024 * t' + 128 * l + b = 1024 * t + i
      · have e1 : t' = t := by omega
        subst e1
        have e2 : i % 128 = b := by omega
        have e3 : i / 128 = l := by omega
        rw [e, upd_e, e2, e3]
        obtain ⟨r, hr⟩ : ∃ r, n - t' = r + 1 := ⟨n - t' - 1, by omega⟩
        rw [hr, show n - (t' + 1) = r by omega]
        rfl
      · rw [upd_n e]
        exact H' t' b l hb hl (by omega)
  · rintro x ⟨g, T', rfl, Bg, gT, H'⟩
    unfold qM_duel_b70
    dsimp only
    rw [if_pos (show (1024 : Int32) ≤ nI 1024 from nI_le (a := 1024) (Nat.le_refl _) (by decide))]
    exact ⟨_, rfl, T', Bg, gT, H'⟩
theorem qM_duel_b62_ev (B : mB h k c) (ok : wCok c) (hn : n ≤ 5) (x2 x3 : Int32) {T : Nat → Int32} (hT : ∀ j, gI h 233 j = T j) (H : yDM c n n 1024 T) : ∃ x, zloop (qM_duel_b62 x2 x3) zfu (nI n - 1, h) = some x ∧ ∃ T', mB x k c ∧ (∀ j, gI x 233 j = T' j) ∧ yDM c n 0 1024 T' := by
  refine zloop_me (Q := fun q x => ∃ g T', q ≤ n ∧ x = (nI q - 1, g) ∧ mB g k c ∧ (∀ j, gI g 233 j = T' j) ∧ yDM c n q 1024 T') ?_ zfu n _ ⟨h, T, Nat.le_refl _, rfl, B, hT, H⟩ (zfu_lt (by omega))
  rintro q x ⟨g, T', hq, rfl, Bg, gT, H'⟩
  unfold qM_duel_b62
  dsimp only
  cases q with
  | zero =>
    rw [if_pos ((wnm_lt 0 (by omega)).mpr rfl)]
    exact Or.inl ⟨_, rfl, T', Bg, gT, H'⟩
  | succ q =>
    have H0 : yDM c n q 0 T' := fun t' b l hb hl hz => H' t' b l hb hl (by omega)
    obtain ⟨x, e1, T2, B2, gT2, H2⟩ := qM_duel_b70_ev Bg ok (show q < n by omega) hn x2 x3 gT H0
    rw [nI_pred, if_neg (nI_pos (by omega)), e1, Option.bind_some, wsubm]
    exact Or.inr ⟨q, _, rfl, by omega, x, T2, by omega, rfl, B2, gT2, H2⟩
theorem qM_duel_b29_ev (B : mB h k c) (hn : n ≤ 5) (x3 : Int32) : ∃ x, zloop (qM_duel_b29 (nI n) x3) zfu (0, h) = some x ∧ ∃ T', mB x k c ∧ (∀ j, gI x 233 j = T' j) ∧ yDM c n n 1024 T' := by
  have key : ∃ x, zloop (qM_duel_b29 (nI n) x3) zfu (0, h) = some x ∧ ∃ T', x = rI h 233 T' ∧ ∀ j, j < 1024 → T' (1024 * n + j) = 0 := by
    refine zloop_fx (S := fun i x => ∃ T', x = (nI i, rI h 233 T') ∧ ∀ j, j < i → T' (1024 * n + j) = 0) 1024 ?_ ?_ (zfu_lt (by omega)) ⟨h.2.1 233, by rw [rI_self rfl]; rfl, fun j hj => absurd hj (Nat.not_lt_zero _)⟩
    · rintro i x hi ⟨T', rfl, H'⟩
      unfold qM_duel_b29
      dsimp only
      rw [if_neg (show ¬ (1024 : Int32) ≤ nI i from nI_ge (b := 1024) hi (by decide)), show (1024 : Int32) = nI 1024 from rfl, nI_mul, nI_add, zix_nI (by omega) (by omega), Option.bind_some]
      simp only [zlet]
      rw [rI_set, nI_1]
      refine ⟨_, rfl, _, rfl, fun j hj => ?_⟩
      by_cases e : j = i
      · subst e; rw [upd_e]
      · rw [upd_n (by omega)]; exact H' j (by omega)
    · rintro x ⟨T', rfl, H'⟩
      unfold qM_duel_b29
      dsimp only
      rw [if_pos (show (1024 : Int32) ≤ nI 1024 from nI_le (a := 1024) (Nat.le_refl _) (by decide))]
      exact ⟨_, rfl, T', rfl, H'⟩
  obtain ⟨x, e1, T', rfl, H'⟩ := key
  refine ⟨_, e1, T', mB_rI (by omega) (by omega) B, fun j => gI_rI _ _ _ _, fun t' b l hb hl hq => ?_⟩
  have e : t' = n := by omega
  subst e
  have := H' (128 * l + b) (by omega)
  rw [show 1024 * t' + 128 * l + b = 1024 * t' + (128 * l + b) by omega, this, Nat.sub_self]
  show 0 = iI (ySg t' * 0)
  rw [Int.mul_zero]
  exact iI_0.symm
end DUEL2
theorem wo_duel {h : zK} (H : InvB h) (a x y : Int32) : ∃ w h1 h2, qC_duel a x y h = some (w, h1) ∧ qM_duel a x y h1 = some (w, h2) := by
  have e6 : nI 6 - 1 = (5 : Int32) := by decide
  unfold qC_duel qM_duel
  simp only [zlet]
  rcases wcell H a with ⟨e1, e2⟩ | ⟨k, c, hk, rfl, c1, c2, c3, e1, e2, e4⟩
  · rw [e1, Option.bind_some]
    refine ⟨-999, h, sI h 215 0 0, rfl, ?_⟩
    rw [e2 _ (wEq_s (by unfold wKp; omega)), Option.bind_some]
    split <;> rfl
  · rw [e1, Option.bind_some]
    dsimp only
    rcases zf_in_n (m := 6) (by omega) x with ⟨n, hn, rfl, hz⟩ | ⟨hx, hz⟩
    · rw [e6] at hz
      obtain ⟨h1, b1, b2, b3⟩ := qOr_playOut_ev e2 c2 c1 (show n ≤ 5 by omega)
      have eq1 := wEq_2 (wEq2_f (f_qOr_playOut e2 b1) (by decide))
      obtain ⟨h2, p1, B, -, -, -⟩ := e4 (sI h1 215 0 0) (wEq_t eq1 (wEq_s (by unfold wKp; omega)))
      obtain ⟨g1, r1, T1, B1, gT1, r2⟩ := qM_duel_b29_ev (c := c) B (show n ≤ 5 by omega) y
      obtain ⟨g2, r3, T2, B2, gT2, r4⟩ := qM_duel_b62_ev B1 c1 (show n ≤ 5 by omega) (nI n) y gT1 r2
      rw [hz, if_neg (nI_pos (by omega)), if_pos (show nI n ≤ (5 : Int32) from nI_le (b := 5) (by omega) (by decide)), if_pos e2, b1, Option.bind_some]
      have t896 : gI g2 233 896 = iI (yDu c n 0 7) := by
        rw [gT2]
        have := r4 0 0 7 (by omega) (by omega) (Or.inr ⟨rfl, by omega⟩)
        rw [Nat.sub_zero, show ySg 0 = 1 from rfl, Int.one_mul] at this
        exact this
      by_cases hy : y = 0
      · refine ⟨iI (yDu c n 0 7), h1, g2, by rw [if_pos hy, b2], ?_⟩
        rw [if_neg (show ¬ (1 : Int32) = 0 by decide), p1, Option.bind_some]
        dsimp only
        rw [if_pos (show ¬ (1 : Int32) = 0 by decide), r1, Option.bind_some, r3, Option.bind_some, if_pos hy, t896]
      · by_cases h0 : n = 0
        · subst h0
          refine ⟨-1, h1, sI g2 215 42 (-1), by rw [if_neg hy, b3]; rfl, ?_⟩
          rw [if_neg (show ¬ (1 : Int32) = 0 by decide), p1, Option.bind_some]
          dsimp only
          rw [if_pos (show ¬ (1 : Int32) = 0 by decide), r1, Option.bind_some, r3, Option.bind_some, if_neg hy, if_pos (show nI 0 ≤ 0 by decide), Option.bind_some, gI_eq]
        · obtain ⟨w, v, w1, w2⟩ := yPf_best (yDf c (yDu c (n - 1)) 0 7) yDf_7
          have B3 : mB (sI g2 215 42 (-1)) k c := mB_l' B2 (fun j _ _ => gI_nk (by omega)) rfl
          have H0 : yDM c n 0 0 T2 := fun t' b l hb hl hz => r4 t' b l hb hl (by omega)
          have dw : yDw (sI g2 215 42 (-1)) 0 (yDu c (n - 1)) := yDM_w (n := n) (t := 0) (by omega) (fun j => (gI_ne (by decide)).trans (gT2 j)) H0
          have F := qM_findDuel_ev (t := 0) (b := 0) (l := 7) B3 c1 (by omega) (by omega) (by omega) dw (yDu_1000 c1 (by omega))
          refine ⟨nI w, h1, sI (sI g2 215 42 (-1)) 215 42 (nI w), by rw [if_neg hy, b3, if_neg h0, w1]; rfl, ?_⟩
          rw [if_neg (show ¬ (1 : Int32) = 0 by decide), p1, Option.bind_some]
          dsimp only
          rw [w1] at F
          have F' : qM_findDuel 0 0 7 (sI g2 215 42 (-1)) = some (iI (ySg 0 * yVa 0 (some (w, v))), sI (sI g2 215 42 (-1)) 215 42 (nI w)) := F
          rw [if_pos (show ¬ (1 : Int32) = 0 by decide), r1, Option.bind_some, r3, Option.bind_some, if_neg hy, if_neg (nI_nle (by omega) (by omega)), F', Option.bind_some, Option.bind_some, gI_eq]
    · rw [e6] at hz
      rw [hz]
      refine ⟨-999, h, sI h 215 0 0, ?_, rfl⟩
      rcases hx with hx | ⟨j, j1, j2, rfl⟩
      · rw [if_pos hx]
      · rw [if_neg (nI_pos j2), if_neg (show ¬ nI j ≤ (5 : Int32) from nI_ge (a := 5) (by omega) j2)]
