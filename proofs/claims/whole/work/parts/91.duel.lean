/-! DUEL: the class -/
section DUEL
variable {h : zK} {o k n b l s r : Nat} {c : wC} {W : Nat → Nat → Int}
def yDf (c : wC) (W : Nat → Nat → Int) (b l s : Nat) : Option Int := if s = 7 then some (-(W b l)) else if s < c.1 ∧ b.testBit s = false then some ((yTl c l s : Int) - W (b ||| 2 ^ s) s) else none
def yDu (c : wC) : Nat → Nat → Nat → Int
  | 0, _, _ => 0
  | r + 1, b, l => yVa 0 (yBo (yDf c (yDu c r) b l) 8)
theorem yDf_7 : yDf c W b l 7 = some (-(W b l)) := if_pos rfl
theorem yDf_s (hs : s < 7) (h1 : s < c.1) (h2 : b.testBit s = false) : yDf c W b l s = some ((yTl c l s : Int) - W (b ||| 2 ^ s) s) := by
  unfold yDf
  rw [if_neg (by omega), if_pos ⟨h1, h2⟩]
theorem yDf_n (hs : s < 7) (h : ¬ (s < c.1 ∧ b.testBit s = false)) : yDf c W b l s = none := by
  unfold yDf
  rw [if_neg (by omega), if_neg h]
theorem yDf_bd (ok : wCok c) {hi : Int} (hW : ∀ b l, -hi ≤ W b l ∧ W b l ≤ hi) : ∀ s u, s < 8 → yDf c W b l s = some u → -(60 + hi) ≤ u ∧ u ≤ 60 + hi := by
  intro s u _ e
  unfold yDf at e
  split at e
  · cases e
    have := hW b l
    omega
  · split at e
    · rename_i hq
      cases e
      have a := yTl_le ok hq.1 l
      have b := hW (b ||| 2 ^ s) s
      omega
    · cases e
theorem yDu_bd (ok : wCok c) : ∀ (r b l : Nat), -(60 * (r : Int)) ≤ yDu c r b l ∧ yDu c r b l ≤ 60 * r
  | 0, b, l => ⟨by show -(60 * ((0 : Nat) : Int)) ≤ 0; omega, by show (0 : Int) ≤ 60 * (0 : Nat); omega⟩
  | r + 1, b, l => by
    have ih := yDu_bd ok r
    have := yBo_bd (d := 0) (yDf_bd (b := b) (l := l) ok ih) ⟨by omega, by omega⟩
    show -(60 * ((r + 1 : Nat) : Int)) ≤ yVa 0 (yBo (yDf c (yDu c r) b l) 8) ∧ yVa 0 (yBo (yDf c (yDu c r) b l) 8) ≤ 60 * ((r + 1 : Nat) : Int)
    omega
theorem yDu_1000 (ok : wCok c) (hr : r ≤ 5) (b l : Nat) : -1000 ≤ yDu c r b l ∧ yDu c r b l ≤ 1000 := by
  have := yDu_bd ok r b l
  omega
/-- what the class finds in its table -/
def yDb (h : zK) (c : wC) (b l : Nat) (W : Nat → Nat → Int) : Prop := gI h 194 (b * 8 + l) = iI (W b l) ∧ ∀ s, s < c.1 → b.testBit s = false → gI h 194 ((b ||| 2 ^ s) * 8 + s) = iI (W (b ||| 2 ^ s) s)
theorem qOr_lead_ev (hc : cC h o c) (ok : wCok c) (hb : b < 2 ^ c.1) (hl : l ≤ 7) (T : yDb h c b l W) (hW : ∀ b l, -1000 ≤ W b l ∧ W b l ≤ 1000) {w : Nat} {v : Int} (hw : w ≤ 7) (e : yDf c W b l w = some v) : qOr_lead o (nI b) (nI l) (nI w) h = some (iI v) := by
  have n7 := ok.1
  have p7 := w2n n7
  unfold qOr_lead
  by_cases h7 : w = 7
  · subst h7
    rw [yDf_7] at e
    cases e
    have a := hW b l
    rw [if_neg (show ¬ ¬ nI 7 = 7 from fun z => z rfl), show (8 : Int32) = nI 8 from rfl, nI_mul, nI_add, zix_nI (by omega) (by omega), Option.bind_some, T.1, iI_neg (by unfold iB; omega)]
  · by_cases q : w < c.1 ∧ b.testBit w = false
    · rw [yDf_s (by omega) q.1 q.2] at e
      cases e
      have pw := wpow7 w (by omega)
      have ob : b ||| 2 ^ w < 128 := wor_lt (by omega) pw
      have a := hW (b ||| 2 ^ w) w
      have tl := yTl_le ok q.1 l
      rw [if_pos (show ¬ nI w = 7 from fun z => h7 ((nI_eq (b := 7) (by omega) (by omega)).mp z)), qOr_worthBehind_ev hc ok hl q.1, Option.bind_some, wshl w (by omega), fa_or, show (8 : Int32) = nI 8 from rfl, nI_mul, nI_add, zix_nI (by omega) (by omega), Option.bind_some, T.2 w q.1 q.2, iI_nat (by omega), iI_sub (iB_nat (by omega)) (by unfold iB; omega) (by unfold iB; omega)]
    · rw [yDf_n (by omega) q] at e
      cases e
theorem qOr_bestMove_ev (hc : cC h o c) (ok : wCok c) (hb : b < 2 ^ c.1) (hl : l ≤ 7) (T : yDb h c b l W) (hW : ∀ b l, -1000 ≤ W b l ∧ W b l ≤ 1000) : qOr_bestMove o (nI b) (nI l) h = some (nI (yWh 7 (yBo (yDf c W b l) 8))) := by
  have n7 := ok.1
  have p7 := w2n n7
  have bd := yDf_bd (b := b) (l := l) ok hW
  have key : ∃ x, zloop (qOr_bestMove_b23 o (nI b) (nI l) h) zfu (7, iI (-(W b l)), nI c.1 - 1) = some x ∧ x = nI (yWh 7 (yBo (yDf c W b l) 8)) := by
    refine zloop_me (Q := fun q x => ∃ w v, q ≤ c.1 ∧ yDn (yDf c W b l) q 8 w v ∧ x = (nI w, iI v, nI q - 1)) ?_ zfu c.1 _ ⟨7, -(W b l), Nat.le_refl _, ⟨n7, by omega, yDf_7, fun x u h1 h2 hu => ?_, fun x u h1 h2 hu => ?_⟩, rfl⟩ (zfu_lt (by omega))
    · rintro q x ⟨w, v, hq, D, rfl⟩
      unfold qOr_bestMove_b23
      dsimp only
      cases q with
      | zero =>
        rw [if_pos ((wnm_lt 0 (by omega)).mpr rfl)]
        refine Or.inl ⟨_, rfl, ?_⟩
        rw [yDn_0 D]
        rfl
      | succ q =>
        have w7 := D.2.1
        have vb := bd w v w7 D.2.2.1
        rw [nI_pred, if_neg (nI_pos (by omega)), wcin b (by omega) q (by omega), wsubm]
        have qs : q < c.1 := by omega
        by_cases h1 : b.testBit q = true
        · rw [if_pos h1, if_pos (show ¬ (1 : Int32) = 0 by decide), Option.bind_some]
          exact Or.inr ⟨q, _, rfl, by omega, w, v, by omega, yDn_n D (fun u hu => by rw [yDf_n (by omega) (fun z => by rw [h1] at z; cases z.2)] at hu; cases hu), rfl⟩
        · have f1 : yDf c W b l q = some ((yTl c l q : Int) - W (b ||| 2 ^ q) q) := yDf_s (by omega) qs (ybf h1)
          have ub := bd q _ (by omega) f1
          have wf := qOr_lead_ev hc ok hb hl T hW (show q ≤ 7 by omega) f1
          rw [if_neg h1, if_neg (show ¬ ¬ (0 : Int32) = 0 from fun z => z rfl), wf, Option.bind_some]
          by_cases h3 : (yTl c l q : Int) - W (b ||| 2 ^ q) q < v
          · rw [if_pos ((iI_lt (by unfold iB; omega) (by unfold iB; omega)).mpr h3), Option.bind_some]
            exact Or.inr ⟨q, _, rfl, by omega, w, v, by omega, yDn_n D (fun u hu => by rw [f1] at hu; cases hu; exact h3), rfl⟩
          · rw [if_neg (fun z => h3 ((iI_lt (by unfold iB; omega) (by unfold iB; omega)).mp z)), Option.bind_some, Option.bind_some]
            exact Or.inr ⟨q, _, rfl, by omega, q, _, by omega, yDn_y D f1 (by omega), rfl⟩
    · by_cases e : x = 7
      · subst e; rw [yDf_7] at hu; cases hu; exact Int.le_refl _
      · rw [yDf_n (by omega) (fun z => by omega)] at hu; cases hu
    · rw [yDf_n (by omega) (fun z => by omega)] at hu; cases hu
  obtain ⟨x, e1, rfl⟩ := key
  unfold qOr_bestMove
  rw [show (7 : Int32) = nI 7 from rfl, qOr_lead_ev hc ok hb hl T hW (Nat.le_refl _) yDf_7, Option.bind_some, cC_n hc]
  show (zloop (qOr_bestMove_b23 o (nI b) (nI l) h) zfu (7, iI (-(W b l)), nI c.1 - 1)).bind _ = _
  rw [e1]
  rfl
/-! the table, turn by turn -/
def yDv (b l : Nat) : Prop := (l = 7 ∧ b = 0) ∨ (l < 7 ∧ b.testBit l = true)
def yDT (c : wC) (n r b0 l0 : Nat) (T : Nat → Int32) : Prop := ∀ b l, b < 2 ^ c.1 → yDv b l → ((b < b0 ∨ (b = b0 ∧ l < l0)) → wones b ≤ n - (r + 1) → T (b * 8 + l) = iI (yDu c (r + 1) b l)) ∧ (¬ (b < b0 ∨ (b = b0 ∧ l < l0)) → wones b ≤ n - r → T (b * 8 + l) = iI (yDu c r b l))
theorem yDv_7 (h : yDv b l) : l ≤ 7 := by
  rcases h with h | h <;> omega
theorem yDT_b {T : Nat → Int32} (ok : wCok c) (hr : r + 1 ≤ n) (hb : b < 2 ^ c.1) (hv : yDv b l) (hw : wones b ≤ n - (r + 1)) {l0 : Nat} (hl0 : l0 ≤ l) (hT : ∀ j, gI h 194 j = T j) (H : yDT c n r b l0 T) : yDb h c b l (yDu c r) := by
  have n7 := ok.1
  have p7 := w2n n7
  refine ⟨?_, fun s hs hbs => ?_⟩
  · rw [hT]
    exact (H b l hb hv).2 (by omega) (by omega)
  · rw [hT]
    have g := yor_gt hbs
    refine (H (b ||| 2 ^ s) s (Nat.or_lt_two_pow hb (wp_lt hs)) (Or.inr ⟨by omega, ySub_rr s (yp_self s)⟩)).2 (by omega) ?_
    rw [wones_1 (by omega) (by omega) hbs]
    omega
theorem qOr_playTurn_b29_ev (hoc : o = 7 ∨ o = 22) (hc : cC h o c) (ok : wCok c) (hn : n ≤ 5) (hr : r + 1 ≤ n) (hb : b < 2 ^ c.1) (hw : wones b ≤ n - (r + 1)) (x2 x3 : Int32) {T : Nat → Int32} (H : yDT c n r b 0 T) : ∃ x, zloop (qOr_playTurn_b29 o x2 x3 (nI b)) zfu (0, rI h 194 T) = some x ∧ ∃ T', x = rI h 194 T' ∧ yDT c n r b 8 T' := by
  have n7 := ok.1
  have p7 := w2n n7
  have hW := yDu_1000 ok (r := r) (by omega)
  refine zloop_fx (S := fun i x => ∃ T', x = (nI i, rI h 194 T') ∧ yDT c n r b i T') 8 ?_ ?_ (zfu_lt (by omega)) ⟨T, rfl, H⟩
  · rintro i x hi ⟨T', rfl, H'⟩
    unfold qOr_playTurn_b29
    simp only [zlet]
    have hc' : cC (rI h 194 T') o c := cC_rI hoc (by omega) hc
    have may : (if ¬ nI i = 7 then zf_cin (nI b) (nI i) else if ¬ nI b = 0 then (0 : Int32) else 1) = 1 ∧ yDv b i ∨ (if ¬ nI i = 7 then zf_cin (nI b) (nI i) else if ¬ nI b = 0 then (0 : Int32) else 1) = 0 ∧ ¬ yDv b i := by
      by_cases h7 : i = 7
      · subst h7
        rw [if_neg (show ¬ ¬ nI 7 = 7 from fun z => z rfl)]
        by_cases h0 : b = 0
        · subst h0
          exact Or.inl ⟨if_neg (show ¬ ¬ nI 0 = 0 from fun z => z rfl), Or.inl ⟨rfl, rfl⟩⟩
        · exact Or.inr ⟨if_pos (nI_ne0 (by omega) (by omega)), fun z => by rcases z with z | z <;> omega⟩
      · rw [if_pos (show ¬ nI i = 7 from fun z => h7 ((nI_eq (b := 7) (by omega) (by omega)).mp z)), wcin b (by omega) i (by omega)]
        by_cases ht : b.testBit i = true
        · exact Or.inl ⟨if_pos ht, Or.inr ⟨by omega, ht⟩⟩
        · exact Or.inr ⟨if_neg ht, fun z => by
            rcases z with z | z
            · omega
            · exact ht z.2⟩
    rw [if_neg (show ¬ (7 : Int32) < nI i from nI_nlt (a := 7) (by omega) (by decide)), nI_1]
    rcases may with ⟨m1, hv⟩ | ⟨m1, hv⟩
    · have db := yDT_b (h := rI h 194 T') ok hr hb hv hw (Nat.le_refl _) (fun j => gI_rI _ _ _ _) H'
      obtain ⟨w, v, e1, e2⟩ := yPf_best (yDf c (yDu c r) b i) yDf_7
      rw [m1, if_neg (show ¬ (1 : Int32) = 0 by decide), qOr_bestMove_ev hc' ok hb (by omega) db hW, Option.bind_some, e1, show yWh 7 (some (w, v)) = w from rfl, qOr_lead_ev hc' ok hb (by omega) db hW (by have := e2.1; omega) e2.2.1, Option.bind_some, show (8 : Int32) = nI 8 from rfl, nI_mul, nI_add, zix_nI (by omega) (by omega), Option.bind_some, rI_set, Option.bind_some]
      refine ⟨_, rfl, _, rfl, fun b' l' hb' hv' => ?_⟩
      have l7 := yDv_7 hv'
      by_cases e : b' * 8 + l' = b * 8 + i
      · have e3 : b' = b := by omega
        have e4 : l' = i := by omega
        subst e3
        subst e4
        refine ⟨fun _ _ => ?_, fun z => absurd z (by omega)⟩
        rw [upd_e]
        show iI v = iI (yVa 0 (yBo (yDf c (yDu c r) b' l') 8))
        rw [e1]
        rfl
      · rw [upd_n e]
        exact ⟨fun z => (H' b' l' hb' hv').1 (by omega), fun z => (H' b' l' hb' hv').2 (by omega)⟩
    · rw [m1, if_pos rfl, Option.bind_some]
      refine ⟨_, rfl, T', rfl, fun b' l' hb' hv' => ?_⟩
      have : ¬ (b' = b ∧ l' = i) := fun z => hv (z.1 ▸ z.2 ▸ hv')
      exact ⟨fun z => (H' b' l' hb' hv').1 (by omega), fun z => (H' b' l' hb' hv').2 (by omega)⟩
  · rintro x ⟨T', rfl, H'⟩
    unfold qOr_playTurn_b29
    dsimp only
    rw [if_pos (show (7 : Int32) < nI 8 from nI_lt (a := 7) (by omega) (by decide))]
    exact ⟨_, rfl, T', rfl, H'⟩
theorem qOr_playTurn_ev (hoc : o = 7 ∨ o = 22) (hc : cC h o c) (ok : wCok c) (hn : n ≤ 5) (hr : r + 1 ≤ n) {T : Nat → Int32} (H : yDT c n r 0 0 T) : ∃ T', qOr_playTurn o (nI n) (nI (r + 1)) (rI h 194 T) = some (rI h 194 T') ∧ yDT c n (r + 1) 0 0 T' := by
  have n7 := ok.1
  have p7 := w2n n7
  have p0 := w2p c.1
  have key : ∃ x, zloop (qOr_playTurn_b3 o (nI n) (nI (r + 1))) zfu (0, rI h 194 T) = some x ∧ ∃ T', x = rI h 194 T' ∧ yDT c n r (2 ^ c.1) 0 T' := by
    refine zloop_fx (S := fun i x => ∃ T', x = (nI i, rI h 194 T') ∧ yDT c n r i 0 T') (2 ^ c.1) ?_ ?_ (zfu_lt (by omega)) ⟨T, rfl, H⟩
    · rintro i x hi ⟨T', rfl, H'⟩
      unfold qOr_playTurn_b3
      dsimp only
      have hc' : cC (rI h 194 T') o c := cC_rI hoc (by omega) hc
      have oi := wones_le i
      rw [qCe_all_ev hc' ok, if_neg (nI_nlt (by omega) (by omega)), wbc i (by omega), nI_sub hr, nI_1]
      by_cases hw : wones i ≤ n - (r + 1)
      · obtain ⟨x, e1, T2, rfl, H2⟩ := qOr_playTurn_b29_ev hoc hc ok hn hr hi hw (nI n) (nI (r + 1)) H'
        rw [if_pos (nI_le hw (by omega)), e1, Option.bind_some, Option.bind_some]
        refine ⟨_, rfl, T2, rfl, fun b' l' hb' hv' => ?_⟩
        have l7 := yDv_7 hv'
        exact ⟨fun z => (H2 b' l' hb' hv').1 (by omega), fun z => (H2 b' l' hb' hv').2 (by omega)⟩
      · rw [if_neg (nI_ge (by omega) (by omega)), Option.bind_some]
        refine ⟨_, rfl, T', rfl, fun b' l' hb' hv' => ?_⟩
        by_cases e : b' = i
        · subst e
          exact ⟨fun _ z => absurd z hw, fun z => absurd z (by omega)⟩
        · exact ⟨fun z => (H' b' l' hb' hv').1 (by omega), fun z => (H' b' l' hb' hv').2 (by omega)⟩
    · rintro x ⟨T', rfl, H'⟩
      unfold qOr_playTurn_b3
      dsimp only
      rw [qCe_all_ev (cC_rI hoc (by omega) hc) ok, if_pos (nI_lt (by omega) (by omega))]
      exact ⟨_, rfl, T', rfl, H'⟩
  obtain ⟨x, e1, T', rfl, H'⟩ := key
  refine ⟨T', ?_, fun b' l' hb' hv' => ⟨fun z => absurd z (by omega), fun _ hw => (H' b' l' hb' hv').1 (Or.inl hb') hw⟩⟩
  unfold qOr_playTurn
  rw [e1]; rfl
theorem qOr_playOut_ev (hoc : o = 7 ∨ o = 22) (hc : cC h o c) (ok : wCok c) (hn : n ≤ 5) : ∃ x, qOr_playOut o (nI n) h = some x ∧ gI x 192 0 = iI (yDu c n 0 7) ∧ gI x 192 1 = (if n = 0 then -1 else nI (yWh 7 (yBo (yDf c (yDu c (n - 1)) 0 7) 8))) := by
  have n7 := ok.1
  have p0 := w2p c.1
  let h2 : zK := sI (sI h 192 0 0) 192 1 (-1)
  have g2 : ∀ a j, a ≠ 192 → gI h2 a j = gI h a j := fun a j ha => by
    show gI (sI (sI _ _ _ _) _ _ _) _ _ = _
    rw [gI_ne ha, gI_ne ha]
  have hc2 : cC h2 o c := cC_g hoc (fun a j ha => g2 a j (by omega)) hc
  have k1 : ∃ x, zloop (qOr_playOut_b12 o (nI n)) zfu (0, h2) = some x ∧ ∃ T, x = rI h2 194 T ∧ ∀ j, j < 1024 → T j = 0 := by
    refine zloop_fx (S := fun i x => ∃ T, x = (nI i, rI h2 194 T) ∧ ∀ j, j < i → T j = 0) 1024 ?_ ?_ (zfu_lt (by omega)) ⟨h2.2.1 194, by rw [rI_self rfl]; rfl, fun j hj => absurd hj (Nat.not_lt_zero _)⟩
    · rintro i x hi ⟨T, rfl, HT⟩
      unfold qOr_playOut_b12
      dsimp only
      rw [if_neg (show ¬ (1024 : Int32) ≤ nI i from nI_ge (b := 1024) hi (by decide)), zix_nI (by omega) (by omega), Option.bind_some]
      simp only [zlet]
      rw [rI_set, nI_1]
      refine ⟨_, rfl, _, rfl, fun j hj => ?_⟩
      by_cases e : j = i
      · subst e; rw [upd_e]
      · rw [upd_n e]; exact HT j (by omega)
    · rintro x ⟨T, rfl, HT⟩
      unfold qOr_playOut_b12
      dsimp only
      rw [if_pos (show (1024 : Int32) ≤ nI 1024 from nI_le (a := 1024) (Nat.le_refl _) (by decide))]
      exact ⟨_, rfl, T, rfl, HT⟩
  obtain ⟨g1, e1, T, rfl, HT⟩ := k1
  have p7 := w2n n7
  have H0 : yDT c n 0 0 0 T := fun b l hb hv => ⟨fun z => absurd z (by omega), fun _ _ => by
    have := yDv_7 hv
    rw [HT _ (by omega)]
    exact iI_0.symm⟩
  have k2 : ∃ x, zloop (qOr_playOut_b34 o (nI n)) zfu (1, rI h2 194 T) = some x ∧ ∃ T', x = rI h2 194 T' ∧ yDT c n (n - 1) 0 0 T' := by
    refine zloop_fx (S := fun i x => ∃ T', x = (nI (i + 1), rI h2 194 T') ∧ yDT c n i 0 0 T') (n - 1) ?_ ?_ (zfu_lt (by omega)) ⟨T, rfl, H0⟩
    · rintro i x hi ⟨T', rfl, H'⟩
      unfold qOr_playOut_b34
      dsimp only
      obtain ⟨T2, e2, H2⟩ := qOr_playTurn_ev hoc hc2 ok hn (show i + 1 ≤ n by omega) H'
      rw [if_neg (nI_ge (show i + 1 < n by omega) (by omega)), e2, Option.bind_some, nI_1]
      exact ⟨_, rfl, T2, rfl, H2⟩
    · rintro x ⟨T', rfl, H'⟩
      unfold qOr_playOut_b34
      dsimp only
      rw [if_pos (nI_le (show n ≤ n - 1 + 1 by omega) (by omega))]
      exact ⟨_, rfl, T', rfl, H'⟩
  obtain ⟨g3, e3, T', rfl, H'⟩ := k2
  have hc3 : cC (rI h2 194 T') o c := cC_rI hoc (by omega) hc2
  by_cases h0 : n = 0
  · subst h0
    refine ⟨rI h2 194 T', ?_, ?_, ?_⟩
    · unfold qOr_playOut
      simp only [zlet]
      show (zloop (qOr_playOut_b12 o (nI 0)) zfu (0, h2)).bind _ = _
      rw [e1, Option.bind_some, e3, Option.bind_some, if_pos (show nI 0 ≤ 0 by decide)]
    · rw [gI_rn (by decide)]
      show gI (sI (sI _ _ _ _) _ _ _) _ _ = _
      rw [gI_nk (by decide), gI_eq]
      exact iI_0.symm
    · rw [gI_rn (by decide), if_pos rfl]
      show gI (sI (sI _ _ _ _) _ _ _) _ _ = _
      rw [gI_eq]
  · obtain ⟨w, v, w1, w2⟩ := yPf_best (yDf c (yDu c (n - 1)) 0 7) yDf_7
    have hW := yDu_1000 ok (r := n - 1) (by omega)
    have z0 : wones 0 = 0 := by decide
    have w7 : w ≤ 7 := by have := w2.1; omega
    have db : ∀ g : zK, (∀ j, gI g 194 j = T' j) → yDb g c 0 7 (yDu c (n - 1)) := fun g hg => by
      refine ⟨?_, fun s hs hbs => ?_⟩
      · rw [hg]
        exact (H' 0 7 (by omega) (Or.inl ⟨rfl, rfl⟩)).2 (by omega) (by omega)
      · rw [hg]
        refine (H' (0 ||| 2 ^ s) s (Nat.or_lt_two_pow (by omega) (wp_lt hs)) (Or.inr ⟨by omega, ySub_rr s (yp_self s)⟩)).2 (by omega) ?_
        rw [wones_1 (by omega) (by omega) hbs]
        omega
    have hc4 : cC (sI (rI h2 194 T') 192 1 (nI w)) o c := cC_g hoc (fun a j ha => gI_ne (by omega)) hc3
    have L := qOr_lead_ev hc4 ok (by omega) (Nat.le_refl _) (db (sI (rI h2 194 T') 192 1 (nI w)) (fun j => by rw [gI_ne (by omega), gI_rI])) hW w7 w2.2.1
    have M := qOr_bestMove_ev hc3 ok (by omega) (Nat.le_refl _) (db (rI h2 194 T') (fun j => gI_rI _ _ _ _)) hW
    rw [w1] at M
    refine ⟨sI (sI (rI h2 194 T') 192 1 (nI w)) 192 0 (iI v), ?_, ?_, ?_⟩
    · unfold qOr_playOut
      simp only [zlet]
      show (zloop (qOr_playOut_b12 o (nI n)) zfu (0, h2)).bind _ = _
      rw [e1, Option.bind_some, e3, Option.bind_some, if_neg (nI_nle (by omega) (by omega)), show qOr_bestMove o 0 7 (rI h2 194 T') = some (nI w) from M, Option.bind_some, gI_eq, show qOr_lead o 0 7 (nI w) (sI (rI h2 194 T') 192 1 (nI w)) = some (iI v) from L, Option.bind_some]
    · rw [gI_eq]
      obtain ⟨m, rfl⟩ : ∃ m, n = m + 1 := ⟨n - 1, by omega⟩
      show iI v = iI (yVa 0 (yBo (yDf c (yDu c m) 0 7) 8))
      rw [show m = m + 1 - 1 by omega, w1]
      rfl
    · rw [gI_nk (by decide), gI_eq, if_neg h0, w1]
      rfl
end DUEL
