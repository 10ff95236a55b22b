/-! PLAN: the class -/
theorem wsubm (x : Int32) : x + (-1) = x - 1 := by rw [Int32.sub_eq_add_neg]
theorem wnm_lt (j : Nat) (hj : j < 2 ^ 31) : (nI j - 1 < 0) ↔ j = 0 := by
  cases j with
  | zero => exact ⟨fun _ => rfl, fun _ => by decide⟩
  | succ j => rw [nI_pred]; exact ⟨fun z => absurd z (nI_pos (by omega)), fun z => absurd z (by omega)⟩
section PLAN
variable {h : zK} {o k n t b s : Nat} {c : wC} {W : Nat → Int}
def yPf (c : wC) (t : Nat) (W : Nat → Int) (b s : Nat) : Option Int := if s = 7 then some (W b) else if s < c.1 ∧ b.testBit s = false ∧ t < wLife c s then some ((wWit c s t : Int) + W (b ||| 2 ^ s)) else none
def yPl (c : wC) (n : Nat) : Nat → Nat → Int
  | 0, _ => 0
  | r + 1, b => yVa 0 (yBo (yPf c (n - (r + 1)) (yPl c n r) b) 8)
theorem yPf_7 : yPf c t W b 7 = some (W b) := if_pos rfl
theorem yPf_s (hs : s < 7) (h : s < c.1 ∧ b.testBit s = false ∧ t < wLife c s) : yPf c t W b s = some ((wWit c s t : Int) + W (b ||| 2 ^ s)) := by
  unfold yPf
  rw [if_neg (by omega), if_pos h]
theorem yPf_n (hs : s < 7) (h : ¬ (s < c.1 ∧ b.testBit s = false ∧ t < wLife c s)) : yPf c t W b s = none := by
  unfold yPf
  rw [if_neg (by omega), if_neg h]
theorem yPf_bd (ok : wCok c) {hi : Int} (hW : ∀ b, 0 ≤ W b ∧ W b ≤ hi) : ∀ s u, s < 8 → yPf c t W b s = some u → 0 ≤ u ∧ u ≤ 30 + hi := by
  intro s u _ e
  unfold yPf at e
  split at e
  · cases e
    have := hW b
    omega
  · split at e
    · rename_i hq
      cases e
      have a := wWit_lt ok hq.1 t
      have b := hW (b ||| 2 ^ s)
      omega
    · cases e
theorem yPl_bd (ok : wCok c) : ∀ r b, 0 ≤ yPl c n r b ∧ yPl c n r b ≤ 30 * r
  | 0, b => ⟨Int.le_refl _, by show (0 : Int) ≤ 30 * (0 : Nat); omega⟩
  | r + 1, b => by
    have ih := yPl_bd ok r
    have := yBo_bd (d := 0) (yPf_bd (t := n - (r + 1)) (b := b) ok ih) ⟨Int.le_refl _, by omega⟩
    show 0 ≤ yVa 0 (yBo (yPf c (n - (r + 1)) (yPl c n r) b) 8) ∧ yVa 0 (yBo (yPf c (n - (r + 1)) (yPl c n r) b) 8) ≤ 30 * ((r + 1 : Nat) : Int)
    omega
theorem yPf_best (f : Nat → Option Int) {v : Int} (h7 : f 7 = some v) : ∃ w u, yBo f 8 = some (w, u) ∧ yIB f 8 w u := by
  rcases yBo_cases f 8 with ⟨-, h1⟩ | z
  · rw [h1 7 (by omega)] at h7; cases h7
  · exact z
def yWi (b w : Nat) : Nat := if w = 7 then b else b ||| 2 ^ w
theorem qOr_with_ev {b w : Nat} (hw : w ≤ 7) : qOr_with (nI b) (nI w) = nI (yWi b w) := by
  unfold qOr_with yWi
  by_cases h : w = 7
  · subst h; rw [if_neg (show ¬ ¬ nI 7 = 7 from fun z => z rfl), if_pos rfl]
  · rw [if_pos (show ¬ nI w = 7 from fun z => h ((nI_eq (b := 7) (by omega) (by omega)).mp z)), wshl w (by omega), fa_or, if_neg h]
/-- what may be opened, as the class finds it in its table -/
def yTb (h : zK) (c : wC) (t b : Nat) (W : Nat → Int) : Prop := gI h 194 ((t + 1) * 128 + b) = iI (W b) ∧ ∀ s, s < c.1 → b.testBit s = false → gI h 194 ((t + 1) * 128 + (b ||| 2 ^ s)) = iI (W (b ||| 2 ^ s))
theorem qOr_worthFrom_w (hc : cC h o c) (ok : wCok c) (ht : t < 10) (hb : b < 2 ^ c.1) (T : yTb h c t b W) (hW : ∀ b, 0 ≤ W b ∧ W b ≤ 1000) {w : Nat} {v : Int} (hw : w ≤ 7) (e : yPf c t W b w = some v) : qOr_worthFrom o (nI t) (nI b) (nI w) h = some (iI v) := by
  have n7 := ok.1
  have p7 := w2n n7
  unfold qOr_worthFrom
  rw [qOr_with_ev hw, nI_1, show (128 : Int32) = nI 128 from rfl, nI_mul, nI_add]
  by_cases h7 : w = 7
  · subst h7
    rw [yPf_7] at e
    cases e
    rw [if_neg (show ¬ ¬ nI 7 = 7 from fun z => z rfl), Option.bind_some, show yWi b 7 = b from rfl, zix_nI (by omega) (by omega), Option.bind_some, T.1, Int32.zero_add]
  · by_cases q : w < c.1 ∧ b.testBit w = false ∧ t < wLife c w
    · rw [yPf_s (by omega) q] at e
      cases e
      have pw := wpow7 w (by omega)
      have ob : b ||| 2 ^ w < 128 := wor_lt (by omega) pw
      have a := hW (b ||| 2 ^ w)
      have wl := wWit_lt ok q.1 t
      rw [if_pos (show ¬ nI w = 7 from fun z => h7 ((nI_eq (b := 7) (by omega) (by omega)).mp z)), qCe_witIn_ev hc ok q.1 (by omega), Option.bind_some, Option.bind_some, show yWi b w = b ||| 2 ^ w from if_neg h7, zix_nI (by omega) (by omega), Option.bind_some, T.2 w q.1 q.2.1, iI_nat (by omega), iI_add (iB_nat (by omega)) (by unfold iB; omega) (by unfold iB; omega)]
    · rw [yPf_n (by omega) q] at e
      cases e
theorem qOr_bestOf_ev (hc : cC h o c) (ok : wCok c) (hl : ∀ s, s < c.1 → gI h 195 s = nI (wLife c s)) (ht : t < 10) (hb : b < 2 ^ c.1) (T : yTb h c t b W) (hW : ∀ b, 0 ≤ W b ∧ W b ≤ 1000) : qOr_bestOf o (nI t) (nI b) h = some (nI (yWh 7 (yBo (yPf c t W b) 8))) := by
  have n7 := ok.1
  have p7 := w2n n7
  have bd := yPf_bd (t := t) (b := b) ok hW
  have key : ∃ x, zloop (qOr_bestOf_b23 o (nI t) (nI b) h) zfu (7, iI (W b), nI c.1 - 1) = some x ∧ x = nI (yWh 7 (yBo (yPf c t W b) 8)) := by
    refine zloop_me (Q := fun q x => ∃ w v, q ≤ c.1 ∧ yDn (yPf c t W b) q 8 w v ∧ x = (nI w, iI v, nI q - 1)) ?_ zfu c.1 _ ⟨7, W b, Nat.le_refl _, ⟨n7, by omega, yPf_7, fun x u h1 h2 hu => ?_, fun x u h1 h2 hu => ?_⟩, rfl⟩ (zfu_lt (by omega))
    · rintro q x ⟨w, v, hq, D, rfl⟩
      unfold qOr_bestOf_b23
      dsimp only
      cases q with
      | zero =>
        rw [if_pos ((wnm_lt 0 (by omega)).mpr rfl)]
        refine Or.inl ⟨_, rfl, ?_⟩
        rw [yDn_0 D]
        rfl
      | succ q =>
        have w7 := D.2.1
        have vb := bd w v w7 D.2.2.1
        have lf := wLife_le c q
        rw [nI_pred, if_neg (nI_pos (by omega)), wcin b (by omega) q (by omega), wsubm]
        have qs : q < c.1 := by omega
        by_cases h1 : b.testBit q = true
        · rw [if_pos h1, if_pos (show ¬ (1 : Int32) = 0 by decide), Option.bind_some]
          exact Or.inr ⟨q, _, rfl, by omega, w, v, by omega, yDn_n D (fun u hu => by rw [yPf_n (by omega) (fun z => by rw [h1] at z; cases z.2.1)] at hu; cases hu), rfl⟩
        · rw [if_neg h1, if_neg (show ¬ ¬ (0 : Int32) = 0 from fun z => z rfl), zix_nI (by omega) (by omega), Option.bind_some, hl q qs]
          by_cases h2 : t < wLife c q
          · have f1 : yPf c t W b q = some ((wWit c q t : Int) + W (b ||| 2 ^ q)) := yPf_s (by omega) ⟨qs, ybf h1, h2⟩
            have ub := bd q _ (by omega) f1
            have wf := qOr_worthFrom_w hc ok ht hb T hW (show q ≤ 7 by omega) f1
            rw [if_neg (nI_ge h2 (by omega)), wf, Option.bind_some]
            by_cases h3 : (wWit c q t : Int) + W (b ||| 2 ^ q) < v
            · rw [if_pos ((iI_lt (by unfold iB; omega) (by unfold iB; omega)).mpr h3), Option.bind_some]
              exact Or.inr ⟨q, _, rfl, by omega, w, v, by omega, yDn_n D (fun u hu => by rw [f1] at hu; cases hu; exact h3), rfl⟩
            · rw [if_neg (fun z => h3 ((iI_lt (by unfold iB; omega) (by unfold iB; omega)).mp z)), Option.bind_some, Option.bind_some]
              exact Or.inr ⟨q, _, rfl, by omega, q, _, by omega, yDn_y D f1 (by omega), rfl⟩
          · rw [if_pos (nI_le (by omega) (by omega)), Option.bind_some]
            exact Or.inr ⟨q, _, rfl, by omega, w, v, by omega, yDn_n D (fun u hu => by rw [yPf_n (by omega) (fun z => h2 z.2.2)] at hu; cases hu), rfl⟩
    · by_cases e : x = 7
      · subst e; rw [yPf_7] at hu; cases hu; exact Int.le_refl _
      · rw [yPf_n (by omega) (fun z => by omega)] at hu; cases hu
    · rw [yPf_n (by omega) (fun z => by omega)] at hu; cases hu
  obtain ⟨x, e1, rfl⟩ := key
  unfold qOr_bestOf
  rw [show (7 : Int32) = nI 7 from rfl, qOr_worthFrom_w hc ok ht hb T hW (Nat.le_refl _) yPf_7, Option.bind_some, cC_n hc]
  show (zloop (qOr_bestOf_b23 o (nI t) (nI b) h) zfu (7, iI (W b), nI c.1 - 1)).bind _ = _
  rw [e1]
  rfl
/-! the table, from the last year on -/
def yPT (c : wC) (n t i : Nat) (T : Nat → Int32) : Prop := ∀ t' b, b < 2 ^ c.1 → ((t < t' ∧ t' ≤ n ∧ (t' = n ∨ wones b ≤ t')) ∨ (t' = t ∧ b < i ∧ (t' = n ∨ wones b ≤ t'))) → T (t' * 128 + b) = iI (yPl c n (n - t') b)
theorem wones_1 {b s : Nat} (hb : b < 128) (hs : s < 7) (h : b.testBit s = false) : wones (b ||| 2 ^ s) = wones b + 1 := wones_add b hb s hs h
theorem yPT_tb {T : Nat → Int32} (ok : wCok c) (ht : t < n) (hn : n ≤ 10) (hb : b < 2 ^ c.1) (hw : wones b ≤ t) {i : Nat} (H : yPT c n t i T) : yTb (rI h 194 T) c t b (yPl c n (n - (t + 1))) := by
  have n7 := ok.1
  have p7 := w2n n7
  refine ⟨?_, fun s hs hbs => ?_⟩
  · rw [gI_rI]
    exact H (t + 1) b hb (Or.inl ⟨by omega, by omega, Or.inr (by omega)⟩)
  · rw [gI_rI]
    refine H (t + 1) (b ||| 2 ^ s) (Nat.or_lt_two_pow hb (wp_lt hs)) (Or.inl ⟨by omega, by omega, Or.inr ?_⟩)
    rw [wones_1 (by omega) (by omega) hbs]
    omega
theorem yPl_e (ht : t < n) (b : Nat) : yPl c n (n - t) b = yVa 0 (yBo (yPf c t (yPl c n (n - (t + 1))) b) 8) := by
  obtain ⟨r, hr⟩ : ∃ r, n - t = r + 1 := ⟨n - t - 1, by omega⟩
  rw [hr, show n - (t + 1) = r by omega]
  show yVa 0 (yBo (yPf c (n - (r + 1)) (yPl c n r) b) 8) = _
  rw [show n - (r + 1) = t by omega]
theorem yPl_1000 (ok : wCok c) {r : Nat} (hr : r ≤ 10) (b : Nat) : 0 ≤ yPl c n r b ∧ yPl c n r b ≤ 1000 := by
  have := yPl_bd (n := n) ok r b
  omega
theorem qOr_bestPlan_b82_ev (hoc : o = 7 ∨ o = 22) (hc : cC h o c) (ok : wCok c) (hl : ∀ s, s < c.1 → gI h 195 s = nI (wLife c s)) (ht : t < n) (hn : n ≤ 10) (x2 : Int32) {T : Nat → Int32} (H : yPT c n t 0 T) : ∃ x, zloop (qOr_bestPlan_b82 o x2 (nI t)) zfu (0, rI h 194 T) = some x ∧ ∃ T', x = rI h 194 T' ∧ yPT c n t (2 ^ c.1) T' := by
  have n7 := ok.1
  have p7 := w2n n7
  have p0 := w2p c.1
  refine zloop_fx (S := fun i x => ∃ T', x = (nI i, rI h 194 T') ∧ yPT c n t i T') (2 ^ c.1) ?_ ?_ (zfu_lt (by omega)) ⟨T, rfl, H⟩
  · rintro i x hi ⟨T', rfl, H'⟩
    unfold qOr_bestPlan_b82
    dsimp only
    have hc' : cC (rI h 194 T') o c := cC_rI hoc (by omega) hc
    have oi := wones_le i
    rw [qCe_all_ev hc' ok, if_neg (nI_nlt (by omega) (by omega)), wbc i (by omega), nI_1]
    by_cases hw : wones i ≤ t
    · have tb := yPT_tb (h := h) ok ht hn hi hw H'
      have hl' : ∀ s, s < c.1 → gI (rI h 194 T') 195 s = nI (wLife c s) := fun s hs => (gI_rn (by omega)).trans (hl s hs)
      have hW := yPl_1000 (n := n) ok (r := n - (t + 1)) (by omega)
      obtain ⟨w, v, e1, e2⟩ := yPf_best (yPf c t (yPl c n (n - (t + 1))) i) yPf_7
      rw [if_neg (nI_nlt (by omega) (by omega)), qOr_bestOf_ev hc' ok hl' (by omega) hi tb hW, Option.bind_some, e1, show yWh 7 (some (w, v)) = w from rfl, qOr_worthFrom_w hc' ok (by omega) hi tb hW (by have := e2.1; omega) e2.2.1, Option.bind_some, show (128 : Int32) = nI 128 from rfl, nI_mul, nI_add, zix_nI (by omega) (by omega), Option.bind_some]
      simp only [zlet]
      rw [rI_set, Option.bind_some]
      refine ⟨_, rfl, _, rfl, fun t' b hb hq => ?_⟩
      by_cases e : t' * 128 + b = t * 128 + i
      · have e3 : t' = t := by omega
        have e4 : b = i := by omega
        subst e3
        subst e4
        rw [upd_e, yPl_e ht, e1]
        rfl
      · rw [upd_n e]
        exact H' t' b hb (by omega)
    · rw [if_pos (nI_lt (by omega) (by omega)), Option.bind_some]
      refine ⟨_, rfl, T', rfl, fun t' b hb hq => H' t' b hb ?_⟩
      rcases hq with hq | ⟨q1, q2, q3⟩
      · exact Or.inl hq
      · refine Or.inr ⟨q1, ?_, q3⟩
        have : b ≠ i := fun e => by subst e; omega
        omega
  · rintro x ⟨T', rfl, H'⟩
    unfold qOr_bestPlan_b82
    dsimp only
    rw [qCe_all_ev (cC_rI hoc (by omega) hc) ok, if_pos (nI_lt (by omega) (by omega))]
    exact ⟨_, rfl, T', rfl, H'⟩
theorem qOr_bestPlan_b75_ev (hoc : o = 7 ∨ o = 22) (hc : cC h o c) (ok : wCok c) (hl : ∀ s, s < c.1 → gI h 195 s = nI (wLife c s)) (hn : n ≤ 10) (x2 : Int32) {T : Nat → Int32} (H : yPT c n n (2 ^ c.1) T) : ∃ x, zloop (qOr_bestPlan_b75 o x2) zfu (nI n - 1, rI h 194 T) = some x ∧ ∃ T', x = rI h 194 T' ∧ yPT c n 0 (2 ^ c.1) T' := by
  refine zloop_me (Q := fun q x => ∃ T', q ≤ n ∧ x = (nI q - 1, rI h 194 T') ∧ yPT c n q (2 ^ c.1) T') ?_ zfu n _ ⟨T, Nat.le_refl _, rfl, H⟩ (zfu_lt (by omega))
  rintro q x ⟨T', hq, rfl, H'⟩
  unfold qOr_bestPlan_b75
  dsimp only
  cases q with
  | zero =>
    rw [if_pos ((wnm_lt 0 (by omega)).mpr rfl)]
    exact Or.inl ⟨_, rfl, T', rfl, H'⟩
  | succ q =>
    have H0 : yPT c n q 0 T' := fun t' b hb hz => H' t' b hb (by omega)
    obtain ⟨x, e1, T2, rfl, H2⟩ := qOr_bestPlan_b82_ev hoc hc ok hl (show q < n by omega) hn x2 H0
    rw [nI_pred, if_neg (nI_pos (by omega)), e1, Option.bind_some, wsubm]
    exact Or.inr ⟨q, _, rfl, by omega, T2, by omega, rfl, H2⟩
/-! which are opened, year by year -/
def yPs2 (c : wC) (n : Nat) : Nat → Nat
  | 0 => 0
  | t + 1 => yWi (yPs2 c n t) (yWh 7 (yBo (yPf c t (yPl c n (n - (t + 1))) (yPs2 c n t)) 8))
def yPc (c : wC) (n t : Nat) : Nat := yWh 7 (yBo (yPf c t (yPl c n (n - (t + 1))) (yPs2 c n t)) 8)
theorem yPs2_s (t : Nat) : yPs2 c n (t + 1) = yWi (yPs2 c n t) (yPc c n t) := rfl
theorem yPc_ib (c : wC) (n t : Nat) : ∃ v, yBo (yPf c t (yPl c n (n - (t + 1))) (yPs2 c n t)) 8 = some (yPc c n t, v) ∧ yIB (yPf c t (yPl c n (n - (t + 1))) (yPs2 c n t)) 8 (yPc c n t) v := by
  obtain ⟨w, v, e1, e2⟩ := yPf_best (yPf c t (yPl c n (n - (t + 1))) (yPs2 c n t)) yPf_7
  have : yPc c n t = w := by unfold yPc; rw [e1]; rfl
  rw [this]
  exact ⟨v, e1, e2⟩
theorem yPc_7 (c : wC) (n t : Nat) : yPc c n t ≤ 7 := by
  obtain ⟨v, -, e⟩ := yPc_ib c n t
  have := e.1
  omega
theorem yPs2_ok (ok : wCok c) : ∀ t, yPs2 c n t < 2 ^ c.1 ∧ wones (yPs2 c n t) ≤ t
  | 0 => ⟨Nat.two_pow_pos _, by show wones 0 ≤ 0; decide⟩
  | t + 1 => by
    have n7 := ok.1
    have p7 := w2n n7
    obtain ⟨i1, i2⟩ := yPs2_ok ok t
    obtain ⟨v, -, e⟩ := yPc_ib c n t
    rw [yPs2_s]
    unfold yWi
    by_cases h7 : yPc c n t = 7
    · rw [if_pos h7]; exact ⟨i1, by omega⟩
    · rw [if_neg h7]
      have w8 := e.1
      by_cases q : yPc c n t < c.1 ∧ (yPs2 c n t).testBit (yPc c n t) = false ∧ t < wLife c (yPc c n t)
      · exact ⟨Nat.or_lt_two_pow i1 (wp_lt q.1), by rw [wones_1 (by omega) (by omega) q.2.1]; omega⟩
      · have := e.2.1
        rw [yPf_n (by omega) q] at this
        cases this
theorem qOr_bestPlan_b156_ev (hoc : o = 7 ∨ o = 22) (hc : cC h o c) (ok : wCok c) (hl : ∀ s, s < c.1 → gI h 195 s = nI (wLife c s)) (hn : n ≤ 10) {T : Nat → Int32} (hT : ∀ j, gI h 194 j = T j) (H : yPT c n 0 (2 ^ c.1) T) : ∃ x, zloop (qOr_bestPlan_b156 o (nI n)) zfu (0, 0, h) = some x ∧ (∀ j, gI x 192 j = gI h 192 j) ∧ ∀ t, t < n → gI x 193 t = nI (yPc c n t) := by
  have n7 := ok.1
  have p7 := w2n n7
  have key : ∃ x, zloop (qOr_bestPlan_b156 o (nI n)) zfu (0, 0, h) = some x ∧ ∃ R, x = rI h 193 R ∧ ∀ t, t < n → R t = nI (yPc c n t) := by
    refine zloop_fx (S := fun i x => ∃ R, x = (nI (yPs2 c n i), nI i, rI h 193 R) ∧ ∀ t, t < i → R t = nI (yPc c n t)) n ?_ ?_ (zfu_lt (by omega)) ⟨h.2.1 193, ?_, fun t ht => absurd ht (Nat.not_lt_zero _)⟩
    · rintro i x hi ⟨R, rfl, HR⟩
      unfold qOr_bestPlan_b156
      dsimp only
      obtain ⟨s1, s2⟩ := yPs2_ok (n := n) ok i
      have hc' : cC (rI h 193 R) o c := cC_rI hoc (by omega) hc
      have hl' : ∀ s, s < c.1 → gI (rI h 193 R) 195 s = nI (wLife c s) := fun s hs => (gI_rn (by omega)).trans (hl s hs)
      have hW := yPl_1000 (n := n) ok (r := n - (i + 1)) (by omega)
      have H0 : yPT c n i 0 T := fun t' b hb hz => H t' b hb (by omega)
      have tb0 := yPT_tb (h := h) ok hi hn s1 s2 H0
      have tb : yTb (rI h 193 R) c i (yPs2 c n i) (yPl c n (n - (i + 1))) := by
        refine ⟨?_, fun s hs hbs => ?_⟩
        · rw [gI_rn (by omega), hT, ← gI_rI h 194 T]; exact tb0.1
        · rw [gI_rn (by omega), hT, ← gI_rI h 194 T]; exact tb0.2 s hs hbs
      have c7 := yPc_7 c n i
      rw [if_neg (nI_ge hi (by omega)), qOr_bestOf_ev hc' ok hl' (by omega) s1 tb hW, Option.bind_some, zix_nI (by omega) (by omega), Option.bind_some]
      simp only [zlet]
      rw [rI_set, gI_rI, upd_e, nI_1, show yWh 7 (yBo (yPf c i (yPl c n (n - (i + 1))) (yPs2 c n i)) 8) = yPc c n i from rfl, qOr_with_ev c7, ← yPs2_s]
      refine ⟨_, rfl, _, rfl, fun t ht => ?_⟩
      by_cases e : t = i
      · subst e; rw [upd_e]
      · rw [upd_n e]; exact HR t (by omega)
    · rintro x ⟨R, rfl, HR⟩
      unfold qOr_bestPlan_b156
      dsimp only
      rw [if_pos (nI_le (Nat.le_refl _) (by omega))]
      exact ⟨_, rfl, R, rfl, HR⟩
    · rw [rI_self rfl]; rfl
  obtain ⟨x, e1, R, rfl, HR⟩ := key
  exact ⟨_, e1, fun j => gI_rn (by omega), fun t ht => by rw [gI_rI]; exact HR t ht⟩
theorem qOr_bestPlan_ev (hoc : o = 7 ∨ o = 22) (hc : cC h o c) (ok : wCok c) (hn : n ≤ 10) : ∃ x, qOr_bestPlan o (nI n) h = some x ∧ gI x 192 0 = iI (yPl c n n 0) ∧ ∀ t, t < n → gI x 193 t = nI (yPc c n t) := by
  have n7 := ok.1
  have p7 := w2n n7
  have p0 := w2p c.1
  have k1 : ∃ x, zloop (qOr_bestPlan_b2 o (nI n)) zfu (0, h) = some x ∧ ∃ L, x = rI h 195 L ∧ ∀ s, s < c.1 → L s = nI (wLife c s) := by
    refine zloop_fx (S := fun i x => ∃ L, x = (nI i, rI h 195 L) ∧ ∀ s, s < i → L s = nI (wLife c s)) c.1 ?_ ?_ (zfu_lt (by omega)) ⟨h.2.1 195, by rw [rI_self rfl]; rfl, fun t ht => absurd ht (Nat.not_lt_zero _)⟩
    · rintro i x hi ⟨L, rfl, HL⟩
      unfold qOr_bestPlan_b2
      dsimp only
      have hc' : cC (rI h 195 L) o c := cC_rI hoc (by omega) hc
      have ll := wLife_le c i
      rw [cC_n hc', if_neg (nI_ge hi (by omega)), qCe_lifeOf_ev hc' ok hi, Option.bind_some]
      simp only [zlet]
      have lv : (if ¬ wLifeI c i = -1 then wLifeI c i else 51) = nI (wLife c i) := by
        unfold wLifeI
        by_cases hq : wLife c i < 51
        · rw [if_pos hq, if_pos (nI_nm1 (by omega))]
        · rw [if_neg hq, if_neg (show ¬ ¬ (-1 : Int32) = -1 from fun z => z rfl), show wLife c i = 51 by omega]
          rfl
      rw [lv, zix_nI (by omega) (by omega), Option.bind_some, rI_set, nI_1]
      refine ⟨_, rfl, _, rfl, fun s hs => ?_⟩
      by_cases e : s = i
      · subst e; rw [upd_e]
      · rw [upd_n e]; exact HL s (by omega)
    · rintro x ⟨L, rfl, HL⟩
      unfold qOr_bestPlan_b2
      dsimp only
      rw [cC_n (cC_rI hoc (by omega) hc), if_pos (nI_le (Nat.le_refl _) (by omega))]
      exact ⟨_, rfl, L, rfl, HL⟩
  obtain ⟨g1, e1, L, rfl, HL⟩ := k1
  have hc1 : cC (rI h 195 L) o c := cC_rI hoc (by omega) hc
  have hl1 : ∀ s, s < c.1 → gI (rI h 195 L) 195 s = nI (wLife c s) := fun s hs => by rw [gI_rI]; exact HL s hs
  have k2 : ∃ x, zloop (qOr_bestPlan_b44 o (nI n)) zfu (0, rI h 195 L) = some x ∧ ∃ T, x = rI (rI h 195 L) 194 T ∧ yPT c n n (2 ^ c.1) T := by
    refine zloop_fx (S := fun i x => ∃ T, x = (nI i, rI (rI h 195 L) 194 T) ∧ yPT c n n i T) (2 ^ c.1) ?_ ?_ (zfu_lt (by omega)) ⟨(rI h 195 L).2.1 194, by rw [rI_self rfl]; rfl, fun t' b hb hq => absurd hq (by omega)⟩
    · rintro i x hi ⟨T, rfl, HT⟩
      unfold qOr_bestPlan_b44
      dsimp only
      rw [qCe_all_ev (cC_rI hoc (by omega) hc1) ok, if_neg (nI_nlt (by omega) (by omega)), show (128 : Int32) = nI 128 from rfl, nI_mul, nI_add, zix_nI (by omega) (by omega), Option.bind_some]
      simp only [zlet]
      rw [rI_set, nI_1]
      refine ⟨_, rfl, _, rfl, fun t' b hb hq => ?_⟩
      by_cases e : t' * 128 + b = n * 128 + i
      · have e3 : t' = n := by omega
        rw [e, upd_e, e3, Nat.sub_self]
        exact iI_0.symm
      · rw [upd_n e]
        exact HT t' b hb (by omega)
    · rintro x ⟨T, rfl, HT⟩
      unfold qOr_bestPlan_b44
      dsimp only
      rw [qCe_all_ev (cC_rI hoc (by omega) hc1) ok, if_pos (nI_lt (by omega) (by omega))]
      exact ⟨_, rfl, T, rfl, HT⟩
  obtain ⟨g2, e2, T, rfl, HT⟩ := k2
  obtain ⟨g3, e3, T', rfl, HT'⟩ := qOr_bestPlan_b75_ev hoc hc1 ok hl1 hn (nI n) HT
  let h26 : zK := sI (rI (rI h 195 L) 194 T') 192 0 (T' 0)
  have q : ∀ a j, a ≠ 192 → a ≠ 194 → gI h26 a j = gI (rI h 195 L) a j := fun a j h1 h2 => by
    show gI (sI _ _ _ _) _ _ = _
    rw [gI_ne h1, gI_rn h2]
  obtain ⟨x, e4, e5, e6⟩ := qOr_bestPlan_b156_ev (h := h26) (T := T') hoc (cC_g hoc (fun a j ha => q a j (by omega) (by omega)) hc1) ok (fun s hs => (q 195 s (by omega) (by omega)).trans (hl1 s hs)) hn (fun j => by
    show gI (sI _ _ _ _) _ _ = _
    rw [gI_ne (by omega), gI_rI]) HT'
  refine ⟨x, ?_, ?_, e6⟩
  · unfold qOr_bestPlan
    rw [e1, Option.bind_some, e2, Option.bind_some, e3, Option.bind_some]
    simp only [zlet]
    rw [gI_rI]
    show (zloop (qOr_bestPlan_b156 o (nI n)) zfu (0, 0, h26)).bind _ = _
    rw [e4]; rfl
  · rw [e5]
    show gI (sI _ _ _ _) _ _ = _
    rw [gI_eq]
    have := HT' 0 0 (Nat.two_pow_pos _) (Or.inr ⟨rfl, Nat.two_pow_pos _, Or.inr (by decide)⟩)
    rw [Nat.sub_zero] at this
    exact this
end PLAN
