/-! TALK AND DINNER: the class -/
theorem wones_full : ∀ n, n < 8 → ∀ b, b < 128 → b < 2 ^ n → wones b = n → b = 2 ^ n - 1 := by decide +kernel
theorem wones_tot : ∀ n, n < 8 → wones (2 ^ n - 1) = n := by decide +kernel
section ROW
variable {h : zK} {o k n b l s : Nat} {c : wC} {tk : Bool} {V : Nat → Nat → Int}
def yTl (c : wC) (l s : Nat) : Nat := if l ≠ 7 ∧ (c.2.2.2 6 s).testBit l = true then 2 * c.2.2.2 0 s else c.2.2.2 0 s
theorem yTl_le (ok : wCok c) (hs : s < c.1) (l : Nat) : yTl c l s ≤ 60 := by
  have := (ok.2.2.2 s hs).1
  unfold yTl
  split <;> omega
def yMy (c : wC) (tk : Bool) (b l s : Nat) : Bool := !b.testBit s && (!tk || (decide (l = 7) || (c.2.2.2 6 s).testBit l))
def yNw (c : wC) (tk : Bool) (l s : Nat) : Nat := if tk then 1 else yTl c l s
theorem yNw_le (ok : wCok c) (hs : s < c.1) (l : Nat) : yNw c tk l s ≤ 60 := by
  have := yTl_le ok hs l
  unfold yNw
  split <;> omega
def yTf (c : wC) (tk : Bool) (V : Nat → Nat → Int) (b l s : Nat) : Option Int := if yMy c tk b l s then some ((yNw c tk l s : Int) + V (b ||| 2 ^ s) s) else none
theorem yTf_y (h : yMy c tk b l s = true) : yTf c tk V b l s = some ((yNw c tk l s : Int) + V (b ||| 2 ^ s) s) := if_pos h
theorem yTf_n (h : yMy c tk b l s = false) : yTf c tk V b l s = none := if_neg (by rw [h]; decide)
theorem yMy_b (h : yMy c tk b l s = true) : b.testBit s = false := by
  unfold yMy at h
  rw [Bool.and_eq_true, Bool.not_eq_true'] at h
  exact h.1
def yTk (c : wC) (tk : Bool) : Nat → Nat → Nat → Int
  | 0, _, _ => 0
  | r + 1, b, l => yVa 0 (yBo (yTf c tk (yTk c tk r) b l) c.1)
def yTv (c : wC) (tk : Bool) (b l : Nat) : Int := yTk c tk (c.1 - wones b) b l
theorem yTf_bd (ok : wCok c) {hi : Int} (hV : ∀ b l, 0 ≤ V b l ∧ V b l ≤ hi) : ∀ s u, s < c.1 → yTf c tk V b l s = some u → 0 ≤ u ∧ u ≤ 60 + hi := by
  intro s u hs e
  unfold yTf at e
  split at e
  · cases e
    have a := yNw_le (tk := tk) ok hs l
    have b := hV (b ||| 2 ^ s) s
    omega
  · cases e
theorem yTk_bd (ok : wCok c) : ∀ r b l, 0 ≤ yTk c tk r b l ∧ yTk c tk r b l ≤ 60 * r
  | 0, b, l => ⟨Int.le_refl _, by show (0 : Int) ≤ 60 * (0 : Nat); omega⟩
  | r + 1, b, l => by
    have ih := yTk_bd ok r
    have := yBo_bd (d := 0) (yTf_bd (tk := tk) (b := b) (l := l) ok ih) ⟨Int.le_refl _, by omega⟩
    show 0 ≤ yVa 0 (yBo (yTf c tk (yTk c tk r) b l) c.1) ∧ yVa 0 (yBo (yTf c tk (yTk c tk r) b l) c.1) ≤ 60 * ((r + 1 : Nat) : Int)
    omega
theorem yTv_bd (ok : wCok c) (b l : Nat) : 0 ≤ yTv c tk b l ∧ yTv c tk b l ≤ 1000 := by
  have := yTk_bd (tk := tk) ok (c.1 - wones b) b l
  have := ok.1
  unfold yTv
  omega
theorem yTv_e (ok : wCok c) (hb : b < 2 ^ c.1) (l : Nat) : yTv c tk b l = yVa 0 (yBo (yTf c tk (yTv c tk) b l) c.1) := by
  have n7 := ok.1
  have p7 := w2n n7
  have ol := wones_n c.1 (by omega) b (by omega) hb
  by_cases hw : wones b = c.1
  · have eb := wones_full c.1 (by omega) b (by omega) hb hw
    have e1 : yTv c tk b l = 0 := by unfold yTv; rw [hw, Nat.sub_self]; rfl
    rw [e1, yBo_no]
    · rfl
    · intro s hs
      refine yTf_n ?_
      unfold yMy
      rw [eb, Nat.testBit_two_pow_sub_one, decide_eq_true hs]
      rfl
  · obtain ⟨r, hr⟩ : ∃ r, c.1 - wones b = r + 1 := ⟨c.1 - wones b - 1, by omega⟩
    have e1 : yTv c tk b l = yVa 0 (yBo (yTf c tk (yTk c tk r) b l) c.1) := by unfold yTv; rw [hr]; rfl
    rw [e1]
    congr 1
    refine yBo_cong c.1 fun s hs => ?_
    unfold yTf
    by_cases hm : yMy c tk b l s = true
    · rw [if_pos hm, if_pos hm]
      have : yTv c tk (b ||| 2 ^ s) s = yTk c tk r (b ||| 2 ^ s) s := by
        unfold yTv
        rw [wones_1 (by omega) (by omega) (yMy_b hm), show c.1 - (wones b + 1) = r by omega]
      rw [this]
    · rw [if_neg hm, if_neg hm]
theorem qOr_worthBehind_ev (hc : cC h o c) (ok : wCok c) (hl : l ≤ 7) (hs : s < c.1) : qOr_worthBehind o (nI l) (nI s) h = some (nI (yTl c l s)) := by
  have n7 := ok.1
  have al := wans_lt ok hs
  unfold qOr_worthBehind yTl
  rw [zix_nI (by omega) (by omega), Option.bind_some, Option.bind_some, Option.bind_some, cC_0 hc hs, cC_6 hc hs]
  by_cases h7 : l = 7
  · subst h7
    rw [if_pos (show nI 7 = 7 from rfl), Option.bind_some, if_pos rfl, if_neg (fun z => z.1 rfl)]
  · rw [if_neg (show ¬ nI l = 7 from fun z => h7 ((nI_eq (b := 7) (by omega) (by omega)).mp z)), wcin _ al l (by omega)]
    by_cases hb : (c.2.2.2 6 s).testBit l = true
    · rw [if_pos hb, if_neg (show ¬ (1 : Int32) = 0 by decide), Option.bind_some, if_neg (show ¬ (1 : Int32) = 0 by decide), if_pos ⟨h7, hb⟩, show (2 : Int32) = nI 2 from rfl, nI_mul]
    · rw [if_neg hb, if_pos rfl, Option.bind_some, if_pos rfl, if_neg (fun z => hb z.2)]
def yTkI (tk : Bool) : Int32 := if tk then 1 else 0
theorem qOr_worthOnward_ev (hc : cC h o c) (ok : wCok c) (hb : b < 2 ^ c.1) (hl : l ≤ 7) (hs : s < c.1) (hV : ∀ b l, 0 ≤ V b l ∧ V b l ≤ 1000) (T : gI h 194 ((b ||| 2 ^ s) * 8 + s) = iI (V (b ||| 2 ^ s) s)) : qOr_worthOnward o (yTkI tk) (nI b) (nI l) (nI s) h = some (iI ((yNw c tk l s : Int) + V (b ||| 2 ^ s) s)) := by
  have n7 := ok.1
  have p7 := w2n n7
  have pw := wpow7 s (by omega)
  have ob : b ||| 2 ^ s < 128 := wor_lt (by omega) pw
  have a := hV (b ||| 2 ^ s) s
  have nl := yNw_le (tk := tk) ok hs l
  unfold qOr_worthOnward
  rw [wshl s (by omega), fa_or, show (8 : Int32) = nI 8 from rfl, nI_mul, nI_add, zix_nI (by omega) (by omega), qOr_worthBehind_ev hc ok hl hs, Option.bind_some]
  have fin : some (nI (yNw c tk l s) + iI (V (b ||| 2 ^ s) s)) = some (iI ((yNw c tk l s : Int) + V (b ||| 2 ^ s) s)) := by
    rw [iI_nat (by omega), iI_add (iB_nat (by omega)) (by unfold iB; omega) (by unfold iB; omega)]
  cases tk with
  | true =>
    rw [if_neg (show ¬ yTkI true = 0 by decide), Option.bind_some, Option.bind_some, T]
    exact fin
  | false =>
    rw [if_pos (show yTkI false = 0 from rfl), Option.bind_some, Option.bind_some, T]
    exact fin
/-- what the class finds of the sets above b -/
def yRb (h : zK) (c : wC) (b : Nat) (V : Nat → Nat → Int) : Prop := ∀ s, s < c.1 → b.testBit s = false → gI h 194 ((b ||| 2 ^ s) * 8 + s) = iI (V (b ||| 2 ^ s) s)
theorem qOr_bestBehind_ev (hc : cC h o c) (ok : wCok c) (hb : b < 2 ^ c.1) (hl : l ≤ 7) (hV : ∀ b l, 0 ≤ V b l ∧ V b l ≤ 1000) (T : yRb h c b V) : qOr_bestBehind o (yTkI tk) (nI b) (nI l) h = some (nI (yWh 7 (yBo (yTf c tk V b l) c.1))) := by
  have n7 := ok.1
  have p7 := w2n n7
  have e : zloop (qOr_bestBehind_b10 o (yTkI tk) (nI b) (nI l) h) zfu (7, -1, 0) = some (nI (yWh 7 (yBo (yTf c tk V b l) c.1))) := by
    refine zloop_for (fun i => (nI (yWh 7 (yBo (yTf c tk V b l) i)), iI (yVa (-1) (yBo (yTf c tk V b l) i)), nI i)) c.1 (fun i hi => ?_) ?_ (zfu_lt (by omega))
    · unfold qOr_bestBehind_b10
      dsimp only
      have al := wans_lt ok hi
      have may : (if ¬ zf_cin (nI b) (nI i) = 0 then some (0 : Int32) else if yTkI tk = 0 then some 1 else if nI l = 7 then some 1 else (zix (nI i) 7).bind fun j6 => if zf_cin (gI h (o + 7) j6) (nI l) = 0 then some 0 else some 1) = some (if yMy c tk b l i then 1 else 0) := by
        rw [wcin b (by omega) i (by omega), zix_nI (by omega) (by omega), Option.bind_some, cC_6 hc hi, wcin _ al l (by omega)]
        unfold yMy
        cases b.testBit i with
        | true => rfl
        | false =>
          cases tk with
          | false => rfl
          | true =>
            rw [if_neg (show ¬ false = true by decide), if_neg (show ¬ ¬ (0 : Int32) = 0 from fun z => z rfl), if_neg (show ¬ yTkI true = 0 by decide)]
            by_cases h7 : l = 7
            · subst h7
              rw [if_pos (show nI 7 = 7 from rfl)]
              rfl
            · rw [if_neg (show ¬ nI l = 7 from fun z => h7 ((nI_eq (b := 7) (by omega) (by omega)).mp z)), decide_eq_false h7]
              cases (c.2.2.2 6 i).testBit l <;> rfl
      rw [cC_n hc, if_neg (nI_ge hi (by omega)), may, Option.bind_some, nI_1, yBo_s]
      unfold yBoS
      cases hm : yMy c tk b l i with
      | false =>
        rw [if_neg (show ¬ false = true by decide), if_pos rfl, Option.bind_some, yTf_n hm]
      | true =>
        have wo := qOr_worthOnward_ev (tk := tk) hc ok hb hl hi hV (T i hi (yMy_b hm))
        have f1 : yTf c tk V b l i = some ((yNw c tk l i : Int) + V (b ||| 2 ^ i) i) := yTf_y hm
        have ub := yTf_bd (tk := tk) ok hV i _ hi f1
        rw [if_pos rfl, if_neg (show ¬ (1 : Int32) = 0 by decide), wo, Option.bind_some, Option.bind_some, f1]
        dsimp only
        have pb : -1 ≤ yVa (-1) (yBo (yTf c tk V b l) i) ∧ yVa (-1) (yBo (yTf c tk V b l) i) ≤ 1060 := yBo_bd (fun s u hs hu => by have := yTf_bd (tk := tk) (l := l) (b := b) ok hV s u (by omega) hu; omega) (by omega)
        have hle := iI_le (a := (yNw c tk l i : Int) + V (b ||| 2 ^ i) i) (b := yVa (-1) (yBo (yTf c tk V b l) i)) (by unfold iB; omega) (by unfold iB; omega)
        by_cases hq : (yNw c tk l i : Int) + V (b ||| 2 ^ i) i ≤ yVa (-1) (yBo (yTf c tk V b l) i)
        · rw [if_pos (hle.mpr hq), Option.bind_some]
          cases eb : yBo (yTf c tk V b l) i with
          | none =>
            rw [eb] at hq
            have : (yNw c tk l i : Int) + V (b ||| 2 ^ i) i ≤ -1 := hq
            omega
          | some p =>
            rw [eb] at hq
            have : (yNw c tk l i : Int) + V (b ||| 2 ^ i) i ≤ p.2 := hq
            dsimp only
            rw [if_neg (by omega)]
        · rw [if_neg (fun z => hq (hle.mp z)), Option.bind_some]
          cases eb : yBo (yTf c tk V b l) i with
          | none => rfl
          | some p =>
            rw [eb] at hq
            have : ¬ (yNw c tk l i : Int) + V (b ||| 2 ^ i) i ≤ p.2 := hq
            dsimp only
            rw [if_pos (by omega)]
            rfl
    · unfold qOr_bestBehind_b10
      dsimp only
      rw [cC_n hc, if_pos (nI_le (Nat.le_refl _) (by omega))]
  unfold qOr_bestBehind
  rw [e]; rfl
/-! the class's table -/
def yRT (c : wC) (tk : Bool) (i : Nat) (T : Nat → Int32) : Prop := ∀ b l, i ≤ b → b < 2 ^ c.1 → b.testBit l = true → T (b * 8 + l) = iI (yTv c tk b l)
theorem yor_gt {b s : Nat} (h : b.testBit s = false) : b < b ||| 2 ^ s := by
  have h1 : b ≤ b ||| 2 ^ s := Nat.left_le_or
  have h2 : b ≠ b ||| 2 ^ s := fun e => by
    have : (b ||| 2 ^ s).testBit s = true := ySub_rr s (yp_self s)
    rw [← e, h] at this
    cases this
  omega
theorem yRT_rb {T : Nat → Int32} {i : Nat} (hb : b < 2 ^ c.1) (hi : i ≤ b + 1) (H : yRT c tk i T) : yRb (rI h 194 T) c b (yTv c tk) := fun s hs hbs => by
  rw [gI_rI]
  have := yor_gt hbs
  exact H (b ||| 2 ^ s) s (by omega) (Nat.or_lt_two_pow hb (wp_lt hs)) (ySub_rr s (yp_self s))
theorem qOr_bestRow_b12_ev (hoc : o = 7 ∨ o = 22) (hc : cC h o c) (ok : wCok c) (hb : b < 2 ^ c.1) {T : Nat → Int32} (H : yRT c tk (b + 1) T) : ∃ x, zloop (qOr_bestRow_b12 o (yTkI tk) (nI b)) zfu (0, rI h 194 T) = some x ∧ ∃ T', x = rI h 194 T' ∧ yRT c tk b T' := by
  have n7 := ok.1
  have p7 := w2n n7
  refine zloop_fx (S := fun i x => ∃ T', x = (nI i, rI h 194 T') ∧ yRT c tk (b + 1) T' ∧ ∀ l, l < i → b.testBit l = true → T' (b * 8 + l) = iI (yTv c tk b l)) c.1 ?_ ?_ (zfu_lt (by omega)) ⟨T, rfl, H, fun l hl => absurd hl (Nat.not_lt_zero _)⟩
  · rintro i x hi ⟨T', rfl, H', HL⟩
    unfold qOr_bestRow_b12
    dsimp only
    have hc' : cC (rI h 194 T') o c := cC_rI hoc (by omega) hc
    rw [cC_n hc', if_neg (nI_ge hi (by omega)), wcin b (by omega) i (by omega), nI_1]
    by_cases ht : b.testBit i = true
    · have rb := yRT_rb (h := h) hb (Nat.le_refl _) H'
      have V1 := yTv_bd (tk := tk) ok
      rw [if_pos ht, if_neg (show ¬ (1 : Int32) = 0 by decide), qOr_bestBehind_ev hc' ok hb (by omega) V1 rb, Option.bind_some]
      have val : (if ¬ nI (yWh 7 (yBo (yTf c tk (yTv c tk) b i) c.1)) = 7 then (qOr_worthOnward o (yTkI tk) (nI b) (nI i) (nI (yWh 7 (yBo (yTf c tk (yTv c tk) b i) c.1))) (rI h 194 T')).bind fun p8 => some p8 else some 0) = some (iI (yTv c tk b i)) := by
        rw [yTv_e ok hb]
        rcases yBo_cases (yTf c tk (yTv c tk) b i) c.1 with ⟨e1, -⟩ | ⟨w, v, e1, e2⟩
        · rw [e1, show yWh 7 none = 7 from rfl, if_neg (show ¬ ¬ nI 7 = 7 from fun z => z rfl)]
          exact congrArg some iI_0.symm
        · have w7 := e2.1
          have hm : yMy c tk b i w = true := by
            cases q : yMy c tk b i w with
            | true => rfl
            | false => have := e2.2.1; rw [yTf_n q] at this; cases this
          have ev := e2.2.1
          rw [yTf_y hm] at ev
          cases ev
          rw [e1]
          show (if ¬ nI w = 7 then (qOr_worthOnward o (yTkI tk) (nI b) (nI i) (nI w) (rI h 194 T')).bind fun p8 => some p8 else some 0) = _
          rw [if_pos (show ¬ nI w = 7 from fun z => by have := (nI_eq (b := 7) (by omega) (by omega)).mp z; omega), qOr_worthOnward_ev hc' ok hb (by omega) (by omega) V1 (rb w (by omega) (yMy_b hm))]
          rfl
      rw [val, Option.bind_some, show (8 : Int32) = nI 8 from rfl, nI_mul, nI_add, zix_nI (by omega) (by omega), Option.bind_some]
      simp only [zlet]
      rw [rI_set, Option.bind_some]
      refine ⟨_, rfl, _, rfl, fun b' l' hb1 hb2 hbl => ?_, fun l' hl' hbl => ?_⟩
      · have l7 := wbit_lt hb2 hbl
        rw [upd_n (by omega)]
        exact H' b' l' hb1 hb2 hbl
      · by_cases e : l' = i
        · subst e; rw [upd_e]
        · rw [upd_n (by omega)]; exact HL l' (by omega) hbl
    · rw [if_neg ht, if_pos rfl, Option.bind_some]
      refine ⟨_, rfl, T', rfl, H', fun l' hl' hbl => ?_⟩
      have : l' ≠ i := fun e => ht (e ▸ hbl)
      exact HL l' (by omega) hbl
  · rintro x ⟨T', rfl, H', HL⟩
    unfold qOr_bestRow_b12
    dsimp only
    rw [cC_n (cC_rI hoc (by omega) hc), if_pos (nI_le (Nat.le_refl _) (by omega))]
    refine ⟨_, rfl, T', rfl, fun b' l' hb1 hb2 hbl => ?_⟩
    by_cases e : b' = b
    · subst e; exact HL l' (wbit_lt hb2 hbl) hbl
    · exact H' b' l' (by omega) hb2 hbl
theorem qOr_bestRow_b5_ev (hoc : o = 7 ∨ o = 22) (hc : cC h o c) (ok : wCok c) : ∃ x, zloop (qOr_bestRow_b5 o (yTkI tk)) zfu (nI (2 ^ c.1 - 1), h) = some x ∧ ∃ T', x = rI h 194 T' ∧ yRT c tk 1 T' := by
  have n7 := ok.1
  have p7 := w2n n7
  have p0 := w2p c.1
  refine zloop_me (Q := fun q x => ∃ T', q ≤ 2 ^ c.1 - 1 ∧ x = (nI q, rI h 194 T') ∧ yRT c tk (q + 1) T') ?_ zfu (2 ^ c.1 - 1) _ ⟨h.2.1 194, Nat.le_refl _, by rw [rI_self rfl], fun b l h1 h2 => absurd h2 (by omega)⟩ (zfu_lt (by omega))
  rintro q x ⟨T', hq, rfl, H'⟩
  unfold qOr_bestRow_b5
  dsimp only
  cases q with
  | zero =>
    rw [if_pos (show nI 0 ≤ 0 by decide)]
    exact Or.inl ⟨_, rfl, T', rfl, H'⟩
  | succ q =>
    obtain ⟨x, e1, T2, rfl, H2⟩ := qOr_bestRow_b12_ev hoc hc ok (show q + 1 < 2 ^ c.1 by omega) H'
    rw [if_neg (nI_nle (by omega) (by omega)), e1, Option.bind_some, wsubm, nI_pred]
    exact Or.inr ⟨q, _, rfl, by omega, T2, by omega, rfl, H2⟩
/-! the row -/
def yRp (c : wC) (tk : Bool) : Nat → Nat × Nat
  | 0 => (0, 7)
  | k + 1 => match yBo (yTf c tk (yTv c tk) (yRp c tk k).1 (yRp c tk k).2) c.1 with
    | none => yRp c tk k
    | some p => ((yRp c tk k).1 ||| 2 ^ p.1, p.1)
def yRc (c : wC) (tk : Bool) (k : Nat) : Option (Nat × Int) := yBo (yTf c tk (yTv c tk) (yRp c tk k).1 (yRp c tk k).2) c.1
theorem yRp_s {k : Nat} {p : Nat × Int} (e : yRc c tk k = some p) : yRp c tk (k + 1) = ((yRp c tk k).1 ||| 2 ^ p.1, p.1) := by
  show (match yRc c tk k with | none => yRp c tk k | some p => ((yRp c tk k).1 ||| 2 ^ p.1, p.1)) = _
  rw [e]
def yLn (c : wC) (tk : Bool) : Nat := fa_first (fun k => (yRc c tk k).isNone) c.1
theorem yLn_le (c : wC) (tk : Bool) : yLn c tk ≤ c.1 := fa_first_le _ _
theorem yLn_y {k : Nat} (hk : k < yLn c tk) : ∃ w v, yRc c tk k = some (w, v) ∧ yIB (yTf c tk (yTv c tk) (yRp c tk k).1 (yRp c tk k).2) c.1 w v ∧ yMy c tk (yRp c tk k).1 (yRp c tk k).2 w = true := by
  have q := fa_first_no (fun k => (yRc c tk k).isNone) c.1 k hk
  cases e : yRc c tk k with
  | none => rw [e] at q; cases q
  | some p =>
    have ib := yBo_IB (w := p.1) (v := p.2) e
    refine ⟨p.1, p.2, rfl, ib, ?_⟩
    cases z : yMy c tk (yRp c tk k).1 (yRp c tk k).2 p.1 with
    | true => rfl
    | false => have := ib.2.1; rw [yTf_n z] at this; cases this
theorem yRp_ok (ok : wCok c) : ∀ k, k ≤ yLn c tk → (yRp c tk k).1 < 2 ^ c.1 ∧ (yRp c tk k).2 ≤ 7 ∧ wones (yRp c tk k).1 = k
  | 0, _ => ⟨Nat.two_pow_pos _, Nat.le_refl _, by show wones 0 = 0; decide⟩
  | k + 1, hk => by
    have n7 := ok.1
    have p7 := w2n n7
    obtain ⟨i1, i2, i3⟩ := yRp_ok ok k (by omega)
    obtain ⟨w, v, e1, e2, e3⟩ := yLn_y (show k < yLn c tk by omega)
    rw [yRp_s e1]
    have w7 := e2.1
    exact ⟨Nat.or_lt_two_pow i1 (wp_lt w7), by show w ≤ 7; omega, by rw [wones_1 (by omega) (by omega) (yMy_b e3), i3]⟩
theorem yRc_va (ok : wCok c) {k : Nat} (hk : k ≤ yLn c tk) : yVa 0 (yRc c tk k) = yTv c tk (yRp c tk k).1 (yRp c tk k).2 := by
  rw [yTv_e ok (yRp_ok ok k hk).1]
  rfl
theorem qOr_bestRow_ev (hoc : o = 7 ∨ o = 22) (hc : cC h o c) (ok : wCok c) : ∃ x, qOr_bestRow o (yTkI tk) h = some x ∧ gI x 192 0 = iI (yTv c tk 0 7) ∧ gI x 192 3 = nI (yLn c tk) ∧ ∀ k, k < yLn c tk → gI x 193 k = nI (yWh 7 (yRc c tk k)) := by
  have n7 := ok.1
  have p7 := w2n n7
  obtain ⟨g1, e1, T, rfl, HT⟩ := qOr_bestRow_b5_ev (tk := tk) hoc hc ok
  let h16 : zK := sI (sI (rI h 194 T) 192 0 0) 192 3 0
  have V1 := yTv_bd (tk := tk) ok
  have lnle := yLn_le c tk
  have key : ∃ x, zloop (qOr_bestRow_b106 o (yTkI tk)) zfu (0, 7, 0, h16) = some x ∧ ∃ g, x = Sum.inl g ∧ gI g 192 0 = iI (yTv c tk 0 7) ∧ gI g 192 3 = nI (yLn c tk) ∧ ∀ k, k < yLn c tk → gI g 193 k = nI (yWh 7 (yRc c tk k)) := by
    refine zloop_fx (S := fun i x => ∃ g, x = (nI (yRp c tk i).1, nI (yRp c tk i).2, nI i, g) ∧ (∀ a j, a < 100 → gI g a j = gI h a j) ∧ (∀ j, gI g 194 j = T j) ∧ gI g 192 0 = (if i = 0 then 0 else iI (yTv c tk 0 7)) ∧ gI g 192 3 = nI i ∧ ∀ k, k < i → gI g 193 k = nI (yWh 7 (yRc c tk k))) (yLn c tk) ?_ ?_ (zfu_lt (by omega)) ⟨h16, rfl, fun a j ha => ?_, fun j => ?_, ?_, ?_, fun k hk => absurd hk (Nat.not_lt_zero _)⟩
    · rintro i x hi ⟨g, rfl, G1, G2, G3, G4, G5⟩
      obtain ⟨b1, b2, b3⟩ := yRp_ok (tk := tk) ok i (by omega)
      obtain ⟨w, v, w1, w2, w3⟩ := yLn_y hi
      have w7 := w2.1
      have hc' : cC g o c := cC_g hoc G1 hc
      have rb : yRb g c (yRp c tk i).1 (yTv c tk) := fun s hs hbs => by
        rw [G2, ← gI_rI h 194 T]
        exact yRT_rb (h := h) b1 (by omega) HT s hs hbs
      have ev := w2.2.1
      rw [yTf_y w3] at ev
      unfold qOr_bestRow_b106
      dsimp only
      rw [cC_n hc', if_neg (nI_ge (show i < c.1 by omega) (by omega)), qOr_bestBehind_ev hc' ok b1 b2 V1 rb, Option.bind_some, show yBo (yTf c tk (yTv c tk) (yRp c tk i).1 (yRp c tk i).2) c.1 = some (w, v) from w1, show yWh 7 (some (w, v)) = w from rfl, if_pos (show ¬ nI w = 7 from fun z => by have := (nI_eq (b := 7) (by omega) (by omega)).mp z; omega), qOr_worthOnward_ev hc' ok b1 b2 (by omega) V1 (rb w (by omega) (yMy_b w3)), Option.bind_some, zix_nI (show i < 10 by omega) (by omega)]
      have wv : (if ¬ nI i = 0 then some (gI g 192 0) else some (iI ((yNw c tk (yRp c tk i).2 w : Int) + yTv c tk ((yRp c tk i).1 ||| 2 ^ w) w))) = some (iI (yTv c tk 0 7)) := by
        by_cases h0 : i = 0
        · subst h0
          rw [if_neg (show ¬ ¬ nI 0 = 0 from fun z => z rfl)]
          cases ev
          have := yRc_va (tk := tk) ok (k := 0) (by omega)
          rw [w1] at this
          exact congrArg (fun z => some (iI z)) this
        · rw [if_pos (nI_ne0 (by omega) (by omega)), G3, if_neg h0]
      rw [wv, Option.bind_some]
      simp only [zlet, Option.bind_some]
      rw [wshl w (by omega), fa_or, nI_1, gI_ne (show 192 ≠ 193 by decide), gI_nk (show 3 ≠ 0 by decide), G4, nI_1]
      rw [yRp_s w1]
      refine ⟨_, rfl, sI (sI (sI g 192 0 (iI (yTv c tk 0 7))) 193 i (nI w)) 192 3 (nI (i + 1)), rfl, fun a j ha => ?_, fun j => ?_, ?_, ?_, fun k hk => ?_⟩
      · rw [gI_ne (by omega), gI_ne (by omega), gI_ne (by omega)]; exact G1 a j ha
      · rw [gI_ne (by omega), gI_ne (by omega), gI_ne (by omega)]; exact G2 j
      · rw [gI_nk (by decide), gI_ne (by decide), gI_eq, if_neg (by omega)]
      · rw [gI_eq]
      · rw [gI_ne (by decide)]
        by_cases e : k = i
        · subst e; rw [gI_eq, w1]; rfl
        · rw [gI_nk e, gI_ne (by decide)]; exact G5 k (by omega)
    · rintro x ⟨g, rfl, G1, G2, G3, G4, G5⟩
      obtain ⟨b1, b2, b3⟩ := yRp_ok (tk := tk) ok (yLn c tk) (Nat.le_refl _)
      have hc' : cC g o c := cC_g hoc G1 hc
      have fin : gI g 192 0 = iI (yTv c tk 0 7) := by
        rw [G3]
        by_cases h0 : yLn c tk = 0
        · rw [if_pos h0]
          have e0 : yRc c tk 0 = none := by
            by_cases hn : c.1 = 0
            · unfold yRc
              rw [hn]
              rfl
            · have := fa_first_yes (fun k => (yRc c tk k).isNone) c.1 (by show yLn c tk < c.1; omega)
              rw [show fa_first (fun k => (yRc c tk k).isNone) c.1 = 0 from h0] at this
              exact Option.isNone_iff_eq_none.mp this
          have := yRc_va (tk := tk) ok (k := 0) (by omega)
          rw [e0] at this
          rw [show yTv c tk 0 7 = 0 from this.symm]
          exact iI_0.symm
        · rw [if_neg h0]
      unfold qOr_bestRow_b106
      dsimp only
      rw [cC_n hc']
      by_cases hl : yLn c tk < c.1
      · have rb : yRb g c (yRp c tk (yLn c tk)).1 (yTv c tk) := fun s hs hbs => by
          rw [G2, ← gI_rI h 194 T]
          exact yRT_rb (h := h) b1 (by omega) HT s hs hbs
        have en : yRc c tk (yLn c tk) = none := Option.isNone_iff_eq_none.mp (fa_first_yes (fun k => (yRc c tk k).isNone) c.1 hl)
        rw [if_neg (nI_ge hl (by omega)), qOr_bestBehind_ev hc' ok b1 b2 V1 rb, Option.bind_some, show yBo (yTf c tk (yTv c tk) (yRp c tk (yLn c tk)).1 (yRp c tk (yLn c tk)).2) c.1 = none from en, show yWh 7 none = 7 from rfl, if_neg (show ¬ ¬ nI 7 = 7 from fun z => z rfl)]
        exact ⟨_, rfl, g, rfl, fin, G4, G5⟩
      · rw [if_pos (nI_le (by omega) (by omega))]
        exact ⟨_, rfl, g, rfl, fin, G4, G5⟩
    · show gI (sI (sI _ _ _ _) _ _ _) _ _ = _
      rw [gI_ne (by omega), gI_ne (by omega), gI_rn (by omega)]
    · show gI (sI (sI _ _ _ _) _ _ _) _ _ = _
      rw [gI_ne (by omega), gI_ne (by omega), gI_rI]
    · show gI (sI (sI _ _ _ _) _ _ _) _ _ = _
      rw [gI_nk (by decide), gI_eq, if_pos rfl]
    · show gI (sI (sI _ _ _ _) _ _ _) _ _ = _
      rw [gI_eq]; rfl
  obtain ⟨x, e2, g, rfl, f1, f2, f3⟩ := key
  refine ⟨g, ?_, f1, f2, f3⟩
  unfold qOr_bestRow
  rw [qCe_all_ev hc ok, e1, Option.bind_some]
  simp only [zlet]
  show (zloop (qOr_bestRow_b106 o (yTkI tk)) zfu (0, 7, 0, h16)).bind _ = _
  rw [e2]
  rfl
end ROW
