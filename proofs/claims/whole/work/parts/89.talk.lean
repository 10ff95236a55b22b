/-! TALK AND DINNER: the reference -/
def yOd (d : Int) : Option Int → Int
  | none => d
  | some u => u
theorem yBo_vd {f : Nat → Option Int} {i : Nat} {d : Int} (hd : -1000000 ≤ d ∧ d ≤ 1000000) (hf : ∀ s u, s ≤ i → f s = some u → d ≤ u ∧ u ≤ 1000000) : zf_greater (iI (yVa d (yBo f i))) (iI (yOd d (f i))) = iI (yVa d (yBo f (i + 1))) := by
  have b1 : d ≤ yVa d (yBo f i) ∧ yVa d (yBo f i) ≤ 1000000 := yBo_bd (fun s u hs hu => hf s u (by omega) hu) (by omega)
  have b2 : d ≤ yOd d (f i) ∧ yOd d (f i) ≤ 1000000 := by
    cases e : f i with
    | none => exact ⟨Int.le_refl _, hd.2⟩
    | some u => exact hf i u (Nat.le_refl _) e
  rw [iI_gre (by unfold iB; omega) (by unfold iB; omega), yBo_s]
  congr 1
  unfold yBoS
  cases e : f i with
  | none =>
    dsimp only
    show (if d < yVa d (yBo f i) then _ else d) = _
    by_cases hl : d < yVa d (yBo f i)
    · rw [if_pos hl]
    · rw [if_neg hl]; omega
  | some u =>
    have := hf i u (Nat.le_refl _) e
    dsimp only
    show (if u < yVa d (yBo f i) then _ else u) = _
    cases e2 : yBo f i with
    | none =>
      dsimp only
      show (if u < d then _ else u) = u
      rw [if_neg (by omega)]
    | some p =>
      dsimp only
      show (if u < p.2 then p.2 else u) = _
      by_cases hl : p.2 < u
      · rw [if_neg (by omega), if_pos hl]; rfl
      · rw [if_neg hl]
        show _ = p.2
        by_cases hq : u < p.2
        · rw [if_pos hq]
        · rw [if_neg hq]; omega
section TALK
variable {h : zK} {o k n b l s : Nat} {c : wC} {tk : Bool} {V : Nat → Nat → Int}
theorem qM_answers_7 (s : Int32) (h : zK) : qM_answers s (nI 7) h = some 0 := by
  unfold qM_answers
  rw [if_pos (show (7 : Int32) ≤ nI 7 by decide)]
theorem qM_tellsBy_ev (B : mB h k c) (ok : wCok c) (hl : l ≤ 7) (hs : s < c.1) : qM_tellsBy (nI l) (nI s) h = some (nI (yTl c l s)) := by
  unfold qM_tellsBy yTl
  by_cases h7 : l = 7
  · subst h7
    rw [qM_answers_7, Option.bind_some, if_pos rfl, mB_0 B ok hs, if_neg (fun z => z.1 rfl)]
    rfl
  · rw [qM_answers_ev B ok hs (by omega), Option.bind_some, mB_0 B ok hs]
    by_cases hb : (c.2.2.2 6 s).testBit l = true
    · rw [if_pos hb, if_neg (show ¬ (1 : Int32) = 0 by decide), if_pos ⟨h7, hb⟩, Option.bind_some, show (2 : Int32) = nI 2 from rfl, nI_mul]
    · rw [if_neg hb, if_pos rfl, if_neg (fun z => hb z.2)]
      rfl
theorem qM_talkBy_ev (B : mB h k c) (ok : wCok c) (hb : b < 2 ^ c.1) (hl : l ≤ 7) (hs : s < c.1) (hV : ∀ b l, 0 ≤ V b l ∧ V b l ≤ 1000) (T : b.testBit s = false → gI h 232 (128 * s + (b ||| 2 ^ s)) = iI (V (b ||| 2 ^ s) s)) : qM_talkBy (nI b) (nI l) (nI s) h = some (iI (yOd 0 (yTf c true V b l s))) := by
  have n7 := ok.1
  have p7 := w2n n7
  have pw := wpow7 s (by omega)
  have ob : b ||| 2 ^ s < 128 := wor_lt (by omega) pw
  have a := hV (b ||| 2 ^ s) s
  unfold qM_talkBy
  rw [whas b (by omega) s (by omega)]
  by_cases h1 : b.testBit s = true
  · rw [if_pos h1, if_pos (show ¬ (1 : Int32) = 0 by decide), yTf_n (by unfold yMy; rw [h1]; rfl)]
    exact congrArg some iI_0.symm
  · have go : yMy c true b l s = true → qM_talkBy_j27 (nI b) (nI s) h = some (iI (yOd 0 (yTf c true V b l s))) := fun hm => by
      unfold qM_talkBy_j27
      rw [wshl s (by omega), fa_or, show (128 : Int32) = nI 128 from rfl, nI_mul, nI_add, zix_nI (by omega) (by omega), Option.bind_some, T (ybf h1), yTf_y hm, show (1 : Int32) = iI 1 from rfl, iI_add (by unfold iB; omega) (by unfold iB; omega) (by unfold iB; omega)]
      rfl
    rw [if_neg h1, if_neg (show ¬ ¬ (0 : Int32) = 0 from fun z => z rfl)]
    by_cases h7 : l = 7
    · subst h7
      rw [if_pos (show (7 : Int32) ≤ nI 7 by decide)]
      exact go (by unfold yMy; rw [ybf h1]; rfl)
    · rw [if_neg (show ¬ (7 : Int32) ≤ nI l from nI_ge (b := 7) (by omega) (by decide)), qM_answers_ev B ok hs (by omega), Option.bind_some]
      by_cases h2 : (c.2.2.2 6 s).testBit l = true
      · rw [if_pos h2, if_pos (show ¬ (1 : Int32) = 0 by decide)]
        exact go (by unfold yMy; rw [ybf h1, h2, Bool.or_true]; rfl)
      · rw [if_neg h2, if_neg (show ¬ ¬ (0 : Int32) = 0 from fun z => z rfl), yTf_n (by unfold yMy; rw [ybf h1, ybf h2, decide_eq_false h7]; rfl)]
        exact congrArg some iI_0.symm
theorem qM_dinnerBy_ev (B : mB h k c) (ok : wCok c) (hb : b < 2 ^ c.1) (hl : l ≤ 7) (hs : s < c.1) (hV : ∀ b l, 0 ≤ V b l ∧ V b l ≤ 1000) (T : b.testBit s = false → gI h 232 (128 * s + (b ||| 2 ^ s)) = iI (V (b ||| 2 ^ s) s)) : qM_dinnerBy (nI b) (nI l) (nI s) h = some (iI (yOd (-1000000) (yTf c false V b l s))) := by
  have n7 := ok.1
  have p7 := w2n n7
  have pw := wpow7 s (by omega)
  have ob : b ||| 2 ^ s < 128 := wor_lt (by omega) pw
  have a := hV (b ||| 2 ^ s) s
  have tl := yTl_le ok hs l
  unfold qM_dinnerBy
  rw [whas b (by omega) s (by omega)]
  by_cases h1 : b.testBit s = true
  · rw [if_pos h1, if_neg (show ¬ (1 : Int32) = 0 by decide), yTf_n (by unfold yMy; rw [h1]; rfl)]
    exact congrArg some iI_far.symm
  · rw [if_neg h1, if_pos rfl, qM_tellsBy_ev B ok hl hs, Option.bind_some, wshl s (by omega), fa_or, show (128 : Int32) = nI 128 from rfl, nI_mul, nI_add, zix_nI (by omega) (by omega), Option.bind_some, T (ybf h1), yTf_y (by unfold yMy; rw [ybf h1]; rfl), iI_nat (by omega), iI_add (iB_nat (by omega)) (by unfold iB; omega) (by unfold iB; omega)]
    rfl
/-! the reference's table: sets from i on -/
def yTM (c : wC) (tk : Bool) (i : Nat) (T : Nat → Int32) : Prop := ∀ b l, i ≤ b → b < 2 ^ c.1 → l ≤ 7 → T (128 * l + b) = iI (yTv c tk b l)
theorem yTM_t {T : Nat → Int32} {i : Nat} (ok : wCok c) (hb : b < 2 ^ c.1) (hi : i ≤ b + 1) (hs : s < c.1) (H : yTM c tk i T) : b.testBit s = false → gI (rI h 232 T) 232 (128 * s + (b ||| 2 ^ s)) = iI (yTv c tk (b ||| 2 ^ s) s) := fun hbs => by
  have n7 := ok.1
  rw [gI_rI]
  have := yor_gt hbs
  exact H (b ||| 2 ^ s) s (by omega) (Nat.or_lt_two_pow hb (wp_lt hs)) (by omega)
theorem yTM_up {T : Nat → Int32} {v : Int32} (ok : wCok c) (hb : b < 2 ^ c.1) (hl : l ≤ 7) (H : yTM c tk (b + 1) T) (HL : ∀ l', l' < l → T (128 * l' + b) = iI (yTv c tk b l')) (hv : v = iI (yTv c tk b l)) : yTM c tk (b + 1) (upd T (128 * l + b) v) ∧ ∀ l', l' < l + 1 → upd T (128 * l + b) v (128 * l' + b) = iI (yTv c tk b l') := by
  have n7 := ok.1
  have p7 := w2n n7
  refine ⟨fun b' l' h1 h2 h3 => ?_, fun l' hl' => ?_⟩
  · rw [upd_n (by omega)]; exact H b' l' h1 h2 h3
  · by_cases e : l' = l
    · subst e; rw [upd_e, hv]
    · rw [upd_n (by omega)]; exact HL l' (by omega)
theorem qM_talk_b31_ev (B : mB h k c) (ok : wCok c) (hb : b < 2 ^ c.1) (x2 : Int32) {T : Nat → Int32} (H : yTM c true (b + 1) T) : ∃ x, zloop (qM_talk_b31 x2 (nI b)) zfu (0, rI h 232 T) = some x ∧ ∃ T', x = rI h 232 T' ∧ yTM c true b T' := by
  have n7 := ok.1
  have p7 := w2n n7
  have V1 := yTv_bd (tk := true) ok
  refine zloop_fx (S := fun i x => ∃ T', x = (nI i, rI h 232 T') ∧ yTM c true (b + 1) T' ∧ ∀ l, l < i → T' (128 * l + b) = iI (yTv c true b l)) 8 ?_ ?_ (zfu_lt (by omega)) ⟨T, rfl, H, fun l hl => absurd hl (Nat.not_lt_zero _)⟩
  · rintro i x hi ⟨T', rfl, H', HL⟩
    unfold qM_talk_b31
    dsimp only
    have B' : mB (rI h 232 T') k c := mB_rI (by omega) (by omega) B
    have inner : zloop (qM_talk_b44 x2 (nI b) (nI i) (rI h 232 T')) zfu (0, 0) = some (iI (yTv c true b i)) := by
      rw [yTv_e ok hb]
      refine zloop_for (fun j => (iI (yVa 0 (yBo (yTf c true (yTv c true) b i) j)), nI j)) c.1 (fun j hj => ?_) ?_ (zfu_lt (by omega))
      · unfold qM_talk_b44
        dsimp only
        rw [B'.2.2.1, if_neg (nI_ge hj (by omega)), qM_talkBy_ev B' ok hb (by omega) hj V1 (yTM_t ok hb (Nat.le_refl _) hj H'), Option.bind_some, yBo_vd (d := 0) (by omega) (fun s u hs hu => by have := yTf_bd (tk := true) (b := b) (l := i) ok V1 s u (by omega) hu; omega), nI_1]
      · unfold qM_talk_b44
        dsimp only
        rw [B'.2.2.1, if_pos (nI_le (Nat.le_refl _) (by omega))]
    rw [if_neg (show ¬ (7 : Int32) < nI i from nI_nlt (a := 7) (by omega) (by decide)), inner, Option.bind_some, show (128 : Int32) = nI 128 from rfl, nI_mul, nI_add, zix_nI (by omega) (by omega), Option.bind_some]
    simp only [zlet]
    rw [rI_set, nI_1]
    obtain ⟨u1, u2⟩ := yTM_up ok hb (show i ≤ 7 by omega) H' HL rfl
    exact ⟨_, rfl, _, rfl, u1, u2⟩
  · rintro x ⟨T', rfl, H', HL⟩
    unfold qM_talk_b31
    dsimp only
    rw [if_pos (show (7 : Int32) < nI 8 from nI_lt (a := 7) (by omega) (by decide))]
    refine ⟨_, rfl, T', rfl, fun b' l' h1 h2 h3 => ?_⟩
    by_cases e : b' = b
    · subst e; exact HL l' (by omega)
    · exact H' b' l' (by omega) h2 h3
theorem qM_talk_b24_ev (B : mB h k c) (ok : wCok c) (x2 : Int32) : ∃ x, zloop (qM_talk_b24 x2) zfu (nI (2 ^ c.1) - 1, h) = some x ∧ ∃ T', x = rI h 232 T' ∧ yTM c true 0 T' := by
  have n7 := ok.1
  have p7 := w2n n7
  refine zloop_me (Q := fun q x => ∃ T', q ≤ 2 ^ c.1 ∧ x = (nI q - 1, rI h 232 T') ∧ yTM c true q T') ?_ zfu (2 ^ c.1) _ ⟨h.2.1 232, Nat.le_refl _, by rw [rI_self rfl], fun b l h1 h2 => absurd h2 (by omega)⟩ (zfu_lt (by omega))
  rintro q x ⟨T', hq, rfl, H'⟩
  unfold qM_talk_b24
  dsimp only
  cases q with
  | zero =>
    rw [if_pos ((wnm_lt 0 (by omega)).mpr rfl)]
    exact Or.inl ⟨_, rfl, T', rfl, H'⟩
  | succ q =>
    obtain ⟨x, e1, T2, rfl, H2⟩ := qM_talk_b31_ev B ok (show q < 2 ^ c.1 by omega) x2 H'
    rw [nI_pred, if_neg (nI_pos (by omega)), e1, Option.bind_some, wsubm]
    exact Or.inr ⟨q, _, rfl, by omega, T2, by omega, rfl, H2⟩
theorem qM_dinner_b49_ev (B : mB h k c) (ok : wCok c) (hb : b < 2 ^ c.1) (x2 : Int32) {T : Nat → Int32} (H : yTM c false (b + 1) T) : ∃ x, zloop (qM_dinner_b49 x2 (nI (2 ^ c.1 - 1)) (nI b)) zfu (0, rI h 232 T) = some x ∧ ∃ T', x = rI h 232 T' ∧ yTM c false b T' := by
  have n7 := ok.1
  have p7 := w2n n7
  have p0 := w2p c.1
  have V1 := yTv_bd (tk := false) ok
  refine zloop_fx (S := fun i x => ∃ T', x = (nI i, rI h 232 T') ∧ yTM c false (b + 1) T' ∧ ∀ l, l < i → T' (128 * l + b) = iI (yTv c false b l)) 8 ?_ ?_ (zfu_lt (by omega)) ⟨T, rfl, H, fun l hl => absurd hl (Nat.not_lt_zero _)⟩
  · rintro i x hi ⟨T', rfl, H', HL⟩
    unfold qM_dinner_b49
    simp only [zlet]
    have B' : mB (rI h 232 T') k c := mB_rI (by omega) (by omega) B
    have inner : zloop (qM_dinner_b74 x2 (nI (2 ^ c.1 - 1)) (nI b) (nI i) (rI h 232 T')) zfu (if ¬ nI b = nI (2 ^ c.1 - 1) then -1000000 else 0, 0) = some (iI (yTv c false b i)) := by
      rw [yTv_e ok hb]
      by_cases ha : b = 2 ^ c.1 - 1
      · have none_ : ∀ j, j < c.1 → yTf c false (yTv c false) b i j = none := fun j hj => yTf_n (by
          unfold yMy
          rw [ha, Nat.testBit_two_pow_sub_one, decide_eq_true hj]
          rfl)
        rw [if_neg (show ¬ ¬ nI b = nI (2 ^ c.1 - 1) from fun z => z (by rw [ha])), yBo_no none_]
        refine zloop_for (fun j => (iI 0, nI j)) c.1 (fun j hj => ?_) ?_ (zfu_lt (by omega))
        · unfold qM_dinner_b74
          dsimp only
          rw [B'.2.2.1, if_neg (nI_ge hj (by omega)), qM_dinnerBy_ev B' ok hb (by omega) hj V1 (yTM_t ok hb (Nat.le_refl _) hj H'), Option.bind_some, none_ j hj, nI_1]
          rfl
        · unfold qM_dinner_b74
          dsimp only
          rw [B'.2.2.1, if_pos (nI_le (Nat.le_refl _) (by omega))]
          rfl
      · rw [if_pos (show ¬ nI b = nI (2 ^ c.1 - 1) from fun z => ha ((nI_eq (by omega) (by omega)).mp z))]
        have some_ : yVa 0 (yBo (yTf c false (yTv c false) b i) c.1) = yVa (-1000000) (yBo (yTf c false (yTv c false) b i) c.1) := by
          rcases yBo_cases (yTf c false (yTv c false) b i) c.1 with ⟨-, e2⟩ | ⟨w, v, e1, -⟩
          · exfalso
            apply ha
            apply Nat.eq_of_testBit_eq
            intro j
            rw [Nat.testBit_two_pow_sub_one]
            by_cases hj : j < c.1
            · rw [decide_eq_true hj]
              cases q : b.testBit j with
              | true => rfl
              | false =>
                have := e2 j hj
                rw [yTf_y (by unfold yMy; rw [q]; rfl)] at this
                cases this
            · rw [decide_eq_false hj]
              exact ybf (fun z => hj (wbit_lt hb z))
          · rw [e1]; rfl
        rw [some_]
        refine zloop_for (fun j => (iI (yVa (-1000000) (yBo (yTf c false (yTv c false) b i) j)), nI j)) c.1 (fun j hj => ?_) ?_ (zfu_lt (by omega))
        · unfold qM_dinner_b74
          dsimp only
          rw [B'.2.2.1, if_neg (nI_ge hj (by omega)), qM_dinnerBy_ev B' ok hb (by omega) hj V1 (yTM_t ok hb (Nat.le_refl _) hj H'), Option.bind_some, yBo_vd (d := -1000000) (by omega) (fun s u hs hu => by have := yTf_bd (tk := false) (b := b) (l := i) ok V1 s u (by omega) hu; omega), nI_1]
        · unfold qM_dinner_b74
          dsimp only
          rw [B'.2.2.1, if_pos (nI_le (Nat.le_refl _) (by omega))]
    rw [if_neg (show ¬ (7 : Int32) < nI i from nI_nlt (a := 7) (by omega) (by decide)), inner, Option.bind_some, show (128 : Int32) = nI 128 from rfl, nI_mul, nI_add, zix_nI (by omega) (by omega), Option.bind_some, rI_set, nI_1]
    obtain ⟨u1, u2⟩ := yTM_up ok hb (show i ≤ 7 by omega) H' HL rfl
    exact ⟨_, rfl, _, rfl, u1, u2⟩
  · rintro x ⟨T', rfl, H', HL⟩
    unfold qM_dinner_b49
    dsimp only
    rw [if_pos (show (7 : Int32) < nI 8 from nI_lt (a := 7) (by omega) (by decide))]
    refine ⟨_, rfl, T', rfl, fun b' l' h1 h2 h3 => ?_⟩
    by_cases e : b' = b
    · subst e; exact HL l' (by omega)
    · exact H' b' l' (by omega) h2 h3
theorem qM_dinner_b41_ev (B : mB h k c) (ok : wCok c) (x2 : Int32) : ∃ x, zloop (qM_dinner_b41 x2 (nI (2 ^ c.1 - 1))) zfu (nI (2 ^ c.1) - 1, h) = some x ∧ ∃ T', x = rI h 232 T' ∧ yTM c false 0 T' := by
  have n7 := ok.1
  have p7 := w2n n7
  refine zloop_me (Q := fun q x => ∃ T', q ≤ 2 ^ c.1 ∧ x = (nI q - 1, rI h 232 T') ∧ yTM c false q T') ?_ zfu (2 ^ c.1) _ ⟨h.2.1 232, Nat.le_refl _, by rw [rI_self rfl], fun b l h1 h2 => absurd h2 (by omega)⟩ (zfu_lt (by omega))
  rintro q x ⟨T', hq, rfl, H'⟩
  unfold qM_dinner_b41
  dsimp only
  cases q with
  | zero =>
    rw [if_pos ((wnm_lt 0 (by omega)).mpr rfl)]
    exact Or.inl ⟨_, rfl, T', rfl, H'⟩
  | succ q =>
    obtain ⟨x, e1, T2, rfl, H2⟩ := qM_dinner_b49_ev B ok (show q < 2 ^ c.1 by omega) x2 H'
    rw [nI_pred, if_neg (nI_pos (by omega)), e1, Option.bind_some, wsubm]
    exact Or.inr ⟨q, _, rfl, by omega, T2, by omega, rfl, H2⟩
/-! the rows -/
theorem yRp_2 {k : Nat} (hk : k < yLn c tk) : (yRp c tk (k + 1)).2 = yWh 7 (yRc c tk k) := by
  obtain ⟨w, v, e1, -⟩ := yLn_y hk
  rw [yRp_s e1, e1]
  rfl
theorem qM_talk_b148_ev (B : mB h k c) (ok : wCok c) {T : Nat → Int32} (H : yTM c true 0 T) {q : Nat} (hq : q < yLn c true) : zloop (qM_talk_b148 (nI q) (rI h 232 T)) zfu (0, 7, 0) = some (nI (yWh 7 (yRc c true q))) := by
  have n7 := ok.1
  have p7 := w2n n7
  have ln := yLn_le c true
  have V1 := yTv_bd (tk := true) ok
  have B' : mB (rI h 232 T) k c := mB_rI (by omega) (by omega) B
  rw [← yRp_2 hq]
  refine zloop_for (fun i => (nI (yRp c true i).1, nI (yRp c true i).2, nI i)) (q + 1) (fun i hi => ?_) ?_ (zfu_lt (by omega))
  · obtain ⟨b1, b2, b3⟩ := yRp_ok (tk := true) ok i (by omega)
    obtain ⟨w, v, e1, e2, e3⟩ := yLn_y (show i < yLn c true by omega)
    have w7 := e2.1
    have ev := e2.2.1
    rw [yTf_y e3] at ev
    have vb : 1 ≤ v := by
      have := (V1 ((yRp c true i).1 ||| 2 ^ w) w).1
      have hv : ((yNw c true (yRp c true i).2 w : Nat) : Int) = 1 := rfl
      cases ev
      omega
    have vt := yTf_bd (tk := true) ok V1 w v w7 e2.2.1
    have tv : gI (rI h 232 T) 232 (128 * (yRp c true i).2 + (yRp c true i).1) = iI v := by
      rw [gI_rI, H _ _ (Nat.zero_le _) b1 b2, ← yRc_va ok (by omega), e1]
      rfl
    have find : zloop (qM_talk_b157 (nI q) (nI (yRp c true i).1) (nI (yRp c true i).2) (nI i) (rI h 232 T)) zfu 0 = some (nI w) := by
      refine zloop_for (fun j => nI j) w (fun j hj => ?_) ?_ (zfu_lt (by omega))
      · unfold qM_talk_b157
        rw [qM_talkBy_ev B' ok b1 b2 (by omega) V1 (yTM_t ok b1 (by omega) (by omega) H), Option.bind_some, show (128 : Int32) = nI 128 from rfl, nI_mul, nI_add, zix_nI (by omega) (by omega), Option.bind_some, tv, nI_1, if_neg]
        cases e : yTf c true (yTv c true) (yRp c true i).1 (yRp c true i).2 j with
        | none =>
          intro z
          have := (iI_eq (a := 0) (b := v) (by unfold iB; omega) (by unfold iB; omega)).mp z
          omega
        | some u =>
          have ul := e2.2.2.2 j u hj e
          have ub := yTf_bd (tk := true) ok V1 j u (by omega) e
          intro z
          have := (iI_eq (a := u) (b := v) (by unfold iB; omega) (by unfold iB; omega)).mp z
          omega
      · unfold qM_talk_b157
        rw [qM_talkBy_ev B' ok b1 b2 (by omega) V1 (yTM_t ok b1 (by omega) (by omega) H), Option.bind_some, show (128 : Int32) = nI 128 from rfl, nI_mul, nI_add, zix_nI (by omega) (by omega), Option.bind_some, tv, e2.2.1, if_pos (show iI (yOd 0 (some v)) = iI v from rfl)]
    unfold qM_talk_b148
    dsimp only
    rw [if_neg (nI_nlt (by omega) (by omega)), find, Option.bind_some, wshl w (by omega), fa_or, nI_1, yRp_s e1]
  · unfold qM_talk_b148
    dsimp only
    rw [if_pos (nI_lt (by omega) (by omega))]
theorem qM_dinner_b144_ev (B : mB h k c) (ok : wCok c) {T : Nat → Int32} (H : yTM c false 0 T) {q : Nat} (hq : q < yLn c false) : zloop (qM_dinner_b144 (nI q) (rI h 232 T)) zfu (0, 7, 0) = some (nI (yWh 7 (yRc c false q))) := by
  have n7 := ok.1
  have p7 := w2n n7
  have ln := yLn_le c false
  have V1 := yTv_bd (tk := false) ok
  have B' : mB (rI h 232 T) k c := mB_rI (by omega) (by omega) B
  rw [← yRp_2 hq]
  refine zloop_for (fun i => (nI (yRp c false i).1, nI (yRp c false i).2, nI i)) (q + 1) (fun i hi => ?_) ?_ (zfu_lt (by omega))
  · obtain ⟨b1, b2, b3⟩ := yRp_ok (tk := false) ok i (by omega)
    obtain ⟨w, v, e1, e2, e3⟩ := yLn_y (show i < yLn c false by omega)
    have w7 := e2.1
    have vt := yTf_bd (tk := false) ok V1 w v w7 e2.2.1
    have tv : gI (rI h 232 T) 232 (128 * (yRp c false i).2 + (yRp c false i).1) = iI v := by
      rw [gI_rI, H _ _ (Nat.zero_le _) b1 b2, ← yRc_va ok (by omega), e1]
      rfl
    have find : zloop (qM_dinner_b153 (nI q) (nI (yRp c false i).1) (nI (yRp c false i).2) (nI i) (rI h 232 T)) zfu 0 = some (nI w) := by
      refine zloop_for (fun j => nI j) w (fun j hj => ?_) ?_ (zfu_lt (by omega))
      · unfold qM_dinner_b153
        rw [qM_dinnerBy_ev B' ok b1 b2 (by omega) V1 (yTM_t ok b1 (by omega) (by omega) H), Option.bind_some, show (128 : Int32) = nI 128 from rfl, nI_mul, nI_add, zix_nI (by omega) (by omega), Option.bind_some, tv, nI_1, if_neg]
        cases e : yTf c false (yTv c false) (yRp c false i).1 (yRp c false i).2 j with
        | none =>
          intro z
          have := (iI_eq (a := -1000000) (b := v) (by unfold iB; omega) (by unfold iB; omega)).mp z
          omega
        | some u =>
          have ul := e2.2.2.2 j u hj e
          have ub := yTf_bd (tk := false) ok V1 j u (by omega) e
          intro z
          have := (iI_eq (a := u) (b := v) (by unfold iB; omega) (by unfold iB; omega)).mp z
          omega
      · unfold qM_dinner_b153
        rw [qM_dinnerBy_ev B' ok b1 b2 (by omega) V1 (yTM_t ok b1 (by omega) (by omega) H), Option.bind_some, show (128 : Int32) = nI 128 from rfl, nI_mul, nI_add, zix_nI (by omega) (by omega), Option.bind_some, tv, e2.2.1, if_pos (show iI (yOd (-1000000) (some v)) = iI v from rfl)]
    unfold qM_dinner_b144
    dsimp only
    rw [if_neg (nI_nlt (by omega) (by omega)), find, Option.bind_some, wshl w (by omega), fa_or, nI_1, yRp_s e1]
  · unfold qM_dinner_b144
    dsimp only
    rw [if_pos (nI_lt (by omega) (by omega))]
/-! how long the rows are -/
theorem yLn_d (ok : wCok c) : yLn c false = c.1 := by
  have n7 := ok.1
  have p7 := w2n n7
  have ln := yLn_le c false
  apply Nat.le_antisymm ln
  apply Nat.le_of_not_lt
  intro hl
  obtain ⟨b1, b2, b3⟩ := yRp_ok (tk := false) ok (yLn c false) (Nat.le_refl _)
  have en : yRc c false (yLn c false) = none := Option.isNone_iff_eq_none.mp (fa_first_yes (fun k => (yRc c false k).isNone) c.1 hl)
  rcases yBo_cases (yTf c false (yTv c false) (yRp c false (yLn c false)).1 (yRp c false (yLn c false)).2) c.1 with ⟨-, e2⟩ | ⟨w, v, e1, -⟩
  · have full : (yRp c false (yLn c false)).1 = 2 ^ c.1 - 1 := by
      apply Nat.eq_of_testBit_eq
      intro j
      rw [Nat.testBit_two_pow_sub_one]
      by_cases hj : j < c.1
      · rw [decide_eq_true hj]
        cases q : (yRp c false (yLn c false)).1.testBit j with
        | true => rfl
        | false =>
          have := e2 j hj
          rw [yTf_y (by unfold yMy; rw [q]; rfl)] at this
          cases this
      · rw [decide_eq_false hj]
        exact ybf (fun z => hj (wbit_lt b1 z))
    have := wones_tot c.1 (by omega)
    rw [← full, b3] at this
    omega
  · have : yRc c false (yLn c false) = some (w, v) := e1
    rw [en] at this
    cases this
theorem yLn_t0 (ok : wCok c) : ∀ k, k ≤ yLn c true → yTv c true (yRp c true k).1 (yRp c true k).2 + k = yTv c true 0 7
  | 0, _ => by show yTv c true 0 7 + (0 : Nat) = _; omega
  | k + 1, hk => by
    have ih := yLn_t0 ok k (by omega)
    obtain ⟨w, v, e1, e2, e3⟩ := yLn_y (show k < yLn c true by omega)
    have ev := e2.2.1
    rw [yTf_y e3] at ev
    have a := yRc_va (tk := true) ok (k := k) (by omega)
    rw [e1] at a
    have a' : v = yTv c true (yRp c true k).1 (yRp c true k).2 := a
    have hv : ((yNw c true (yRp c true k).2 w : Nat) : Int) = 1 := rfl
    rw [yRp_s e1]
    cases ev
    show yTv c true ((yRp c true k).1 ||| 2 ^ w) w + ((k + 1 : Nat) : Int) = _
    omega
theorem yLn_t (ok : wCok c) : yTv c true 0 7 = (yLn c true : Int) := by
  have n7 := ok.1
  have p7 := w2n n7
  have ln := yLn_le c true
  have a := yLn_t0 ok (yLn c true) (Nat.le_refl _)
  obtain ⟨b1, b2, b3⟩ := yRp_ok (tk := true) ok (yLn c true) (Nat.le_refl _)
  have z : yTv c true (yRp c true (yLn c true)).1 (yRp c true (yLn c true)).2 = 0 := by
    by_cases hl : yLn c true < c.1
    · have en : yRc c true (yLn c true) = none := Option.isNone_iff_eq_none.mp (fa_first_yes (fun k => (yRc c true k).isNone) c.1 hl)
      rw [← yRc_va ok (Nat.le_refl _), en]
      rfl
    · unfold yTv
      rw [b3, show c.1 - yLn c true = 0 by omega]
      rfl
  omega
end TALK
