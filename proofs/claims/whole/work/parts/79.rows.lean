/-! ROWS: joined sayings as least closed sets -/
section ROWS
variable {h : zK} {oo k n f : Nat} {c : wC} {pl : Nat → Nat} {ne : Nat → Nat} {g : Nat}
def ySym (ne : Nat → Nat) (n : Nat) : Prop := ∀ s t, s < n → t < n → (ne s).testBit t = (ne t).testBit s
theorem yNe_sym (re : Nat) (pl : Nat → Nat) (n : Nat) : ySym (yNe re pl n) n := fun s t hs ht => by
  rw [yNe_t, yNe_t, decide_eq_true hs, decide_eq_true ht, yNr_c]
theorem yOne_0 {a b s : Nat} (ha : a < 128) (h1 : a.testBit s = true) (h2 : b.testBit s = true) : ¬ wones (a &&& b) < 1 := fun z => by
  have := wones_0 (a &&& b) (Nat.lt_of_le_of_lt Nat.and_le_left ha) (by omega)
  have q : (a &&& b).testBit s = true := by rw [Nat.testBit_and, h1, h2]; rfl
  rw [this, Nat.zero_testBit] at q
  cases q
/-- closed: all that is near one of it is of it -/
theorem yCl1_iff (hn : n ≤ 7) (hl : ∀ t, t < n → ne t < 2 ^ n) (sy : ySym ne n) {H : Nat} (hH : H < 2 ^ n) : yClosed (fun _ => 1) ne n H ↔ ∀ s t, H.testBit s = true → t < n → (ne s).testBit t = true → H.testBit t = true := by
  have p7 := w2n hn
  constructor
  · intro cl s t hs ht hst
    cases e : H.testBit t with
    | true => rfl
    | false =>
      have sn := wbit_lt hH hs
      exact absurd (cl t ht e) (yOne_0 (by have := hl t ht; omega) (by rw [← sy s t sn ht]; exact hst) hs)
  · intro q t ht hg
    apply Nat.lt_of_not_le
    intro z
    have z' : 1 ≤ wones (ne t &&& H) := z
    have nz : ne t &&& H ≠ 0 := fun e => by
      rw [e] at z'
      have : wones 0 = 0 := by decide
      omega
    obtain ⟨s, hs⟩ := Nat.exists_testBit_of_ne_zero nz
    rw [Nat.testBit_and, Bool.and_eq_true] at hs
    have sn := wbit_lt (hl t ht) hs.1
    have := q s t hs.2 ht (by rw [sy s t sn ht]; exact hs.1)
    rw [hg] at this
    cases this
def yRwS (ne : Nat → Nat) (s g : Nat) : Nat := if g.testBit s then g ||| ne s else g
def yRw (ne : Nat → Nat) (g i : Nat) : Nat := wfold (yRwS ne) g i
theorem yRw_s (i : Nat) : yRw ne g (i + 1) = yRwS ne i (yRw ne g i) := rfl
theorem yRw_step {i : Nat} : ∀ j, ySub (yRw ne g i) (yRw ne g (i + j))
  | 0 => ySub_r
  | j + 1 => ySub_t (yRw_step j) (by
      rw [show i + (j + 1) = (i + j) + 1 by omega, yRw_s]
      unfold yRwS
      split
      · exact ySub_l
      · exact ySub_r)
theorem yRw_sub (i : Nat) : ySub g (yRw ne g i) := by
  have := yRw_step (ne := ne) (g := g) (i := 0) i
  rw [Nat.zero_add] at this
  exact this
theorem yRw_lt (hl : ∀ t, t < n → ne t < 2 ^ n) (hg : g < 2 ^ n) : ∀ i, i ≤ n → yRw ne g i < 2 ^ n
  | 0, _ => hg
  | i + 1, hi => by
    rw [yRw_s]
    unfold yRwS
    split
    · exact Nat.or_lt_two_pow (yRw_lt hl hg i (by omega)) (hl i (by omega))
    · exact yRw_lt hl hg i (by omega)
theorem yRw_fix (hg : g < 2 ^ n) (e : yRw ne g n = g) : ∀ s t, g.testBit s = true → (ne s).testBit t = true → g.testBit t = true := by
  intro s t hs hst
  have sn := wbit_lt hg hs
  have q := yRw_step (ne := ne) (g := g) (i := s) (n - s)
  rw [show s + (n - s) = n by omega, e] at q
  have e1 : yRw ne g s = g := ySub_as q (yRw_sub s)
  have q2 := yRw_step (ne := ne) (g := g) (i := s + 1) (n - (s + 1))
  rw [show s + 1 + (n - (s + 1)) = n by omega, e, yRw_s, e1] at q2
  unfold yRwS at q2
  rw [if_pos hs] at q2
  exact q2 t (ySub_rr t hst)
theorem yRw_min (hl : ∀ t, t < n → ne t < 2 ^ n) {H : Nat} (hH : ∀ s t, H.testBit s = true → t < n → (ne s).testBit t = true → H.testBit t = true) (hs : ySub g H) : ∀ i, i ≤ n → ySub (yRw ne g i) H
  | 0, _ => hs
  | i + 1, hi => by
    have ih := yRw_min hl hH hs i (by omega)
    rw [yRw_s]
    unfold yRwS
    split
    · rename_i hb
      exact ySub_or ih (fun t ht => hH i t (ih i hb) (wbit_lt (hl i (by omega)) ht) ht)
    · exact ih
theorem yRw_cl (hn : n ≤ 7) (hl : ∀ t, t < n → ne t < 2 ^ n) (sy : ySym ne n) (hf : f < n) : yIter (fun g => yRw ne g n) n (2 ^ f) = yCl (fun _ => 1) ne n f := by
  have lt := yIter_lt (F := fun g => yRw ne g n) (n := n) (fun g hg => yRw_lt hl hg n (Nat.le_refl _)) (wp_lt hf) n
  have fx := yIter_end (F := fun g => yRw ne g n) hn (fun g hg => yRw_lt hl hg n (Nat.le_refl _)) (fun g => yRw_sub n) (wp_lt hf) (by rw [wones_p f (by omega)]; exact Nat.le_refl _)
  refine yCl_uniq hn hf ((yCl1_iff hn hl sy lt).mpr fun s t hs _ => yRw_fix lt fx s t hs) (yIter_sub (F := fun g => yRw ne g n) (fun g => yRw_sub n) n f (yp_self f)) (fun H hH hf' => ?_)
  have key : ∀ H', H' < 2 ^ n → yClosed (fun _ => 1) ne n H' → H'.testBit f = true → ∀ k, ySub (yIter (fun g => yRw ne g n) k (2 ^ f)) H' := by
    intro H' l c1 h1 k
    induction k with
    | zero => exact ySub_p h1
    | succ k ih => exact yRw_min hl ((yCl1_iff hn hl sy l).mp c1) ih n (Nat.le_refl _)
  -- cut H down to n bits
  have hc : yClosed (fun _ => 1) ne n (H % 2 ^ n) := fun t ht hb => by
    rw [Nat.testBit_mod_two_pow, decide_eq_true ht, Bool.true_and] at hb
    have a := hH t ht hb
    have b := wones_mono (a := ne t &&& (H % 2 ^ n)) (b := ne t &&& H) (ySub_and (fun x hx => by
      rw [Nat.testBit_mod_two_pow, Bool.and_eq_true] at hx; exact hx.2))
    omega
  have := key (H % 2 ^ n) (Nat.mod_lt _ (Nat.two_pow_pos n)) hc (by rw [Nat.testBit_mod_two_pow, decide_eq_true hf, hf']; rfl) n
  exact ySub_t this (fun x hx => by
    rw [Nat.testBit_mod_two_pow, Bool.and_eq_true] at hx; exact hx.2)
theorem yNe_ltn (re : Nat) (pl : Nat → Nat) (n t : Nat) : yNe re pl n t < 2 ^ n := wBits_lt _ n
def yRo (c : wC) (pl : Nat → Nat) (f : Nat) : Nat := yCl (fun _ => 1) (yNe c.2.2.1 pl c.1) c.1 f
theorem qTr_rowOf_ev (ok : wCok c) (T : yTs h oo c pl) (hf : f < c.1) : qTr_rowOf oo (nI f) h = some (nI (yRo c pl f)) := by
  have n7 := ok.1
  have p7 := w2n n7
  have hl : ∀ t, t < c.1 → yNe c.2.2.1 pl c.1 t < 2 ^ c.1 := fun t _ => yNe_ltn _ _ _ t
  have ps : ∀ g x3, g < 2 ^ c.1 → zloop (qTr_rowOf_b17 oo x3 h) zfu (nI g, 0) = some (nI (yRw (yNe c.2.2.1 pl c.1) g c.1)) := by
    intro g x3 hg
    refine zloop_for (fun i => (nI (yRw (yNe c.2.2.1 pl c.1) g i), nI i)) c.1 (fun i hi => ?_) ?_ (zfu_lt (by omega))
    · unfold qTr_rowOf_b17
      dsimp only
      have gl := yRw_lt hl hg i (by omega)
      rw [T.1, if_neg (nI_ge hi (by omega)), wcin _ (by omega) i (by omega), yRw_s, nI_1]
      unfold yRwS
      by_cases hb : (yRw (yNe c.2.2.1 pl c.1) g i).testBit i = true
      · rw [if_pos hb, if_neg (show ¬ (1 : Int32) = 0 by decide), zix_nI (by omega) (by omega), Option.bind_some, Option.bind_some, (T.2.2.2 i hi).2, fa_or, if_pos hb]
      · rw [if_neg hb, if_pos rfl, Option.bind_some, if_neg hb]
    · unfold qTr_rowOf_b17
      dsimp only
      rw [T.1, if_pos (nI_le (Nat.le_refl _) (by omega))]
  have lt := yIter_lt (F := fun g => yRw (yNe c.2.2.1 pl c.1) g c.1) (n := c.1) (fun g hg => yRw_lt hl hg c.1 (Nat.le_refl _)) (wp_lt hf)
  have e : zloop (qTr_rowOf_b6 oo h) zfu (nI (2 ^ f), 0) = some (nI (yRo c pl f)) := by
    unfold yRo
    rw [← yRw_cl n7 hl (yNe_sym _ _ _) hf]
    refine zloop_for (fun i => (nI (yIter (fun g => yRw (yNe c.2.2.1 pl c.1) g c.1) i (2 ^ f)), nI i)) c.1 (fun i hi => ?_) ?_ (zfu_lt (by omega))
    · unfold qTr_rowOf_b6
      dsimp only
      rw [T.1, if_neg (nI_ge hi (by omega)), ps _ _ (lt i), Option.bind_some, nI_1]
      rfl
    · unfold qTr_rowOf_b6
      dsimp only
      rw [T.1, if_pos (nI_le (Nat.le_refl _) (by omega))]
  unfold qTr_rowOf
  rw [wshl f (by omega), e]
  rfl
def yRmS (c : wC) (pl : Nat → Nat) (i g : Nat) : Nat := if i / 7 < c.1 ∧ i % 7 < c.1 ∧ g.testBit (i / 7) = true ∧ yAw (pl (i / 7)) (pl (i % 7)) ≤ c.2.2.1 then g ||| 2 ^ (i % 7) else g
theorem yRmS_y {i : Nat} (h1 : i / 7 < c.1) (h2 : i % 7 < c.1) (h3 : g.testBit (i / 7) = true) (h4 : yAw (pl (i / 7)) (pl (i % 7)) ≤ c.2.2.1) : yRmS c pl i g = g ||| 2 ^ (i % 7) := if_pos ⟨h1, h2, h3, h4⟩
theorem yRmS_n {i : Nat} (h : i / 7 < c.1 → i % 7 < c.1 → g.testBit (i / 7) = true → ¬ yAw (pl (i / 7)) (pl (i % 7)) ≤ c.2.2.1) : yRmS c pl i g = g := if_neg fun z => h z.1 z.2.1 z.2.2.1 z.2.2.2
def yRm (c : wC) (pl : Nat → Nat) (g i : Nat) : Nat := wfold (yRmS c pl) g i
theorem yRm_s (i : Nat) : yRm c pl g (i + 1) = yRmS c pl i (yRm c pl g i) := rfl
theorem yRm_step {i : Nat} : ∀ j, ySub (yRm c pl g i) (yRm c pl g (i + j))
  | 0 => ySub_r
  | j + 1 => ySub_t (yRm_step j) (by
      rw [show i + (j + 1) = (i + j) + 1 by omega, yRm_s]
      unfold yRmS
      split
      · exact ySub_l
      · exact ySub_r)
theorem yRm_sub (i : Nat) : ySub g (yRm c pl g i) := by
  have := yRm_step (c := c) (pl := pl) (g := g) (i := 0) i
  rw [Nat.zero_add] at this
  exact this
theorem yRm_lt (hg : g < 2 ^ c.1) : ∀ i, yRm c pl g i < 2 ^ c.1
  | 0 => hg
  | i + 1 => by
    rw [yRm_s]
    unfold yRmS
    split
    · rename_i hq
      exact Nat.or_lt_two_pow (yRm_lt hg i) (wp_lt hq.2.1)
    · exact yRm_lt hg i
theorem yRm_fix (ok : wCok c) (hg : g < 2 ^ c.1) (e : yRm c pl g 49 = g) : ∀ s t, g.testBit s = true → t < c.1 → (yNe c.2.2.1 pl c.1 s).testBit t = true → g.testBit t = true := by
  intro s t hs ht hst
  have n7 := ok.1
  have sn := wbit_lt hg hs
  have q := yRm_step (c := c) (pl := pl) (g := g) (i := 7 * s + t) (49 - (7 * s + t))
  rw [show 7 * s + t + (49 - (7 * s + t)) = 49 by omega, e] at q
  have e1 : yRm c pl g (7 * s + t) = g := ySub_as q (yRm_sub _)
  have q2 := yRm_step (c := c) (pl := pl) (g := g) (i := 7 * s + t + 1) (49 - (7 * s + t + 1))
  rw [show 7 * s + t + 1 + (49 - (7 * s + t + 1)) = 49 by omega, e, yRm_s, e1] at q2
  unfold yRmS at q2
  rw [show (7 * s + t) / 7 = s by omega, show (7 * s + t) % 7 = t by omega] at q2
  rw [yNe_t, Bool.and_eq_true] at hst
  have nr := hst.2
  unfold yNr at nr
  rw [Bool.and_eq_true] at nr
  have aw := of_decide_eq_true nr.2
  rw [yAw_c] at aw
  rw [if_pos ⟨sn, ht, hs, aw⟩] at q2
  exact q2 t (ySub_rr t (yp_self t))
theorem yRm_min (ok : wCok c) {H : Nat} (hH : ∀ s t, H.testBit s = true → t < c.1 → (yNe c.2.2.1 pl c.1 s).testBit t = true → H.testBit t = true) (hs : ySub g H) : ∀ i, ySub (yRm c pl g i) H
  | 0 => hs
  | i + 1 => by
    have ih := yRm_min ok hH hs i
    rw [yRm_s]
    unfold yRmS
    split
    · rename_i hq
      refine ySub_or ih (ySub_p ?_)
      by_cases e : i % 7 = i / 7
      · rw [e]; exact ih _ hq.2.2.1
      · refine hH (i / 7) (i % 7) (ih _ hq.2.2.1) hq.2.1 ?_
        rw [yNe_t, decide_eq_true hq.2.1]
        unfold yNr
        rw [decide_eq_true e, yAw_c, decide_eq_true hq.2.2.2]
        rfl
    · exact ih
theorem yRm_cl (ok : wCok c) (hf : f < c.1) : yIter (fun g => yRm c pl g 49) 7 (2 ^ f) = yRo c pl f := by
  have n7 := ok.1
  have hl : ∀ t, t < c.1 → yNe c.2.2.1 pl c.1 t < 2 ^ c.1 := fun t _ => yNe_ltn _ _ _ t
  have sy := yNe_sym c.2.2.1 pl c.1
  have lt := yIter_lt (F := fun g => yRm c pl g 49) (n := c.1) (fun g hg => yRm_lt hg 49) (wp_lt hf)
  have fx := yIter_end (F := fun g => yRm c pl g 49) n7 (fun g hg => yRm_lt hg 49) (fun g => yRm_sub 49) (wp_lt hf) (by rw [wones_p f (by omega)]; exact Nat.le_refl _)
  have e7 := yIter_fx (F := fun g => yRm c pl g 49) fx (7 - c.1)
  rw [show c.1 + (7 - c.1) = 7 by omega] at e7
  rw [e7]
  have mn : ∀ H', H' < 2 ^ c.1 → yClosed (fun _ => 1) (yNe c.2.2.1 pl c.1) c.1 H' → H'.testBit f = true → ∀ k, ySub (yIter (fun g => yRm c pl g 49) k (2 ^ f)) H' := by
    intro H' l c1 h1 k
    induction k with
    | zero => exact ySub_p h1
    | succ k ih => exact yRm_min ok ((yCl1_iff n7 hl sy l).mp c1) ih 49
  unfold yRo
  exact ySub_as (mn _ (yCl_lt hf) (yCl_closed n7 hf) yCl_has c.1) (yCl_min ((yCl1_iff n7 hl sy (lt c.1)).mpr (yRm_fix ok (lt c.1) fx)) (yIter_sub (F := fun g => yRm c pl g 49) (fun g => yRm_sub 49) c.1 f (yp_self f)))
theorem qM_rowOf_ev (ok : wCok c) (M : yM h k c pl) (hf : f < c.1) : qM_rowOf (nI f) h = some (nI (yRo c pl f)) := by
  have n7 := ok.1
  have p7 := w2n n7
  have re9 := ok.2.2.1
  have ps : ∀ g x3, g < 2 ^ c.1 → zloop (qM_rowOf_b15 x3 h) zfu (nI g, 0) = some (nI (yRm c pl g 49)) := by
    intro g x3 hg
    refine zloop_for (fun i => (nI (yRm c pl g i), nI i)) 49 (fun i hi => ?_) ?_ (zfu_lt (by omega))
    · unfold qM_rowOf_b15
      dsimp only
      have gl := yRm_lt (pl := pl) hg i
      have d7 : nI i / 7 = nI (i / 7) := nI_div (b := 7) (by omega) (by omega)
      have m7 : nI i - nI (i / 7) * 7 = nI (i % 7) := by
        have := nI_rem (a := i) (b := 7) (by omega) (by omega)
        rw [show nI i / nI 7 = nI (i / 7) from d7] at this
        exact this
      have dl : i / 7 < 7 := by omega
      have ml : i % 7 < 7 := by omega
      rw [if_neg (show ¬ (49 : Int32) ≤ nI i from nI_ge (b := 49) hi (by decide)), d7, m7, M.1.2.2.1, nI_1, yRm_s]
      by_cases h1 : i / 7 < c.1
      · rw [if_neg (nI_ge h1 (by omega))]
        by_cases h2 : i % 7 < c.1
        · rw [if_neg (nI_ge h2 (by omega)), whas _ (by omega) _ (by omega)]
          by_cases h3 : (yRm c pl g i).testBit (i / 7) = true
          · have p1 := (M.2.2.2 _ h1).2.2
            have p2 := (M.2.2.2 _ h2).2.2
            have aw : zf_away (nI (pl (i / 7))) (nI (pl (i % 7))) = nI (yAw (pl (i / 7)) (pl (i % 7))) := waway _ (by omega) _ (by omega)
            have aw2 : yAw (pl (i / 7)) (pl (i % 7)) < 100 := by unfold yAw; split <;> omega
            rw [if_pos h3, if_neg (show ¬ (1 : Int32) = 0 by decide), zix_nI dl (by omega), Option.bind_some, zix_nI ml (by omega), Option.bind_some, M.2.1.2, (M.2.2.2 _ h1).2.1, (M.2.2.2 _ h2).2.1, aw]
            by_cases h4 : c.2.2.1 < yAw (pl (i / 7)) (pl (i % 7))
            · rw [if_pos (nI_lt h4 (by omega)), Option.bind_some, yRmS_n (fun _ _ _ => by omega)]
              simp only [zlet]
              rw [if_pos trivial, show (0 : Int32) = nI 0 from rfl, fa_or, Nat.or_zero]
            · rw [if_neg (nI_nlt (by omega) (by omega)), Option.bind_some, yRmS_y h1 h2 h3 (by omega)]
              simp only [zlet]
              rw [if_neg (show ¬ (1 : Int32) = 0 by decide), wshl _ (by omega), fa_or]
          · rw [if_neg h3, if_pos rfl, Option.bind_some, yRmS_n (fun _ _ z => absurd z h3)]
            simp only [zlet]
            rw [if_pos trivial, show (0 : Int32) = nI 0 from rfl, fa_or, Nat.or_zero]
        · rw [if_pos (nI_le (by omega) (by omega)), Option.bind_some, yRmS_n (fun _ z => absurd z h2)]
          simp only [zlet]
          rw [if_pos trivial, show (0 : Int32) = nI 0 from rfl, fa_or, Nat.or_zero]
      · rw [if_pos (nI_le (by omega) (by omega)), Option.bind_some, yRmS_n (fun z => absurd z h1)]
        simp only [zlet]
        rw [if_pos trivial, show (0 : Int32) = nI 0 from rfl, fa_or, Nat.or_zero]
    · unfold qM_rowOf_b15
      dsimp only
      rw [if_pos (show (49 : Int32) ≤ nI 49 from nI_le (a := 49) (Nat.le_refl _) (by decide))]
  have lt := yIter_lt (F := fun g => yRm c pl g 49) (n := c.1) (fun g hg => yRm_lt hg 49) (wp_lt hf)
  have e : zloop (qM_rowOf_b6 h) zfu (nI (2 ^ f), 0) = some (nI (yRo c pl f)) := by
    rw [← yRm_cl ok hf]
    refine zloop_for (fun i => (nI (yIter (fun g => yRm c pl g 49) i (2 ^ f)), nI i)) 7 (fun i hi => ?_) ?_ (zfu_lt (by omega))
    · unfold qM_rowOf_b6
      dsimp only
      rw [if_neg (show ¬ (7 : Int32) ≤ nI i from nI_ge (b := 7) hi (by decide)), ps _ _ (lt i), Option.bind_some, nI_1]
      rfl
    · unfold qM_rowOf_b6
      dsimp only
      rw [if_pos (show (7 : Int32) ≤ nI 7 from nI_le (a := 7) (Nat.le_refl _) (by decide))]
  unfold qM_rowOf
  rw [wshl f (by omega), e]
  rfl
/-! how many rows, how many the largest has -/
theorem yRo_sym (ok : wCok c) {s t : Nat} (hs : s < c.1) (ht : t < c.1) (h1 : (yRo c pl s).testBit t = true) : (yRo c pl t).testBit s = true := by
  have n7 := ok.1
  have hl : ∀ t, t < c.1 → yNe c.2.2.1 pl c.1 t < 2 ^ c.1 := fun t _ => yNe_ltn _ _ _ t
  have sy := yNe_sym c.2.2.1 pl c.1
  cases e : (yRo c pl t).testBit s with
  | true => rfl
  | false =>
    let H := yRo c pl s &&& ((2 ^ c.1 - 1) ^^^ yRo c pl t)
    have Hb : ∀ x, H.testBit x = ((yRo c pl s).testBit x && (decide (x < c.1) ^^ (yRo c pl t).testBit x)) := fun x => by
      show (yRo c pl s &&& ((2 ^ c.1 - 1) ^^^ yRo c pl t)).testBit x = _
      rw [Nat.testBit_and, Nat.testBit_xor, Nat.testBit_two_pow_sub_one]
    have l1 : yRo c pl s < 2 ^ c.1 := yCl_lt hs
    have l2 : yRo c pl t < 2 ^ c.1 := yCl_lt ht
    have HL : H < 2 ^ c.1 := Nat.lt_of_le_of_lt Nat.and_le_left l1
    have c1 := (yCl1_iff n7 hl sy l1).mp (yCl_closed n7 hs)
    have c2 := (yCl1_iff n7 hl sy l2).mp (yCl_closed n7 ht)
    have cl : yClosed (fun _ => 1) (yNe c.2.2.1 pl c.1) c.1 H := (yCl1_iff n7 hl sy HL).mpr fun u v hu hv huv => by
      have hu2 := hu
      rw [Hb, Bool.and_eq_true] at hu2
      have un := wbit_lt l1 hu2.1
      rw [decide_eq_true un] at hu2
      have ut : (yRo c pl t).testBit u = false := by
        have := hu2.2
        cases q : (yRo c pl t).testBit u with
        | false => rfl
        | true => rw [q] at this; cases this
      rw [Hb, c1 u v hu2.1 hv huv, decide_eq_true hv]
      cases q : (yRo c pl t).testBit v with
      | false => rfl
      | true =>
        have := c2 v u q un (by rw [sy v u hv un]; exact huv)
        rw [ut] at this
        cases this
    have := yCl_min cl (f := s) (by rw [Hb, show (yRo c pl s).testBit s = true from yCl_has, decide_eq_true hs, e]; rfl) t h1
    rw [Hb, show (yRo c pl t).testBit t = true from yCl_has, decide_eq_true ht, h1] at this
    cases this
theorem yRo_tr (ok : wCok c) {s t : Nat} (ht : t < c.1) (hs : s < c.1) (h1 : (yRo c pl s).testBit t = true) : ySub (yRo c pl t) (yRo c pl s) := yCl_min (yCl_closed ok.1 hs) h1
def yFst (c : wC) (pl : Nat → Nat) (s : Nat) : Bool := decide (yRo c pl s &&& (2 ^ s - 1) = 0)
def yRwN (c : wC) (pl : Nat → Nat) (i : Nat) : Nat := wSum (fun s => if yFst c pl s then 1 else 0) i
theorem yRwN_le (c : wC) (pl : Nat → Nat) (i : Nat) : yRwN c pl i ≤ i := by
  have := wSum_le (f := fun s => if yFst c pl s then 1 else 0) (b := 1) i (fun s _ => by split <;> omega)
  unfold yRwN
  omega
def ySeen (c : wC) (pl : Nat → Nat) (i : Nat) : Nat := wfold (fun s g => if g.testBit s then g else g ||| yRo c pl s) 0 i
theorem ySeen_s (i : Nat) : ySeen c pl (i + 1) = if (ySeen c pl i).testBit i then ySeen c pl i else ySeen c pl i ||| yRo c pl i := rfl
theorem ySeen_t (ok : wCok c) : ∀ i, i ≤ c.1 → ∀ t, t < c.1 → ((ySeen c pl i).testBit t = true ↔ ∃ s, s < i ∧ (yRo c pl s).testBit t = true)
  | 0, _, t, _ => by
    constructor
    · intro z
      have : (0 : Nat).testBit t = true := z
      rw [Nat.zero_testBit] at this
      cases this
    · rintro ⟨s, hs, -⟩; omega
  | i + 1, hi, t, ht => by
    have ih := ySeen_t ok i (by omega)
    rw [ySeen_s]
    by_cases hb : (ySeen c pl i).testBit i = true
    · rw [if_pos hb, ih t ht]
      constructor
      · rintro ⟨s, h1, h2⟩; exact ⟨s, by omega, h2⟩
      · rintro ⟨s, h1, h2⟩
        by_cases e : s = i
        · subst e
          obtain ⟨u, u1, u2⟩ := (ih s (by omega)).mp hb
          exact ⟨u, u1, yRo_tr ok (by omega) (by omega) u2 t h2⟩
        · exact ⟨s, by omega, h2⟩
    · rw [if_neg hb, Nat.testBit_or, Bool.or_eq_true, ih t ht]
      constructor
      · rintro (⟨s, h1, h2⟩ | h2)
        · exact ⟨s, by omega, h2⟩
        · exact ⟨i, by omega, h2⟩
      · rintro ⟨s, h1, h2⟩
        by_cases e : s = i
        · subst e; exact Or.inr h2
        · exact Or.inl ⟨s, by omega, h2⟩
theorem ySeen_f (ok : wCok c) {i : Nat} (hi : i < c.1) : (ySeen c pl i).testBit i = !yFst c pl i := by
  have key : (ySeen c pl i).testBit i = true ↔ ¬ yRo c pl i &&& (2 ^ i - 1) = 0 := by
    rw [ySeen_t ok i (by omega) i hi]
    constructor
    · rintro ⟨s, h1, h2⟩ z
      have q := yRo_sym ok (show s < c.1 by omega) hi h2
      have : (yRo c pl i &&& (2 ^ i - 1)).testBit s = true := by rw [Nat.testBit_and, q, Nat.testBit_two_pow_sub_one, decide_eq_true h1]; rfl
      rw [z, Nat.zero_testBit] at this
      cases this
    · intro z
      obtain ⟨s, hs⟩ := Nat.exists_testBit_of_ne_zero z
      rw [Nat.testBit_and, Bool.and_eq_true, Nat.testBit_two_pow_sub_one] at hs
      have h1 := of_decide_eq_true hs.2
      exact ⟨s, h1, yRo_sym ok hi (by omega) hs.1⟩
  unfold yFst
  by_cases z : yRo c pl i &&& (2 ^ i - 1) = 0
  · rw [decide_eq_true z]
    exact ybf (fun q => key.mp q z)
  · rw [decide_eq_false z]
    exact key.mpr z
theorem ySeen_lt (ok : wCok c) : ∀ i, i ≤ c.1 → ySeen c pl i < 128
  | 0, _ => (by decide : 0 < 128)
  | i + 1, hi => by
    rw [ySeen_s]
    split
    · exact ySeen_lt ok i (by omega)
    · exact wor_lt (ySeen_lt ok i (by omega)) (yCl_128 ok.1 (by omega))
theorem qTr_rows_ev (ok : wCok c) (T : yTs h oo c pl) : qTr_rows oo h = some (nI (yRwN c pl c.1)) := by
  have n7 := ok.1
  have e : zloop (qTr_rows_b6 oo h) zfu (0, 0, 0) = some (nI (yRwN c pl c.1)) := by
    refine zloop_for (fun i => (nI (yRwN c pl i), nI (ySeen c pl i), nI i)) c.1 (fun i hi => ?_) ?_ (zfu_lt (by omega))
    · unfold qTr_rows_b6
      dsimp only
      have f1 := ySeen_f (pl := pl) ok hi
      have s1 : yRwN c pl (i + 1) = yRwN c pl i + (if yFst c pl i then 1 else 0) := rfl
      rw [T.1, if_neg (nI_ge hi (by omega)), wcin _ (ySeen_lt ok i (by omega)) i (by omega), ySeen_s, s1, f1, nI_1]
      cases q : yFst c pl i with
      | true =>
        rw [show (!true) = false from rfl, if_neg (show ¬ false = true by decide), if_neg (show ¬ ¬ (0 : Int32) = 0 from fun z => z rfl), qTr_rowOf_ev ok T hi, Option.bind_some, Option.bind_some, nI_1, fa_or, if_pos rfl, if_neg (show ¬ false = true by decide)]
      | false =>
        rw [show (!false) = true from rfl, if_pos rfl, if_pos (show ¬ (1 : Int32) = 0 by decide), Option.bind_some, if_neg (show ¬ false = true by decide), if_pos rfl, nI_1]
        rfl
    · unfold qTr_rows_b6
      dsimp only
      rw [T.1, if_pos (nI_le (Nat.le_refl _) (by omega))]
  unfold qTr_rows
  rw [e]; rfl
def yRwM (c : wC) (pl : Nat → Nat) (i : Nat) : Nat := yMx (fun s => wones (yRo c pl s)) i
theorem yRwM_le (c : wC) (pl : Nat → Nat) (i : Nat) : yRwM c pl i ≤ 7 := yMx_le i fun s _ => wones_le _
theorem qTr_largestRow_ev (ok : wCok c) (T : yTs h oo c pl) : qTr_largestRow oo h = some (nI (yRwM c pl c.1)) := by
  have n7 := ok.1
  have e : zloop (qTr_largestRow_b4 oo h) zfu (0, 0) = some (nI (yRwM c pl c.1)) := by
    refine zloop_for (fun i => (nI (yRwM c pl i), nI i)) c.1 (fun i hi => ?_) ?_ (zfu_lt (by omega))
    · unfold qTr_largestRow_b4
      dsimp only
      have a := yRwM_le c pl i
      have b := wones_le (yRo c pl i)
      rw [T.1, if_neg (nI_ge hi (by omega)), qTr_rowOf_ev ok T hi, Option.bind_some, wbc (yRo c pl i) (yCl_128 n7 hi), wmaxn (by omega) (by omega), nI_1]
      rfl
    · unfold qTr_largestRow_b4
      dsimp only
      rw [T.1, if_pos (nI_le (Nat.le_refl _) (by omega))]
  unfold qTr_largestRow
  rw [e]; rfl
theorem qM_rows_ev (ok : wCok c) (M : yM h k c pl) (x1 : Int32) : qM_rows x1 h = some (if x1 = 0 then nI (yRwN c pl c.1) else nI (yRwM c pl c.1)) := by
  have n7 := ok.1
  have p7 := w2n n7
  have e : zloop (qM_rows_b7 x1 h) zfu (0, 0, 0) = some (nI (yRwN c pl c.1), nI (yRwM c pl c.1)) := by
    refine zloop_for (fun i => (nI (yRwN c pl i), nI (yRwM c pl i), nI i)) c.1 (fun i hi => ?_) ?_ (zfu_lt (by omega))
    · unfold qM_rows_b7
      dsimp only
      have a := yRwM_le c pl i
      have b := wones_le (yRo c pl i)
      have l := yCl_128 (nd := fun _ => 1) (ne := yNe c.2.2.1 pl c.1) n7 hi
      have hand : yRo c pl i &&& (2 ^ i - 1) < 2 ^ 31 := Nat.lt_of_le_of_lt Nat.and_le_left (show yRo c pl i < 2 ^ 31 by have : yRo c pl i < 128 := l; omega)
      have s1 : yRwN c pl (i + 1) = yRwN c pl i + (if yFst c pl i then 1 else 0) := rfl
      rw [M.1.2.2.1, if_neg (nI_ge hi (by omega)), qM_rowOf_ev ok M hi, Option.bind_some, wall1 i (by omega), fa_and, nI_1]
      simp only [zlet]
      rw [qM_ones_ev (b := yRo c pl i) l, Option.bind_some, wgren (by omega) (by omega), s1]
      unfold yFst
      by_cases z : yRo c pl i &&& (2 ^ i - 1) = 0
      · rw [if_neg (show ¬ ¬ nI (yRo c pl i &&& (2 ^ i - 1)) = 0 from fun q => q (by rw [z]; rfl)), decide_eq_true z, if_pos rfl, nI_1]
        rfl
      · rw [if_pos (show ¬ nI (yRo c pl i &&& (2 ^ i - 1)) = 0 from fun q => z ((nI_z hand).mp q)), decide_eq_false z, if_neg (show ¬ false = true by decide), show (0 : Int32) = nI 0 from rfl, nI_add]
        rfl
    · unfold qM_rows_b7
      dsimp only
      rw [M.1.2.2.1, if_pos (nI_le (Nat.le_refl _) (by omega))]
  unfold qM_rows
  rw [e, Option.bind_some]
  split <;> rfl
end ROWS
