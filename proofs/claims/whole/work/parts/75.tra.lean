/-! TRAINS: the class's methods -/
theorem wmaxn {a b : Nat} (ha : a < 2 ^ 31) (hb : b < 2 ^ 31) : zf_max (nI a) (nI b) = nI (if a < b then b else a) := by
  unfold zf_max
  by_cases h : a < b
  · rw [if_pos (nI_lt h hb), if_pos h]
  · rw [if_neg (nI_nlt (by omega) ha), if_neg h]
theorem wgren {a b : Nat} (ha : a < 2 ^ 31) (hb : b < 2 ^ 31) : zf_greater (nI a) (nI b) = nI (if a < b then b else a) := by
  unfold zf_greater
  by_cases h : b < a
  · rw [if_pos (nI_lt h ha), if_neg (by omega)]
  · rw [if_neg (nI_nlt (by omega) hb)]
    by_cases h2 : a < b
    · rw [if_pos h2]
    · rw [if_neg h2, show a = b by omega]
/-- the greatest of the first i -/
def yMx (F : Nat → Nat) (i : Nat) : Nat := wfold (fun s a => if a < F s then F s else a) 0 i
theorem yMx_s (F : Nat → Nat) (i : Nat) : yMx F (i + 1) = if yMx F i < F i then F i else yMx F i := rfl
theorem yMx_st {F : Nat → Nat} {i : Nat} : ∀ j, yMx F i ≤ yMx F (i + j)
  | 0 => Nat.le_refl _
  | j + 1 => by
    have := yMx_st (F := F) (i := i) j
    rw [show i + (j + 1) = (i + j) + 1 by omega, yMx_s]
    split <;> omega
theorem yMx_ge {F : Nat → Nat} {i s : Nat} (h : s < i) : F s ≤ yMx F i := by
  have a := yMx_st (F := F) (i := s + 1) (i - (s + 1))
  rw [show s + 1 + (i - (s + 1)) = i by omega, yMx_s] at a
  split at a <;> omega
theorem yMx_le {F : Nat → Nat} {b : Nat} : ∀ i, (∀ s, s < i → F s ≤ b) → yMx F i ≤ b
  | 0, _ => Nat.zero_le _
  | i + 1, h => by
    have a := yMx_le i (fun s hs => h s (by omega))
    have := h i (by omega)
    rw [yMx_s]
    split <;> omega
theorem yMx_cong {F G : Nat → Nat} : ∀ i, (∀ s, s < i → F s = G s) → yMx F i = yMx G i
  | 0, _ => rfl
  | i + 1, h => by rw [yMx_s, yMx_s, yMx_cong i (fun s hs => h s (by omega)), h i (by omega)]
def yGr (nd ne : Nat → Nat) (n : Nat) : Nat := yMx (fun s => wones (yCl nd ne n s)) n
theorem yGr_le (nd ne : Nat → Nat) {n : Nat} (hn : n ≤ 7) : yGr nd ne n ≤ n := yMx_le n fun s hs => wones_n n (by omega) _ (yCl_128 hn hs) (yCl_lt hs)
section TRA
variable {h : zK} {oo n f : Nat} {nd ne : Nat → Nat}
def yT (h : zK) (oo n : Nat) (nd ne : Nat → Nat) : Prop := n ≤ 7 ∧ gI h oo 0 = nI n ∧ ∀ t, t < n → gI h (oo + 1) t = nI (nd t) ∧ gI h (oo + 2) t = nI (ne t) ∧ nd t ≤ 7 ∧ ne t < 128
theorem qTr_from_b28_ev (T : yT h oo n nd ne) {g : Nat} (hg : g < 2 ^ n) (x3 x4 : Int32) : zloop (qTr_from_b28 oo x3 x4 h) zfu (nI g, 0) = some (nI (yPs nd ne g n)) := by
  obtain ⟨n7, t0, tt⟩ := T
  have p7 := w2n n7
  refine zloop_for (fun i => (nI (yPs nd ne g i), nI i)) n (fun i hi => ?_) ?_ (zfu_lt (by omega))
  · unfold qTr_from_b28
    dsimp only
    obtain ⟨a1, a2, a3, a4⟩ := tt i hi
    have hl := yPs_lt (nd := nd) (ne := ne) hg i (by omega)
    have ho := wones_le (ne i &&& yPs nd ne g i)
    have hand : ne i &&& yPs nd ne g i < 128 := Nat.lt_of_le_of_lt Nat.and_le_left a4
    rw [t0, if_neg (nI_ge hi (by omega)), wcin _ (by omega) i (by omega), yPs_s]
    unfold yPsS
    by_cases ht : (yPs nd ne g i).testBit i = true
    · rw [if_pos ht, if_pos (show ¬ (1 : Int32) = 0 by decide), Option.bind_some, nI_1, if_pos ht]
    · rw [if_neg ht, if_neg (show ¬ ¬ (0 : Int32) = 0 from fun z => z rfl), zix_nI (by omega) (by omega), Option.bind_some, a1, a2, fa_and, wbc _ hand, if_neg ht]
      by_cases hc : wones (ne i &&& yPs nd ne g i) < nd i
      · rw [if_pos (nI_lt hc (by omega)), Option.bind_some, nI_1, if_pos hc]
      · rw [if_neg (nI_nlt (by omega) (by omega)), wshl i (by omega), fa_or, Option.bind_some, nI_1, if_neg hc]
  · unfold qTr_from_b28
    dsimp only
    rw [t0, if_pos (nI_le (Nat.le_refl _) (by omega))]
def yPv (nd ne : Nat → Nat) (n f : Nat) : Nat → Nat
  | 0 => 0
  | k + 1 => yIter (fun g => yPs nd ne g n) k (2 ^ f)
theorem qTr_from_ev (T : yT h oo n nd ne) (hf : f < n) : qTr_from oo (nI f) h = some (nI (yCl nd ne n f)) := by
  have n7 := T.1
  have p7 := w2n n7
  have hl : ∀ k, yIter (fun g => yPs nd ne g n) k (2 ^ f) < 2 ^ n := yIter_lt (F := fun g => yPs nd ne g n) (fun g hg => yPs_lt hg n (Nat.le_refl _)) (wp_lt hf)
  have hv : ∀ k, yPv nd ne n f k < 2 ^ 31 := fun k => by
    cases k with
    | zero => exact (by decide : 0 < 2 ^ 31)
    | succ k => have := hl k; show yIter _ k (2 ^ f) < _; omega
  have e : ∃ t, zloop (qTr_from_b9 oo h) zfu (nI (2 ^ f), 0, 0) = some t ∧ t = nI (yCl nd ne n f) := by
    refine zloop_me (Q := fun q x => ∃ k, q + k = n ∧ x = (nI (yIter (fun g => yPs nd ne g n) k (2 ^ f)), nI (yPv nd ne n f k), nI k)) ?_ zfu n _ ⟨0, by omega, rfl⟩ (zfu_lt (by omega))
    rintro q x ⟨k, hk, rfl⟩
    unfold qTr_from_b9
    dsimp only
    rw [T.2.1]
    by_cases h1 : k < n
    · rw [if_neg (nI_ge h1 (by omega))]
      by_cases h2 : yIter (fun g => yPs nd ne g n) k (2 ^ f) = yPv nd ne n f k
      · rw [if_pos (by rw [h2])]
        refine Or.inl ⟨_, rfl, ?_⟩
        cases k with
        | zero =>
          have : 2 ^ f = 0 := h2
          have := w2p f
          omega
        | succ k =>
          have fx : (fun g => yPs nd ne g n) (yIter (fun g => yPs nd ne g n) k (2 ^ f)) = yIter (fun g => yPs nd ne g n) k (2 ^ f) := h2
          have q := yIter_fx (F := fun g => yPs nd ne g n) fx (n - k)
          rw [show k + (n - k) = n by omega] at q
          rw [h2]
          show nI (yIter (fun g => yPs nd ne g n) k (2 ^ f)) = nI (yIter (fun g => yPs nd ne g n) n (2 ^ f))
          rw [q]
      · rw [if_neg (fun z => h2 ((nI_eq (by have := hl k; omega) (hv k)).mp z)), qTr_from_b28_ev T (hl k), Option.bind_some, nI_1]
        exact Or.inr ⟨q - 1, _, rfl, by omega, k + 1, by omega, rfl⟩
    · have e : k = n := by omega
      subst e
      rw [if_pos (nI_le (Nat.le_refl _) (by omega))]
      exact Or.inl ⟨_, rfl, rfl⟩
  obtain ⟨t, e, rfl⟩ := e
  unfold qTr_from
  rw [wshl f (by omega), e]
  rfl
theorem qTr_greatest_ev (T : yT h oo n nd ne) {e : Nat} (he : e < 2 ^ 31) : ∃ r, qTr_greatest oo (nI e) h = some (nI r) ∧ r ≤ yGr nd ne n ∧ (yGr nd ne n < e → r = yGr nd ne n) ∧ (e ≤ yGr nd ne n → e ≤ r) := by
  have n7 := T.1
  have gl : ∀ i, i ≤ n → yMx (fun s => wones (yCl nd ne n s)) i ≤ yGr nd ne n := fun i hi => by
    have := yMx_st (F := fun s => wones (yCl nd ne n s)) (i := i) (n - i)
    rw [show i + (n - i) = n by omega] at this
    exact this
  have g7 := yGr_le nd ne n7
  have key : ∃ t, zloop (qTr_greatest_b4 oo (nI e) h) zfu (0, 0) = some t ∧ ∃ r, t = nI r ∧ r ≤ yGr nd ne n ∧ (yGr nd ne n < e → r = yGr nd ne n) ∧ (e ≤ yGr nd ne n → e ≤ r) := by
    refine zloop_me (Q := fun q x => ∃ k, q + k = n ∧ x = (nI (yMx (fun s => wones (yCl nd ne n s)) k), nI k)) ?_ zfu n _ ⟨0, by omega, rfl⟩ (zfu_lt (by omega))
    rintro q x ⟨k, hk, rfl⟩
    unfold qTr_greatest_b4
    dsimp only
    rw [T.2.1]
    have hm := gl k (by omega)
    by_cases h1 : k < n
    · rw [if_neg (nI_ge h1 (by omega))]
      by_cases h2 : e ≤ yMx (fun s => wones (yCl nd ne n s)) k
      · rw [if_pos (nI_le h2 (by omega))]
        exact Or.inl ⟨_, rfl, _, rfl, hm, fun z => by omega, fun _ => h2⟩
      · rw [if_neg (nI_ge (by omega) he), qTr_from_ev T h1, Option.bind_some, wbc _ (yCl_128 n7 h1), wmaxn (by omega) (by have := wones_le (yCl nd ne n k); omega), nI_1]
        exact Or.inr ⟨q - 1, _, rfl, by omega, k + 1, by omega, rfl⟩
    · have e : k = n := by omega
      subst e
      rw [if_pos (nI_le (Nat.le_refl _) (by omega))]
      exact Or.inl ⟨_, rfl, _, rfl, hm, fun _ => rfl, fun z => z⟩
  obtain ⟨t, e1, r, rfl, r1, r2, r3⟩ := key
  refine ⟨r, ?_, r1, r2, r3⟩
  unfold qTr_greatest
  rw [e1]; rfl
/-! which are near: the first m are laid -/
def yAw (a b : Nat) : Nat := if a < b then b - a else a - b
theorem yAw_c (a b : Nat) : yAw a b = yAw b a := by unfold yAw; split <;> split <;> omega
def yNr (re : Nat) (pl : Nat → Nat) (s t : Nat) : Bool := decide (s ≠ t) && decide (yAw (pl s) (pl t) ≤ re)
theorem yNr_c (re : Nat) (pl : Nat → Nat) (s t : Nat) : yNr re pl s t = yNr re pl t s := by
  unfold yNr
  rw [yAw_c]
  by_cases h : s = t
  · subst h; rfl
  · rw [decide_eq_true h, decide_eq_true (show ¬ t = s from fun e => h e.symm)]
def yNe (re : Nat) (pl : Nat → Nat) (m t : Nat) : Nat := wBits (fun s => yNr re pl s t) m
theorem yNe_s (re : Nat) (pl : Nat → Nat) (m t : Nat) : yNe re pl (m + 1) t = yNe re pl m t ||| (if yNr re pl m t then 2 ^ m else 0) := wBits_s _ _
theorem yNe_lt (re : Nat) (pl : Nat → Nat) {m : Nat} (t : Nat) (hm : m ≤ 7) : yNe re pl m t < 128 := wBits_128 _ hm
theorem yNe_t (re : Nat) (pl : Nat → Nat) (m t j : Nat) : (yNe re pl m t).testBit j = (decide (j < m) && yNr re pl j t) := wBits_t _ j m
/-- m sayings are laid at their places -/
def yL (h : zK) (oo re : Nat) (pl : Nat → Nat) (m : Nat) : Prop := gI h oo 2 = nI re ∧ ∀ t, t < m → gI h (oo + 3) t = nI (pl t) ∧ gI h (oo + 2) t = nI (yNe re pl m t)
theorem yNr_i {re : Nat} {pl : Nat → Nat} {i m : Nat} (h : i ≠ m) : yNr re pl i m = decide (yAw (pl i) (pl m) ≤ re) := by
  unfold yNr
  rw [decide_eq_true h, Bool.true_and]
theorem qTr_lay_ev {re m : Nat} {pl : Nat → Nat} (hm : m < 7) (hre : re ≤ 9) (hp : ∀ t, t ≤ m → pl t ≤ 20) (L : yL h oo re pl m) : ∃ h', qTr_lay oo (nI m) (nI (pl m)) h = some h' ∧ yL h' oo re pl (m + 1) ∧ ∀ t, m < t → gI h' (oo + 3) t = gI h (oo + 3) t ∧ gI h' (oo + 2) t = gI h (oo + 2) t := by
  let h0 : zK := sI (sI h (oo + 3) m (nI (pl m))) (oo + 2) m 0
  have key : ∃ t, zloop (qTr_lay_b16 oo (nI m) (nI (pl m))) zfu (0, h0) = some t ∧ (yL t oo re pl (m + 1) ∧ ∀ j, m < j → gI t (oo + 3) j = gI h (oo + 3) j ∧ gI t (oo + 2) j = gI h (oo + 2) j) := by
    refine zloop_fx (S := fun i x => ∃ g, x = (nI i, g) ∧ gI g oo 2 = nI re ∧ gI g (oo + 2) m = nI (yNe re pl i m) ∧ (∀ t, t ≤ m → gI g (oo + 3) t = nI (pl t)) ∧ (∀ t, t < i → gI g (oo + 2) t = nI (yNe re pl (m + 1) t)) ∧ (∀ t, i ≤ t → t < m → gI g (oo + 2) t = nI (yNe re pl m t)) ∧ ∀ t, m < t → gI g (oo + 3) t = gI h (oo + 3) t ∧ gI g (oo + 2) t = gI h (oo + 2) t) m ?_ ?_ (zfu_lt (by omega)) ?_
    · rintro i x hi ⟨g, rfl, g1, g2, g3, g4, g5, g6⟩
      have pa := hp i (by omega)
      have pb := hp m (by omega)
      have ea : zf_abs (nI (pl i) - nI (pl m)) = nI (yAw (pl i) (pl m)) := wabs21 _ (by omega) _ (by omega)
      have aw : yAw (pl i) (pl m) < 100 := by unfold yAw; split <;> omega
      unfold qTr_lay_b16
      dsimp only
      rw [if_neg (nI_ge hi (by omega)), zix_nI (by omega) (by omega), Option.bind_some, g1, g3 i (by omega), ea]
      by_cases hn : re < yAw (pl i) (pl m)
      · rw [if_pos (nI_lt hn (by omega)), Option.bind_some, nI_1]
        have f1 : yNr re pl i m = false := by rw [yNr_i (by omega)]; exact decide_eq_false (by omega)
        have f2 : yNr re pl m i = false := by rw [yNr_c]; exact f1
        refine ⟨_, rfl, g, rfl, g1, ?_, g3, fun t ht => ?_, fun t h1 h2 => g5 t (by omega) h2, g6⟩
        · rw [yNe_s, f1, g2]; simp
        · by_cases e : t = i
          · subst e
            rw [g5 t (Nat.le_refl _) hi, yNe_s, f2]; simp
          · exact g4 t (by omega)
      · rw [if_neg (nI_nlt (by omega) (by omega)), zix_nI (by omega) (by omega), Option.bind_some]
        simp only [zlet]
        have f1 : yNr re pl i m = true := by rw [yNr_i (by omega)]; exact decide_eq_true (by omega)
        have f2 : yNr re pl m i = true := by rw [yNr_c]; exact f1
        rw [Option.bind_some, nI_1, wshl i (by omega), wshl m (by omega), g2, fa_or, gI_nk (show i ≠ m by omega), g5 i (Nat.le_refl _) hi, fa_or]
        refine ⟨_, rfl, _, rfl, ?_, ?_, fun t ht => ?_, fun t ht => ?_, fun t h1 h2 => ?_, fun t ht => ?_⟩
        · rw [gI_ne (by omega), gI_ne (by omega)]; exact g1
        · rw [gI_nk (show m ≠ i by omega), gI_eq, yNe_s, f1]; rfl
        · rw [gI_ne (by omega), gI_ne (by omega)]; exact g3 t ht
        · by_cases e : t = i
          · subst e
            rw [gI_eq, yNe_s, f2]; rfl
          · rw [gI_nk e, gI_nk (show t ≠ m by omega)]; exact g4 t (by omega)
        · rw [gI_nk (show t ≠ i by omega), gI_nk (show t ≠ m by omega)]; exact g5 t (by omega) h2
        · rw [gI_ne (by omega), gI_ne (by omega), gI_nk (show t ≠ i by omega), gI_nk (show t ≠ m by omega)]; exact g6 t ht
    · rintro x ⟨g, rfl, g1, g2, g3, g4, g5, g6⟩
      unfold qTr_lay_b16
      dsimp only
      rw [if_pos (nI_le (Nat.le_refl _) (by omega))]
      refine ⟨_, rfl, ⟨g1, fun t ht => ⟨g3 t (by omega), ?_⟩⟩, g6⟩
      by_cases e : t = m
      · subst e
        rw [g2, yNe_s]
        have : yNr re pl t t = false := by unfold yNr; simp
        rw [this]; simp
      · exact g4 t (by omega)
    · refine ⟨h0, rfl, ?_, ?_, fun t ht => ?_, fun t ht => absurd ht (Nat.not_lt_zero _), fun t _ ht => ?_, fun t ht => ?_⟩
      · show gI (sI (sI _ _ _ _) _ _ _) _ _ = _
        rw [gI_ne (by omega), gI_ne (by omega)]; exact L.1
      · show gI (sI (sI _ _ _ _) _ _ _) _ _ = _
        rw [gI_eq]; rfl
      · show gI (sI (sI _ _ _ _) _ _ _) _ _ = _
        rw [gI_ne (by omega)]
        by_cases e : t = m
        · subst e; rw [gI_eq]
        · rw [gI_nk e]; exact (L.2 t (by omega)).1
      · show gI (sI (sI _ _ _ _) _ _ _) _ _ = _
        rw [gI_nk (show t ≠ m by omega), gI_ne (by omega)]; exact (L.2 t ht).2
      · show gI (sI (sI _ _ _ _) _ _ _) _ _ = _ ∧ gI (sI (sI _ _ _ _) _ _ _) _ _ = _
        rw [gI_ne (by omega), gI_nk (show t ≠ m by omega), gI_nk (show t ≠ m by omega), gI_ne (by omega)]
        exact ⟨rfl, rfl⟩
  obtain ⟨t, e1, e2⟩ := key
  refine ⟨t, ?_, e2⟩
  unfold qTr_lay
  rw [zix_nI (by omega) (by omega), Option.bind_some]
  simp only [zlet]
  show (zloop (qTr_lay_b16 oo (nI m) (nI (pl m))) zfu (0, h0)).bind _ = _
  rw [e1]; rfl
theorem qTr_layOut_ev {re n : Nat} {pl : Nat → Nat} (ho : oo = 180 ∨ oo = 186) (hn : n ≤ 7) (hre : re ≤ 9) (hp : ∀ t, t < n → pl t ≤ 20) (h0 : gI h oo 0 = nI n) (h2 : gI h oo 2 = nI re) (hs : ∀ t, t < n → gI h (oo + 3) t = nI (pl t)) : ∃ h', qTr_layOut oo h = some h' ∧ yL h' oo re pl n := by
  have key : ∃ t, zloop (qTr_layOut_b2 oo) zfu (0, h) = some t ∧ yL t oo re pl n := by
    refine zloop_fx (S := fun i x => ∃ g, x = (nI i, g) ∧ gI g oo 0 = nI n ∧ yL g oo re pl i ∧ ∀ t, t < n → gI g (oo + 3) t = nI (pl t)) n ?_ ?_ (zfu_lt (by omega)) ⟨h, rfl, h0, ⟨h2, fun t ht => absurd ht (Nat.not_lt_zero _)⟩, hs⟩
    · rintro i x hi ⟨g, rfl, g1, g2, g3⟩
      unfold qTr_layOut_b2
      dsimp only
      obtain ⟨h', e1, e2, e3⟩ := qTr_lay_ev (h := g) (oo := oo) (m := i) (pl := pl) (by omega) hre (fun t ht => hp t (by omega)) g2
      rw [g1, if_neg (nI_ge hi (by omega)), zix_nI (by omega) (by omega), Option.bind_some, g3 i hi, e1, Option.bind_some, nI_1]
      refine ⟨_, rfl, h', rfl, ?_, e2, fun t ht => ?_⟩
      · have F := f_qTr_lay ho e1
        rw [← g1]
        rcases ho with rfl | rfl
        · exact congrFun (F.2.1 180 (by decide)) 0
        · exact congrFun (F.2.1 186 (by decide)) 0
      · by_cases q : t ≤ i
        · exact (e2.2 t (by omega)).1
        · rw [(e3 t (by omega)).1]; exact g3 t ht
    · rintro x ⟨g, rfl, g1, g2, g3⟩
      unfold qTr_layOut_b2
      dsimp only
      rw [g1, if_pos (nI_le (Nat.le_refl _) (by omega))]
      exact ⟨_, rfl, g2⟩
  obtain ⟨t, e1, e2⟩ := key
  refine ⟨t, ?_, e2⟩
  unfold qTr_layOut
  rw [e1]; rfl
/-! what a saying needs -/
def yNd (c : wC) (t : Nat) : Nat := if c.2.2.2 4 t < c.2.2.2 2 t then 0 else if c.2.1 = 0 then 7 else if (c.2.2.2 4 t - c.2.2.2 2 t) / c.2.1 + 1 < 7 then (c.2.2.2 4 t - c.2.2.2 2 t) / c.2.1 + 1 else 7
theorem yNd_le (c : wC) (t : Nat) : yNd c t ≤ 7 := by
  unfold yNd
  split
  · omega
  · split
    · omega
    · split <;> omega
theorem yNd_iff {c : wC} {t k : Nat} (hk : k ≤ 6) : yNd c t ≤ k ↔ c.2.2.2 4 t < c.2.2.2 2 t + c.2.1 * k := by
  unfold yNd
  by_cases h1 : c.2.2.2 4 t < c.2.2.2 2 t
  · rw [if_pos h1]
    exact ⟨fun _ => by omega, fun _ => Nat.zero_le _⟩
  · rw [if_neg h1]
    by_cases h2 : c.2.1 = 0
    · rw [if_pos h2, h2]
      simp
      omega
    · rw [if_neg h2]
      have e := Nat.div_lt_iff_lt_mul (x := c.2.2.2 4 t - c.2.2.2 2 t) (y := k) (k := c.2.1) (by omega)
      have e2 : k * c.2.1 = c.2.1 * k := Nat.mul_comm _ _
      by_cases h3 : (c.2.2.2 4 t - c.2.2.2 2 t) / c.2.1 + 1 < 7
      · rw [if_pos h3]
        constructor
        · intro z
          have := e.mp (by omega)
          omega
        · intro z
          have := e.mpr (by omega)
          omega
      · rw [if_neg h3]
        constructor
        · intro z; omega
        · intro z
          have := e.mpr (by omega)
          omega
theorem wmin7 {a : Nat} (ha : a < 2 ^ 31) : zf_min 7 (nI a) = nI (if a < 7 then a else 7) := by
  unfold zf_min
  by_cases h : a < 7
  · rw [if_pos (show nI a < (7 : Int32) from nI_lt (b := 7) h (by decide)), if_pos h]
  · rw [if_neg (show ¬ nI a < (7 : Int32) from nI_nlt (b := 7) (by omega) ha), if_neg h]
    rfl
theorem qTr_needOf_ev {o : Nat} {c : wC} (hc : cC h o c) (ok : wCok c) {t : Nat} (ht : t < c.1) : qTr_needOf o (nI t) h = some (nI (yNd c t)) := by
  have n7 := ok.1
  obtain ⟨-, -, r2, -, -, r4, -⟩ := ok.2.2.2 t ht
  have s9 := ok.2.1
  unfold qTr_needOf yNd
  rw [zix_nI (by omega) (by omega), Option.bind_some, cC_2 hc ht, cC_4 hc ht, hc.1]
  by_cases h1 : c.2.2.2 4 t < c.2.2.2 2 t
  · rw [if_neg (nI_ge h1 (by omega)), if_pos h1]
    rfl
  · rw [if_pos (nI_le (by omega) (by omega)), if_neg h1]
    by_cases h2 : c.2.1 = 0
    · rw [h2, if_pos (show nI 0 ≤ 0 by decide), if_pos rfl]
      rfl
    · rw [if_neg (nI_nle (by omega) (by omega)), if_pos (nI_ne0 (by omega) (by omega)), if_neg h2, nI_sub (by omega), nI_div (by omega) (by omega), nI_1, wmin7]
      have := Nat.div_le_self (c.2.2.2 4 t - c.2.2.2 2 t) c.2.1
      omega
/-- the trains' object looks at a cellar, its places being pl -/
def yTs (h : zK) (oo : Nat) (c : wC) (pl : Nat → Nat) : Prop := gI h oo 0 = nI c.1 ∧ (∀ t, t < c.1 → gI h (oo + 1) t = nI (yNd c t)) ∧ yL h oo c.2.2.1 pl c.1
theorem yTs_T {c : wC} {pl : Nat → Nat} (ok : wCok c) (T : yTs h oo c pl) : yT h oo c.1 (yNd c) (yNe c.2.2.1 pl c.1) :=
  ⟨ok.1, T.1, fun t ht => ⟨T.2.1 t ht, (T.2.2.2 t ht).2, yNd_le c t, yNe_lt _ _ _ ok.1⟩⟩
theorem qTr_lookAt_ev {o : Nat} {c : wC} (ho : oo = 180 ∨ oo = 186) (hoc : o = 7 ∨ o = 22) (hc : cC h o c) (ok : wCok c) : ∃ h', qTr_lookAt oo o h = some h' ∧ yTs h' oo c (c.2.2.2 5) := by
  have n7 := ok.1
  let h1 : zK := sI (sI h oo 0 (nI c.1)) oo 2 (nI c.2.2.1)
  have cg : ∀ g : zK, (∀ a, a < 100 → g.2.1 a = h.2.1 a) → cC g o c := fun g e => by
    obtain ⟨a, b, d, f⟩ := hc
    have q : ∀ a j, a < 100 → gI g a j = gI h a j := fun a j ha => congrFun (e a ha) j
    exact ⟨(q _ _ (by omega)).trans a, (q _ _ (by omega)).trans b, (q _ _ (by omega)).trans d, fun i s hi hs => (q _ _ (by omega)).trans (f i s hi hs)⟩
  have key : ∃ t, zloop (qTr_lookAt_b18 o oo) zfu (0, h1) = some t ∧ (gI t oo 0 = nI c.1 ∧ gI t oo 2 = nI c.2.2.1 ∧ ∀ j, j < c.1 → gI t (oo + 1) j = nI (yNd c j) ∧ gI t (oo + 3) j = nI (c.2.2.2 5 j)) := by
    refine zloop_fx (S := fun i x => ∃ g, x = (nI i, g) ∧ (∀ a, a < 100 → g.2.1 a = h.2.1 a) ∧ gI g oo 0 = nI c.1 ∧ gI g oo 2 = nI c.2.2.1 ∧ ∀ j, j < i → gI g (oo + 1) j = nI (yNd c j) ∧ gI g (oo + 3) j = nI (c.2.2.2 5 j)) c.1 ?_ ?_ (zfu_lt (by omega)) ?_
    · rintro i x hi ⟨g, rfl, g0, g1, g2, g3⟩
      unfold qTr_lookAt_b18
      dsimp only
      have hc' := cg g g0
      rw [g1, if_neg (nI_ge hi (by omega)), qTr_needOf_ev hc' ok hi, Option.bind_some, zix_nI (by omega) (by omega), Option.bind_some]
      simp only [zlet]
      rw [gI_ne (show o + 6 ≠ oo + 1 by omega), cC_5 hc' hi, nI_1]
      refine ⟨_, rfl, _, rfl, fun a ha => ?_, ?_, ?_, fun j hj => ?_⟩
      · rw [← g0 a ha]
        funext j
        show gI (sI (sI _ _ _ _) _ _ _) a j = gI g a j
        rw [gI_ne (by omega), gI_ne (by omega)]
      · rw [gI_ne (by omega), gI_ne (by omega)]; exact g1
      · rw [gI_ne (by omega), gI_ne (by omega)]; exact g2
      · by_cases e : j = i
        · subst e
          rw [gI_ne (by omega), gI_eq, gI_eq]
          exact ⟨rfl, rfl⟩
        · rw [gI_nk e, gI_nk e, gI_nk e, gI_nk e]
          exact g3 j (by omega)
    · rintro x ⟨g, rfl, g0, g1, g2, g3⟩
      unfold qTr_lookAt_b18
      dsimp only
      rw [g1, if_pos (nI_le (Nat.le_refl _) (by omega))]
      exact ⟨_, rfl, g1, g2, g3⟩
    · refine ⟨h1, rfl, fun a ha => ?_, ?_, ?_, fun j hj => absurd hj (Nat.not_lt_zero _)⟩
      · funext j
        show gI (sI (sI _ _ _ _) _ _ _) a j = gI h a j
        rw [gI_ne (by omega), gI_ne (by omega)]
      · show gI (sI (sI _ _ _ _) _ _ _) _ _ = _
        rw [gI_nk (by decide), gI_eq]
      · show gI (sI (sI _ _ _ _) _ _ _) _ _ = _
        rw [gI_eq]
  obtain ⟨t, e1, e2, e3, e4⟩ := key
  obtain ⟨h', e5, e6⟩ := qTr_layOut_ev (h := t) (pl := c.2.2.2 5) ho n7 ok.2.2.1 (fun j hj => (ok.2.2.2 j hj).2.2.2.2.2.2.1) e2 e3 (fun j hj => (e4 j hj).2)
  have F := f_qTr_layOut ho e5
  refine ⟨h', ?_, ?_, ?_, e6⟩
  · unfold qTr_lookAt
    simp only [zlet]
    rw [cC_n hc, gI_ne (show o ≠ oo by omega), hc.2.1]
    show (zloop (qTr_lookAt_b18 o oo) zfu (0, h1)).bind _ = _
    rw [e1, Option.bind_some, e5]; rfl
  · rw [← e2]
    rcases ho with rfl | rfl
    · exact congrFun (F.2.1 180 (by decide)) 0
    · exact congrFun (F.2.1 186 (by decide)) 0
  · intro j hj
    rw [← (e4 j hj).1]
    rcases ho with rfl | rfl
    · exact congrFun (F.2.1 181 (by decide)) j
    · exact congrFun (F.2.1 187 (by decide)) j
end TRA
