/-! PAIR -/
def ySw (pl : Nat → Nat) (a b : Nat) : Nat → Nat := fun t => if t = a then pl b else if t = b then pl a else pl t
theorem ySw_2 (pl : Nat → Nat) (a b : Nat) : ySw (ySw pl a b) a b = pl := by
  funext t
  unfold ySw
  by_cases h1 : t = a
  · subst h1
    rw [if_pos rfl]
    by_cases h2 : b = t
    · subst h2; rw [if_pos rfl]
    · rw [if_neg h2, if_pos rfl]
  · rw [if_neg h1]
    by_cases h2 : t = b
    · subst h2
      rw [if_pos rfl, if_pos rfl]
    · rw [if_neg h2, if_neg h1, if_neg h2]
theorem ySw_le {pl : Nat → Nat} {a b n m : Nat} (ha : a < n) (hb : b < n) (hp : ∀ t, t < n → pl t ≤ m) : ∀ t, t < n → ySw pl a b t ≤ m := fun t ht => by
  unfold ySw
  split
  · exact hp b hb
  · split
    · exact hp a ha
    · exact hp t ht
section PAIR
variable {h : zK} {oo o k n s a b : Nat} {c : wC} {pl : Nat → Nat}
theorem qTr_exchange_ev (ho : oo = 180 ∨ oo = 186) (ok : wCok c) (hp : ∀ t, t < c.1 → pl t ≤ 20) (T : yTs h oo c pl) (ha : a < c.1) (hb : b < c.1) : ∃ h', qTr_exchange oo (nI a) (nI b) h = some h' ∧ yTs h' oo c (ySw pl a b) := by
  have n7 := ok.1
  obtain ⟨t1, t2, t3, t4⟩ := T
  let h4 : zK := sI (sI h (oo + 3) a (nI (pl b))) (oo + 3) b (nI (pl a))
  have q : ∀ x j, x ≠ oo + 3 → gI h4 x j = gI h x j := fun x j hx => by
    show gI (sI (sI _ _ _ _) _ _ _) _ _ = _
    rw [gI_ne hx, gI_ne hx]
  obtain ⟨h', e1, e2⟩ := qTr_layOut_ev (h := h4) (oo := oo) (re := c.2.2.1) (pl := ySw pl a b) ho n7 ok.2.2.1 (ySw_le ha hb hp) ((q oo 0 (by omega)).trans t1) ((q oo 2 (by omega)).trans t3) (fun t ht => by
    show gI (sI (sI _ _ _ _) _ _ _) _ _ = nI (ySw pl a b t)
    unfold ySw
    by_cases h1 : t = b
    · subst h1
      rw [gI_eq, if_pos rfl]
      by_cases h2 : t = a
      · subst h2; rw [if_pos rfl]
      · rw [if_neg h2]
    · rw [gI_nk h1]
      by_cases h2 : t = a
      · subst h2; rw [gI_eq, if_pos rfl]
      · rw [gI_nk h2, if_neg h2, if_neg h1]
        exact (t4 t ht).1)
  have F := f_qTr_layOut ho e1
  refine ⟨h', ?_, ?_, fun t ht => ?_, e2⟩
  · unfold qTr_exchange
    rw [zix_nI (by omega) (by omega), Option.bind_some, zix_nI (by omega) (by omega), Option.bind_some]
    simp only [zlet]
    rw [(t4 a ha).1, (t4 b hb).1]
    show (qTr_layOut oo h4).bind _ = _
    rw [e1]; rfl
  · rw [← t1, ← q oo 0 (by omega)]
    rcases ho with rfl | rfl
    · exact congrFun (F.2.1 180 (by decide)) 0
    · exact congrFun (F.2.1 186 (by decide)) 0
  · rw [← t2 t ht, ← q (oo + 1) t (by omega)]
    rcases ho with rfl | rfl
    · exact congrFun (F.2.1 181 (by decide)) t
    · exact congrFun (F.2.1 187 (by decide)) t
theorem qM_swapPlaces_ev (ok : wCok c) (M : yM h k c pl) (ha : a < c.1) (hb : b < c.1) : ∃ h', qM_swapPlaces (nI a) (nI b) h = some h' ∧ yM h' k c (ySw pl a b) ∧ h'.2.1 = (sI (sI h 229 a (nI (pl b))) 229 b (nI (pl a))).2.1 := by
  have n7 := ok.1
  obtain ⟨m1, m2, m3, m4⟩ := M
  have q : ∀ x j, x ≠ 229 → gI (sI (sI h 229 a (nI (pl b))) 229 b (nI (pl a))) x j = gI h x j := fun x j hx => by rw [gI_ne hx, gI_ne hx]
  refine ⟨sI (sI h 229 a (nI (pl b))) 229 b (nI (pl a)), ?_, ⟨mB_l' m1 (fun j _ _ => q 215 j (by decide)) rfl, ⟨(q 215 24 (by decide)).trans m2.1, (q 215 25 (by decide)).trans m2.2⟩, (q 215 26 (by decide)).trans m3, fun t ht => ⟨(q 228 t (by decide)).trans (m4 t ht).1, ?_, ySw_le ha hb (fun t ht => (m4 t ht).2.2) t ht⟩⟩, rfl⟩
  · unfold qM_swapPlaces
    rw [zix_nI (by omega) (by omega), Option.bind_some, zix_nI (by omega) (by omega), Option.bind_some]
    simp only [zlet]
    rw [(m4 a ha).2.1, (m4 b hb).2.1]
  · unfold ySw
    by_cases h1 : t = b
    · subst h1
      rw [gI_eq, if_pos rfl]
      by_cases h2 : t = a
      · subst h2; rw [if_pos rfl]
      · rw [if_neg h2]
    · rw [gI_nk h1]
      by_cases h2 : t = a
      · subst h2; rw [gI_eq, if_pos rfl]
      · rw [gI_nk h2, if_neg h2, if_neg h1]
        exact (m4 t ht).2.1
/-- the least so far, and by which two -/
def yPrS (G : Nat → Nat → Nat) (i j : Nat) (a : Nat × Option Nat) : Nat × Option Nat := if G i j < a.1 then (G i j, some (10 * i + j)) else a
def yPrI (G : Nat → Nat → Nat) (i : Nat) (a : Nat × Option Nat) (m : Nat) : Nat × Option Nat := wfold (fun t a => yPrS G i (i + 1 + t) a) a m
theorem yPrI_s (G : Nat → Nat → Nat) (i m : Nat) (a : Nat × Option Nat) : yPrI G i a (m + 1) = yPrS G i (i + 1 + m) (yPrI G i a m) := rfl
def yPr (G : Nat → Nat → Nat) (n g0 i : Nat) : Nat × Option Nat := wfold (fun i a => yPrI G i a (n - (i + 1))) (g0, none) i
theorem yPr_s (G : Nat → Nat → Nat) (n g0 i : Nat) : yPr G n g0 (i + 1) = yPrI G i (yPr G n g0 i) (n - (i + 1)) := rfl
theorem yPrS_le {G : Nat → Nat → Nat} {i j m : Nat} {a : Nat × Option Nat} (h : a.1 ≤ m) : (yPrS G i j a).1 ≤ m := by
  unfold yPrS
  split
  · dsimp only; omega
  · exact h
theorem yPrI_le {G : Nat → Nat → Nat} {i m : Nat} {a : Nat × Option Nat} (h : a.1 ≤ m) : ∀ q, (yPrI G i a q).1 ≤ m
  | 0 => h
  | q + 1 => yPrS_le (yPrI_le h q)
theorem yPr_le {G : Nat → Nat → Nat} {n g0 : Nat} : ∀ i, (yPr G n g0 i).1 ≤ g0
  | 0 => Nat.le_refl _
  | i + 1 => yPrI_le (yPr_le i) _
def yGs (c : wC) (pl : Nat → Nat) : Nat := yGr (yNd c) (yNe c.2.2.1 pl c.1) c.1
def yGp (c : wC) (pl : Nat → Nat) (i j : Nat) : Nat := yGs c (ySw pl i j)
theorem qTr_pair_ev (ok : wCok c) (hp : ∀ t, t < c.1 → pl t ≤ 20) (T : yTs h 180 c pl) : ∃ h', qTr_pair 180 h = some (wO (yPr (yGp c pl) c.1 (yGs c pl) c.1).2, h') := by
  have n7 := ok.1
  let G := yGp c pl
  have gl := yGr_le (yNd c) (yNe c.2.2.1 pl c.1) n7
  have inner : ∀ i g a, i < c.1 → a.1 ≤ 7 → yTs g 180 c pl → ∃ t, zloop (qTr_pair_b26 180 (nI i)) zfu (nI a.1, wO a.2, nI (i + 1), g) = some t ∧ ∃ g', t = (nI (yPrI G i a (c.1 - (i + 1))).1, wO (yPrI G i a (c.1 - (i + 1))).2, g') ∧ yTs g' 180 c pl := by
    intro i g a hi ha Tg
    refine zloop_fx (S := fun q x => ∃ g', x = (nI (yPrI G i a q).1, wO (yPrI G i a q).2, nI (i + 1 + q), g') ∧ yTs g' 180 c pl) (c.1 - (i + 1)) ?_ ?_ (zfu_lt (by omega)) ⟨g, rfl, Tg⟩
    · rintro q x hq ⟨g', rfl, T'⟩
      unfold qTr_pair_b26
      dsimp only
      obtain ⟨g1, e1, e2⟩ := qTr_exchange_ev (Or.inl rfl) ok hp T' hi (show i + 1 + q < c.1 by omega)
      have al := yPrI_le (G := G) (i := i) ha q
      obtain ⟨r, r1, r2, r3, r4⟩ := qTr_greatest_ev (yTs_T ok e2) (e := (yPrI G i a q).1) (by omega)
      obtain ⟨g2, e3, e4⟩ := qTr_exchange_ev (Or.inl rfl) ok (ySw_le hi (show i + 1 + q < c.1 by omega) hp) e2 hi (show i + 1 + q < c.1 by omega)
      rw [ySw_2] at e4
      have rl : r ≤ 7 := Nat.le_trans r2 (Nat.le_trans (yGr_le _ _ n7) n7)
      rw [T'.1, if_neg (nI_ge (show i + 1 + q < c.1 by omega) (by omega)), e1, Option.bind_some, r1, Option.bind_some]
      simp only [zlet]
      rw [e3, Option.bind_some, nI_1]
      refine ⟨_, rfl, g2, ?_, e4⟩
      rw [yPrI_s]
      unfold yPrS
      by_cases hl : G i (i + 1 + q) < (yPrI G i a q).1
      · have er := r3 hl
        rw [if_pos hl, if_neg (nI_ge (show r < (yPrI G i a q).1 by rw [er]; exact hl) (by omega)), er, show (10 : Int32) = nI 10 from rfl, nI_mul, nI_add]
        rfl
      · rw [if_neg hl, if_pos (nI_le (r4 (Nat.not_lt.mp hl)) (by omega))]
        rfl
    · rintro x ⟨g', rfl, T'⟩
      unfold qTr_pair_b26
      dsimp only
      rw [T'.1, if_pos (nI_le (by omega) (by omega))]
      exact ⟨_, rfl, g', rfl, T'⟩
  have outer : ∃ t, zloop (qTr_pair_b13 180) zfu (nI (yGs c pl), -1, 0, h) = some t ∧ ∃ g', t = (wO (yPr G c.1 (yGs c pl) c.1).2, g') := by
    refine zloop_fx (S := fun i x => ∃ g', x = (nI (yPr G c.1 (yGs c pl) i).1, wO (yPr G c.1 (yGs c pl) i).2, nI i, g') ∧ yTs g' 180 c pl) c.1 ?_ ?_ (zfu_lt (by omega)) ⟨h, rfl, T⟩
    · rintro i x hi ⟨g', rfl, T'⟩
      unfold qTr_pair_b13
      dsimp only
      obtain ⟨t, e1, g2, rfl, e2⟩ := inner i g' (yPr G c.1 (yGs c pl) i) hi (Nat.le_trans (yPr_le i) (Nat.le_trans gl n7)) T'
      rw [T'.1, if_neg (nI_ge hi (by omega)), nI_1, e1, Option.bind_some]
      exact ⟨_, rfl, g2, rfl, e2⟩
    · rintro x ⟨g', rfl, T'⟩
      unfold qTr_pair_b13
      dsimp only
      rw [T'.1, if_pos (nI_le (Nat.le_refl _) (by omega))]
      exact ⟨_, rfl, g', rfl⟩
  obtain ⟨t, e1, g', rfl⟩ := outer
  obtain ⟨r, r1, r2, r3, r4⟩ := qTr_greatest_ev (yTs_T ok T) (e := c.1) (by omega)
  have er : r = yGs c pl := by
    by_cases hl : yGr (yNd c) (yNe c.2.2.1 pl c.1) c.1 < c.1
    · exact r3 hl
    · have := r4 (Nat.not_lt.mp hl)
      show r = yGr (yNd c) (yNe c.2.2.1 pl c.1) c.1
      omega
  refine ⟨g', ?_⟩
  unfold qTr_pair
  rw [T.1, r1, Option.bind_some, er, e1]
  rfl
theorem qM_pair_ev (ok : wCok c) (M : yM h k c pl) : ∃ h', qM_pair h = some (wO (yPr (yGp c pl) c.1 (yGs c pl) c.1).2, h') := by
  have n7 := ok.1
  let G := yGp c pl
  have gl := yGr_le (yNd c) (yNe c.2.2.1 pl c.1) n7
  have inner : ∀ i g a, i < c.1 → a.1 ≤ 7 → yM g k c pl → ∃ t, zloop (qM_pair_b22 (nI i)) zfu (wO a.2, nI a.1, nI (i + 1), g) = some t ∧ ∃ g', t = (wO (yPrI G i a (c.1 - (i + 1))).2, nI (yPrI G i a (c.1 - (i + 1))).1, g') ∧ yM g' k c pl := by
    intro i g a hi ha Mg
    refine zloop_fx (S := fun q x => ∃ g', x = (wO (yPrI G i a q).2, nI (yPrI G i a q).1, nI (i + 1 + q), g') ∧ yM g' k c pl) (c.1 - (i + 1)) ?_ ?_ (zfu_lt (by omega)) ⟨g, rfl, Mg⟩
    · rintro q x hq ⟨g', rfl, M'⟩
      unfold qM_pair_b22
      dsimp only
      obtain ⟨g1, e1, e2, -⟩ := qM_swapPlaces_ev ok M' hi (show i + 1 + q < c.1 by omega)
      obtain ⟨g2, e3, e4⟩ := qM_greatestTrain_ev ok e2
      obtain ⟨g3, e5, e6, -⟩ := qM_swapPlaces_ev ok e4 hi (show i + 1 + q < c.1 by omega)
      rw [ySw_2] at e6
      have al := yPrI_le (G := G) (i := i) ha q
      have rl : G i (i + 1 + q) ≤ 7 := Nat.le_trans (yGr_le _ _ n7) n7
      rw [M'.1.2.2.1, if_neg (nI_ge (show i + 1 + q < c.1 by omega) (by omega)), e1, Option.bind_some, e3, Option.bind_some]
      dsimp only
      rw [e5, Option.bind_some]
      simp only [zlet]
      rw [nI_1]
      refine ⟨_, rfl, g3, ?_, e6⟩
      rw [yPrI_s, show nI (yGr (yNd c) (yNe c.2.2.1 (ySw pl i (i + 1 + q)) c.1) c.1) = nI (G i (i + 1 + q)) from rfl, wles (by omega) (by omega)]
      unfold yPrS
      by_cases hl : G i (i + 1 + q) < (yPrI G i a q).1
      · rw [if_pos hl, if_pos hl, if_neg (nI_ge hl (by omega)), show (10 : Int32) = nI 10 from rfl, nI_mul, nI_add]
        rfl
      · rw [if_neg hl, if_neg hl, if_pos (nI_le (Nat.not_lt.mp hl) (by omega))]
        rfl
    · rintro x ⟨g', rfl, M'⟩
      unfold qM_pair_b22
      dsimp only
      rw [M'.1.2.2.1, if_pos (nI_le (by omega) (by omega))]
      exact ⟨_, rfl, g', rfl, M'⟩
  obtain ⟨h1, p1, p2⟩ := qM_greatestTrain_ev ok M
  have outer : ∃ t, zloop qM_pair_b9 zfu (-1, nI (yGs c pl), 0, h1) = some t ∧ ∃ g', t = (wO (yPr G c.1 (yGs c pl) c.1).2, g') := by
    refine zloop_fx (S := fun i x => ∃ g', x = (wO (yPr G c.1 (yGs c pl) i).2, nI (yPr G c.1 (yGs c pl) i).1, nI i, g') ∧ yM g' k c pl) c.1 ?_ ?_ (zfu_lt (by omega)) ⟨h1, rfl, p2⟩
    · rintro i x hi ⟨g', rfl, M'⟩
      unfold qM_pair_b9
      dsimp only
      obtain ⟨t, e1, g2, rfl, e2⟩ := inner i g' (yPr G c.1 (yGs c pl) i) hi (Nat.le_trans (yPr_le i) (Nat.le_trans gl n7)) M'
      rw [M'.1.2.2.1, if_neg (nI_ge hi (by omega)), nI_1, e1, Option.bind_some]
      exact ⟨_, rfl, g2, rfl, e2⟩
    · rintro x ⟨g', rfl, M'⟩
      unfold qM_pair_b9
      dsimp only
      rw [M'.1.2.2.1, if_pos (nI_le (Nat.le_refl _) (by omega))]
      exact ⟨_, rfl, g', rfl⟩
  obtain ⟨t, e1, g', rfl⟩ := outer
  refine ⟨g', ?_⟩
  unfold qM_pair
  rw [p1, Option.bind_some]
  dsimp only
  rw [show nI (yGr (yNd c) (yNe c.2.2.1 pl c.1) c.1) = nI (yGs c pl) from rfl, e1]
  rfl
end PAIR
