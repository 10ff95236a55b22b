/-! FEED, END -/
def wSh (i : Nat) : Int32 := [24, 16, 8, 0].getD i (-8)
def wBy (x : Int32) (i : Nat) : Int32 := (Int32.toInt8 ((Int32.toInt8 (x >>> (wSh i &&& 31))).toInt32)).toInt32
/-- i bytes of a number behind a tape of L: tape in row a, length in cell (b, k) -/
def wPu (a b k : Nat) (x : Int32) (L : Nat) (h : zK) : Nat → zK
  | 0 => h
  | i + 1 => sI (sI (wPu a b k x L h i) a (L + i) (wBy x i)) b k (nI (L + i + 1))
section FEED
variable {h : zK} {a b k L : Nat} {x : Int32}
theorem wPu_s (i : Nat) : wPu a b k x L h (i + 1) = sI (sI (wPu a b k x L h i) a (L + i) (wBy x i)) b k (nI (L + i + 1)) := rfl
theorem wPu_l (hab : a ≠ b) (hl : gI h b k = nI L) : ∀ i, gI (wPu a b k x L h i) b k = nI (L + i)
  | 0 => hl
  | i + 1 => by rw [wPu_s, gI_eq]; rfl
theorem wPu_a (hab : a ≠ b) (j : Nat) : ∀ i, gI (wPu a b k x L h i) a j = if L ≤ j ∧ j < L + i then wBy x (j - L) else gI h a j
  | 0 => by
    rw [if_neg (by omega)]
    rfl
  | i + 1 => by
    rw [wPu_s, gI_ne hab, gI_sI, wPu_a hab j i]
    by_cases e : j = L + i
    · rw [if_pos ⟨rfl, e⟩, if_pos (by omega), show j - L = i by omega]
    · rw [if_neg (fun z => e z.2)]
      by_cases h2 : L ≤ j ∧ j < L + i
      · rw [if_pos h2, if_pos (by omega)]
      · rw [if_neg h2, if_neg (by omega)]
theorem wPu_o {c j : Nat} (h1 : c ≠ a) (h2 : ¬ (c = b ∧ j = k)) : ∀ i, gI (wPu a b k x L h i) c j = gI h c j
  | 0 => rfl
  | i + 1 => by
    rw [wPu_s, gI_sI, if_neg h2, gI_ne h1]
    exact wPu_o h1 h2 i
theorem wSh_s : ∀ i, i < 4 → ¬ wSh i < 0 ∧ wSh i + (-8) = wSh (i + 1) := by decide
theorem qT_push_ev (hl : gI h 1 1 = nI L) (hL : L + 4 ≤ 600) : qT_push x h = some (wPu 2 1 1 x L h 4) := by
  have e : zloop (qT_push_b3 x) zfu (24, h) = some (wPu 2 1 1 x L h 4) := by
    refine zloop_for (fun i => (wSh i, wPu 2 1 1 x L h i)) 4 (fun i hi => ?_) ?_ (zfu_lt (by omega))
    · obtain ⟨s1, s2⟩ := wSh_s i hi
      unfold qT_push_b3
      dsimp only
      simp only [zlet]
      rw [if_neg s1, wPu_l (by decide) hl, if_neg (show ¬ (600 : Int32) ≤ nI (L + i) from nI_ge (b := 600) (by omega) (by decide)), zix_nI (by omega) (by omega), Option.bind_some, gI_ne (by decide), wPu_l (by decide) hl, nI_1, s2, wPu_s]
      rfl
    · unfold qT_push_b3
      dsimp only
      rw [if_pos (show wSh 4 < 0 by decide)]
  unfold qT_push
  rw [e, Option.bind_some]
theorem qM_four_ev (hl : gI h 217 0 = nI L) (hL : L + 4 ≤ 2400) : qM_four x h = some (wPu 216 217 0 x L h 4) := by
  have e : zloop (qM_four_b3 x) zfu (24, h) = some (wPu 216 217 0 x L h 4) := by
    refine zloop_for (fun i => (wSh i, wPu 216 217 0 x L h i)) 4 (fun i hi => ?_) ?_ (zfu_lt (by omega))
    · obtain ⟨s1, s2⟩ := wSh_s i hi
      unfold qM_four_b3
      dsimp only
      simp only [zlet]
      rw [if_neg s1, wPu_l (by decide) hl, zix_nI (by omega) (by omega), Option.bind_some, gI_ne (by decide), wPu_l (by decide) hl, nI_1, s2, wPu_s]
      rfl
    · unfold qM_four_b3
      dsimp only
      rw [if_pos (show wSh 4 < 0 by decide)]
  unfold qM_four
  rw [e, Option.bind_some]
/-- five numbers -/
def wP5 (a b k : Nat) (x : Nat → Int32) (L : Nat) (h : zK) : Nat → zK
  | 0 => h
  | i + 1 => wPu a b k (x i) (L + 4 * i) (wP5 a b k x L h i) 4
theorem wP5_s {x : Nat → Int32} (i : Nat) : wP5 a b k x L h (i + 1) = wPu a b k (x i) (L + 4 * i) (wP5 a b k x L h i) 4 := rfl
theorem wP5_l (hab : a ≠ b) (hl : gI h b k = nI L) {x : Nat → Int32} : ∀ i, gI (wP5 a b k x L h i) b k = nI (L + 4 * i)
  | 0 => hl
  | i + 1 => by
    rw [wP5_s, wPu_l hab (wP5_l hab hl i)]
    rfl
theorem wP5_a (hab : a ≠ b) {x : Nat → Int32} (j : Nat) : ∀ i, gI (wP5 a b k x L h i) a j = if L ≤ j ∧ j < L + 4 * i then wBy (x ((j - L) / 4)) ((j - L) % 4) else gI h a j
  | 0 => by
    rw [if_neg (by omega)]
    rfl
  | i + 1 => by
    rw [wP5_s, wPu_a hab, wP5_a hab j i]
    by_cases e : L + 4 * i ≤ j ∧ j < L + 4 * i + 4
    · rw [if_pos e, if_pos (by omega), show (j - L) / 4 = i by omega, show (j - L) % 4 = j - (L + 4 * i) by omega]
    · rw [if_neg e]
      by_cases h2 : L ≤ j ∧ j < L + 4 * i
      · rw [if_pos h2, if_pos (by omega)]
      · rw [if_neg h2, if_neg (by omega)]
theorem wP5_o {c j : Nat} (h1 : c ≠ a) (h2 : ¬ (c = b ∧ j = k)) {x : Nat → Int32} : ∀ i, gI (wP5 a b k x L h i) c j = gI h c j
  | 0 => rfl
  | i + 1 => by
    rw [wP5_s, wPu_o h1 h2]
    exact wP5_o h1 h2 i
end FEED
def wX5 (a b c d e : Int32) (i : Nat) : Int32 := [a, b, c, d, e].getD i 0
theorem qC_feed_ev {h : zK} {L : Nat} (a b c d e : Int32) (hl : gI h 1 1 = nI L) (hL : L ≤ 600) : qC_feed a b c d e h = if L + 20 ≤ 600 then some (nI (L + 20), wP5 2 1 1 (wX5 a b c d e) L h 5) else some (-1, h) := by
  unfold qC_feed
  rw [hl, show (20 : Int32) = nI 20 from rfl, nI_add]
  by_cases h20 : L + 20 ≤ 600
  · rw [if_pos (show nI (L + 20) ≤ (600 : Int32) from nI_le (b := 600) h20 (by decide)), if_pos h20]
    have l := fun i => wP5_l (a := 2) (b := 1) (k := 1) (L := L) (h := h) (by decide) hl (x := wX5 a b c d e) i
    have q : ∀ i, i < 5 → qT_push (wX5 a b c d e i) (wP5 2 1 1 (wX5 a b c d e) L h i) = some (wP5 2 1 1 (wX5 a b c d e) L h (i + 1)) := fun i hi => qT_push_ev (l i) (by omega)
    have q0 : qT_push a h = some (wP5 2 1 1 (wX5 a b c d e) L h 1) := q 0 (by omega)
    have q1 : qT_push b (wP5 2 1 1 (wX5 a b c d e) L h 1) = some (wP5 2 1 1 (wX5 a b c d e) L h 2) := q 1 (by omega)
    have q2 : qT_push c (wP5 2 1 1 (wX5 a b c d e) L h 2) = some (wP5 2 1 1 (wX5 a b c d e) L h 3) := q 2 (by omega)
    have q3 : qT_push d (wP5 2 1 1 (wX5 a b c d e) L h 3) = some (wP5 2 1 1 (wX5 a b c d e) L h 4) := q 3 (by omega)
    have q4 : qT_push e (wP5 2 1 1 (wX5 a b c d e) L h 4) = some (wP5 2 1 1 (wX5 a b c d e) L h 5) := q 4 (by omega)
    rw [q0, Option.bind_some, q1, Option.bind_some, q2, Option.bind_some, q3, Option.bind_some, q4, Option.bind_some]
    exact congrArg some (Prod.ext (l 5) rfl)
  · rw [if_neg (show ¬ nI (L + 20) ≤ (600 : Int32) from nI_ge (a := 600) (by omega) (by omega)), if_neg h20]
theorem qM_feed_ev {h : zK} {L : Nat} (a b c d e : Int32) (hl : gI h 217 0 = nI L) (hL : L ≤ 600) : qM_feed a b c d e h = if L + 20 ≤ 600 then some (nI (L + 20), wP5 216 217 0 (wX5 a b c d e) L (sI h 215 0 0) 5) else some (-1, sI h 215 0 0) := by
  have hl' : gI (sI h 215 0 0) 217 0 = nI L := (gI_ne (by decide)).trans hl
  unfold qM_feed
  simp only [zlet]
  rw [hl', show (20 : Int32) = nI 20 from rfl, nI_add]
  by_cases h20 : L + 20 ≤ 600
  · rw [if_pos (show nI (L + 20) ≤ (600 : Int32) from nI_le (b := 600) h20 (by decide)), if_pos h20]
    have l := fun i => wP5_l (a := 216) (b := 217) (k := 0) (L := L) (h := sI h 215 0 0) (by decide) hl' (x := wX5 a b c d e) i
    have q : ∀ i, i < 5 → qM_four (wX5 a b c d e i) (wP5 216 217 0 (wX5 a b c d e) L (sI h 215 0 0) i) = some (wP5 216 217 0 (wX5 a b c d e) L (sI h 215 0 0) (i + 1)) := fun i hi => qM_four_ev (l i) (by omega)
    have q0 : qM_four a (sI h 215 0 0) = some (wP5 216 217 0 (wX5 a b c d e) L (sI h 215 0 0) 1) := q 0 (by omega)
    have q1 : qM_four b (wP5 216 217 0 (wX5 a b c d e) L (sI h 215 0 0) 1) = some (wP5 216 217 0 (wX5 a b c d e) L (sI h 215 0 0) 2) := q 1 (by omega)
    have q2 : qM_four c (wP5 216 217 0 (wX5 a b c d e) L (sI h 215 0 0) 2) = some (wP5 216 217 0 (wX5 a b c d e) L (sI h 215 0 0) 3) := q 2 (by omega)
    have q3 : qM_four d (wP5 216 217 0 (wX5 a b c d e) L (sI h 215 0 0) 3) = some (wP5 216 217 0 (wX5 a b c d e) L (sI h 215 0 0) 4) := q 3 (by omega)
    have q4 : qM_four e (wP5 216 217 0 (wX5 a b c d e) L (sI h 215 0 0) 4) = some (wP5 216 217 0 (wX5 a b c d e) L (sI h 215 0 0) 5) := q 4 (by omega)
    rw [q0, Option.bind_some, q1, Option.bind_some, q2, Option.bind_some, q3, Option.bind_some, q4, Option.bind_some]
    exact congrArg some (Prod.ext (l 5) rfl)
  · rw [if_neg (show ¬ nI (L + 20) ≤ (600 : Int32) from nI_ge (a := 600) (by omega) (by omega)), if_neg h20]
/-- the told texts and the images do not look at the tape of the slot in hand -/
theorem InvB_tp {h h' : zK} (H : InvB h) (tp : wTp h' 1 0) (g : ∀ a, wKp a → a ≠ 1 → a ≠ 2 → a ≠ 216 → a ≠ 217 → h'.2.1 a = h.2.1 a) (g1 : ∀ j, j ≠ 1 → gI h' 1 j = gI h 1 j) (g2 : ∀ j, 600 ≤ j → gI h' 216 j = gI h 216 j) (g3 : ∀ j, j ≠ 0 → gI h' 217 j = gI h 217 j) : InvB h' := by
  have gg : ∀ a, wKp a → a ≠ 1 → a ≠ 2 → a ≠ 216 → a ≠ 217 → ∀ j, gI h' a j = gI h a j := fun a h1 h2 h3 h4 h5 j => congrFun (g a h1 h2 h3 h4 h5) j
  have k1 : ∀ a, 3 ≤ a → a ≤ 146 → ∀ j, gI h' a j = gI h a j := fun a h1 h2 j => gg a (Or.inl ⟨by omega, h2⟩) (by omega) (by omega) (by omega) (by omega) j
  have k2 : ∀ a, 218 ≤ a → a ≤ 223 → ∀ j, gI h' a j = gI h a j := fun a h1 h2 j => gg a (Or.inr (Or.inl ⟨by omega, h2⟩)) (by omega) (by omega) (by omega) (by omega) j
  have tx : ∀ T s, 1 ≤ T → T + 36 ≤ 146 → wTx h T s → wTx h' T s := by
    intro T s t1 t2 ⟨m, m1, m2, m3, m4⟩
    refine ⟨m, fun r hr => ⟨(m1 r hr).1, (k1 _ (by omega) (by omega) _).trans (m1 r hr).2.1, (k2 220 (by omega) (by omega) _).trans (m1 r hr).2.2⟩, fun k hk => ?_, fun k hk => ?_, fun k hk => ?_⟩
    · obtain ⟨c, c1, ⟨a1, a2, a3, a4⟩, ⟨b1, b2, b3, b4⟩⟩ := m2 k hk
      have := (m1 0 (by omega)).1
      exact ⟨c, c1, ⟨(k1 _ (by omega) (by omega) _).trans a1, (k1 _ (by omega) (by omega) _).trans a2, (k1 _ (by omega) (by omega) _).trans a3, fun i s hi hs => (k1 _ (by omega) (by omega) _).trans (a4 i s hi hs)⟩, ⟨(k2 221 (by omega) (by omega) _).trans b1, (k2 221 (by omega) (by omega) _).trans b2, (k2 221 (by omega) (by omega) _).trans b3, fun i s hi hs => (k2 221 (by omega) (by omega) _).trans (b4 i s hi hs)⟩⟩
    · obtain ⟨c, c1, ⟨a1, a2⟩, ⟨b1, b2⟩⟩ := m3 k hk
      have := (m1 1 (by omega)).1
      exact ⟨c, c1, ⟨(k1 _ (by omega) (by omega) _).trans a1, fun i s hi hs => (k1 _ (by omega) (by omega) _).trans (a2 i s hi hs)⟩, ⟨(k2 222 (by omega) (by omega) _).trans b1, fun i s hi hs => (k2 222 (by omega) (by omega) _).trans (b2 i s hi hs)⟩⟩
    · obtain ⟨c, c1, ⟨a1, a2⟩, ⟨b1, b2⟩⟩ := m4 k hk
      have := (m1 2 (by omega)).1
      exact ⟨c, c1, ⟨(k1 _ (by omega) (by omega) _).trans a1, fun i s hi hs => (k1 _ (by omega) (by omega) _).trans (a2 i s hi hs)⟩, ⟨(k2 223 (by omega) (by omega) _).trans b1, fun i s hi hs => (k2 223 (by omega) (by omega) _).trans (b2 i s hi hs)⟩⟩
  obtain ⟨⟨-, ⟨f1, f2⟩, x⟩, im⟩ := H
  refine ⟨⟨tp, ⟨?_, ?_⟩, tx 1 0 (by omega) (by omega) x⟩, fun j hj => ?_⟩
  · rw [g1 2 (by omega), k2 218 (by omega) (by omega)]; exact f1
  · rw [g1 3 (by omega), k2 219 (by omega) (by omega)]; exact f2
  · obtain ⟨i1, i2, i3⟩ := im j hj
    have e236 : gI h' 236 j = gI h 236 j := gg 236 (Or.inr (Or.inr rfl)) (by omega) (by omega) (by omega) (by omega) j
    rw [k1 146 (by omega) (by omega), e236]
    refine ⟨i1, i2, fun hh => ?_⟩
    obtain ⟨⟨len, l1, l2, l3, l4⟩, ⟨q1, q2⟩, q3⟩ := i3 hh
    refine ⟨⟨len, l1, (k1 _ (by omega) (by omega) _).trans l2, (g3 _ (by omega)).trans l3, fun t ht => ?_⟩, ⟨?_, ?_⟩, tx _ _ (by omega) (by omega) q3⟩
    · rw [k1 (38 + 36 * j + 1) (by omega) (by omega), g2 _ (by omega)]
      exact l4 t ht
    · rw [k1 (38 + 36 * j) (by omega) (by omega), k2 218 (by omega) (by omega)]; exact q1
    · rw [k1 (38 + 36 * j) (by omega) (by omega), k2 219 (by omega) (by omega)]; exact q2
theorem wo_feed {h : zK} (H : InvB h) (a b c d e : Int32) : ∃ w h1 h2, qC_feed a b c d e h = some (w, h1) ∧ qM_feed a b c d e h1 = some (w, h2) ∧ InvB h2 := by
  obtain ⟨len, l1, l2, l3, l4⟩ := H.1.1
  rw [qC_feed_ev a b c d e l2 l1]
  by_cases h20 : len + 20 ≤ 600
  · rw [if_pos h20]
    let h1 : zK := wP5 2 1 1 (wX5 a b c d e) len h 5
    have e217 : gI h1 217 0 = nI len := (wP5_o (by decide) (by decide) 5).trans l3
    refine ⟨_, _, _, rfl, by rw [qM_feed_ev a b c d e e217 l1, if_pos h20], ?_⟩
    let h2 : zK := wP5 216 217 0 (wX5 a b c d e) len (sI h1 215 0 0) 5
    have hb : ∀ x i, (wBy x i).toInt8.toInt32 = wBy x i := fun x i => by
      unfold wBy
      simp
    have o2 : ∀ c j, c ≠ 216 → ¬ (c = 217 ∧ j = 0) → c ≠ 215 → gI h2 c j = gI h1 c j := fun c j q1 q2 q3 => (wP5_o q1 q2 5).trans (gI_ne q3)
    have o1 : ∀ c j, c ≠ 2 → ¬ (c = 1 ∧ j = 1) → gI h1 c j = gI h c j := fun c j q1 q2 => wP5_o q1 q2 5
    have a2 : ∀ j, gI h2 2 j = if len ≤ j ∧ j < len + 20 then wBy (wX5 a b c d e ((j - len) / 4)) ((j - len) % 4) else gI h 2 j := fun j => (o2 2 j (by decide) (by omega) (by decide)).trans (wP5_a (by decide) j 5)
    have a216 : ∀ j, gI h2 216 j = if len ≤ j ∧ j < len + 20 then wBy (wX5 a b c d e ((j - len) / 4)) ((j - len) % 4) else gI h 216 j := fun j => (wP5_a (by decide) j 5).trans (by
      rw [show gI (sI h1 215 0 0) 216 j = gI h 216 j from (gI_ne (by decide)).trans (o1 216 j (by decide) (by omega))])
    refine InvB_tp (h := h) H ⟨len + 20, h20, ?_, ?_, fun j hj => ?_⟩ (fun x h1' h2' h3 h4 h5 => ?_) (fun j hj => ?_) (fun j hj => ?_) (fun j hj => ?_)
    · exact (o2 1 1 (by decide) (by decide) (by decide)).trans (wP5_l (by decide) l2 5)
    · exact wP5_l (by decide) ((gI_ne (by decide)).trans e217) 5
    · show gI h2 2 j = gI h2 216 (600 * 0 + j) ∧ (gI h2 2 j).toInt8.toInt32 = gI h2 2 j
      rw [show 600 * 0 + j = j by omega, a2, a216]
      by_cases q : len ≤ j ∧ j < len + 20
      · rw [if_pos q, if_pos q]
        exact ⟨rfl, hb _ _⟩
      · rw [if_neg q, if_neg q]
        have := l4 j (by omega)
        rw [show 600 * 0 + j = j by omega] at this
        exact this
    · funext j
      have hk : x ≠ 215 := by
        unfold wKp at h1'
        omega
      exact (o2 x j h4 (fun z => h5 z.1) hk).trans (o1 x j h3 (fun z => h2' z.1))
    · exact (o2 1 j (by decide) (by omega) (by decide)).trans (o1 1 j (by decide) (fun z => hj z.2))
    · rw [show gI _ 216 j = _ from a216 j, if_neg (by omega)]
    · exact (o2 217 j (by decide) (fun z => hj z.2) (by decide)).trans (o1 217 j (by decide) (by omega))
  · rw [if_neg h20]
    exact ⟨_, _, _, rfl, by rw [qM_feed_ev a b c d e l3 l1, if_neg h20], InvB_eq (wEq_s (by unfold wKp; omega)) H⟩
theorem wo_end {h : zK} (H : InvB h) (x : Int32) : ∃ w h1 h2, qC_end x h = some (w, h1) ∧ qM_end x h1 = some (w, h2) ∧ InvB h2 := by
  obtain ⟨len, l1, l2, l3, l4⟩ := H.1.1
  unfold qC_end qM_end
  simp only [zlet]
  rw [l2]
  have e1 : ∀ g : zK, gI g 217 0 = nI len → zf_in x 0 (gI (sI g 215 0 0) 217 0) = zf_in x 0 (nI (len + 1) - 1) := fun g e => by
    rw [gI_ne (by decide), e, nI_pred]
  rcases zf_in_n (m := len + 1) (by omega) x with ⟨j, hj, rfl, hz⟩ | ⟨ha, hz⟩
  · rw [if_neg (nI_pos (by omega)), if_pos (nI_le (by omega) (by omega))]
    refine ⟨nI j, sI h 1 1 (nI j), sI (sI (sI h 1 1 (nI j)) 215 0 0) 217 0 (nI j), rfl, ?_, ?_⟩
    · rw [e1 _ ((gI_ne (by decide)).trans l3), hz, if_pos (show ¬ (1 : Int32) = 0 by decide)]
    · refine InvB_tp (h := h) H ⟨j, by omega, rfl, rfl, fun t ht => ?_⟩ (fun y h1' h2' h3 h4 h5 => ?_) (fun t ht => ?_) (fun t ht => rfl) (fun t ht => ?_)
      · exact l4 t (by omega)
      · funext t
        have hk : y ≠ 215 := by
          unfold wKp at h1'
          omega
        show gI _ y t = gI h y t
        rw [gI_ne h5, gI_ne hk, gI_ne h2']
      · rw [gI_ne (by decide), gI_ne (by decide), gI_nk ht]
      · rw [gI_nk ht, gI_ne (by decide), gI_ne (by decide)]
  · refine ⟨-1, h, sI h 215 0 0, ?_, ?_, InvB_eq (wEq_s (by unfold wKp; omega)) H⟩
    · rcases ha with ha | ⟨j, h1, h2, rfl⟩
      · rw [if_pos ha]
      · rw [if_neg (nI_pos h2), if_neg (nI_ge (by omega) h2)]
    · rw [e1 _ l3, hz]
      rfl
