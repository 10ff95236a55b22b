/-! EVALUATIONS of the small methods: is, of, hand, cellarAt, deedsAt, logAt -/
theorem nI_mul (a b : Nat) : nI a * nI b = nI (a * b) := (Int32.ofNat_mul a b).symm
theorem nI_m1 : nI 0 - 1 = -1 := by decide
theorem zfu_lt {m : Nat} (h : m < 20000) : m < zfu := h
theorem zf_in_n {m : Nat} (hm : m < 2 ^ 31) (a : Int32) : (∃ j, j < m ∧ a = nI j ∧ zf_in a 0 (nI m - 1) = 1) ∨ ((a < 0 ∨ ∃ j, m ≤ j ∧ j < 2 ^ 31 ∧ a = nI j) ∧ zf_in a 0 (nI m - 1) = 0) := by
  by_cases ha : a < 0
  · refine Or.inr ⟨Or.inl ha, ?_⟩
    unfold zf_in
    rw [if_neg (Int32.not_le.mpr ha)]
  · obtain ⟨j, hj, rfl⟩ := nI_of ha
    by_cases h2 : j < m
    · refine Or.inl ⟨j, h2, rfl, ?_⟩
      obtain ⟨q, rfl⟩ : ∃ q, m = q + 1 := ⟨m - 1, by omega⟩
      unfold zf_in
      rw [if_pos (Int32.not_lt.mp ha), nI_pred, if_pos (nI_le (by omega) (by omega))]
    · refine Or.inr ⟨Or.inr ⟨j, by omega, hj, rfl⟩, ?_⟩
      unfold zf_in
      rw [if_pos (Int32.not_lt.mp ha)]
      cases m with
      | zero =>
        rw [nI_m1, if_neg]
        intro hh
        rw [Int32.le_iff_toInt_le, nI_toInt hj] at hh
        have e : (-1 : Int32).toInt = -1 := rfl
        rw [e] at hh
        omega
      | succ q =>
        rw [nI_pred, if_neg]
        intro hh
        rw [nI_leI hj (by omega)] at hh
        omega
theorem zbool_in (a lo hi : Int32) : zbool (zf_in a lo hi) = true := by
  unfold zf_in
  split
  · split
    · rfl
    · rfl
  · rfl
theorem qM_is_ev {r : Nat} {x a : Int32} {h : zK} {m : Nat} (hx : x = nI r) (hr : r < 3) (hm : gI h 220 r = nI m) : qM_is x a h = some (zf_in a 0 (nI m - 1)) := by
  unfold qM_is
  rw [hx, zix_nI (by omega) (by omega), Option.bind_some, if_pos (zbool_in _ _ _), hm]
theorem qM_of_ev {h : zK} {k j : Nat} {x : Int32} (hk : gI h 215 22 = nI k) (hx : x = nI j) (hj : 52 * k + j < 416) : qM_of x h = some (gI h 221 (52 * k + j)) := by
  unfold qM_of
  rw [hk, hx, show (52 : Int32) = nI 52 from rfl, nI_mul, nI_add, zix_nI hj (by omega), Option.bind_some]
/-- the reference has taken a cellar in hand -/
def mB (h : zK) (k : Nat) (c : wC) : Prop := k < 2 ∧ gI h 215 22 = nI k ∧ gI h 215 23 = nI c.1 ∧ cM h (52 * k) c
def mB2 (h : zK) (c : wC) : Prop := gI h 215 24 = nI c.2.1 ∧ gI h 215 25 = nI c.2.2.1
def mB3 (h : zK) (c : wC) : Prop := (∀ k, 26 ≤ k → k < 33 → gI h 215 k = 0) ∧ ∀ s, s < c.1 → gI h 226 s = nI (c.2.2.2 0 s) ∧ gI h 227 s = nI (c.2.2.2 2 s) ∧ gI h 228 s = nI (c.2.2.2 4 s) ∧ gI h 229 s = nI (c.2.2.2 5 s)
theorem mB_of {h : zK} {k : Nat} {c : wC} (B : mB h k c) (hc : c.1 ≤ 7) {i s : Nat} {x : Int32} (hi : i < 7) (hs : s < c.1) (hx : x = nI (3 + 7 * i + s)) : qM_of x h = some (nI (c.2.2.2 i s)) := by
  obtain ⟨h1, h2, h3, h4⟩ := B
  rw [qM_of_ev h2 hx (by omega), ← h4.2.2.2 i s hi hs]
  congr 2
  omega
theorem qM_asTold_ev {h : zK} {k : Nat} {c : wC} (B : mB h k c) (hc : c.1 ≤ 7) : ∃ h', qM_asTold h = some h' ∧ mB h' k c ∧ mB3 h' c ∧ (∀ j, 22 ≤ j → j < 26 → gI h' 215 j = gI h 215 j) ∧ ∀ j, 33 ≤ j → gI h' 215 j = gI h 215 j := by
  unfold qM_asTold
  simp only [zlet]
  let h7 : zK := sI (sI (sI (sI (sI (sI (sI h 215 26 0) 215 27 0) 215 28 0) 215 29 0) 215 30 0) 215 31 0) 215 32 0
  have e7 : ∀ a j, a ≠ 215 → gI h7 a j = gI h a j := fun a j ha => by
    show gI (sI _ _ _ _) _ _ = _
    rw [gI_ne ha, gI_ne ha, gI_ne ha, gI_ne ha, gI_ne ha, gI_ne ha, gI_ne ha]
  have f7 : ∀ j, j < 26 → gI h7 215 j = gI h 215 j := fun j hj => by
    show gI (sI _ _ _ _) _ _ = _
    rw [gI_nk (by omega), gI_nk (by omega), gI_nk (by omega), gI_nk (by omega), gI_nk (by omega), gI_nk (by omega), gI_nk (by omega)]
  have f8 : ∀ j, 33 ≤ j → gI h7 215 j = gI h 215 j := fun j hj => by
    show gI (sI _ _ _ _) _ _ = _
    rw [gI_nk (by omega), gI_nk (by omega), gI_nk (by omega), gI_nk (by omega), gI_nk (by omega), gI_nk (by omega), gI_nk (by omega)]
  have z7 : ∀ j, 26 ≤ j → j < 33 → gI h7 215 j = 0 := by
    intro j h1 h2
    rcases (by omega : j = 26 ∨ j = 27 ∨ j = 28 ∨ j = 29 ∨ j = 30 ∨ j = 31 ∨ j = 32) with rfl | rfl | rfl | rfl | rfl | rfl | rfl <;> rfl
  have key : ∃ t, zloop (qM_asTold_b37) zfu (0, h7) = some t ∧ (t.2.1 215 = h7.2.1 215 ∧ t.2.1 221 = h7.2.1 221 ∧ ∀ s, s < 7 → gI t 226 s = gI h7 221 (52 * k + (3 + s)) ∧ gI t 227 s = gI h7 221 (52 * k + (17 + s)) ∧ gI t 228 s = gI h7 221 (52 * k + (31 + s)) ∧ gI t 229 s = gI h7 221 (52 * k + (38 + s))) := by
    refine zloop_me (Q := fun n x => ∃ i g, x = (nI i, g) ∧ n + i = 7 ∧ g.2.1 215 = h7.2.1 215 ∧ g.2.1 221 = h7.2.1 221 ∧ ∀ s, s < i → gI g 226 s = gI h7 221 (52 * k + (3 + s)) ∧ gI g 227 s = gI h7 221 (52 * k + (17 + s)) ∧ gI g 228 s = gI h7 221 (52 * k + (31 + s)) ∧ gI g 229 s = gI h7 221 (52 * k + (38 + s))) ?_ zfu 7 _ ⟨0, h7, rfl, rfl, rfl, rfl, fun s hs => absurd hs (Nat.not_lt_zero s)⟩ (zfu_lt (by omega))
    rintro n x ⟨i, g, rfl, hn, h1, h2, h3⟩
    have hk : ∀ g' : zK, g'.2.1 215 = h7.2.1 215 → gI g' 215 22 = nI k := fun g' e => by
      show g'.2.1 215 22 = _
      rw [e]
      exact (f7 22 (by omega)).trans B.2.1
    unfold qM_asTold_b37
    dsimp only
    by_cases hi : i < 7
    · refine Or.inr ⟨n - 1, (nI (i + 1), sI (sI (sI (sI g 226 i (gI g 221 (52 * k + (3 + i)))) 227 i (gI g 221 (52 * k + (17 + i)))) 228 i (gI g 221 (52 * k + (31 + i)))) 229 i (gI g 221 (52 * k + (38 + i)))), ?_, by omega, i + 1, _, rfl, by omega, h1, h2, ?_⟩
      · have hb := B.1
        rw [if_neg (show ¬ (7 : Int32) ≤ nI i from nI_ge (b := 7) hi (by decide)), qM_of_ev (x := 3 + nI i) (k := k) (j := 3 + i) (hk g h1) (nI_add 3 i) (by omega), Option.bind_some, zix_nI hi (by omega), Option.bind_some]
        simp only [zlet]
        rw [qM_of_ev (h := sI g 226 i _) (x := 17 + nI i) (k := k) (j := 17 + i) (hk _ h1) (nI_add 17 i) (by omega), Option.bind_some, qM_of_ev (h := sI (sI g 226 i _) 227 i _) (x := 31 + nI i) (k := k) (j := 31 + i) (hk _ h1) (nI_add 31 i) (by omega), Option.bind_some, qM_of_ev (h := sI (sI (sI g 226 i _) 227 i _) 228 i _) (x := 38 + nI i) (k := k) (j := 38 + i) (hk _ h1) (nI_add 38 i) (by omega), Option.bind_some, nI_1]
        rfl
      · intro s hs
        have e2 : ∀ j, gI g 221 j = gI h7 221 j := fun j => congrFun h2 j
        by_cases e : s = i
        · subst e
          simp only [gI_sI, e2]
          simp
        · have := h3 s (by omega)
          simp only [gI_sI]
          simp [e]
          exact this
    · refine Or.inl ⟨g, ?_, h1, h2, fun s hs => h3 s (by omega)⟩
      rw [if_pos (show (7 : Int32) ≤ nI i from nI_le (a := 7) (by omega) (by omega))]
  obtain ⟨t, e, t1, t2, t3⟩ := key
  have g2 : ∀ j, gI t 221 j = gI h 221 j := fun j => (congrFun t2 j).trans (e7 221 j (by omega))
  have g1 : ∀ j, j < 26 → gI t 215 j = gI h 215 j := fun j hj => (congrFun t1 j).trans (f7 j hj)
  refine ⟨t, ?_, ⟨B.1, (g1 22 (by omega)).trans B.2.1, (g1 23 (by omega)).trans B.2.2.1, ?_⟩, ⟨fun j ha hb => (congrFun t1 j).trans (z7 j ha hb), fun s hs => ?_⟩, fun j _ hj => g1 j hj, fun j hj => (congrFun t1 j).trans (f8 j hj)⟩
  · show (zloop (qM_asTold_b37) zfu (0, h7)).bind _ = _
    rw [e]; rfl
  · obtain ⟨a, b, d, f⟩ := B.2.2.2
    exact ⟨(g2 _).trans a, (g2 _).trans b, (g2 _).trans d, fun i s hi hs => (g2 _).trans (f i s hi hs)⟩
  · obtain ⟨a1, a2, a3, a4⟩ := t3 s (by omega)
    have f := B.2.2.2.2.2.2
    have e7' : ∀ j, gI h7 221 j = gI h 221 j := fun j => e7 221 j (by omega)
    refine ⟨?_, ?_, ?_, ?_⟩
    · rw [a1, e7', ← f 0 s (by omega) hs]; congr 1; omega
    · rw [a2, e7', ← f 2 s (by omega) hs]; congr 1; omega
    · rw [a3, e7', ← f 4 s (by omega) hs]; congr 1; omega
    · rw [a4, e7', ← f 5 s (by omega) hs]; congr 1; omega
theorem qM_hand_n {a : Int32} {h : zK} {m : Nat} (hm : gI h 220 0 = nI m) (ha : zf_in a 0 (nI m - 1) = 0) : qM_hand a h = some (0, h) := by
  unfold qM_hand
  rw [qM_is_ev (x := 0) (r := 0) rfl (by omega) hm, Option.bind_some, ha]
  rfl
theorem qM_hand_y {h : zK} {m k : Nat} {c : wC} (hm : gI h 220 0 = nI m) (ha : zf_in (nI k) 0 (nI m - 1) = 1) (hk : k < 2) (hc : c.1 ≤ 7) (hM : cM h (52 * k) c) : ∃ h', qM_hand (nI k) h = some (1, h') ∧ mB h' k c ∧ mB2 h' c ∧ mB3 h' c ∧ ∀ j, 33 ≤ j → gI h' 215 j = gI h 215 j := by
  unfold qM_hand
  rw [qM_is_ev (x := 0) (r := 0) rfl (by omega) hm, Option.bind_some, ha]
  simp only [zlet]
  rw [if_pos (by decide)]
  obtain ⟨a, b, d, f⟩ := hM
  rw [qM_of_ev (x := 2) (k := k) (j := 2) (by rfl) rfl (by omega), Option.bind_some, qM_of_ev (x := 0) (k := k) (j := 0) (by rfl) rfl (by omega), Option.bind_some, qM_of_ev (x := 1) (k := k) (j := 1) (by rfl) rfl (by omega), Option.bind_some]
  obtain ⟨h', e1, e2, e3, e4, e5⟩ := qM_asTold_ev (h := sI (sI (sI (sI h 215 22 (nI k)) 215 23 (nI c.1)) 215 24 (nI c.2.1)) 215 25 (nI c.2.2.1)) (k := k) (c := c) ⟨hk, rfl, rfl, a, b, d, f⟩ hc
  have q1 : gI h 221 (52 * k + 2) = nI c.1 := d
  have q2 : gI h 221 (52 * k + 0) = nI c.2.1 := a
  have q3 : gI h 221 (52 * k + 1) = nI c.2.2.1 := b
  refine ⟨h', ?_, e2, ⟨(e4 24 (by omega) (by omega)).trans rfl, (e4 25 (by omega) (by omega)).trans rfl⟩, e3, fun j hj => by
    rw [e5 j hj, gI_nk (by omega), gI_nk (by omega), gI_nk (by omega), gI_nk (by omega)]⟩
  show (qM_asTold (sI (sI (sI (sI h 215 22 (nI k)) 215 23 (gI h 221 (52 * k + 2))) 215 24 (gI h 221 (52 * k + 0))) 215 25 (gI h 221 (52 * k + 1)))).bind _ = _
  rw [q1, q2, q3, e1]
  rfl
/-- the class's way to a cellar, and the reference's -/
theorem wcell {h : zK} (H : InvB h) (a : Int32) : (qT_cellarAt a h = some none ∧ ∀ h', wEq h h' → qM_hand a h' = some (0, h')) ∨ ∃ k c, k < 2 ∧ a = nI k ∧ wCok c ∧ cC h (7 + 15 * k) c ∧ cM h (52 * k) c ∧ qT_cellarAt a h = some (some (7 + 15 * k)) ∧ (7 + 15 * k = 7 ∨ 7 + 15 * k = 22) ∧ ∀ h', wEq h h' → ∃ h2, qM_hand a h' = some (1, h2) ∧ mB h2 k c ∧ mB2 h2 c ∧ mB3 h2 c ∧ ∀ j, 33 ≤ j → gI h2 215 j = gI h' 215 j := by
  obtain ⟨-, -, m, m1, m2, -, -⟩ := H.1
  obtain ⟨p1, p2, p3⟩ := m1 0 (by omega)
  have g3 : gI h 3 0 = nI (m 0) := p2
  have g220 : ∀ h', wEq h h' → gI h' 220 0 = nI (m 0) := fun h' e => (wEq_g e (by unfold wKp; omega) 0).trans p3
  rcases zf_in_n (m := m 0) (by omega) a with ⟨j, hj, rfl, hz⟩ | ⟨ha, hz⟩
  · obtain ⟨c, c1, c2, c3⟩ := m2 j hj
    have c2' : cC h (7 + 15 * j) c := c2
    have c3' : cM h (52 * j) c := by
      have e : 52 * (2 * 0 + j) = 52 * j := by omega
      rw [e] at c3; exact c3
    refine Or.inr ⟨j, c, by omega, rfl, c1, c2', c3', ?_, by omega, fun h' e => qM_hand_y (g220 h' e) hz (by omega) c1.1 (cM_eq e c3')⟩
    unfold qT_cellarAt
    rw [if_neg (nI_pos (by omega)), g3, if_neg (nI_ge hj (by omega)), zix_nI (by omega) (by omega), Option.bind_some]
    rcases (by omega : j = 0 ∨ j = 1) with rfl | rfl <;> rfl
  · refine Or.inl ⟨?_, fun h' e => qM_hand_n (g220 h' e) hz⟩
    unfold qT_cellarAt
    rcases ha with ha | ⟨j, h1, h2, rfl⟩
    · rw [if_pos ha]
    · rw [if_neg (nI_pos h2), g3, if_pos (nI_le h1 h2)]
theorem wdeed {h : zK} (H : InvB h) (a : Int32) : (qT_deedsAt a h = some none ∧ ∀ h', wEq h h' → qM_hasYears a h' = some (0, sI h' 215 37 a)) ∨ ∃ k d, k < 2 ∧ a = nI k ∧ wDok d ∧ dC h (15 + 15 * k) d ∧ dM h (121 * k) d ∧ qT_deedsAt a h = some (some (15 + 15 * k)) ∧ (15 + 15 * k = 15 ∨ 15 + 15 * k = 30) ∧ ∀ h', wEq h h' → qM_hasYears a h' = some (1, sI h' 215 37 a) := by
  obtain ⟨-, -, m, m1, -, m2, -⟩ := H.1
  obtain ⟨p1, p2, p3⟩ := m1 1 (by omega)
  have g3 : gI h 3 1 = nI (m 1) := p2
  have g220 : ∀ h', wEq h h' → gI (sI h' 215 37 a) 220 1 = nI (m 1) := fun h' e => (wEq_g e (by unfold wKp; omega) 1).trans p3
  have ev : ∀ h', wEq h h' → qM_hasYears a h' = some (zf_in a 0 (nI (m 1) - 1), sI h' 215 37 a) := fun h' e => by
    unfold qM_hasYears
    simp only [zlet]
    rw [qM_is_ev (x := 1) (r := 1) rfl (by omega) (g220 h' e), Option.bind_some, if_pos (zbool_in _ _ _)]
  rcases zf_in_n (m := m 1) (by omega) a with ⟨j, hj, rfl, hz⟩ | ⟨ha, hz⟩
  · obtain ⟨c, c1, c2, c3⟩ := m2 j hj
    have c3' : dM h (121 * j) c := by
      have e : 121 * (2 * 0 + j) = 121 * j := by omega
      rw [e] at c3; exact c3
    refine Or.inr ⟨j, c, by omega, rfl, c1, c2, c3', ?_, by omega, fun h' e => by rw [ev h' e, hz]⟩
    unfold qT_deedsAt
    rw [if_neg (nI_pos (by omega)), g3, if_neg (nI_ge hj (by omega)), zix_nI (by omega) (by omega), Option.bind_some]
    rcases (by omega : j = 0 ∨ j = 1) with rfl | rfl <;> rfl
  · refine Or.inl ⟨?_, fun h' e => by rw [ev h' e, hz]⟩
    unfold qT_deedsAt
    rcases ha with ha | ⟨j, h1, h2, rfl⟩
    · rw [if_pos ha]
    · rw [if_neg (nI_pos h2), g3, if_pos (nI_le h1 h2)]
theorem wlog {h : zK} (H : InvB h) (a : Int32) : (qT_logAt a h = some none ∧ ∀ h', wEq h h' → qM_hasLog a h' = some (0, sI h' 215 43 a)) ∨ ∃ k d, k < 2 ∧ a = nI k ∧ wLok d ∧ lC h (19 + 15 * k) d ∧ lM h (17 * k) d ∧ qT_logAt a h = some (some (19 + 15 * k)) ∧ (19 + 15 * k = 19 ∨ 19 + 15 * k = 34) ∧ ∀ h', wEq h h' → qM_hasLog a h' = some (1, sI h' 215 43 a) := by
  obtain ⟨-, -, m, m1, -, -, m2⟩ := H.1
  obtain ⟨p1, p2, p3⟩ := m1 2 (by omega)
  have g3 : gI h 3 2 = nI (m 2) := p2
  have g220 : ∀ h', wEq h h' → gI (sI h' 215 43 a) 220 2 = nI (m 2) := fun h' e => (wEq_g e (by unfold wKp; omega) 2).trans p3
  have ev : ∀ h', wEq h h' → qM_hasLog a h' = some (zf_in a 0 (nI (m 2) - 1), sI h' 215 43 a) := fun h' e => by
    unfold qM_hasLog
    simp only [zlet]
    rw [qM_is_ev (x := 2) (r := 2) rfl (by omega) (g220 h' e), Option.bind_some, if_pos (zbool_in _ _ _)]
  rcases zf_in_n (m := m 2) (by omega) a with ⟨j, hj, rfl, hz⟩ | ⟨ha, hz⟩
  · obtain ⟨c, c1, c2, c3⟩ := m2 j hj
    have c3' : lM h (17 * j) c := by
      have e : 17 * (2 * 0 + j) = 17 * j := by omega
      rw [e] at c3; exact c3
    refine Or.inr ⟨j, c, by omega, rfl, c1, c2, c3', ?_, by omega, fun h' e => by rw [ev h' e, hz]⟩
    unfold qT_logAt
    rw [if_neg (nI_pos (by omega)), g3, if_neg (nI_ge hj (by omega)), zix_nI (by omega) (by omega), Option.bind_some]
    rcases (by omega : j = 0 ∨ j = 1) with rfl | rfl <;> rfl
  · refine Or.inl ⟨?_, fun h' e => by rw [ev h' e, hz]⟩
    unfold qT_logAt
    rcases ha with ha | ⟨j, h1, h2, rfl⟩
    · rw [if_pos ha]
    · rw [if_neg (nI_pos h2), g3, if_pos (nI_le h1 h2)]
