/-! LAWS: the year to ask, the odds -/
section ASK
variable {h x : zK} {m k : Nat} {K : Nat → Nat} {c : wC}
/-- how many of the first j laws have v bursts in year y -/
def yCt (c : wC) (K : Nat → Nat) (y v j : Nat) : Nat := fb_ct (fun i => decide (yB c (K i) y = v)) j
def yAk (c : wC) (K : Nat → Nat) (y j : Nat) : Nat := yMx (fun v => yCt c K y v j) 8
theorem yCt_s (c : wC) (K : Nat → Nat) (y v j : Nat) : yCt c K y v (j + 1) = yCt c K y v j + (if yB c (K j) y = v then 1 else 0) := by
  unfold yCt
  rw [fb_ct_succ]
  by_cases e : yB c (K j) y = v
  · rw [decide_eq_true e, if_pos rfl, if_pos e]
  · rw [decide_eq_false e, if_neg (by decide), if_neg e]
theorem yCt_le (c : wC) (K : Nat → Nat) (y v j : Nat) : yCt c K y v j ≤ j := fb_ct_le _ _
theorem yAk_le (c : wC) (K : Nat → Nat) (y j : Nat) : yAk c K y j ≤ j := yMx_le 8 fun v _ => yCt_le c K y v j
theorem yAk_s (ok : wCok c) (K : Nat → Nat) (y j : Nat) : yAk c K y (j + 1) = if yAk c K y j < yCt c K y (yB c (K j) y) (j + 1) then yCt c K y (yB c (K j) y) (j + 1) else yAk c K y j := by
  have b7 := yB_7 (L := K j) ok y
  have own : yCt c K y (yB c (K j) y) (j + 1) ≤ yAk c K y (j + 1) := yMx_ge (F := fun v => yCt c K y v (j + 1)) (i := 8) (s := yB c (K j) y) (by omega)
  have old : yAk c K y j ≤ yAk c K y (j + 1) := yMx_le 8 fun v hv => by
    have a := yMx_ge (F := fun v => yCt c K y v (j + 1)) (i := 8) hv
    have b := yCt_s c K y v j
    have : yCt c K y v j ≤ yCt c K y v (j + 1) := by omega
    exact Nat.le_trans this a
  have up : ∀ b, yAk c K y j ≤ b → yCt c K y (yB c (K j) y) (j + 1) ≤ b → yAk c K y (j + 1) ≤ b := fun b h1 h2 => yMx_le 8 fun v hv => by
    by_cases e : yB c (K j) y = v
    · rw [← e]; exact h2
    · rw [yCt_s, if_neg e]
      have := yMx_ge (F := fun v => yCt c K y v j) (i := 8) hv
      have : yCt c K y v j ≤ yAk c K y j := this
      omega
  by_cases hl : yAk c K y j < yCt c K y (yB c (K j) y) (j + 1)
  · rw [if_pos hl]
    exact Nat.le_antisymm (up _ (by omega) (Nat.le_refl _)) own
  · rw [if_neg hl]
    exact Nat.le_antisymm (up _ (Nat.le_refl _) (by omega)) old
theorem qLw_mostAlike_ev (ok : wCok c) (hk : k < 2) (S : yLs h k c) (C : yRC h m K) {y : Nat} (h1 : 1 ≤ y) (h2 : y ≤ 20) : ∃ h', qLw_mostAlike (nI y) h = some (nI (yAk c K y m), h') ∧ yLs h' k c ∧ yRC h' m K := by
  have m1 := C.1
  have tr : ∀ g : zK, g.2.2 = h.2.2 → (∀ a j, a ≠ 214 → gI g a j = gI h a j) → yLs g k c ∧ yRC g m K := fun g e1 e2 => by
    refine ⟨⟨(e2 196 6 (by decide)).trans S.1, fun L hL => ?_⟩, C.1, (e2 196 0 (by decide)).trans C.2.1, fun j hj => ⟨(e2 197 j (by decide)).trans (C.2.2 j hj).1, (C.2.2 j hj).2⟩⟩
    rw [← S.2 L hL]
    show g.2.2 212 _ = h.2.2 212 _
    rw [e1]
  have z1 : ∃ t, zloop (qLw_mostAlike_b2 (nI y)) zfu (0, h) = some t ∧ (t.2.2 = h.2.2 ∧ (∀ a j, a ≠ 214 → gI t a j = gI h a j) ∧ ∀ v, v < 8 → gI t 214 v = nI 0) := by
    refine zloop_fx (S := fun i x => ∃ g, x = (nI i, g) ∧ g.2.2 = h.2.2 ∧ (∀ a j, a ≠ 214 → gI g a j = gI h a j) ∧ ∀ v, v < i → gI g 214 v = nI 0) 8 ?_ ?_ (zfu_lt (by omega)) ⟨h, rfl, rfl, fun _ _ _ => rfl, fun v hv => absurd hv (Nat.not_lt_zero _)⟩
    · rintro i x hi ⟨g, rfl, g1, g2, g3⟩
      unfold qLw_mostAlike_b2
      dsimp only
      rw [if_neg (show ¬ (7 : Int32) < nI i from nI_nlt (a := 7) (by omega) (by decide)), zix_nI (by omega) (by omega), Option.bind_some]
      simp only [zlet]
      rw [nI_1]
      refine ⟨_, rfl, _, rfl, g1, fun a j ha => (gI_ne ha).trans (g2 a j ha), fun v hv => ?_⟩
      by_cases e : v = i
      · subst e; exact gI_eq
      · rw [gI_nk e]; exact g3 v (by omega)
    · rintro x ⟨g, rfl, g1, g2, g3⟩
      unfold qLw_mostAlike_b2
      dsimp only
      rw [if_pos (show (7 : Int32) < nI 8 from nI_lt (a := 7) (by omega) (by decide))]
      exact ⟨_, rfl, g1, g2, g3⟩
  obtain ⟨t, e1, t1, t2, t3⟩ := z1
  have z2 : ∃ p, zloop (qLw_mostAlike_b25 (nI y)) zfu (0, 0, t) = some p ∧ ∃ g, p = (nI (yAk c K y m), g) ∧ g.2.2 = h.2.2 ∧ ∀ a j, a ≠ 214 → gI g a j = gI h a j := by
    refine zloop_fx (S := fun i x => ∃ g, x = (nI (yAk c K y i), nI i, g) ∧ g.2.2 = h.2.2 ∧ (∀ a j, a ≠ 214 → gI g a j = gI h a j) ∧ ∀ v, v < 8 → gI g 214 v = nI (yCt c K y v i)) m ?_ ?_ (zfu_lt (by omega)) ⟨t, rfl, t1, t2, t3⟩
    · rintro i x hi ⟨g, rfl, g1, g2, g3⟩
      obtain ⟨S', C'⟩ := tr g g1 g2
      obtain ⟨kk, kl⟩ := C'.2.2 i hi
      have b7 := yB_7 (L := K i) ok y
      have al := yAk_le c K y i
      have cl := yCt_le c K y (yB c (K i) y) (i + 1)
      unfold qLw_mostAlike_b25
      dsimp only
      rw [C'.2.1, if_neg (nI_ge hi (by omega)), zix_nI (by omega) (by omega), Option.bind_some, kk, qLw_burstsBy_ev ok hk S' kl h1 h2, Option.bind_some, zix_nI (by omega) (by omega), Option.bind_some]
      simp only [zlet]
      have up : nI (yCt c K y (yB c (K i) y) i) + 1 = nI (yCt c K y (yB c (K i) y) (i + 1)) := by rw [yCt_s, if_pos rfl, nI_1]
      rw [gI_eq, g3 _ (by omega), up, wmaxn (by omega) (by omega), ← yAk_s ok, nI_1]
      refine ⟨_, rfl, sI g 214 (yB c (K i) y) (nI (yCt c K y (yB c (K i) y) (i + 1))), rfl, g1, fun a j ha => (gI_ne ha).trans (g2 a j ha), fun v hv => ?_⟩
      by_cases e : v = yB c (K i) y
      · subst e; exact gI_eq
      · rw [gI_nk e, g3 v hv, yCt_s, if_neg (fun z => e z.symm)]
        rfl
    · rintro x ⟨g, rfl, g1, g2, g3⟩
      obtain ⟨-, C'⟩ := tr g g1 g2
      unfold qLw_mostAlike_b25
      dsimp only
      rw [C'.2.1, if_pos (nI_le (Nat.le_refl _) (by omega))]
      exact ⟨_, rfl, g, rfl, g1, g2⟩
  obtain ⟨p, e2, g, rfl, g1, g2⟩ := z2
  refine ⟨g, ?_, tr g g1 g2⟩
  unfold qLw_mostAlike
  rw [e1, Option.bind_some, e2]
  rfl
def yAsS (A : Nat → Nat) (y : Nat) (a : Option Nat) : Option Nat := match a with
  | none => some y
  | some b => if A y < A b then some y else some b
def yAs (A : Nat → Nat) (i : Nat) : Option Nat := wfold (fun j a => yAsS A (j + 1) a) none i
theorem yAs_s (A : Nat → Nat) (i : Nat) : yAs A (i + 1) = yAsS A (i + 1) (yAs A i) := rfl
theorem yAs_b {A : Nat → Nat} : ∀ i b, yAs A i = some b → 1 ≤ b ∧ b ≤ i
  | 0, b, h => by cases h
  | i + 1, b, h => by
    rw [yAs_s] at h
    cases e : yAs A i with
    | none => rw [e] at h; cases h; omega
    | some q =>
      have := yAs_b i q e
      rw [e] at h
      unfold yAsS at h
      dsimp only at h
      split at h <;> cases h <;> omega
def yAsL (A : Nat → Nat) : Option Nat → Nat
  | none => 101
  | some b => A b
theorem qLw_yearToAsk_ev (ok : wCok c) (hk : k < 2) (S : yLs h k c) (C : yRC h m K) : ∃ h', qLw_yearToAsk h = some (if m = 0 then -1 else wO (yAs (fun y => yAk c K y m) 20), h') := by
  have m1 := C.1
  by_cases h0 : m = 0
  · subst h0
    refine ⟨h, ?_⟩
    have e : zloop qLw_yearToAsk_b7 zfu (101, -1, 1, h) = some (-1, h) := zloop_e (n := 19999) (by
      unfold qLw_yearToAsk_b7
      dsimp only
      rw [C.2.1, if_pos (show nI 0 ≤ 0 by decide)])
    unfold qLw_yearToAsk
    rw [e]; rfl
  · have key : ∃ p, zloop qLw_yearToAsk_b7 zfu (101, -1, 1, h) = some p ∧ ∃ g, p = (wO (yAs (fun y => yAk c K y m) 20), g) := by
      refine zloop_fx (S := fun i x => ∃ g, x = (nI (yAsL (fun y => yAk c K y m) (yAs (fun y => yAk c K y m) i)), wO (yAs (fun y => yAk c K y m) i), nI (i + 1), g) ∧ yLs g k c ∧ yRC g m K) 20 ?_ ?_ (zfu_lt (by omega)) ⟨h, rfl, S, C⟩
      · rintro i x hi ⟨g, rfl, S', C'⟩
        obtain ⟨h', e1, e2, e3⟩ := qLw_mostAlike_ev ok hk S' C' (y := i + 1) (by omega) (by omega)
        have al := yAk_le c K (i + 1) m
        unfold qLw_yearToAsk_b7
        dsimp only
        rw [C'.2.1, if_neg (nI_nle (by omega) (by omega)), if_neg (show ¬ (20 : Int32) < nI (i + 1) from nI_nlt (a := 20) (by omega) (by decide)), e1, Option.bind_some]
        simp only [zlet]
        rw [nI_1]
        refine ⟨_, rfl, h', ?_, e2, e3⟩
        rw [yAs_s]
        cases e : yAs (fun y => yAk c K y m) i with
        | none =>
          rw [if_neg (show ¬ nI (yAsL (fun y => yAk c K y m) none) ≤ nI (yAk c K (i + 1) m) from nI_ge (a := yAk c K (i + 1) m) (b := 101) (by omega) (by omega))]
          rfl
        | some b =>
          have bl := yAk_le c K b m
          unfold yAsS
          dsimp only
          by_cases hl : yAk c K (i + 1) m < yAk c K b m
          · rw [if_neg (show ¬ nI (yAsL (fun y => yAk c K y m) (some b)) ≤ nI (yAk c K (i + 1) m) from nI_ge (a := yAk c K (i + 1) m) (b := yAk c K b m) hl (by omega)), if_pos hl]
            rfl
          · rw [if_pos (show nI (yAsL (fun y => yAk c K y m) (some b)) ≤ nI (yAk c K (i + 1) m) from nI_le (Nat.not_lt.mp hl) (by omega)), if_neg hl]
      · rintro x ⟨g, rfl, S', C'⟩
        unfold qLw_yearToAsk_b7
        dsimp only
        rw [C'.2.1, if_neg (nI_nle (by omega) (by omega)), if_pos (show (20 : Int32) < nI (20 + 1) from nI_lt (a := 20) (by omega) (by decide))]
        exact ⟨_, rfl, g, rfl⟩
    obtain ⟨p, e1, g, rfl⟩ := key
    refine ⟨g, ?_⟩
    unfold qLw_yearToAsk
    rw [e1, if_neg h0]; rfl
/-- the reference's years of those that fit -/
def yRY (x : zK) (m : Nat) (c : wC) (K : Nat → Nat) : Prop := ∀ j, j < m → ∀ y, 1 ≤ y → y ≤ 20 → gI x 235 (21 * j + y) = nI (yB c (K j) y)
theorem qM_alike_ev (ok : wCok c) (M : yRM x m K) (Y : yRY x m c K) {y : Nat} (h1 : 1 ≤ y) (h2 : y ≤ 20) : qM_alike (nI y) x = some (nI (yAk c K y m)) := by
  obtain ⟨m1, c0, cK⟩ := M
  have inner : ∀ (w : Int32) v, v < 8 → zloop (qM_alike_b16 (nI y) w (nI v) x) zfu (0, 0) = some (nI (yCt c K y v m)) := fun w v hv => by
    refine zloop_for (fun i => (nI (yCt c K y v i), nI i)) m (fun i hi => ?_) ?_ (zfu_lt (by omega))
    · unfold qM_alike_b16
      dsimp only
      have b7 := yB_7 (L := K i) ok y
      rw [c0, if_neg (nI_ge hi (by omega)), show (21 : Int32) = nI 21 from rfl, nI_mul, nI_add, zix_nI (by omega) (by omega), Option.bind_some, Y i hi y h1 h2, nI_1, yCt_s]
      simp only [zlet]
      by_cases e : yB c (K i) y = v
      · rw [if_neg (show ¬ ¬ nI (yB c (K i) y) = nI v from fun z => z (by rw [e])), if_pos e, nI_1]
      · rw [if_pos (show ¬ nI (yB c (K i) y) = nI v from fun z => e ((nI_eq (by omega) (by omega)).mp z)), if_neg e, Int32.add_zero]
        rfl
    · unfold qM_alike_b16
      dsimp only
      rw [c0, if_pos (nI_le (Nat.le_refl _) (by omega))]
  have e : zloop (qM_alike_b4 (nI y) x) zfu (0, 0) = some (nI (yAk c K y m)) := by
    refine zloop_for (fun i => (nI (yMx (fun v => yCt c K y v m) i), nI i)) 8 (fun i hi => ?_) ?_ (zfu_lt (by omega))
    · unfold qM_alike_b4
      dsimp only
      have a := yMx_le (F := fun v => yCt c K y v m) (b := m) i (fun v _ => yCt_le c K y v m)
      have b := yCt_le c K y i m
      rw [if_neg (show ¬ (7 : Int32) < nI i from nI_nlt (a := 7) (by omega) (by decide)), inner _ i hi, Option.bind_some, wgren (by omega) (by omega), nI_1]
      rfl
    · unfold qM_alike_b4
      dsimp only
      rw [if_pos (show (7 : Int32) < nI 8 from nI_lt (a := 7) (by omega) (by decide))]
      rfl
  unfold qM_alike
  rw [e]; rfl
theorem qM_ask_ev (ok : wCok c) (M : yRM x m K) (Y : yRY x m c K) : qM_ask x = some (if m = 0 then -1 else wO (yAs (fun y => yAk c K y m) 20)) := by
  have m1 := M.1
  unfold qM_ask
  by_cases h0 : m = 0
  · subst h0
    have e : zloop (qM_ask_b4 x) zfu (-1, 1) = some (-1) := zloop_e (n := 19999) (by
      unfold qM_ask_b4
      dsimp only
      rw [if_neg (show ¬ (20 : Int32) < 1 by decide), M.2.1, if_pos (show nI 0 ≤ 0 by decide)])
    rw [e]; rfl
  · have e : zloop (qM_ask_b4 x) zfu (-1, 1) = some (wO (yAs (fun y => yAk c K y m) 20)) := by
      refine zloop_for (fun i => (wO (yAs (fun y => yAk c K y m) i), nI (i + 1))) 20 (fun i hi => ?_) ?_ (zfu_lt (by omega))
      · unfold qM_ask_b4
        dsimp only
        have al := yAk_le c K (i + 1) m
        rw [if_neg (show ¬ (20 : Int32) < nI (i + 1) from nI_nlt (a := 20) (by omega) (by decide)), M.2.1, if_neg (nI_nle (by omega) (by omega)), nI_1, yAs_s, qM_alike_ev ok M Y (by omega) (by omega), Option.bind_some]
        cases e : yAs (fun y => yAk c K y m) i with
        | none => rw [if_pos (show wO none = -1 from rfl), Option.bind_some]; rfl
        | some b =>
          have bb := yAs_b i b e
          have bl := yAk_le c K b m
          rw [if_neg (show ¬ wO (some b) = -1 from nI_nm1 (by omega)), show wO (some b) = nI b from rfl, qM_alike_ev ok M Y (by omega) (by omega), Option.bind_some]
          unfold yAsS
          dsimp only
          by_cases hl : yAk c K (i + 1) m < yAk c K b m
          · rw [if_neg (nI_ge hl (by omega)), if_pos hl, Option.bind_some]
            rfl
          · rw [if_pos (nI_le (Nat.not_lt.mp hl) (by omega)), if_neg hl, Option.bind_some]
            rfl
      · unfold qM_ask_b4
        dsimp only
        rw [if_pos (show (20 : Int32) < nI (20 + 1) from nI_lt (a := 20) (by omega) (by decide))]
    rw [e, if_neg h0]; rfl
/-! odds -/
def yCr2 (K : Nat → Nat) (r j : Nat) : Nat := fb_ct (fun i => decide (K i / 10 = r)) j
theorem yCr2_s (K : Nat → Nat) (r j : Nat) : yCr2 K r (j + 1) = yCr2 K r j + (if K j / 10 = r then 1 else 0) := by
  unfold yCr2
  rw [fb_ct_succ]
  by_cases e : K j / 10 = r
  · rw [decide_eq_true e, if_pos rfl, if_pos e]
  · rw [decide_eq_false e, if_neg (by decide), if_neg e]
theorem yCr2_le (K : Nat → Nat) (r j : Nat) : yCr2 K r j ≤ j := fb_ct_le _ _
theorem qLw_sizeOfReach_ev (C : yRC h m K) {r : Nat} (hr : r < 10) : qLw_sizeOfReach (nI r) h = some (nI (yCr2 K r m)) := by
  obtain ⟨m1, c0, cK⟩ := C
  have e : zloop (qLw_sizeOfReach_b4 (nI r) h) zfu (0, 0) = some (nI (yCr2 K r m)) := by
    refine zloop_for (fun i => (nI (yCr2 K r i), nI i)) m (fun i hi => ?_) ?_ (zfu_lt (by omega))
    · unfold qLw_sizeOfReach_b4
      dsimp only
      obtain ⟨k1, k2⟩ := cK i hi
      rw [c0, if_neg (nI_ge hi (by omega)), zix_nI (by omega) (by omega), Option.bind_some, k1, wd10 k2, nI_1 i, yCr2_s]
      simp only [zlet]
      by_cases e : K i / 10 = r
      · rw [if_neg (show ¬ ¬ nI (K i / 10) = nI r from fun z => z (by rw [e])), if_pos e, nI_1]
      · rw [if_pos (show ¬ nI (K i / 10) = nI r from fun z => e ((nI_eq (by omega) (by omega)).mp z)), if_neg e]
        rfl
    · unfold qLw_sizeOfReach_b4
      dsimp only
      rw [c0, if_pos (nI_le (Nat.le_refl _) (by omega))]
  unfold qLw_sizeOfReach
  rw [e]; rfl
theorem qM_odds_b39_ev (M : yRM x m K) {r : Nat} (hr : r < 10) (x4 : Int32) : zloop (qM_odds_b39 (nI r) x4 x) zfu (0, 0) = some (nI (yCr2 K r m)) := by
  obtain ⟨m1, c0, cK⟩ := M
  refine zloop_for (fun i => (nI (yCr2 K r i), nI i)) m (fun i hi => ?_) ?_ (zfu_lt (by omega))
  · unfold qM_odds_b39
    dsimp only
    obtain ⟨k1, k2⟩ := cK i hi
    rw [c0, if_neg (nI_ge hi (by omega)), zix_nI (by omega) (by omega), Option.bind_some, k1, wd10 k2, nI_1, yCr2_s]
    simp only [zlet]
    by_cases e : K i / 10 = r
    · rw [if_neg (show ¬ ¬ nI (K i / 10) = nI r from fun z => z (by rw [e])), if_pos e, nI_1]
    · rw [if_pos (show ¬ nI (K i / 10) = nI r from fun z => e ((nI_eq (by omega) (by omega)).mp z)), if_neg e, Int32.add_zero]
      rfl
  · unfold qM_odds_b39
    dsimp only
    rw [c0, if_pos (nI_le (Nat.le_refl _) (by omega))]
theorem qM_common_ev {a b : Nat} (ha : a < 10000) (hb : b < 10000) : qM_common (nI a) (nI b) = some (nI (Nat.gcd b a)) := by
  have key : ∃ t, zloop qM_common_b4 zfu (nI a, nI b) = some t ∧ t = nI (Nat.gcd b a) := by
    refine zloop_me (Q := fun q s => ∃ u v, q = v ∧ u < 10000 ∧ v < 10000 ∧ Nat.gcd v u = Nat.gcd b a ∧ s = (nI u, nI v)) ?_ zfu b _ ⟨a, b, rfl, ha, hb, rfl, rfl⟩ (zfu_lt (by omega))
    rintro q s ⟨u, v, rfl, hu, hv, hg, rfl⟩
    unfold qM_common_b4
    dsimp only
    by_cases h0 : q = 0
    · subst h0
      rw [if_pos (show nI 0 = 0 from rfl)]
      rw [Nat.gcd_zero_left] at hg
      exact Or.inl ⟨_, rfl, by rw [hg]⟩
    · have md := Nat.mod_lt u (show 0 < q by omega)
      rw [if_neg (nI_ne0 (by omega) (by omega)), if_pos (nI_ne0 (by omega) (by omega)), nI_rem (by omega) (by omega)]
      refine Or.inr ⟨u % q, _, rfl, md, q, u % q, rfl, hv, by omega, ?_, rfl⟩
      rw [← hg, ← Nat.gcd_rec]
  obtain ⟨t, e, rfl⟩ := key
  unfold qM_common
  rw [e]; rfl
theorem lN_div {a b : Nat} (ha : a < 2 ^ 31) (hb : b < 2 ^ 31) : lN a / lN b = lN (a / b) := by
  apply Int64.toInt_inj.mp
  rw [Int64.toInt_div, lN_toInt ha, lN_toInt hb, lN_toInt (Nat.lt_of_le_of_lt (Nat.div_le_self a b) ha), ← Int.ofNat_tdiv]
  have := Nat.div_le_self a b
  generalize a / b = q at *
  exact Int.bmod_eq_of_le (by omega) (by omega)
theorem lN_rem {a b : Nat} (ha : a < 2 ^ 31) (hb : b < 2 ^ 31) : lN a - lN a / lN b * lN b = lN (a % b) := by
  have h1 : a / b * b ≤ a := Nat.div_mul_le_self a b
  rw [lN_div ha hb, lN_mul, lN_sub h1]
  have h2 := Nat.div_add_mod a b
  have h3 : a / b * b = b * (a / b) := Nat.mul_comm _ _
  congr 1
  omega
theorem lg_0 {a : Nat} (ha : a < 2 ^ 31) : lg_cmp (lN a) 0 = if a = 0 then 0 else 1 := by
  unfold lg_cmp
  by_cases h : a = 0
  · subst h
    rw [if_neg (show ¬ lN 0 > 0 by decide), if_pos (show lN 0 = 0 from rfl), if_pos rfl]
  · rw [if_pos (show lN a > 0 from (lN_lt (a := 0) (b := a) (by omega) ha).mpr (by omega)), if_neg h]
theorem qC_sharedDivisor_ev {a b : Nat} (ha : a ≤ 100) (hb : b ≤ 100) : qC_sharedDivisor (lN a) (lN b) = some (lN (Nat.gcd b a)) := by
  have key : ∃ t, zloop qC_sharedDivisor_b9 zfu (lN a, lN b, 0) = some t ∧ t = lN (Nat.gcd b a) := by
    refine zloop_me (Q := fun q s => ∃ u v i, q + i = 100 ∧ u ≤ 100 ∧ v + i ≤ 100 ∧ Nat.gcd v u = Nat.gcd b a ∧ s = (lN u, lN v, nI i)) ?_ zfu 100 _ ⟨a, b, 0, by omega, ha, by omega, rfl, rfl⟩ (zfu_lt (by omega))
    rintro q s ⟨u, v, i, hq, hu, hv, hg, rfl⟩
    unfold qC_sharedDivisor_b9
    dsimp only
    by_cases h0 : v = 0
    · subst h0
      rw [Nat.gcd_zero_left] at hg
      refine Or.inl ⟨lN u, ?_, by rw [hg]⟩
      by_cases hi : i < 100
      · rw [if_neg (show ¬ (100 : Int32) ≤ nI i from nI_ge (b := 100) hi (by decide)), lg_0 (by omega), if_pos rfl, if_pos rfl]
      · rw [if_pos (show (100 : Int32) ≤ nI i from nI_le (a := 100) (by omega) (by omega))]
    · have md := Nat.mod_lt u (show 0 < v by omega)
      have nz : ¬ lN v = 0 := fun z => h0 ((lN_eq (b := 0) (by omega) (by omega)).mp z)
      rw [if_neg (show ¬ (100 : Int32) ≤ nI i from nI_ge (b := 100) (by omega) (by decide)), lg_0 (by omega), if_neg h0, if_neg (show ¬ (1 : Int32) = 0 by decide), if_pos nz, lN_rem (by omega) (by omega), nI_1]
      refine Or.inr ⟨q - 1, _, rfl, by omega, v, u % v, i + 1, by omega, by omega, by omega, ?_, rfl⟩
      rw [← hg, ← Nat.gcd_rec]
  obtain ⟨t, e, rfl⟩ := key
  unfold qC_sharedDivisor
  rw [e]; rfl
theorem qC_inLeastTerms_ev {a b : Nat} (ha : a ≤ 100) (hb : b ≤ 100) (x4 : Int32) : qC_inLeastTerms (lN a) (lN b) x4 = some (if b = 0 then -1 else lN ((if x4 = 0 then a else b) / Nat.gcd b a)) := by
  unfold qC_inLeastTerms
  rw [qC_sharedDivisor_ev ha hb, Option.bind_some, lg_0 (by omega)]
  by_cases h0 : b = 0
  · rw [if_pos h0, if_pos h0, if_pos (show (0 : Int32) ≤ 0 by decide)]
  · have gp : 0 < Nat.gcd b a := Nat.gcd_pos_of_pos_left a (by omega)
    have gl : Nat.gcd b a ≤ b := Nat.gcd_le_left a (by omega)
    rw [if_neg h0, if_neg h0, if_neg (show ¬ (1 : Int32) ≤ 0 by decide), lg_0 (by omega), if_neg (show ¬ Nat.gcd b a = 0 by omega), if_pos (show (0 : Int32) < 1 by decide)]
    simp only [zlet]
    rw [if_pos (show ¬ lN (Nat.gcd b a) = 0 from fun z => by have := (lN_eq (b := 0) (by omega) (by omega)).mp z; omega)]
    by_cases hx : x4 = 0
    · rw [if_pos hx, if_pos hx, lN_div (by omega) (by omega)]
    · rw [if_neg hx, if_neg hx, lN_div (by omega) (by omega)]
end ASK
