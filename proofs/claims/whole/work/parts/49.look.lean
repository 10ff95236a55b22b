/-! WHAT A CELLAR SHOWS: plain functions of it, and both sides' methods evaluated to them -/
def wfold {α : Type} (f : Nat → α → α) (a : α) : Nat → α
  | 0 => a
  | i + 1 => f i (wfold f a i)
theorem whas : ∀ b, b < 128 → ∀ s, s < 8 → zf_has (nI b) (nI s) = (if b.testBit s then 1 else 0) := by decide +kernel
theorem wcin : ∀ b, b < 128 → ∀ s, s < 8 → zf_cin (nI b) (nI s) = (if b.testBit s then 1 else 0) := by decide +kernel
theorem wshl : ∀ s, s < 8 → (1 : Int32) <<< (nI s &&& 31) = nI (2 ^ s) := by decide +kernel
theorem wall1 : ∀ n, n < 8 → (1 : Int32) <<< (nI n &&& 31) - 1 = nI (2 ^ n - 1) := by decide +kernel
theorem wpow7 : ∀ s, s < 7 → 2 ^ s < 128 := by decide
theorem wor_lt {a b : Nat} (ha : a < 128) (hb : b < 128) : a ||| b < 128 := Nat.or_lt_two_pow (n := 7) ha hb
theorem wmax0 {a b : Nat} (ha : a < 2 ^ 31) (hb : b < 2 ^ 31) : zf_max 0 (nI a - nI b) = nI (a - b) := by
  unfold zf_max
  by_cases h : b ≤ a
  · rw [nI_sub h]
    by_cases h0 : a - b = 0
    · rw [h0]; decide
    · rw [if_pos]
      exact Int32.not_le.mp (nI_nle (by omega) (by omega))
  · rw [if_neg, show a - b = 0 by omega]
    · rfl
    · rw [Int32.lt_iff_toInt_lt, Int32.toInt_sub, nI_toInt ha, nI_toInt hb, Int.bmod_eq_of_le (by omega) (by omega)]
      have e0 : (0 : Int32).toInt = 0 := rfl
      omega
theorem wgre0 {a b : Nat} (ha : a < 2 ^ 31) (hb : b < 2 ^ 31) : zf_greater 0 (nI a - nI b) = nI (a - b) := by
  rw [← wmax0 ha hb]
  unfold zf_greater zf_max
  by_cases h : (nI a - nI b) < 0
  · rw [if_pos h, if_neg (Int32.not_lt.mpr (Int32.le_of_lt h))]
  · rw [if_neg h]
    by_cases h2 : 0 < nI a - nI b
    · rw [if_pos h2]
    · rw [if_neg h2]
      exact Int32.le_antisymm (Int32.not_lt.mp h2) (Int32.not_lt.mp h)
section CELLS
variable {h : zK} {o k : Nat} {c : wC} {s : Nat}
theorem cC_n (hc : cC h o c) : gI h o 2 = nI c.1 := hc.2.2.1
theorem cC_0 (hc : cC h o c) (hs : s < c.1) : gI h (o + 1) s = nI (c.2.2.2 0 s) := hc.2.2.2 0 s (by omega) hs
theorem cC_1 (hc : cC h o c) (hs : s < c.1) : gI h (o + 2) s = nI (c.2.2.2 1 s) := hc.2.2.2 1 s (by omega) hs
theorem cC_2 (hc : cC h o c) (hs : s < c.1) : gI h (o + 3) s = nI (c.2.2.2 2 s) := hc.2.2.2 2 s (by omega) hs
theorem cC_3 (hc : cC h o c) (hs : s < c.1) : gI h (o + 4) s = nI (c.2.2.2 3 s) := hc.2.2.2 3 s (by omega) hs
theorem cC_4 (hc : cC h o c) (hs : s < c.1) : gI h (o + 5) s = nI (c.2.2.2 4 s) := hc.2.2.2 4 s (by omega) hs
theorem cC_5 (hc : cC h o c) (hs : s < c.1) : gI h (o + 6) s = nI (c.2.2.2 5 s) := hc.2.2.2 5 s (by omega) hs
theorem cC_6 (hc : cC h o c) (hs : s < c.1) : gI h (o + 7) s = nI (c.2.2.2 6 s) := hc.2.2.2 6 s (by omega) hs
theorem mB_0 (B : mB h k c) (ok : wCok c) (hs : s < c.1) : qM_of (3 + nI s) h = some (nI (c.2.2.2 0 s)) := mB_of B ok.1 (i := 0) (by omega) hs (nI_add 3 s)
theorem mB_1 (B : mB h k c) (ok : wCok c) (hs : s < c.1) : qM_of (10 + nI s) h = some (nI (c.2.2.2 1 s)) := mB_of B ok.1 (i := 1) (by omega) hs (nI_add 10 s)
theorem mB_2 (B : mB h k c) (ok : wCok c) (hs : s < c.1) : qM_of (17 + nI s) h = some (nI (c.2.2.2 2 s)) := mB_of B ok.1 (i := 2) (by omega) hs (nI_add 17 s)
theorem mB_3 (B : mB h k c) (ok : wCok c) (hs : s < c.1) : qM_of (24 + nI s) h = some (nI (c.2.2.2 3 s)) := mB_of B ok.1 (i := 3) (by omega) hs (nI_add 24 s)
theorem mB_4 (B : mB h k c) (ok : wCok c) (hs : s < c.1) : qM_of (31 + nI s) h = some (nI (c.2.2.2 4 s)) := mB_of B ok.1 (i := 4) (by omega) hs (nI_add 31 s)
theorem mB_6 (B : mB h k c) (ok : wCok c) (hs : s < c.1) : qM_of (45 + nI s) h = some (nI (c.2.2.2 6 s)) := mB_of B ok.1 (i := 6) (by omega) hs (nI_add 45 s)
/-! wit in a year -/
def wWit (c : wC) (s y : Nat) : Nat := c.2.2.2 0 s - c.2.2.2 1 s * y
theorem qCe_witIn_ev (hc : cC h o c) (ok : wCok c) (hs : s < c.1) {y : Nat} (hy : y ≤ 50) : qCe_witIn o (nI s) (nI y) h = some (nI (wWit c s y)) := by
  obtain ⟨n7, -, -, r⟩ := ok
  obtain ⟨r0, r1, -⟩ := r s hs
  have : c.2.2.2 1 s * y ≤ 5 * 50 := Nat.mul_le_mul r1 hy
  unfold qCe_witIn
  rw [zix_nI (by omega) (by omega), Option.bind_some, cC_0 hc hs, cC_1 hc hs, nI_mul, wmax0 (by omega) (by omega)]
  rfl
theorem qM_witIn_ev (B : mB h k c) (ok : wCok c) (hs : s < c.1) {y : Nat} (hy : y ≤ 50) : qM_witIn (nI s) (nI y) h = some (nI (wWit c s y)) := by
  have n7 := ok.1
  obtain ⟨r0, r1, -⟩ := ok.2.2.2 s hs
  have : c.2.2.2 1 s * y ≤ 5 * 50 := Nat.mul_le_mul r1 hy
  unfold qM_witIn
  rw [mB_0 B ok hs, Option.bind_some, mB_1 B ok hs, Option.bind_some, nI_mul, wgre0 (by omega) (by omega)]
  rfl
/-! life -/
def wLifeP (c : wC) (s y : Nat) : Bool := decide (1 ≤ y) && decide (c.2.2.2 4 s < c.2.2.2 2 s + c.2.2.2 3 s * y)
def wLife (c : wC) (s : Nat) : Nat := fa_first (wLifeP c s) 51
def wLifeI (c : wC) (s : Nat) : Int32 := if wLife c s < 51 then nI (wLife c s) else -1
theorem wLife_1 (c : wC) (s : Nat) : 1 ≤ wLife c s := by
  apply Nat.one_le_iff_ne_zero.mpr
  intro e
  have hy := fa_first_yes (wLifeP c s) 51 (by show wLife c s < 51; omega)
  have : wLifeP c s (wLife c s) = true := hy
  rw [e] at this
  simp [wLifeP] at this
theorem wLife_le (c : wC) (s : Nat) : wLife c s ≤ 51 := fa_first_le _ _
theorem wLife_lt {c : wC} {s y : Nat} (h : y < wLife c s) (h1 : 1 ≤ y) : c.2.2.2 2 s + c.2.2.2 3 s * y ≤ c.2.2.2 4 s := by
  have := fa_first_no (wLifeP c s) 51 y h
  simp [wLifeP, h1] at this
  exact this
theorem wLife_at {c : wC} {s : Nat} (h : wLife c s < 51) : c.2.2.2 4 s < c.2.2.2 2 s + c.2.2.2 3 s * wLife c s := by
  have hy : wLifeP c s (wLife c s) = true := fa_first_yes (wLifeP c s) 51 h
  simp [wLifeP] at hy
  exact hy.2
theorem wlife_c1 {c : wC} (ok : wCok c) (hs : s < c.1) {y : Nat} (hy : y < 52) : c.2.2.2 2 s + c.2.2.2 3 s * y < 2 ^ 31 ∧ c.2.2.2 4 s < 2 ^ 31 := by
  obtain ⟨-, -, r2, r3, -, r4, -⟩ := ok.2.2.2 s hs
  have : c.2.2.2 3 s * y ≤ 5 * 51 := Nat.mul_le_mul r3 (by omega)
  omega
theorem qCe_lifeOf_ev (hc : cC h o c) (ok : wCok c) (hs : s < c.1) : qCe_lifeOf o (nI s) h = some (wLifeI c s) := by
  have n7 := ok.1
  have l1 := wLife_1 c s
  have l2 := wLife_le c s
  have e : zloop (qCe_lifeOf_b2 o (nI s) h) zfu 1 = some (if wLife c s < 51 then Sum.inr (nI (wLife c s)) else Sum.inl ()) := by
    refine zloop_for (fun i => nI (i + 1)) (wLife c s - 1) (fun i hi => ?_) ?_ (zfu_lt (by omega))
    · unfold qCe_lifeOf_b2
      obtain ⟨q1, q2⟩ := wlife_c1 ok hs (y := i + 1) (by omega)
      rw [if_neg (show ¬ (50 : Int32) < nI (i + 1) from nI_nlt (a := 50) (by omega) (by decide)), zix_nI (by omega) (by omega), Option.bind_some, cC_2 hc hs, cC_3 hc hs, cC_4 hc hs, nI_mul, nI_add, if_pos (nI_le (wLife_lt (by omega) (by omega)) q2), nI_1]
    · rw [show wLife c s - 1 + 1 = wLife c s by omega]
      unfold qCe_lifeOf_b2
      by_cases hl : wLife c s < 51
      · obtain ⟨q1, q2⟩ := wlife_c1 ok hs (y := wLife c s) (by omega)
        rw [if_neg (show ¬ (50 : Int32) < nI (wLife c s) from nI_nlt (a := 50) (by omega) (by decide)), zix_nI (by omega) (by omega), Option.bind_some, cC_2 hc hs, cC_3 hc hs, cC_4 hc hs, nI_mul, nI_add, if_neg (nI_ge (wLife_at hl) q1), if_pos hl]
      · rw [if_pos (show (50 : Int32) < nI (wLife c s) from nI_lt (a := 50) (by omega) (by omega)), if_neg hl]
  unfold qCe_lifeOf wLifeI
  rw [e]
  split <;> rfl
theorem qM_lifeOf_ev (B : mB h k c) (ok : wCok c) (hs : s < c.1) : qM_lifeOf (nI s) h = some (wLifeI c s) := by
  have n7 := ok.1
  have l1 := wLife_1 c s
  have l2 := wLife_le c s
  have e : zloop (qM_lifeOf_b2 (nI s) h) zfu 1 = some (if wLife c s < 51 then Sum.inr (nI (wLife c s)) else Sum.inl ()) := by
    refine zloop_for (fun i => nI (i + 1)) (wLife c s - 1) (fun i hi => ?_) ?_ (zfu_lt (by omega))
    · unfold qM_lifeOf_b2
      obtain ⟨q1, q2⟩ := wlife_c1 ok hs (y := i + 1) (by omega)
      rw [if_neg (show ¬ (50 : Int32) < nI (i + 1) from nI_nlt (a := 50) (by omega) (by decide)), mB_2 B ok hs, Option.bind_some, mB_3 B ok hs, Option.bind_some, mB_4 B ok hs, Option.bind_some, nI_mul, nI_add, if_pos (nI_le (wLife_lt (by omega) (by omega)) q2), nI_1]
    · rw [show wLife c s - 1 + 1 = wLife c s by omega]
      unfold qM_lifeOf_b2
      by_cases hl : wLife c s < 51
      · obtain ⟨q1, q2⟩ := wlife_c1 ok hs (y := wLife c s) (by omega)
        rw [if_neg (show ¬ (50 : Int32) < nI (wLife c s) from nI_nlt (a := 50) (by omega) (by decide)), mB_2 B ok hs, Option.bind_some, mB_3 B ok hs, Option.bind_some, mB_4 B ok hs, Option.bind_some, nI_mul, nI_add, if_neg (nI_ge (wLife_at hl) q1), if_pos hl]
      · rw [if_pos (show (50 : Int32) < nI (wLife c s) from nI_lt (a := 50) (by omega) (by omega)), if_neg hl]
  unfold qM_lifeOf wLifeI
  rw [e]
  split <;> rfl
/-! sums over the sayings -/
def wSum (f : Nat → Nat) (i : Nat) : Nat := wfold (fun s a => a + f s) 0 i
theorem wSum_s (f : Nat → Nat) (i : Nat) : wSum f (i + 1) = wSum f i + f i := rfl
theorem wSum_le {f : Nat → Nat} {b : Nat} : ∀ i, (∀ s, s < i → f s ≤ b) → wSum f i ≤ b * i
  | 0, _ => Nat.le_refl _
  | i + 1, hf => by
    have h1 := wSum_le i (fun s hs => hf s (by omega))
    have h2 := hf i (by omega)
    rw [wSum_s, Nat.mul_succ]
    omega
theorem qLk_witOfAll_ev (hc : cC h o c) (ok : wCok c) {y : Nat} (hy : y ≤ 50) : qLk_witOfAll o (nI y) h = some (nI (wSum (fun s => wWit c s y) c.1)) := by
  have n7 := ok.1
  have e : zloop (qLk_witOfAll_b4 o (nI y) h) zfu (0, 0) = some (nI (wSum (fun s => wWit c s y) c.1)) := by
    refine zloop_for (fun i => (nI (wSum (fun s => wWit c s y) i), nI i)) c.1 (fun i hi => ?_) ?_ (zfu_lt (by omega))
    · unfold qLk_witOfAll_b4
      dsimp only
      rw [cC_n hc, if_neg (nI_ge hi (by omega)), qCe_witIn_ev hc ok hi hy, Option.bind_some, nI_add, nI_1]
      rfl
    · unfold qLk_witOfAll_b4
      dsimp only
      rw [cC_n hc, if_pos (nI_le (Nat.le_refl _) (by omega))]
  unfold qLk_witOfAll
  rw [e]; rfl
theorem qM_good_b12_ev (B : mB h k c) (ok : wCok c) {y : Nat} (hy : y ≤ 50) : zloop (qM_good_b12 (nI y) h) zfu (0, 0) = some (nI (wSum (fun s => wWit c s y) c.1)) := by
  have n7 := ok.1
  refine zloop_for (fun i => (nI (wSum (fun s => wWit c s y) i), nI i)) c.1 (fun i hi => ?_) ?_ (zfu_lt (by omega))
  · unfold qM_good_b12
    dsimp only
    rw [B.2.2.1, if_neg (nI_ge hi (by omega)), qM_witIn_ev B ok hi hy, Option.bind_some, nI_add, nI_1]
    rfl
  · unfold qM_good_b12
    dsimp only
    rw [B.2.2.1, if_pos (nI_le (Nat.le_refl _) (by omega))]
def wWitOf (c : wC) (b : Nat) : Nat := wSum (fun s => if b.testBit s then c.2.2.2 0 s else 0) c.1
theorem qLk_witOf_ev (hc : cC h o c) (ok : wCok c) {b : Nat} (hb : b < 128) : qLk_witOf o (nI b) h = some (nI (wWitOf c b)) := by
  have n7 := ok.1
  have e : zloop (qLk_witOf_b4 o (nI b) h) zfu (0, 0) = some (nI (wWitOf c b)) := by
    refine zloop_for (fun i => (nI (wSum (fun s => if b.testBit s then c.2.2.2 0 s else 0) i), nI i)) c.1 (fun i hi => ?_) ?_ (zfu_lt (by omega))
    · unfold qLk_witOf_b4
      dsimp only
      rw [cC_n hc, if_neg (nI_ge hi (by omega)), wcin b hb i (by omega), wSum_s]
      by_cases ht : b.testBit i = true
      · rw [if_pos ht, if_neg (by decide), zix_nI (by omega) (by omega), Option.bind_some, Option.bind_some, cC_0 hc hi, nI_add, nI_1, if_pos ht]
      · rw [if_neg ht, if_pos rfl, Option.bind_some, nI_1, if_neg ht]
        rfl
    · unfold qLk_witOf_b4
      dsimp only
      rw [cC_n hc, if_pos (nI_le (Nat.le_refl _) (by omega))]
      rfl
  unfold qLk_witOf
  rw [e]; rfl
theorem qM_witsOf_ev (B : mB h k c) (ok : wCok c) {b : Nat} (hb : b < 128) : qM_witsOf (nI b) h = some (nI (wWitOf c b)) := by
  have n7 := ok.1
  have e : zloop (qM_witsOf_b4 (nI b) h) zfu (0, 0) = some (nI (wWitOf c b)) := by
    refine zloop_for (fun i => (nI (wSum (fun s => if b.testBit s then c.2.2.2 0 s else 0) i), nI i)) c.1 (fun i hi => ?_) ?_ (zfu_lt (by omega))
    · unfold qM_witsOf_b4
      dsimp only
      rw [B.2.2.1, if_neg (nI_ge hi (by omega)), whas b hb i (by omega), wSum_s]
      by_cases ht : b.testBit i = true
      · rw [if_pos ht, if_neg (by decide), mB_0 B ok hi, Option.bind_some, Option.bind_some, nI_add, nI_1, if_pos ht]
      · rw [if_neg ht, if_pos rfl, Option.bind_some, nI_1, if_neg ht, show (0 : Int32) = nI 0 from rfl, nI_add]
    · unfold qM_witsOf_b4
      dsimp only
      rw [B.2.2.1, if_pos (nI_le (Nat.le_refl _) (by omega))]
      rfl
  unfold qM_witsOf
  rw [e]; rfl
/-! flat -/
def wFlat (c : wC) (y : Nat) : Nat := wSum (fun s => if wWit c s y = 0 then 1 else 0) c.1
theorem wWit_lt (ok : wCok c) (hs : s < c.1) (y : Nat) : wWit c s y ≤ 30 := by
  have := (ok.2.2.2 s hs).1
  unfold wWit
  omega
theorem qLk_witless_ev (hc : cC h o c) (ok : wCok c) {y : Nat} (hy : y ≤ 50) : qLk_witless o (nI y) h = some (nI (wFlat c y)) := by
  have n7 := ok.1
  have e : zloop (qLk_witless_b4 o (nI y) h) zfu (0, 0) = some (nI (wFlat c y)) := by
    refine zloop_for (fun i => (nI (wSum (fun s => if wWit c s y = 0 then 1 else 0) i), nI i)) c.1 (fun i hi => ?_) ?_ (zfu_lt (by omega))
    · unfold qLk_witless_b4
      dsimp only
      have hw := wWit_lt ok hi y
      rw [cC_n hc, if_neg (nI_ge hi (by omega)), qCe_witIn_ev hc ok hi hy, Option.bind_some, wSum_s]
      by_cases h0 : wWit c i y = 0
      · rw [h0, if_pos rfl, if_neg (by decide)]
        simp only [zlet]
        rw [nI_1, nI_1]
      · rw [if_neg h0, if_pos (nI_ne0 (by omega) (by omega))]
        simp only [zlet]
        rw [nI_1]
        rfl
    · unfold qLk_witless_b4
      dsimp only
      rw [cC_n hc, if_pos (nI_le (Nat.le_refl _) (by omega))]
      rfl
  unfold qLk_witless
  rw [e]; rfl
theorem qM_flat_ev (B : mB h k c) (ok : wCok c) {y : Nat} (hy : y ≤ 50) : zloop (qM_flat_b30 (nI y) h) zfu (0, 0) = some (nI (wFlat c y)) := by
  have n7 := ok.1
  refine zloop_for (fun i => (nI (wSum (fun s => if wWit c s y = 0 then 1 else 0) i), nI i)) c.1 (fun i hi => ?_) ?_ (zfu_lt (by omega))
  · unfold qM_flat_b30
    dsimp only
    have hw := wWit_lt ok hi y
    rw [B.2.2.1, if_neg (nI_ge hi (by omega)), qM_witIn_ev B ok hi hy, Option.bind_some, wSum_s]
    by_cases h0 : wWit c i y = 0
    · rw [h0, if_pos rfl, if_neg (by decide)]
      simp only [zlet]
      rw [nI_1, nI_1]
    · rw [if_neg h0, if_pos (nI_ne0 (by omega) (by omega))]
      simp only [zlet]
      rw [nI_1, show (0 : Int32) = nI 0 from rfl, nI_add]
  · unfold qM_flat_b30
    dsimp only
    rw [B.2.2.1, if_pos (nI_le (Nat.le_refl _) (by omega))]
    rfl
end CELLS
theorem wo_life {h : zK} (H : InvB h) (a x : Int32) : ∃ w h2, qC_life a x h = some w ∧ qM_life a x h = some (w, h2) := by
  unfold qC_life qM_life
  simp only [zlet]
  rcases wcell H a with ⟨e1, e2⟩ | ⟨k, c, hk, rfl, c1, c2, c3, e1, e2, e4⟩
  · rw [e1, e2 _ (wEq_s (by unfold wKp; omega)), Option.bind_some, Option.bind_some]
    exact ⟨_, _, rfl, rfl⟩
  · obtain ⟨h2, q1, B, -, -⟩ := e4 (sI h 215 0 0) (wEq_s (by unfold wKp; omega))
    rw [e1, q1, Option.bind_some, Option.bind_some]
    simp only [if_pos e2]
    rw [if_neg (show ¬ (1 : Int32) = 0 by decide), qM_isSaying_ev B, Option.bind_some]
    rcases qCe_has_ev c2 c1.1 x with ⟨s, hs, rfl, hz, hz2⟩ | ⟨-, hz, hz2⟩
    · rw [hz, hz2, if_pos (by decide), if_neg (by decide), qCe_lifeOf_ev c2 c1 hs, qM_lifeOf_ev B c1 hs]
      exact ⟨_, _, rfl, rfl⟩
    · rw [hz, hz2, if_neg (by decide), if_pos rfl]
      exact ⟨_, _, rfl, rfl⟩
theorem wo_flat {h : zK} (H : InvB h) (a x : Int32) : ∃ w h2, qC_flat a x h = some w ∧ qM_flat a x h = some (w, h2) := by
  have e51 : nI 51 - 1 = (50 : Int32) := by decide
  unfold qC_flat qM_flat
  simp only [zlet]
  rcases wcell H a with ⟨e1, e2⟩ | ⟨k, c, hk, rfl, c1, c2, c3, e1, e2, e4⟩
  · rw [e1, e2 _ (wEq_s (by unfold wKp; omega)), Option.bind_some, Option.bind_some]
    refine ⟨-1, sI h 215 0 0, rfl, ?_⟩
    split <;> rfl
  · obtain ⟨h2, q1, B, -, -⟩ := e4 (sI h 215 0 0) (wEq_s (by unfold wKp; omega))
    rw [e1, q1, Option.bind_some, Option.bind_some]
    simp only [if_pos e2]
    rw [if_pos (show ¬ (1 : Int32) = 0 by decide)]
    rcases zf_in_n (m := 51) (by omega) x with ⟨y, hy, rfl, hz⟩ | ⟨ha, hz⟩
    · rw [e51] at hz
      rw [hz, if_neg (show ¬ (1 : Int32) = 0 by decide), if_neg (nI_pos (by omega)), if_pos (show nI y ≤ (50 : Int32) from nI_le (b := 50) (by omega) (by decide)), qLk_witless_ev c2 c1 (by omega), qM_flat_ev B c1 (by omega)]
      exact ⟨_, _, rfl, rfl⟩
    · rw [e51] at hz
      rw [hz, if_pos rfl]
      refine ⟨-1, _, ?_, rfl⟩
      rcases ha with ha | ⟨j, h1, h2, rfl⟩
      · rw [if_pos ha]
      · rw [if_neg (nI_pos h2), if_neg (show ¬ nI j ≤ (50 : Int32) from nI_ge (a := 50) (by omega) h2)]
