/-! WITTIEST, LIVELIEST, GOOD, EARLIEST, LASTING, CLOSE, MUTE, answeredBy -/
def wO : Option Nat → Int32
  | none => -1
  | some j => nI j
def wBst (gt : Nat → Nat → Bool) (i : Nat) : Option Nat → Option Nat
  | none => some i
  | some j => if gt i j then some i else some j
def wBest (gt : Nat → Nat → Bool) (n : Nat) : Option Nat := wfold (wBst gt) none n
theorem wBest_s (gt : Nat → Nat → Bool) (n : Nat) : wBest gt (n + 1) = wBst gt n (wBest gt n) := rfl
theorem wBest_lt {gt : Nat → Nat → Bool} : ∀ {n j : Nat}, wBest gt n = some j → j < n
  | 0, j, h => by cases h
  | n + 1, j, h => by
    rw [wBest_s] at h
    cases e : wBest gt n with
    | none => rw [e] at h; cases h; omega
    | some q =>
      have := wBest_lt e
      rw [e] at h
      unfold wBst at h
      dsimp only at h
      split at h <;> cases h <;> omega
theorem wsubs {a b a' b' : Nat} (ha : a < 2 ^ 30) (hb : b < 2 ^ 30) (ha' : a' < 2 ^ 30) (hb' : b' < 2 ^ 30) : nI a - nI b ≤ nI a' - nI b' ↔ a + b' ≤ a' + b := by
  rw [Int32.le_iff_toInt_le, Int32.toInt_sub, Int32.toInt_sub, nI_toInt (by omega), nI_toInt (by omega), nI_toInt (by omega), nI_toInt (by omega), Int.bmod_eq_of_le (by omega) (by omega), Int.bmod_eq_of_le (by omega) (by omega)]
  omega
section LOOK2
variable {h : zK} {o k : Nat} {c : wC}
def wWtt (c : wC) : Option Nat := wBest (fun i j => decide (c.2.2.2 0 j < c.2.2.2 0 i)) c.1
theorem qLk_wittiest_ev (hc : cC h o c) (ok : wCok c) : qLk_wittiest o h = some (wO (wWtt c)) := by
  have n7 := ok.1
  have e : zloop (qLk_wittiest_b4 o h) zfu (-1, 0) = some (wO (wWtt c)) := by
    refine zloop_for (fun i => (wO (wBest (fun i j => decide (c.2.2.2 0 j < c.2.2.2 0 i)) i), nI i)) c.1 (fun i hi => ?_) ?_ (zfu_lt (by omega))
    · unfold qLk_wittiest_b4
      dsimp only
      rw [cC_n hc, if_neg (nI_ge hi (by omega)), wBest_s]
      cases eq : wBest (fun i j => decide (c.2.2.2 0 j < c.2.2.2 0 i)) i with
      | none =>
        rw [if_pos (show wO none = -1 from rfl), Option.bind_some, nI_1]
        rfl
      | some j =>
        have hj := wBest_lt eq
        have r1 := (ok.2.2.2 i hi).1
        have r2 := (ok.2.2.2 j (by omega)).1
        rw [if_neg (show ¬ wO (some j) = -1 from nI_nm1 (by omega)), zix_nI (by omega) (by omega), show wO (some j) = nI j from rfl, zix_nI (by omega) (by omega), Option.bind_some, Option.bind_some, cC_0 hc hi, cC_0 hc (by omega)]
        unfold wBst
        dsimp only
        by_cases hh : c.2.2.2 0 j < c.2.2.2 0 i
        · rw [if_neg (nI_ge hh (by omega)), if_pos (decide_eq_true hh), Option.bind_some, nI_1]
          rfl
        · rw [if_pos (nI_le (by omega) (by omega)), if_neg (fun q => hh (of_decide_eq_true q)), Option.bind_some, nI_1]
          rfl
    · unfold qLk_wittiest_b4
      dsimp only
      rw [cC_n hc, if_pos (nI_le (Nat.le_refl _) (by omega))]
      rfl
  unfold qLk_wittiest
  rw [e]; rfl
theorem qM_wittiest_ev (B : mB h k c) (ok : wCok c) : qM_wittiest h = some (wO (wWtt c)) := by
  have n7 := ok.1
  have e : zloop (qM_wittiest_b4 h) zfu (-1, 0) = some (wO (wWtt c)) := by
    refine zloop_for (fun i => (wO (wBest (fun i j => decide (c.2.2.2 0 j < c.2.2.2 0 i)) i), nI i)) c.1 (fun i hi => ?_) ?_ (zfu_lt (by omega))
    · unfold qM_wittiest_b4
      dsimp only
      rw [B.2.2.1, if_neg (nI_ge hi (by omega)), wBest_s]
      cases eq : wBest (fun i j => decide (c.2.2.2 0 j < c.2.2.2 0 i)) i with
      | none =>
        rw [if_pos (show wO none = -1 from rfl), Option.bind_some, nI_1]
        rfl
      | some j =>
        have hj := wBest_lt eq
        have r1 := (ok.2.2.2 i hi).1
        have r2 := (ok.2.2.2 j (by omega)).1
        rw [if_neg (show ¬ wO (some j) = -1 from nI_nm1 (by omega)), show wO (some j) = nI j from rfl, mB_0 B ok hi, mB_0 B ok (s := j) (by omega), Option.bind_some, Option.bind_some]
        unfold wBst
        dsimp only
        by_cases hh : c.2.2.2 0 j < c.2.2.2 0 i
        · rw [if_neg (nI_ge hh (by omega)), if_pos (decide_eq_true hh), Option.bind_some, nI_1]
          rfl
        · rw [if_pos (nI_le (by omega) (by omega)), if_neg (fun q => hh (of_decide_eq_true q)), Option.bind_some, nI_1]
          rfl
    · unfold qM_wittiest_b4
      dsimp only
      rw [B.2.2.1, if_pos (nI_le (Nat.le_refl _) (by omega))]
      rfl
  unfold qM_wittiest
  rw [e]; rfl
def wLvP (c : wC) (i j : Nat) : Bool := decide (c.2.2.2 2 j + c.2.2.2 4 i < c.2.2.2 2 i + c.2.2.2 4 j)
def wLvl (c : wC) : Option Nat := wBest (wLvP c) c.1
theorem qLk_liveliest_ev (hc : cC h o c) (ok : wCok c) : qLk_liveliest o h = some (wO (wLvl c)) := by
  have n7 := ok.1
  have e : zloop (qLk_liveliest_b4 o h) zfu (-1, 0) = some (wO (wLvl c)) := by
    refine zloop_for (fun i => (wO (wBest (wLvP c) i), nI i)) c.1 (fun i hi => ?_) ?_ (zfu_lt (by omega))
    · unfold qLk_liveliest_b4
      dsimp only
      rw [cC_n hc, if_neg (nI_ge hi (by omega)), wBest_s]
      cases eq : wBest (wLvP c) i with
      | none =>
        rw [if_pos (show wO none = -1 from rfl), Option.bind_some, nI_1]
        rfl
      | some j =>
        have hj := wBest_lt eq
        obtain ⟨-, -, a1, -, -, a2, -⟩ := ok.2.2.2 i hi
        obtain ⟨-, -, b1, -, -, b2, -⟩ := ok.2.2.2 j (by omega)
        rw [if_neg (show ¬ wO (some j) = -1 from nI_nm1 (by omega)), zix_nI (by omega) (by omega), show wO (some j) = nI j from rfl, zix_nI (by omega) (by omega), Option.bind_some, Option.bind_some, cC_2 hc hi, cC_2 hc (s := j) (by omega), cC_4 hc hi, cC_4 hc (s := j) (by omega)]
        unfold wBst wLvP
        dsimp only
        by_cases hh : c.2.2.2 2 j + c.2.2.2 4 i < c.2.2.2 2 i + c.2.2.2 4 j
        · rw [if_neg (fun q => by rw [wsubs (by omega) (by omega) (by omega) (by omega)] at q; omega), if_pos (decide_eq_true hh), Option.bind_some, nI_1]
          rfl
        · rw [if_pos ((wsubs (by omega) (by omega) (by omega) (by omega)).mpr (by omega)), if_neg (fun q => hh (of_decide_eq_true q)), Option.bind_some, nI_1]
          rfl
    · unfold qLk_liveliest_b4
      dsimp only
      rw [cC_n hc, if_pos (nI_le (Nat.le_refl _) (by omega))]
      rfl
  unfold qLk_liveliest
  rw [e]; rfl
def wLvM (c : wC) : Option Nat → Int32
  | none => -1000000
  | some j => nI (c.2.2.2 2 j) - nI (c.2.2.2 4 j)
theorem qM_liveliest_ev (B : mB h k c) (ok : wCok c) : qM_liveliest h = some (wO (wLvl c)) := by
  have n7 := ok.1
  have e : zloop (qM_liveliest_b8 h) zfu (-1, -1000000, 0) = some (wO (wLvl c)) := by
    refine zloop_for (fun i => (wO (wBest (wLvP c) i), wLvM c (wBest (wLvP c) i), nI i)) c.1 (fun i hi => ?_) ?_ (zfu_lt (by omega))
    · unfold qM_liveliest_b8
      dsimp only
      obtain ⟨-, -, a1, -, -, a2, -⟩ := ok.2.2.2 i hi
      rw [B.2.2.1, if_neg (nI_ge hi (by omega)), wBest_s, mB_2 B ok hi, mB_4 B ok hi, Option.bind_some, Option.bind_some]
      simp only [zlet]
      cases eq : wBest (wLvP c) i with
      | none =>
        have q : ¬ nI (c.2.2.2 2 i) - nI (c.2.2.2 4 i) ≤ -1000000 := by
          rw [Int32.le_iff_toInt_le, Int32.toInt_sub, nI_toInt (by omega), nI_toInt (by omega), Int.bmod_eq_of_le (by omega) (by omega)]
          have e0 : (-1000000 : Int32).toInt = -1000000 := rfl
          omega
        rw [show wLvM c none = -1000000 from rfl, if_neg q, nI_1]
        unfold zf_greater
        rw [if_neg (fun z => q (Int32.le_of_lt z))]
        rfl
      | some j =>
        have hj := wBest_lt eq
        obtain ⟨-, -, b1, -, -, b2, -⟩ := ok.2.2.2 j (by omega)
        rw [show wLvM c (some j) = nI (c.2.2.2 2 j) - nI (c.2.2.2 4 j) from rfl, nI_1]
        unfold zf_greater wBst wLvP
        dsimp only
        by_cases hh : c.2.2.2 2 j + c.2.2.2 4 i < c.2.2.2 2 i + c.2.2.2 4 j
        · have q : ¬ nI (c.2.2.2 2 i) - nI (c.2.2.2 4 i) ≤ nI (c.2.2.2 2 j) - nI (c.2.2.2 4 j) := fun q => by rw [wsubs (by omega) (by omega) (by omega) (by omega)] at q; omega
          rw [if_neg q, if_neg (fun z => q (Int32.le_of_lt z)), if_pos (decide_eq_true hh)]
          rfl
        · have q : nI (c.2.2.2 2 i) - nI (c.2.2.2 4 i) ≤ nI (c.2.2.2 2 j) - nI (c.2.2.2 4 j) := (wsubs (by omega) (by omega) (by omega) (by omega)).mpr (by omega)
          rw [if_pos q, if_neg (fun q => hh (of_decide_eq_true q))]
          by_cases z : nI (c.2.2.2 2 i) - nI (c.2.2.2 4 i) < nI (c.2.2.2 2 j) - nI (c.2.2.2 4 j)
          · rw [if_pos z]; rfl
          · rw [if_neg z]
            have e : nI (c.2.2.2 2 i) - nI (c.2.2.2 4 i) = nI (c.2.2.2 2 j) - nI (c.2.2.2 4 j) := Int32.le_antisymm q (Int32.not_lt.mp z)
            rw [e]; rfl
    · unfold qM_liveliest_b8
      dsimp only
      rw [B.2.2.1, if_pos (nI_le (Nat.le_refl _) (by omega))]
      rfl
  unfold qM_liveliest
  rw [e]; rfl
/-! good -/
def wAll (c : wC) (y : Nat) : Nat := wSum (fun s => wWit c s y) c.1
theorem qLk_witOfAll_ev2 (hc : cC h o c) (ok : wCok c) {y : Nat} (hy : y ≤ 50) : qLk_witOfAll o (nI y) h = some (nI (wAll c y)) := qLk_witOfAll_ev hc ok hy
theorem qM_good_b12_ev2 (B : mB h k c) (ok : wCok c) {y : Nat} (hy : y ≤ 50) : zloop (qM_good_b12 (nI y) h) zfu (0, 0) = some (nI (wAll c y)) := qM_good_b12_ev B ok hy
theorem wAll_le (ok : wCok c) (y : Nat) : wAll c y ≤ 210 := by
  have h1 := wSum_le (f := fun s => wWit c s y) (b := 30) c.1 (fun s hs => wWit_lt ok hs y)
  have := ok.1
  unfold wAll
  omega
theorem wSum_cong {f g : Nat → Nat} : ∀ {n : Nat}, (∀ s, s < n → f s = g s) → wSum f n = wSum g n
  | 0, _ => rfl
  | n + 1, hh => by rw [wSum_s, wSum_s, wSum_cong (fun s hs => hh s (by omega)), hh n (by omega)]
theorem wb127 : ∀ s, s < 7 → Nat.testBit 127 s = true := by decide
theorem wWitOf_all (ok : wCok c) : wWitOf c 127 = wAll c 0 := by
  have := ok.1
  unfold wWitOf wAll
  refine wSum_cong fun s hs => ?_
  rw [if_pos (wb127 s (by omega))]
  unfold wWit
  omega
def wGoodP (c : wC) (y : Nat) : Bool := decide (2 * wAll c y < wAll c 0)
def wGood (c : wC) : Nat := fa_first (wGoodP c) 51
def wGoodI (c : wC) : Int32 := if wGood c < 51 then nI (wGood c) else -1
theorem qLk_goodYear_ev (hc : cC h o c) (ok : wCok c) : qLk_goodYear o h = some (wGoodI c) := by
  have l2 : wGood c ≤ 51 := fa_first_le _ _
  have a0 := wAll_le ok 0
  have e : zloop (qLk_goodYear_b8 o (nI (wAll c 0)) h) zfu 0 = some (if wGood c < 51 then Sum.inr (nI (wGood c)) else Sum.inl ()) := by
    refine zloop_for (fun i => nI i) (wGood c) (fun i hi => ?_) ?_ (zfu_lt (by omega))
    · unfold qLk_goodYear_b8
      have q := fa_first_no (wGoodP c) 51 i hi
      have q2 : ¬ 2 * wAll c i < wAll c 0 := of_decide_eq_false q
      have a1 := wAll_le ok i
      rw [if_neg (show ¬ (50 : Int32) < nI i from nI_nlt (a := 50) (by omega) (by decide)), qLk_witOfAll_ev2 hc ok (by omega), Option.bind_some, show (2 : Int32) = nI 2 from rfl, nI_mul, if_pos (nI_le (show wAll c 0 ≤ 2 * wAll c i by omega) (show 2 * wAll c i < 2 ^ 31 by omega)), nI_1]
    · unfold qLk_goodYear_b8
      by_cases hl : wGood c < 51
      · have q : wGoodP c (wGood c) = true := fa_first_yes (wGoodP c) 51 hl
        have q2 : 2 * wAll c (wGood c) < wAll c 0 := of_decide_eq_true q
        rw [if_neg (show ¬ (50 : Int32) < nI (wGood c) from nI_nlt (a := 50) (by omega) (by decide)), qLk_witOfAll_ev2 hc ok (by omega), Option.bind_some, show (2 : Int32) = nI 2 from rfl, nI_mul, if_neg (nI_ge (show 2 * wAll c (wGood c) < wAll c 0 from q2) (by omega)), if_pos hl]
      · rw [if_pos (show (50 : Int32) < nI (wGood c) from nI_lt (a := 50) (by omega) (by omega)), if_neg hl]
  unfold qLk_goodYear wGoodI
  rw [show (0 : Int32) = nI 0 from rfl, qLk_witOfAll_ev2 hc ok (by omega), Option.bind_some]
  show (zloop (qLk_goodYear_b8 o (nI (wAll c 0)) h) zfu 0).bind _ = _
  rw [e]
  split <;> rfl
theorem qM_good_ev (B : mB h k c) (ok : wCok c) : qM_good h = some (wGoodI c) := by
  have l2 : wGood c ≤ 51 := fa_first_le _ _
  have a0 := wAll_le ok 0
  have w1 : qM_witsOf 127 h = some (nI (wAll c 0)) := by
    rw [← wWitOf_all ok]
    exact qM_witsOf_ev B ok (b := 127) (by omega)
  have e : zloop (qM_good_b2 h) zfu 0 = some (if wGood c < 51 then Sum.inr (nI (wGood c)) else Sum.inl ()) := by
    refine zloop_for (fun i => nI i) (wGood c) (fun i hi => ?_) ?_ (zfu_lt (by omega))
    · unfold qM_good_b2
      have q := fa_first_no (wGoodP c) 51 i hi
      have q2 : ¬ 2 * wAll c i < wAll c 0 := of_decide_eq_false q
      have a1 := wAll_le ok i
      rw [if_neg (show ¬ (50 : Int32) < nI i from nI_nlt (a := 50) (by omega) (by decide)), qM_good_b12_ev2 B ok (by omega), Option.bind_some, w1, Option.bind_some, show (2 : Int32) = nI 2 from rfl, nI_mul, if_pos (nI_le (show wAll c 0 ≤ 2 * wAll c i by omega) (show 2 * wAll c i < 2 ^ 31 by omega)), nI_1]
    · unfold qM_good_b2
      by_cases hl : wGood c < 51
      · have q : wGoodP c (wGood c) = true := fa_first_yes (wGoodP c) 51 hl
        have q2 : 2 * wAll c (wGood c) < wAll c 0 := of_decide_eq_true q
        rw [if_neg (show ¬ (50 : Int32) < nI (wGood c) from nI_nlt (a := 50) (by omega) (by decide)), qM_good_b12_ev2 B ok (by omega), Option.bind_some, w1, Option.bind_some, show (2 : Int32) = nI 2 from rfl, nI_mul, if_neg (nI_ge (show 2 * wAll c (wGood c) < wAll c 0 from q2) (by omega)), if_pos hl]
      · rw [if_pos (show (50 : Int32) < nI (wGood c) from nI_lt (a := 50) (by omega) (by omega)), if_neg hl]
  unfold qM_good wGoodI
  rw [e]
  split <;> rfl
/-! earliest, lasting -/
def wErS (c : wC) (i : Nat) : Option Nat → Option Nat
  | none => if wLife c i < 51 then some i else none
  | some j => if wLife c i < wLife c j then some i else some j
def wEr (c : wC) (n : Nat) : Option Nat := wfold (wErS c) none n
theorem wEr_s (c : wC) (n : Nat) : wEr c (n + 1) = wErS c n (wEr c n) := rfl
theorem wEr_lt {c : wC} : ∀ {n j : Nat}, wEr c n = some j → j < n ∧ wLife c j < 51
  | 0, j, h => by cases h
  | n + 1, j, h => by
    rw [wEr_s] at h
    cases e : wEr c n with
    | none =>
      rw [e] at h
      unfold wErS at h
      dsimp only at h
      split at h
      · cases h; exact ⟨by omega, by assumption⟩
      · cases h
    | some q =>
      have := wEr_lt e
      rw [e] at h
      unfold wErS at h
      dsimp only at h
      split at h <;> cases h <;> omega
def wErL (c : wC) : Option Nat → Nat
  | none => 51
  | some j => wLife c j
theorem qLk_earliest_ev (hc : cC h o c) (ok : wCok c) : qLk_earliest o h = some (wO (wEr c c.1)) := by
  have n7 := ok.1
  have e : zloop (qLk_earliest_b7 o h) zfu (-1, 51, 0) = some (wO (wEr c c.1)) := by
    refine zloop_for (fun i => (wO (wEr c i), nI (wErL c (wEr c i)), nI i)) c.1 (fun i hi => ?_) ?_ (zfu_lt (by omega))
    · unfold qLk_earliest_b7
      dsimp only
      rw [cC_n hc, if_neg (nI_ge hi (by omega)), qCe_lifeOf_ev hc ok hi, Option.bind_some, wEr_s]
      simp only [zlet]
      have l2 := wLife_le c i
      unfold wLifeI
      by_cases hl : wLife c i < 51
      · rw [if_pos hl, if_neg (nI_nm1 (by omega))]
        cases eq : wEr c i with
        | none =>
          unfold wErS wErL
          dsimp only
          rw [if_neg (nI_ge hl (by omega)), if_pos hl, nI_1]
          rfl
        | some j =>
          unfold wErS wErL
          dsimp only
          by_cases hh : wLife c i < wLife c j
          · have := wLife_le c j
            rw [if_neg (nI_ge hh (by omega)), if_pos hh, nI_1]
            rfl
          · rw [if_pos (nI_le (by omega) (by omega)), if_neg hh, nI_1]
      · rw [if_neg hl, if_pos rfl, nI_1]
        cases eq : wEr c i with
        | none =>
          unfold wErS
          dsimp only
          rw [if_neg hl]
        | some j =>
          have := wEr_lt eq
          unfold wErS
          dsimp only
          rw [if_neg (by omega)]
    · unfold qLk_earliest_b7
      dsimp only
      rw [cC_n hc, if_pos (nI_le (Nat.le_refl _) (by omega))]
  unfold qLk_earliest
  rw [e]; rfl
theorem qM_earliest_ev (B : mB h k c) (ok : wCok c) : qM_earliest h = some (wO (wEr c c.1)) := by
  have n7 := ok.1
  have e : zloop (qM_earliest_b4 h) zfu (-1, 0) = some (wO (wEr c c.1)) := by
    refine zloop_for (fun i => (wO (wEr c i), nI i)) c.1 (fun i hi => ?_) ?_ (zfu_lt (by omega))
    · unfold qM_earliest_b4
      dsimp only
      rw [B.2.2.1, if_neg (nI_ge hi (by omega)), qM_lifeOf_ev B ok hi, Option.bind_some, wEr_s]
      simp only [zlet]
      have l2 := wLife_le c i
      unfold wLifeI
      by_cases hl : wLife c i < 51
      · rw [if_pos hl, if_neg (nI_nm1 (by omega))]
        cases eq : wEr c i with
        | none =>
          unfold wErS
          dsimp only
          rw [if_pos (show wO none = -1 from rfl), Option.bind_some, if_neg (by decide), if_pos hl, nI_1]
          rfl
        | some j =>
          have hj := wEr_lt eq
          unfold wErS
          dsimp only
          rw [if_neg (show ¬ wO (some j) = -1 from nI_nm1 (by omega)), Option.bind_some, show wO (some j) = nI j from rfl, qM_lifeOf_ev B ok (s := j) (by omega), Option.bind_some]
          unfold wLifeI
          rw [if_pos hj.2]
          by_cases hh : wLife c i < wLife c j
          · rw [if_neg (nI_ge hh (by omega)), Option.bind_some, if_neg (by decide), if_pos hh, nI_1]
            rfl
          · rw [if_pos (nI_le (by omega) (by omega)), Option.bind_some, if_pos rfl, if_neg hh, nI_1]
            rfl
      · rw [if_neg hl, if_pos rfl, Option.bind_some, if_pos rfl, nI_1]
        cases eq : wEr c i with
        | none =>
          unfold wErS
          dsimp only
          rw [if_neg hl]
        | some j =>
          have := wEr_lt eq
          unfold wErS
          dsimp only
          rw [if_neg (by omega)]
    · unfold qM_earliest_b4
      dsimp only
      rw [B.2.2.1, if_pos (nI_le (Nat.le_refl _) (by omega))]
  unfold qM_earliest
  rw [e]; rfl
def wBits (p : Nat → Bool) (n : Nat) : Nat := wfold (fun s a => a ||| (if p s then 2 ^ s else 0)) 0 n
theorem wBits_s (p : Nat → Bool) (n : Nat) : wBits p (n + 1) = wBits p n ||| (if p n then 2 ^ n else 0) := rfl
theorem wBits_t (p : Nat → Bool) (j : Nat) : ∀ n, (wBits p n).testBit j = (decide (j < n) && p j)
  | 0 => by simp [wBits, wfold]
  | n + 1 => by
    rw [wBits_s, Nat.testBit_or, wBits_t p j n]
    by_cases hp : p n = true
    · rw [if_pos hp, Nat.testBit_two_pow]
      by_cases e : n = j
      · subst e; simp [hp]
      · have : decide (j < n + 1) = decide (j < n) := by
          apply decide_eq_decide.mpr; omega
        simp [e, this]
    · rw [if_neg hp, Nat.zero_testBit, Bool.or_false]
      by_cases e : j = n
      · subst e; simp [hp]
      · have : decide (j < n + 1) = decide (j < n) := by
          apply decide_eq_decide.mpr; omega
        rw [this]
theorem wBits_lt (p : Nat → Bool) : ∀ n, wBits p n < 2 ^ n
  | 0 => by simp [wBits, wfold]
  | n + 1 => by
    rw [wBits_s]
    have h1 := wBits_lt p n
    have h2 : 2 ^ n < 2 ^ (n + 1) := Nat.pow_lt_pow_right (by omega) (by omega)
    refine Nat.or_lt_two_pow (by omega) ?_
    split
    · exact h2
    · exact Nat.two_pow_pos _
theorem w2n {n : Nat} (h : n ≤ 7) : 2 ^ n ≤ 128 := Nat.pow_le_pow_right (n := 2) (by omega) h
theorem wBits_128 (p : Nat → Bool) {n : Nat} (h : n ≤ 7) : wBits p n < 128 := Nat.lt_of_lt_of_le (wBits_lt p n) (w2n h)
def wLast (c : wC) (s : Nat) : Bool := !decide (wLife c s < 51)
theorem qLk_lasting_ev (hc : cC h o c) (ok : wCok c) : qLk_lasting o h = some (nI (wBits (wLast c) c.1)) := by
  have n7 := ok.1
  have e : zloop (qLk_lasting_b4 o h) zfu (0, 0) = some (nI (wBits (wLast c) c.1)) := by
    refine zloop_for (fun i => (nI (wBits (wLast c) i), nI i)) c.1 (fun i hi => ?_) ?_ (zfu_lt (by omega))
    · unfold qLk_lasting_b4
      dsimp only
      rw [cC_n hc, if_neg (nI_ge hi (by omega)), qCe_lifeOf_ev hc ok hi, Option.bind_some, wBits_s]
      simp only [zlet]
      unfold wLifeI wLast
      by_cases hl : wLife c i < 51
      · rw [if_pos hl, if_pos (nI_nm1 (by omega)), nI_1, if_neg (show ¬ (!decide (wLife c i < 51)) = true by simp [hl]), Nat.or_zero]
      · rw [if_neg hl, if_neg (by decide), nI_1, if_pos (show (!decide (wLife c i < 51)) = true by simp [hl]), wshl i (by omega), fa_or]
    · unfold qLk_lasting_b4
      dsimp only
      rw [cC_n hc, if_pos (nI_le (Nat.le_refl _) (by omega))]
  unfold qLk_lasting
  rw [e]; rfl
theorem qM_lasting_ev (B : mB h k c) (ok : wCok c) : qM_lasting h = some (nI (wBits (wLast c) c.1)) := by
  have n7 := ok.1
  have e : zloop (qM_lasting_b4 h) zfu (0, 0) = some (nI (wBits (wLast c) c.1)) := by
    refine zloop_for (fun i => (nI (wBits (wLast c) i), nI i)) c.1 (fun i hi => ?_) ?_ (zfu_lt (by omega))
    · unfold qM_lasting_b4
      dsimp only
      rw [B.2.2.1, if_neg (nI_ge hi (by omega)), qM_lifeOf_ev B ok hi, Option.bind_some, wBits_s]
      simp only [zlet]
      unfold wLifeI wLast
      by_cases hl : wLife c i < 51
      · rw [if_pos hl, if_pos (nI_nm1 (by omega)), nI_1, if_neg (show ¬ (!decide (wLife c i < 51)) = true by simp [hl]), show (0 : Int32) = nI 0 from rfl, fa_or]
      · rw [if_neg hl, if_neg (by decide), nI_1, if_pos (show (!decide (wLife c i < 51)) = true by simp [hl]), wshl i (by omega), fa_or]
    · unfold qM_lasting_b4
      dsimp only
      rw [B.2.2.1, if_pos (nI_le (Nat.le_refl _) (by omega))]
  unfold qM_lasting
  rw [e]; rfl
end LOOK2
