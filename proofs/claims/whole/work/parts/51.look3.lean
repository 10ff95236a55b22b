/-! ones, answeredBy, HALF, MUTE, CLOSE -/
def wones (b : Nat) : Nat := wSum (fun s => if b.testBit s then 1 else 0) 7
theorem wbc : ∀ b, b < 128 → qIn_bitCount (nI b) = nI (wones b) := by decide +kernel
theorem wones_le (b : Nat) : wones b ≤ 7 := by
  have := wSum_le (f := fun s => if b.testBit s then 1 else 0) (b := 1) 7 (fun s _ => by split <;> omega)
  unfold wones
  omega
theorem nI_z {x : Nat} (hx : x < 2 ^ 31) : nI x = 0 ↔ x = 0 := nI_eq (b := 0) hx (by omega)
theorem wnot : ∀ a, a < 128 → ∀ b, b < 128 → nI a &&& (nI b ^^^ (-1)) = nI (a &&& (127 ^^^ b)) := by decide +kernel
theorem qM_ones_ev {b : Nat} (hb : b < 128) : qM_ones (nI b) = some (nI (wones b)) := by
  have e : zloop (qM_ones_b4 (nI b)) zfu (0, 0) = some (nI (wones b)) := by
    refine zloop_for (fun i => (nI (wSum (fun s => if b.testBit s then 1 else 0) i), nI i)) 7 (fun i hi => ?_) ?_ (zfu_lt (by omega))
    · unfold qM_ones_b4
      dsimp only
      rw [if_neg (show ¬ (7 : Int32) ≤ nI i from nI_ge (b := 7) hi (by decide)), whas b hb i (by omega), wSum_s]
      simp only [zlet]
      by_cases ht : b.testBit i = true
      · rw [if_pos ht, if_neg (by decide), nI_1, nI_1, if_pos ht]
      · rw [if_neg ht, if_pos rfl, nI_1, if_neg ht, show (0 : Int32) = nI 0 from rfl, nI_add]
    · unfold qM_ones_b4
      dsimp only
      rw [if_pos (show (7 : Int32) ≤ nI 7 from nI_le (a := 7) (by omega) (by decide))]
      rfl
  unfold qM_ones
  rw [e]; rfl
section LOOK3
variable {h : zK} {o k : Nat} {c : wC}
def wAnsF (c : wC) (b i : Nat) : Nat := wfold (fun s a => a ||| (if b.testBit s then c.2.2.2 6 s else 0)) 0 i
def wAns (c : wC) (b : Nat) : Nat := wAnsF c b c.1
theorem wAnsF_s (c : wC) (b i : Nat) : wAnsF c b (i + 1) = wAnsF c b i ||| (if b.testBit i then c.2.2.2 6 i else 0) := rfl
theorem wans_lt (ok : wCok c) {s : Nat} (hs : s < c.1) : c.2.2.2 6 s < 128 := by
  obtain ⟨-, -, -, -, -, -, -, a, -⟩ := ok.2.2.2 s hs
  exact Nat.lt_of_lt_of_le a (w2n ok.1)
theorem wAnsF_lt (ok : wCok c) (b : Nat) : ∀ i, i ≤ c.1 → wAnsF c b i < 128
  | 0, _ => by simp [wAnsF, wfold]
  | i + 1, hi => by
    rw [wAnsF_s]
    refine wor_lt (wAnsF_lt ok b i (by omega)) ?_
    split
    · exact wans_lt ok (by omega)
    · omega
theorem wAns_lt (ok : wCok c) (b : Nat) : wAns c b < 128 := wAnsF_lt ok b c.1 (Nat.le_refl _)
theorem qLk_answeredBy_ev (hc : cC h o c) (ok : wCok c) {b : Nat} (hb : b < 128) : qLk_answeredBy o (nI b) h = some (nI (wAns c b)) := by
  have n7 := ok.1
  have e : zloop (qLk_answeredBy_b4 o (nI b) h) zfu (0, 0) = some (nI (wAns c b)) := by
    refine zloop_for (fun i => (nI (wAnsF c b i), nI i)) c.1 (fun i hi => ?_) ?_ (zfu_lt (by omega))
    · unfold qLk_answeredBy_b4
      dsimp only
      rw [cC_n hc, if_neg (nI_ge hi (by omega)), wcin b hb i (by omega), wAnsF_s]
      by_cases ht : b.testBit i = true
      · rw [if_pos ht, if_neg (by decide), zix_nI (by omega) (by omega), Option.bind_some, Option.bind_some, cC_6 hc hi, fa_or, nI_1, if_pos ht]
      · rw [if_neg ht, if_pos rfl, Option.bind_some, nI_1, if_neg ht, Nat.or_zero]
    · unfold qLk_answeredBy_b4
      dsimp only
      rw [cC_n hc, if_pos (nI_le (Nat.le_refl _) (by omega))]
      rfl
  unfold qLk_answeredBy
  rw [e]; rfl
theorem qM_answeredBy_ev (B : mB h k c) (ok : wCok c) {b : Nat} (hb : b < 128) : qM_answeredBy (nI b) h = some (nI (wAns c b)) := by
  have n7 := ok.1
  have e : zloop (qM_answeredBy_b4 (nI b) h) zfu (0, 0) = some (nI (wAns c b)) := by
    refine zloop_for (fun i => (nI (wAnsF c b i), nI i)) c.1 (fun i hi => ?_) ?_ (zfu_lt (by omega))
    · unfold qM_answeredBy_b4
      dsimp only
      rw [B.2.2.1, if_neg (nI_ge hi (by omega)), whas b hb i (by omega), wAnsF_s]
      by_cases ht : b.testBit i = true
      · rw [if_pos ht, if_neg (by decide), mB_6 B ok hi, Option.bind_some, Option.bind_some, fa_or, nI_1, if_pos ht]
      · rw [if_neg ht, if_pos rfl, Option.bind_some, nI_1, if_neg ht, show (0 : Int32) = nI 0 from rfl, fa_or]
    · unfold qM_answeredBy_b4
      dsimp only
      rw [B.2.2.1, if_pos (nI_le (Nat.le_refl _) (by omega))]
      rfl
  unfold qM_answeredBy
  rw [e]; rfl
theorem wWitOf_le (ok : wCok c) (b : Nat) : wWitOf c b ≤ 210 := by
  have h1 := wSum_le (f := fun s => if b.testBit s then c.2.2.2 0 s else 0) (b := 30) c.1 (fun s hs => by
    have := (ok.2.2.2 s hs).1
    split <;> omega)
  have := ok.1
  unfold wWitOf
  omega
/-! half -/
def wMay (c : wC) (k b : Nat) : Bool := decide (wones b = k) && decide (wAns c b &&& b = 0)
def wHfS (c : wC) (k b : Nat) (a : Option Nat) : Option Nat := if wMay c k b then (match a with
  | none => some b
  | some j => if wWitOf c j < wWitOf c b then some b else some j) else a
def wHf (c : wC) (k i : Nat) : Option Nat := wfold (wHfS c k) none i
theorem wHf_s (c : wC) (k i : Nat) : wHf c k (i + 1) = wHfS c k i (wHf c k i) := rfl
theorem wHf_lt {c : wC} {k : Nat} : ∀ {i j : Nat}, wHf c k i = some j → j < i
  | 0, j, h => by cases h
  | i + 1, j, h => by
    rw [wHf_s] at h
    unfold wHfS at h
    cases e : wHf c k i with
    | none =>
      rw [e] at h
      dsimp only at h
      split at h <;> cases h <;> omega
    | some q =>
      have := wHf_lt e
      rw [e] at h
      dsimp only at h
      split at h
      · split at h <;> cases h <;> omega
      · cases h; omega
def wHfM (c : wC) : Option Nat → Int32
  | none => -1
  | some j => nI (wWitOf c j)
theorem qCe_all_ev (hc : cC h o c) (ok : wCok c) : qCe_all o h = nI (2 ^ c.1 - 1) := by
  unfold qCe_all
  rw [cC_n hc, wall1 c.1 (by have := ok.1; omega)]
theorem w2p (n : Nat) : 1 ≤ 2 ^ n := Nat.one_le_two_pow
theorem qLk_bestApart_ev (hc : cC h o c) (ok : wCok c) {q : Nat} (hq : q ≤ 7) : qLk_bestApart o (nI q) h = some (wO (wHf c q (2 ^ c.1))) := by
  have n7 := ok.1
  have p7 := w2n n7
  have p0 := w2p c.1
  have e : zloop (qLk_bestApart_b7 o (nI q) h) zfu (-1, -1, 0) = some (wO (wHf c q (2 ^ c.1))) := by
    refine zloop_for (fun i => (wO (wHf c q i), wHfM c (wHf c q i), nI i)) (2 ^ c.1) (fun i hi => ?_) ?_ (zfu_lt (by omega))
    · unfold qLk_bestApart_b7
      dsimp only
      have ho := wones_le i
      have ha := wAns_lt ok i
      have hw := wWitOf_le ok i
      have hand : wAns c i &&& i < 2 ^ 31 := Nat.lt_of_le_of_lt Nat.and_le_right (by omega)
      rw [qCe_all_ev hc ok, if_neg (nI_nlt (by omega) (by omega)), wbc i (by omega), qLk_answeredBy_ev hc ok (by omega), Option.bind_some, fa_and, wHf_s, qLk_witOf_ev hc ok (by omega), Option.bind_some, Option.bind_some]
      unfold wHfS wMay
      by_cases h1 : wones i = q
      · rw [if_neg (show ¬ ¬ nI (wones i) = nI q from fun z => z (by rw [h1]))]
        by_cases h2 : wAns c i &&& i = 0
        · rw [if_neg (show ¬ ¬ nI (wAns c i &&& i) = 0 from fun z => z (by rw [h2]; rfl)), Option.bind_some, if_neg (show ¬ (1 : Int32) = 0 by decide), if_pos (show (decide (wones i = q) && decide (wAns c i &&& i = 0)) = true by simp [h1, h2])]
          cases eq : wHf c q i with
          | none =>
            have z : ¬ nI (wWitOf c i) ≤ -1 := by
              rw [Int32.le_iff_toInt_le, nI_toInt (by omega)]
              have e0 : (-1 : Int32).toInt = -1 := rfl
              omega
            rw [show wHfM c none = -1 from rfl, if_neg z, Option.bind_some, nI_1]
            rfl
          | some j =>
            have := wWitOf_le ok j
            rw [show wHfM c (some j) = nI (wWitOf c j) from rfl]
            dsimp only
            by_cases h3 : wWitOf c j < wWitOf c i
            · rw [if_neg (nI_ge h3 (by omega)), if_pos h3, Option.bind_some, nI_1]
              rfl
            · rw [if_pos (nI_le (by omega) (by omega)), if_neg h3, Option.bind_some, nI_1]
              rfl
        · rw [if_pos (show ¬ nI (wAns c i &&& i) = 0 from fun z => h2 ((nI_z hand).mp z)), Option.bind_some, if_pos rfl, if_neg (show ¬ (decide (wones i = q) && decide (wAns c i &&& i = 0)) = true by simp [h2]), Option.bind_some, nI_1]
      · rw [if_pos (show ¬ nI (wones i) = nI q from fun z => h1 ((nI_eq (by omega) (by omega)).mp z)), Option.bind_some, if_pos rfl, if_neg (show ¬ (decide (wones i = q) && decide (wAns c i &&& i = 0)) = true by simp [h1]), Option.bind_some, nI_1]
    · unfold qLk_bestApart_b7
      dsimp only
      rw [qCe_all_ev hc ok, if_pos (nI_lt (by omega) (by omega))]
  unfold qLk_bestApart
  rw [e]; rfl
theorem qM_half_b31_ev (B : mB h k c) (ok : wCok c) {q : Nat} (hq : q ≤ 7) (x3 : Int32) : zloop (qM_half_b31 (nI q) x3 h) zfu (-1, 0) = some (wO (wHf c q (2 ^ c.1))) := by
  have n7 := ok.1
  have p7 := w2n n7
  refine zloop_for (fun i => (wO (wHf c q i), nI i)) (2 ^ c.1) (fun i hi => ?_) ?_ (zfu_lt (by omega))
  · unfold qM_half_b31
    dsimp only
    have ho := wones_le i
    have ha := wAns_lt ok i
    have hw := wWitOf_le ok i
    have hand : wAns c i &&& i < 2 ^ 31 := Nat.lt_of_le_of_lt Nat.and_le_right (by omega)
    rw [B.2.2.1, wshl c.1 (by omega), if_neg (nI_ge hi (by omega)), qM_ones_ev (by omega), Option.bind_some, wHf_s]
    unfold wHfS wMay qM_isQuiet
    rw [qM_answeredBy_ev B ok (by omega), Option.bind_some, fa_and]
    by_cases h1 : wones i = q
    · rw [if_neg (show ¬ ¬ nI (wones i) = nI q from fun z => z (by rw [h1]))]
      by_cases h2 : wAns c i &&& i = 0
      · rw [if_neg (show ¬ ¬ nI (wAns c i &&& i) = 0 from fun z => z (by rw [h2]; rfl)), Option.bind_some, if_neg (show ¬ (1 : Int32) = 0 by decide), Option.bind_some, if_neg (show ¬ (1 : Int32) = 0 by decide), if_pos (show (decide (wones i = q) && decide (wAns c i &&& i = 0)) = true by simp [h1, h2])]
        cases eq : wHf c q i with
        | none =>
          rw [if_pos (show wO none = -1 from rfl), Option.bind_some, nI_1]
          rfl
        | some j =>
          have hj := wHf_lt eq
          have := wWitOf_le ok j
          rw [if_neg (show ¬ wO (some j) = -1 from nI_nm1 (by omega)), show wO (some j) = nI j from rfl, qM_witsOf_ev B ok (by omega), Option.bind_some, qM_witsOf_ev B ok (by omega), Option.bind_some]
          dsimp only
          by_cases h3 : wWitOf c j < wWitOf c i
          · rw [if_neg (nI_ge h3 (by omega)), if_pos h3, Option.bind_some, nI_1]
            rfl
          · rw [if_pos (nI_le (by omega) (by omega)), if_neg h3, Option.bind_some, nI_1]
            rfl
      · rw [if_pos (show ¬ nI (wAns c i &&& i) = 0 from fun z => h2 ((nI_z hand).mp z)), Option.bind_some, if_pos rfl, Option.bind_some, if_pos rfl, if_neg (show ¬ (decide (wones i = q) && decide (wAns c i &&& i = 0)) = true by simp [h2]), Option.bind_some, nI_1]
    · rw [if_pos (show ¬ nI (wones i) = nI q from fun z => h1 ((nI_eq (by omega) (by omega)).mp z)), Option.bind_some, if_pos rfl, if_neg (show ¬ (decide (wones i = q) && decide (wAns c i &&& i = 0)) = true by simp [h1]), Option.bind_some, nI_1]
  · unfold qM_half_b31
    dsimp only
    rw [B.2.2.1, wshl c.1 (by omega), if_pos (nI_le (Nat.le_refl _) (by omega))]
end LOOK3
theorem wo_half {h : zK} (H : InvB h) (a x y : Int32) : ∃ w h2, qC_half a x y h = some w ∧ qM_half a x y h = some (w, h2) := by
  have e8 : nI 8 - 1 = (7 : Int32) := by decide
  unfold qC_half qM_half
  simp only [zlet]
  rcases wcell H a with ⟨e1, e2⟩ | ⟨k, c, hk, rfl, c1, c2, c3, e1, e2, e4⟩
  · rw [e1, e2 _ (wEq_s (by unfold wKp; omega)), Option.bind_some, Option.bind_some]
    refine ⟨-1, sI h 215 0 0, rfl, ?_⟩
    split <;> rfl
  · obtain ⟨h2, q1, B, -, -⟩ := e4 (sI h 215 0 0) (wEq_s (by unfold wKp; omega))
    rw [e1, q1, Option.bind_some, Option.bind_some]
    simp only [if_pos e2]
    rw [if_pos (show ¬ (1 : Int32) = 0 by decide)]
    have n7 := c1.1
    have p7 := w2n n7
    rcases zf_in_n (m := 8) (by omega) x with ⟨q, hq, rfl, hz⟩ | ⟨ha, hz⟩
    · rw [e8] at hz
      rw [hz, if_neg (show ¬ (1 : Int32) = 0 by decide), if_neg (nI_pos (by omega)), if_pos (show nI q ≤ (7 : Int32) from nI_le (b := 7) (by omega) (by decide)), qLk_bestApart_ev c2 c1 (by omega), qM_half_b31_ev B c1 (by omega), Option.bind_some, Option.bind_some]
      cases eq : wHf c q (2 ^ c.1) with
      | none =>
        rw [if_pos (show wO none = -1 from rfl)]
        refine ⟨wO none, h2, ?_, rfl⟩
        split <;> rfl
      | some j =>
        have hj := wHf_lt eq
        rw [if_neg (show ¬ wO (some j) = -1 from nI_nm1 (by omega)), if_pos (show ¬ wO (some j) = -1 from nI_nm1 (by omega)), show wO (some j) = nI j from rfl, qLk_witOf_ev c2 c1 (by omega), qM_witsOf_ev B c1 (by omega)]
        by_cases hy : y = 0
        · rw [if_pos hy, if_neg (fun z => z hy)]
          exact ⟨_, _, rfl, rfl⟩
        · rw [if_neg hy, if_pos hy]
          exact ⟨_, _, rfl, rfl⟩
    · rw [e8] at hz
      rw [hz, if_pos rfl]
      refine ⟨-1, _, ?_, rfl⟩
      rcases ha with ha | ⟨j, h1, h2, rfl⟩
      · rw [if_pos ha]
      · rw [if_neg (nI_pos h2), if_neg (show ¬ nI j ≤ (7 : Int32) from nI_ge (a := 7) (by omega) h2)]
