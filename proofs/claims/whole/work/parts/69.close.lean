/-! CLOSE: the two that lie closest -/
theorem wabs21 : ∀ a, a < 21 → ∀ b, b < 21 → zf_abs (nI a - nI b) = nI (if a < b then b - a else a - b) := by decide +kernel
theorem waway : ∀ a, a < 21 → ∀ b, b < 21 → zf_away (nI a) (nI b) = nI (if a < b then b - a else a - b) := by decide +kernel
section CLOSE
variable {h : zK} {o k : Nat} {c : wC}
def wGp (c : wC) (i j : Nat) : Nat := if c.2.2.2 5 i < c.2.2.2 5 j then c.2.2.2 5 j - c.2.2.2 5 i else c.2.2.2 5 i - c.2.2.2 5 j
theorem wGp_lt (ok : wCok c) {i j : Nat} (hi : i < c.1) (hj : j < c.1) : wGp c i j < 21 := by
  obtain ⟨-, -, -, -, -, -, r5, -, -⟩ := ok.2.2.2 i hi
  obtain ⟨-, -, -, -, -, -, s5, -, -⟩ := ok.2.2.2 j hj
  unfold wGp
  split <;> omega
theorem wabs_c (ok : wCok c) {i j : Nat} (hi : i < c.1) (hj : j < c.1) : zf_abs (nI (c.2.2.2 5 i) - nI (c.2.2.2 5 j)) = nI (wGp c i j) := by
  obtain ⟨-, -, -, -, -, -, r5, -, -⟩ := ok.2.2.2 i hi
  obtain ⟨-, -, -, -, -, -, s5, -, -⟩ := ok.2.2.2 j hj
  exact wabs21 (c.2.2.2 5 i) (by omega) (c.2.2.2 5 j) (by omega)
theorem waway_c (ok : wCok c) {i j : Nat} (hi : i < c.1) (hj : j < c.1) : zf_away (nI (c.2.2.2 5 i)) (nI (c.2.2.2 5 j)) = nI (wGp c i j) := by
  obtain ⟨-, -, -, -, -, -, r5, -, -⟩ := ok.2.2.2 i hi
  obtain ⟨-, -, -, -, -, -, s5, -, -⟩ := ok.2.2.2 j hj
  exact waway (c.2.2.2 5 i) (by omega) (c.2.2.2 5 j) (by omega)
def wNsP : Option (Nat × Nat) → Int32
  | none => -1
  | some p => nI (10 * p.1 + p.2)
def wNsG (c : wC) (d : Nat) : Option (Nat × Nat) → Nat
  | none => d
  | some p => wGp c p.1 p.2
def wNsS (c : wC) (i j : Nat) (a : Option (Nat × Nat)) : Option (Nat × Nat) := if wGp c i j < wNsG c 21 a then some (i, j) else a
def wNsI (c : wC) (i : Nat) (a : Option (Nat × Nat)) (m : Nat) : Option (Nat × Nat) := wfold (fun t a => wNsS c i (i + 1 + t) a) a m
theorem wNsI_s (i m : Nat) (a : Option (Nat × Nat)) : wNsI c i a (m + 1) = wNsS c i (i + 1 + m) (wNsI c i a m) := rfl
def wNs (c : wC) (n : Nat) : Option (Nat × Nat) := wfold (fun i a => wNsI c i a (c.1 - (i + 1))) none n
theorem wNs_s (n : Nat) : wNs c (n + 1) = wNsI c n (wNs c n) (c.1 - (n + 1)) := rfl
def wNsK (c : wC) (a : Option (Nat × Nat)) : Prop := ∀ p, a = some p → p.1 < c.1 ∧ p.2 < c.1
theorem wNsS_k {i j : Nat} {a : Option (Nat × Nat)} (hi : i < c.1) (hj : j < c.1) (H : wNsK c a) : wNsK c (wNsS c i j a) := by
  intro p e
  unfold wNsS at e
  split at e
  · cases e
    exact ⟨hi, hj⟩
  · exact H p e
theorem wNsI_k {i : Nat} {a : Option (Nat × Nat)} (H : wNsK c a) : ∀ m, i + 1 + m ≤ c.1 → wNsK c (wNsI c i a m)
  | 0, _ => H
  | m + 1, hm => by
    rw [wNsI_s]
    exact wNsS_k (by omega) (by omega) (wNsI_k H m (by omega))
theorem wNs_k : ∀ n, n ≤ c.1 → wNsK c (wNs c n)
  | 0, _ => fun p e => by cases e
  | n + 1, hn => by
    rw [wNs_s]
    exact wNsI_k (wNs_k n (by omega)) _ (by omega)
theorem wNsG_lt (ok : wCok c) {a : Option (Nat × Nat)} (H : wNsK c a) {d : Nat} (hd : d < 2 ^ 31) : wNsG c d a < 2 ^ 31 := by
  cases a with
  | none => exact hd
  | some p =>
    have := wGp_lt ok (H p rfl).1 (H p rfl).2
    unfold wNsG
    dsimp only
    omega
theorem qLk_closest_b20_ev (hc : cC h o c) (ok : wCok c) {i : Nat} (hi : i < c.1) {a : Option (Nat × Nat)} (H : wNsK c a) : zloop (qLk_closest_b20 o (nI i) h) zfu (wNsP a, nI (wNsG c 21 a), nI (i + 1)) = some (wNsP (wNsI c i a (c.1 - (i + 1))), nI (wNsG c 21 (wNsI c i a (c.1 - (i + 1))))) := by
  have n7 := ok.1
  refine zloop_for (fun m => (wNsP (wNsI c i a m), nI (wNsG c 21 (wNsI c i a m)), nI (i + 1 + m))) (c.1 - (i + 1)) (fun m hm => ?_) ?_ (zfu_lt (by omega))
  · have K := wNsI_k (i := i) H m (by omega)
    have g1 := wNsG_lt ok K (d := 21) (by omega)
    have g2 := wGp_lt ok hi (j := i + 1 + m) (by omega)
    unfold qLk_closest_b20
    dsimp only
    rw [cC_n hc, if_neg (nI_ge (by omega) (by omega)), zix_nI (by omega) (by omega), Option.bind_some, zix_nI (by omega) (by omega), Option.bind_some, cC_5 hc hi, cC_5 hc (by omega), wabs_c ok hi (by omega), nI_1, wNsI_s]
    simp only [zlet]
    unfold wNsS
    by_cases hh : wGp c i (i + 1 + m) < wNsG c 21 (wNsI c i a m)
    · rw [if_neg (nI_ge hh (by omega)), if_pos hh, show (10 : Int32) = nI 10 from rfl, nI_mul, nI_add]
      rfl
    · rw [if_pos (nI_le (by omega) (by omega)), if_neg hh]
      rfl
  · unfold qLk_closest_b20
    dsimp only
    rw [cC_n hc, if_pos (nI_le (by omega) (by omega))]
theorem qLk_closest_ev (hc : cC h o c) (ok : wCok c) : qLk_closest o h = some (wNsP (wNs c c.1)) := by
  have n7 := ok.1
  have e : zloop (qLk_closest_b7 o h) zfu (-1, 21, 0) = some (wNsP (wNs c c.1)) := by
    refine zloop_for (fun i => (wNsP (wNs c i), nI (wNsG c 21 (wNs c i)), nI i)) c.1 (fun i hi => ?_) ?_ (zfu_lt (by omega))
    · unfold qLk_closest_b7
      dsimp only
      rw [cC_n hc, if_neg (nI_ge hi (by omega)), nI_1, qLk_closest_b20_ev hc ok hi (wNs_k i (by omega)), Option.bind_some, wNs_s]
    · unfold qLk_closest_b7
      dsimp only
      rw [cC_n hc, if_pos (nI_le (Nat.le_refl _) (by omega))]
  unfold qLk_closest
  rw [e]; rfl
def wNsV (c : wC) : Option (Nat × Nat) → Int32
  | none => 0
  | some p => nI (wGp c p.1 p.2)
theorem qLk_closestGap_ev (hc : cC h o c) (ok : wCok c) : qLk_closestGap o h = some (wNsV c (wNs c c.1)) := by
  have n7 := ok.1
  unfold qLk_closestGap
  rw [qLk_closest_ev hc ok, Option.bind_some]
  have K := wNs_k (c := c) c.1 (Nat.le_refl _)
  cases eq : wNs c c.1 with
  | none =>
    rw [if_neg (show ¬ ¬ wNsP none = -1 from fun z => z rfl)]
    rfl
  | some p =>
    obtain ⟨p1, p2⟩ := K p eq
    rw [if_pos (show ¬ wNsP (some p) = -1 from nI_nm1 (by omega)), show wNsP (some p) = nI (10 * p.1 + p.2) from rfl, show (10 : Int32) = nI 10 from rfl, nI_rem (by omega) (by omega), nI_div (by omega) (by omega), show (10 * p.1 + p.2) / 10 = p.1 by omega, show (10 * p.1 + p.2) % 10 = p.2 by omega, zix_nI (by omega) (by omega), Option.bind_some, zix_nI (by omega) (by omega), Option.bind_some, cC_5 hc p1, cC_5 hc p2, wabs_c ok p1 p2]
    rfl
end CLOSE
