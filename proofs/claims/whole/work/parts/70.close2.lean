/-! CLOSE: the reference -/
section CLOSE2
variable {h : zK} {k : Nat} {c : wC}
theorem wNsG_big (ok : wCok c) {i j : Nat} (hi : i < c.1) (hj : j < c.1) (a : Option (Nat × Nat)) : wGp c i j < wNsG c 21 a ↔ wGp c i j < wNsG c 1000000 a := by
  have := wGp_lt ok hi hj
  cases a with
  | none =>
    unfold wNsG
    dsimp only
    omega
  | some p => exact Iff.rfl
theorem wles {a b : Nat} (ha : a < 2 ^ 31) (hb : b < 2 ^ 31) : zf_lesser (nI a) (nI b) = nI (if b < a then b else a) := by
  unfold zf_lesser
  by_cases h : b < a
  · rw [if_pos h, if_neg (nI_nlt (by omega) (by omega))]
  · rw [if_neg h]
    by_cases e : a = b
    · rw [e]
      split <;> rfl
    · rw [if_pos (show nI a < nI b from Int32.not_le.mp (nI_ge (by omega) hb))]
theorem qM_close_b24_ev (B : mB h k c) (B3 : mB3 h c) (ok : wCok c) (x1 : Int32) {i : Nat} (hi : i < c.1) {a : Option (Nat × Nat)} (H : wNsK c a) : zloop (qM_close_b24 x1 (nI i) h) zfu (wNsP a, nI (wNsG c 1000000 a), nI (i + 1)) = some (wNsP (wNsI c i a (c.1 - (i + 1))), nI (wNsG c 1000000 (wNsI c i a (c.1 - (i + 1))))) := by
  have n7 := ok.1
  refine zloop_for (fun m => (wNsP (wNsI c i a m), nI (wNsG c 1000000 (wNsI c i a m)), nI (i + 1 + m))) (c.1 - (i + 1)) (fun m hm => ?_) ?_ (zfu_lt (by omega))
  · have K := wNsI_k (i := i) H m (by omega)
    have g1 := wNsG_lt ok K (d := 1000000) (by omega)
    have g2 := wGp_lt ok hi (j := i + 1 + m) (by omega)
    have g3 := wNsG_big ok hi (j := i + 1 + m) (by omega) (wNsI c i a m)
    unfold qM_close_b24
    dsimp only
    rw [B.2.2.1, if_neg (nI_ge (by omega) (by omega)), zix_nI (by omega) (by omega), Option.bind_some, zix_nI (by omega) (by omega), Option.bind_some, (B3.2 i hi).2.2.2, (B3.2 (i + 1 + m) (by omega)).2.2.2, waway_c ok hi (by omega), nI_1, wNsI_s, wles g1 (by omega)]
    simp only [zlet]
    unfold wNsS
    by_cases hh : wGp c i (i + 1 + m) < wNsG c 1000000 (wNsI c i a m)
    · rw [if_neg (nI_ge hh (by omega)), if_pos hh, if_pos (g3.mpr hh), show (10 : Int32) = nI 10 from rfl, nI_mul, nI_add]
      rfl
    · rw [if_pos (nI_le (by omega) (by omega)), if_neg hh, if_neg (fun z => hh (g3.mp z))]
      rfl
  · unfold qM_close_b24
    dsimp only
    rw [B.2.2.1, if_pos (nI_le (by omega) (by omega))]
theorem qM_close_ev (B : mB h k c) (B3 : mB3 h c) (ok : wCok c) (x1 : Int32) : qM_close x1 h = some (if x1 = 0 then wNsP (wNs c c.1) else wNsV c (wNs c c.1)) := by
  have n7 := ok.1
  have e : zloop (qM_close_b9 x1 h) zfu (-1, 1000000, 0) = some (wNsP (wNs c c.1), nI (wNsG c 1000000 (wNs c c.1))) := by
    refine zloop_for (fun i => (wNsP (wNs c i), nI (wNsG c 1000000 (wNs c i)), nI i)) c.1 (fun i hi => ?_) ?_ (zfu_lt (by omega))
    · unfold qM_close_b9
      dsimp only
      rw [B.2.2.1, if_neg (nI_ge hi (by omega)), nI_1, qM_close_b24_ev B B3 ok x1 hi (wNs_k i (by omega)), Option.bind_some, wNs_s]
    · unfold qM_close_b9
      dsimp only
      rw [B.2.2.1, if_pos (nI_le (Nat.le_refl _) (by omega))]
  unfold qM_close
  rw [e, Option.bind_some]
  dsimp only
  have K := wNs_k (c := c) c.1 (Nat.le_refl _)
  by_cases hx : x1 = 0
  · rw [if_neg (fun z => z hx), if_pos hx]
  · rw [if_pos hx, if_neg hx]
    cases eq : wNs c c.1 with
    | none =>
      rw [if_neg (show ¬ ¬ wNsP none = -1 from fun z => z rfl)]
      rfl
    | some p =>
      obtain ⟨p1, p2⟩ := K p eq
      rw [if_pos (show ¬ wNsP (some p) = -1 from nI_nm1 (by omega))]
      rfl
end CLOSE2
