/-! MUTE: the class -/
section MUTE
variable {h : zK} {o k : Nat} {c : wC}
def wMuS (c : wC) (s a : Nat) : Nat := if c.2.2.2 6 s = 0 then a else a ||| (c.2.2.2 6 s ||| 2 ^ s)
def wMu (c : wC) (i : Nat) : Nat := wfold (wMuS c) 0 i
theorem wMu_s (i : Nat) : wMu c (i + 1) = wMuS c i (wMu c i) := rfl
theorem wMu_lt (ok : wCok c) : ∀ i, i ≤ c.1 → wMu c i < 128
  | 0, _ => by show 0 < 128; omega
  | i + 1, hi => by
    have n7 := ok.1
    rw [wMu_s]
    unfold wMuS
    split
    · exact wMu_lt ok i (by omega)
    · exact wor_lt (wMu_lt ok i (by omega)) (wor_lt (wans_lt ok (by omega)) (wpow7 i (by omega)))
theorem qLk_mute_ev (hc : cC h o c) (ok : wCok c) : qLk_mute o h = some (nI ((2 ^ c.1 - 1) &&& (127 ^^^ wMu c c.1))) := by
  have n7 := ok.1
  have p7 := w2n n7
  have e : zloop (qLk_mute_b4 o h) zfu (0, 0) = some (nI (wMu c c.1)) := by
    refine zloop_for (fun i => (nI (wMu c i), nI i)) c.1 (fun i hi => ?_) ?_ (zfu_lt (by omega))
    · have a7 := wans_lt ok hi
      unfold qLk_mute_b4
      dsimp only
      rw [cC_n hc, if_neg (nI_ge hi (by omega)), zix_nI (by omega) (by omega), Option.bind_some, cC_6 hc hi, wshl i (by omega), fa_or, fa_or, nI_1, wMu_s]
      simp only [zlet]
      unfold wMuS
      by_cases h0 : c.2.2.2 6 i = 0
      · rw [if_pos ((nI_z (by omega)).mpr h0), if_pos h0]
      · rw [if_neg (fun z => h0 ((nI_z (by omega)).mp z)), if_neg h0]
    · unfold qLk_mute_b4
      dsimp only
      rw [cC_n hc, if_pos (nI_le (Nat.le_refl _) (by omega))]
  unfold qLk_mute
  rw [e, Option.bind_some, qCe_all_ev hc ok, wnot _ (by omega) _ (wMu_lt ok c.1 (Nat.le_refl _))]
end MUTE
