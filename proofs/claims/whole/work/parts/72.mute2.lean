/-! MUTE: the reference -/
section MUTE2
variable {h : zK} {o k : Nat} {c : wC}
theorem qM_answers_ev (B : mB h k c) (ok : wCok c) {s t : Nat} (hs : s < c.1) (ht : t < 7) : qM_answers (nI s) (nI t) h = some (if (c.2.2.2 6 s).testBit t then 1 else 0) := by
  have n7 := ok.1
  unfold qM_answers
  rw [if_neg (show ¬ (7 : Int32) ≤ nI t from nI_ge (b := 7) (by omega) (by omega)), mB_of B n7 (i := 6) (s := s) (by omega) hs (show (45 : Int32) + nI s = nI (3 + 7 * 6 + s) from nI_add 45 s), Option.bind_some, whas _ (wans_lt ok hs) t (by omega)]
  split
  · rw [if_neg (by decide)]
  · rw [if_pos rfl]
def wMt (c : wC) (t s : Nat) : Bool := wfold (fun r b => b && !(c.2.2.2 6 r).testBit t) (decide (c.2.2.2 6 t = 0)) s
theorem wMt_s (t s : Nat) : wMt c t (s + 1) = (wMt c t s && !(c.2.2.2 6 s).testBit t) := rfl
theorem qM_mute_b32_ev (B : mB h k c) (ok : wCok c) (x1 : Int32) {t : Nat} (ht : t < c.1) : zloop (qM_mute_b32 x1 (nI t) h) zfu (if wMt c t 0 then 1 else 0, 0) = some (if wMt c t c.1 then 1 else 0) := by
  have n7 := ok.1
  refine zloop_for (fun s => (if wMt c t s then 1 else 0, nI s)) c.1 (fun s hs => ?_) ?_ (zfu_lt (by omega))
  · unfold qM_mute_b32
    dsimp only
    rw [B.2.2.1, if_neg (nI_ge hs (by omega)), nI_1, wMt_s, qM_answers_ev B ok hs (by omega)]
    cases wMt c t s <;> cases (c.2.2.2 6 s).testBit t <;> rfl
  · unfold qM_mute_b32
    dsimp only
    rw [B.2.2.1, if_pos (nI_le (Nat.le_refl _) (by omega))]
theorem qM_mute_ev (B : mB h k c) (ok : wCok c) : qM_mute h = some (nI (wBits (fun t => wMt c t c.1) c.1)) := by
  have n7 := ok.1
  have e : zloop (qM_mute_b4 h) zfu (0, 0) = some (nI (wBits (fun t => wMt c t c.1) c.1)) := by
    refine zloop_for (fun i => (nI (wBits (fun t => wMt c t c.1) i), nI i)) c.1 (fun i hi => ?_) ?_ (zfu_lt (by omega))
    · have a7 := wans_lt ok hi
      have st : (if ¬ nI (c.2.2.2 6 i) = 0 then (0 : Int32) else 1) = if wMt c i 0 then 1 else 0 := by
        show _ = if decide (c.2.2.2 6 i = 0) = true then (1 : Int32) else 0
        by_cases h0 : c.2.2.2 6 i = 0
        · rw [if_neg (fun z => z ((nI_z (by omega)).mpr h0)), if_pos (decide_eq_true h0)]
        · rw [if_pos (fun z => h0 ((nI_z (by omega)).mp z)), if_neg (fun z => h0 (of_decide_eq_true z))]
      unfold qM_mute_b4
      dsimp only
      rw [B.2.2.1, if_neg (nI_ge hi (by omega)), mB_of B n7 (i := 6) (s := i) (by omega) hi (show (45 : Int32) + nI i = nI (3 + 7 * 6 + i) from nI_add 45 i), Option.bind_some]
      simp only [zlet]
      rw [st, qM_mute_b32_ev B ok _ hi, Option.bind_some, wBits_s, nI_1, wshl i (by omega)]
      by_cases hm : wMt c i c.1 = true
      · rw [if_pos hm, if_neg (by decide), if_pos hm, fa_or]
      · rw [if_neg hm, if_pos rfl, if_neg hm, ← fa_or]
        rfl
    · unfold qM_mute_b4
      dsimp only
      rw [B.2.2.1, if_pos (nI_le (Nat.le_refl _) (by omega))]
  unfold qM_mute
  rw [e]; rfl
end MUTE2
