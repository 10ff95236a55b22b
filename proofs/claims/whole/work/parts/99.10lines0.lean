/-! TEXTS: the reference's lines of cellars -/
section LINES0
variable {x : zK} {u : Nat → Nat} {len t : Nat} {F : Nat × Nat} {n : Nat} {v : Int64}
def yC0 (x : zK) (n : Nat) (u : Nat → Nat) (len t : Nat) (w : Nat) (x' : zK) : Prop := (∃ n', n' ≤ 7 ∧ gI x' 224 2 = nI n') ∧ (yNb (yBd w (yVv u len t)) (yNu w) = true → (w = 0 → (∀ j, gI x' 224 j = if j = 0 then nI (yVv u len t 0) else gI x 224 j) ∧ gI x' 215 20 = gI x 215 20) ∧ (w = 1 → (∀ j, gI x' 224 j = if j = 1 then nI (yVv u len t 0) else gI x 224 j) ∧ gI x' 215 20 = gI x 215 20) ∧ (w = 2 → n < 7 → (∀ i, i < 6 → gI x' 224 (3 + 7 * i + n) = nI (yVv u len t i)) ∧ (∀ j, j ≠ 2 → (∀ i, i < 6 → j ≠ 3 + 7 * i + n) → gI x' 224 j = gI x 224 j) ∧ gI x' 224 2 = nI (n + 1) ∧ gI x' 215 20 = gI x 215 20) ∧ (w = 3 → (∀ j, gI x' 224 j = if j = 45 + yVv u len t 0 then gI x 224 j ||| ((1 : Int32) <<< (nI (yVv u len t 1) &&& 31)) else gI x 224 j) ∧ gI x' 215 20 = zf_greater (gI x 215 20) (zf_greater (nI (yVv u len t 0)) (nI (yVv u len t 1)))))
theorem qM_sayrow_ev {y : zK} (hn : n ≤ 7) : ∃ x', zloop (qM_sayingLine_b87 (nI n)) zfu (0, y) = some x' ∧ x'.2.2 = y.2.2 ∧ (∀ a j, a ≠ 224 → gI x' a j = gI y a j) ∧ (n = 7 → x' = y) ∧ (n < 7 → (∀ i, i < 6 → gI x' 224 (3 + 7 * i + n) = gI y 225 i) ∧ ∀ j, (∀ i, i < 6 → j ≠ 3 + 7 * i + n) → gI x' 224 j = gI y 224 j) := by
  by_cases e : n = 7
  · have : zloop (qM_sayingLine_b87 (nI n)) zfu (0, y) = some y := zloop_e (n := 19999) (by
      unfold qM_sayingLine_b87
      dsimp only
      rw [if_neg (show ¬ (6 : Int32) ≤ 0 by decide), if_pos (show (7 : Int32) ≤ nI n by rw [e]; decide)])
    exact ⟨y, this, rfl, fun _ _ _ => rfl, fun _ => rfl, fun z => by omega⟩
  · have key : ∃ x', zloop (qM_sayingLine_b87 (nI n)) zfu (0, y) = some x' ∧ x'.2.2 = y.2.2 ∧ (∀ a j, a ≠ 224 → gI x' a j = gI y a j) ∧ (∀ i, i < 6 → gI x' 224 (3 + 7 * i + n) = gI y 225 i) ∧ ∀ j, (∀ i, i < 6 → j ≠ 3 + 7 * i + n) → gI x' 224 j = gI y 224 j := by
      refine zloop_me (Q := fun q s => ∃ i x', q + i = 6 ∧ s = (nI i, x') ∧ x'.2.2 = y.2.2 ∧ (∀ a j, a ≠ 224 → gI x' a j = gI y a j) ∧ (∀ k, k < i → gI x' 224 (3 + 7 * k + n) = gI y 225 k) ∧ ∀ j, (∀ k, k < i → j ≠ 3 + 7 * k + n) → gI x' 224 j = gI y 224 j) ?_ zfu 6 _ ⟨0, y, by omega, rfl, rfl, fun _ _ _ => rfl, fun k hk => absurd hk (Nat.not_lt_zero _), fun _ _ => rfl⟩ (zfu_lt (by omega))
      rintro q s ⟨i, x', hq, rfl, y1, y2, y3, y4⟩
      unfold qM_sayingLine_b87
      dsimp only
      by_cases hi : i < 6
      · rw [if_neg (show ¬ (6 : Int32) ≤ nI i from nI_ge (b := 6) hi (by decide)), if_neg (show ¬ (7 : Int32) ≤ nI n from nI_ge (b := 7) (by omega) (by decide)), zix_nI hi (by omega), Option.bind_some, show (3 : Int32) + 7 * nI i + nI n = nI (3 + 7 * i + n) from by rw [show (3 : Int32) = nI 3 from rfl, show (7 : Int32) = nI 7 from rfl, nI_mul, nI_add, nI_add], zix_nI (by omega) (by omega), Option.bind_some, nI_1]
        simp only [zlet]
        refine Or.inr ⟨q - 1, _, rfl, by omega, i + 1, _, by omega, rfl, y1, fun a j h => (gI_ne h).trans (y2 a j h), fun k hk => ?_, fun j hj => ?_⟩
        · by_cases ek : k = i
          · subst ek
            rw [gI_eq, y2 225 k (by decide)]
          · rw [gI_nk (by omega)]
            exact y3 k (by omega)
        · rw [gI_nk (hj i (by omega))]
          exact y4 j (fun k hk => hj k (by omega))
      · have ei : i = 6 := by omega
        subst ei
        rw [if_pos (show (6 : Int32) ≤ nI 6 by decide)]
        exact Or.inl ⟨_, rfl, y1, y2, y3, y4⟩
    obtain ⟨x', e1, e2, e3, e4, e5⟩ := key
    exact ⟨x', e1, e2, e3, fun z => absurd z e, fun _ => ⟨e4, e5⟩⟩
/-- how a line with a known word ends -/
def yMW (w : Nat) (u : Nat → Nat) (len t : Nat) (F : Nat × Nat) (b : Bool) (C : zK → Prop) (r : Option (Int32 × zK)) : Prop := (∃ m x', m < yNu w ∧ yAll u len (yTn u len t) m ∧ yKd u len (yP u len t m) ≠ 2 ∧ r = some (0, x') ∧ gI x' 215 15 = nI (yP u len t m)) ∨ (∃ x', r = some (1, x') ∧ yAll u len (yTn u len t) (yNu w) ∧ yRX x' u len (yP u len t (yNu w)) ∧ yFl x' (yLF w u len t F b) ∧ ((yLF w u len t F b).1 ≠ 0 → (yLF w u len t F b).2 < yP u len t (yNu w)) ∧ C x')
theorem yMW_z {w : Nat} {b : Bool} {C : zK → Prop} {r : Option (Int32 × zK)} (H : yMW w u len t F b C r) : yMW w u len t F b C (r.bind fun p => if zbool p.1 = true then some (p.1, p.2) else none) := by
  rcases H with ⟨m, x', h1, h2, h3, rfl, h5⟩ | ⟨x', rfl, h⟩
  · left
    exact ⟨m, x', h1, h2, h3, by rw [Option.bind_some]; dsimp only; rw [if_pos zbool_0], h5⟩
  · right
    exact ⟨x', by rw [Option.bind_some]; dsimp only; rw [if_pos zbool_1], h⟩
theorem qM_saying_ev (R : yRX x u len t) (hk : yKd u len t ≠ 0) (us : ∀ j, j < len → u j < 256) (L : yFl x F) (hF : F.1 ≠ 0 → F.2 < t) (h21 : gI x 215 21 = 1) (hn : n ≤ 7) (hx : gI x 224 2 = nI n) : yMW 2 u len t F (decide (n = 7)) (yC0 x n u len t 2) (qM_sayingLine (nI t) x) := by
  unfold qM_sayingLine
  obtain ⟨x1, a1, a2, a3, a4, a5⟩ := qM_full_ev R L hF (j := 2) (c := 7) (by omega) (by omega) hn hx
  have a1' : qM_full 2 7 (nI t) x = some x1 := a1
  obtain ⟨x2, b1, b2⟩ := yMT_0 a2 hk a3 a4 ((a5 215 21 (by omega)).trans h21) 2 0
  rw [a1', Option.bind_some, b1, Option.bind_some]
  rcases yMT_tk b2 us (by omega) (by omega) (k := 0) (lo := 0) (hi := 30) (by omega) (by omega) rfl rfl rfl with ⟨y1, c1, S1⟩ | ⟨c1, c2, y1, c3, c4⟩
  case inr => left; rw [c3, Option.bind_some]; dsimp only; rw [if_pos rfl]; exact ⟨0, y1, by decide, c2, c1, rfl, c4⟩
  rw [c1, Option.bind_some]
  dsimp only
  rw [if_neg (show ¬ (1 : Int32) = 0 by decide)]
  rcases yMT_tk S1 us (by omega) (by omega) (k := 1) (lo := 0) (hi := 5) (by omega) (by omega) rfl rfl rfl with ⟨y2, c1, S2⟩ | ⟨c1, c2, y2, c3, c4⟩
  case inr => left; rw [c3, Option.bind_some]; dsimp only; rw [if_pos rfl]; exact ⟨1, y2, by decide, c2, c1, rfl, c4⟩
  rw [c1, Option.bind_some]
  dsimp only
  rw [if_neg (show ¬ (1 : Int32) = 0 by decide)]
  rcases yMT_tk S2 us (by omega) (by omega) (k := 2) (lo := 0) (hi := 30) (by omega) (by omega) rfl rfl rfl with ⟨y3, c1, S3⟩ | ⟨c1, c2, y3, c3, c4⟩
  case inr => left; rw [c3, Option.bind_some]; dsimp only; rw [if_pos rfl]; exact ⟨2, y3, by decide, c2, c1, rfl, c4⟩
  rw [c1, Option.bind_some]
  dsimp only
  rw [if_neg (show ¬ (1 : Int32) = 0 by decide)]
  rcases yMT_tk S3 us (by omega) (by omega) (k := 3) (lo := 0) (hi := 5) (by omega) (by omega) rfl rfl rfl with ⟨y4, c1, S4⟩ | ⟨c1, c2, y4, c3, c4⟩
  case inr => left; rw [c3, Option.bind_some]; dsimp only; rw [if_pos rfl]; exact ⟨3, y4, by decide, c2, c1, rfl, c4⟩
  rw [c1, Option.bind_some]
  dsimp only
  rw [if_neg (show ¬ (1 : Int32) = 0 by decide)]
  rcases yMT_tk S4 us (by omega) (by omega) (k := 4) (lo := 1) (hi := 40) (by omega) (by omega) rfl rfl rfl with ⟨y5, c1, S5⟩ | ⟨c1, c2, y5, c3, c4⟩
  case inr => left; rw [c3, Option.bind_some]; dsimp only; rw [if_pos rfl]; exact ⟨4, y5, by decide, c2, c1, rfl, c4⟩
  rw [c1, Option.bind_some]
  dsimp only
  rw [if_neg (show ¬ (1 : Int32) = 0 by decide)]
  rcases yMT_tk S5 us (by omega) (by omega) (k := 5) (lo := 0) (hi := 20) (by omega) (by omega) rfl rfl rfl with ⟨y6, c1, S6⟩ | ⟨c1, c2, y6, c3, c4⟩
  case inr => left; rw [c3, Option.bind_some]; dsimp only; rw [if_neg (show ¬ ¬ (0 : Int32) = 0 from fun z => z rfl)]; exact ⟨5, y6, by decide, c2, c1, rfl, c4⟩
  rw [c1, Option.bind_some]
  dsimp only
  rw [if_pos (show ¬ (1 : Int32) = 0 by decide)]
  right
  obtain ⟨s1, s2, s3, s4, s5, s6, s7, s8⟩ := S6
  have y224 : ∀ j, gI y6 224 j = gI x 224 j := fun j => (s7 224 j (by decide) (Or.inl (by decide))).trans (a5 224 j (Or.inl (by decide)))
  have y20 : gI y6 215 20 = gI x 215 20 := (s7 215 20 (by decide) (Or.inr (by decide))).trans (a5 215 20 (Or.inr (by decide)))
  rw [y224 2, hx]
  obtain ⟨x', e1, e2, e3, e4, e5⟩ := qM_sayrow_ev (y := y6) hn
  rw [e1, Option.bind_some]
  simp only [zlet]
  have fr : ∀ a j, a ≠ 224 → gI (sI x' 224 2 (zf_lesser 7 (nI n + 1))) a j = gI y6 a j := fun a j h => (gI_ne h).trans (e3 a j h)
  have les : zf_lesser 7 (nI n + 1) = nI (if n + 1 < 7 then n + 1 else 7) := by
    rw [nI_1]
    exact wles (a := 7) (by omega) (by omega)
  refine ⟨_, rfl, s4, yRX_q s1 (fun a j h => fr a j (by omega)) e2, yFl_q s2 (fun j _ => fr 215 j (by decide)), s3, ⟨(if n + 1 < 7 then n + 1 else 7), by split <;> omega, ?_⟩, fun _ => ⟨fun z => absurd z (by decide), fun z => absurd z (by decide), fun _ h7 => ⟨fun i hi => ?_, fun j hj hj' => ?_, ?_, ?_⟩, fun z => absurd z (by decide)⟩⟩
  · rw [gI_eq, les]
  · rw [gI_nk (by omega), (e5 h7).1 i hi]
    have := s5 i hi
    rw [Nat.zero_add] at this
    exact this
  · rw [gI_nk hj, (e5 h7).2 j hj', y224]
  · rw [gI_eq, les]
    congr 1
    split <;> omega
  · rw [fr 215 20 (by decide), y20]
theorem qM_answline_ev (R : yRX x u len t) (hk : yKd u len t ≠ 0) (us : ∀ j, j < len → u j < 256) (L : yFl x F) (hF : F.1 ≠ 0 → F.2 < t) (h21 : gI x 215 21 = 1) (hn : n ≤ 7) (hx : gI x 224 2 = nI n) (hv : lg_cmp v 27424514944365171 = 0) : yMW 3 u len t F false (yC0 x n u len t 3) (qM_cellarLine_j43 v x) := by
  unfold qM_cellarLine_j43
  obtain ⟨x2, b1, b2⟩ := yMT_0 R hk L (fun z => Nat.le_of_lt (hF z)) h21 3 0
  rw [b1, Option.bind_some, if_pos hv]
  have lf : yLF 3 u len t F false = yGf (yBd 3 (yVv u len t)) (yP u len t) F 2 := by
    unfold yLF
    rw [yAd_false]
    rfl
  unfold yMW
  rw [lf]
  rcases yMT_tk b2 us (by omega) (by omega) (k := 0) (lo := 0) (hi := 6) (by omega) (by omega) rfl rfl rfl with ⟨y1, c1, S1⟩ | ⟨c1, c2, y1, c3, c4⟩
  case inr => left; rw [c3, Option.bind_some]; dsimp only; rw [if_pos rfl]; exact ⟨0, y1, by decide, c2, c1, rfl, c4⟩
  rw [c1, Option.bind_some]
  dsimp only
  rw [if_neg (show ¬ (1 : Int32) = 0 by decide)]
  have k0 : yKd u len (yP u len t 0) = 2 := S1.2.2.2.1 0 (by omega)
  have v0 : yVv u len t 0 ≤ 99 := yVt_99 us k0
  have e0 : gI y1 225 0 = nI (yVv u len t 0) := S1.2.2.2.2.1 0 (by omega)
  rw [e0]
  by_cases k1 : yKd u len (yP u len t 1) = 2
  · have v1 : yVv u len t 1 ≤ 99 := yVt_99 us k1
    have hb : yBd 3 (yVv u len t) 1 = true ↔ (¬ (0 ≤ yVv u len t 1 ∧ yVv u len t 1 ≤ 6) ∨ nI (yVv u len t 1) = nI (yVv u len t 0)) := by
      rw [nI_eq (by omega) (by omega)]
      have e1 : yLw 3 1 = 0 := rfl
      have e2 : yUp 3 1 = 6 := rfl
      unfold yBd yOr
      rw [e1, e2]
      simp
      omega
    rcases yMT_tb S1 us (k := 0) (by omega) (by omega) (by omega) hb with ⟨y2, d1, S2⟩ | ⟨n2, -⟩
    case inr => exact absurd k1 n2
    have d1' : qM_takeBut 1 0 6 (nI (yVv u len t 0)) y1 = some (1, y2) := d1
    right
    rw [d1', Option.bind_some]
    dsimp only
    rw [if_pos (show ¬ (1 : Int32) = 0 by decide)]
    simp only [zlet]
    obtain ⟨s1, s2, s3, s4, s5, s6, s7, s8⟩ := S2
    have z0 : gI y2 225 0 = nI (yVv u len t 0) := s5 0 (by omega)
    have z1 : gI y2 225 1 = nI (yVv u len t 1) := s5 1 (by omega)
    have y224 : ∀ j, gI y2 224 j = gI x 224 j := fun j => s7 224 j (by decide) (Or.inl (by decide))
    have y20 : gI y2 215 20 = gI x 215 20 := s7 215 20 (by decide) (Or.inr (by decide))
    rw [z0, z1, y20]
    let h9 : zK := sI y2 215 20 (zf_greater (gI x 215 20) (zf_greater (nI (yVv u len t 0)) (nI (yVv u len t 1))))
    have f9 : ∀ a j, (a ≠ 215 ∨ j ≠ 20) → gI h9 a j = gI y2 a j := fun a j h => by
      by_cases e : a = 215
      · exact gI_nk (by omega)
      · exact gI_ne e
    have h921 : gI h9 215 21 = if yNb (yBd 3 (yVv u len t)) 2 then 1 else 0 := (f9 215 21 (by omega)).trans s6
    show ∃ x', (if gI h9 215 21 = 0 then some (1, h9) else (zix (45 + gI h9 225 0) 121).bind fun j11 => some (1, sI h9 224 j11 (gI h9 224 j11 ||| (1 : Int32) <<< (gI h9 225 1 &&& 31)))) = some (1, x') ∧ _
    cases hnb : yNb (yBd 3 (yVv u len t)) 2
    · rw [h921, hnb, if_pos (show (if false = true then (1 : Int32) else 0) = 0 from rfl)]
      refine ⟨h9, rfl, s4, yRX_q s1 (fun a j h => f9 a j (by omega)) rfl, yFl_q s2 (fun j hj => f9 215 j (by omega)), s3, ⟨n, hn, (f9 224 2 (by omega)).trans ((y224 2).trans hx)⟩, fun z => ?_⟩
      have z' : yNb (yBd 3 (yVv u len t)) 2 = true := z
      rw [hnb] at z'
      cases z'
    · have nb := (yNb_iff _ _).mp hnb
      have b0 := nb 0 (by omega)
      have v6 : yVv u len t 0 ≤ 6 := by
        have e1 : yLw 3 0 = 0 := rfl
        have e2 : yUp 3 0 = 6 := rfl
        unfold yBd yOr at b0
        rw [e1, e2] at b0
        simp at b0
        exact b0
      rw [h921, hnb, if_neg (show ¬ (if true = true then (1 : Int32) else 0) = 0 by decide), f9 225 0 (Or.inl (by decide)), f9 225 1 (Or.inl (by decide)), z0, z1, show (45 : Int32) + nI (yVv u len t 0) = nI (45 + yVv u len t 0) from by rw [show (45 : Int32) = nI 45 from rfl, nI_add], zix_nI (by omega) (by omega), Option.bind_some]
      have f10 : ∀ a j, a ≠ 224 → (a ≠ 215 ∨ j ≠ 20) → gI (sI h9 224 (45 + yVv u len t 0) (gI h9 224 (45 + yVv u len t 0) ||| (1 : Int32) <<< (nI (yVv u len t 1) &&& 31))) a j = gI y2 a j := fun a j h1 h2 => (gI_ne h1).trans (f9 a j h2)
      refine ⟨_, rfl, s4, yRX_q s1 (fun a j h => f10 a j (by omega) (by omega)) rfl, yFl_q s2 (fun j hj => f10 215 j (by omega) (by omega)), s3, ⟨n, hn, (gI_nk (by omega)).trans ((f9 224 2 (by omega)).trans ((y224 2).trans hx))⟩, fun _ => ⟨fun z => absurd z (by decide), fun z => absurd z (by decide), fun z => absurd z (by decide), fun _ => ⟨fun j => ?_, ?_⟩⟩⟩
      · by_cases ej : j = 45 + yVv u len t 0
        · rw [if_pos ej]
          subst ej
          rw [gI_eq, f9 224 _ (Or.inl (by decide)), y224]
        · rw [if_neg ej, gI_nk ej, f9 224 _ (Or.inl (by decide)), y224]
      · exact (gI_ne (by decide)).trans gI_eq
  · left
    obtain ⟨s1, s2, s3, s4, s5, s6, s7, s8⟩ := S1
    rcases qM_takeBut_ev (k := 1) (lo := 0) (hi := 6) (bad := decide (¬ (0 ≤ yVt u len (yP u len t 1) ∧ yVt u len (yP u len t 1) ≤ 6) ∨ nI (yVt u len (yP u len t 1)) = nI (yVv u len t 0))) s1 us s2 s3 (by omega) (by omega) (by omega) (but := nI (yVv u len t 0)) (by rw [decide_eq_true_iff]) with ⟨n2, -⟩ | ⟨-, x', e1, e2⟩
    · exact absurd n2 k1
    · have e1' : qM_takeBut 1 0 6 (nI (yVv u len t 0)) y1 = some (0, x') := e1
      rw [e1', Option.bind_some]
      dsimp only
      rw [if_neg (show ¬ ¬ (0 : Int32) = 0 from fun z => z rfl)]
      exact ⟨1, x', by decide, s4, k1, rfl, e2⟩
theorem qM_scalar_ev {w : Nat} (hw : w ≤ 1) (R : yRX x u len t) (hk : yKd u len t ≠ 0) (us : ∀ j, j < len → u j < 256) (L : yFl x F) (hF : F.1 ≠ 0 → F.2 < t) (h21 : gI x 215 21 = 1) (hn : n ≤ 7) (hx : gI x 224 2 = nI n) (hv : ¬ lg_cmp v 27424514944365171 = 0) (hv0 : lg_cmp v 495673369451 = 0 ↔ w = 0) : yMW w u len t F false (yC0 x n u len t w) (qM_cellarLine_j43 v x) := by
  unfold qM_cellarLine_j43
  obtain ⟨x2, b1, b2⟩ := yMT_0 R hk L (fun z => Nat.le_of_lt (hF z)) h21 w 0
  have n1 : yNu w = 1 := by rcases (by omega : w = 0 ∨ w = 1) with rfl | rfl <;> rfl
  have l0 : yLw w 0 = 0 ∧ yUp w 0 = 9 := by rcases (by omega : w = 0 ∨ w = 1) with rfl | rfl <;> exact ⟨rfl, rfl⟩
  have lf : yLF w u len t F false = yGf (yBd w (yVv u len t)) (yP u len t) F 1 := by
    unfold yLF
    rw [yAd_false, n1]
  have vi : (if ¬ lg_cmp v 495673369451 = 0 then (1 : Int32) else 0) = nI w := by
    rcases (by omega : w = 0 ∨ w = 1) with rfl | rfl
    · rw [if_neg (fun z => z (hv0.mpr rfl))]; rfl
    · rw [if_pos (fun z => absurd (hv0.mp z) (by decide))]; rfl
  unfold yMW
  rw [lf, n1, b1, Option.bind_some, if_neg hv]
  simp only [zlet]
  rw [vi]
  rcases yMT_tk b2 us (by omega) (by omega) (k := 0) (lo := 0) (hi := 9) (by omega) (by omega) rfl (by rw [l0.1]; rfl) (by rw [l0.2]; rfl) with ⟨y1, c1, S1⟩ | ⟨c1, c2, y1, c3, c4⟩
  case inr => left; rw [c3, Option.bind_some]; dsimp only; rw [if_neg (show ¬ ¬ (0 : Int32) = 0 from fun z => z rfl)]; exact ⟨0, y1, by decide, c2, c1, rfl, c4⟩
  right
  obtain ⟨s1, s2, s3, s4, s5, s6, s7, s8⟩ := S1
  have z0 : gI y1 225 0 = nI (yVv u len t 0) := s5 0 (by omega)
  have y224 : ∀ j, gI y1 224 j = gI x 224 j := fun j => s7 224 j (by decide) (Or.inl (by decide))
  have y20 : gI y1 215 20 = gI x 215 20 := s7 215 20 (by decide) (Or.inr (by decide))
  rw [c1, Option.bind_some]
  dsimp only
  rw [if_pos (show ¬ (1 : Int32) = 0 by decide), zix_nI (show w < 121 by omega) (by omega), Option.bind_some, s6]
  have fr : ∀ z a j, a ≠ 224 → gI (sI y1 224 w z) a j = gI y1 a j := fun z a j h => gI_ne h
  cases hnb : yNb (yBd w (yVv u len t)) 1
  · rw [if_pos (show (if false = true then (1 : Int32) else 0) = 0 from rfl), Option.bind_some]
    refine ⟨_, rfl, s4, yRX_q s1 (fun a j h => fr _ a j (by omega)) rfl, yFl_q s2 (fun j hj => fr _ 215 j (by decide)), s3, ⟨n, hn, (gI_nk (by omega)).trans ((y224 2).trans hx)⟩, fun z => ?_⟩
    rw [n1, hnb] at z
    cases z
  · rw [if_neg (show ¬ (if true = true then (1 : Int32) else 0) = 0 by decide), Option.bind_some, z0]
    refine ⟨_, rfl, s4, yRX_q s1 (fun a j h => fr _ a j (by omega)) rfl, yFl_q s2 (fun j hj => fr _ 215 j (by decide)), s3, ⟨n, hn, (gI_nk (by omega)).trans ((y224 2).trans hx)⟩, fun _ => ⟨fun z => ⟨fun j => ?_, (fr _ 215 20 (by decide)).trans y20⟩, fun z => ⟨fun j => ?_, (fr _ 215 20 (by decide)).trans y20⟩, fun z => by omega, fun z => by omega⟩⟩
    · subst z
      by_cases ej : j = 0
      · rw [if_pos ej]; subst ej; exact gI_eq
      · rw [if_neg ej, gI_nk ej, y224]
    · subst z
      by_cases ej : j = 1
      · rw [if_pos ej]; subst ej; exact gI_eq
      · rw [if_neg ej, gI_nk ej, y224]
theorem qM_cellars_ev (R : yRX x u len t) (hk : yKd u len t ≠ 0) (us : ∀ j, j < len → u j < 256) (L : yFl x F) (hF : F.1 ≠ 0 → F.2 < t) (h21 : gI x 215 21 = 1) (hn : n ≤ 7) (hx : gI x 224 2 = nI n) (V : yVw v u len t) : yMR 0 u len t F (fun w => if w = 2 then decide (n = 7) else false) (yC0 x n u len t) (qM_cellarLine v (nI t) x) := by
  obtain ⟨-, -, -, -, -, -, c0, c1, c2, c3⟩ := yW64
  unfold qM_cellarLine
  have W : ∀ w, w < 10 → yTok u len t w → ∀ w', w' < 10 → w' ≠ w → ¬ lg_cmp v (lN (yWc w')) = 0 := fun w hw tk w' hw' ne z => ne (yTok_one hw' hw ((V w' hw').mp z) tk)
  by_cases t2 : yTok u len t 2
  · right
    refine ⟨2, by omega, rfl, t2, ?_⟩
    rw [c2, if_neg (show ¬ ¬ lg_cmp v (lN (yWc 2)) = 0 from fun z => z ((V 2 (by omega)).mpr t2))]
    exact yMW_z (qM_saying_ev R hk us L hF h21 hn hx)
  · rw [c2, if_pos (show ¬ lg_cmp v (lN (yWc 2)) = 0 from fun z => t2 ((V 2 (by omega)).mp z))]
    by_cases t0 : yTok u len t 0
    · right
      refine ⟨0, by omega, rfl, t0, ?_⟩
      have v0 := (V 0 (by omega)).mpr t0
      rw [if_pos (show lg_cmp v 495673369451 = 0 by rw [c0]; exact v0)]
      exact qM_scalar_ev (w := 0) (by omega) R hk us L hF h21 hn hx (by rw [c3]; exact W 0 (by omega) t0 3 (by omega) (by omega)) (by rw [c0]; exact ⟨fun _ => rfl, fun _ => v0⟩)
    · have nv0 : ¬ lg_cmp v 495673369451 = 0 := by rw [c0]; exact fun z => t0 ((V 0 (by omega)).mp z)
      rw [if_neg nv0]
      by_cases t1 : yTok u len t 1
      · right
        refine ⟨1, by omega, rfl, t1, ?_⟩
        have v1 := (V 1 (by omega)).mpr t1
        rw [if_pos (show lg_cmp v 491327153000 = 0 by rw [c1]; exact v1)]
        exact qM_scalar_ev (w := 1) (by omega) R hk us L hF h21 hn hx (by rw [c3]; exact W 1 (by omega) t1 3 (by omega) (by omega)) ⟨fun z => absurd z nv0, fun z => by omega⟩
      · rw [if_neg (show ¬ lg_cmp v 491327153000 = 0 by rw [c1]; exact fun z => t1 ((V 1 (by omega)).mp z))]
        by_cases t3 : yTok u len t 3
        · right
          refine ⟨3, by omega, rfl, t3, ?_⟩
          have v3 : lg_cmp v 27424514944365171 = 0 := by rw [c3]; exact (V 3 (by omega)).mpr t3
          rw [if_pos v3]
          exact qM_answline_ev R hk us L hF h21 hn hx v3
        · left
          refine ⟨fun w hw hs => ?_, ?_⟩
          · rcases (by omega : w = 0 ∨ w = 1 ∨ w = 2 ∨ w = 3 ∨ w = 4 ∨ w = 5 ∨ w = 6 ∨ w = 7 ∨ w = 8 ∨ w = 9) with rfl | rfl | rfl | rfl | rfl | rfl | rfl | rfl | rfl | rfl <;> first | assumption | exact absurd hs (by decide)
          rw [if_neg (show ¬ lg_cmp v 27424514944365171 = 0 by rw [c3]; exact fun z => t3 ((V 3 (by omega)).mp z))]
          unfold qM_fails
          simp only [zlet]
          rw [Option.bind_some]
          dsimp only
          rw [if_pos zbool_0]
          exact ⟨_, rfl, by rw [gI_eq]; exact R.2.1.1⟩
end LINES0
