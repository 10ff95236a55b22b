/-! TEXTS: the reference takes a line's numbers -/
def yNb (b : Nat → Bool) : Nat → Bool
  | 0 => true
  | i + 1 => yNb b i && !b i
theorem yNb_iff (b : Nat → Bool) : ∀ n, yNb b n = true ↔ ∀ i, i < n → b i = false
  | 0 => ⟨fun _ i hi => absurd hi (Nat.not_lt_zero _), fun _ => rfl⟩
  | n + 1 => by
    show (yNb b n && !b n) = true ↔ _
    rw [Bool.and_eq_true, yNb_iff b n]
    constructor
    · rintro ⟨a, c⟩ i hi
      by_cases e : i = n
      · subst e; cases hb : b i
        · rfl
        · rw [hb] at c; cases c
      · exact a i (by omega)
    · intro h
      exact ⟨fun i hi => h i (by omega), by rw [h n (by omega)]; rfl⟩
section TAKE
variable {x x0 : zK} {u : Nat → Nat} {len t : Nat} {F : Nat × Nat} {w k0 i : Nat}
theorem yRX_q {x' : zK} (R : yRX x u len t) (h : ∀ a j, (a = 215 ∧ j ≤ 13) ∨ a = 216 → gI x' a j = gI x a j) (hj : x'.2.2 = x.2.2) : yRX x' u len t := by
  obtain ⟨⟨t1, t2, t3⟩, ⟨c1, c2, c3, c4, c5⟩, tl⟩ := R
  have q : ∀ j, j ≤ 13 → gI x' 215 j = gI x 215 j := fun j hj => h 215 j (Or.inl ⟨rfl, hj⟩)
  refine ⟨⟨t1, (q 10 (by omega)).trans t2, fun j hj => ⟨(h 216 j (Or.inr rfl)).trans (t3 j hj).1, (t3 j hj).2⟩⟩, ⟨(q 11 (by omega)).trans c1, (q 12 (by omega)).trans c2, (q 9 (by omega)).trans c3, fun z => (q 13 (by omega)).trans (c4 z), fun z => ?_⟩, tl⟩
  rw [← c5 z]
  show x'.2.2 215 14 = x.2.2 215 14
  rw [hj]
theorem yFl_q {x' : zK} (L : yFl x F) (h : ∀ j, j = 16 ∨ j = 17 → gI x' 215 j = gI x 215 j) : yFl x' F := ⟨L.1, (h 16 (Or.inl rfl)).trans L.2.1, fun z => (h 17 (Or.inr rfl)).trans (L.2.2 z)⟩
/-- what the takes leave of the state that they began with -/
def yFrM (x0 x : zK) : Prop := ∀ a j, a ≠ 225 → (a ≠ 215 ∨ (j ≠ 9 ∧ j ≠ 11 ∧ j ≠ 12 ∧ j ≠ 13 ∧ j ≠ 16 ∧ j ≠ 17 ∧ j ≠ 21)) → gI x a j = gI x0 a j
/-- i numbers are taken -/
def yMT (x0 x : zK) (w : Nat) (u : Nat → Nat) (len t : Nat) (F : Nat × Nat) (k0 i : Nat) : Prop := yRX x u len (yP u len t i) ∧ yFl x (yGf (yBd w (yVv u len t)) (yP u len t) F i) ∧ ((yGf (yBd w (yVv u len t)) (yP u len t) F i).1 ≠ 0 → (yGf (yBd w (yVv u len t)) (yP u len t) F i).2 < yP u len t i) ∧ yAll u len (yTn u len t) i ∧ (∀ j, j < i → gI x 225 (k0 + j) = nI (yVv u len t j)) ∧ gI x 215 21 = (if yNb (yBd w (yVv u len t)) i then 1 else 0) ∧ yFrM x0 x ∧ ∀ j, ¬ (k0 ≤ j ∧ j < k0 + i) → gI x 225 j = gI x0 225 j
theorem yMT_0 (R : yRX x u len t) (hk : yKd u len t ≠ 0) (L : yFl x F) (hF : F.1 ≠ 0 → F.2 ≤ t) (h21 : gI x 215 21 = 1) (w k0 : Nat) : ∃ x', qM_token x = some x' ∧ yMT x x' w u len t F k0 0 := by
  obtain ⟨x', e1, e2, e3⟩ := yRX_step R
  have tl := yKd_len hk
  have tn := (yTn_r (u := u) R.2.2).2.2 tl
  refine ⟨x', e1, e2, yFl_q L (fun j hj => e3.2 215 j (by omega)), fun z => ?_, fun i hi => absurd hi (Nat.not_lt_zero _), fun i hi => absurd hi (Nat.not_lt_zero _), (e3.2 215 21 (by omega)).trans h21, fun a j ha hb => e3.2 a j (by omega), fun j _ => e3.2 225 j (Or.inl (by decide))⟩
  have := hF z
  show F.2 < yTn u len t
  omega
theorem yMT_re (S : yMT x0 x w u len t F k0 0) {y : zK} (h : ∀ a j, a ≠ 225 → gI y a j = gI x a j) (hj : y.2.2 = x.2.2) : yMT y y w u len t F k0 0 := by
  obtain ⟨s1, s2, s3, s4, s5, s6, s7, s8⟩ := S
  exact ⟨yRX_q s1 (fun a j hh => h a j (by omega)) hj, yFl_q s2 (fun j _ => h 215 j (by decide)), s3, s4, fun i hi => absurd hi (Nat.not_lt_zero _), (h 215 21 (by decide)).trans s6, fun _ _ _ _ => rfl, fun _ _ => rfl⟩
theorem yMT_tb (S : yMT x0 x w u len t F k0 i) (us : ∀ j, j < len → u j < 256) {k lo hi : Nat} {but : Int32} (hk : k0 + i < 6) (hlo : lo ≤ 99) (hhi : hi ≤ 99) (hb : yBd w (yVv u len t) i = true ↔ (¬ (lo ≤ yVv u len t i ∧ yVv u len t i ≤ hi) ∨ nI (yVv u len t i) = but)) : (∃ x', qM_takeBut (nI (k0 + i)) (nI lo) (nI hi) but x = some (1, x') ∧ yMT x0 x' w u len t F k0 (i + 1)) ∨ (yKd u len (yP u len t i) ≠ 2 ∧ yAll u len (yTn u len t) i ∧ ∃ x', qM_takeBut (nI (k0 + i)) (nI lo) (nI hi) but x = some (0, x') ∧ gI x' 215 15 = nI (yP u len t i)) := by
  obtain ⟨s1, s2, s3, s4, s5, s6, s7, s8⟩ := S
  rcases qM_takeBut_ev s1 us s2 s3 hk hlo hhi hb with ⟨h2, x', e1, e2, e3, e4, e5, e6⟩ | ⟨h2, x', e1, e2⟩
  · left
    have tl := yKd_len (by rw [h2]; decide : yKd u len (yP u len t i) ≠ 0)
    have tn := (yTn_r (u := u) s1.2.2).2.2 tl
    refine ⟨x', e1, e2, e3, yAd_p (fun z => Nat.lt_trans (s3 z) tn) tn, fun j hj => ?_, fun j hj => ?_, ?_, fun a j ha hc => (e6.2 a j (Or.inl ha) hc).trans (s7 a j ha hc), fun j hj => (e6.2 225 j (by omega) (Or.inl (by decide))).trans (s8 j (by omega))⟩
    · by_cases e : j = i
      · subst e; exact h2
      · exact s4 j (by omega)
    · by_cases e : j = i
      · subst e; exact e4
      · rw [e6.2 225 (k0 + j) (by omega) (Or.inl (by decide))]
        exact s5 j (by omega)
    · rw [e5, s6]
      show _ = if (yNb _ i && !_) = true then _ else _
      cases yBd w (yVv u len t) i <;> cases yNb (yBd w (yVv u len t)) i <;> rfl
  · right
    exact ⟨h2, s4, x', e1, e2⟩
theorem yMT_tk (S : yMT x0 x w u len t F k0 i) (us : ∀ j, j < len → u j < 256) (hw : w < 10) (hi6 : i < 6) {k lo hi : Int32} (hk : k0 + i < 6) (n3 : ¬ (w = 3 ∧ i = 1)) (ek : k = nI (k0 + i)) (el : lo = nI (yLw w i)) (eh : hi = nI (yUp w i)) : (∃ x', qM_take k lo hi x = some (1, x') ∧ yMT x0 x' w u len t F k0 (i + 1)) ∨ (yKd u len (yP u len t i) ≠ 2 ∧ yAll u len (yTn u len t) i ∧ ∃ x', qM_take k lo hi x = some (0, x') ∧ gI x' 215 15 = nI (yP u len t i)) := by
  subst ek el eh
  unfold qM_take
  have l99 := (yLw_z w hw i hi6).2
  have u99 := (yUp_z w hw i hi6).2
  by_cases h2 : yKd u len (yP u len t i) = 2
  · have v99 : yVv u len t i ≤ 99 := yVt_99 us h2
    have hb : yBd w (yVv u len t) i = true ↔ (¬ (yLw w i ≤ yVv u len t i ∧ yVv u len t i ≤ yUp w i) ∨ nI (yVv u len t i) = -1) := by
      have e : yBd w (yVv u len t) i = yOr w i (yVv u len t i) := by
        unfold yBd
        by_cases a : w = 3
        · have : ¬ i = 1 := fun z => n3 ⟨a, z⟩
          simp [this]
        · simp [a]
      rw [e]
      unfold yOr
      constructor
      · intro z
        left
        rintro ⟨z1, z2⟩
        simp [z1, z2] at z
      · rintro (z | z)
        · by_cases z1 : yLw w i ≤ yVv u len t i
          · have : ¬ yVv u len t i ≤ yUp w i := fun z2 => z ⟨z1, z2⟩
            simp [this]
          · simp [z1]
        · exact absurd z (nI_nm1 (by omega))
    rcases yMT_tb S us (k := 0) hk l99 u99 hb with ⟨x', e1, e2⟩ | ⟨n2, -⟩
    · left
      rw [e1, Option.bind_some]
      dsimp only
      rw [if_pos zbool_1]
      exact ⟨x', rfl, e2⟩
    · exact absurd h2 n2
  · obtain ⟨s1, s2, s3, s4, s5, s6, s7, s8⟩ := S
    right
    refine ⟨h2, s4, ?_⟩
    rcases qM_takeBut_ev (bad := decide (¬ (yLw w i ≤ yVt u len (yP u len t i) ∧ yVt u len (yP u len t i) ≤ yUp w i) ∨ nI (yVt u len (yP u len t i)) = -1)) s1 us s2 s3 hk l99 u99 (but := -1) (by rw [decide_eq_true_iff]) with ⟨n2, -⟩ | ⟨-, x', e1, e2⟩
    · exact absurd n2 h2
    · rw [e1, Option.bind_some]
      dsimp only
      rw [if_pos zbool_0]
      exact ⟨x', rfl, e2⟩
/-- the row is full: the reference -/
theorem qM_full_ev (R : yRX x u len t) (L : yFl x F) (hF : F.1 ≠ 0 → F.2 < t) {j c n : Nat} (hj : j < 121) (hc : c ≤ 40) (hn : n ≤ c) (hx : gI x 224 j = nI n) : ∃ x', qM_full (nI j) (nI c) (nI t) x = some x' ∧ yRX x' u len t ∧ yFl x' (yAd F (decide (n = c)) 3 t) ∧ ((yAd F (decide (n = c)) 3 t).1 ≠ 0 → (yAd F (decide (n = c)) 3 t).2 ≤ t) ∧ (∀ a j, (a ≠ 215 ∨ (j ≠ 16 ∧ j ≠ 17)) → gI x' a j = gI x a j) := by
  have l6 := R.1.1
  have tl := R.2.2
  unfold qM_full
  rw [zix_nI hj (by omega), Option.bind_some, hx]
  by_cases e : n = c
  · obtain ⟨y, y1, y2, y3, y4⟩ := qM_addsFault_ev L (f := 3) (p := t) (by omega) (by omega) hF
    have y1' : qM_addsFault 3 (nI t) x = some y := y1
    rw [if_neg (show ¬ ¬ nI n = nI c from fun z => z (by rw [e])), y1', decide_eq_true e]
    refine ⟨y, rfl, yRX_q R (fun a j h => y3 a j (by omega)) y4, y2, fun z => ?_, y3⟩
    have := yAd_p (F := F) (b := true) (f := 3) (p := t) (q := t + 1) (fun z => by have := hF z; omega) (by omega) z
    omega
  · rw [if_pos (show ¬ nI n = nI c from fun z => e ((nI_eq (by omega) (by omega)).mp z)), decide_eq_false e, yAd_false]
    exact ⟨x, rfl, R, L, fun z => Nat.le_of_lt (hF z), fun _ _ _ => rfl⟩
end TAKE
