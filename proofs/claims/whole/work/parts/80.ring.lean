/-! RING -/
def yLe (a : Option Nat) (S : Nat → Prop) : Prop := (a = none ∧ ∀ k, ¬ S k) ∨ ∃ v, a = some v ∧ S v ∧ ∀ k, S k → v ≤ k
theorem yLe_one {a b : Option Nat} {S : Nat → Prop} (h : yLe a S) (k : yLe b S) : a = b := by
  rcases h with ⟨rfl, h⟩ | ⟨v, rfl, h1, h2⟩
  · rcases k with ⟨rfl, -⟩ | ⟨w, rfl, k1, -⟩
    · rfl
    · exact absurd k1 (h w)
  · rcases k with ⟨rfl, k⟩ | ⟨w, rfl, k1, k2⟩
    · exact absurd h1 (k v)
    · have a := h2 w k1
      have b := k2 v h1
      rw [show v = w by omega]
theorem yLe_cg {a : Option Nat} {S T : Nat → Prop} (h : yLe a S) (e : ∀ k, S k ↔ T k) : yLe a T := by
  rcases h with ⟨rfl, h⟩ | ⟨v, rfl, h1, h2⟩
  · exact Or.inl ⟨rfl, fun k z => h k ((e k).mpr z)⟩
  · exact Or.inr ⟨v, rfl, (e v).mp h1, fun k z => h2 k ((e k).mpr z)⟩
def yMnS (p : Bool) (k : Nat) (a : Option Nat) : Option Nat := if p then (match a with
  | none => some k
  | some j => if j ≤ k then some j else some k) else a
theorem yLe_s {a : Option Nat} {S : Nat → Prop} (h : yLe a S) (p : Bool) (k : Nat) : yLe (yMnS p k a) (fun x => S x ∨ (p = true ∧ x = k)) := by
  unfold yMnS
  cases p with
  | false =>
    rw [if_neg (by decide)]
    exact yLe_cg h fun x => ⟨Or.inl, fun z => z.elim id (fun q => absurd q.1 (by decide))⟩
  | true =>
    rw [if_pos rfl]
    rcases h with ⟨rfl, h⟩ | ⟨v, rfl, h1, h2⟩
    · exact Or.inr ⟨k, rfl, Or.inr ⟨rfl, rfl⟩, fun x hx => hx.elim (fun q => absurd q (h x)) (fun q => by omega)⟩
    · dsimp only
      by_cases hl : v ≤ k
      · rw [if_pos hl]
        exact Or.inr ⟨v, rfl, Or.inl h1, fun x hx => hx.elim (h2 x) (fun q => by omega)⟩
      · rw [if_neg hl]
        exact Or.inr ⟨k, rfl, Or.inr ⟨rfl, rfl⟩, fun x hx => hx.elim (fun q => by have := h2 x q; omega) (fun q => by omega)⟩
section RING
variable {h : zK} {o k s : Nat} {c : wC}
def yRn (c : wC) (s : Nat) : Nat → Nat
  | 0 => 2 ^ s
  | k + 1 => wAns c (yRn c s k)
theorem wAnsF_t (c : wC) (b t : Nat) : ∀ i, (wAnsF c b i).testBit t = true ↔ ∃ u, u < i ∧ b.testBit u = true ∧ (c.2.2.2 6 u).testBit t = true
  | 0 => by
    constructor
    · intro z
      have : (0 : Nat).testBit t = true := z
      rw [Nat.zero_testBit] at this
      cases this
    · rintro ⟨u, hu, -⟩; omega
  | i + 1 => by
    rw [wAnsF_s, Nat.testBit_or, Bool.or_eq_true, wAnsF_t c b t i]
    constructor
    · rintro (⟨u, h1, h2⟩ | h2)
      · exact ⟨u, by omega, h2⟩
      · by_cases hb : b.testBit i = true
        · rw [if_pos hb] at h2
          exact ⟨i, by omega, hb, h2⟩
        · rw [if_neg hb, Nat.zero_testBit] at h2
          cases h2
    · rintro ⟨u, h1, h2, h3⟩
      by_cases e : u = i
      · subst e
        rw [if_pos h2]
        exact Or.inr h3
      · exact Or.inl ⟨u, by omega, h2, h3⟩
theorem yRn_path (c : wC) (s : Nat) : ∀ k t, (yRn c s k).testBit t = true → ∃ p : Nat → Nat, p 0 = s ∧ p k = t ∧ ∀ i, i < k → p i < c.1 ∧ (c.2.2.2 6 (p i)).testBit (p (i + 1)) = true
  | 0, t, h => by
    have : (2 ^ s).testBit t = true := h
    rw [Nat.testBit_two_pow] at this
    have e := of_decide_eq_true this
    exact ⟨fun _ => s, rfl, e, fun i hi => absurd hi (Nat.not_lt_zero _)⟩
  | k + 1, t, h => by
    obtain ⟨u, u1, u2, u3⟩ := (wAnsF_t c (yRn c s k) t c.1).mp h
    obtain ⟨p, p1, p2, p3⟩ := yRn_path c s k u u2
    refine ⟨fun i => if i ≤ k then p i else t, ?_, ?_, fun i hi => ?_⟩
    · show (if 0 ≤ k then p 0 else t) = s
      rw [if_pos (Nat.zero_le _)]; exact p1
    · show (if k + 1 ≤ k then p (k + 1) else t) = t
      rw [if_neg (by omega)]
    · show (if i ≤ k then p i else t) < c.1 ∧ (c.2.2.2 6 (if i ≤ k then p i else t)).testBit (if i + 1 ≤ k then p (i + 1) else t) = true
      rw [if_pos (show i ≤ k by omega)]
      by_cases e : i = k
      · subst e
        rw [if_neg (by omega), p2]
        exact ⟨u1, u3⟩
      · rw [if_pos (show i + 1 ≤ k by omega)]
        exact p3 i (by omega)
theorem yRn_walk (c : wC) (p : Nat → Nat) (i : Nat) : ∀ k, (∀ j, j < k → p (i + j) < c.1 ∧ (c.2.2.2 6 (p (i + j))).testBit (p (i + j + 1)) = true) → (yRn c (p i) k).testBit (p (i + k)) = true
  | 0, _ => yp_self _
  | k + 1, h => by
    have ih := yRn_walk c p i k (fun j hj => h j (by omega))
    obtain ⟨a, b⟩ := h k (by omega)
    exact (wAnsF_t c (yRn c (p i) k) (p (i + (k + 1))) c.1).mpr ⟨p (i + k), a, ih, b⟩
def yHit (c : wC) (s k : Nat) : Bool := (yRn c s k).testBit s
theorem yHit_short {n7 : c.1 ≤ 7} {s k : Nat} (h1 : 1 ≤ k) (h2 : c.1 < k) (h : yHit c s k = true) : ∃ s' k', s' < c.1 ∧ 1 ≤ k' ∧ k' < k ∧ yHit c s' k' = true := by
  obtain ⟨p, p1, p2, p3⟩ := yRn_path c s k s h
  obtain ⟨i, j, hij, hj, e⟩ := fb_twice (m := c.1) (n := k) (f := p) (fun i hi => (p3 i hi).1) h2
  have w := yRn_walk c p i (j - i) (fun q hq => p3 (i + q) (by omega))
  rw [show i + (j - i) = j by omega, ← e] at w
  exact ⟨p i, j - i, (p3 i (by omega)).1, by omega, by omega, w⟩
def yRgI (c : wC) (s : Nat) (a : Option Nat) (m : Nat) : Option Nat := wfold (fun t a => yMnS (yHit c s (t + 1)) (t + 1) a) a m
theorem yRgI_s (s m : Nat) (a : Option Nat) : yRgI c s a (m + 1) = yMnS (yHit c s (m + 1)) (m + 1) (yRgI c s a m) := rfl
def yRg (c : wC) (m i : Nat) : Option Nat := wfold (fun s a => yRgI c s a m) none i
theorem yRg_s (m i : Nat) : yRg c m (i + 1) = yRgI c i (yRg c m i) m := rfl
theorem yRgI_le {S : Nat → Prop} {a : Option Nat} (h : yLe a S) : ∀ m, yLe (yRgI c s a m) (fun x => S x ∨ (1 ≤ x ∧ x ≤ m ∧ yHit c s x = true))
  | 0 => yLe_cg h fun x => ⟨Or.inl, fun z => z.elim id (fun q => by omega)⟩
  | m + 1 => by
    rw [yRgI_s]
    refine yLe_cg (yLe_s (yRgI_le h m) (yHit c s (m + 1)) (m + 1)) fun x => ?_
    constructor
    · rintro ((z | ⟨z1, z2, z3⟩) | ⟨z1, rfl⟩)
      · exact Or.inl z
      · exact Or.inr ⟨z1, by omega, z3⟩
      · exact Or.inr ⟨by omega, Nat.le_refl _, z1⟩
    · rintro (z | ⟨z1, z2, z3⟩)
      · exact Or.inl (Or.inl z)
      · by_cases e : x = m + 1
        · subst e; exact Or.inr ⟨z3, rfl⟩
        · exact Or.inl (Or.inr ⟨z1, by omega, z3⟩)
theorem yRg_le (m : Nat) : ∀ i, yLe (yRg c m i) (fun x => ∃ s, s < i ∧ 1 ≤ x ∧ x ≤ m ∧ yHit c s x = true)
  | 0 => Or.inl ⟨rfl, fun k z => by obtain ⟨s, hs, -⟩ := z; omega⟩
  | i + 1 => by
    rw [yRg_s]
    refine yLe_cg (yRgI_le (s := i) (yRg_le m i) m) fun x => ?_
    constructor
    · rintro (⟨s, z1, z2⟩ | z)
      · exact ⟨s, by omega, z2⟩
      · exact ⟨i, by omega, z⟩
    · rintro ⟨s, z1, z2⟩
      by_cases e : s = i
      · subst e; exact Or.inr z2
      · exact Or.inl ⟨s, by omega, z2⟩
theorem yRg_eq (n7 : c.1 ≤ 7) : yRg c c.1 c.1 = yRg c 7 c.1 := by
  have a := yRg_le (c := c) c.1 c.1
  have b := yRg_le (c := c) 7 c.1
  rcases b with ⟨e, b⟩ | ⟨v, e, ⟨s, b1, b2, b3, b4⟩, b5⟩
  · rcases a with ⟨e2, -⟩ | ⟨v, -, ⟨s, a1, a2, a3, a4⟩, -⟩
    · rw [e, e2]
    · exact absurd ⟨s, a1, a2, by omega, a4⟩ (b v)
  · have hv : v ≤ c.1 := by
      apply Nat.le_of_not_lt
      intro hl
      obtain ⟨s', k', q1, q2, q3, q4⟩ := yHit_short (n7 := n7) b2 hl b4
      have := b5 k' ⟨s', q1, q2, by omega, q4⟩
      omega
    rcases a with ⟨-, a⟩ | ⟨w, e2, ⟨s2, a1, a2, a3, a4⟩, a5⟩
    · exact absurd ⟨s, b1, b2, hv, b4⟩ (a v)
    · have q1 := a5 v ⟨s, b1, b2, hv, b4⟩
      have q2 := b5 w ⟨s2, a1, a2, by omega, a4⟩
      rw [e, e2, show v = w by omega]
theorem yRn_lt (ok : wCok c) (hs : s < c.1) : ∀ k, yRn c s k < 128
  | 0 => wpow7 s (by have := ok.1; omega)
  | k + 1 => wAns_lt ok _
theorem yRgI_7 {s m : Nat} {a : Option Nat} (ha : ∀ j, a = some j → j ≤ 7) : ∀ q, q ≤ 7 → ∀ j, yRgI c s a q = some j → j ≤ 7
  | 0, _ => ha
  | q + 1, hq => fun j e => by
    rw [yRgI_s] at e
    have ih := yRgI_7 (s := s) (m := m) ha q (by omega)
    unfold yMnS at e
    split at e
    · cases z : yRgI c s a q with
      | none => rw [z] at e; cases e; omega
      | some w =>
        have := ih w z
        rw [z] at e
        dsimp only at e
        split at e <;> cases e <;> omega
    · exact ih j e
theorem yRg_7 {m : Nat} (hm : m ≤ 7) : ∀ i j, yRg c m i = some j → j ≤ 7
  | 0 => fun j e => by cases e
  | i + 1 => fun j e => by
    rw [yRg_s] at e
    exact yRgI_7 (m := m) (yRg_7 hm i) m hm j e
theorem qLk_ring_ev (hc : cC h o c) (ok : wCok c) : qLk_ring o h = some (wO (yRg c c.1 c.1)) := by
  have n7 := ok.1
  have inner : ∀ s a, s < c.1 → (∀ j, a = some j → j ≤ 7) → zloop (qLk_ring_b19 o (nI s) h) zfu (wO a, nI (2 ^ s), 1) = some (wO (yRgI c s a c.1)) := by
    intro s a hs ha
    refine zloop_for (fun i => (wO (yRgI c s a i), nI (yRn c s i), nI (i + 1))) c.1 (fun i hi => ?_) ?_ (zfu_lt (by omega))
    · unfold qLk_ring_b19
      dsimp only
      have l1 := yRn_lt ok hs i
      have l2 := yRn_lt ok hs (i + 1)
      rw [cC_n hc, if_neg (nI_nlt (show i + 1 ≤ c.1 by omega) (by omega)), qLk_answeredBy_ev hc ok l1, Option.bind_some, nI_1]
      simp only [zlet]
      rw [show wAns c (yRn c s i) = yRn c s (i + 1) from rfl, wcin _ l2 s (by omega), yRgI_s]
      unfold yMnS yHit
      by_cases hb : (yRn c s (i + 1)).testBit s = true
      · rw [if_pos hb, if_neg (show ¬ (1 : Int32) = 0 by decide), if_pos hb]
        cases e : yRgI c s a i with
        | none => rw [if_pos (show wO none = -1 from rfl)]; rfl
        | some j =>
          have hj := yRgI_7 (c := c) (s := s) (m := 0) ha i (by omega) j e
          rw [if_neg (show ¬ wO (some j) = -1 from nI_nm1 (by omega)), show wO (some j) = nI j from rfl]
          dsimp only
          by_cases hl : j ≤ i + 1
          · rw [if_pos (nI_le hl (by omega)), if_pos hl]; rfl
          · rw [if_neg (nI_ge (by omega) (by omega)), if_neg hl]; rfl
      · rw [if_neg hb, if_pos rfl, if_neg hb]
    · unfold qLk_ring_b19
      dsimp only
      rw [cC_n hc, if_pos (nI_lt (by omega) (by omega))]
  have e : zloop (qLk_ring_b4 o h) zfu (-1, 0) = some (wO (yRg c c.1 c.1)) := by
    refine zloop_for (fun i => (wO (yRg c c.1 i), nI i)) c.1 (fun i hi => ?_) ?_ (zfu_lt (by omega))
    · unfold qLk_ring_b4
      dsimp only
      rw [cC_n hc, if_neg (nI_ge hi (by omega)), wshl i (by omega), inner i _ hi (yRg_7 n7 i), Option.bind_some, nI_1]
      rfl
    · unfold qLk_ring_b4
      dsimp only
      rw [cC_n hc, if_pos (nI_le (Nat.le_refl _) (by omega))]
  unfold qLk_ring
  rw [e]; rfl
def yFar : Option Nat → Nat
  | none => 1000000
  | some j => j
theorem qM_ring_ev (B : mB h k c) (ok : wCok c) : qM_ring h = some (wO (yRg c 7 c.1)) := by
  have n7 := ok.1
  have inner : ∀ s a, s < c.1 → (∀ j, a = some j → j ≤ 7) → zloop (qM_ring_b21 (nI s) h) zfu (nI (yFar a), nI (2 ^ s), 1) = some (nI (yFar (yRgI c s a 7))) := by
    intro s a hs ha
    refine zloop_for (fun i => (nI (yFar (yRgI c s a i)), nI (yRn c s i), nI (i + 1))) 7 (fun i hi => ?_) ?_ (zfu_lt (by omega))
    · unfold qM_ring_b21
      dsimp only
      have l1 := yRn_lt ok hs i
      have l2 := yRn_lt ok hs (i + 1)
      rw [if_neg (show ¬ (7 : Int32) < nI (i + 1) from nI_nlt (a := 7) (by omega) (by decide)), qM_answeredBy_ev B ok l1, Option.bind_some, nI_1]
      simp only [zlet]
      rw [show wAns c (yRn c s i) = yRn c s (i + 1) from rfl, whas _ l2 s (by omega), yRgI_s]
      unfold yMnS yHit
      by_cases hb : (yRn c s (i + 1)).testBit s = true
      · rw [if_pos hb, if_neg (show ¬ (1 : Int32) = 0 by decide), if_pos hb]
        cases e : yRgI c s a i with
        | none =>
          rw [show yFar none = 1000000 from rfl, wles (by omega) (by omega), if_pos (by omega)]
          rfl
        | some j =>
          have hj := yRgI_7 (c := c) (s := s) (m := 0) ha i (by omega) j e
          rw [show yFar (some j) = j from rfl, wles (by omega) (by omega)]
          dsimp only
          by_cases hl : j ≤ i + 1
          · rw [if_neg (by omega), if_pos hl]; rfl
          · rw [if_pos (by omega), if_neg hl]; rfl
      · rw [if_neg hb, if_pos rfl, if_neg hb]
    · unfold qM_ring_b21
      dsimp only
      rw [if_pos (show (7 : Int32) < nI (7 + 1) from nI_lt (a := 7) (by omega) (by decide))]
  have e : zloop (qM_ring_b6 h) zfu (1000000, 0) = some (nI (yFar (yRg c 7 c.1))) := by
    refine zloop_for (fun i => (nI (yFar (yRg c 7 i)), nI i)) c.1 (fun i hi => ?_) ?_ (zfu_lt (by omega))
    · unfold qM_ring_b6
      dsimp only
      rw [B.2.2.1, if_neg (nI_ge hi (by omega)), wshl i (by omega), inner i _ hi (yRg_7 (Nat.le_refl _) i), Option.bind_some, nI_1]
      rfl
    · unfold qM_ring_b6
      dsimp only
      rw [B.2.2.1, if_pos (nI_le (Nat.le_refl _) (by omega))]
  unfold qM_ring
  rw [e, Option.bind_some]
  cases q : yRg c 7 c.1 with
  | none => rw [if_neg (show ¬ ¬ nI (yFar none) = 1000000 from fun z => z rfl)]; rfl
  | some j =>
    have hj := yRg_7 (c := c) (Nat.le_refl _) c.1 j q
    rw [if_pos (show ¬ nI (yFar (some j)) = 1000000 from fun z => by
      have := (nI_eq (a := j) (b := 1000000) (by omega) (by omega)).mp z
      omega)]
    rfl
end RING
