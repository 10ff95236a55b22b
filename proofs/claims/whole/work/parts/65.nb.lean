/-! how many burst: a number of 7 at most, that does not grow less -/
section NB
variable {n s i : Nat} {c : wC} {re sh : Int32} {σ : wS}
def wNb (n b0 : Nat) (σ : wS) : Prop := ∃ b g, g < 128 ∧ σ.1 3 = nI g ∧ σ.1 2 = nI b ∧ b0 ≤ b ∧ b + wG n g ≤ n
theorem wNb_nx {b0 : Nat} (hn : n ≤ 7) (H : wNb n b0 σ) : wNb n b0 (spNx re sh n σ) := by
  obtain ⟨b, g, g1, g2, g3, g4, g5⟩ := H
  unfold spNx
  split
  · exact ⟨b, g, g1, g2, g3, g4, g5⟩
  · rename_i s hs
    obtain ⟨s1, s2, -⟩ := spFo_s hs
    rw [g2, whas g g1 s (by omega)] at s2
    have ht : g.testBit s = false := by
      cases hb : g.testBit s with
      | false => rfl
      | true => rw [hb] at s2; exact absurd s2 (by decide)
    have hd := wG_dec ht n s1
    refine ⟨b + 1, g ||| 2 ^ s, wor_lt g1 (wpow7 s (by omega)), spBurst_g (by omega) g2, ?_, by omega, by omega⟩
    show σ.1 2 + 1 = nI (b + 1)
    rw [g3, nI_1]
theorem wNb_1 {b0 s : Nat} (hn : n ≤ 7) (H : wNb n b0 σ) (hs : spFo n σ = some s) : wNb n (b0 + 1) (spNx re sh n σ) := by
  obtain ⟨b, g, g1, g2, g3, g4, g5⟩ := H
  unfold spNx
  rw [hs]
  obtain ⟨s1, s2, -⟩ := spFo_s hs
  rw [g2, whas g g1 s (by omega)] at s2
  have ht : g.testBit s = false := by
    cases hb : g.testBit s with
    | false => rfl
    | true => rw [hb] at s2; exact absurd s2 (by decide)
  have hd := wG_dec ht n s1
  refine ⟨b + 1, g ||| 2 ^ s, wor_lt g1 (wpow7 s (by omega)), spBurst_g (by omega) g2, ?_, by omega, by omega⟩
  show σ.1 2 + 1 = nI (b + 1)
  rw [g3, nI_1]
theorem wNb_it {b0 : Nat} (hn : n ≤ 7) : ∀ j {σ : wS}, wNb n b0 σ → wNb n b0 (spIt re sh n j σ)
  | 0, _, H => H
  | j + 1, _, H => wNb_it hn j (wNb_nx hn H)
theorem wNb_up {b0 : Nat} {v : Int32} {ρ : Nat → Nat → Int32} (H : wNb n b0 σ) : wNb n b0 (upd σ.1 0 v, ρ) := by
  obtain ⟨b, g, g1, g2, g3, g4, g5⟩ := H
  exact ⟨b, g, g1, g2, g3, g4, g5⟩
theorem wNb_year {b0 : Nat} (hn : c.1 ≤ 7) (H : wNb c.1 b0 σ) : wNb c.1 b0 (spYear re sh c σ) := wNb_it hn 7 (wNb_up H)
theorem wG_0 : ∀ n, n ≤ 7 → wG n 0 = n := by decide
theorem wNb_0 (hn : c.1 ≤ 7) : wNb c.1 0 (wS0 c) := ⟨0, 0, by omega, rfl, rfl, by omega, by rw [wG_0 c.1 hn]; omega⟩
theorem wNb_ne (hn : n ≤ 7) (H : wNb n 1 σ) : ¬ σ.1 2 = 0 := by
  obtain ⟨b, g, g1, g2, g3, g4, g5⟩ := H
  rw [g3]
  exact nI_ne0 (by omega) (by omega)
/-! years of wired sayings -/
def wCk (c : wC) (b t : Nat) : Nat := c.2.2.2 4 t + (if b.testBit t then 5 else 0)
def wWs (c : wC) (b : Nat) : wS := ((wS0 c).1, fun r t => if r = 2 then nI (wCk c b t) else (wS0 c).2 r t)
def wWy (re sh : Int32) (c : wC) (b i : Nat) : wS := wfold (fun _ τ => spYear re sh c τ) (wWs c b) i
theorem wWy_s (b i : Nat) : wWy re sh c b (i + 1) = spYear re sh c (wWy re sh c b i) := rfl
theorem wWs_ok (ok : wCok c) (b : Nat) : wOk c.1 (wWs c b) := by
  obtain ⟨a1, a2, a3⟩ := wS0_ok ok
  exact ⟨a1, fun t ht => a2 t ht, a3⟩
theorem spYear_0 {y : Nat} (ey : σ.1 0 = nI y) (hy : y < 50) : (spYear re sh c σ).1 0 = nI (y + 1) := (spYear_b hy ey).1
theorem wWy_ok (ok : wCok c) (b : Nat) : ∀ i, i ≤ 50 → wOk c.1 (wWy re sh c b i) ∧ (wWy re sh c b i).1 0 = nI i
  | 0, _ => ⟨wWs_ok ok b, rfl⟩
  | i + 1, hi => by
    obtain ⟨a, e⟩ := wWy_ok ok b i (by omega)
    exact ⟨spYear_ok ok.1 a (by omega) e, spYear_0 e (by omega)⟩
/-- nothing has burst up to year i, as long as no fizz is above its cork -/
def wQu (c : wC) (b i : Nat) : Prop := ∀ t, t < c.1 → c.2.2.2 2 t + c.2.2.2 3 t * i ≤ wCk c b t
def wSt (c : wC) (b i : Nat) (τ : wS) : Prop := τ.1 3 = 0 ∧ τ.1 2 = 0 ∧ ∀ t, t < c.1 → τ.2 1 t = nI (c.2.2.2 2 t + c.2.2.2 3 t * i) ∧ τ.2 2 t = nI (wCk c b t)
theorem wfz_lt (ok : wCok c) {t j : Nat} (ht : t < c.1) (hj : j ≤ 50) : c.2.2.2 2 t + c.2.2.2 3 t * j < 2 ^ 31 := by
  obtain ⟨-, -, r2, r3, -⟩ := ok.2.2.2 t ht
  have : c.2.2.2 3 t * j ≤ 5 * 50 := Nat.mul_le_mul r3 hj
  omega
theorem wck_lt (ok : wCok c) {t b : Nat} (ht : t < c.1) : wCk c b t < 2 ^ 31 := by
  obtain ⟨-, -, -, -, -, r4, -⟩ := ok.2.2.2 t ht
  unfold wCk
  split <;> omega
theorem wY1_st (ok : wCok c) {b j : Nat} {τ : wS} (hj : j < 50) (H : wSt c b j τ) {v : Int32} : wSt c b (j + 1) (upd τ.1 0 v, (spY1 (wfa c) (wri c) c.1 τ).2) := by
  obtain ⟨h1, h2, h3⟩ := H
  refine ⟨h1, h2, fun t ht => ?_⟩
  obtain ⟨a1, a2⟩ := h3 t ht
  have z : zf_has (τ.1 3) (nI t) = 0 := by
    rw [h1]
    exact (whas 0 (by omega) t (by have := ok.1; omega)).trans (by simp)
  unfold spY1
  dsimp only
  have cnd : t < c.1 ∧ zf_has (τ.1 3) (nI t) = 0 := ⟨ht, z⟩
  rw [if_pos cnd, if_pos cnd]
  refine ⟨?_, a2⟩
  show τ.2 1 t + wri c t = _
  rw [a1]
  unfold wri
  rw [nI_add, Nat.mul_succ, Nat.add_assoc]
theorem wFo_none (ok : wCok c) {b j : Nat} {τ : wS} (hj : j ≤ 50) (H : wSt c b j τ) (q : wQu c b j) : spFo c.1 τ = none := by
  unfold spFo
  rw [if_neg]
  intro hl
  have q2 : spFp τ (spF c.1 τ) = true := fa_first_yes (spFp τ) c.1 hl
  simp only [spFp, Bool.and_eq_true, decide_eq_true_eq, Bool.not_eq_true', decide_eq_false_iff_not] at q2
  obtain ⟨a1, a2⟩ := H.2.2 _ hl
  apply q2.2
  rw [a1, a2]
  exact nI_le (q _ hl) (wck_lt ok hl)
theorem wFo_some (ok : wCok c) {b j : Nat} {τ : wS} (hj : j ≤ 50) (H : wSt c b j τ) (q : ¬ wQu c b j) : ∃ s, spFo c.1 τ = some s := by
  unfold spFo
  by_cases hl : spF c.1 τ < c.1
  · exact ⟨_, if_pos hl⟩
  · exfalso
    apply q
    intro t ht
    have n1 := fa_first_no (spFp τ) c.1 t (by
      have : spF c.1 τ ≤ c.1 := fa_first_le _ _
      show t < spF c.1 τ
      omega)
    obtain ⟨a1, a2⟩ := H.2.2 t ht
    have z : zf_has (τ.1 3) (nI t) = 0 := by
      rw [H.1]
      exact (whas 0 (by omega) t (by have := ok.1; omega)).trans (by simp)
    simp only [spFp, z, decide_true, Bool.true_and, Bool.not_eq_false', decide_eq_true_eq] at n1
    rw [a1, a2, nI_leI (wfz_lt ok ht hj) (wck_lt ok ht)] at n1
    exact n1
theorem wWy_q (ok : wCok c) {b : Nat} : ∀ m, m ≤ 50 → ((∀ j, 1 ≤ j → j ≤ m → wQu c b j) → wSt c b m (wWy re sh c b m)) ∧ (¬ (∀ j, 1 ≤ j → j ≤ m → wQu c b j) → wNb c.1 1 (wWy re sh c b m)) ∧ wNb c.1 0 (wWy re sh c b m)
  | 0, _ => ⟨fun _ => ⟨rfl, rfl, fun t ht => ⟨by rw [Nat.mul_zero, Nat.add_zero]; rfl, rfl⟩⟩, fun q => absurd (fun j h1 h2 => by omega) q, wNb_0 ok.1⟩
  | m + 1, hm => by
    obtain ⟨a, b', d⟩ := wWy_q ok (b := b) m (by omega)
    have d' : wNb c.1 0 (wWy re sh c b (m + 1)) := by rw [wWy_s]; exact wNb_year ok.1 d
    by_cases q : ∀ j, 1 ≤ j → j ≤ m → wQu c b j
    · have st := wY1_st ok (v := (wWy re sh c b m).1 0 + 1) (by omega) (a q)
      by_cases q2 : wQu c b (m + 1)
      · have all : ∀ j, 1 ≤ j → j ≤ m + 1 → wQu c b j := fun j h1 h2 => by
          by_cases e : j = m + 1
          · rw [e]; exact q2
          · exact q j h1 (by omega)
        refine ⟨fun _ => ?_, fun z => absurd all z, d'⟩
        rw [wWy_s]
        unfold spYear
        rw [spIt_st (wFo_none ok (by omega) st q2)]
        exact st
      · refine ⟨fun z => absurd (z (m + 1) (by omega) (by omega)) q2, fun _ => ?_, d'⟩
        obtain ⟨s, hs⟩ := wFo_some ok (by omega) st q2
        rw [wWy_s]
        unfold spYear
        exact wNb_it ok.1 6 (wNb_1 ok.1 (wNb_up d) hs)
    · refine ⟨fun z => absurd (fun j h1 h2 => z j h1 (by omega)) q, fun _ => ?_, d'⟩
      rw [wWy_s]
      exact wNb_year ok.1 (b' q)
theorem wQu_mono {b j m : Nat} (h : wQu c b m) (hj : j ≤ m) : wQu c b j := fun t ht => by
  have := h t ht
  have : c.2.2.2 3 t * j ≤ c.2.2.2 3 t * m := Nat.mul_le_mul_left _ hj
  omega
theorem wWy_z (ok : wCok c) {b m : Nat} (hm : m ≤ 50) : (wWy re sh c b m).1 2 = 0 ↔ (m = 0 ∨ wQu c b m) := by
  obtain ⟨a, b', -⟩ := wWy_q (re := re) (sh := sh) ok (b := b) m hm
  by_cases q : ∀ j, 1 ≤ j → j ≤ m → wQu c b j
  · refine ⟨fun _ => ?_, fun _ => (a q).2.1⟩
    by_cases m0 : m = 0
    · exact Or.inl m0
    · exact Or.inr (q m (by omega) (Nat.le_refl _))
  · refine ⟨fun z => absurd z (wNb_ne ok.1 (b' q)), fun z => absurd (fun j h1 h2 => ?_) q⟩
    rcases z with z | z
    · omega
    · exact wQu_mono z h2
end NB
