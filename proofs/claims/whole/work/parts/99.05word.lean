/-! TEXTS: words -/
def yWs : List (List Nat) := [[115, 104, 111, 99, 107], [114, 101, 97, 99, 104], [115, 97, 121, 105, 110, 103], [97, 110, 115, 119, 101, 114, 115], [121, 101, 97, 114], [111, 112, 101, 110], [119, 105, 114, 101], [116, 97, 105, 110, 116], [109, 111, 118, 101], [104, 101, 97, 114, 100]]
def yWl (w : Nat) : Nat := (yWs.getD w []).length
def yWg (w i : Nat) : Nat := (yWs.getD w []).getD i 0
def yWc (w : Nat) : Nat := yPk (yWg w) 0 (yWl w)
def ySo (w : Nat) : Nat := [0, 0, 0, 0, 1, 1, 1, 1, 1, 2].getD w 9
theorem yWs_z : ∀ w, w < 10 → ∃ l, zwords[w]? = some l ∧ l.length = yWl w ∧ ∀ i, i < yWl w → l.getD i 0 = nI (yWg w i) := by
  intro w hw
  rcases (by omega : w = 0 ∨ w = 1 ∨ w = 2 ∨ w = 3 ∨ w = 4 ∨ w = 5 ∨ w = 6 ∨ w = 7 ∨ w = 8 ∨ w = 9) with rfl | rfl | rfl | rfl | rfl | rfl | rfl | rfl | rfl | rfl <;> exact ⟨_, rfl, rfl, by decide +kernel⟩
theorem yWg_r : ∀ w, w < 10 → ∀ i, i < yWl w → 97 ≤ yWg w i ∧ yWg w i ≤ 122 := by decide +kernel
theorem yWl_r : ∀ w, w < 10 → 4 ≤ yWl w ∧ yWl w ≤ 7 := by decide +kernel
theorem yWc_inj : ∀ w, w < 10 → ∀ v, v < 10 → yWc w = yWc v → w = v := by decide +kernel
theorem yWc_63 : ∀ w, w < 10 → 0 < yWc w ∧ yWc w < 2 ^ 63 := by decide +kernel
theorem ySo_z : ∀ w, w < 10 → List.getD zA_SORT_OF w 0 = nI (ySo w) := by decide +kernel
theorem ySo_3 : ∀ w, w < 10 → ySo w < 3 := by decide
theorem ySp_z : ∀ w, w < 10 → qRe_spelling (nI w) = some w := by decide +kernel
section WORD
variable {g x : zK} {u v : Nat → Nat} {len s t : Nat}
theorem yPk_pos {n : Nat} (hu : ∀ i, i < n → 1 ≤ u (s + i)) (hn : 1 ≤ n) : 0 < yPk u s n := by
  obtain ⟨m, rfl⟩ : ∃ m, n = m + 1 := ⟨n - 1, by omega⟩
  have := hu m (by omega)
  show 0 < yPk u s m * 256 + u (s + m)
  omega
theorem yPk_inj : ∀ {n m : Nat}, (∀ i, i < n → 1 ≤ u (s + i) ∧ u (s + i) < 256) → (∀ i, i < m → 1 ≤ v (t + i) ∧ v (t + i) < 256) → (yPk u s n = yPk v t m ↔ n = m ∧ ∀ i, i < n → u (s + i) = v (t + i))
  | 0, m, hu, hv => by
    constructor
    · intro e
      have : m = 0 := by
        apply Nat.eq_zero_of_not_pos
        intro hm
        have := yPk_pos (u := v) (s := t) (n := m) (fun i hi => (hv i hi).1) hm
        have : yPk u s 0 = 0 := rfl
        omega
      exact ⟨this.symm, fun i hi => absurd hi (Nat.not_lt_zero _)⟩
    · rintro ⟨rfl, -⟩; rfl
  | n + 1, 0, hu, hv => by
    constructor
    · intro e
      have := yPk_pos (u := u) (s := s) (n := n + 1) (fun i hi => (hu i hi).1) (by omega)
      have : yPk v t 0 = 0 := rfl
      omega
    · rintro ⟨e, -⟩; omega
  | n + 1, m + 1, hu, hv => by
    have ih := yPk_inj (n := n) (m := m) (fun i hi => hu i (by omega)) (fun i hi => hv i (by omega))
    have a := hu n (by omega)
    have b := hv m (by omega)
    show yPk u s n * 256 + u (s + n) = yPk v t m * 256 + v (t + m) ↔ _
    constructor
    · intro e
      obtain ⟨e1, e2⟩ := ih.mp (by omega)
      subst e1
      refine ⟨rfl, fun i hi => ?_⟩
      by_cases q : i = n
      · subst q; omega
      · exact e2 i (by omega)
    · rintro ⟨e1, e2⟩
      have e1' : n = m := by omega
      subst e1'
      rw [ih.mpr ⟨rfl, fun i hi => e2 i (by omega)⟩, e2 n (by omega)]
/-- the token is the word w -/
def yIs (u : Nat → Nat) (s n w : Nat) : Prop := n = yWl w ∧ ∀ i, i < n → u (s + i) = yWg w i
theorem yIs_pk {n w : Nat} (hw : w < 10) (hu : ∀ i, i < n → 97 ≤ u (s + i) ∧ u (s + i) ≤ 122) : yPk u s n = yWc w ↔ yIs u s n w := by
  unfold yWc yIs
  rw [yPk_inj (fun i hi => by have := hu i hi; omega) (fun i hi => by have := yWg_r w hw (0 + i) (by omega); omega)]
  constructor
  · rintro ⟨a, b⟩
    exact ⟨a, fun i hi => by have := b i hi; rw [Nat.zero_add] at this; exact this⟩
  · rintro ⟨a, b⟩
    exact ⟨a, fun i hi => by rw [Nat.zero_add]; exact b i hi⟩
theorem yIs_one {n w w' : Nat} (hw : w < 10) (hw' : w' < 10) (hu : ∀ i, i < n → 97 ≤ u (s + i) ∧ u (s + i) ≤ 122) (a : yIs u s n w) (b : yIs u s n w') : w = w' :=
  yWc_inj w hw w' hw' (((yIs_pk hw hu).mpr a).symm.trans ((yIs_pk hw' hu).mpr b))
theorem yPk_63 {n : Nat} (hu : ∀ i, i < n → u (s + i) ≤ 122) : ∀ i, i + 1 ≤ n → yPk u s (i + 1) < 2 ^ (8 * i + 7)
  | 0, h => by
    have := hu 0 (by omega)
    show 0 * 256 + u (s + 0) < 128
    omega
  | i + 1, h => by
    have ih := yPk_63 hu i (by omega)
    have := hu (i + 1) (by omega)
    have e : 2 ^ (8 * (i + 1) + 7) = 2 ^ (8 * i + 7) * 256 := by rw [show 8 * (i + 1) + 7 = (8 * i + 7) + 8 by omega, Nat.pow_add]
    show yPk u s (i + 1) * 256 + u (s + (i + 1)) < _
    omega
/-- letters of a word token -/
theorem yKd_1 (h1 : yKd u len s = 1) : s < len ∧ s < yNx u len s ∧ yNx u len s ≤ len ∧ ∀ i, i < yNx u len s - s → 97 ≤ u (s + i) ∧ u (s + i) ≤ 122 := by
  unfold yKd at h1
  split at h1
  · omega
  · rename_i hl
    split at h1
    · rename_i hL
      unfold yNx
      rw [if_neg hl, if_pos hL]
      have gt := ySc_gt (p := fun j => yLt (u j)) (len := len) (a := s) (by omega) hL
      refine ⟨by omega, gt, ySc_le (by omega), fun i hi => ?_⟩
      have := ySc_y (p := fun j => yLt (u j)) (len := len) (a := s) (j := s + i) (by omega) (by omega)
      have this' : yLt (u (s + i)) = true := this
      unfold yLt at this'
      rw [Bool.and_eq_true] at this'
      exact ⟨of_decide_eq_true this'.1, of_decide_eq_true this'.2⟩
    · split at h1
      · split at h1 <;> omega
      · split at h1 <;> omega
/-- the reference's word against a constant -/
theorem ycmp {a b : Int64} : lg_cmp a b = 0 ↔ a = b := by
  unfold lg_cmp
  by_cases h : a > b
  · rw [if_pos h]
    constructor
    · intro z; exact absurd z (by decide)
    · intro z; subst z; exact absurd h (Int64.lt_irrefl)
  · rw [if_neg h]
    by_cases e : a = b
    · rw [if_pos e]; exact ⟨fun _ => e, fun _ => rfl⟩
    · rw [if_neg e]
      constructor
      · intro z; exact absurd z (by decide)
      · intro z; exact absurd z e
def yWv (x : zK) (u : Nat → Nat) (len s : Nat) : Int64 := if ¬ gI x 215 12 = 2 then 0 else gJ x 215 14
theorem yWv_ev (M : yMS x u len s) {w : Nat} (hw : w < 10) : lg_cmp (yWv x u len s) (lN (yWc w)) = 0 ↔ (yKd u len s = 1 ∧ yIs u s (yNx u len s - s) w) := by
  obtain ⟨m1, m2, m3, m4, m5⟩ := M
  obtain ⟨wp, w6⟩ := yWc_63 w hw
  rw [ycmp]
  unfold yWv
  rw [m2]
  by_cases h1 : yKd u len s = 1
  · obtain ⟨k1, k2, k3, k4⟩ := yKd_1 h1
    rw [h1, if_neg (show ¬ ¬ nI (yKr 1) = 2 from fun z => z rfl), m5 h1]
    by_cases h8 : yNx u len s - s ≤ 8
    · have lt : yPk u s (yNx u len s - s) < 2 ^ 63 := by
        obtain ⟨m, hm⟩ : ∃ m, yNx u len s - s = m + 1 := ⟨yNx u len s - s - 1, by omega⟩
        rw [hm]
        exact Nat.lt_of_lt_of_le (yPk_63 (n := m + 1) (fun i hi => (k4 i (by omega)).2) m (Nat.le_refl _)) (Nat.pow_le_pow_right (by omega) (by omega))
      rw [if_pos h8, fb_lN_inj lt w6, yIs_pk hw k4]
      exact ⟨fun z => ⟨rfl, z⟩, fun z => z.2⟩
    · rw [if_neg h8]
      constructor
      · intro z
        have := (fb_lN_inj (a := 0) (b := yWc w) (by omega) w6).mp z
        omega
      · rintro ⟨-, z, -⟩
        have := (yWl_r w hw).2
        omega
  · have : ¬ nI (yKr (yKd u len s)) = 2 := fun z => by
      have e : yKr (yKd u len s) = 2 := (nI_eq (b := 2) (by unfold yKr; split <;> (try split) <;> (try split) <;> (try split) <;> omega) (by omega)).mp z
      unfold yKr at e
      rw [if_neg h1] at e
      split at e
      · omega
      · split at e
        · omega
        · split at e <;> omega
    rw [if_pos this]
    constructor
    · intro z
      have := (fb_lN_inj (a := 0) (b := yWc w) (by omega) w6).mp z
      omega
    · rintro ⟨z, -⟩; exact absurd z h1
/-! the class's word -/
theorem yIs_dec (u : Nat → Nat) (s n w : Nat) : yIs u s n w ∨ ¬ yIs u s n w := Classical.em _
theorem qRe_isHere_ev (T : yTp g u len) (C : yCS g u len s) (h1 : yKd u len s = 1) {w : Nat} (hw : w < 10) : ∃ v : Int32, qRe_isHere w g = some v ∧ ((v = 1 ∧ yIs u s (yNx u len s - s) w) ∨ (v = 0 ∧ ¬ yIs u s (yNx u len s - s) w)) := by
  obtain ⟨k1, k2, k3, k4⟩ := yKd_1 h1
  obtain ⟨l, z1, z2, z3⟩ := yWs_z w hw
  obtain ⟨l4, l7⟩ := yWl_r w hw
  have l6 := T.1
  unfold qRe_isHere
  rw [z1, Option.bind_some, C.2.2.1, C.1, nI_sub (by omega), z2]
  by_cases hn : yNx u len s - s = yWl w
  · rw [if_pos (show nI (yNx u len s - s) = Int32.ofNat (yWl w) from by rw [hn]; rfl)]
    have fl := fa_first_le (fun i => !decide (u (s + i) = yWg w i)) (yWl w)
    have e : zloop (qRe_isHere_b20 w g) zfu 0 = some (if fa_first (fun i => !decide (u (s + i) = yWg w i)) (yWl w) < yWl w then Sum.inr 0 else Sum.inl ()) := by
      refine zloop_for (fun i => nI i) (fa_first (fun i => !decide (u (s + i) = yWg w i)) (yWl w)) (fun i hi => ?_) ?_ (zfu_lt (by omega))
      · have q := fa_first_no (fun i => !decide (u (s + i) = yWg w i)) (yWl w) i hi
        have q' : u (s + i) = yWg w i := by simpa using q
        obtain ⟨r1, r2⟩ := T.2.2 (s + i) (by omega)
        have wr := yWg_r w hw i (by omega)
        unfold qRe_isHere_b20
        rw [z1, Option.bind_some, z2, if_neg (show ¬ Int32.ofNat (yWl w) ≤ nI i from nI_ge (b := yWl w) (by omega) (by omega)), C.1, nI_add, zix_nI (by omega) (by omega), Option.bind_some, Option.bind_some, z2, zix_nI (by omega) (by omega), Option.bind_some, r1, z3 i (by omega), q', yBt_n _ (by omega), if_pos rfl, nI_1]
      · unfold qRe_isHere_b20
        by_cases hl : fa_first (fun i => !decide (u (s + i) = yWg w i)) (yWl w) < yWl w
        · have q := fa_first_yes (fun i => !decide (u (s + i) = yWg w i)) (yWl w) hl
          rw [if_pos hl]
          generalize fa_first (fun i => !decide (u (s + i) = yWg w i)) (yWl w) = i at *
          have q' : ¬ u (s + i) = yWg w i := by simpa using q
          obtain ⟨r1, r2⟩ := T.2.2 (s + i) (by omega)
          have kk := k4 i (by omega)
          have wr := yWg_r w hw i hl
          rw [z1, Option.bind_some, z2, if_neg (show ¬ Int32.ofNat (yWl w) ≤ nI i from nI_ge (b := yWl w) hl (by omega)), C.1, nI_add, zix_nI (by omega) (by omega), Option.bind_some, Option.bind_some, z2, zix_nI hl (by omega), Option.bind_some, r1, z3 i hl, yBt_n _ (by omega), if_neg (fun z => q' ((nI_eq (by omega) (by omega)).mp z))]
        · rw [z1, Option.bind_some, z2, if_pos (show Int32.ofNat (yWl w) ≤ nI _ from nI_le (a := yWl w) (by omega) (by omega)), if_neg hl]
    rw [e, Option.bind_some]
    by_cases hl : fa_first (fun i => !decide (u (s + i) = yWg w i)) (yWl w) < yWl w
    · rw [if_pos hl]
      refine ⟨0, rfl, Or.inr ⟨rfl, fun z => ?_⟩⟩
      have q := fa_first_yes (fun i => !decide (u (s + i) = yWg w i)) (yWl w) hl
      have := z.2 _ (by rw [hn]; exact hl)
      simp [this] at q
    · rw [if_neg hl]
      refine ⟨1, rfl, Or.inl ⟨rfl, hn, fun i hi => ?_⟩⟩
      have q := fa_first_no (fun i => !decide (u (s + i) = yWg w i)) (yWl w) i (by omega)
      simpa using q
  · rw [if_neg (show ¬ nI (yNx u len s - s) = Int32.ofNat (yWl w) from fun z => hn ((nI_eq (b := yWl w) (by omega) (by omega)).mp z))]
    exact ⟨0, rfl, Or.inr ⟨rfl, fun z => hn z.1⟩⟩
theorem qRe_wordHere_ev (T : yTp g u len) (C : yCS g u len s) {so : Nat} (hso : so < 3) : (qRe_wordHere (nI so) g = some (-1) ∧ ∀ w, w < 10 → ySo w = so → ¬ (yKd u len s = 1 ∧ yIs u s (yNx u len s - s) w)) ∨ ∃ w, w < 10 ∧ ySo w = so ∧ yKd u len s = 1 ∧ yIs u s (yNx u len s - s) w ∧ qRe_wordHere (nI so) g = some (nI w) := by
  unfold qRe_wordHere
  have kb : yKd u len s ≤ 4 := by unfold yKd; split <;> (try split) <;> (try split) <;> (try split) <;> omega
  by_cases h1 : yKd u len s = 1
  · have key : ∃ t, zloop (qRe_wordHere_b2 (nI so) g) zfu 0 = some t ∧ ((t = Sum.inl () ∧ ∀ w, w < 10 → ySo w = so → ¬ yIs u s (yNx u len s - s) w) ∨ ∃ w, w < 10 ∧ ySo w = so ∧ yIs u s (yNx u len s - s) w ∧ t = Sum.inr (nI w)) := by
      refine zloop_me (Q := fun q x => ∃ i, q + i = 10 ∧ x = nI i ∧ ∀ w, w < i → ySo w = so → ¬ yIs u s (yNx u len s - s) w) ?_ zfu 10 _ ⟨0, by omega, rfl, fun w hw => absurd hw (Nat.not_lt_zero _)⟩ (zfu_lt (by omega))
      rintro q x ⟨i, hi, rfl, hn⟩
      unfold qRe_wordHere_b2
      rw [C.2.1, h1, if_neg (show ¬ ¬ nI 1 = 1 from fun z => z rfl)]
      by_cases hl : i < 10
      · rw [if_neg (show ¬ (10 : Int32) ≤ nI i from nI_ge (b := 10) hl (by decide)), zix_nI hl (by omega), Option.bind_some, ySo_z i hl]
        have s3 := ySo_3 i hl
        by_cases hs : ySo i = so
        · obtain ⟨v, v1, v2⟩ := qRe_isHere_ev T C h1 hl
          rw [if_neg (show ¬ ¬ nI (ySo i) = nI so from fun z => z (by rw [hs])), ySp_z i hl, Option.bind_some, v1, Option.bind_some]
          rcases v2 with ⟨rfl, y⟩ | ⟨rfl, y⟩
          · rw [if_neg (show ¬ (1 : Int32) = 0 by decide)]
            exact Or.inl ⟨_, rfl, Or.inr ⟨i, hl, hs, y, rfl⟩⟩
          · rw [if_pos rfl, nI_1]
            refine Or.inr ⟨q - 1, _, rfl, by omega, i + 1, by omega, rfl, fun w hw hws => ?_⟩
            by_cases e : w = i
            · subst e; exact y
            · exact hn w (by omega) hws
        · rw [if_pos (show ¬ nI (ySo i) = nI so from fun z => hs ((nI_eq (by omega) (by omega)).mp z)), nI_1]
          refine Or.inr ⟨q - 1, _, rfl, by omega, i + 1, by omega, rfl, fun w hw hws => ?_⟩
          by_cases e : w = i
          · subst e; exact absurd hws hs
          · exact hn w (by omega) hws
      · rw [if_pos (show (10 : Int32) ≤ nI i from nI_le (a := 10) (by omega) (by omega))]
        exact Or.inl ⟨_, rfl, Or.inl ⟨rfl, fun w hw => hn w (by omega)⟩⟩
    obtain ⟨t, e, ⟨rfl, hn⟩ | ⟨w, hw, hs, y, rfl⟩⟩ := key
    · left
      rw [e, Option.bind_some]
      exact ⟨rfl, fun w hw hs z => hn w hw hs z.2⟩
    · right
      refine ⟨w, hw, hs, h1, y, ?_⟩
      rw [e, Option.bind_some]
  · left
    have e : zloop (qRe_wordHere_b2 (nI so) g) zfu 0 = some (Sum.inl ()) := zloop_e (n := 19999) (by
      unfold qRe_wordHere_b2
      rw [C.2.1, if_pos (show ¬ nI (yKd u len s) = 1 from fun z => h1 ((nI_eq (b := 1) (by omega) (by omega)).mp z))])
    rw [e, Option.bind_some]
    exact ⟨rfl, fun w _ _ z => h1 z.1⟩
end WORD
