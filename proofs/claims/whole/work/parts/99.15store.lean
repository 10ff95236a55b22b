/-! TEXTS: what is told is taken over -/
section STORE
variable {g x h h' : zK}
def yBs (so : Nat) : Nat := if so = 0 then 7 else if so = 1 then 15 else 19
def yWd (so : Nat) : Nat := if so = 0 then 8 else if so = 1 then 4 else 3
/-- the new text is at its place in the class -/
def yNew (so k : Nat) (g x : zK) : Prop := if so = 0 then ∃ c, wCok c ∧ cC g (7 + 15 * k) c ∧ yCX x c else if so = 1 then ∃ d, wDok d ∧ dC g (15 + 15 * k) d ∧ yX1 x d else ∃ l, wLok l ∧ lC g (19 + 15 * k) l ∧ yX2 x l
theorem qT_take_ev {so k m : Nat} (hso : so < 3) (hk : k < 2) (hm : m ≤ 2) (g3 : gI g 3 so = nI m) : ∃ g', qT_take (nI so) (nI k) g = some g' ∧ g'.2.2 = g.2.2 ∧ (∀ a j, a ≠ 3 → ¬ (yBs so + 15 * k ≤ a ∧ a < yBs so + 15 * k + yWd so) → gI g' a j = gI g a j) ∧ (∀ j, gI g' 3 j = if j = so then nI (if m < k + 1 then k + 1 else m) else gI g 3 j) ∧ ∀ x, yDone so g x → yNew so k g' x := by
  have jj : ∀ g1 : zK, gI g1 3 so = nI m → qT_take_j85 (nI so) (nI k) g1 = some (sI g1 3 so (nI (if m < k + 1 then k + 1 else m))) := fun g1 e => by
    unfold qT_take_j85
    rw [zix_nI hso (by omega), Option.bind_some]
    simp only [zlet]
    rw [e, nI_1, wmaxn (by omega) (by omega)]
  unfold qT_take
  rw [if_neg (nI_pos (by omega)), if_pos (show nI k < 2 from nI_lt (b := 2) hk (by decide))]
  have za := zaa_t (p := 1) (j := k) (Or.inl rfl) hk
  rcases (by omega : so = 0 ∨ so = 1 ∨ so = 2) with rfl | rfl | rfl
  · obtain ⟨g1, e1, e2, e3, e4⟩ := qCe_become_ev (h := g) (p := 7 + 15 * k) (q := 148) (by omega)
    have z1 : zaa 4 k = 7 + 15 * k := by have := za.1; omega
    rw [if_pos (show nI 0 = 0 from rfl), zix_nI hk (by omega), Option.bind_some]
    simp only [zlet]
    rw [z1, if_pos (by omega), e1, Option.bind_some, jj g1 ((e2.2 3 (by omega) 0).trans g3)]
    refine ⟨_, rfl, e2.1, fun a j h1 h2 => (gI_ne h1).trans (e2.2 a (by unfold yBs yWd at h2; simp at h2; omega) j), fun j => ?_, fun x D => ?_⟩
    · by_cases e : j = 0
      · subst e; rw [gI_eq, if_pos rfl]
      · rw [gI_nk e, if_neg e]; exact e2.2 3 (by omega) j
    · obtain ⟨c, ok, cc, X⟩ := (show ∃ c, wCok c ∧ cC g 148 c ∧ yCX x c from D)
      have n7 := ok.1
      show ∃ c, wCok c ∧ cC _ (7 + 15 * k) c ∧ yCX x c
      refine ⟨c, ok, ⟨?_, ?_, ?_, fun i s hi hs => ?_⟩, X⟩
      · rw [gI_ne (by omega), e3 0 (by omega)]; exact cc.1
      · rw [gI_ne (by omega), e3 1 (by omega)]; exact cc.2.1
      · rw [gI_ne (by omega), e3 2 (by omega)]; exact cc.2.2.1
      · rw [gI_ne (by omega), e4 i s hi (by omega)]; exact cc.2.2.2 i s hi hs
  · obtain ⟨g1, e1, e2, e3, e4⟩ := qDe_become_ev (h := g) (p := 15 + 15 * k) (q := 156) (by omega)
    have z1 : zaa 5 k = 15 + 15 * k := by have := za.2.1; omega
    rw [if_neg (show ¬ nI 1 = 0 by decide), if_pos (show nI 1 = 1 from rfl), zix_nI hk (by omega), Option.bind_some]
    simp only [zlet]
    rw [z1, if_pos (by omega), e1, Option.bind_some, jj g1 ((e2.2 3 (by omega) 1).trans g3)]
    refine ⟨_, rfl, e2.1, fun a j h1 h2 => (gI_ne h1).trans (e2.2 a (by unfold yBs yWd at h2; simp at h2; omega) j), fun j => ?_, fun x D => ?_⟩
    · by_cases e : j = 1
      · subst e; rw [gI_eq, if_pos rfl]
      · rw [gI_nk e, if_neg e]; exact e2.2 3 (by omega) j
    · obtain ⟨c, ok, cc, X⟩ := (show yK1 g x from D)
      have n7 := ok.1
      show ∃ d, wDok d ∧ dC _ (15 + 15 * k) d ∧ yX1 x d
      refine ⟨c, ok, ⟨?_, fun i s hi hs => ?_⟩, X⟩
      · rw [gI_ne (by omega), e3]; exact cc.1
      · rw [gI_ne (by omega), e4 i s hi (by omega)]; exact cc.2 i s hi hs
  · obtain ⟨g1, e1, e2, e3, e4⟩ := qLo_become_ev (h := g) (p := 19 + 15 * k) (q := 160) (by omega)
    have z1 : zaa 6 k = 19 + 15 * k := by have := za.2.2; omega
    rw [if_neg (show ¬ nI 2 = 0 by decide), if_neg (show ¬ nI 2 = 1 by decide), if_pos (show nI 2 = 2 from rfl), zix_nI hk (by omega), Option.bind_some]
    simp only [zlet]
    rw [z1, if_pos (by omega), e1, Option.bind_some, jj g1 ((e2.2 3 (by omega) 2).trans g3)]
    refine ⟨_, rfl, e2.1, fun a j h1 h2 => (gI_ne h1).trans (e2.2 a (by unfold yBs yWd at h2; simp at h2; omega) j), fun j => ?_, fun x D => ?_⟩
    · by_cases e : j = 2
      · subst e; rw [gI_eq, if_pos rfl]
      · rw [gI_nk e, if_neg e]; exact e2.2 3 (by omega) j
    · obtain ⟨c, ok, cc, X⟩ := (show yK2 g x from D)
      have n7 := ok.1
      show ∃ d, wLok d ∧ lC _ (19 + 15 * k) d ∧ yX2 x d
      refine ⟨c, ok, ⟨?_, fun i s hi hs => ?_⟩, X⟩
      · rw [gI_ne (by omega), e3]; exact cc.1
      · rw [gI_ne (by omega), e4 i s hi (by omega)]; exact cc.2 i s hi hs
theorem qM_store_ev {oa n k : Nat} (ho : oa ≠ 224) (hn : n ≤ 121) (hk : k < 2) (hl : n * k + n ≤ zln oa) (hl2 : zln oa < 10000) : ∃ x', qM_store oa (nI n) (nI k) x = some x' ∧ x'.2.2 = x.2.2 ∧ (∀ a j, a ≠ oa → gI x' a j = gI x a j) ∧ ∀ j, gI x' oa j = if n * k ≤ j ∧ j < n * k + n then gI x 224 (j - n * k) else gI x oa j := by
  unfold qM_store
  have key : ∃ r, zloop (qM_store_b3 oa (nI n) (nI k)) zfu (0, x) = some r ∧ r.2.2 = x.2.2 ∧ (∀ a j, a ≠ oa → gI r a j = gI x a j) ∧ ∀ j, gI r oa j = if n * k ≤ j ∧ j < n * k + n then gI x 224 (j - n * k) else gI x oa j := by
    refine zloop_me (Q := fun q s => ∃ i r, q + i = n ∧ s = (nI i, r) ∧ r.2.2 = x.2.2 ∧ (∀ a j, a ≠ oa → gI r a j = gI x a j) ∧ ∀ j, gI r oa j = if n * k ≤ j ∧ j < n * k + i then gI x 224 (j - n * k) else gI x oa j) ?_ zfu n _ ⟨0, x, by omega, rfl, rfl, fun _ _ _ => rfl, fun j => by rw [if_neg (by omega)]⟩ (zfu_lt (by omega))
    rintro q s ⟨i, r, hq, rfl, r1, r2, r3⟩
    unfold qM_store_b3
    dsimp only
    by_cases hi : i < n
    · rw [if_neg (nI_ge hi (by omega)), zix_nI (by omega) (by omega), Option.bind_some, show nI n * nI k + nI i = nI (n * k + i) from by rw [nI_mul, nI_add], zix_nI (by omega) (by omega), Option.bind_some, nI_1]
      simp only [zlet]
      refine Or.inr ⟨q - 1, _, rfl, by omega, i + 1, _, by omega, rfl, r1, fun a j h => (gI_ne h).trans (r2 a j h), fun j => ?_⟩
      by_cases ej : j = n * k + i
      · subst ej
        rw [gI_eq, r2 224 i (fun z => ho z.symm), if_pos (by omega), show n * k + i - n * k = i by omega]
      · rw [gI_nk ej, r3 j]
        by_cases hh : n * k ≤ j ∧ j < n * k + i
        · rw [if_pos hh, if_pos (by omega)]
        · rw [if_neg hh, if_neg (by omega)]
    · have ei : i = n := by omega
      subst ei
      rw [if_pos (nI_le (Nat.le_refl _) (by omega))]
      exact Or.inl ⟨_, rfl, r1, r2, r3⟩
  obtain ⟨r, r0, q⟩ := key
  rw [r0, Option.bind_some]
  exact ⟨r, rfl, q⟩
theorem wTx_mk {m m' : Nat → Nat} (H : (∀ k, k < m 0 → ∃ c, wCok c ∧ cC h (1 + 6 + 15 * k) c ∧ cM h (52 * (2 * 0 + k)) c) ∧ (∀ k, k < m 1 → ∃ d, wDok d ∧ dC h (1 + 14 + 15 * k) d ∧ dM h (121 * (2 * 0 + k)) d) ∧ (∀ k, k < m 2 → ∃ l, wLok l ∧ lC h (1 + 18 + 15 * k) l ∧ lM h (17 * (2 * 0 + k)) l)) (hm : ∀ r, r < 3 → m' r ≤ 2 ∧ gI h' 3 r = nI (m' r) ∧ gI h' 220 r = nI (m' r)) (n0 : ∀ k, k < m' 0 → (k < m 0 ∧ (∀ a j, 7 + 15 * k ≤ a → a < 15 + 15 * k → gI h' a j = gI h a j) ∧ ∀ j, j < 52 → gI h' 221 (52 * k + j) = gI h 221 (52 * k + j)) ∨ ∃ c, wCok c ∧ cC h' (7 + 15 * k) c ∧ cM h' (52 * k) c) (n1 : ∀ k, k < m' 1 → (k < m 1 ∧ (∀ a j, 15 + 15 * k ≤ a → a < 19 + 15 * k → gI h' a j = gI h a j) ∧ ∀ j, j < 121 → gI h' 222 (121 * k + j) = gI h 222 (121 * k + j)) ∨ ∃ d, wDok d ∧ dC h' (15 + 15 * k) d ∧ dM h' (121 * k) d) (n2 : ∀ k, k < m' 2 → (k < m 2 ∧ (∀ a j, 19 + 15 * k ≤ a → a < 22 + 15 * k → gI h' a j = gI h a j) ∧ ∀ j, j < 17 → gI h' 223 (17 * k + j) = gI h 223 (17 * k + j)) ∨ ∃ l, wLok l ∧ lC h' (19 + 15 * k) l ∧ lM h' (17 * k) l) : wTx h' 1 0 := by
  obtain ⟨H0, H1, H2⟩ := H
  refine ⟨m', fun r hr => ⟨(hm r hr).1, (hm r hr).2.1, by rw [show 3 * 0 + r = r by omega]; exact (hm r hr).2.2⟩, fun k hk => ?_, fun k hk => ?_, fun k hk => ?_⟩
  · rw [show 1 + 6 + 15 * k = 7 + 15 * k by omega, show 52 * (2 * 0 + k) = 52 * k by omega]
    rcases n0 k hk with ⟨a, b, c⟩ | q
    · obtain ⟨w, ok, ⟨a1, a2, a3, a4⟩, ⟨b1, b2, b3, b4⟩⟩ := H0 k a
      rw [show 1 + 6 + 15 * k = 7 + 15 * k by omega] at a1 a2 a3 a4
      rw [show 52 * (2 * 0 + k) = 52 * k by omega] at b1 b2 b3 b4
      have n7 := ok.1
      refine ⟨w, ok, ⟨(b _ _ (by omega) (by omega)).trans a1, (b _ _ (by omega) (by omega)).trans a2, (b _ _ (by omega) (by omega)).trans a3, fun i s hi hs => (b _ _ (by omega) (by omega)).trans (a4 i s hi hs)⟩, ⟨(c 0 (by omega)).trans b1, (c 1 (by omega)).trans b2, (c 2 (by omega)).trans b3, fun i s hi hs => ?_⟩⟩
      have := c (3 + 7 * i + s) (by omega)
      rw [show 52 * k + (3 + 7 * i + s) = 52 * k + 3 + 7 * i + s by omega] at this
      exact this.trans (b4 i s hi hs)
    · exact q
  · rw [show 1 + 14 + 15 * k = 15 + 15 * k by omega, show 121 * (2 * 0 + k) = 121 * k by omega]
    rcases n1 k hk with ⟨a, b, c⟩ | q
    · obtain ⟨w, ok, ⟨a1, a2⟩, ⟨b1, b2⟩⟩ := H1 k a
      rw [show 1 + 14 + 15 * k = 15 + 15 * k by omega] at a1 a2
      rw [show 121 * (2 * 0 + k) = 121 * k by omega] at b1 b2
      have n7 := ok.1
      refine ⟨w, ok, ⟨(b _ _ (by omega) (by omega)).trans a1, fun r i hr hi => (b _ _ (by omega) (by omega)).trans (a2 r i hr hi)⟩, ⟨(c 0 (by omega)).trans b1, fun r i hr hi => ?_⟩⟩
      have := c (1 + 3 * i + r) (by omega)
      rw [show 121 * k + (1 + 3 * i + r) = 121 * k + 1 + 3 * i + r by omega] at this
      exact this.trans (b2 r i hr hi)
    · exact q
  · rw [show 1 + 18 + 15 * k = 19 + 15 * k by omega, show 17 * (2 * 0 + k) = 17 * k by omega]
    rcases n2 k hk with ⟨a, b, c⟩ | q
    · obtain ⟨w, ok, ⟨a1, a2⟩, ⟨b1, b2⟩⟩ := H2 k a
      rw [show 1 + 18 + 15 * k = 19 + 15 * k by omega] at a1 a2
      rw [show 17 * (2 * 0 + k) = 17 * k by omega] at b1 b2
      have n7 := ok.1
      refine ⟨w, ok, ⟨(b _ _ (by omega) (by omega)).trans a1, fun r i hr hi => (b _ _ (by omega) (by omega)).trans (a2 r i hr hi)⟩, ⟨(c 0 (by omega)).trans b1, fun r i hr hi => ?_⟩⟩
      have := c (1 + 2 * i + r) (by omega)
      rw [show 17 * k + (1 + 2 * i + r) = 17 * k + 1 + 2 * i + r by omega] at this
      exact this.trans (b2 r i hr hi)
    · exact q
theorem InvB_tx (H : InvB h) (e1 : gI h' 1 1 = 0) (e2 : gI h' 217 0 = 0) (f1 : gI h' 1 2 = gI h' 218 0) (f2 : gI h' 1 3 = gI h' 219 0) (tx : wTx h' 1 0) (c : ∀ a j, 37 ≤ a → a ≤ 146 → gI h' a j = gI h a j) (c' : ∀ j, gI h' 236 j = gI h 236 j) (k16 : ∀ j, gI h' 216 j = gI h 216 j) (k1 : ∀ a j, 217 ≤ a → a ≤ 219 → 1 ≤ j → gI h' a j = gI h a j) (k20 : ∀ j, 3 ≤ j → gI h' 220 j = gI h 220 j) (k21 : ∀ j, 104 ≤ j → gI h' 221 j = gI h 221 j) (k22 : ∀ j, 242 ≤ j → gI h' 222 j = gI h 222 j) (k23 : ∀ j, 34 ≤ j → gI h' 223 j = gI h 223 j) : InvB h' := by
  refine ⟨⟨⟨0, by omega, e1, e2, fun j hj => absurd hj (Nat.not_lt_zero _)⟩, ⟨f1, f2⟩, tx⟩, fun j hj => ?_⟩
  obtain ⟨i1, i2, i3⟩ := H.2 j hj
  rw [c 146 j (by omega) (by omega), c' j]
  refine ⟨i1, i2, fun z => ?_⟩
  exact TR_copy (T := 38 + 36 * j) (s := j + 1) (fun i t ht => c _ t (by omega) (by have := yCv_36 ht; omega)) (fun t _ _ => k16 _) (k1 217 _ (by omega) (by omega) (by omega)) (k1 218 _ (by omega) (by omega) (by omega)) (k1 219 _ (by omega) (by omega) (by omega)) (fun r hr => k20 _ (by omega)) (fun t ht => k21 _ (by omega)) (fun t ht => k22 _ (by omega)) (fun t ht => k23 _ (by omega)) (i3 z)
end STORE
