theorem TR_copy {h h' : zK} {T s T' s' : Nat} (hc : ∀ i j, yCv i j → gI h' (T' + i) j = gI h (T + i) j) (h16 : ∀ j, j < 600 → (gI h 216 (600 * s + j)).toInt8.toInt32 = gI h 216 (600 * s + j) → gI h' 216 (600 * s' + j) = gI h 216 (600 * s + j)) (h17 : gI h' 217 s' = gI h 217 s) (h18 : gI h' 218 s' = gI h 218 s) (h19 : gI h' 219 s' = gI h 219 s) (h20 : ∀ r, r < 3 → gI h' 220 (3 * s' + r) = gI h 220 (3 * s + r)) (h21 : ∀ j, j < 104 → gI h' 221 (104 * s' + j) = gI h 221 (104 * s + j)) (h22 : ∀ j, j < 242 → gI h' 222 (242 * s' + j) = gI h 222 (242 * s + j)) (h23 : ∀ j, j < 34 → gI h' 223 (34 * s' + j) = gI h 223 (34 * s + j)) (H : TR h T s) : TR h' T' s' := by
  obtain ⟨⟨len, l1, l2, l3, l4⟩, ⟨f1, f2⟩, m, m1, m2, m3, m4⟩ := H
  have z0 : ∀ j, 1 ≤ j → j ≤ 3 → gI h' T' j = gI h T j := fun j a b => hc 0 j (Or.inl ⟨rfl, a, b⟩)
  refine ⟨⟨len, l1, (z0 1 (by omega) (by omega)).trans l2, h17.trans l3, fun j hj => ?_⟩, ⟨?_, ?_⟩, m, fun r hr => ⟨(m1 r hr).1, ?_, (h20 r hr).trans (m1 r hr).2.2⟩, fun k hk => ?_, fun k hk => ?_, fun k hk => ?_⟩
  · obtain ⟨a, b⟩ := l4 j hj
    rw [hc 1 j (Or.inr (Or.inl ⟨rfl, by omega⟩)), h16 j (by omega) (by rw [← a]; exact b)]
    exact ⟨a, b⟩
  · exact (z0 2 (by omega) (by omega)).trans (f1.trans h18.symm)
  · exact (z0 3 (by omega) (by omega)).trans (f2.trans h19.symm)
  · exact (hc 2 r (Or.inr (Or.inr (Or.inl ⟨rfl, hr⟩)))).trans (m1 r hr).2.1
  · obtain ⟨c, c1, ⟨a1, a2, a3, a4⟩, b1, b2, b3, b4⟩ := m2 k hk
    have k2 := (m1 0 (by omega)).1
    have n7 := c1.1
    have q : ∀ j, j < 3 → gI h' (T' + 6 + 15 * k) j = gI h (T + 6 + 15 * k) j := fun j hj => by
      have := hc (6 + 15 * k) j (Or.inr (Or.inr (Or.inr ⟨k, by omega, Or.inl ⟨rfl, hj⟩⟩)))
      rw [show T' + (6 + 15 * k) = T' + 6 + 15 * k by omega, show T + (6 + 15 * k) = T + 6 + 15 * k by omega] at this
      exact this
    have q2 : ∀ x, x < 52 → gI h' 221 (52 * (2 * s' + k) + x) = gI h 221 (52 * (2 * s + k) + x) := fun x hx => by
      have := h21 (52 * k + x) (by omega)
      rw [show 104 * s' + (52 * k + x) = 52 * (2 * s' + k) + x by omega, show 104 * s + (52 * k + x) = 52 * (2 * s + k) + x by omega] at this
      exact this
    refine ⟨c, c1, ⟨(q 0 (by omega)).trans a1, (q 1 (by omega)).trans a2, (q 2 (by omega)).trans a3, fun i t hi ht => ?_⟩, (q2 0 (by omega)).trans b1, (q2 1 (by omega)).trans b2, (q2 2 (by omega)).trans b3, fun i t hi ht => ?_⟩
    · rw [← a4 i t hi ht]
      have := hc (7 + 15 * k + i) t (Or.inr (Or.inr (Or.inr ⟨k, by omega, Or.inr (Or.inl ⟨by omega, by omega, by omega⟩)⟩)))
      rw [show T' + (7 + 15 * k + i) = T' + 6 + 15 * k + 1 + i by omega, show T + (7 + 15 * k + i) = T + 6 + 15 * k + 1 + i by omega] at this
      exact this
    · rw [← b4 i t hi ht]
      have := q2 (3 + 7 * i + t) (by omega)
      rw [show 52 * (2 * s' + k) + (3 + 7 * i + t) = 52 * (2 * s' + k) + 3 + 7 * i + t by omega, show 52 * (2 * s + k) + (3 + 7 * i + t) = 52 * (2 * s + k) + 3 + 7 * i + t by omega] at this
      exact this
  · obtain ⟨d, d1, ⟨a1, a2⟩, b1, b2⟩ := m3 k hk
    have k2 := (m1 1 (by omega)).1
    have n4 := d1.1
    have q2 : ∀ x, x < 121 → gI h' 222 (121 * (2 * s' + k) + x) = gI h 222 (121 * (2 * s + k) + x) := fun x hx => by
      have := h22 (121 * k + x) (by omega)
      rw [show 242 * s' + (121 * k + x) = 121 * (2 * s' + k) + x by omega, show 242 * s + (121 * k + x) = 121 * (2 * s + k) + x by omega] at this
      exact this
    refine ⟨d, d1, ⟨?_, fun r i hr hi => ?_⟩, (q2 0 (by omega)).trans b1, fun r i hr hi => ?_⟩
    · rw [← a1]
      have := hc (14 + 15 * k) 0 (Or.inr (Or.inr (Or.inr ⟨k, by omega, Or.inr (Or.inr (Or.inl ⟨rfl, rfl⟩))⟩)))
      rw [show T' + (14 + 15 * k) = T' + 14 + 15 * k by omega, show T + (14 + 15 * k) = T + 14 + 15 * k by omega] at this
      exact this
    · rw [← a2 r i hr hi]
      have := hc (15 + 15 * k + r) i (Or.inr (Or.inr (Or.inr ⟨k, by omega, Or.inr (Or.inr (Or.inr (Or.inl ⟨by omega, by omega, by omega⟩)))⟩)))
      rw [show T' + (15 + 15 * k + r) = T' + 14 + 15 * k + 1 + r by omega, show T + (15 + 15 * k + r) = T + 14 + 15 * k + 1 + r by omega] at this
      exact this
    · rw [← b2 r i hr hi]
      have := q2 (1 + 3 * i + r) (by omega)
      rw [show 121 * (2 * s' + k) + (1 + 3 * i + r) = 121 * (2 * s' + k) + 1 + 3 * i + r by omega, show 121 * (2 * s + k) + (1 + 3 * i + r) = 121 * (2 * s + k) + 1 + 3 * i + r by omega] at this
      exact this
  · obtain ⟨d, d1, ⟨a1, a2⟩, b1, b2⟩ := m4 k hk
    have k2 := (m1 2 (by omega)).1
    have n4 := d1.1
    have q2 : ∀ x, x < 17 → gI h' 223 (17 * (2 * s' + k) + x) = gI h 223 (17 * (2 * s + k) + x) := fun x hx => by
      have := h23 (17 * k + x) (by omega)
      rw [show 34 * s' + (17 * k + x) = 17 * (2 * s' + k) + x by omega, show 34 * s + (17 * k + x) = 17 * (2 * s + k) + x by omega] at this
      exact this
    refine ⟨d, d1, ⟨?_, fun r i hr hi => ?_⟩, (q2 0 (by omega)).trans b1, fun r i hr hi => ?_⟩
    · rw [← a1]
      have := hc (18 + 15 * k) 0 (Or.inr (Or.inr (Or.inr ⟨k, by omega, Or.inr (Or.inr (Or.inr (Or.inr (Or.inl ⟨rfl, rfl⟩))))⟩)))
      rw [show T' + (18 + 15 * k) = T' + 18 + 15 * k by omega, show T + (18 + 15 * k) = T + 18 + 15 * k by omega] at this
      exact this
    · rw [← a2 r i hr hi]
      have := hc (19 + 15 * k + r) i (Or.inr (Or.inr (Or.inr ⟨k, by omega, Or.inr (Or.inr (Or.inr (Or.inr (Or.inr ⟨by omega, by omega, by omega⟩))))⟩)))
      rw [show T' + (19 + 15 * k + r) = T' + 18 + 15 * k + 1 + r by omega, show T + (19 + 15 * k + r) = T + 18 + 15 * k + 1 + r by omega] at this
      exact this
    · rw [← b2 r i hr hi]
      have := q2 (1 + 2 * i + r) (by omega)
      rw [show 17 * (2 * s' + k) + (1 + 2 * i + r) = 17 * (2 * s' + k) + 1 + 2 * i + r by omega, show 17 * (2 * s + k) + (1 + 2 * i + r) = 17 * (2 * s + k) + 1 + 2 * i + r by omega] at this
      exact this
theorem yCv_36 {i j : Nat} (h : yCv i j) : i < 36 := by
  rcases h with h | h | h | ⟨k, hk, h⟩ <;> omega
/-- the reference's rows, copied from slot f to slot t -/
def yCA (h h' : zK) (f t : Nat) : Prop := (∀ j, gI h' 216 j = fb_put (fun j => gI h 216 j) (fun j => (gI h 216 (600 * f + j)).toInt8.toInt32) (600 * t) 600 j) ∧ yCr h h' f t 217 1 ∧ yCr h h' f t 218 1 ∧ yCr h h' f t 219 1 ∧ yCr h h' f t 220 3 ∧ yCr h h' f t 221 104 ∧ yCr h h' f t 222 242 ∧ yCr h h' f t 223 34
theorem yCr_in {h h' : zK} {f t a n : Nat} (C : yCr h h' f t a n) {j : Nat} (hj : j < n) : gI h' a (n * t + j) = gI h a (n * f + j) := by
  rw [C, fb_put_in (by omega) (by omega)]
  congr 1
  omega
theorem yCr_out {h h' : zK} {f t a n s : Nat} (C : yCr h h' f t a n) (hs : s ≠ t) {j : Nat} (hj : j < n) : gI h' a (n * s + j) = gI h a (n * s + j) := by
  have sep : n * s + n ≤ n * t ∨ n * t + n ≤ n * s := by
    rcases (by omega : s + 1 ≤ t ∨ t + 1 ≤ s) with q | q
    · left
      have := Nat.mul_le_mul_left n q
      rw [Nat.mul_succ] at this
      omega
    · right
      have := Nat.mul_le_mul_left n q
      rw [Nat.mul_succ] at this
      omega
  rw [C, fb_put_out (by omega)]
theorem TR_to {h h' : zK} {T T' f t : Nat} (hc : ∀ i j, yCv i j → gI h' (T' + i) j = gI h (T + i) j) (C : yCA h h' f t) (H : TR h T f) : TR h' T' t := by
  obtain ⟨c0, c1, c2, c3, c4, c5, c6, c7⟩ := C
  refine TR_copy hc (fun j hj e => ?_) ?_ ?_ ?_ (fun r hr => yCr_in c4 hr) (fun j hj => yCr_in c5 hj) (fun j hj => yCr_in c6 hj) (fun j hj => yCr_in c7 hj) H
  · rw [c0, fb_put_in (by omega) (by omega)]
    rw [show 600 * f + (600 * t + j - 600 * t) = 600 * f + j by omega, e]
  · have := yCr_in c1 (j := 0) (by omega)
    rw [show 1 * t + 0 = t by omega, show 1 * f + 0 = f by omega] at this
    exact this
  · have := yCr_in c2 (j := 0) (by omega)
    rw [show 1 * t + 0 = t by omega, show 1 * f + 0 = f by omega] at this
    exact this
  · have := yCr_in c3 (j := 0) (by omega)
    rw [show 1 * t + 0 = t by omega, show 1 * f + 0 = f by omega] at this
    exact this
theorem TR_st {h h' : zK} {T f t s : Nat} (hs : s ≠ t) (hc : ∀ i j, yCv i j → gI h' (T + i) j = gI h (T + i) j) (C : yCA h h' f t) (H : TR h T s) : TR h' T s := by
  obtain ⟨c0, c1, c2, c3, c4, c5, c6, c7⟩ := C
  refine TR_copy hc (fun j hj e => ?_) ?_ ?_ ?_ (fun r hr => yCr_out c4 hs hr) (fun j hj => yCr_out c5 hs hj) (fun j hj => yCr_out c6 hs hj) (fun j hj => yCr_out c7 hs hj) H
  · rw [c0, fb_put_out (by omega)]
  · have := yCr_out c1 hs (j := 0) (by omega)
    rw [show 1 * s + 0 = s by omega] at this
    exact this
  · have := yCr_out c2 hs (j := 0) (by omega)
    rw [show 1 * s + 0 = s by omega] at this
    exact this
  · have := yCr_out c3 hs (j := 0) (by omega)
    rw [show 1 * s + 0 = s by omega] at this
    exact this
theorem yCA_pre {h h1 h' h2 : zK} {f t : Nat} (C : yCA h1 h' f t) (e : ∀ a j, 216 ≤ a → a < 224 → gI h1 a j = gI h a j) (e2 : ∀ a j, 216 ≤ a → a < 224 → gI h2 a j = gI h' a j) : yCA h h2 f t := by
  obtain ⟨c0, c1, c2, c3, c4, c5, c6, c7⟩ := C
  have g : ∀ a n, 216 ≤ a → a < 224 → yCr h1 h' f t a n → yCr h h2 f t a n := fun a n ha hb c j => by
    rw [e2 a j ha hb, c j]
    simp only [e a _ ha hb]
  refine ⟨fun j => ?_, g _ _ (by omega) (by omega) c1, g _ _ (by omega) (by omega) c2, g _ _ (by omega) (by omega) c3, g _ _ (by omega) (by omega) c4, g _ _ (by omega) (by omega) c5, g _ _ (by omega) (by omega) c6, g _ _ (by omega) (by omega) c7⟩
  rw [e2 216 j (by omega) (by omega), c0 j]
  simp only [e 216 _ (show 216 ≤ 216 by omega) (show 216 < 224 by omega)]
theorem zaa_37 {k : Nat} (hk : k < 3) : zaa 37 k = 38 + 36 * k := by
  rcases (by omega : k = 0 ∨ k = 1 ∨ k = 2) with rfl | rfl | rfl <;> decide
theorem wnar1 : vp_nar .boolean 1 = 1 := by decide
theorem wnar0 : vp_nar .boolean 0 = 0 := by decide
theorem wo_image {h : zK} (H : InvB h) (a : Int32) : ∃ w h1 h2, qC_image a h = some (w, h1) ∧ qM_image a h1 = some (w, h2) ∧ InvB h2 ∧ (∀ x, x < 38 ∨ (147 ≤ x ∧ x < 215) → ∀ j, gI h2 x j = gI h x j) ∧ h2.2.2 = h.2.2 := by
  have e3 : nI 3 - 1 = (2 : Int32) := by decide
  unfold qC_image qM_image
  simp only [zlet]
  rcases zf_in_n (m := 3) (by omega) a with ⟨k, hk, rfl, hz⟩ | ⟨ha, hz⟩
  · rw [e3] at hz
    have hT : yTo (38 + 36 * k) := by unfold yTo; omega
    obtain ⟨p6, b1, b2, b3⟩ := qT_become_ev (h := h) (p := 38 + 36 * k) (q := 1) hT (Or.inl rfl) (by omega)
    let h1 : zK := sI p6 146 k 1
    obtain ⟨h3, r1, r2, r3⟩ := qM_copyAll_ev (h := sI h1 215 0 0) (f := 0) (t := k + 1) (by omega) (by omega) (by omega)
    let h2 : zK := sI h3 236 k 1
    have g1 : ∀ x j, x ≠ 146 → gI h1 x j = gI p6 x j := fun x j hx => gI_ne hx
    have g2 : ∀ x j, x < 215 → x ≠ 146 → gI h2 x j = gI p6 x j := fun x j h1' h2' => by
      show gI (sI _ _ _ _) _ _ = _
      rw [gI_ne (by omega), r2.2 x (by omega), gI_ne (by omega), g1 x j h2']
    have CA : yCA h h2 0 (k + 1) := yCA_pre (h1 := sI h1 215 0 0) (h' := h3) r3 (fun a j ha hb => by
      rw [gI_ne (by omega), g1 a j (by omega), b2.2 a (by omega)]) (fun a j ha hb => gI_ne (by omega))
    have cp : ∀ i j, yCv i j → gI h2 (38 + 36 * k + i) j = gI h (1 + i) j := fun i j hv => by
      have := yCv_36 hv
      rw [g2 _ _ (by omega) (by omega)]
      exact b3 i j hv
    have st : ∀ x j, x < 215 → x ≠ 146 → (x < 38 + 36 * k ∨ 38 + 36 * k + 36 ≤ x) → gI h2 x j = gI h x j := fun x j h1' h2' h3' => by
      rw [g2 x j h1' h2', b2.2 x h3']
    refine ⟨1, h1, h2, ?_, ?_, ⟨?_, fun j hj => ?_⟩, fun x hx j => st x j (by omega) (by omega) (by omega), ?_⟩
    · rw [if_neg (nI_pos (by omega)), if_pos (show nI k < (3 : Int32) from nI_lt (b := 3) hk (by decide)), zix_nI hk (by omega), Option.bind_some, zaa_37 hk, if_pos (by omega), b1, Option.bind_some, wnar1]
    · rw [hz, if_pos (show ¬ (1 : Int32) = 0 by decide), nI_1]
      show (qM_copyAll (nI 0) (nI (k + 1)) (sI h1 215 0 0)).bind _ = _
      rw [r1, Option.bind_some, zix_nI hk (by omega), Option.bind_some, wnar1]
    · exact TR_st (s := 0) (t := k + 1) (by omega) (fun i j hv => st _ _ (by have := yCv_36 hv; omega) (by have := yCv_36 hv; omega) (by have := yCv_36 hv; omega)) CA H.1
    · obtain ⟨i1, i2, i3⟩ := H.2 j hj
      have v146 : gI h2 146 j = if j = k then 1 else gI h 146 j := by
        show gI (sI _ _ _ _) _ _ = _
        rw [gI_ne (by omega), r2.2 146 (by omega), gI_ne (by omega)]
        by_cases e : j = k
        · subst e; rw [if_pos rfl]; exact gI_eq
        · rw [if_neg e]
          show gI (sI _ _ _ _) _ _ = _
          rw [gI_nk e, b2.2 146 (by omega)]
      have v236 : gI h2 236 j = if j = k then 1 else gI h 236 j := by
        by_cases e : j = k
        · subst e; rw [if_pos rfl]; exact gI_eq
        · rw [if_neg e]
          show gI (sI _ _ _ _) _ _ = _
          rw [gI_nk e, r2.2 236 (by omega), gI_ne (by omega), g1 236 j (by omega), b2.2 236 (by omega)]
      rw [v146, v236]
      by_cases e : j = k
      · subst e
        rw [if_pos rfl, if_pos rfl]
        exact ⟨rfl, Or.inr rfl, fun _ => TR_to cp CA H.1⟩
      · rw [if_neg e, if_neg e]
        exact ⟨i1, i2, fun z => TR_st (s := j + 1) (t := k + 1) (by omega) (fun i j' hv => st _ _ (by have := yCv_36 hv; omega) (by have := yCv_36 hv; omega) (by have := yCv_36 hv; omega)) CA (i3 z)⟩
    · show h3.2.2 = h.2.2
      rw [r2.1]
      exact b2.1
  · rw [e3] at hz
    refine ⟨0, h, sI h 215 0 0, ?_, by rw [hz]; rfl, InvB_eq (wEq_s (by unfold wKp; omega)) H, fun x hx j => gI_ne (by omega), rfl⟩
    rcases ha with ha | ⟨j, j1, j2, rfl⟩
    · rw [if_pos ha]
    · rw [if_neg (nI_pos j2), if_neg (show ¬ nI j < (3 : Int32) from nI_nlt (b := 3) j1 j2)]
theorem qC_forgetCellars_ev (g : zK) : ∃ g', qC_forgetCellars g = some g' ∧ g'.2.2 = g.2.2 ∧ gI g' 184 8 = -1 ∧ gI g' 213 0 = 0 ∧ gI g' 213 1 = 0 ∧ ∀ x j, x ≠ 184 → x ≠ 213 → gI g' x j = gI g x j := by
  have key : ∃ x, zloop qLw_forget_b2 zfu (0, sI g 184 8 (-1)) = some x ∧ (x.2.2 = g.2.2 ∧ gI x 184 8 = -1 ∧ (∀ i, i < 2 → gI x 213 i = 0) ∧ ∀ y j, y ≠ 184 → y ≠ 213 → gI x y j = gI g y j) := by
    refine zloop_fx (S := fun i x => ∃ q, x = (nI i, q) ∧ q.2.2 = g.2.2 ∧ gI q 184 8 = -1 ∧ (∀ j, j < i → gI q 213 j = 0) ∧ ∀ y j, y ≠ 184 → y ≠ 213 → gI q y j = gI g y j) 2 ?_ ?_ (zfu_lt (by omega)) ⟨sI g 184 8 (-1), rfl, rfl, gI_eq, fun j hj => absurd hj (Nat.not_lt_zero _), fun y j hy _ => gI_ne hy⟩
    · rintro i x hi ⟨q, rfl, q1, q2, q3, q4⟩
      unfold qLw_forget_b2
      dsimp only
      rw [if_neg (show ¬ (2 : Int32) ≤ nI i from nI_ge (b := 2) hi (by decide)), zix_nI hi (by omega), Option.bind_some]
      simp only [zlet]
      rw [wnar0, nI_1]
      refine ⟨_, rfl, _, rfl, q1, (gI_ne (by decide)).trans q2, fun j hj => ?_, fun y j h1 h2 => (gI_ne h2).trans (q4 y j h1 h2)⟩
      by_cases e : j = i
      · subst e; exact gI_eq
      · rw [gI_nk e]; exact q3 j (by omega)
    · rintro x ⟨q, rfl, q1, q2, q3, q4⟩
      unfold qLw_forget_b2
      dsimp only
      rw [if_pos (show (2 : Int32) ≤ nI 2 from nI_le (a := 2) (Nat.le_refl _) (by decide))]
      exact ⟨_, rfl, q1, q2, q3, q4⟩
  obtain ⟨x, e1, x1, x2, x3, x4⟩ := key
  refine ⟨x, ?_, x1, x2, x3 0 (by omega), x3 1 (by omega), x4⟩
  unfold qC_forgetCellars qLa_forget qLw_forget
  simp only [zlet]
  rw [Option.bind_some, e1]
  rfl
theorem wo_again {h : zK} (H : InvB h) (a : Int32) : ∃ w h1 h2, qC_again a h = some (w, h1) ∧ qM_again a h1 = some (w, h2) ∧ InvB h2 ∧ ((gI h2 184 8 = -1 ∧ gI h2 213 0 = 0 ∧ gI h2 213 1 = 0) ∨ ((∀ x, x < 215 → ∀ j, gI h2 x j = gI h x j) ∧ h2.2.2 = h.2.2)) := by
  have e3 : nI 3 - 1 = (2 : Int32) := by decide
  unfold qC_again qM_again
  simp only [zlet]
  rcases zf_in_n (m := 3) (by omega) a with ⟨k, hk, rfl, hz⟩ | ⟨ha, hz⟩
  · rw [e3] at hz
    obtain ⟨i1, i2, i3⟩ := H.2 k hk
    rw [hz, if_neg (nI_pos (by omega)), if_neg (show ¬ (3 : Int32) ≤ nI k from nI_ge (b := 3) hk (by decide)), zix_nI hk (by omega), Option.bind_some]
    by_cases h0 : gI h 146 k = 0
    · refine ⟨0, h, sI h 215 0 0, ?_, ?_, InvB_eq (wEq_s (by unfold wKp; omega)) H, Or.inr ⟨fun x hx j => gI_ne (by omega), rfl⟩⟩
      · rw [if_neg (show ¬ ¬ gI h 146 k = 0 from fun z => z h0)]
      · rw [if_neg (show ¬ (1 : Int32) = 0 by decide), Option.bind_some, gI_ne (by decide), ← i1, if_neg (show ¬ ¬ gI h 146 k = 0 from fun z => z h0)]
    · have h1' : gI h 146 k = 1 := i2.resolve_left h0
      have hT : yTo (38 + 36 * k) := by unfold yTo; omega
      obtain ⟨p7, b1, b2, b3⟩ := qT_become_ev (h := h) (p := 1) (q := 38 + 36 * k) (Or.inl rfl) hT (by omega)
      obtain ⟨p8, f1, f2, f3, f4, f5, f6⟩ := qC_forgetCellars_ev p7
      obtain ⟨h3, r1, r2, r3⟩ := qM_copyAll_ev (h := sI p8 215 0 0) (f := k + 1) (t := 0) (by omega) (by omega) (by omega)
      have CA : yCA h h3 (k + 1) 0 := yCA_pre (h1 := sI p8 215 0 0) (h' := h3) r3 (fun a j ha hb => by
        rw [gI_ne (by omega), f6 a j (by omega) (by omega), b2.2 a (by omega)]) (fun a j ha hb => rfl)
      have g3 : ∀ x j, x < 215 → x ≠ 184 → x ≠ 213 → gI h3 x j = gI p7 x j := fun x j q1 q2 q3 => by
        rw [r2.2 x (by omega), gI_ne (by omega), f6 x j q2 q3]
      have st : ∀ x j, x < 180 → 37 ≤ x → gI h3 x j = gI h x j := fun x j q1 q2 => by
        rw [g3 x j (by omega) (by omega) (by omega), b2.2 x (by omega)]
      refine ⟨1, p8, h3, ?_, ?_, ⟨?_, fun j hj => ?_⟩, Or.inl ⟨?_, ?_, ?_⟩⟩
      · rw [if_pos h0, zaa_37 hk, if_pos (by omega), b1, Option.bind_some, f1, Option.bind_some]
      · have v236 : gI (sI p8 215 0 0) 236 k = 1 := by
          rw [gI_ne (by decide), f6 236 k (by decide) (by decide), b2.2 236 (by omega), ← i1, h1']
        rw [if_neg (show ¬ (1 : Int32) = 0 by decide), Option.bind_some, v236, if_pos (show ¬ (1 : Int32) = 0 by decide), nI_1]
        show (qM_copyAll (nI (k + 1)) (nI 0) (sI p8 215 0 0)).bind _ = _
        rw [r1]
        rfl
      · exact TR_to (fun i j hv => by
          have := yCv_36 hv
          rw [g3 _ _ (by omega) (by omega) (by omega)]
          exact b3 i j hv) CA (i3 h1')
      · obtain ⟨q1, q2, q3⟩ := H.2 j hj
        have v236 : gI h3 236 j = gI h 236 j := by
          rw [r2.2 236 (by omega), gI_ne (by decide), f6 236 j (by decide) (by decide), b2.2 236 (by omega)]
        rw [st 146 j (by omega) (by omega), v236]
        exact ⟨q1, q2, fun z => TR_st (s := j + 1) (t := 0) (by omega) (fun i j' hv => st _ _ (by have := yCv_36 hv; omega) (by omega)) CA (q3 z)⟩
      · rw [r2.2 184 (by omega), gI_ne (by decide)]; exact f3
      · rw [r2.2 213 (by omega), gI_ne (by decide)]; exact f4
      · rw [r2.2 213 (by omega), gI_ne (by decide)]; exact f5
  · rw [e3] at hz
    refine ⟨0, h, sI h 215 0 0, ?_, by rw [hz]; rfl, InvB_eq (wEq_s (by unfold wKp; omega)) H, Or.inr ⟨fun x hx j => gI_ne (by omega), rfl⟩⟩
    rcases ha with ha | ⟨j, j1, j2, rfl⟩
    · rw [if_pos ha]
    · rw [if_neg (nI_pos j2), if_pos (show (3 : Int32) ≤ nI j from nI_le (a := 3) j1 j2)]
