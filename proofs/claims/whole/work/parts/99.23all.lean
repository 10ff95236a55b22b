/-! LAYING: the reference goes through all arrangements -/
section ALLR
variable {h : zK} {k : Nat} {c : wC} {pl : Nat → Nat}
theorem yNe_cong {re m t : Nat} {p q : Nat → Nat} (h : ∀ s, s < m → p s = q s) (ht : p t = q t) : yNe re p m t = yNe re q m t := by
  apply Nat.eq_of_testBit_eq
  intro j
  rw [yNe_t, yNe_t]
  by_cases hj : j < m
  · unfold yNr
    rw [h j hj, ht]
  · rw [decide_eq_false hj]; rfl
theorem yGs_cong (ok : wCok c) {p q : Nat → Nat} (h : ∀ s, s < c.1 → p s = q s) : yGs c p = yGs c q := by
  unfold yGs yGr
  refine yMx_cong _ fun s hs => ?_
  rw [yCl_cong (nd' := yNd c) (ne' := yNe c.2.2.1 q c.1) ok.1 hs (fun t ht => ⟨rfl, yNe_cong h (h t ht)⟩)]
theorem yBf_K {b : Nat} {K K' : (Nat → Nat) → Prop} (B : yBf c b h K) (e : ∀ p, yPm p (c.2.2.2 5) c.1 → (∀ s, s < c.1 → p s ≤ 20) → (K p ↔ K' p)) {h' : zK} (e2 : ∀ s, s < c.1 → gI h' 230 s = gI h 230 s) : yBf c b h' K' := by
  obtain ⟨b1, b2⟩ := B
  refine ⟨fun p h1 h2 h3 => b1 p h1 h2 ((e p h1 h2).mpr h3), ?_⟩
  rcases b2 with ⟨q1, q2⟩ | ⟨r, r1, r2, r3, r4, r5, r6, r7⟩
  · exact Or.inl ⟨q1, fun p h1 h2 h3 => q2 p h1 h2 ((e p h1 h2).mpr h3)⟩
  · exact Or.inr ⟨r, r1, r2, r3, (e r r2 r3).mp r4, r5, fun s hs => (e2 s hs).trans (r6 s hs), r7⟩
theorem yBf_step (ok : wCok c) {b : Nat} {q : Nat → Nat} (B : yBf c b h (fun p => yCo p c.1 < yCo q c.1)) (hq : yPm q (c.2.2.2 5) c.1) (q20 : ∀ s, s < c.1 → q s ≤ 20) {h' : zK} (k1 : b ≤ yGs c q → ∀ s, gI h' 230 s = gI h 230 s) (k2 : yGs c q < b → ∀ s, s < c.1 → gI h' 230 s = nI (q s)) : (if yGs c q < b then yGs c q else b) ≤ 7 ∧ yBf c (if yGs c q < b then yGs c q else b) h' (fun p => yCo p c.1 ≤ yCo q c.1) := by
  have t7 := yGs_7 ok q
  obtain ⟨b1, b2⟩ := B
  have eqc : ∀ p, (∀ s, s < c.1 → p s ≤ 20) → yCo p c.1 = yCo q c.1 → yGs c p = yGs c q := fun p p20 e => yGs_cong ok (yCo_inj p20 q20 e)
  by_cases hl : yGs c q < b
  · rw [if_pos hl]
    refine ⟨t7, fun p h1 h2 h3 => ?_, Or.inr ⟨q, t7, hq, q20, Nat.le_refl _, rfl, k2 hl, fun p h1 h2 h3 => ?_⟩⟩
    · by_cases e : yCo p c.1 = yCo q c.1
      · rw [eqc p h2 e]; exact Nat.le_refl _
      · have h3' : yCo p c.1 ≤ yCo q c.1 := h3
        have := b1 p h1 h2 (show yCo p c.1 < yCo q c.1 by omega)
        omega
    · have := b1 p h1 h2 h3
      omega
  · rw [if_neg hl]
    rcases b2 with ⟨q1, -⟩ | ⟨r, r1, r2, r3, r4, r5, r6, r7⟩
    · omega
    · refine ⟨r1, fun p h1 h2 h3 => ?_, Or.inr ⟨r, r1, r2, r3, Nat.le_of_lt r4, r5, fun s hs => (k1 (by omega) s).trans (r6 s hs), r7⟩⟩
      by_cases e : yCo p c.1 = yCo q c.1
      · rw [eqc p h2 e]; omega
      · have h3' : yCo p c.1 ≤ yCo q c.1 := h3
        exact b1 p h1 h2 (show yCo p c.1 < yCo q c.1 by omega)
theorem qM_layAll_ev (ok : wCok c) (M : yM h k c pl) (pm : yPm pl (c.2.2.2 5) c.1) (rise : ∀ s t, s ≤ t → t < c.1 → pl s ≤ pl t) (x2 : Int32) : ∃ b h' r, zloop (qM_laying_b40 x2) zfu (1000000, 1, h) = some (nI b, h') ∧ b ≤ 7 ∧ yBst c b r ∧ ∀ s, s < c.1 → gI h' 230 s = nI (r s) := by
  have n7 := ok.1
  have len : (yPls c.1 (c.2.2.2 5)).length ≤ 5040 := by
    rcases yPls_len c.1 (c.2.2.2 5) with z | z
    · refine Nat.le_trans z ?_
      rcases (by omega : c.1 = 0 ∨ c.1 = 1 ∨ c.1 = 2 ∨ c.1 = 3 ∨ c.1 = 4 ∨ c.1 = 5 ∨ c.1 = 6 ∨ c.1 = 7) with e | e | e | e | e | e | e | e <;> rw [e] <;> decide
    · omega
  have key : ∃ t, zloop (qM_laying_b40 x2) zfu (1000000, 1, h) = some t ∧ ∃ b h', t = (nI b, h') ∧ b ≤ 7 ∧ yBf c b h' (fun _ => True) := by
    refine zloop_me (Q := fun m s => (∃ b h' q, s = (nI b, 1, h') ∧ m = yGt (yPls c.1 (c.2.2.2 5)) (yCo q c.1) + 1 ∧ yM h' k c q ∧ yPm q (c.2.2.2 5) c.1 ∧ b ≤ 1000000 ∧ yBf c b h' (fun p => yCo p c.1 < yCo q c.1)) ∨ ∃ b h', s = (nI b, 0, h') ∧ b ≤ 7 ∧ yBf c b h' (fun _ => True)) ?_ zfu (yGt (yPls c.1 (c.2.2.2 5)) (yCo pl c.1) + 1) _ (Or.inl ⟨1000000, h, pl, rfl, rfl, M, pm, Nat.le_refl _, ?_⟩) (zfu_lt (by have := yGt_len (yPls c.1 (c.2.2.2 5)) (yCo pl c.1); omega))
    · rintro m s (⟨b, h', q, rfl, hm, M', pq, hb, B⟩ | ⟨b, h', rfl, b7, B⟩)
      · have q20 : ∀ s, s < c.1 → q s ≤ 20 := fun s hs => (M'.2.2.2 s hs).2.2
        have t7 := yGs_7 ok q
        obtain ⟨h1, e1, M1⟩ := qM_greatestTrain_ev ok M'
        have e1' : qM_greatestTrain h' = some (nI (yGs c q), h1) := e1
        obtain ⟨h2, e2, M2, k1, k2⟩ := qM_copyBest_ev ok M1 hb t7 x2
        obtain ⟨w, h3, e3, nx⟩ := qM_nextPlaces_ev ok M2
        have f1 : ∀ s, gI h1 230 s = gI h' 230 s := fun s => congrFun ((f_qM_greatestTrain e1').2.1 230 (by decide)) s
        have f3 : ∀ s, gI h3 230 s = gI h2 230 s := fun s => congrFun ((f_qM_nextPlaces e3).2.1 230 (by decide)) s
        obtain ⟨b7, B'⟩ := yBf_step ok B pq q20 (h' := h2) (fun z s => (k1 z s).trans (f1 s)) k2
        have body : qM_laying_b40 x2 (nI b, 1, h') = some (.inl (nI (if yGs c q < b then yGs c q else b), w, h3)) := by
          unfold qM_laying_b40
          dsimp only
          rw [if_neg (show ¬ (1 : Int32) = 0 by decide), e1', Option.bind_some]
          dsimp only
          rw [e2, Option.bind_some, e3, Option.bind_some, wles (by omega) (by omega)]
        rcases nx with ⟨rfl, M3, fa⟩ | ⟨rfl, r, M3, pr, lt, su⟩
        · refine Or.inr ⟨0, _, body, by omega, Or.inr ⟨_, h3, rfl, b7, yBf_K B' (fun p p1 p2 => ⟨fun _ => trivial, fun _ => ?_⟩) (fun s _ => f3 s)⟩⟩
          exact yfall (yPm_t p1 (yPm_s pq)) p2 q20 fa
        · have pr' : yPm r (c.2.2.2 5) c.1 := yPm_t pr pq
          have mem := yPls_mem c.1 (c.2.2.2 5) r pr'
          have dec := yGt_lt lt mem
          refine Or.inr ⟨_, _, body, by omega, Or.inl ⟨_, h3, r, rfl, rfl, M3, pr', by omega, yBf_K B' (fun p p1 p2 => ⟨fun z => ?_, fun z => ?_⟩) (fun s _ => f3 s)⟩⟩
          · exact Nat.lt_of_le_of_lt z lt
          · apply Nat.le_of_not_lt
            intro zz
            have := su p (yPm_t p1 (yPm_s pq)) p2 zz
            have z' : yCo p c.1 < yCo r c.1 := z
            omega
      · left
        unfold qM_laying_b40
        dsimp only
        rw [if_pos rfl]
        exact ⟨_, rfl, b, h', rfl, b7, B⟩
    · have no : ∀ p, yPm p (c.2.2.2 5) c.1 → (∀ s, s < c.1 → p s ≤ 20) → ¬ yCo p c.1 < yCo pl c.1 := fun p p1 p2 z => by
        have := yrise (i := 0) (yPm_t p1 (yPm_s pm)) p2 (fun s hs => (M.2.2.2 s hs).2.2) (fun s hs => absurd hs (Nat.not_lt_zero _)) (fun s t _ h2 h3 => rise s t h2 h3)
        omega
      exact ⟨fun p p1 p2 p3 => absurd p3 (no p p1 p2), Or.inl ⟨rfl, no⟩⟩
  obtain ⟨t, e, b, h', rfl, b7, B1, B2⟩ := key
  rcases B2 with ⟨z, -⟩ | ⟨r, r1, r2, r3, -, r5, r6, r7⟩
  · omega
  · exact ⟨b, h', r, e, b7, ⟨r2, r3, r5, fun p p1 p2 => ⟨B1 p p1 p2 trivial, r7 p p1 p2⟩⟩, r6⟩
end ALLR
