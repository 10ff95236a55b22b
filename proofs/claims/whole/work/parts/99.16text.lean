/-! TEXT -/
section TEXT
variable {h : zK}
theorem qM_readText_fr {so ok : Int32} {x x' : zK} (H : qM_readText so x = some (ok, x')) : ∀ a j, (a = 218 ∨ a = 219) → 1 ≤ j → gI x' a j = gI x a j := by
  unfold qM_readText at H
  rw [Option.bind_eq_some_iff] at H
  obtain ⟨t4, e4, H⟩ := H
  simp only [zlet] at H
  rw [Option.bind_eq_some_iff] at H
  obtain ⟨p15, e15, H⟩ := H
  rw [Option.bind_eq_some_iff] at H
  obtain ⟨p16, e16, H⟩ := H
  rw [Option.bind_eq_some_iff] at H
  obtain ⟨v18, e18, H⟩ := H
  intro a j ha hj
  obtain ⟨r, r0, rj, r1, r2⟩ := qM_clear_ev x so
  have z4 : t4 = r := Option.some.inj (e4.symm.trans r0)
  have z15 := f_qM_token e15
  have z16 := f_qM_allLines e16
  have z18 : ∀ j, gI v18 a j = gI p16.2 a j := by
    intro j
    split at e18
    · cases e18; rfl
    · split at e18
      · cases e18; rfl
      · split at e18
        · cases e18; rfl
        · split at e18
          · cases e18; rfl
          · rw [Option.bind_eq_some_iff] at e18
            obtain ⟨q, e, e18⟩ := e18
            cases e18
            have := f_qM_addsFault e
            exact congrFun (this.2.1 a (by rcases ha with rfl | rfl <;> decide)) j
  have fin' : ∀ (w z : Int32), (if ¬ gI (sI (sI v18 218 0 w) 219 0 z) 218 0 = 0 then some ((0 : Int32), sI (sI v18 218 0 w) 219 0 z) else some (1, sI (sI v18 218 0 w) 219 0 z)) = some (ok, x') → gI x' a j = gI v18 a j := by
    intro w z H
    by_cases hz : gI (sI (sI v18 218 0 w) 219 0 z) 218 0 = 0
    · rw [if_neg (fun q => q hz)] at H
      cases H
      rw [gI_sI, if_neg (by omega), gI_sI, if_neg (by omega)]
    · rw [if_pos hz] at H
      cases H
      rw [gI_sI, if_neg (by omega), gI_sI, if_neg (by omega)]
  have fin : gI x' a j = gI v18 a j := fin' _ _ H
  rw [fin, z18 j]
  have n1 : a ∉ [215, 224, 225] := by rcases ha with rfl | rfl <;> decide
  have n2 : a ∉ [215] := by rcases ha with rfl | rfl <;> decide
  have n3 : a ∉ [224] := by rcases ha with rfl | rfl <;> decide
  have q16 : gI p16.2 a j = gI p15 a j := congrFun (z16.2.1 a n1) j
  rw [q16]
  have a215 : a ≠ 215 := by omega
  have a224 : a ≠ 224 := by omega
  have q15 := congrFun (f_qM_token e15 |>.2.1 a (by rcases ha with rfl | rfl <;> decide)) j
  have q15' : gI p15 a j = gI t4 a j := by
    refine Eq.trans q15 ?_
    show gI (sI _ _ _ _) a j = _
    rw [gI_ne a215, gI_ne a215, gI_ne a215, gI_ne a224, gI_ne a224]
  rw [q15']
  rw [z4]
  exact r1 a j a224
def yH3 (h : zK) : zK := sI (sI (sI h 1 1 0) 1 2 0) 1 3 (-1)
def yH5 (y : zK) : zK := sI (sI (sI (sI (sI y 215 0 0) 215 10 (gI y 217 0)) 217 0 0) 218 0 0) 219 0 (-1)
theorem yH3_o {a j : Nat} (ha : a ≠ 1) : gI (yH3 h) a j = gI h a j := (gI_ne ha).trans ((gI_ne ha).trans (gI_ne ha))
theorem yH3_1 {j : Nat} : gI (yH3 h) 1 1 = 0 ∧ gI (yH3 h) 1 2 = 0 ∧ gI (yH3 h) 1 3 = -1 := ⟨(gI_nk (by decide)).trans ((gI_nk (by decide)).trans gI_eq), (gI_nk (by decide)).trans gI_eq, gI_eq⟩
theorem yH5_o {y : zK} {a j : Nat} (h1 : a ≠ 215) (h2 : a < 217 ∨ 219 < a ∨ j ≠ 0) : gI (yH5 y) a j = gI y a j := by
  unfold yH5
  rw [gI_sI, if_neg (by omega), gI_sI, if_neg (by omega), gI_sI, if_neg (by omega), gI_ne h1, gI_ne h1]
theorem yH5_v {y : zK} : gI (yH5 y) 217 0 = 0 ∧ gI (yH5 y) 218 0 = 0 ∧ gI (yH5 y) 219 0 = -1 ∧ gI (yH5 y) 215 10 = gI y 217 0 := by
  unfold yH5
  refine ⟨?_, ?_, gI_eq, ?_⟩
  · rw [gI_ne (by decide), gI_ne (by decide), gI_eq]
  · rw [gI_ne (by decide), gI_eq]
  · rw [gI_ne (by decide), gI_ne (by decide), gI_ne (by decide), gI_eq]
/-- what the call says of its caches -/
def yCc (h h2 : zK) : Prop := (gI h2 184 8 = -1 ∧ gI h2 213 0 = 0 ∧ gI h2 213 1 = 0) ∨ ∀ b j, (7 ≤ b ∧ b ≤ 14) ∨ (22 ≤ b ∧ b ≤ 29) ∨ (166 ≤ b ∧ b < 215) → gI h2 b j = gI h b j
/-- nothing is told: tape and fault alone -/
theorem ytext_o {h2 : zK} (H : InvB h) (e1 : gI h2 1 1 = 0) (e2 : gI h2 217 0 = 0) (f1 : gI h2 1 2 = gI h2 218 0) (f2 : gI h2 1 3 = gI h2 219 0) (fr : ∀ a j, a ≠ 1 → ¬ (147 ≤ a ∧ a ≤ 165) → a ≠ 215 → (a < 217 ∨ 219 < a ∨ j ≠ 0) → a ≠ 224 → a ≠ 225 → gI h2 a j = gI h a j) : InvB h2 ∧ yCc h h2 := by
  obtain ⟨m, m1, m2, m3, m4⟩ := H.1.2.2
  refine ⟨InvB_tx H e1 e2 f1 f2 (wTx_mk (h := h) (m := m) (m' := m) ⟨m2, m3, m4⟩ (fun r hr => ⟨(m1 r hr).1, ?_, ?_⟩) (fun k hk => ?_) (fun k hk => ?_) (fun k hk => ?_)) (fun a j h1 h2 => fr a j (by omega) (by omega) (by omega) (by omega) (by omega) (by omega)) (fun j => fr 236 j (by omega) (by omega) (by omega) (by omega) (by omega) (by omega)) (fun j => fr 216 j (by omega) (by omega) (by omega) (by omega) (by omega) (by omega)) (fun a j h1 h2 h3 => fr a j (by omega) (by omega) (by omega) (by omega) (by omega) (by omega)) (fun j h3 => fr 220 j (by omega) (by omega) (by omega) (by omega) (by omega) (by omega)) (fun j h3 => fr 221 j (by omega) (by omega) (by omega) (by omega) (by omega) (by omega)) (fun j h3 => fr 222 j (by omega) (by omega) (by omega) (by omega) (by omega) (by omega)) (fun j h3 => fr 223 j (by omega) (by omega) (by omega) (by omega) (by omega) (by omega)), Or.inr fun b j hb => fr b j (by omega) (by omega) (by omega) (by omega) (by omega) (by omega)⟩
  · rw [fr 3 r (by omega) (by omega) (by omega) (by omega) (by omega) (by omega)]; exact (m1 r hr).2.1
  · rw [fr 220 r (by omega) (by omega) (by omega) (by omega) (by omega) (by omega)]
    have := (m1 r hr).2.2
    rw [show 3 * 0 + r = r by omega] at this
    exact this
  · have := (m1 0 (by omega)).1
    exact Or.inl ⟨hk, fun a j h1 h2 => fr a j (by omega) (by omega) (by omega) (by omega) (by omega) (by omega), fun j _ => fr 221 _ (by omega) (by omega) (by omega) (by omega) (by omega) (by omega)⟩
  · have := (m1 1 (by omega)).1
    exact Or.inl ⟨hk, fun a j h1 h2 => fr a j (by omega) (by omega) (by omega) (by omega) (by omega) (by omega), fun j _ => fr 222 _ (by omega) (by omega) (by omega) (by omega) (by omega) (by omega)⟩
  · have := (m1 2 (by omega)).1
    exact Or.inl ⟨hk, fun a j h1 h2 => fr a j (by omega) (by omega) (by omega) (by omega) (by omega) (by omega), fun j _ => fr 223 _ (by omega) (by omega) (by omega) (by omega) (by omega) (by omega)⟩
theorem ytext_no (H : InvB h) : InvB (yH5 (yH3 h)) ∧ yCc h (yH5 (yH3 h)) := by
  obtain ⟨v1, v2, v3, v4⟩ := yH5_v (y := yH3 h)
  obtain ⟨w1, w2, w3⟩ := yH3_1 (h := h) (j := 0)
  have o1 : ∀ j, gI (yH5 (yH3 h)) 1 j = gI (yH3 h) 1 j := fun j => yH5_o (by decide) (by omega)
  refine ytext_o H ?_ v1 ?_ ?_ (fun a j h1 h2 h3 h4 h5 h6 => (yH5_o h3 h4).trans (yH3_o h1))
  · rw [o1, w1]
  · rw [o1, w2, v2]
  · rw [o1, w3, v3]
end TEXT
