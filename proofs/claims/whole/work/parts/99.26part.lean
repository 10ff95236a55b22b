/-! LAYING: a part of the sayings is laid -/
section PART
variable {h : zK} {c : wC} {pl : Nat → Nat} {m : Nat}
def yNp (c : wC) (pl : Nat → Nat) (m t : Nat) : Nat := if t < m then yNe c.2.2.1 pl m t else 0
def yPt (h : zK) (c : wC) (pl : Nat → Nat) (m : Nat) : Prop := gI h 186 0 = nI c.1 ∧ gI h 186 2 = nI c.2.2.1 ∧ (∀ t, t < c.1 → gI h 187 t = nI (yNd c t)) ∧ (∀ t, t < c.1 → gI h 188 t = nI (yNp c pl m t)) ∧ ∀ t, t < m → gI h 189 t = nI (pl t) ∧ pl t ≤ 20
theorem yNp_128 (hm : m ≤ 7) (t : Nat) : yNp c pl m t < 128 := by
  unfold yNp
  split
  · exact yNe_lt _ _ _ hm
  · omega
theorem yNp_cong {q : Nat → Nat} (e : ∀ s, s < m → pl s = q s) (t : Nat) : yNp c pl m t = yNp c q m t := by
  unfold yNp
  split
  · rename_i ht; exact yNe_cong e (e t ht)
  · rfl
theorem yPt_cong {q : Nat → Nat} (P : yPt h c pl m) (e : ∀ s, s < m → pl s = q s) : yPt h c q m := by
  obtain ⟨p1, p2, p3, p4, p5⟩ := P
  refine ⟨p1, p2, p3, fun t ht => by rw [p4 t ht, yNp_cong e], fun t ht => by rw [← e t ht]; exact p5 t ht⟩
theorem yPt_g {h' : zK} (P : yPt h c pl m) (e : ∀ a j, 186 ≤ a → a ≤ 189 → gI h' a j = gI h a j) : yPt h' c pl m := by
  obtain ⟨p1, p2, p3, p4, p5⟩ := P
  exact ⟨(e _ _ (by omega) (by omega)).trans p1, (e _ _ (by omega) (by omega)).trans p2, fun t ht => (e _ _ (by omega) (by omega)).trans (p3 t ht), fun t ht => (e _ _ (by omega) (by omega)).trans (p4 t ht), fun t ht => ⟨(e _ _ (by omega) (by omega)).trans (p5 t ht).1, (p5 t ht).2⟩⟩
theorem yNd_7 (c : wC) (t : Nat) : yNd c t ≤ 7 := by
  unfold yNd
  split
  · omega
  · split
    · omega
    · split <;> omega
theorem yPt_T (ok : wCok c) (hm : m ≤ c.1) (P : yPt h c pl m) : yT h 186 c.1 (yNd c) (yNp c pl m) := ⟨ok.1, P.1, fun t ht => ⟨P.2.2.1 t ht, P.2.2.2.1 t ht, yNd_7 c t, yNp_128 (by have := ok.1; omega) t⟩⟩
theorem yPt_le (ok : wCok c) (hm : m ≤ c.1) {p : Nat → Nat} (e : ∀ s, s < m → pl s = p s) : yGr (yNd c) (yNp c pl m) c.1 ≤ yGs c p := by
  refine yGr_up ok.1 fun t ht j hj => ?_
  unfold yNp at hj
  by_cases tm : t < m
  · rw [if_pos tm, yNe_t, Bool.and_eq_true] at hj
    rw [yNe_t, Bool.and_eq_true]
    have jm := of_decide_eq_true hj.1
    refine ⟨decide_eq_true (by omega), ?_⟩
    have := hj.2
    unfold yNr at *
    rw [← e j jm, ← e t tm]
    exact this
  · rw [if_neg tm, Nat.zero_testBit] at hj
    cases hj
theorem yPt_all (ok : wCok c) : yGr (yNd c) (yNp c pl c.1) c.1 = yGs c pl := by
  unfold yGs yGr
  refine yMx_cong _ fun s hs => ?_
  rw [yCl_cong (nd := yNd c) (ne := yNp c pl c.1) (nd' := yNd c) (ne' := yNe c.2.2.1 pl c.1) ok.1 hs (fun t ht => ⟨rfl, if_pos ht⟩)]
theorem yPt_lay (ok : wCok c) (hm : m < c.1) (P : yPt h c pl m) {v : Nat} (hv : v ≤ 20) : ∃ h', qTr_lay 186 (nI m) (nI v) h = some h' ∧ yPt h' c (fun t => if t = m then v else pl t) (m + 1) ∧ ∀ a j, a ≠ 188 → a ≠ 189 → a ≠ 182 → a ≠ 183 → gI h' a j = gI h a j := by
  have n7 := ok.1
  obtain ⟨p1, p2, p3, p4, p5⟩ := P
  have L : yL h 186 c.2.2.1 (fun t => if t = m then v else pl t) m := by
    refine ⟨p2, fun t ht => ⟨?_, ?_⟩⟩
    · show gI h 189 t = nI (if t = m then v else pl t)
      rw [(p5 t ht).1, if_neg (by omega)]
    · rw [p4 t (by omega)]
      unfold yNp
      rw [if_pos ht, yNe_cong (q := fun t => if t = m then v else pl t) (fun s hs => (if_neg (by omega)).symm) (if_neg (by omega)).symm]
  obtain ⟨h', e1, e2, e3⟩ := qTr_lay_ev (m := m) (pl := fun t => if t = m then v else pl t) (by omega) ok.2.2.1 (fun t ht => by
    show (if t = m then v else pl t) ≤ 20
    by_cases e : t = m
    · rw [if_pos e]; exact hv
    · rw [if_neg e]; exact (p5 t (by omega)).2) L
  have e1' : qTr_lay 186 (nI m) (nI v) h = some h' := by
    have : (fun t => if t = m then v else pl t) m = v := if_pos rfl
    rw [← this]; exact e1
  have fr := f_qTr_lay (Or.inr rfl) e1'
  have fr' : ∀ a j, a ≠ 188 → a ≠ 189 → a ≠ 182 → a ≠ 183 → gI h' a j = gI h a j := fun a j q1 q2 q3 q4 => congrFun (fr.2.1 a (by
    intro hh
    simp only [List.mem_cons, List.not_mem_nil, or_false] at hh
    omega)) j
  refine ⟨h', e1', ⟨(fr' 186 0 (by decide) (by decide) (by decide) (by decide)).trans p1, e2.1, fun t ht => (fr' 187 t (by decide) (by decide) (by decide) (by decide)).trans (p3 t ht), fun t ht => ?_, fun t ht => ⟨(e2.2 t ht).1, ?_⟩⟩, fr'⟩
  · unfold yNp
    by_cases tm : t < m + 1
    · rw [if_pos tm]; exact (e2.2 t tm).2
    · rw [if_neg tm]
      have := (e3 t (by omega)).2
      rw [show 186 + 2 = 188 from rfl] at this
      rw [this, p4 t ht]
      unfold yNp
      rw [if_neg (by omega)]
  · show (if t = m then v else pl t) ≤ 20
    by_cases e : t = m
    · rw [if_pos e]; exact hv
    · rw [if_neg e]; exact (p5 t (by omega)).2
end PART
