set_option maxRecDepth 100000 in
theorem zR0_in : (List.range 237).all (fun a => (zR0l.getD a []).length ≤ 50) = true := by decide +kernel
theorem zR0_lt {a k b : Nat} (h : zR0 a k = some b) : a < 237 ∧ k < 50 := by
  unfold zR0 at h
  split at h
  · rename_i r hr
    have ha : a < zR0l.length := (List.getElem?_eq_some_iff.mp hr).1
    have ha2 : a < 237 := ha
    refine ⟨ha2, ?_⟩
    split at h
    · rename_i v hv
      have hk := (List.getElem?_eq_some_iff.mp hv).1
      have := List.all_eq_true.mp zR0_in a (by simpa using ha2)
      have e : zR0l.getD a [] = r := by rw [List.getD_eq_getElem?_getD, hr]; rfl
      rw [e] at this
      have := of_decide_eq_true this
      omega
    · cases h
  · cases h
theorem zsc_R : zRok zsc.2.1 := by
  intro a k b h
  obtain ⟨h1, h2⟩ := zR0_lt h
  rw [zsc_R0 a h1 k h2 (by rw [h]; exact fun z => by cases z), h]
theorem zf1_gen (o : Option zF) (h : zfok o = true) : o = some (18, [some (.ref zro), some (.ref 0), some (.ref 215), some (.int 0)], [], zheap o) := by
  cases o with
  | none => cases h
  | some f =>
    obtain ⟨pc, L, st, hh⟩ := f
    simp only [zfok, Bool.and_eq_true, decide_eq_true_eq] at h
    obtain ⟨⟨rfl, rfl⟩, rfl⟩ := h
    rfl
theorem zsc_eta : zsc = (zS0, zsc.2.1, zsc.2.2.1, zsc.2.2.2) := by
  have h := zsc_S
  generalize zsc = z at h ⊢
  obtain ⟨a, b, c, d⟩ := z
  dsimp only at h
  rw [h]
theorem zf1_eq : zf1 = some (18, [some (.ref zro), some (.ref 0), some (.ref 215), some (.int 0)], [], (zS0, zsc.2.1, zsc.2.2.1, zsc.2.2.2)) := by
  have h := zf1_gen zf1 zsc_ok
  rw [← zsc_eta]
  exact h
/-- from the law's entry to its loop -/
theorem zlaw_head {X : zX} {r : zA} (k : zEv X 10 zm_286 (18, [some (.ref zro), some (.ref 0), some (.ref 215), some (.int 0)], [], (zS0, zsc.2.1, zsc.2.2.1, zsc.2.2.2)) r) : zEv X 10 zm_286 (0, [some (.ref zro), none, none, none], [], zh0) r :=
  zEv_p (X := fun _ => none) (X' := X) (fun _ _ h => by cases h) 10 zf1_eq k
set_option maxRecDepth 100000 in
theorem zsc_I : (decide (zsc.2.2.1 1 0 = zI0 1 0)) = true := by decide +kernel
