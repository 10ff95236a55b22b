/-! ONE STATEMENT AN OPERATION, and the claim out of the thirty -/
theorem zlg_self (w : Int64) : lg_cmp w w = 0 := by
  unfold lg_cmp
  simp
theorem zb01 (x : Int32) : (if x = 0 then (0 : Int32) else 1) = 0 ∨ (if x = 0 then (0 : Int32) else 1) = 1 := by
  split
  · exact Or.inl rfl
  · exact Or.inr rfl
def zo_feed (Inv : zK → Prop) : Prop := ∀ (a0 a1 a2 a3 a4 : Int32) (h : zK), Inv h → ∃ (w : Int32) (h1 h2 : zK), qC_feed a0 a1 a2 a3 a4 h = some (w, h1) ∧ qM_feed a0 a1 a2 a3 a4 h1 = some (w, h2) ∧ Inv h2
theorem zl_feed {Inv : zK → Prop} (o : zo_feed Inv) {Ls k : Nat} {xs : Nat → Int32} {h : zK} (i1 : zix (nI k + 1) Ls = some (k + 1)) (i2 : zix (nI k + 2) Ls = some (k + 2)) (i3 : zix (nI k + 3) Ls = some (k + 3)) (i4 : zix (nI k + 4) Ls = some (k + 4)) (i5 : zix (nI k + 5) Ls = some (k + 5)) (hi : Inv h) : ∃ h2, qL_law_j168 Ls xs (nI k) h = some (.inl (nI k + 6, h2)) ∧ Inv h2 := by
  obtain ⟨w, h1, h2, e1, e2, e3⟩ := o (xs (k + 1)) (xs (k + 2)) (xs (k + 3)) (xs (k + 4)) (xs (k + 5)) h  hi
  refine ⟨h2, ?_, e3⟩
  simp only [qL_law_j168, i1, i2, i3, i4, i5, Option.bind_some, zlet, e1, e2, ↓reduceIte]
def zo_end (Inv : zK → Prop) : Prop := ∀ (a0 : Int32) (h : zK), Inv h → ∃ (w : Int32) (h1 h2 : zK), qC_end a0 h = some (w, h1) ∧ qM_end a0 h1 = some (w, h2) ∧ Inv h2
theorem zl_end {Inv : zK → Prop} (o : zo_end Inv) {Ls k : Nat} {xs : Nat → Int32} {h : zK} (i1 : zix (nI k + 1) Ls = some (k + 1)) (i2 : zix (nI k + 2) Ls = some (k + 2)) (i3 : zix (nI k + 3) Ls = some (k + 3)) (i4 : zix (nI k + 4) Ls = some (k + 4)) (i5 : zix (nI k + 5) Ls = some (k + 5)) (hi : Inv h) : ∃ h2, qL_law_j231 Ls xs (nI k) h = some (.inl (nI k + 6, h2)) ∧ Inv h2 := by
  obtain ⟨w, h1, h2, e1, e2, e3⟩ := o (xs (k + 1)) h  hi
  refine ⟨h2, ?_, e3⟩
  simp only [qL_law_j231, i1, Option.bind_some, zlet, e1, e2, ↓reduceIte]
def zo_text (Inv : zK → Prop) : Prop := ∀ (a0 a1 : Int32) (h : zK), Inv h → ∃ (w : Int32) (h1 h2 : zK), qC_text a0 a1 h = some (w, h1) ∧ qM_text a0 a1 h1 = some (w, h2) ∧ Inv h2
theorem zl_text {Inv : zK → Prop} (o : zo_text Inv) {Ls k : Nat} {xs : Nat → Int32} {h : zK} (i1 : zix (nI k + 1) Ls = some (k + 1)) (i2 : zix (nI k + 2) Ls = some (k + 2)) (i3 : zix (nI k + 3) Ls = some (k + 3)) (i4 : zix (nI k + 4) Ls = some (k + 4)) (i5 : zix (nI k + 5) Ls = some (k + 5)) (hi : Inv h) : ∃ h2, qL_law_j254 Ls xs (nI k) h = some (.inl (nI k + 6, h2)) ∧ Inv h2 := by
  obtain ⟨w, h1, h2, e1, e2, e3⟩ := o (xs (k + 1)) (xs (k + 2)) h  hi
  refine ⟨h2, ?_, e3⟩
  simp only [qL_law_j254, i1, i2, Option.bind_some, zlet, e1, e2, ↓reduceIte]
def zo_fault (Inv : zK → Prop) : Prop := ∀ (a0 : Int32) (h : zK), Inv h → ∃ (h2 : zK), qM_fault a0 h = some (qC_fault a0 h, h2) ∧ Inv h2
theorem zl_fault {Inv : zK → Prop} (o : zo_fault Inv) {Ls k : Nat} {xs : Nat → Int32} {h : zK} (i1 : zix (nI k + 1) Ls = some (k + 1)) (i2 : zix (nI k + 2) Ls = some (k + 2)) (i3 : zix (nI k + 3) Ls = some (k + 3)) (i4 : zix (nI k + 4) Ls = some (k + 4)) (i5 : zix (nI k + 5) Ls = some (k + 5)) (hi : Inv h) : ∃ h2, qL_law_j287 Ls xs (nI k) h = some (.inl (nI k + 6, h2)) ∧ Inv h2 := by
  obtain ⟨h2, e2, e3⟩ := o (xs (k + 1)) h  hi
  refine ⟨h2, ?_, e3⟩
  simp only [qL_law_j287, i1, Option.bind_some, zlet, e2, ↓reduceIte]
def zo_cellar (Inv : zK → Prop) : Prop := ∀ (a0 a1 : Int32) (h : zK), Inv h → ∃ (w : Int32) (h2 : zK), qC_cellar a0 a1 h = some w ∧ qM_cellar a0 a1 h = some (w, h2) ∧ Inv h2
theorem zl_cellar {Inv : zK → Prop} (o : zo_cellar Inv) {Ls k : Nat} {xs : Nat → Int32} {h : zK} (i1 : zix (nI k + 1) Ls = some (k + 1)) (i2 : zix (nI k + 2) Ls = some (k + 2)) (i3 : zix (nI k + 3) Ls = some (k + 3)) (i4 : zix (nI k + 4) Ls = some (k + 4)) (i5 : zix (nI k + 5) Ls = some (k + 5)) (hi : Inv h) : ∃ h2, qL_law_j310 Ls xs (nI k) h = some (.inl (nI k + 6, h2)) ∧ Inv h2 := by
  obtain ⟨w, h2, e1, e2, e3⟩ := o (xs (k + 1)) (xs (k + 2)) h  hi
  refine ⟨h2, ?_, e3⟩
  simp only [qL_law_j310, i1, i2, Option.bind_some, zlet, e1, e2, ↓reduceIte]
def zo_deed (Inv : zK → Prop) : Prop := ∀ (a0 a1 a2 : Int32) (h : zK), Inv h → ∃ (w : Int32) (h2 : zK), qC_deed a0 a1 a2 h = some w ∧ qM_deed a0 a1 a2 h = some (w, h2) ∧ Inv h2
theorem zl_deed {Inv : zK → Prop} (o : zo_deed Inv) {Ls k : Nat} {xs : Nat → Int32} {h : zK} (i1 : zix (nI k + 1) Ls = some (k + 1)) (i2 : zix (nI k + 2) Ls = some (k + 2)) (i3 : zix (nI k + 3) Ls = some (k + 3)) (i4 : zix (nI k + 4) Ls = some (k + 4)) (i5 : zix (nI k + 5) Ls = some (k + 5)) (hi : Inv h) : ∃ h2, qL_law_j343 Ls xs (nI k) h = some (.inl (nI k + 6, h2)) ∧ Inv h2 := by
  obtain ⟨w, h2, e1, e2, e3⟩ := o (xs (k + 1)) (xs (k + 2)) (xs (k + 3)) h  hi
  refine ⟨h2, ?_, e3⟩
  simp only [qL_law_j343, i1, i2, i3, Option.bind_some, zlet, e1, e2, ↓reduceIte]
def zo_till (Inv : zK → Prop) : Prop := ∀ (a0 a1 : Int32) (h : zK), Inv h → ∃ (w : Int32) (h1 h2 : zK), qC_till a0 a1 h = some (w, h1) ∧ qM_till a0 a1 h1 = some (w, h2) ∧ Inv h2
theorem zl_till {Inv : zK → Prop} (o : zo_till Inv) {Ls k : Nat} {xs : Nat → Int32} {h : zK} (i1 : zix (nI k + 1) Ls = some (k + 1)) (i2 : zix (nI k + 2) Ls = some (k + 2)) (i3 : zix (nI k + 3) Ls = some (k + 3)) (i4 : zix (nI k + 4) Ls = some (k + 4)) (i5 : zix (nI k + 5) Ls = some (k + 5)) (hi : Inv h) : ∃ h2, qL_law_j386 Ls xs (nI k) h = some (.inl (nI k + 6, h2)) ∧ Inv h2 := by
  obtain ⟨w, h1, h2, e1, e2, e3⟩ := o (xs (k + 1)) (xs (k + 2)) h  hi
  refine ⟨h2, ?_, e3⟩
  simp only [qL_law_j386, i1, i2, Option.bind_some, zlet, e1, e2, ↓reduceIte]
def zo_state (Inv : zK → Prop) : Prop := ∀ (a0 a1 a2 a3 : Int32) (h : zK), Inv h → ∃ (w : Int32) (h1 h2 : zK), qC_state a0 a1 a2 a3 h = some (w, h1) ∧ qM_state a0 a1 a2 a3 h1 = some (w, h2) ∧ Inv h2
theorem zl_state {Inv : zK → Prop} (o : zo_state Inv) {Ls k : Nat} {xs : Nat → Int32} {h : zK} (i1 : zix (nI k + 1) Ls = some (k + 1)) (i2 : zix (nI k + 2) Ls = some (k + 2)) (i3 : zix (nI k + 3) Ls = some (k + 3)) (i4 : zix (nI k + 4) Ls = some (k + 4)) (i5 : zix (nI k + 5) Ls = some (k + 5)) (hi : Inv h) : ∃ h2, qL_law_j419 Ls xs (nI k) h = some (.inl (nI k + 6, h2)) ∧ Inv h2 := by
  obtain ⟨w, h1, h2, e1, e2, e3⟩ := o (xs (k + 1)) (xs (k + 2)) (xs (k + 3)) (xs (k + 4)) h  hi
  refine ⟨h2, ?_, e3⟩
  simp only [qL_law_j419, i1, i2, i3, i4, Option.bind_some, zlet, e1, e2, ↓reduceIte]
def zo_train (Inv : zK → Prop) : Prop := ∀ (a0 a1 : Int32) (h : zK), Inv h → ∃ (w : Int32) (h1 h2 : zK), qC_train a0 a1 h = some (w, h1) ∧ qM_train a0 a1 h1 = some (w, h2) ∧ Inv h2
theorem zl_train {Inv : zK → Prop} (o : zo_train Inv) {Ls k : Nat} {xs : Nat → Int32} {h : zK} (i1 : zix (nI k + 1) Ls = some (k + 1)) (i2 : zix (nI k + 2) Ls = some (k + 2)) (i3 : zix (nI k + 3) Ls = some (k + 3)) (i4 : zix (nI k + 4) Ls = some (k + 4)) (i5 : zix (nI k + 5) Ls = some (k + 5)) (hi : Inv h) : ∃ h2, qL_law_j472 Ls xs (nI k) h = some (.inl (nI k + 6, h2)) ∧ Inv h2 := by
  obtain ⟨w, h1, h2, e1, e2, e3⟩ := o (xs (k + 1)) (xs (k + 2)) h  hi
  refine ⟨h2, ?_, e3⟩
  simp only [qL_law_j472, i1, i2, Option.bind_some, zlet, e1, e2, ↓reduceIte]
def zo_laying (Inv : zK → Prop) : Prop := ∀ (a0 a1 : Int32) (h : zK), Inv h → ∃ (w : Int32) (h1 h2 : zK), qC_laying a0 a1 h = some (w, h1) ∧ qM_laying a0 a1 h1 = some (w, h2) ∧ Inv h2
theorem zl_laying {Inv : zK → Prop} (o : zo_laying Inv) {Ls k : Nat} {xs : Nat → Int32} {h : zK} (i1 : zix (nI k + 1) Ls = some (k + 1)) (i2 : zix (nI k + 2) Ls = some (k + 2)) (i3 : zix (nI k + 3) Ls = some (k + 3)) (i4 : zix (nI k + 4) Ls = some (k + 4)) (i5 : zix (nI k + 5) Ls = some (k + 5)) (hi : Inv h) : ∃ h2, qL_law_j505 Ls xs (nI k) h = some (.inl (nI k + 6, h2)) ∧ Inv h2 := by
  obtain ⟨w, h1, h2, e1, e2, e3⟩ := o (xs (k + 1)) (xs (k + 2)) h  hi
  refine ⟨h2, ?_, e3⟩
  simp only [qL_law_j505, i1, i2, Option.bind_some, zlet, e1, e2, ↓reduceIte]
def zo_life (Inv : zK → Prop) : Prop := ∀ (a0 a1 : Int32) (h : zK), Inv h → ∃ (w : Int32) (h2 : zK), qC_life a0 a1 h = some w ∧ qM_life a0 a1 h = some (w, h2) ∧ Inv h2
theorem zl_life {Inv : zK → Prop} (o : zo_life Inv) {Ls k : Nat} {xs : Nat → Int32} {h : zK} (i1 : zix (nI k + 1) Ls = some (k + 1)) (i2 : zix (nI k + 2) Ls = some (k + 2)) (i3 : zix (nI k + 3) Ls = some (k + 3)) (i4 : zix (nI k + 4) Ls = some (k + 4)) (i5 : zix (nI k + 5) Ls = some (k + 5)) (hi : Inv h) : ∃ h2, qL_law_j538 Ls xs (nI k) h = some (.inl (nI k + 6, h2)) ∧ Inv h2 := by
  obtain ⟨w, h2, e1, e2, e3⟩ := o (xs (k + 1)) (xs (k + 2)) h  hi
  refine ⟨h2, ?_, e3⟩
  simp only [qL_law_j538, i1, i2, Option.bind_some, zlet, e1, e2, ↓reduceIte]
def zo_plan (Inv : zK → Prop) : Prop := ∀ (a0 a1 a2 : Int32) (h : zK), Inv h → ∃ (w : Int32) (h1 h2 : zK), qC_plan a0 a1 a2 h = some (w, h1) ∧ qM_plan a0 a1 a2 h1 = some (w, h2) ∧ Inv h2
theorem zl_plan {Inv : zK → Prop} (o : zo_plan Inv) {Ls k : Nat} {xs : Nat → Int32} {h : zK} (i1 : zix (nI k + 1) Ls = some (k + 1)) (i2 : zix (nI k + 2) Ls = some (k + 2)) (i3 : zix (nI k + 3) Ls = some (k + 3)) (i4 : zix (nI k + 4) Ls = some (k + 4)) (i5 : zix (nI k + 5) Ls = some (k + 5)) (hi : Inv h) : ∃ h2, qL_law_j571 Ls xs (nI k) h = some (.inl (nI k + 6, h2)) ∧ Inv h2 := by
  obtain ⟨w, h1, h2, e1, e2, e3⟩ := o (xs (k + 1)) (xs (k + 2)) (xs (k + 3)) h  hi
  refine ⟨h2, ?_, e3⟩
  simp only [qL_law_j571, i1, i2, i3, Option.bind_some, zlet, e1, e2, ↓reduceIte]
def zo_talk (Inv : zK → Prop) : Prop := ∀ (a0 a1 : Int32) (h : zK), Inv h → ∃ (w : Int32) (h1 h2 : zK), qC_talk a0 a1 h = some (w, h1) ∧ qM_talk a0 a1 h1 = some (w, h2) ∧ Inv h2
theorem zl_talk {Inv : zK → Prop} (o : zo_talk Inv) {Ls k : Nat} {xs : Nat → Int32} {h : zK} (i1 : zix (nI k + 1) Ls = some (k + 1)) (i2 : zix (nI k + 2) Ls = some (k + 2)) (i3 : zix (nI k + 3) Ls = some (k + 3)) (i4 : zix (nI k + 4) Ls = some (k + 4)) (i5 : zix (nI k + 5) Ls = some (k + 5)) (hi : Inv h) : ∃ h2, qL_law_j614 Ls xs (nI k) h = some (.inl (nI k + 6, h2)) ∧ Inv h2 := by
  obtain ⟨w, h1, h2, e1, e2, e3⟩ := o (xs (k + 1)) (xs (k + 2)) h  hi
  refine ⟨h2, ?_, e3⟩
  simp only [qL_law_j614, i1, i2, Option.bind_some, zlet, e1, e2, ↓reduceIte]
def zo_dinner (Inv : zK → Prop) : Prop := ∀ (a0 a1 : Int32) (h : zK), Inv h → ∃ (w : Int32) (h1 h2 : zK), qC_dinner a0 a1 h = some (w, h1) ∧ qM_dinner a0 a1 h1 = some (w, h2) ∧ Inv h2
theorem zl_dinner {Inv : zK → Prop} (o : zo_dinner Inv) {Ls k : Nat} {xs : Nat → Int32} {h : zK} (i1 : zix (nI k + 1) Ls = some (k + 1)) (i2 : zix (nI k + 2) Ls = some (k + 2)) (i3 : zix (nI k + 3) Ls = some (k + 3)) (i4 : zix (nI k + 4) Ls = some (k + 4)) (i5 : zix (nI k + 5) Ls = some (k + 5)) (hi : Inv h) : ∃ h2, qL_law_j647 Ls xs (nI k) h = some (.inl (nI k + 6, h2)) ∧ Inv h2 := by
  obtain ⟨w, h1, h2, e1, e2, e3⟩ := o (xs (k + 1)) (xs (k + 2)) h  hi
  refine ⟨h2, ?_, e3⟩
  simp only [qL_law_j647, i1, i2, Option.bind_some, zlet, e1, e2, ↓reduceIte]
def zo_wires (Inv : zK → Prop) : Prop := ∀ (a0 a1 a2 : Int32) (h : zK), (a2 = 0 ∨ a2 = 1) → Inv h → ∃ (w : Int32) (h2 : zK), qC_wires a0 a1 a2 h = some w ∧ qM_wires a0 a1 a2 h = some (w, h2) ∧ Inv h2
theorem zl_wires {Inv : zK → Prop} (o : zo_wires Inv) {Ls k : Nat} {xs : Nat → Int32} {h : zK} (i1 : zix (nI k + 1) Ls = some (k + 1)) (i2 : zix (nI k + 2) Ls = some (k + 2)) (i3 : zix (nI k + 3) Ls = some (k + 3)) (i4 : zix (nI k + 4) Ls = some (k + 4)) (i5 : zix (nI k + 5) Ls = some (k + 5)) (hi : Inv h) : ∃ h2, qL_law_j680 Ls xs (nI k) h = some (.inl (nI k + 6, h2)) ∧ Inv h2 := by
  obtain ⟨w, h2, e1, e2, e3⟩ := o (xs (k + 1)) (xs (k + 2)) (if xs (k + 3) = 0 then 0 else 1) h (zb01 _) hi
  refine ⟨h2, ?_, e3⟩
  simp only [qL_law_j680, i1, i2, i3, Option.bind_some, zlet, e1, e2, ↓reduceIte]
def zo_duel (Inv : zK → Prop) : Prop := ∀ (a0 a1 a2 : Int32) (h : zK), (a2 = 0 ∨ a2 = 1) → Inv h → ∃ (w : Int32) (h1 h2 : zK), qC_duel a0 a1 a2 h = some (w, h1) ∧ qM_duel a0 a1 a2 h1 = some (w, h2) ∧ Inv h2
theorem zl_duel {Inv : zK → Prop} (o : zo_duel Inv) {Ls k : Nat} {xs : Nat → Int32} {h : zK} (i1 : zix (nI k + 1) Ls = some (k + 1)) (i2 : zix (nI k + 2) Ls = some (k + 2)) (i3 : zix (nI k + 3) Ls = some (k + 3)) (i4 : zix (nI k + 4) Ls = some (k + 4)) (i5 : zix (nI k + 5) Ls = some (k + 5)) (hi : Inv h) : ∃ h2, qL_law_j739 Ls xs (nI k) h = some (.inl (nI k + 6, h2)) ∧ Inv h2 := by
  obtain ⟨w, h1, h2, e1, e2, e3⟩ := o (xs (k + 1)) (xs (k + 2)) (if xs (k + 3) = 0 then 0 else 1) h (zb01 _) hi
  refine ⟨h2, ?_, e3⟩
  simp only [qL_law_j739, i1, i2, i3, Option.bind_some, zlet, e1, e2, ↓reduceIte]
def zo_hold (Inv : zK → Prop) : Prop := ∀ (a0 a1 a2 a3 a4 : Int32) (h : zK), (a4 = 0 ∨ a4 = 1) → Inv h → ∃ (w : Int64) (h2 : zK), qC_hold a0 a1 a2 a3 a4 h = some w ∧ qM_hold a0 a1 a2 a3 a4 h = some (w, h2) ∧ Inv h2
theorem zl_hold {Inv : zK → Prop} (o : zo_hold Inv) {Ls k : Nat} {xs : Nat → Int32} {h : zK} (i1 : zix (nI k + 1) Ls = some (k + 1)) (i2 : zix (nI k + 2) Ls = some (k + 2)) (i3 : zix (nI k + 3) Ls = some (k + 3)) (i4 : zix (nI k + 4) Ls = some (k + 4)) (i5 : zix (nI k + 5) Ls = some (k + 5)) (hi : Inv h) : ∃ h2, qL_law_j798 Ls xs (nI k) h = some (.inl (nI k + 6, h2)) ∧ Inv h2 := by
  obtain ⟨w, h2, e1, e2, e3⟩ := o (xs (k + 1)) (xs (k + 2)) (xs (k + 3)) (xs (k + 4)) (if xs (k + 5) = 0 then 0 else 1) h (zb01 _) hi
  refine ⟨h2, ?_, e3⟩
  simp only [qL_law_j798, i1, i2, i3, i4, i5, Option.bind_some, zlet, e1, e2, zlg_self, ↓reduceIte]
def zo_fact (Inv : zK → Prop) : Prop := ∀ (a0 a1 a2 : Int32) (h : zK), Inv h → ∃ (w : Int32) (h2 : zK), qC_fact a0 a1 a2 h = some w ∧ qM_fact a0 a1 a2 h = some (w, h2) ∧ Inv h2
theorem zl_fact {Inv : zK → Prop} (o : zo_fact Inv) {Ls k : Nat} {xs : Nat → Int32} {h : zK} (i1 : zix (nI k + 1) Ls = some (k + 1)) (i2 : zix (nI k + 2) Ls = some (k + 2)) (i3 : zix (nI k + 3) Ls = some (k + 3)) (i4 : zix (nI k + 4) Ls = some (k + 4)) (i5 : zix (nI k + 5) Ls = some (k + 5)) (hi : Inv h) : ∃ h2, qL_law_j878 Ls xs (nI k) h = some (.inl (nI k + 6, h2)) ∧ Inv h2 := by
  obtain ⟨w, h2, e1, e2, e3⟩ := o (xs (k + 1)) (xs (k + 2)) (xs (k + 3)) h  hi
  refine ⟨h2, ?_, e3⟩
  simp only [qL_law_j878, i1, i2, i3, Option.bind_some, zlet, e1, e2, ↓reduceIte]
def zo_fits (Inv : zK → Prop) : Prop := ∀ (a0 a1 a2 : Int32) (h : zK), Inv h → ∃ (w : Int32) (h1 h2 : zK), qC_fits a0 a1 a2 h = some (w, h1) ∧ qM_fits a0 a1 a2 h1 = some (w, h2) ∧ Inv h2
theorem zl_fits {Inv : zK → Prop} (o : zo_fits Inv) {Ls k : Nat} {xs : Nat → Int32} {h : zK} (i1 : zix (nI k + 1) Ls = some (k + 1)) (i2 : zix (nI k + 2) Ls = some (k + 2)) (i3 : zix (nI k + 3) Ls = some (k + 3)) (i4 : zix (nI k + 4) Ls = some (k + 4)) (i5 : zix (nI k + 5) Ls = some (k + 5)) (hi : Inv h) : ∃ h2, qL_law_j921 Ls xs (nI k) h = some (.inl (nI k + 6, h2)) ∧ Inv h2 := by
  obtain ⟨w, h1, h2, e1, e2, e3⟩ := o (xs (k + 1)) (xs (k + 2)) (xs (k + 3)) h  hi
  refine ⟨h2, ?_, e3⟩
  simp only [qL_law_j921, i1, i2, i3, Option.bind_some, zlet, e1, e2, ↓reduceIte]
def zo_drawn (Inv : zK → Prop) : Prop := ∀ (a0 a1 a2 a3 : Int32) (h : zK), Inv h → ∃ (w : Int32) (h1 h2 : zK), qC_drawn a0 a1 a2 a3 h = some (w, h1) ∧ qM_drawn a0 a1 a2 a3 h1 = some (w, h2) ∧ Inv h2
theorem zl_drawn {Inv : zK → Prop} (o : zo_drawn Inv) {Ls k : Nat} {xs : Nat → Int32} {h : zK} (i1 : zix (nI k + 1) Ls = some (k + 1)) (i2 : zix (nI k + 2) Ls = some (k + 2)) (i3 : zix (nI k + 3) Ls = some (k + 3)) (i4 : zix (nI k + 4) Ls = some (k + 4)) (i5 : zix (nI k + 5) Ls = some (k + 5)) (hi : Inv h) : ∃ h2, qL_law_j964 Ls xs (nI k) h = some (.inl (nI k + 6, h2)) ∧ Inv h2 := by
  obtain ⟨w, h1, h2, e1, e2, e3⟩ := o (xs (k + 1)) (xs (k + 2)) (xs (k + 3)) (xs (k + 4)) h  hi
  refine ⟨h2, ?_, e3⟩
  simp only [qL_law_j964, i1, i2, i3, i4, Option.bind_some, zlet, e1, e2, ↓reduceIte]
def zo_wit (Inv : zK → Prop) : Prop := ∀ (a0 a1 : Int32) (h : zK), Inv h → ∃ (w : Int32) (h1 h2 : zK), qC_wit a0 a1 h = some (w, h1) ∧ qM_wit a0 a1 h1 = some (w, h2) ∧ Inv h2
theorem zl_wit {Inv : zK → Prop} (o : zo_wit Inv) {Ls k : Nat} {xs : Nat → Int32} {h : zK} (i1 : zix (nI k + 1) Ls = some (k + 1)) (i2 : zix (nI k + 2) Ls = some (k + 2)) (i3 : zix (nI k + 3) Ls = some (k + 3)) (i4 : zix (nI k + 4) Ls = some (k + 4)) (i5 : zix (nI k + 5) Ls = some (k + 5)) (hi : Inv h) : ∃ h2, qL_law_j1017 Ls xs (nI k) h = some (.inl (nI k + 6, h2)) ∧ Inv h2 := by
  obtain ⟨w, h1, h2, e1, e2, e3⟩ := o (xs (k + 1)) (xs (k + 2)) h  hi
  refine ⟨h2, ?_, e3⟩
  simp only [qL_law_j1017, i1, i2, Option.bind_some, zlet, e1, e2, ↓reduceIte]
def zo_flat (Inv : zK → Prop) : Prop := ∀ (a0 a1 : Int32) (h : zK), Inv h → ∃ (w : Int32) (h2 : zK), qC_flat a0 a1 h = some w ∧ qM_flat a0 a1 h = some (w, h2) ∧ Inv h2
theorem zl_flat {Inv : zK → Prop} (o : zo_flat Inv) {Ls k : Nat} {xs : Nat → Int32} {h : zK} (i1 : zix (nI k + 1) Ls = some (k + 1)) (i2 : zix (nI k + 2) Ls = some (k + 2)) (i3 : zix (nI k + 3) Ls = some (k + 3)) (i4 : zix (nI k + 4) Ls = some (k + 4)) (i5 : zix (nI k + 5) Ls = some (k + 5)) (hi : Inv h) : ∃ h2, qL_law_j1050 Ls xs (nI k) h = some (.inl (nI k + 6, h2)) ∧ Inv h2 := by
  obtain ⟨w, h2, e1, e2, e3⟩ := o (xs (k + 1)) (xs (k + 2)) h  hi
  refine ⟨h2, ?_, e3⟩
  simp only [qL_law_j1050, i1, i2, Option.bind_some, zlet, e1, e2, ↓reduceIte]
def zo_next (Inv : zK → Prop) : Prop := ∀ (a0 a1 : Int32) (h : zK), Inv h → ∃ (w : Int32) (h1 h2 : zK), qC_next a0 a1 h = some (w, h1) ∧ qM_next a0 a1 h1 = some (w, h2) ∧ Inv h2
theorem zl_next {Inv : zK → Prop} (o : zo_next Inv) {Ls k : Nat} {xs : Nat → Int32} {h : zK} (i1 : zix (nI k + 1) Ls = some (k + 1)) (i2 : zix (nI k + 2) Ls = some (k + 2)) (i3 : zix (nI k + 3) Ls = some (k + 3)) (i4 : zix (nI k + 4) Ls = some (k + 4)) (i5 : zix (nI k + 5) Ls = some (k + 5)) (hi : Inv h) : ∃ h2, qL_law_j1083 Ls xs (nI k) h = some (.inl (nI k + 6, h2)) ∧ Inv h2 := by
  obtain ⟨w, h1, h2, e1, e2, e3⟩ := o (xs (k + 1)) (xs (k + 2)) h  hi
  refine ⟨h2, ?_, e3⟩
  simp only [qL_law_j1083, i1, i2, Option.bind_some, zlet, e1, e2, ↓reduceIte]
def zo_half (Inv : zK → Prop) : Prop := ∀ (a0 a1 a2 : Int32) (h : zK), (a2 = 0 ∨ a2 = 1) → Inv h → ∃ (w : Int32) (h2 : zK), qC_half a0 a1 a2 h = some w ∧ qM_half a0 a1 a2 h = some (w, h2) ∧ Inv h2
theorem zl_half {Inv : zK → Prop} (o : zo_half Inv) {Ls k : Nat} {xs : Nat → Int32} {h : zK} (i1 : zix (nI k + 1) Ls = some (k + 1)) (i2 : zix (nI k + 2) Ls = some (k + 2)) (i3 : zix (nI k + 3) Ls = some (k + 3)) (i4 : zix (nI k + 4) Ls = some (k + 4)) (i5 : zix (nI k + 5) Ls = some (k + 5)) (hi : Inv h) : ∃ h2, qL_law_j1116 Ls xs (nI k) h = some (.inl (nI k + 6, h2)) ∧ Inv h2 := by
  obtain ⟨w, h2, e1, e2, e3⟩ := o (xs (k + 1)) (xs (k + 2)) (if xs (k + 3) = 0 then 0 else 1) h (zb01 _) hi
  refine ⟨h2, ?_, e3⟩
  simp only [qL_law_j1116, i1, i2, i3, Option.bind_some, zlet, e1, e2, ↓reduceIte]
def zo_after (Inv : zK → Prop) : Prop := ∀ (a0 a1 a2 : Int32) (h : zK), Inv h → ∃ (w : Int32) (h1 h2 : zK), qC_after a0 a1 a2 h = some (w, h1) ∧ qM_after a0 a1 a2 h1 = some (w, h2) ∧ Inv h2
theorem zl_after {Inv : zK → Prop} (o : zo_after Inv) {Ls k : Nat} {xs : Nat → Int32} {h : zK} (i1 : zix (nI k + 1) Ls = some (k + 1)) (i2 : zix (nI k + 2) Ls = some (k + 2)) (i3 : zix (nI k + 3) Ls = some (k + 3)) (i4 : zix (nI k + 4) Ls = some (k + 4)) (i5 : zix (nI k + 5) Ls = some (k + 5)) (hi : Inv h) : ∃ h2, qL_law_j1175 Ls xs (nI k) h = some (.inl (nI k + 6, h2)) ∧ Inv h2 := by
  obtain ⟨w, h1, h2, e1, e2, e3⟩ := o (xs (k + 1)) (xs (k + 2)) (xs (k + 3)) h  hi
  refine ⟨h2, ?_, e3⟩
  simp only [qL_law_j1175, i1, i2, i3, Option.bind_some, zlet, e1, e2, ↓reduceIte]
def zo_odds (Inv : zK → Prop) : Prop := ∀ (a0 a1 a2 a3 : Int32) (h : zK), (a3 = 0 ∨ a3 = 1) → Inv h → ∃ (w : Int32) (h1 h2 : zK), qC_odds a0 a1 a2 a3 h = some (w, h1) ∧ qM_odds a0 a1 a2 a3 h1 = some (w, h2) ∧ Inv h2
theorem zl_odds {Inv : zK → Prop} (o : zo_odds Inv) {Ls k : Nat} {xs : Nat → Int32} {h : zK} (i1 : zix (nI k + 1) Ls = some (k + 1)) (i2 : zix (nI k + 2) Ls = some (k + 2)) (i3 : zix (nI k + 3) Ls = some (k + 3)) (i4 : zix (nI k + 4) Ls = some (k + 4)) (i5 : zix (nI k + 5) Ls = some (k + 5)) (hi : Inv h) : ∃ h2, qL_law_j1218 Ls xs (nI k) h = some (.inl (nI k + 6, h2)) ∧ Inv h2 := by
  obtain ⟨w, h1, h2, e1, e2, e3⟩ := o (xs (k + 1)) (xs (k + 2)) (xs (k + 3)) (if xs (k + 4) = 0 then 0 else 1) h (zb01 _) hi
  refine ⟨h2, ?_, e3⟩
  simp only [qL_law_j1218, i1, i2, i3, i4, Option.bind_some, zlet, e1, e2, ↓reduceIte]
def zo_shock (Inv : zK → Prop) : Prop := ∀ (a0 a1 a2 : Int32) (h : zK), (a2 = 0 ∨ a2 = 1) → Inv h → ∃ (w : Int32) (h1 h2 : zK), qC_shock a0 a1 a2 h = some (w, h1) ∧ qM_shock a0 a1 a2 h1 = some (w, h2) ∧ Inv h2
theorem zl_shock {Inv : zK → Prop} (o : zo_shock Inv) {Ls k : Nat} {xs : Nat → Int32} {h : zK} (i1 : zix (nI k + 1) Ls = some (k + 1)) (i2 : zix (nI k + 2) Ls = some (k + 2)) (i3 : zix (nI k + 3) Ls = some (k + 3)) (i4 : zix (nI k + 4) Ls = some (k + 4)) (i5 : zix (nI k + 5) Ls = some (k + 5)) (hi : Inv h) : ∃ h2, qL_law_j1287 Ls xs (nI k) h = some (.inl (nI k + 6, h2)) ∧ Inv h2 := by
  obtain ⟨w, h1, h2, e1, e2, e3⟩ := o (xs (k + 1)) (xs (k + 2)) (if xs (k + 3) = 0 then 0 else 1) h (zb01 _) hi
  refine ⟨h2, ?_, e3⟩
  simp only [qL_law_j1287, i1, i2, i3, Option.bind_some, zlet, e1, e2, ↓reduceIte]
def zo_count (Inv : zK → Prop) : Prop := ∀ (a0 : Int32) (h : zK), Inv h → ∃ (w : Int32) (h2 : zK), qC_count a0 h = some w ∧ qM_count a0 h = some (w, h2) ∧ Inv h2
theorem zl_count {Inv : zK → Prop} (o : zo_count Inv) {Ls k : Nat} {xs : Nat → Int32} {h : zK} (i1 : zix (nI k + 1) Ls = some (k + 1)) (i2 : zix (nI k + 2) Ls = some (k + 2)) (i3 : zix (nI k + 3) Ls = some (k + 3)) (i4 : zix (nI k + 4) Ls = some (k + 4)) (i5 : zix (nI k + 5) Ls = some (k + 5)) (hi : Inv h) : ∃ h2, qL_law_j1346 Ls xs (nI k) h = some (.inl (nI k + 6, h2)) ∧ Inv h2 := by
  obtain ⟨w, h2, e1, e2, e3⟩ := o (xs (k + 1)) h  hi
  refine ⟨h2, ?_, e3⟩
  simp only [qL_law_j1346, i1, Option.bind_some, zlet, e1, e2, ↓reduceIte]
def zo_image (Inv : zK → Prop) : Prop := ∀ (a0 : Int32) (h : zK), Inv h → ∃ (w : Int32) (h1 h2 : zK), qC_image a0 h = some (w, h1) ∧ qM_image a0 h1 = some (w, h2) ∧ Inv h2
theorem zl_image {Inv : zK → Prop} (o : zo_image Inv) {Ls k : Nat} {xs : Nat → Int32} {h : zK} (i1 : zix (nI k + 1) Ls = some (k + 1)) (i2 : zix (nI k + 2) Ls = some (k + 2)) (i3 : zix (nI k + 3) Ls = some (k + 3)) (i4 : zix (nI k + 4) Ls = some (k + 4)) (i5 : zix (nI k + 5) Ls = some (k + 5)) (hi : Inv h) : ∃ h2, qL_law_j1369 Ls xs (nI k) h = some (.inl (nI k + 6, h2)) ∧ Inv h2 := by
  obtain ⟨w, h1, h2, e1, e2, e3⟩ := o (xs (k + 1)) h  hi
  refine ⟨h2, ?_, e3⟩
  simp only [qL_law_j1369, i1, Option.bind_some, zlet, e1, e2, ↓reduceIte]
def zo_again (Inv : zK → Prop) : Prop := ∀ (a0 : Int32) (h : zK), Inv h → ∃ (w : Int32) (h1 h2 : zK), qC_again a0 h = some (w, h1) ∧ qM_again a0 h1 = some (w, h2) ∧ Inv h2
theorem zl_again {Inv : zK → Prop} (o : zo_again Inv) {Ls k : Nat} {xs : Nat → Int32} {h : zK} (i1 : zix (nI k + 1) Ls = some (k + 1)) (i2 : zix (nI k + 2) Ls = some (k + 2)) (i3 : zix (nI k + 3) Ls = some (k + 3)) (i4 : zix (nI k + 4) Ls = some (k + 4)) (i5 : zix (nI k + 5) Ls = some (k + 5)) (hi : Inv h) : ∃ h2, qL_law_j1392 Ls xs (nI k) h = some (.inl (nI k + 6, h2)) ∧ Inv h2 := by
  obtain ⟨w, h1, h2, e1, e2, e3⟩ := o (xs (k + 1)) h  hi
  refine ⟨h2, ?_, e3⟩
  simp only [qL_law_j1392, i1, Option.bind_some, zlet, e1, e2, ↓reduceIte]
theorem zix_nI {j n : Nat} (h : j < n) (hn : n < 2 ^ 31) : zix (nI j) n = some j := by
  unfold zix
  rw [if_neg (nI_in h hn), nI_clamp (by omega)]
theorem zix_p {k m n : Nat} {x : Int32} (hx : x = nI m) (h : k + m < n) (hn : n < 2 ^ 31) : zix (nI k + x) n = some (k + m) := by
  rw [hx, nI_add]
  exact zix_nI h hn
theorem zloop_s {σ τ : Type} {b : σ → Option (σ ⊕ τ)} {n : Nat} {x y : σ} (h : b x = some (.inl y)) : zloop b (n + 1) x = zloop b n y := by
  rw [zloop, h]
theorem zloop_e {σ τ : Type} {b : σ → Option (σ ⊕ τ)} {n : Nat} {x : σ} {t : τ} (h : b x = some (.inr t)) : zloop b (n + 1) x = some t := by
  rw [zloop, h]
/-- a loop that goes through S 0, S 1 .. S m and ends there -/
theorem zloop_for {σ τ : Type} {b : σ → Option (σ ⊕ τ)} (S : Nat → σ) (m : Nat) {t : τ} (step : ∀ i, i < m → b (S i) = some (.inl (S (i + 1)))) (last : b (S m) = some (.inr t)) {n : Nat} (hn : m < n) : zloop b n (S 0) = some t := by
  have key : ∀ j i n, i + j = m → j < n → zloop b n (S i) = some t := by
    intro j
    induction j with
    | zero =>
      intro i n hi hn
      obtain ⟨n, rfl⟩ : ∃ q, n = q + 1 := ⟨n - 1, by omega⟩
      have e : i = m := by omega
      subst e
      exact zloop_e last
    | succ j ih =>
      intro i n hi hn
      obtain ⟨n, rfl⟩ : ∃ q, n = q + 1 := ⟨n - 1, by omega⟩
      rw [zloop_s (step i (by omega))]
      exact ih (i + 1) n (by omega) (by omega)
  exact key m 0 n (by omega) hn
/-- a loop with a measure: it ends, and what it ends with has R -/
theorem zloop_me {σ τ : Type} {b : σ → Option (σ ⊕ τ)} {Q : Nat → σ → Prop} {R : τ → Prop} (step : ∀ n x, Q n x → (∃ t, b x = some (.inr t) ∧ R t) ∨ ∃ m y, b x = some (.inl y) ∧ m < n ∧ Q m y) : ∀ f n x, Q n x → n < f → ∃ t, zloop b f x = some t ∧ R t := by
  intro f
  induction f with
  | zero => intro n x _ h; omega
  | succ f ih =>
    intro n x hq hn
    rcases step n x hq with ⟨t, h1, h2⟩ | ⟨m, y, h1, h2, h3⟩
    · exact ⟨t, zloop_e h1, h2⟩
    · rw [zloop_s h1]
      exact ih m y h3 (by omega)
set_option maxRecDepth 4000 in
theorem zl_body {Inv : zK → Prop} (o0 : zo_feed Inv) (o1 : zo_end Inv) (o2 : zo_text Inv) (o3 : zo_fault Inv) (o4 : zo_cellar Inv) (o5 : zo_deed Inv) (o6 : zo_till Inv) (o7 : zo_state Inv) (o8 : zo_train Inv) (o9 : zo_laying Inv) (o10 : zo_life Inv) (o11 : zo_plan Inv) (o12 : zo_talk Inv) (o13 : zo_dinner Inv) (o14 : zo_wires Inv) (o15 : zo_duel Inv) (o16 : zo_hold Inv) (o17 : zo_fact Inv) (o18 : zo_fits Inv) (o19 : zo_drawn Inv) (o20 : zo_wit Inv) (o21 : zo_flat Inv) (o22 : zo_next Inv) (o23 : zo_half Inv) (o24 : zo_after Inv) (o25 : zo_odds Inv) (o26 : zo_shock Inv) (o27 : zo_count Inv) (o28 : zo_image Inv) (o29 : zo_again Inv) {Ls k : Nat} {xs : Nat → Int32} {h : zK} (hk : k + 6 ≤ Ls) (hL : Ls ≤ 3072) (hi : Inv h) : ∃ h2, qL_law_b18 Ls xs (nI k, h) = some (.inl (nI (k + 6), h2)) ∧ Inv h2 := by
  have i1 : zix (nI k + 1) Ls = some (k + 1) := zix_p (m := 1) rfl (by omega) (by omega)
  have i2 : zix (nI k + 2) Ls = some (k + 2) := zix_p (m := 2) rfl (by omega) (by omega)
  have i3 : zix (nI k + 3) Ls = some (k + 3) := zix_p (m := 3) rfl (by omega) (by omega)
  have i4 : zix (nI k + 4) Ls = some (k + 4) := zix_p (m := 4) rfl (by omega) (by omega)
  have i5 : zix (nI k + 5) Ls = some (k + 5) := zix_p (m := 5) rfl (by omega) (by omega)
  have e6 : nI (k + 6) = nI k + 6 := (nI_add k 6).symm
  rw [e6]
  have eL : Int32.ofNat Ls - 6 = nI (Ls - 6) := by
    have z := nI_add (Ls - 6) 6
    rw [show Ls - 6 + 6 = Ls by omega] at z
    rw [show (Int32.ofNat Ls) = nI Ls from rfl, ← z]
    show nI (Ls - 6) + 6 - 6 = _
    exact Int32.add_sub_cancel _ _
  unfold qL_law_b18
  dsimp only
  rw [eL, if_neg (nI_nlt (by omega) (by omega)), zix_nI (by omega) (by omega), Option.bind_some]
  by_cases c0 : xs k &&& 31 = 0
  · rw [if_pos c0]; exact zl_feed o0 i1 i2 i3 i4 i5 hi
  rw [if_neg c0]
  by_cases c1 : xs k &&& 31 = 1
  · rw [if_pos c1]; exact zl_end o1 i1 i2 i3 i4 i5 hi
  rw [if_neg c1]
  by_cases c2 : xs k &&& 31 = 2
  · rw [if_pos c2]; exact zl_text o2 i1 i2 i3 i4 i5 hi
  rw [if_neg c2]
  by_cases c3 : xs k &&& 31 = 3
  · rw [if_pos c3]; exact zl_fault o3 i1 i2 i3 i4 i5 hi
  rw [if_neg c3]
  by_cases c4 : xs k &&& 31 = 4
  · rw [if_pos c4]; exact zl_cellar o4 i1 i2 i3 i4 i5 hi
  rw [if_neg c4]
  by_cases c5 : xs k &&& 31 = 5
  · rw [if_pos c5]; exact zl_deed o5 i1 i2 i3 i4 i5 hi
  rw [if_neg c5]
  by_cases c6 : xs k &&& 31 = 6
  · rw [if_pos c6]; exact zl_till o6 i1 i2 i3 i4 i5 hi
  rw [if_neg c6]
  by_cases c7 : xs k &&& 31 = 7
  · rw [if_pos c7]; exact zl_state o7 i1 i2 i3 i4 i5 hi
  rw [if_neg c7]
  by_cases c8 : xs k &&& 31 = 8
  · rw [if_pos c8]; exact zl_train o8 i1 i2 i3 i4 i5 hi
  rw [if_neg c8]
  by_cases c9 : xs k &&& 31 = 9
  · rw [if_pos c9]; exact zl_laying o9 i1 i2 i3 i4 i5 hi
  rw [if_neg c9]
  by_cases c10 : xs k &&& 31 = 10
  · rw [if_pos c10]; exact zl_life o10 i1 i2 i3 i4 i5 hi
  rw [if_neg c10]
  by_cases c11 : xs k &&& 31 = 11
  · rw [if_pos c11]; exact zl_plan o11 i1 i2 i3 i4 i5 hi
  rw [if_neg c11]
  by_cases c12 : xs k &&& 31 = 12
  · rw [if_pos c12]; exact zl_talk o12 i1 i2 i3 i4 i5 hi
  rw [if_neg c12]
  by_cases c13 : xs k &&& 31 = 13
  · rw [if_pos c13]; exact zl_dinner o13 i1 i2 i3 i4 i5 hi
  rw [if_neg c13]
  by_cases c14 : xs k &&& 31 = 14
  · rw [if_pos c14]; exact zl_wires o14 i1 i2 i3 i4 i5 hi
  rw [if_neg c14]
  by_cases c15 : xs k &&& 31 = 15
  · rw [if_pos c15]; exact zl_duel o15 i1 i2 i3 i4 i5 hi
  rw [if_neg c15]
  by_cases c16 : xs k &&& 31 = 16
  · rw [if_pos c16]; exact zl_hold o16 i1 i2 i3 i4 i5 hi
  rw [if_neg c16]
  by_cases c17 : xs k &&& 31 = 17
  · rw [if_pos c17]; exact zl_fact o17 i1 i2 i3 i4 i5 hi
  rw [if_neg c17]
  by_cases c18 : xs k &&& 31 = 18
  · rw [if_pos c18]; exact zl_fits o18 i1 i2 i3 i4 i5 hi
  rw [if_neg c18]
  by_cases c19 : xs k &&& 31 = 19
  · rw [if_pos c19]; exact zl_drawn o19 i1 i2 i3 i4 i5 hi
  rw [if_neg c19]
  by_cases c20 : xs k &&& 31 = 20
  · rw [if_pos c20]; exact zl_wit o20 i1 i2 i3 i4 i5 hi
  rw [if_neg c20]
  by_cases c21 : xs k &&& 31 = 21
  · rw [if_pos c21]; exact zl_flat o21 i1 i2 i3 i4 i5 hi
  rw [if_neg c21]
  by_cases c22 : xs k &&& 31 = 22
  · rw [if_pos c22]; exact zl_next o22 i1 i2 i3 i4 i5 hi
  rw [if_neg c22]
  by_cases c23 : xs k &&& 31 = 23
  · rw [if_pos c23]; exact zl_half o23 i1 i2 i3 i4 i5 hi
  rw [if_neg c23]
  by_cases c24 : xs k &&& 31 = 24
  · rw [if_pos c24]; exact zl_after o24 i1 i2 i3 i4 i5 hi
  rw [if_neg c24]
  by_cases c25 : xs k &&& 31 = 25
  · rw [if_pos c25]; exact zl_odds o25 i1 i2 i3 i4 i5 hi
  rw [if_neg c25]
  by_cases c26 : xs k &&& 31 = 26
  · rw [if_pos c26]; exact zl_shock o26 i1 i2 i3 i4 i5 hi
  rw [if_neg c26]
  by_cases c27 : xs k &&& 31 = 27
  · rw [if_pos c27]; exact zl_count o27 i1 i2 i3 i4 i5 hi
  rw [if_neg c27]
  by_cases c28 : xs k &&& 31 = 28
  · rw [if_pos c28]; exact zl_image o28 i1 i2 i3 i4 i5 hi
  rw [if_neg c28]
  by_cases c29 : xs k &&& 31 = 29
  · rw [if_pos c29]; exact zl_again o29 i1 i2 i3 i4 i5 hi
  rw [if_neg c29]
  exact ⟨h, rfl, hi⟩
theorem zpure {Inv : zK → Prop} (o0 : zo_feed Inv) (o1 : zo_end Inv) (o2 : zo_text Inv) (o3 : zo_fault Inv) (o4 : zo_cellar Inv) (o5 : zo_deed Inv) (o6 : zo_till Inv) (o7 : zo_state Inv) (o8 : zo_train Inv) (o9 : zo_laying Inv) (o10 : zo_life Inv) (o11 : zo_plan Inv) (o12 : zo_talk Inv) (o13 : zo_dinner Inv) (o14 : zo_wires Inv) (o15 : zo_duel Inv) (o16 : zo_hold Inv) (o17 : zo_fact Inv) (o18 : zo_fits Inv) (o19 : zo_drawn Inv) (o20 : zo_wit Inv) (o21 : zo_flat Inv) (o22 : zo_next Inv) (o23 : zo_half Inv) (o24 : zo_after Inv) (o25 : zo_odds Inv) (o26 : zo_shock Inv) (o27 : zo_count Inv) (o28 : zo_image Inv) (o29 : zo_again Inv) (h0 : Inv zSt) : ∀ (Ls : Nat) (xs : Nat → Int32), Ls ≤ 3072 → ∃ h', qL_law Ls xs zSt = some (1, h') := by
  intro Ls xs hL
  have key : ∃ t : zK ⊕ (Int32 × zK), zloop (qL_law_b18 Ls xs) zfu (0, zSt) = some t ∧ ∃ h, t = .inl h := by
    refine zloop_me (Q := fun n s => ∃ k h, s = (nI k, h) ∧ k ≤ 3078 ∧ n + k = 3078 ∧ Inv h) ?_ zfu 3078 _ ⟨0, zSt, rfl, by omega, by omega, h0⟩ (by unfold zfu; omega)
    rintro n s ⟨k, h, rfl, hk, hn, hi⟩
    by_cases hc : k + 6 ≤ Ls
    · obtain ⟨h2, e1, e2⟩ := zl_body o0 o1 o2 o3 o4 o5 o6 o7 o8 o9 o10 o11 o12 o13 o14 o15 o16 o17 o18 o19 o20 o21 o22 o23 o24 o25 o26 o27 o28 o29 hc hL hi
      exact Or.inr ⟨n - 6, _, e1, by omega, k + 6, h2, rfl, by omega, by omega, e2⟩
    · refine Or.inl ⟨.inl h, ?_, h, rfl⟩
      unfold qL_law_b18
      dsimp only
      rw [if_pos]
      rw [Int32.lt_iff_toInt_lt, nI_toInt (by omega), Int32.toInt_sub]
      rw [show (Int32.ofNat Ls).toInt = (Ls : Int) from nI_toInt (by omega)]
      have e : (6 : Int32).toInt = 6 := rfl
      rw [e, Int.bmod_eq_of_le (by omega) (by omega)]
      omega
  obtain ⟨t, h1, h, rfl⟩ := key
  exact ⟨h, by unfold qL_law; rw [h1]; rfl⟩
