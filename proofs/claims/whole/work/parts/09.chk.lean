def zchr (oc : Nat) (nm : String) : zO → Bool
  | (i, c, cl, r, k) => match i with
    | .iconst n => decide (Int32.ofInt n = c)
    | .bipush n => decide ((Int8.ofInt n).toInt32 = c)
    | .sipush n => decide ((Int16.ofInt n).toInt32 = c)
    | .lconst n => decide (Int64.ofNat n.val = cl)
    | .ldc idx => (r == 0 && zci.any (fun q => q.1 == oc && q.2.1 == idx && decide (q.2.2.1 = c))) || (r == 1 && decide (zcnn oc = "CorkedTalk$Reader") && decide (zspool[k]? = some idx))
    | .ldc_w idx => zci.any (fun q => q.1 == oc && q.2.1 == idx && decide (q.2.2.1 = c))
    | .ldc2_w idx => zcL.any (fun q => q.1 == oc && q.2.1 == idx && decide (q.2.2.1 = cl))
    | .iinc _ n => decide (Int32.ofInt n = c)
    | .getfield idx => zfl.any (fun q => q.1 == oc && q.2.1 == idx && q.2.2.1 == r && q.2.2.2.1 == k)
    | .putfield idx => zfl.any (fun q => q.1 == oc && q.2.1 == idx && q.2.2.1 == r && q.2.2.2.1 == k) && (match vwCl[r]? with
      | some q => !(q.2.1 k).2.2.2 || (decide (nm = "<init>") && decide ((q.2.1 k).1 = zcnn oc))
      | none => false)
    | .getstatic idx => decide (1 ≤ k) && (match zstat[k]? with
      | some q => decide (Cond.fieldLink (zcnn oc) idx q.1 q.2.1 q.2.2 ∈ lw_tbl) && goodWord (Cond.fieldLink (zcnn oc) idx q.1 q.2.1 q.2.2)
      | none => false)
    | .new idx => zcl.any (fun q => q.1 == oc && q.2.1 == idx && q.2.2.1 == r)
    | .newarray t => decide (t = .int ∨ t = .byte ∨ t = .boolean ∨ t = .long)
    | .anewarray idx => zcl.any (fun q => q.1 == oc && q.2.1 == idx && q.2.2.1 == r) && (match vwCl[r]? with
      | some q => decide (q.1 ∈ zover)
      | none => false)
    | .invokevirtual idx => (decide (r = 6 ∨ r = 7) && zpr.any (fun q => q.1 == oc && q.2.1 == idx && q.2.2.1 == r)) || r == 0 && (zml.any (fun q => q.1 == oc && q.2.1 == idx && q.2.2.1 == k) || zmn.any (fun q => q.1 == oc && q.2.1 == idx && q.2.2.1 == k))
    | .invokespecial idx => (r == 0 && (zml.any (fun q => q.1 == oc && q.2.1 == idx && q.2.2.1 == k) || zmn.any (fun q => q.1 == oc && q.2.1 == idx && q.2.2.1 == k))) || (r == 1 && zpr.any (fun q => q.1 == oc && q.2.1 == idx && q.2.2.1 == r))
    | .invokestatic idx => (r == 0 && (zml.any (fun q => q.1 == oc && q.2.1 == idx && q.2.2.1 == k) || zmn.any (fun q => q.1 == oc && q.2.1 == idx && q.2.2.1 == k))) || (decide (2 ≤ r ∧ r ≤ 5) && zpr.any (fun q => q.1 == oc && q.2.1 == idx && q.2.2.1 == r))
    | _ => true
def zchk (M : zM) (pc : Nat) (o : zO) : Bool := (match decode M.2.1 pc with
  | .ok (j, len) => decide (j = o.1) && (zlen o.1 == 0 || len == zlen o.1)
  | .error _ => false) && zchr M.2.2.2.2.2.1 M.1.name o
def zchg (M : zM) : Nat → List (Option zO) → Bool
  | _, [] => true
  | pc, none :: r => zchg M (pc + 1) r
  | pc, some o :: r => zchk M pc o && zchg M (pc + 1) r
theorem zchg_ok {M : zM} : ∀ {l : List (Option zO)} {b : Nat}, zchg M b l = true → ∀ pc o, l[pc]? = some (some o) → zchk M (b + pc) o = true := by
  intro l
  induction l with
  | nil => intro b _ pc o e; simp at e
  | cons x l ih =>
    intro b h pc o e
    cases x with
    | none =>
      cases pc with
      | zero => simp at e
      | succ pc =>
        have := ih (b := b + 1) h pc o (by simpa using e)
        rw [show b + (pc + 1) = b + 1 + pc by omega]; exact this
    | some o2 =>
      simp only [zchg, Bool.and_eq_true] at h
      cases pc with
      | zero =>
        have : o2 = o := by simpa using e
        subst this; exact h.1
      | succ pc =>
        have := ih (b := b + 1) h.2 pc o (by simpa using e)
        rw [show b + (pc + 1) = b + 1 + pc by omega]; exact this
theorem zL_ml {oc idx k : Nat} {M : zM} (hP : zP k = some M) (h : (zml.any (fun q => q.1 == oc && q.2.1 == idx && q.2.2.1 == k) || zmn.any (fun q => q.1 == oc && q.2.1 == idx && q.2.2.1 == k)) = true) : zokL (zcnn oc) idx M.1 := by
  rw [Bool.or_eq_true] at h
  rcases h with h | h
  · obtain ⟨q, hq, h2⟩ := List.any_eq_true.mp h
    simp only [Bool.and_eq_true, beq_iff_eq] at h2
    obtain ⟨⟨rfl, rfl⟩, rfl⟩ := h2
    have := List.all_eq_true.mp zml_ok q hq
    unfold zmlc at this
    rw [hP] at this
    exact Or.inl (zat_ok this)
  · obtain ⟨q, hq, h2⟩ := List.any_eq_true.mp h
    simp only [Bool.and_eq_true, beq_iff_eq] at h2
    obtain ⟨⟨rfl, rfl⟩, rfl⟩ := h2
    have := List.all_eq_true.mp zmn_ok q hq
    unfold zmnc at this
    rw [hP] at this
    exact Or.inr ⟨_, by simpa using this⟩
theorem zL_pr {oc idx r : Nat} (h : zpr.any (fun q => q.1 == oc && q.2.1 == idx && q.2.2.1 == r) = true) : Cond.methodLink (zcnn oc) idx (zprn r) ∈ ztb := by
  obtain ⟨q, hq, h2⟩ := List.any_eq_true.mp h
  simp only [Bool.and_eq_true, beq_iff_eq] at h2
  obtain ⟨⟨rfl, rfl⟩, rfl⟩ := h2
  exact zat_ok (List.all_eq_true.mp zpr_ok q hq)
theorem zL_ci {oc idx : Nat} {c : Int32} (h : zci.any (fun q => q.1 == oc && q.2.1 == idx && decide (q.2.2.1 = c)) = true) : Cond.constant (zcnn oc) idx c ∈ ztb := by
  obtain ⟨q, hq, h2⟩ := List.any_eq_true.mp h
  simp only [Bool.and_eq_true, beq_iff_eq, decide_eq_true_eq] at h2
  obtain ⟨⟨rfl, rfl⟩, rfl⟩ := h2
  exact zat_ok (List.all_eq_true.mp zci_ok q hq)
theorem zL_cL {oc idx : Nat} {c : Int64} (h : zcL.any (fun q => q.1 == oc && q.2.1 == idx && decide (q.2.2.1 = c)) = true) : Cond.constantLong (zcnn oc) idx c ∈ ztb := by
  obtain ⟨q, hq, h2⟩ := List.any_eq_true.mp h
  simp only [Bool.and_eq_true, beq_iff_eq, decide_eq_true_eq] at h2
  obtain ⟨⟨rfl, rfl⟩, rfl⟩ := h2
  exact zat_ok (List.all_eq_true.mp zcL_ok q hq)
theorem zL_f {oc idx r k : Nat} (h : zfl.any (fun q => q.1 == oc && q.2.1 == idx && q.2.2.1 == r && q.2.2.2.1 == k) = true) : zokF (zcnn oc) idx r k := by
  obtain ⟨q, hq, h2⟩ := List.any_eq_true.mp h
  simp only [Bool.and_eq_true, beq_iff_eq] at h2
  obtain ⟨⟨⟨rfl, rfl⟩, rfl⟩, rfl⟩ := h2
  have := List.all_eq_true.mp zfl_ok q hq
  unfold zflc at this
  split at this
  · rename_i c hc
    simp only [Bool.and_eq_true, decide_eq_true_eq] at this
    exact ⟨c, hc, this.1, zat_ok this.2, zcls_in _ _ hc, zcls_ty _ _ hc, zcls_nm _ _ hc⟩
  · cases this
theorem zL_c {oc idx r : Nat} (h : zcl.any (fun q => q.1 == oc && q.2.1 == idx && q.2.2.1 == r) = true) : ∃ q : vw_C, vwCl[r]? = some q ∧ Cond.classLink (zcnn oc) idx q.1 ∈ ztb := by
  obtain ⟨q, hq, h2⟩ := List.any_eq_true.mp h
  simp only [Bool.and_eq_true, beq_iff_eq] at h2
  obtain ⟨⟨rfl, rfl⟩, rfl⟩ := h2
  have := List.all_eq_true.mp zcl_ok q hq
  unfold zclc at this
  split at this
  · rename_i c hc
    exact ⟨c, hc, zat_ok this⟩
  · cases this
theorem zw_all : ∀ r, r < 12 → ∀ q, vwCl[r]? = some q → q.1 ∈ ["CorkedTalk", "CorkedTalkModel", "CorkedTalk$Told", "CorkedTalk$Cellar", "CorkedTalk$Deeds", "CorkedTalk$Log", "CorkedTalk$Reader", "CorkedTalk$Run", "CorkedTalk$Trains", "CorkedTalk$Laying", "CorkedTalk$Orders", "CorkedTalk$Laws"] := by decide +kernel
theorem zprim (w : Cond) (h : w ∈ ([.instanceMethod Lib.objectInit, .code Lib.objectInit ⟨#[0xb1]⟩ 1 none, .static Lib.Math.max.name, .initialized "java/lang/Math", .code Lib.Math.max.name Lib.Math.max.code 2 (some .int), .static Lib.Math.min.name, .code Lib.Math.min.name Lib.Math.min.code 2 (some .int), .static Lib.Math.abs.name, .code Lib.Math.abs.name Lib.Math.abs.code 1 (some .int), .native arraycopyName, .static arraycopyName, .initialized "java/lang/System", .arrayClass .int, .arrayClass .byte, .arrayClass .boolean, .arrayClass .long] : List Cond)) : w ∈ ztb := zmem w (List.all_eq_true.mp zw_prim w h)
/-- what is said of a method of the program -/
def zmOk (i : Nat) (M : zM) : Prop := zmc i M = true
theorem zmOk_C {i : Nat} {M : zM} (h : zmc i M = true) : zokC M ∧ M.1.cls = zcnn M.2.2.2.2.2.1 ∧ (M.2.2.2.2.1 = 0 → Cond.static M.1 ∈ ztb) ∧ (M.2.2.2.2.1 = 1 → Cond.instanceMethod M.1 ∈ ztb ∧ Cond.selects M.1.cls M.1 M.1 ∈ ztb ∧ (vwCl[M.2.2.2.2.2.1]?).map (fun q => q.1) = some M.1.cls) ∧ (M.2.2.2.2.1 = 2 → Cond.instanceMethod M.1 ∈ ztb ∧ M.1.name = "<init>" ∧ M.2.2.2.1 = none) := by
  unfold zmc at h
  split at h
  · simp only [Bool.and_eq_true, decide_eq_true_eq] at h
    obtain ⟨⟨⟨⟨⟨⟨⟨h1, h2⟩, h3⟩, h4⟩, h5⟩, h6⟩, h7⟩, h8⟩ := h
    refine ⟨⟨zat_ok h1, zat_ok h2, h3, h4, h5, h6⟩, h7, fun e => ?_, fun e => ?_, fun e => ?_⟩
    · rw [e] at h8; exact zat_ok h8
    · rw [e] at h8
      simp only [Bool.and_eq_true, decide_eq_true_eq] at h8
      exact ⟨zat_ok h8.1.1, zat_ok h8.1.2, h8.2⟩
    · rw [e] at h8
      simp only [Bool.and_eq_true, decide_eq_true_eq] at h8
      exact ⟨zat_ok h8.1, h8.2⟩
  · cases h
theorem zchk_ok (hall : ∀ k M', zP k = some M' → zmc k M' = true) {M : zM} (hM : M.1.cls = zcnn M.2.2.2.2.2.1) {pc : Nat} {o : zO} (h : zchk M pc o = true) : zokO zP M pc o := by
  obtain ⟨i, c, cl, r, k⟩ := o
  unfold zchk at h
  rw [Bool.and_eq_true] at h
  obtain ⟨h1, h2⟩ := h
  refine ⟨?_, ?_⟩
  · split at h1
    · rename_i j len hd
      simp only [Bool.and_eq_true, decide_eq_true_eq, Bool.or_eq_true, beq_iff_eq] at h1
      obtain ⟨rfl, h3⟩ := h1
      exact ⟨len, hd, h3⟩
    · cases h1
  · unfold zchr at h2
    rw [hM]
    cases i with
    | iconst n => exact of_decide_eq_true h2
    | bipush n => exact of_decide_eq_true h2
    | sipush n => exact of_decide_eq_true h2
    | lconst n => exact of_decide_eq_true h2
    | ldc idx =>
      dsimp only at h2 ⊢
      rw [Bool.or_eq_true] at h2
      rcases h2 with h2 | h2
      · rw [Bool.and_eq_true, beq_iff_eq] at h2
        exact Or.inl ⟨h2.1, zL_ci h2.2⟩
      · simp only [Bool.and_eq_true, beq_iff_eq, decide_eq_true_eq] at h2
        exact Or.inr ⟨h2.1.1, h2.1.2, h2.2⟩
    | ldc_w idx => exact zL_ci h2
    | ldc2_w idx => exact zL_cL h2
    | iinc _ n => exact of_decide_eq_true h2
    | getfield idx => exact zL_f h2
    | putfield idx =>
      dsimp only at h2 ⊢
      rw [Bool.and_eq_true] at h2
      refine ⟨zL_f h2.1, fun q hq hf => ?_⟩
      have h3 := h2.2
      rw [hq] at h3
      dsimp only at h3
      rw [hf] at h3
      simpa using h3
    | getstatic idx =>
      dsimp only at h2 ⊢
      rw [Bool.and_eq_true, decide_eq_true_eq] at h2
      refine ⟨h2.1, ?_⟩
      have h3 := h2.2
      split at h3
      · rename_i q hq; exact ⟨q, hq, zmem _ h3⟩
      · cases h3
    | new idx =>
      obtain ⟨q, hq, hl⟩ := zL_c h2
      have hr : r < 12 := (List.getElem?_eq_some_iff.mp hq).1
      obtain ⟨w1, w2⟩ := zw_ini r hr q hq (zw_all r hr q hq)
      exact ⟨q, hq, hl, zmem _ w2, zmem _ w1, zcls_in _ _ hq, zcls_ty _ _ hq, zcls_k r hr q hq⟩
    | newarray t =>
      have h3 : t = .int ∨ t = .byte ∨ t = .boolean ∨ t = .long := of_decide_eq_true h2
      rcases h3 with rfl | rfl | rfl | rfl
      · exact zprim (.arrayClass .int) (by simp)
      · exact zprim (.arrayClass .byte) (by simp)
      · exact zprim (.arrayClass .boolean) (by simp)
      · exact zprim (.arrayClass .long) (by simp)
    | anewarray idx =>
      dsimp only at h2 ⊢
      rw [Bool.and_eq_true] at h2
      obtain ⟨q, hq, hl⟩ := zL_c h2.1
      have h3 := h2.2
      rw [hq] at h3
      exact ⟨q, hq, hl, of_decide_eq_true h3⟩
    | invokevirtual idx =>
      dsimp only at h2 ⊢
      rw [Bool.or_eq_true, Bool.and_eq_true, decide_eq_true_eq, Bool.and_eq_true, beq_iff_eq] at h2
      rcases h2 with ⟨h3 | h3, h4⟩ | h2
      · subst h3
        exact Or.inl ⟨rfl, zL_pr h4⟩
      · subst h3
        exact Or.inr (Or.inl ⟨rfl, zL_pr h4⟩)
      · refine Or.inr (Or.inr ⟨h2.1, fun M' hP hk => ?_⟩)
        obtain ⟨c1, -, -, c2, -⟩ := zmOk_C (hall k M' hP)
        exact ⟨c1, zL_ml hP h2.2, c2 hk⟩
    | invokespecial idx =>
      dsimp only at h2 ⊢
      rw [Bool.or_eq_true, Bool.and_eq_true, Bool.and_eq_true, beq_iff_eq, beq_iff_eq] at h2
      rcases h2 with h2 | h2
      · refine Or.inl ⟨h2.1, fun M' hP hk => ?_⟩
        obtain ⟨c1, -, -, -, c2⟩ := zmOk_C (hall k M' hP)
        exact ⟨c1, zL_ml hP h2.2, c2 hk⟩
      · obtain ⟨h3, h4⟩ := h2
        subst h3
        exact Or.inr ⟨rfl, zL_pr h4, zprim _ (by simp), zprim _ (by simp)⟩
    | invokestatic idx =>
      dsimp only at h2 ⊢
      rw [Bool.or_eq_true, Bool.and_eq_true, Bool.and_eq_true, beq_iff_eq, decide_eq_true_eq] at h2
      rcases h2 with h2 | h2
      · refine Or.inl ⟨h2.1, fun M' hP hk => ?_⟩
        obtain ⟨c1, -, c2, -, -⟩ := zmOk_C (hall k M' hP)
        exact ⟨c1, zL_ml hP h2.2, c2 hk⟩
      · obtain ⟨h3, h4⟩ := h2
        have h5 := zL_pr h4
        rcases (by omega : r = 2 ∨ r = 3 ∨ r = 4 ∨ r = 5) with rfl | rfl | rfl | rfl
        · exact Or.inr (Or.inl ⟨rfl, h5, zprim _ (by simp), zprim _ (by simp), zprim _ (by simp)⟩)
        · exact Or.inr (Or.inr (Or.inl ⟨rfl, h5, zprim _ (by simp), zprim _ (by simp), zprim _ (by simp)⟩))
        · exact Or.inr (Or.inr (Or.inr (Or.inl ⟨rfl, h5, zprim _ (by simp), zprim _ (by simp), zprim _ (by simp)⟩)))
        · exact Or.inr (Or.inr (Or.inr (Or.inr ⟨rfl, h5, zprim _ (by simp), zprim _ (by simp), zprim _ (by simp)⟩)))
    | _ => trivial
theorem zokM_of (hall : ∀ k M', zP k = some M' → zmc k M' = true) {M : zM} (hM : M.1.cls = zcnn M.2.2.2.2.2.1) (h40 : M.2.2.1 ≤ 40) (h : zchg M 0 M.2.2.2.2.2.2.2 = true) : zokM zP M := ⟨h40, fun pc o e => by
  have := zchg_ok h pc o e
  rw [Nat.zero_add] at this
  exact zchk_ok hall hM this⟩
def zck1 (i : Nat) (M : zM) : Bool := zmc i M && zchg M 0 M.2.2.2.2.2.2.2
