/-! A CHECK OF THE TABLES, AND WHAT IT SAYS -/
def zcnn (oc : Nat) : String := zcn.getD oc ""
theorem zws0 : ∀ r, r < 12 → ∀ q, vwCl[r]? = some q → (∀ w ∈ u_ws q.1 q.2.1 q.2.2, goodWord w = true) := by decide +kernel
theorem zcls_in (r : Nat) (q : vw_C) (h : vwCl[r]? = some q) : ∀ w ∈ u_ws q.1 q.2.1 q.2.2, w ∈ ztb := by
  have hr : r < 12 := (List.getElem?_eq_some_iff.mp h).1
  have hg := zws0 r hr q h
  intro w hw
  refine List.mem_filter.mpr ⟨?_, hg w hw⟩
  match r, h with
  | 0, h => cases h; exact inX0 w hw
  | 1, h => cases h; exact inX1 w hw
  | 2, h => cases h; exact inX2 w hw
  | 3, h => cases h; exact inX3 w hw
  | 4, h => cases h; exact inX4 w hw
  | 5, h => cases h; exact inX6 w hw
  | 6, h => cases h; exact inX7 w hw
  | 7, h => cases h; exact inX8 w hw
  | 8, h => cases h; exact inX9 w hw
  | 9, h => cases h; exact inX10 w hw
  | 10, h => cases h; exact inX11 w hw
  | 11, h => cases h; exact inX12 w hw
  | k + 12, h => exact absurd hr (by omega)
theorem zcls_ty (r : Nat) (q : vw_C) (h : vwCl[r]? = some q) : ∀ j, j < q.2.2 → parseFieldDescriptor (q.2.1 j).2.2.1 = some (zft r j) := by
  have hr : r < 12 := (List.getElem?_eq_some_iff.mp h).1
  match r, h with
  | 0, h => cases h; exact tyX0_ok
  | 1, h => cases h; exact tyX1_ok
  | 2, h => cases h; exact tyX2_ok
  | 3, h => cases h; exact tyX3_ok
  | 4, h => cases h; exact tyX4_ok
  | 5, h => cases h; exact tyX6_ok
  | 6, h => cases h; exact tyX7_ok
  | 7, h => cases h; exact tyX8_ok
  | 8, h => cases h; exact tyX9_ok
  | 9, h => cases h; exact tyX10_ok
  | 10, h => cases h; exact tyX11_ok
  | 11, h => cases h; exact tyX12_ok
  | k + 12, h => exact absurd hr (by omega)
theorem zcls_nm (r : Nat) (q : vw_C) (h : vwCl[r]? = some q) : ∀ a, a < q.2.2 → ∀ b, b < q.2.2 → a ≠ b → (q.2.1 a).2.1 ≠ (q.2.1 b).2.1 := by
  have hr : r < 12 := (List.getElem?_eq_some_iff.mp h).1
  match r, h with
  | 0, h => cases h; exact nmX0
  | 1, h => cases h; exact nmX1
  | 2, h => cases h; exact nmX2
  | 3, h => cases h; exact nmX3
  | 4, h => cases h; exact nmX4
  | 5, h => cases h; exact nmX6
  | 6, h => cases h; exact nmX7
  | 7, h => cases h; exact nmX8
  | 8, h => cases h; exact nmX9
  | 9, h => cases h; exact nmX10
  | 10, h => cases h; exact nmX11
  | 11, h => cases h; exact nmX12
  | k + 12, h => exact absurd hr (by omega)
theorem zcls_k : ∀ r, r < 12 → ∀ q, vwCl[r]? = some q → ∀ j, j < q.2.2 → zk (zft r j) < 3 := by decide +kernel
/-! the links -/
def zflc (q : Nat × Nat × Nat × Nat × Nat) : Bool := match vwCl[q.2.2.1]? with
  | some c => decide (q.2.2.2.1 < c.2.2) && zat q.2.2.2.2 (.fieldLink (zcnn q.1) q.2.1 (c.2.1 q.2.2.2.1).1 (c.2.1 q.2.2.2.1).2.1 (c.2.1 q.2.2.2.1).2.2.1)
  | none => false
set_option maxRecDepth 100000 in
theorem zfl_ok : zfl.all zflc = true := by decide +kernel
def zmlc (q : Nat × Nat × Nat × Nat) : Bool := match zP q.2.2.1 with
  | some M => zat q.2.2.2 (.methodLink (zcnn q.1) q.2.1 M.1)
  | none => true
set_option maxRecDepth 100000 in
theorem zml_ok : zml.all zmlc = true := by decide +kernel
def zmnc (q : Nat × Nat × Nat × String) : Bool := match zP q.2.2.1 with
  | some M => decide ((zcnn q.1, q.2.1, M.1, q.2.2.2) ∈ znest)
  | none => true
set_option maxRecDepth 100000 in
theorem zmn_ok : zmn.all zmnc = true := by decide +kernel
def zclc (q : Nat × Nat × Nat × Nat) : Bool := match vwCl[q.2.2.1]? with
  | some c => zat q.2.2.2 (.classLink (zcnn q.1) q.2.1 c.1)
  | none => false
set_option maxRecDepth 100000 in
theorem zcl_ok : zcl.all zclc = true := by decide +kernel
set_option maxRecDepth 100000 in
theorem zci_ok : zci.all (fun q => zat q.2.2.2 (.constant (zcnn q.1) q.2.1 q.2.2.1)) = true := by decide +kernel
set_option maxRecDepth 100000 in
theorem zcL_ok : zcL.all (fun q => zat q.2.2.2 (.constantLong (zcnn q.1) q.2.1 q.2.2.1)) = true := by decide +kernel
def zprn (r : Nat) : MethodName := if r = 1 then Lib.objectInit else if r = 2 then Lib.Math.max.name else if r = 3 then Lib.Math.min.name else if r = 4 then Lib.Math.abs.name else if r = 6 then yJ0_length_8abf5 else if r = 7 then yJ0_charAt_5068e else arraycopyName
set_option maxRecDepth 100000 in
theorem zpr_ok : zpr.all (fun q => zat q.2.2.2 (.methodLink (zcnn q.1) q.2.1 (zprn q.2.2.1))) = true := by decide +kernel
theorem zmem (w : Cond) (h : (decide (w ∈ lw_tbl) && goodWord w) = true) : w ∈ ztb := by
  rw [Bool.and_eq_true, decide_eq_true_eq] at h
  exact List.mem_filter.mpr h
set_option maxRecDepth 100000 in
theorem zw_ini : ∀ r, r < 12 → ∀ q, vwCl[r]? = some q → q.1 ∈ ["CorkedTalk", "CorkedTalkModel", "CorkedTalk$Told", "CorkedTalk$Cellar", "CorkedTalk$Deeds", "CorkedTalk$Log", "CorkedTalk$Reader", "CorkedTalk$Run", "CorkedTalk$Trains", "CorkedTalk$Laying", "CorkedTalk$Orders", "CorkedTalk$Laws"] → (decide (Cond.initialized q.1 ∈ lw_tbl) && goodWord (Cond.initialized q.1)) = true ∧ (decide (Cond.instantiable q.1 q.2.2 ∈ lw_tbl) && goodWord (Cond.instantiable q.1 q.2.2)) = true := by decide +kernel
set_option maxRecDepth 100000 in
theorem zw_prim : ([.instanceMethod Lib.objectInit, .code Lib.objectInit ⟨#[0xb1]⟩ 1 none, .static Lib.Math.max.name, .initialized "java/lang/Math", .code Lib.Math.max.name Lib.Math.max.code 2 (some .int), .static Lib.Math.min.name, .code Lib.Math.min.name Lib.Math.min.code 2 (some .int), .static Lib.Math.abs.name, .code Lib.Math.abs.name Lib.Math.abs.code 1 (some .int), .native arraycopyName, .static arraycopyName, .initialized "java/lang/System", .arrayClass .int, .arrayClass .byte, .arrayClass .boolean, .arrayClass .long] : List Cond).all (fun w => decide (w ∈ lw_tbl) && goodWord w) = true := by decide +kernel
/-! a callee -/
def zmc (i : Nat) (M : zM) : Bool := match zpm[i]? with
  | some q => zat q.1 (.code M.1 M.2.1 M.2.2.1 M.2.2.2.1) && zat q.2.1 (.initialized M.1.cls) && plainName M.1.cls && decide (M.1.cls ≠ "java/lang/invoke/MethodHandle" ∧ M.1.cls ≠ "java/lang/invoke/VarHandle") && decide ((parseMethodDescriptor M.1.desc).map (fun d => d.parameters.length) = some M.2.2.2.2.2.2.1) && decide (M.2.2.1 ≤ 40) && decide (M.1.cls = zcnn M.2.2.2.2.2.1)
    && (match M.2.2.2.2.1 with
      | 0 => zat q.2.2.1 (.static M.1)
      | 1 => zat q.2.2.1 (.instanceMethod M.1) && zat q.2.2.2 (.selects M.1.cls M.1 M.1) && decide ((vwCl[M.2.2.2.2.2.1]?).map (fun q => q.1) = some M.1.cls)
      | _ => zat q.2.2.1 (.instanceMethod M.1) && decide (M.1.name = "<init>" ∧ M.2.2.2.1 = none))
  | none => false
