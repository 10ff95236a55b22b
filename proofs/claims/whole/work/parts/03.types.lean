/-! AN ABSTRACT MACHINE: heap as shapes, references, ints and longs by (address, place); a step, a run with fuel and depth -/
abbrev zS : Type := List ((FieldType × Nat) ⊕ Nat)
abbrev zR : Type := Nat → Nat → Option Nat
abbrev zI : Type := Nat → Nat → Int32
abbrev zJ : Type := Nat → Nat → Int64
abbrev zH : Type := zS × zR × zI × zJ
abbrev zL : Type := List (Option Value)
/-- instruction, an int, a long, two numbers that the table resolves -/
abbrev zO : Type := Instr × Int32 × Int64 × Nat × Nat
/-- name, bytes, locals, answer, 0 static 1 virtual 2 constructor, class number of the receiver, number of parameters, instructions by pc -/
abbrev zM : Type := MethodName × ByteArray × Nat × Option FieldType × Nat × Nat × Nat × List (Option zO)
abbrev zX : Type := Nat → Option (Nat × (Nat → Int32))
abbrev zF : Type := Nat × zL × List Value × zH
abbrev zA : Type := Option Value × zH
def zro : Nat := 1000
def zstr : Nat := 2000
/-- 0 a whole number, 1 a long, 2 a reference, 3 none of them -/
def zk : FieldType → Nat
  | .int => 0
  | .boolean => 0
  | .byte => 0
  | .long => 1
  | .object _ => 2
  | .array _ => 2
  | _ => 3
/-- the type of field k of class c (numbers of vwCl) -/
def zft (c k : Nat) : FieldType := match c with
  | 0 => tyX0 k
  | 1 => tyX1 k
  | 2 => tyX2 k
  | 3 => tyX3 k
  | 4 => tyX4 k
  | 5 => tyX6 k
  | 6 => tyX7 k
  | 7 => tyX8 k
  | 8 => tyX9 k
  | 9 => tyX10 k
  | 10 => tyX11 k
  | _ => tyX12 k
/-! WHAT A TABLE MUST SAY OF AN INSTRUCTION; what holds of the machine between the instructions -/
def ztb : List Cond := lw_tbl.filter goodWord
theorem ztb_good (w : Cond) (h : w ∈ ztb) : w ∈ lw_tbl ∧ ((w.onTables && w.keeps) = true ∨ ∃ ty, w = .arrayClass ty) := by
  unfold ztb at h
  rw [List.mem_filter] at h
  exact ⟨h.1, good_of_word h.2⟩
/-- the length of an instruction, 0 where it varies -/
def zlen : Instr → Nat
  | .bipush _ => 2
  | .sipush _ => 3
  | .ldc _ => 2
  | .ldc_w _ => 3
  | .ldc2_w _ => 3
  | .iload _ => 2
  | .lload _ => 2
  | .aload _ => 2
  | .istore _ => 2
  | .lstore _ => 2
  | .astore _ => 2
  | .iinc _ _ => 3
  | .goto _ => 3
  | .ifCond _ _ => 3
  | .if_icmp _ _ => 3
  | .ifnull _ => 3
  | .ifnonnull _ => 3
  | .tableswitch _ _ _ _ => 0
  | .lookupswitch _ _ => 0
  | .getfield _ => 3
  | .putfield _ => 3
  | .getstatic _ => 3
  | .new _ => 3
  | .newarray _ => 2
  | .anewarray _ => 3
  | .invokevirtual _ => 3
  | .invokespecial _ => 3
  | .invokestatic _ => 3
  | _ => 1
/-- a field of class r by an index of the own class -/
def zokF (own : String) (idx r k : Nat) : Prop := ∃ q : vw_C, vwCl[r]? = some q ∧ k < q.2.2 ∧ Cond.fieldLink own idx (q.2.1 k).1 (q.2.1 k).2.1 (q.2.1 k).2.2.1 ∈ ztb ∧ (∀ w ∈ u_ws q.1 q.2.1 q.2.2, w ∈ ztb) ∧ (∀ j, j < q.2.2 → parseFieldDescriptor (q.2.1 j).2.2.1 = some (zft r j)) ∧ (∀ a, a < q.2.2 → ∀ b, b < q.2.2 → a ≠ b → (q.2.1 a).2.1 ≠ (q.2.1 b).2.1)
def zokN (own : String) (idx r : Nat) : Prop := ∃ q : vw_C, vwCl[r]? = some q ∧ Cond.classLink own idx q.1 ∈ ztb ∧ Cond.instantiable q.1 q.2.2 ∈ ztb ∧ Cond.initialized q.1 ∈ ztb ∧ (∀ w ∈ u_ws q.1 q.2.1 q.2.2, w ∈ ztb) ∧ (∀ j, j < q.2.2 → parseFieldDescriptor (q.2.1 j).2.2.1 = some (zft r j)) ∧ (∀ j, j < q.2.2 → zk (zft r j) < 3)
def znest : List (String × Nat × MethodName × String) := lw_tbl.filterMap fun w => match w with
  | .methodLinkNest a i x h => some (a, i, x, h)
  | _ => none
def zover : List String := ["CorkedTalk$Cellar", "CorkedTalk$Deeds", "CorkedTalk$Log", "CorkedTalk$Told"]
def zstat : List (String × String × String) := [("", "", ""), ("CorkedTalk$Reader", "SORT_OF", "[I"), ("CorkedTalk$Reader", "NUMBERS", "[I"), ("CorkedTalk$Reader", "LOW", "[I"), ("CorkedTalk$Reader", "HIGH", "[I")]
/-- a callee: what every call of it needs -/
def zokC (M' : zM) : Prop := Cond.code M'.1 M'.2.1 M'.2.2.1 M'.2.2.2.1 ∈ ztb ∧ Cond.initialized M'.1.cls ∈ ztb ∧ plainName M'.1.cls = true ∧ (M'.1.cls ≠ "java/lang/invoke/MethodHandle" ∧ M'.1.cls ≠ "java/lang/invoke/VarHandle") ∧ (parseMethodDescriptor M'.1.desc).map (fun d => d.parameters.length) = some M'.2.2.2.2.2.2.1 ∧ M'.2.2.1 ≤ 40
/-- a link to a callee, the common way or a nest mate's -/
def zokL (own : String) (idx : Nat) (y : MethodName) : Prop := Cond.methodLink own idx y ∈ ztb ∨ ∃ host, (own, idx, y, host) ∈ znest
/-- the places of the words in the pool of Reader -/
def zspool : List Nat := [187, 188, 189, 191, 193, 195, 197, 199, 201, 203, 205]
def zokO (P : Nat → Option zM) (M : zM) (pc : Nat) : zO → Prop
  | (i, c, cl, r, k) => (∃ len, decode M.2.1 pc = .ok (i, len) ∧ (zlen i = 0 ∨ len = zlen i)) ∧ match i with
    | .iconst n => Int32.ofInt n = c
    | .bipush n => (Int8.ofInt n).toInt32 = c
    | .sipush n => (Int16.ofInt n).toInt32 = c
    | .lconst n => Int64.ofNat n.val = cl
    | .ldc idx => (r = 0 ∧ Cond.constant M.1.cls idx c ∈ ztb) ∨ (r = 1 ∧ M.1.cls = "CorkedTalk$Reader" ∧ zspool[k]? = some idx)
    | .ldc_w idx => Cond.constant M.1.cls idx c ∈ ztb
    | .ldc2_w idx => Cond.constantLong M.1.cls idx cl ∈ ztb
    | .iinc _ n => Int32.ofInt n = c
    | .getfield idx => zokF M.1.cls idx r k
    | .putfield idx => zokF M.1.cls idx r k ∧ ∀ q : vw_C, vwCl[r]? = some q → (q.2.1 k).2.2.2 = true → M.1.name = "<init>" ∧ (q.2.1 k).1 = M.1.cls
    | .getstatic idx => 1 ≤ k ∧ ∃ q, zstat[k]? = some q ∧ Cond.fieldLink M.1.cls idx q.1 q.2.1 q.2.2 ∈ ztb
    | .new idx => zokN M.1.cls idx r
    | .newarray t => Cond.arrayClass (newarray.typeOf t) ∈ ztb
    | .anewarray idx => ∃ q : vw_C, vwCl[r]? = some q ∧ Cond.classLink M.1.cls idx q.1 ∈ ztb ∧ q.1 ∈ zover
    | .invokevirtual idx => (r = 6 ∧ Cond.methodLink M.1.cls idx yJ0_length_8abf5 ∈ ztb) ∨ (r = 7 ∧ Cond.methodLink M.1.cls idx yJ0_charAt_5068e ∈ ztb) ∨ r = 0 ∧ ∀ M', P k = some M' → M'.2.2.2.2.1 = 1 → zokC M' ∧ zokL M.1.cls idx M'.1 ∧ Cond.instanceMethod M'.1 ∈ ztb ∧ Cond.selects M'.1.cls M'.1 M'.1 ∈ ztb ∧ (vwCl[M'.2.2.2.2.2.1]?).map (fun q => q.1) = some M'.1.cls
    | .invokespecial idx => (r = 0 ∧ ∀ M', P k = some M' → M'.2.2.2.2.1 = 2 → zokC M' ∧ zokL M.1.cls idx M'.1 ∧ Cond.instanceMethod M'.1 ∈ ztb ∧ M'.1.name = "<init>" ∧ M'.2.2.2.1 = none) ∨ (r = 1 ∧ Cond.methodLink M.1.cls idx Lib.objectInit ∈ ztb ∧ Cond.instanceMethod Lib.objectInit ∈ ztb ∧ Cond.code Lib.objectInit ⟨#[0xb1]⟩ 1 none ∈ ztb)
    | .invokestatic idx => (r = 0 ∧ ∀ M', P k = some M' → M'.2.2.2.2.1 = 0 → zokC M' ∧ zokL M.1.cls idx M'.1 ∧ Cond.static M'.1 ∈ ztb)
      ∨ (r = 2 ∧ Cond.methodLink M.1.cls idx Lib.Math.max.name ∈ ztb ∧ Cond.static Lib.Math.max.name ∈ ztb ∧ Cond.initialized "java/lang/Math" ∈ ztb ∧ Cond.code Lib.Math.max.name Lib.Math.max.code 2 (some .int) ∈ ztb)
      ∨ (r = 3 ∧ Cond.methodLink M.1.cls idx Lib.Math.min.name ∈ ztb ∧ Cond.static Lib.Math.min.name ∈ ztb ∧ Cond.initialized "java/lang/Math" ∈ ztb ∧ Cond.code Lib.Math.min.name Lib.Math.min.code 2 (some .int) ∈ ztb)
      ∨ (r = 4 ∧ Cond.methodLink M.1.cls idx Lib.Math.abs.name ∈ ztb ∧ Cond.static Lib.Math.abs.name ∈ ztb ∧ Cond.initialized "java/lang/Math" ∈ ztb ∧ Cond.code Lib.Math.abs.name Lib.Math.abs.code 1 (some .int) ∈ ztb)
      ∨ (r = 5 ∧ Cond.methodLink M.1.cls idx arraycopyName ∈ ztb ∧ Cond.native arraycopyName ∈ ztb ∧ Cond.static arraycopyName ∈ ztb ∧ Cond.initialized "java/lang/System" ∈ ztb)
    | _ => True
def zokM (P : Nat → Option zM) (M : zM) : Prop := M.2.2.1 ≤ 40 ∧ ∀ pc o, M.2.2.2.2.2.2.2[pc]? = some (some o) → zokO P M pc o
