/-! WHAT A TABLE MUST SAY OF AN INSTRUCTION; what holds of the machine between the instructions -/
def ztb : List Cond := lw_tbl.filter goodWord
theorem ztb_good (w : Cond) (h : w ∈ ztb) : w ∈ lw_tbl ∧ ((w.onTables && w.keeps) = true ∨ ∃ ty, w = .arrayClass ty) := by
  unfold ztb at h
  rw [List.mem_filter] at h
  exact ⟨h.1, good_of_word h.2⟩
/-- the length of an instruction, 0 where it varies -/
def zlen : Instr → Nat
  | .bipush _ => 2
  | .sipush _ => 3
  | .ldc _ => 2
  | .ldc_w _ => 3
  | .ldc2_w _ => 3
  | .iload _ => 2
  | .lload _ => 2
  | .aload _ => 2
  | .istore _ => 2
  | .lstore _ => 2
  | .astore _ => 2
  | .iinc _ _ => 3
  | .goto _ => 3
  | .ifCond _ _ => 3
  | .if_icmp _ _ => 3
  | .ifnull _ => 3
  | .ifnonnull _ => 3
  | .tableswitch _ _ _ _ => 0
  | .lookupswitch _ _ => 0
  | .getfield _ => 3
  | .putfield _ => 3
  | .getstatic _ => 3
  | .new _ => 3
  | .newarray _ => 2
  | .anewarray _ => 3
  | .invokevirtual _ => 3
  | .invokespecial _ => 3
  | .invokestatic _ => 3
  | _ => 1
/-- a field of class r by an index of the own class -/
def zokF (own : String) (idx r k : Nat) : Prop := ∃ q : vw_C, vwCl[r]? = some q ∧ k < q.2.2 ∧ Cond.fieldLink own idx (q.2.1 k).1 (q.2.1 k).2.1 (q.2.1 k).2.2.1 ∈ ztb ∧ (∀ w ∈ u_ws q.1 q.2.1 q.2.2, w ∈ ztb) ∧ (∀ j, j < q.2.2 → parseFieldDescriptor (q.2.1 j).2.2.1 = some (zft r j)) ∧ (∀ a, a < q.2.2 → ∀ b, b < q.2.2 → a ≠ b → (q.2.1 a).2.1 ≠ (q.2.1 b).2.1)
def zokN (own : String) (idx r : Nat) : Prop := ∃ q : vw_C, vwCl[r]? = some q ∧ Cond.classLink own idx q.1 ∈ ztb ∧ Cond.instantiable q.1 q.2.2 ∈ ztb ∧ Cond.initialized q.1 ∈ ztb ∧ (∀ w ∈ u_ws q.1 q.2.1 q.2.2, w ∈ ztb) ∧ (∀ j, j < q.2.2 → parseFieldDescriptor (q.2.1 j).2.2.1 = some (zft r j)) ∧ (∀ j, j < q.2.2 → zk (zft r j) < 3)
def znest : List (String × Nat × MethodName × String) := lw_tbl.filterMap fun w => match w with
  | .methodLinkNest a i x h => some (a, i, x, h)
  | _ => none
def zover : List String := ["CorkedTalk$Cellar", "CorkedTalk$Deeds", "CorkedTalk$Log", "CorkedTalk$Told"]
def zstat : List (String × String × String) := [("", "", ""), ("CorkedTalk$Reader", "SORT_OF", "[I"), ("CorkedTalk$Reader", "NUMBERS", "[I"), ("CorkedTalk$Reader", "LOW", "[I"), ("CorkedTalk$Reader", "HIGH", "[I")]
/-- a callee: what every call of it needs -/
def zokC (M' : zM) : Prop := Cond.code M'.1 M'.2.1 M'.2.2.1 M'.2.2.2.1 ∈ ztb ∧ Cond.initialized M'.1.cls ∈ ztb ∧ plainName M'.1.cls = true ∧ (M'.1.cls ≠ "java/lang/invoke/MethodHandle" ∧ M'.1.cls ≠ "java/lang/invoke/VarHandle") ∧ (parseMethodDescriptor M'.1.desc).map (fun d => d.parameters.length) = some M'.2.2.2.2.2.2.1 ∧ M'.2.2.1 ≤ 40
/-- a link to a callee, the common way or a nest mate's -/
def zokL (own : String) (idx : Nat) (y : MethodName) : Prop := Cond.methodLink own idx y ∈ ztb ∨ ∃ host, (own, idx, y, host) ∈ znest
def zokO (P : Nat → Option zM) (M : zM) (pc : Nat) : zO → Prop
  | (i, c, cl, r, k) => (∃ len, decode M.2.1 pc = .ok (i, len) ∧ (zlen i = 0 ∨ len = zlen i)) ∧ match i with
    | .iconst n => Int32.ofInt n = c
    | .bipush n => (Int8.ofInt n).toInt32 = c
    | .sipush n => (Int16.ofInt n).toInt32 = c
    | .lconst n => Int64.ofNat n.val = cl
    | .ldc idx => r = 0 ∧ Cond.constant M.1.cls idx c ∈ ztb
    | .ldc_w idx => Cond.constant M.1.cls idx c ∈ ztb
    | .ldc2_w idx => Cond.constantLong M.1.cls idx cl ∈ ztb
    | .iinc _ n => Int32.ofInt n = c
    | .getfield idx => zokF M.1.cls idx r k
    | .putfield idx => zokF M.1.cls idx r k ∧ ∀ q : vw_C, vwCl[r]? = some q → (q.2.1 k).2.2.2 = true → M.1.name = "<init>" ∧ (q.2.1 k).1 = M.1.cls
    | .getstatic idx => 1 ≤ k ∧ ∃ q, zstat[k]? = some q ∧ Cond.fieldLink M.1.cls idx q.1 q.2.1 q.2.2 ∈ ztb
    | .new idx => zokN M.1.cls idx r
    | .newarray t => Cond.arrayClass (newarray.typeOf t) ∈ ztb
    | .anewarray idx => ∃ q : vw_C, vwCl[r]? = some q ∧ Cond.classLink M.1.cls idx q.1 ∈ ztb ∧ q.1 ∈ zover
    | .invokevirtual idx => r = 0 ∧ ∀ M', P k = some M' → M'.2.2.2.2.1 = 1 → zokC M' ∧ zokL M.1.cls idx M'.1 ∧ Cond.instanceMethod M'.1 ∈ ztb ∧ Cond.selects M'.1.cls M'.1 M'.1 ∈ ztb ∧ (vwCl[M'.2.2.2.2.2.1]?).map (fun q => q.1) = some M'.1.cls
    | .invokespecial idx => (r = 0 ∧ ∀ M', P k = some M' → M'.2.2.2.2.1 = 2 → zokC M' ∧ zokL M.1.cls idx M'.1 ∧ Cond.instanceMethod M'.1 ∈ ztb ∧ M'.1.name = "<init>" ∧ M'.2.2.2.1 = none) ∨ (r = 1 ∧ Cond.methodLink M.1.cls idx Lib.objectInit ∈ ztb ∧ Cond.instanceMethod Lib.objectInit ∈ ztb ∧ Cond.code Lib.objectInit ⟨#[0xb1]⟩ 1 none ∈ ztb)
    | .invokestatic idx => (r = 0 ∧ ∀ M', P k = some M' → M'.2.2.2.2.1 = 0 → zokC M' ∧ zokL M.1.cls idx M'.1 ∧ Cond.static M'.1 ∈ ztb)
      ∨ (r = 2 ∧ Cond.methodLink M.1.cls idx Lib.Math.max.name ∈ ztb ∧ Cond.static Lib.Math.max.name ∈ ztb ∧ Cond.initialized "java/lang/Math" ∈ ztb ∧ Cond.code Lib.Math.max.name Lib.Math.max.code 2 (some .int) ∈ ztb)
      ∨ (r = 3 ∧ Cond.methodLink M.1.cls idx Lib.Math.min.name ∈ ztb ∧ Cond.static Lib.Math.min.name ∈ ztb ∧ Cond.initialized "java/lang/Math" ∈ ztb ∧ Cond.code Lib.Math.min.name Lib.Math.min.code 2 (some .int) ∈ ztb)
      ∨ (r = 4 ∧ Cond.methodLink M.1.cls idx Lib.Math.abs.name ∈ ztb ∧ Cond.static Lib.Math.abs.name ∈ ztb ∧ Cond.initialized "java/lang/Math" ∈ ztb ∧ Cond.code Lib.Math.abs.name Lib.Math.abs.code 1 (some .int) ∈ ztb)
      ∨ (r = 5 ∧ Cond.methodLink M.1.cls idx arraycopyName ∈ ztb ∧ Cond.native arraycopyName ∈ ztb ∧ Cond.static arraycopyName ∈ ztb ∧ Cond.initialized "java/lang/System" ∈ ztb)
    | _ => True
def zokM (P : Nat → Option zM) (M : zM) : Prop := M.2.2.1 ≤ 40 ∧ ∀ pc o, M.2.2.2.2.2.2.2[pc]? = some (some o) → zokO P M pc o
/-- what the tables, the statics and the arrays that are read alone say at a state -/
def zG (D : va_G) (kc : FieldType → ClassId) (A : Nat → Prop) (X : zX) (ro : Nat → Nat) (U : State) (H : Heap) : Prop :=
  va_K D vwCl [] U ∧ (∀ ty cA, U.vm.findClass ("[" ++ FieldType.toString ty) = some cA → cA = kc ty) ∧ (∀ a i x h, (a, i, x, h) ∈ znest → va_Nw (.methodLinkNest a i x h) U) ∧ (∀ C ∈ zover, va_AO C U)
  ∧ (∀ r n f, X r = some (n, f) → ¬ A (ro r) ∧ ro r < H.size ∧ va_X (ro r) n f U H) ∧ (∀ r q, zstat[r + 1]? = some q → va_Z q.1 q.2.1 q.2.2 (.ref (ro (r + 1))) A U H)
theorem zG.moved {D : va_G} {kc : FieldType → ClassId} {A : Nat → Prop} {X : zX} {ro : Nat → Nat} {s U : State} {H H1 : Heap} (h : zG D kc A X ro s H) (hW : s.WarmedH U.vm) (hz : H.size ≤ H1.size) (hq : ∀ a : Nat, a < H.size → ¬ A a → H1[a]? = H[a]?) : zG D kc A X ro U H1 := by
  obtain ⟨h1, h2, h3, h4, h5, h6⟩ := h
  have hv := hW.alike
  refine ⟨va_K.moved hv h1, fun ty cA e => h2 ty cA (by rw [← hv.findClass]; exact e), fun a i x y hm => va_Nw.warmM hW (h3 a i x y hm), fun C hC => va_AO.moved hv (h4 C hC), fun r n f e => ?_, fun r q e => (va_Z.moved hv (h6 r q e)).kept hq⟩
  obtain ⟨a1, a2, a3⟩ := h5 r n f e
  exact ⟨a1, by omega, (va_X.moved hv a3).kept (hq _ a2 a1)⟩
/-- the heap of the abstract machine, in the real one -/
def zIn (D : va_G) (kc : FieldType → ClassId) (A : Nat → Prop) (g : Nat → Nat) (h : zH) (U : State) (H : Heap) : Prop :=
  va_P D vwCl (zW kc g h) H ∧ va_D A (zW kc g h) ∧ (∀ (a : Nat) (ty : FieldType) (n : Nat), h.1[a]? = some (Sum.inl (ty, n)) → ArrOfT U (kc ty) ty ∧ va_RA U (kc ty) ty) ∧ (∀ a k b, h.2.1 a k = some b → b < h.1.length) ∧ h.1.length ≤ zro
  ∧ (∀ (a n j : Nat), h.1[a]? = some (Sum.inl (FieldType.byte, n)) → (h.2.2.1 a j).toInt8.toInt32 = h.2.2.1 a j)
theorem zIn.moved {D : va_G} {kc : FieldType → ClassId} {A : Nat → Prop} {g : Nat → Nat} {h : zH} {s U : State} {H : Heap} (hI : zIn D kc A g h s H) (hv : s.vm.Alike U.vm) : zIn D kc A g h U H := by
  obtain ⟨h1, h2, h3, h4⟩ := hI
  exact ⟨h1, h2, fun a ty n e => ⟨arrOfT_moved hv (h3 a ty n e).1, (h3 a ty n e).2.moved hv⟩, h4⟩
/-- the addresses of what is read alone -/
def zrho (g ro : Nat → Nat) : Prop := ∀ r, g (zro + r) = ro r
/-- a method's start and end -/
def zPc (D : va_G) (kc : FieldType → ClassId) (A : Nat → Prop) (X : zX) (ro g : Nat → Nat) (vs : List Value) (h : zH) : Array Value → State → Prop :=
  va_Pc (vs.map (zcv g)) (fun U => zG D kc A X ro U U.heap ∧ zIn D kc A g h U U.heap ∧ ∀ q, U.heap.size ≤ q → A q)
def zQc (D : va_G) (kc : FieldType → ClassId) (A : Nat → Prop) (g : Nat → Nat) (h : zH) (v : Option Value) (h' : zH) : Array Value → State → Outcome → State → Prop := fun _ st oc t =>
  ∃ g', (∀ a, (a < h.1.length ∨ h'.1.length ≤ a) → g' a = g a) ∧ oc = .returned (v.map (zcv g')) ∧ zIn D kc A g' h' t t.heap ∧ va_F A st t
def zrm (d mc ms : Nat) : Room := { frames := d + 1, cells := mc, slots := ms, locals := 64 * (d + 1) }
def zws (M : zM) : List Cond := Cond.code M.1 M.2.1 M.2.2.1 M.2.2.2.1 :: ztb
/-- what every call of a run's methods keeps -/
def zMet (l : Launch) (P : Nat → Option zM) (D : va_G) (kc : FieldType → ClassId) (A : Nat → Prop) (X : zX) (ro : Nat → Nat) (d : Nat) (cal : zC) : Prop :=
  ∀ mid M' vs h v h', P mid = some M' → (zent vs).length ≤ M'.2.2.1 → cal mid vs h = some (v, h') → ∀ g, zrho g ro → 1 ≤ d ∧ Met l M'.1 (zws M') (zrm (d - 1) (h'.1.length - h.1.length) (zsz h'.1 - zsz h.1)) (zPc D kc A X ro g vs h) (zQc D kc A g h v h') (h'.1.length - h.1.length) (zsz h'.1 - zsz h.1) A
