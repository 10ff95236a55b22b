/-- what the tables, the statics and the arrays that are read alone say at a state -/
def zlens : List Nat := [5, 5, 6, 7, 4, 4, 4, 5, 4, 5, 0]
/-- the String constants -/
def zGs (A : Nat → Prop) (ro : Nat → Nat) (U : State) (H : Heap) : Prop :=
  (∀ k idx, zspool[k]? = some idx → ∃ tx, vk_R "CorkedTalk$Reader" idx tx (ro (1000 + k)) U) ∧ (∃ sv, vk_S 11 zlens zwords (fun k => ro (1000 + k)) sv A U H) ∧ va_Z "java/lang/String" "COMPACT_STRINGS" "Z" (.int 1) A U H ∧ va_Zq "jdk/internal/util/Preconditions" "SIOOBE_FORMATTER" "Ljava/util/function/BiFunction;" A U H
theorem zGs.moved {A : Nat → Prop} {ro : Nat → Nat} {s U : State} {H H1 : Heap} (h : zGs A ro s H) (hW : s.WarmedH U.vm) (hq : ∀ a : Nat, a < H.size → ¬ A a → H1[a]? = H[a]?) : zGs A ro U H1 := by
  obtain ⟨h7, ⟨sv, h8⟩, h9, h10⟩ := h
  have hv := hW.alike
  refine ⟨fun k idx e => ?_, ⟨sv, (vk_S.moved hv h8).kept hq⟩, (va_Z.moved hv h9).kept hq, (va_Zq.moved hv h10).kept hq⟩
  obtain ⟨tx, h⟩ := h7 k idx e
  exact ⟨tx, h.warm hW⟩
theorem zGs.same {A : Nat → Prop} {ro : Nat → Nat} {s U : State} {H : Heap} (h : zGs A ro s H) (hv : s.vm = U.vm) : zGs A ro U H := by
  obtain ⟨h7, ⟨sv, h8⟩, h9, h10⟩ := h
  have ha : s.vm.Alike U.vm := by rw [hv]; exact Vm.Alike.refl _
  exact ⟨fun k idx e => by obtain ⟨tx, h⟩ := h7 k idx e; exact ⟨tx, h.same hv.symm⟩, ⟨sv, vk_S.moved ha h8⟩, va_Z.moved ha h9, va_Zq.moved ha h10⟩
def zG (D : va_G) (kc : FieldType → ClassId) (A : Nat → Prop) (X : zX) (ro : Nat → Nat) (U : State) (H : Heap) : Prop :=
  va_K D vwCl [] U ∧ (∀ ty cA, U.vm.findClass ("[" ++ FieldType.toString ty) = some cA → cA = kc ty) ∧ (∀ a i x h, (a, i, x, h) ∈ znest → va_Nw (.methodLinkNest a i x h) U) ∧ (∀ C ∈ zover, va_AO C U)
  ∧ (∀ r n f, X r = some (n, f) → va_T .int (ro r) n (fun j => .int (f j)) A U H) ∧ (∀ r q, zstat[r + 1]? = some q → va_Z q.1 q.2.1 q.2.2 (.ref (ro (r + 1))) A U H) ∧ zGs A ro U H
theorem zG.moved {D : va_G} {kc : FieldType → ClassId} {A : Nat → Prop} {X : zX} {ro : Nat → Nat} {s U : State} {H H1 : Heap} (h : zG D kc A X ro s H) (hW : s.WarmedH U.vm) (hq : ∀ a : Nat, a < H.size → ¬ A a → H1[a]? = H[a]?) : zG D kc A X ro U H1 := by
  obtain ⟨h1, h2, h3, h4, h5, h6, h7⟩ := h
  have hv := hW.alike
  exact ⟨va_K.moved hv h1, fun ty cA e => h2 ty cA (by rw [← hv.findClass]; exact e), fun a i x y hm => va_Nw.warmM hW (h3 a i x y hm), fun C hC => va_AO.moved hv (h4 C hC), fun r n f e => (va_T.moved hv (h5 r n f e)).kept hq, fun r q e => (va_Z.moved hv (h6 r q e)).kept hq, h7.moved hW hq⟩
/-- the heap of the abstract machine, in the real one -/
def zIn (D : va_G) (kc : FieldType → ClassId) (A : Nat → Prop) (g : Nat → Nat) (h : zH) (U : State) (H : Heap) : Prop :=
  va_P D vwCl (zW kc g h) H ∧ va_D A (zW kc g h) ∧ (∀ (a : Nat) (ty : FieldType) (n : Nat), h.1[a]? = some (Sum.inl (ty, n)) → ArrOfT U (kc ty) ty ∧ va_RA U (kc ty) ty) ∧ (∀ a k b, h.2.1 a k = some b → b < h.1.length) ∧ h.1.length ≤ zro
  ∧ (∀ (a n j : Nat), h.1[a]? = some (Sum.inl (FieldType.byte, n)) → (h.2.2.1 a j).toInt8.toInt32 = h.2.2.1 a j)
theorem zIn.moved {D : va_G} {kc : FieldType → ClassId} {A : Nat → Prop} {g : Nat → Nat} {h : zH} {s U : State} {H : Heap} (hI : zIn D kc A g h s H) (hv : s.vm.Alike U.vm) : zIn D kc A g h U H := by
  obtain ⟨h1, h2, h3, h4⟩ := hI
  exact ⟨h1, h2, fun a ty n e => ⟨arrOfT_moved hv (h3 a ty n e).1, (h3 a ty n e).2.moved hv⟩, h4⟩
/-- the addresses of what is read alone -/
def zrho (g ro : Nat → Nat) : Prop := ∀ r, g (zro + r) = ro r
/-- a method's start and end -/
def zPc (D : va_G) (kc : FieldType → ClassId) (A : Nat → Prop) (X : zX) (ro g : Nat → Nat) (vs : List Value) (h : zH) : Array Value → State → Prop :=
  va_Pc (vs.map (zcv g)) (fun U => zG D kc A X ro U U.heap ∧ zIn D kc A g h U U.heap ∧ ∀ q, U.heap.size ≤ q → A q)
def zQc (D : va_G) (kc : FieldType → ClassId) (A : Nat → Prop) (g : Nat → Nat) (h : zH) (v : Option Value) (h' : zH) : Array Value → State → Outcome → State → Prop := fun _ st oc t =>
  ∃ g', (∀ a, (a < h.1.length ∨ h'.1.length ≤ a) → g' a = g a) ∧ oc = .returned (v.map (zcv g')) ∧ zIn D kc A g' h' t t.heap ∧ va_F A st t
def zrm (d mc ms : Nat) : Room := { frames := d + 5, cells := mc, slots := ms, locals := 64 * (d + 5) }
def zws (M : zM) : List Cond := Cond.code M.1 M.2.1 M.2.2.1 M.2.2.2.1 :: ztb
/-- what every call of a run's methods keeps -/
def zMet (l : Launch) (P : Nat → Option zM) (D : va_G) (kc : FieldType → ClassId) (A : Nat → Prop) (X : zX) (ro : Nat → Nat) (d : Nat) (cal : zC) : Prop :=
  ∀ mid M' vs h v h', P mid = some M' → (zent vs).length ≤ M'.2.2.1 → cal mid vs h = some (v, h') → ∀ g, zrho g ro → 1 ≤ d ∧ Met l M'.1 (zws M') (zrm (d - 1) (h'.1.length - h.1.length) (zsz h'.1 - zsz h.1)) (zPc D kc A X ro g vs h) (zQc D kc A g h v h') (h'.1.length - h.1.length) (zsz h'.1 - zsz h.1) A
/-- String.length and String.charAt of the constants, as rows -/
def zStr (l : Launch) (D : va_G) (kc : FieldType → ClassId) (A : Nat → Prop) (X : zX) (ro : Nat → Nat) : Prop :=
  ∀ (p : Program) (e : Env) (Rm : Room) (s : State) (m : MethodId) (args : Array Value) (below : List Frame) (meth : Method) (c : Code) (Q : State → Prop) (cc : ByteArray) (H : Heap) (locs : List Loc) (cells slots pc : Nat) (ls : Array Slot) (rest : List Value) (own : String) (idx k : Nat) (w : List Int32),
    p.tables.exec = Jvm.exec → c.code = cc → c.maxLocals = ls.size → s.vm.findClass own = some m.cls → (∀ w ∈ ztb, w.before args s = true) → zG D kc A X ro s s.heap → va_S A s.heap H locs → 5 ≤ Rm.frames → 320 ≤ Rm.locals → cells ≤ Rm.cells → slots ≤ Rm.slots → (rest.map fun v => v.category).sum ≤ 8 → zwords[k]? = some w → decode cc pc = .ok (.invokevirtual idx, 3) →
    (Cond.methodLink own idx yJ0_length_8abf5 ∈ ztb → W p l e Rm s m args below meth c H locs cells slots Q (F0 m (pc + 3) ls (.int (Int32.ofNat w.length) :: rest)) → W p l e Rm s m args below meth c H locs cells slots Q (F0 m pc ls (.ref (ro (1000 + k)) :: rest))) ∧
    (∀ j : Int32, vp_in j w.length → Cond.methodLink own idx yJ0_charAt_5068e ∈ ztb → W p l e Rm s m args below meth c H locs cells slots Q (F0 m (pc + 3) ls (.int (w.getD j.toNatClampNeg 0) :: rest)) → W p l e Rm s m args below meth c H locs cells slots Q (F0 m pc ls (.int j :: .ref (ro (1000 + k)) :: rest)))
