def zu {α : Type} (f : Nat → Nat → α) (a k : Nat) (v : α) : Nat → Nat → α := fun b j => if b = a ∧ j = k then v else f b j
def zrow {α : Type} (f : Nat → Nat → α) (a : Nat) (g : Nat → α) : Nat → Nat → α := fun b => if b = a then g else f b
theorem zu_row {α : Type} (f : Nat → Nat → α) (a k : Nat) (v : α) : zu f a k v a = fun j => if j = k then v else f a j := by
  funext j; simp [zu]
theorem zu_ne {α : Type} (f : Nat → Nat → α) {a b : Nat} (k : Nat) (v : α) (h : b ≠ a) : zu f a k v b = f b := by
  funext j; simp [zu, h]
theorem zrow_eq {α : Type} (f : Nat → Nat → α) (a : Nat) (g : Nat → α) : zrow f a g a = g := by simp [zrow]
theorem zrow_ne {α : Type} (f : Nat → Nat → α) {a b : Nat} (g : Nat → α) (h : b ≠ a) : zrow f a g b = f b := by simp [zrow, h]
def zrf (r : Option Nat) : Value := match r with
  | none => .null
  | some a => .ref a
def zget (L : zL) (i : Nat) : Option Value := match L[i]? with
  | some (some v) => some v
  | _ => none
/-- a slot ahead of i that holds a long is lost -/
def zlost : Option Value → Option Value
  | some (.long _) => none
  | some (.double _) => none
  | o => o
def zcut (L : zL) (i : Nat) : zL := match i with
  | 0 => L
  | j + 1 => match L[j]? with
    | some o => L.set j (zlost o)
    | none => L
def zset1 (L : zL) (i : Nat) (v : Value) : zL := (zcut L i).set i (some v)
def zset2 (L : zL) (i : Nat) (v : Value) : zL := ((zcut L i).set i (some v)).set (i + 1) none
def zent : List Value → zL
  | [] => []
  | .long x :: vs => some (.long x) :: none :: zent vs
  | .double x :: vs => some (.double x) :: none :: zent vs
  | v :: vs => some v :: zent vs
def zentry (n : Nat) (vs : List Value) : zL := zent vs ++ List.replicate (n - (zent vs).length) none
section ZSTK
variable {α : Type}
def z1i (st : List Value) (k : Int32 → List Value → Option α) : Option α := match st with
  | .int x :: r => k x r
  | _ => none
def z2i (st : List Value) (k : Int32 → Int32 → List Value → Option α) : Option α := match st with
  | .int y :: .int x :: r => k x y r
  | _ => none
def z1l (st : List Value) (k : Int64 → List Value → Option α) : Option α := match st with
  | .long x :: r => k x r
  | _ => none
def z2l (st : List Value) (k : Int64 → Int64 → List Value → Option α) : Option α := match st with
  | .long y :: .long x :: r => k x y r
  | _ => none
def zli (st : List Value) (k : Int64 → Int32 → List Value → Option α) : Option α := match st with
  | .int y :: .long x :: r => k x y r
  | _ => none
def z1a (st : List Value) (k : Nat → List Value → Option α) : Option α := match st with
  | .ref a :: r => k a r
  | _ => none
def zai (st : List Value) (k : Nat → Int32 → List Value → Option α) : Option α := match st with
  | .int i :: .ref a :: r => k a i r
  | _ => none
def zaii (st : List Value) (k : Nat → Int32 → Int32 → List Value → Option α) : Option α := match st with
  | .int x :: .int i :: .ref a :: r => k a i x r
  | _ => none
def zail (st : List Value) (k : Nat → Int32 → Int64 → List Value → Option α) : Option α := match st with
  | .long x :: .int i :: .ref a :: r => k a i x r
  | _ => none
def zaia (st : List Value) (k : Nat → Int32 → Nat → List Value → Option α) : Option α := match st with
  | .ref x :: .int i :: .ref a :: r => k a i x r
  | _ => none
theorem z1i_e {st : List Value} {k : Int32 → List Value → Option α} {z : α} (h : z1i st k = some z) : ∃ x r, st = .int x :: r ∧ k x r = some z := by
  unfold z1i at h; split at h
  · exact ⟨_, _, rfl, h⟩
  · cases h
theorem z2i_e {st : List Value} {k : Int32 → Int32 → List Value → Option α} {z : α} (h : z2i st k = some z) : ∃ x y r, st = .int y :: .int x :: r ∧ k x y r = some z := by
  unfold z2i at h; split at h
  · exact ⟨_, _, _, rfl, h⟩
  · cases h
theorem z1l_e {st : List Value} {k : Int64 → List Value → Option α} {z : α} (h : z1l st k = some z) : ∃ x r, st = .long x :: r ∧ k x r = some z := by
  unfold z1l at h; split at h
  · exact ⟨_, _, rfl, h⟩
  · cases h
theorem z2l_e {st : List Value} {k : Int64 → Int64 → List Value → Option α} {z : α} (h : z2l st k = some z) : ∃ x y r, st = .long y :: .long x :: r ∧ k x y r = some z := by
  unfold z2l at h; split at h
  · exact ⟨_, _, _, rfl, h⟩
  · cases h
theorem zli_e {st : List Value} {k : Int64 → Int32 → List Value → Option α} {z : α} (h : zli st k = some z) : ∃ x y r, st = .int y :: .long x :: r ∧ k x y r = some z := by
  unfold zli at h; split at h
  · exact ⟨_, _, _, rfl, h⟩
  · cases h
theorem z1a_e {st : List Value} {k : Nat → List Value → Option α} {z : α} (h : z1a st k = some z) : ∃ x r, st = .ref x :: r ∧ k x r = some z := by
  unfold z1a at h; split at h
  · exact ⟨_, _, rfl, h⟩
  · cases h
theorem zai_e {st : List Value} {k : Nat → Int32 → List Value → Option α} {z : α} (h : zai st k = some z) : ∃ a i r, st = .int i :: .ref a :: r ∧ k a i r = some z := by
  unfold zai at h; split at h
  · exact ⟨_, _, _, rfl, h⟩
  · cases h
theorem zaii_e {st : List Value} {k : Nat → Int32 → Int32 → List Value → Option α} {z : α} (h : zaii st k = some z) : ∃ a i x r, st = .int x :: .int i :: .ref a :: r ∧ k a i x r = some z := by
  unfold zaii at h; split at h
  · exact ⟨_, _, _, _, rfl, h⟩
  · cases h
theorem zail_e {st : List Value} {k : Nat → Int32 → Int64 → List Value → Option α} {z : α} (h : zail st k = some z) : ∃ a i x r, st = .long x :: .int i :: .ref a :: r ∧ k a i x r = some z := by
  unfold zail at h; split at h
  · exact ⟨_, _, _, _, rfl, h⟩
  · cases h
theorem zaia_e {st : List Value} {k : Nat → Int32 → Nat → List Value → Option α} {z : α} (h : zaia st k = some z) : ∃ a i x r, st = .ref x :: .int i :: .ref a :: r ∧ k a i x r = some z := by
  unfold zaia at h; split at h
  · exact ⟨_, _, _, _, rfl, h⟩
  · cases h
end ZSTK

abbrev zC : Type := Nat → List Value → zH → Option zA
abbrev zN : Type := Option (zF ⊕ zA)
def zgo (pc : Nat) (L : zL) (st : List Value) (h : zH) : zN := some (.inl (pc, L, st, h))
def zjp (pc : Nat) (off : Int) (c : Prop) [Decidable c] (L : zL) (st : List Value) (h : zH) : zN :=
  if 0 ≤ (pc : Int) + off then some (.inl (if c then ((pc : Int) + off).toNat else pc + 3, L, st, h)) else none
def zld (L : zL) (i : Nat) (pc : Nat) (st : List Value) (h : zH) (ok : Value → Bool) : zN := match zget L i with
  | some v => if ok v then zgo pc L (v :: st) h else none
  | none => none
def zisI : Value → Bool
  | .int _ => true
  | _ => false
def zisL : Value → Bool
  | .long _ => true
  | _ => false
def zisA : Value → Bool
  | .ref _ => true
  | .null => true
  | _ => false
def zcat (st : List Value) : Nat := (st.map fun v => v.category).sum
def zin (i : Int32) (n : Nat) : Prop := ¬ (i < 0 ∨ n ≤ i.toNatClampNeg)

/-- an element of an array of whole numbers: the class's own, or one that is read alone -/
def zaload (X : zX) (S : zS) (I : zI) (ty : FieldType) (a : Nat) (i : Int32) (k : Int32 → zN) : zN :=
  if a < zro then match S[a]? with
    | some (.inl (t, n)) => if t = ty then (if i < 0 ∨ n ≤ i.toNatClampNeg then none else k (I a i.toNatClampNeg)) else none
    | _ => none
  else if ty = .int then match X (a - zro) with
    | some (n, f) => if i < 0 ∨ n ≤ i.toNatClampNeg then none else k (f i.toNatClampNeg)
    | none => none
  else none
def zarr (S : zS) (a : Nat) (ty : FieldType) (i : Int32) (k : Nat → zN) : zN := match S[a]? with
  | some (.inl (t, n)) => if t = ty ∧ a < zro then (if i < 0 ∨ n ≤ i.toNatClampNeg then none else k i.toNatClampNeg) else none
  | _ => none
def zobj (S : zS) (a ci : Nat) (k : zN) : zN := match S[a]? with
  | some (.inr c) => if c = ci ∧ a < zro then k else none
  | _ => none
/-- the tape of words: what a String constant holds -/
def zwords : List (List Int32) := [[115, 104, 111, 99, 107], [114, 101, 97, 99, 104], [115, 97, 121, 105, 110, 103], [97, 110, 115, 119, 101, 114, 115], [121, 101, 97, 114], [111, 112, 101, 110], [119, 105, 114, 101], [116, 97, 105, 110, 116], [109, 111, 118, 101], [104, 101, 97, 114, 100], []]
def zbool (x : Int32) : Bool := decide (x = 0 ∨ x = 1)

/-- no reference among them is one of those that are made now -/
def zfr1 (n n' : Nat) : Value → Bool
  | .ref b => decide (b < n ∨ n' ≤ b)
  | _ => true
def zfr (n n' : Nat) (L : zL) (st : List Value) : Bool := st.all (zfr1 n n') && L.all fun o => match o with
  | some v => zfr1 n n' v
  | none => true
def zfin (ret : Option FieldType) (pc : Nat) (L : zL) (rest : List Value) (h : zH) (o : Option zA) : zN := match o with
  | none => none
  | some (v, h') => if h'.1.length = h.1.length ∨ zfr h.1.length h'.1.length L rest = true then (match v with
    | none => if ret = none then zgo (pc + 3) L rest h' else none
    | some w => if ret = none then none else zgo (pc + 3) L (w :: rest) h') else none
def zinvoke (cal : zC) (M' : Option zM) (mid : Nat) (kind : Nat) (pc : Nat) (L : zL) (st : List Value) (h : zH) : zN := match M' with
  | none => none
  | some (_, _, mx, ret, kd, ci, np, _) =>
    if kd = kind then
      let n := if kind = 0 then np else np + 1
      let args := (st.take n).reverse
      let rest := st.drop n
      if n ≤ st.length ∧ zcat rest ≤ 8 ∧ (zent args).length ≤ mx then
        (if kind = 0 then zfin ret pc L rest h (cal mid args h) else match args with
          | .ref a :: _ => zobj h.1 a ci (zfin ret pc L rest h (cal mid args h))
          | _ => none)
      else none
    else none
def zret (M : zM) (st : List Value) (h : zH) (i : Instr) : zN := match i, M.2.2.2.1, st with
  | .return_, none, [] => some (.inr (none, h))
  | .ireturn, some .int, [.int x] => some (.inr (some (.int x), h))
  | .ireturn, some .boolean, [.int x] => if zbool x then some (.inr (some (.int x), h)) else none
  | .lreturn, some .long, [.long x] => some (.inr (some (.long x), h))
  | .areturn, some (.object _), [.ref a] => some (.inr (some (.ref a), h))
  | .areturn, some (.object _), [.null] => some (.inr (some .null, h))
  | _, _, _ => none
/-- one step -/
def zstep (X : zX) (P : Nat → Option zM) (cal : zC) (M : zM) : zF → zN
  | (pc, L, st, h) => match M.2.2.2.2.2.2.2[pc]? with
    | some (some (i, c, cl, r, k)) => match i with
      | .iconst _ => zgo (pc + 1) L (.int c :: st) h
      | .bipush _ => zgo (pc + 2) L (.int c :: st) h
      | .sipush _ => zgo (pc + 3) L (.int c :: st) h
      | .lconst _ => zgo (pc + 1) L (.long cl :: st) h
      | .aconst_null => zgo (pc + 1) L (.null :: st) h
      | .ldc _ => if r = 0 then zgo (pc + 2) L (.int c :: st) h else zgo (pc + 2) L (.ref (zstr + k) :: st) h
      | .ldc_w _ => zgo (pc + 3) L (.int c :: st) h
      | .ldc2_w _ => zgo (pc + 3) L (.long cl :: st) h
      | .iload_n n => zld L n.val (pc + 1) st h zisI
      | .iload n => zld L n (pc + 2) st h zisI
      | .lload_n n => zld L n.val (pc + 1) st h zisL
      | .lload n => zld L n (pc + 2) st h zisL
      | .aload_n n => zld L n.val (pc + 1) st h zisA
      | .aload n => zld L n (pc + 2) st h zisA
      | .istore_n n => z1i st fun x r => if n.val < L.length then zgo (pc + 1) (zset1 L n.val (.int x)) r h else none
      | .istore n => z1i st fun x r => if n < L.length then zgo (pc + 2) (zset1 L n (.int x)) r h else none
      | .lstore_n n => z1l st fun x r => if n.val + 1 < L.length then zgo (pc + 1) (zset2 L n.val (.long x)) r h else none
      | .lstore n => z1l st fun x r => if n + 1 < L.length then zgo (pc + 2) (zset2 L n (.long x)) r h else none
      | .astore_n n => match st with
        | .ref x :: r => if n.val < L.length then zgo (pc + 1) (zset1 L n.val (.ref x)) r h else none
        | .null :: r => if n.val < L.length then zgo (pc + 1) (zset1 L n.val .null) r h else none
        | _ => none
      | .astore n => match st with
        | .ref x :: r => if n < L.length then zgo (pc + 2) (zset1 L n (.ref x)) r h else none
        | .null :: r => if n < L.length then zgo (pc + 2) (zset1 L n .null) r h else none
        | _ => none
      | .iinc n _ => match zget L n with
        | some (.int x) => if n < L.length then zgo (pc + 3) (zset1 L n (.int (x + c))) st h else none
        | _ => none
      | .iadd => z2i st fun x y r => zgo (pc + 1) L (.int (x + y) :: r) h
      | .isub => z2i st fun x y r => zgo (pc + 1) L (.int (x - y) :: r) h
      | .imul => z2i st fun x y r => zgo (pc + 1) L (.int (x * y) :: r) h
      | .idiv => z2i st fun x y r => if y = 0 then none else zgo (pc + 1) L (.int (x / y) :: r) h
      | .irem => z2i st fun x y r => if y = 0 then none else zgo (pc + 1) L (.int (x - x / y * y) :: r) h
      | .ineg => z1i st fun x r => zgo (pc + 1) L (.int (-x) :: r) h
      | .iand => z2i st fun x y r => zgo (pc + 1) L (.int (x &&& y) :: r) h
      | .ior => z2i st fun x y r => zgo (pc + 1) L (.int (x ||| y) :: r) h
      | .ixor => z2i st fun x y r => zgo (pc + 1) L (.int (x ^^^ y) :: r) h
      | .ishl => z2i st fun x y r => zgo (pc + 1) L (.int (x <<< (y &&& 31)) :: r) h
      | .ishr => z2i st fun x y r => zgo (pc + 1) L (.int (x >>> (y &&& 31)) :: r) h
      | .iushr => z2i st fun x y r => zgo (pc + 1) L (.int (x.toUInt32 >>> (y.toUInt32 &&& Int32.toUInt32 31)).toInt32 :: r) h
      | .ladd => z2l st fun x y r => zgo (pc + 1) L (.long (x + y) :: r) h
      | .lsub => z2l st fun x y r => zgo (pc + 1) L (.long (x - y) :: r) h
      | .lmul => z2l st fun x y r => zgo (pc + 1) L (.long (x * y) :: r) h
      | .ldiv => z2l st fun x y r => if y = 0 then none else zgo (pc + 1) L (.long (x / y) :: r) h
      | .lrem => z2l st fun x y r => if y = 0 then none else zgo (pc + 1) L (.long (x - x / y * y) :: r) h
      | .lor => z2l st fun x y r => zgo (pc + 1) L (.long (x ||| y) :: r) h
      | .lcmp => z2l st fun x y r => zgo (pc + 1) L (.int (lg_cmp x y) :: r) h
      | .lshl => zli st fun x y r => zgo (pc + 1) L (.long (x <<< (y.toInt64 &&& 63)) :: r) h
      | .lushr => zli st fun x y r => zgo (pc + 1) L (.long (x.toUInt64 >>> (y.toInt64.toUInt64 &&& Int64.toUInt64 63)).toInt64 :: r) h
      | .i2l => z1i st fun x r => zgo (pc + 1) L (.long x.toInt64 :: r) h
      | .l2i => z1l st fun x r => zgo (pc + 1) L (.int x.toInt32 :: r) h
      | .i2b => z1i st fun x r => zgo (pc + 1) L (.int x.toInt8.toInt32 :: r) h
      | .dup => match st with
        | .int x :: r => zgo (pc + 1) L (.int x :: .int x :: r) h
        | .ref x :: r => zgo (pc + 1) L (.ref x :: .ref x :: r) h
        | _ => none
      | .dup2 => match st with
        | .int x :: .ref y :: r => zgo (pc + 1) L (.int x :: .ref y :: .int x :: .ref y :: r) h
        | _ => none
      | .pop => match st with
        | .int _ :: r => zgo (pc + 1) L r h
        | .ref _ :: r => zgo (pc + 1) L r h
        | _ => none
      | .goto off => if 0 ≤ (pc : Int) + off then zgo ((pc : Int) + off).toNat L st h else none
      | .ifCond .eq off => z1i st fun x r => zjp pc off (x = 0) L r h
      | .ifCond .ne off => z1i st fun x r => zjp pc off (¬ x = 0) L r h
      | .ifCond .lt off => z1i st fun x r => zjp pc off (x < 0) L r h
      | .ifCond .ge off => z1i st fun x r => zjp pc off (0 ≤ x) L r h
      | .ifCond .gt off => z1i st fun x r => zjp pc off (0 < x) L r h
      | .ifCond .le off => z1i st fun x r => zjp pc off (x ≤ 0) L r h
      | .if_icmp .eq off => z2i st fun x y r => zjp pc off (x = y) L r h
      | .if_icmp .ne off => z2i st fun x y r => zjp pc off (¬ x = y) L r h
      | .if_icmp .lt off => z2i st fun x y r => zjp pc off (x < y) L r h
      | .if_icmp .ge off => z2i st fun x y r => zjp pc off (y ≤ x) L r h
      | .if_icmp .gt off => z2i st fun x y r => zjp pc off (y < x) L r h
      | .if_icmp .le off => z2i st fun x y r => zjp pc off (x ≤ y) L r h
      | .ifnull off => match st with
        | .ref _ :: r => zgo (pc + 3) L r h
        | .null :: r => if 0 ≤ (pc : Int) + off then zgo ((pc : Int) + off).toNat L r h else none
        | _ => none
      | .ifnonnull off => match st with
        | .ref _ :: r => if 0 ≤ (pc : Int) + off then zgo ((pc : Int) + off).toNat L r h else none
        | .null :: r => zgo (pc + 3) L r h
        | _ => none
      | .tableswitch dflt lo hi offs => z1i st fun x r =>
        if x.toInt < lo ∨ hi < x.toInt then (if 0 ≤ (pc : Int) + dflt then zgo ((pc : Int) + dflt).toNat L r h else none)
        else match offs[(x.toInt - lo).toNat]? with
          | some off => if 0 ≤ (pc : Int) + off then zgo ((pc : Int) + off).toNat L r h else none
          | none => none
      | .lookupswitch dflt ps => z1i st fun x r =>
        if (ps.toList.zip (ps.toList.drop 1)).all (fun (a, next) => a.1 < next.1) = true ∧ 0 ≤ (pc : Int) + Op.lookupswitch.offset ps.toList dflt x.toInt then zgo ((pc : Int) + Op.lookupswitch.offset ps.toList dflt x.toInt).toNat L r h else none
      | .arraylength => z1a st fun a r => if a < zro then (match h.1[a]? with
          | some (.inl (_, n)) => zgo (pc + 1) L (.int (Int32.ofNat n) :: r) h
          | _ => none) else (match X (a - zro) with
          | some (n, _) => zgo (pc + 1) L (.int (Int32.ofNat n) :: r) h
          | none => none)
      | .iaload => zai st fun a j r => zaload X h.1 h.2.2.1 .int a j fun v => zgo (pc + 1) L (.int v :: r) h
      | .baload => zai st fun a j r => if k = 0 then (zaload X h.1 h.2.2.1 .byte a j fun v => zgo (pc + 1) L (.int v :: r) h) else (zaload X h.1 h.2.2.1 .boolean a j fun v => zgo (pc + 1) L (.int v :: r) h)
      | .laload => zai st fun a j r => zarr h.1 a .long j fun n => zgo (pc + 1) L (.long (h.2.2.2 a n) :: r) h
      | .aaload => zai st fun a j r => match h.1[a]? with
        | some (.inl (.object C, n)) => zarr h.1 a (.object C) j fun q => zgo (pc + 1) L (zrf (h.2.1 a q) :: r) h
        | _ => none
      | .iastore => zaii st fun a j x r => zarr h.1 a .int j fun n => zgo (pc + 1) L r (h.1, h.2.1, zu h.2.2.1 a n x, h.2.2.2)
      | .bastore => zaii st fun a j x r => if k = 0 then (zarr h.1 a .byte j fun n => zgo (pc + 1) L r (h.1, h.2.1, zu h.2.2.1 a n x.toInt8.toInt32, h.2.2.2)) else (zarr h.1 a .boolean j fun n => zgo (pc + 1) L r (h.1, h.2.1, zu h.2.2.1 a n (vp_nar .boolean x), h.2.2.2))
      | .lastore => zail st fun a j x r => zarr h.1 a .long j fun n => zgo (pc + 1) L r (h.1, h.2.1, h.2.2.1, zu h.2.2.2 a n x)
      | .aastore => zaia st fun a j x r => match h.1[a]?, h.1[x]? with
        | some (.inl (.object C, n)), some (.inr ci) => if (vwCl[ci]?).map (fun q => q.1) = some C then (if a < zro then (zarr h.1 a (.object C) j fun q => zgo (pc + 1) L r (h.1, zu h.2.1 a q (some x), h.2.2.1, h.2.2.2)) else none) else none
        | _, _ => none
      | .getfield _ => z1a st fun a q => zobj h.1 a r (match zk (zft r k) with
        | 0 => zgo (pc + 3) L (.int (h.2.2.1 a k) :: q) h
        | 1 => zgo (pc + 3) L (.long (h.2.2.2 a k) :: q) h
        | 2 => zgo (pc + 3) L (zrf (h.2.1 a k) :: q) h
        | _ => none)
      | .putfield _ => match st with
        | .int x :: .ref a :: q => zobj h.1 a r (if zk (zft r k) = 0 ∧ (zft r k = .int ∨ zft r k = .boolean ∧ zbool x = true) then zgo (pc + 3) L q (h.1, h.2.1, zu h.2.2.1 a k x, h.2.2.2) else none)
        | .long x :: .ref a :: q => zobj h.1 a r (if zk (zft r k) = 1 then zgo (pc + 3) L q (h.1, h.2.1, h.2.2.1, zu h.2.2.2 a k x) else none)
        | .ref x :: .ref a :: q => zobj h.1 a r (if zk (zft r k) = 2 ∧ x < h.1.length then zgo (pc + 3) L q (h.1, zu h.2.1 a k (some x), h.2.2.1, h.2.2.2) else none)
        | _ => none
      | .getstatic _ => if (X k).isSome then zgo (pc + 3) L (.ref (zro + k) :: st) h else none
      | .new _ => if h.1.length < zro ∧ zfr h.1.length (h.1.length + 1) L st = true then (match vwCl[r]? with
        | some (_, _, N) => zgo (pc + 3) L (.ref h.1.length :: st) (h.1 ++ [.inr r], zrow h.2.1 h.1.length (fun _ => none), zrow h.2.2.1 h.1.length (fun _ => 0), zrow h.2.2.2 h.1.length (fun _ => 0))
        | none => none) else none
      | .newarray t => z1i st fun x q => if h.1.length < zro ∧ ¬ x < 0 ∧ x < 100000 ∧ zk (newarray.typeOf t) < 2 ∧ zfr h.1.length (h.1.length + 1) L q = true then zgo (pc + 2) L (.ref h.1.length :: q) (h.1 ++ [.inl (newarray.typeOf t, x.toNatClampNeg)], zrow h.2.1 h.1.length (fun _ => none), zrow h.2.2.1 h.1.length (fun _ => 0), zrow h.2.2.2 h.1.length (fun _ => 0)) else none
      | .anewarray _ => z1i st fun x q => if h.1.length < zro ∧ ¬ x < 0 ∧ x < 100000 ∧ zfr h.1.length (h.1.length + 1) L q = true then (match vwCl[r]? with
        | some (C, _, _) => zgo (pc + 3) L (.ref h.1.length :: q) (h.1 ++ [.inl (.object C, x.toNatClampNeg)], zrow h.2.1 h.1.length (fun _ => none), zrow h.2.2.1 h.1.length (fun _ => 0), zrow h.2.2.2 h.1.length (fun _ => 0))
        | none => none) else none
      | .invokevirtual _ => if r = 0 then zinvoke cal (P k) k 1 pc L st h
        else if r = 6 then (match st with
          | .ref a :: q => (match zwords[a - zstr]? with
            | some w => if zstr ≤ a ∧ zcat q ≤ 8 then zgo (pc + 3) L (.int (Int32.ofNat w.length) :: q) h else none
            | none => none)
          | _ => none)
        else if r = 7 then zai st fun a j q => (match zwords[a - zstr]? with
            | some w => if zstr ≤ a ∧ zcat q ≤ 8 ∧ ¬ (j < 0 ∨ w.length ≤ j.toNatClampNeg) then zgo (pc + 3) L (.int (w.getD j.toNatClampNeg 0) :: q) h else none
            | none => none)
        else none
      | .invokespecial _ => if r = 0 then zinvoke cal (P k) k 2 pc L st h
        else if r = 1 then z1a st fun a q => if zcat q ≤ 8 then zgo (pc + 3) L q h else none
        else none
      | .invokestatic _ => if r = 0 then zinvoke cal (P k) k 0 pc L st h
        else if r = 2 then z2i st fun x y q => if zcat q ≤ 8 then zgo (pc + 3) L (.int (if x < y then y else x) :: q) h else none
        else if r = 3 then z2i st fun x y q => if zcat q ≤ 8 then zgo (pc + 3) L (.int (if y < x then y else x) :: q) h else none
        else if r = 4 then z1i st fun x q => if zcat q ≤ 8 then zgo (pc + 3) L (.int (if 0 ≤ x then x else 0 - x) :: q) h else none
        else if r = 5 then (match st with
          | .int n :: .int dp :: .ref b :: .int sp :: .ref a :: q => (match h.1[a]?, h.1[b]? with
            | some (.inl (t0, n0)), some (.inl (t1, n1)) =>
              if t0 = t1 ∧ (t0 = .int ∨ t0 = .byte) ∧ a < zro ∧ b < zro ∧ ¬ sp < 0 ∧ ¬ dp < 0 ∧ ¬ n < 0 ∧ sp.toNatClampNeg + n.toNatClampNeg ≤ n0 ∧ dp.toNatClampNeg + n.toNatClampNeg ≤ n1 ∧ zcat q ≤ 8 then
                zgo (pc + 3) L q (h.1, h.2.1, zrow h.2.2.1 b (va_cpy (h.2.2.1 a) (h.2.2.1 b) sp.toNatClampNeg dp.toNatClampNeg n.toNatClampNeg), h.2.2.2)
              else none
            | _, _ => none)
          | _ => none)
        else none
      | .return_ => zret M st h i
      | .ireturn => zret M st h i
      | .lreturn => zret M st h i
      | .areturn => zret M st h i
      | _ => none
    | _ => none
