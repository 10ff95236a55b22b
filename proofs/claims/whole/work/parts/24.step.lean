/-! ONE STEP OF THE ABSTRACT MACHINE IS ONE OF THE REAL ONE -/
theorem zdec {P : Nat → Option zM} {M : zM} {pc : Nat} {i : Instr} {c : Int32} {cl : Int64} {r k : Nat} (h : zokO P M pc (i, c, cl, r, k)) (hl : zlen i ≠ 0) : decode M.2.1 pc = .ok (i, zlen i) := by
  obtain ⟨⟨len, h1, h2⟩, -⟩ := h
  rcases h2 with h2 | h2
  · exact absurd h2 hl
  · rw [← h2]; exact h1
section ZW
variable {kc : FieldType → ClassId} {g : Nat → Nat} {h : zH} {a n : Nat} {ty : FieldType}
theorem zW_i (hk : zk ty = 0) (e : h.1[a]? = some (.inl (ty, n))) : (zW kc g h)[a]? = some (g a, .inl (kc ty, n, .inl (h.2.2.1 a))) := by
  rw [zW_get e]; simp [zE, hk]
theorem zW_l (hk : zk ty = 1) (e : h.1[a]? = some (.inl (ty, n))) : (zW kc g h)[a]? = some (g a, .inl (kc ty, n, .inr (.inl (h.2.2.2 a)))) := by
  rw [zW_get e]; simp [zE, hk]
theorem zW_r (hk : zk ty = 2) (e : h.1[a]? = some (.inl (ty, n))) : (zW kc g h)[a]? = some (g a, .inl (kc ty, n, .inr (.inr (.inr (.inr (fun j => (h.2.1 a j).map g)))))) := by
  rw [zW_get e]; simp [zE, hk]
theorem zW_o {ci : Nat} (e : h.1[a]? = some (.inr ci)) : (zW kc g h)[a]? = some (g a, .inr (ci, (List.range (zNf ci)).map (zfv g h a ci))) := by
  rw [zW_get e]; rfl
theorem zNf_eq {ci : Nat} {q : vw_C} (e : vwCl[ci]? = some q) : zNf ci = q.2.2 := by
  unfold zNf; rw [e]
end ZW
theorem zIn.put {D : va_G} {kc : FieldType → ClassId} {A : Nat → Prop} {g : Nat → Nat} {h h' : zH} {s : State} {H H1 : Heap} {a : Nat} {sh : (FieldType × Nat) ⊕ Nat} {x : va_E} (hI : zIn D kc A g h s H) (e : h.1[a]? = some sh) (hs : h'.1 = h.1)
    (ho : ∀ b, b ≠ a → h'.2.1 b = h.2.1 b ∧ h'.2.2.1 b = h.2.2.1 b ∧ h'.2.2.2 b = h.2.2.2 b) (hx : zE kc g h' a sh = x) (hR : ∀ b k c, h'.2.1 b k = some c → c < h.1.length) (hB : ∀ (n j : Nat), sh = .inl (.byte, n) → (h'.2.2.1 a j).toInt8.toInt32 = h'.2.2.1 a j)
    (hP : va_P D vwCl ((zW kc g h).set a (g a, x)) H1) (hD : va_D A ((zW kc g h).set a (g a, x))) : zIn D kc A g h' s H1 := by
  obtain ⟨h1, h2, h3, h4, h5, h6⟩ := hI
  subst hx
  have hw := zW_set (kc := kc) (g := g) e hs ho
  rw [← hw] at hP hD
  refine ⟨hP, hD, by rw [hs]; exact h3, by rw [hs]; exact hR, by rw [hs]; exact h5, fun b n j eb => ?_⟩
  rw [hs] at eb
  by_cases hb : b = a
  · subst hb
    have := e.symm.trans eb
    exact hB n j (Option.some.inj this)
  · rw [(ho b hb).2.1]; exact h6 b n j eb
theorem fb8 (x : Int32) : x.toInt8.toInt32.toInt8.toInt32 = x.toInt8.toInt32 := by simp
theorem zvb (x : Int32) : vp_nar .byte x = x.toInt8.toInt32 := vp_nar_byte x
theorem zk_not_byte {ty : FieldType} (h : zk ty ≠ 0) {n m : Nat} : (.inl (ty, n) : (FieldType × Nat) ⊕ Nat) ≠ .inl (.byte, m) := by
  intro e; cases e; exact h rfl
theorem zfr_st {g g2 : Nat → Nat} {n : Nat} {L : zL} {st : List Value} (hf : zfr n (n + 1) L st = true) (hg : ∀ b, b ≠ n → g2 b = g b) : st.map (zcv g2) = st.map (zcv g) := by
  apply List.map_congr_left
  intro v hv
  unfold zfr at hf
  rw [Bool.and_eq_true] at hf
  have h1 := List.all_eq_true.mp hf.1 v hv
  cases v with
  | ref b =>
    simp only [zfr1, decide_eq_true_eq] at h1
    simp only [zcv]; rw [hg b (fun e => by rw [e] at h1; rcases h1 with h | h; exact Nat.lt_irrefl _ h; exact Nat.not_succ_le_self _ h)]
  | _ => rfl
theorem zfr_lv {g g2 : Nat → Nat} {n N : Nat} {L : zL} {st : List Value} {ls : Array Slot} (hf : zfr n (n + 1) L st = true) (hg : ∀ b, b ≠ n → g2 b = g b) (hl : zlv g ls N L) : zlv g2 ls N L := by
  refine ⟨hl.1, hl.2.1, hl.2.2.1, fun i v hv => ?_⟩
  rw [hl.2.2.2 i v hv]
  unfold zfr at hf
  rw [Bool.and_eq_true] at hf
  have hm : some v ∈ L := by
    unfold zget at hv
    split at hv
    · rename_i e; cases hv; exact List.mem_of_getElem? e
    · cases hv
  have h1 := List.all_eq_true.mp hf.2 _ hm
  cases v with
  | ref b =>
    simp only [zfr1, decide_eq_true_eq] at h1
    simp only [zcv]; rw [hg b (fun e => by rw [e] at h1; rcases h1 with h | h; exact Nat.lt_irrefl _ h; exact Nat.not_succ_le_self _ h)]
  | _ => rfl
theorem znat_lt {x : Int32} (h0 : ¬ x < 0) (h1 : x < 100000) : x.toNatClampNeg < 100000 := by
  have a1 : ¬ x.toInt < 0 := fun z => h0 (Int32.lt_iff_toInt_lt.mpr z)
  have a2 : x.toInt < 100000 := Int32.lt_iff_toInt_lt.mp h1
  unfold Int32.toNatClampNeg
  omega
theorem znewIn {D : va_G} {kc : FieldType → ClassId} {A : Nat → Prop} {g g2 : Nat → Nat} {h : zH} {s : State} {H H1 : Heap} {sh : (FieldType × Nat) ⊕ Nat} {q : Nat} {x : va_E} (hI : zIn D kc A g h s H) (hlen : h.1.length < zro) (hg : ∀ b, b ≠ h.1.length → g2 b = g b) (hq : g2 h.1.length = q)
    (hx : zE kc g2 (h.1 ++ [sh], zrow h.2.1 h.1.length (fun _ => none), zrow h.2.2.1 h.1.length (fun _ => 0), zrow h.2.2.2 h.1.length (fun _ => 0)) h.1.length sh = x) (hAr : ∀ (ty : FieldType) (n : Nat), sh = .inl (ty, n) → ArrOfT s (kc ty) ty ∧ va_RA s (kc ty) ty)
    (hP : va_P D vwCl (zW kc g h ++ [(q, x)]) H1 ∧ va_D A (zW kc g h ++ [(q, x)])) : zIn D kc A g2 (h.1 ++ [sh], zrow h.2.1 h.1.length (fun _ => none), zrow h.2.2.1 h.1.length (fun _ => 0), zrow h.2.2.2 h.1.length (fun _ => 0)) s H1 := by
  obtain ⟨h1, h2, h3, h4, h5, h6⟩ := hI
  have hw := zW_app (kc := kc) (g := g) (g' := g2) (h := h) (h' := (h.1 ++ [sh], zrow h.2.1 h.1.length (fun _ => none), zrow h.2.2.1 h.1.length (fun _ => 0), zrow h.2.2.2 h.1.length (fun _ => 0))) (sh := sh) rfl hg hq h4 (fun b hb => ⟨zrow_ne _ _ hb, zrow_ne _ _ hb, zrow_ne _ _ hb⟩) hx
  rw [← hw] at hP
  refine ⟨hP.1, hP.2, fun a ty n e => ?_, fun a k b e => ?_, by simp; omega, fun a n j e => ?_⟩
  · dsimp only at e
    by_cases ha : a < h.1.length
    · rw [List.getElem?_append_left ha] at e; exact h3 a ty n e
    · rw [List.getElem?_append_right (by omega)] at e
      have hz : a - h.1.length < 1 := (List.getElem?_eq_some_iff.mp e).1
      rw [show a - h.1.length = 0 by omega] at e
      exact hAr ty n (Option.some.inj e)
  · dsimp only [zrow] at e
    split at e
    · cases e
    · have := h4 a k b e; simp; omega
  · dsimp only [zrow] at e ⊢
    split
    · rfl
    · rename_i hne
      have ha : a < h.1.length := by
        have := (List.getElem?_eq_some_iff.mp e).1
        simp at this
        omega
      rw [List.getElem?_append_left ha] at e
      exact h6 a n j e
def zkd : Instr → Nat
  | .invokevirtual _ => 1
  | .invokespecial _ => 2
  | .invokestatic _ => 0
  | _ => 9
theorem zcat_cv (g : Nat → Nat) (q : List Value) : ((q.map (zcv g)).map fun v => v.category).sum = zcat q := by
  unfold zcat
  rw [List.map_map]
  congr 1
  apply List.map_congr_left
  intro v _
  exact zcv_cat g v
theorem zret_no (M : zM) (st : List Value) (h : zH) (i : Instr) (f' : zF) : ¬ zret M st h i = some (.inl f') := by
  intro e
  unfold zret at e
  split at e
  all_goals first | (cases e; done) | (split at e <;> cases e)
theorem znfw : nativeFrameWords "java/lang/System" "arraycopy" 5 = 7 := by decide +kernel
theorem zstr_g {g ro : Nat → Nat} (hg : zrho g ro) (k : Nat) : g (zstr + k) = ro (1000 + k) := by
  rw [← hg (1000 + k)]; congr 1
  show 2000 + k = 1000 + (1000 + k); omega
section ZST
variable {p : Program} {l : Launch} {e : Env} {Rm : Room} {s : State} {m : MethodId} {args : Array Value} {below : List Frame} {meth : Method} {c : Code} {Q : State → Prop} {D : va_G} {kc : FieldType → ClassId} {A : Nat → Prop} {X : zX} {ro : Nat → Nat}
/-- what stays through a method's body -/
def zCx (p : Program) (s : State) (m : MethodId) (args : Array Value) (meth : Method) (c : Code) (D : va_G) (kc : FieldType → ClassId) (A : Nat → Prop) (X : zX) (ro : Nat → Nat) (M : zM) : Prop :=
  p.tables.exec = Jvm.exec ∧ c.code = M.2.1 ∧ c.maxLocals = M.2.2.1 ∧ s.vm.findClass M.1.cls = some m.cls ∧ (∀ w ∈ ztb, w.before args s = true) ∧ zG D kc A X ro s s.heap ∧ (∀ q, s.heap.size ≤ q → A q) ∧ (M.1.name = "<init>" → meth.name = "<init>")
theorem zK1 {U : State} {cA : ClassId} {ty : FieldType} (hK : va_K D vwCl [] U) (h : ArrOfT U cA ty ∧ va_RA U cA ty) : va_K D vwCl [(cA, ty)] U := ⟨hK.1, fun k q hk => by
  cases k with
  | zero => cases hk; exact h
  | succ k => simp at hk⟩
set_option maxHeartbeats 8000000 in
set_option maxRecDepth 20000 in
theorem zsnd_simple {P : Nat → Option zM} {M : zM} {cal : zC} {d n0 z0 : Nat} (hok : zokM P M) (hstr : zStr l D kc A X ro) (C0 : zCx p s m args meth c D kc A X ro M) (hd : d + 5 ≤ Rm.frames ∧ 64 * (d + 5) ≤ Rm.locals) {f f' : zF} (hs : zstep X P cal M f = some (.inl f'))
    {g : Nat → Nat} (hg : zrho g ro) {H : Heap} {locs : List Loc} {ls : Array Slot} (hI : zIn D kc A g f.2.2.2 s H) (hS : va_S A s.heap H locs) (hl : zlv g ls M.2.2.1 f.2.1) (hN : n0 ≤ f.2.2.2.1.length ∧ z0 ≤ zsz f.2.2.2.1 ∧ f'.2.2.2.1.length ≤ n0 + Rm.cells ∧ zsz f'.2.2.2.1 ≤ z0 + Rm.slots)
    (hinv : ∀ mid kind pc L st h i ci cl, M.2.2.2.2.2.2.2[pc]? = some (some (i, ci, cl, 0, mid)) → (zkd i = kind ∧ kind < 3) → zinvoke cal (P mid) mid kind pc L st h = some (.inl f') → f = (pc, L, st, h) → W p l e Rm s m args below meth c H locs (f.2.2.2.1.length - n0) (zsz f.2.2.2.1 - z0) Q (F0 m f.1 ls (f.2.2.1.map (zcv g))))
    (kk : ∀ (g' : Nat → Nat) H' locs' ls', (∀ a, (a < f.2.2.2.1.length ∨ f'.2.2.2.1.length ≤ a) → g' a = g a) → zrho g' ro → zIn D kc A g' f'.2.2.2 s H' → va_S A s.heap H' locs' → zlv g' ls' M.2.2.1 f'.2.1 → W p l e Rm s m args below meth c H' locs' (f'.2.2.2.1.length - n0) (zsz f'.2.2.2.1 - z0) Q (F0 m f'.1 ls' (f'.2.2.1.map (zcv g')))) :
    W p l e Rm s m args below meth c H locs (f.2.2.2.1.length - n0) (zsz f.2.2.2.1 - z0) Q (F0 m f.1 ls (f.2.2.1.map (zcv g))) := by
  obtain ⟨pc, L, st, h⟩ := f
  obtain ⟨hx, hb, hml, hown, hts, hG, hA, hnm⟩ := C0
  unfold zstep at hs
  dsimp only at hs hI hl hN ⊢
  split at hs
  · rename_i i ci cl r k hop
    have ho := hok.2 pc _ hop
    have ho2 := ho.2
    cases i with
    | iconst n => cases hs; exact lv_iconst hx hb (zdec ho (Nat.succ_ne_zero _)) ho2 (kk g H locs ls (fun _ _ => rfl) hg hI hS hl)
    | bipush n => cases hs; exact lv_bipush hx hb (zdec ho (Nat.succ_ne_zero _)) ho2 (kk g H locs ls (fun _ _ => rfl) hg hI hS hl)
    | sipush n => cases hs; exact lv_sipush hx hb (zdec ho (Nat.succ_ne_zero _)) ho2 (kk g H locs ls (fun _ _ => rfl) hg hI hS hl)
    | lconst n => cases hs; exact lv_lconst hx hb (zdec ho (Nat.succ_ne_zero _)) ho2 (kk g H locs ls (fun _ _ => rfl) hg hI hS hl)
    | aconst_null => cases hs; exact lv_null hx hb (zdec ho (Nat.succ_ne_zero _)) (kk g H locs ls (fun _ _ => rfl) hg hI hS hl)
    | ldc idx =>
      dsimp only at hs
      rcases ho2 with ⟨r0, hc⟩ | ⟨r0, hcl, hk⟩
      · subst r0
        rw [if_pos rfl] at hs
        cases hs
        exact lv_ldc hx hb hown (hts _ hc) (zdec ho (Nat.succ_ne_zero _)) (kk g H locs ls (fun _ _ => rfl) hg hI hS hl)
      · subst r0
        rw [if_neg (by decide)] at hs
        cases hs
        rw [hcl] at hown
        obtain ⟨tx, hR⟩ := hG.2.2.2.2.2.2.1 k idx hk
        have kk2 := (kk g H locs ls (fun _ _ => rfl) hg hI hS hl)
        simp only [List.map_cons, zcv, zstr_g hg k] at kk2
        exact va_ldcS hx hb hown hR (zdec ho (Nat.succ_ne_zero _)) kk2
    | ldc_w idx => cases hs; exact lv_ldcw hx hb hown (hts _ ho2) (zdec ho (Nat.succ_ne_zero _)) (kk g H locs ls (fun _ _ => rfl) hg hI hS hl)
    | ldc2_w idx => cases hs; exact lv_ldc2 hx hb hown (hts _ ho2) (zdec ho (Nat.succ_ne_zero _)) (kk g H locs ls (fun _ _ => rfl) hg hI hS hl)
    | iadd => obtain ⟨x, y, q, rfl, ht⟩ := z2i_e hs; cases ht; exact lv_iadd hx hb (zdec ho (Nat.succ_ne_zero _)) (kk g H locs ls (fun _ _ => rfl) hg hI hS hl)
    | isub => obtain ⟨x, y, q, rfl, ht⟩ := z2i_e hs; cases ht; exact lv_isub hx hb (zdec ho (Nat.succ_ne_zero _)) (kk g H locs ls (fun _ _ => rfl) hg hI hS hl)
    | imul => obtain ⟨x, y, q, rfl, ht⟩ := z2i_e hs; cases ht; exact lv_imul hx hb (zdec ho (Nat.succ_ne_zero _)) (kk g H locs ls (fun _ _ => rfl) hg hI hS hl)
    | iand => obtain ⟨x, y, q, rfl, ht⟩ := z2i_e hs; cases ht; exact lv_iand hx hb (zdec ho (Nat.succ_ne_zero _)) (kk g H locs ls (fun _ _ => rfl) hg hI hS hl)
    | ior => obtain ⟨x, y, q, rfl, ht⟩ := z2i_e hs; cases ht; exact lv_ior hx hb (zdec ho (Nat.succ_ne_zero _)) (kk g H locs ls (fun _ _ => rfl) hg hI hS hl)
    | ixor => obtain ⟨x, y, q, rfl, ht⟩ := z2i_e hs; cases ht; exact lv_ixor hx hb (zdec ho (Nat.succ_ne_zero _)) (kk g H locs ls (fun _ _ => rfl) hg hI hS hl)
    | ishl => obtain ⟨x, y, q, rfl, ht⟩ := z2i_e hs; cases ht; exact lv_ishl hx hb (zdec ho (Nat.succ_ne_zero _)) (kk g H locs ls (fun _ _ => rfl) hg hI hS hl)
    | ishr => obtain ⟨x, y, q, rfl, ht⟩ := z2i_e hs; cases ht; exact lv_ishr hx hb (zdec ho (Nat.succ_ne_zero _)) (kk g H locs ls (fun _ _ => rfl) hg hI hS hl)
    | iushr => obtain ⟨x, y, q, rfl, ht⟩ := z2i_e hs; cases ht; exact lv_iushr hx hb (zdec ho (Nat.succ_ne_zero _)) rfl (kk g H locs ls (fun _ _ => rfl) hg hI hS hl)
    | idiv =>
      dsimp only at hs
      obtain ⟨x, y, q, rfl, ht⟩ := z2i_e hs
      by_cases hy : y = 0
      · rw [if_pos hy] at ht; cases ht
      · rw [if_neg hy] at ht; cases ht; exact lv_idiv hx hb (zdec ho (Nat.succ_ne_zero _)) hy (kk g H locs ls (fun _ _ => rfl) hg hI hS hl)
    | irem =>
      dsimp only at hs
      obtain ⟨x, y, q, rfl, ht⟩ := z2i_e hs
      by_cases hy : y = 0
      · rw [if_pos hy] at ht; cases ht
      · rw [if_neg hy] at ht; cases ht; exact lv_irem hx hb (zdec ho (Nat.succ_ne_zero _)) hy (kk g H locs ls (fun _ _ => rfl) hg hI hS hl)
    | ineg => obtain ⟨x, q, rfl, ht⟩ := z1i_e hs; cases ht; exact lv_ineg hx hb (zdec ho (Nat.succ_ne_zero _)) (kk g H locs ls (fun _ _ => rfl) hg hI hS hl)
    | ladd => obtain ⟨x, y, q, rfl, ht⟩ := z2l_e hs; cases ht; exact lv_ladd hx hb (zdec ho (Nat.succ_ne_zero _)) (kk g H locs ls (fun _ _ => rfl) hg hI hS hl)
    | lsub => obtain ⟨x, y, q, rfl, ht⟩ := z2l_e hs; cases ht; exact lv_lsub hx hb (zdec ho (Nat.succ_ne_zero _)) (kk g H locs ls (fun _ _ => rfl) hg hI hS hl)
    | lmul => obtain ⟨x, y, q, rfl, ht⟩ := z2l_e hs; cases ht; exact lv_lmul hx hb (zdec ho (Nat.succ_ne_zero _)) (kk g H locs ls (fun _ _ => rfl) hg hI hS hl)
    | lor => obtain ⟨x, y, q, rfl, ht⟩ := z2l_e hs; cases ht; exact lv_lor hx hb (zdec ho (Nat.succ_ne_zero _)) (kk g H locs ls (fun _ _ => rfl) hg hI hS hl)
    | ldiv =>
      dsimp only at hs
      obtain ⟨x, y, q, rfl, ht⟩ := z2l_e hs
      by_cases hy : y = 0
      · rw [if_pos hy] at ht; cases ht
      · rw [if_neg hy] at ht; cases ht; exact lv_ldiv hx hb (zdec ho (Nat.succ_ne_zero _)) hy (kk g H locs ls (fun _ _ => rfl) hg hI hS hl)
    | lrem =>
      dsimp only at hs
      obtain ⟨x, y, q, rfl, ht⟩ := z2l_e hs
      by_cases hy : y = 0
      · rw [if_pos hy] at ht; cases ht
      · rw [if_neg hy] at ht; cases ht; exact lv_lrem hx hb (zdec ho (Nat.succ_ne_zero _)) hy (kk g H locs ls (fun _ _ => rfl) hg hI hS hl)
    | lcmp => obtain ⟨x, y, q, rfl, ht⟩ := z2l_e hs; cases ht; exact W.lcmp hx hb (zdec ho (Nat.succ_ne_zero _)) (kk g H locs ls (fun _ _ => rfl) hg hI hS hl)
    | lshl => obtain ⟨x, y, q, rfl, ht⟩ := zli_e hs; cases ht; exact lv_lshl hx hb (zdec ho (Nat.succ_ne_zero _)) rfl (kk g H locs ls (fun _ _ => rfl) hg hI hS hl)
    | lushr => obtain ⟨x, y, q, rfl, ht⟩ := zli_e hs; cases ht; exact lv_lushr hx hb (zdec ho (Nat.succ_ne_zero _)) rfl (kk g H locs ls (fun _ _ => rfl) hg hI hS hl)
    | i2l => obtain ⟨x, q, rfl, ht⟩ := z1i_e hs; cases ht; exact lv_i2l hx hb (zdec ho (Nat.succ_ne_zero _)) rfl (kk g H locs ls (fun _ _ => rfl) hg hI hS hl)
    | l2i => obtain ⟨x, q, rfl, ht⟩ := z1l_e hs; cases ht; exact lv_l2i hx hb (zdec ho (Nat.succ_ne_zero _)) rfl (kk g H locs ls (fun _ _ => rfl) hg hI hS hl)
    | i2b => obtain ⟨x, q, rfl, ht⟩ := z1i_e hs; cases ht; exact lv_i2b hx hb (zdec ho (Nat.succ_ne_zero _)) rfl (kk g H locs ls (fun _ _ => rfl) hg hI hS hl)
    | iload_n n =>
      dsimp only at hs
      unfold zld at hs
      split at hs
      · rename_i v hv
        split at hs
        · rename_i hok2
          cases v with
          | int x => cases hs; exact lv_iload_n hx hb (zdec ho (Nat.succ_ne_zero _)) rfl (hl.2.2.2 _ _ hv) (kk g H locs ls (fun _ _ => rfl) hg hI hS hl)
          | _ => cases hok2
        · cases hs
      · cases hs
    | iload n =>
      dsimp only at hs
      unfold zld at hs
      split at hs
      · rename_i v hv
        split at hs
        · rename_i hok2
          cases v with
          | int x => cases hs; exact lv_iload hx hb (zdec ho (Nat.succ_ne_zero _)) (hl.2.2.2 _ _ hv) (kk g H locs ls (fun _ _ => rfl) hg hI hS hl)
          | _ => cases hok2
        · cases hs
      · cases hs
    | lload_n n =>
      dsimp only at hs
      unfold zld at hs
      split at hs
      · rename_i v hv
        split at hs
        · rename_i hok2
          cases v with
          | long x => cases hs; exact lv_lload_n hx hb (zdec ho (Nat.succ_ne_zero _)) rfl (hl.2.2.2 _ _ hv) (kk g H locs ls (fun _ _ => rfl) hg hI hS hl)
          | _ => cases hok2
        · cases hs
      · cases hs
    | lload n =>
      dsimp only at hs
      unfold zld at hs
      split at hs
      · rename_i v hv
        split at hs
        · rename_i hok2
          cases v with
          | long x => cases hs; exact lv_lload hx hb (zdec ho (Nat.succ_ne_zero _)) (hl.2.2.2 _ _ hv) (kk g H locs ls (fun _ _ => rfl) hg hI hS hl)
          | _ => cases hok2
        · cases hs
      · cases hs
    | aload_n n =>
      dsimp only at hs
      unfold zld at hs
      split at hs
      · rename_i v hv
        split at hs
        · rename_i hok2
          cases v with
          | ref x => cases hs; exact lv_aload_n hx hb (zdec ho (Nat.succ_ne_zero _)) rfl (hl.2.2.2 _ _ hv) (kk g H locs ls (fun _ _ => rfl) hg hI hS hl)
          | null => cases hs; exact lv_aload_nN hx hb (zdec ho (Nat.succ_ne_zero _)) rfl (hl.2.2.2 _ _ hv) (kk g H locs ls (fun _ _ => rfl) hg hI hS hl)
          | _ => cases hok2
        · cases hs
      · cases hs
    | aload n =>
      dsimp only at hs
      unfold zld at hs
      split at hs
      · rename_i v hv
        split at hs
        · rename_i hok2
          cases v with
          | ref x => cases hs; exact lv_aload hx hb (zdec ho (Nat.succ_ne_zero _)) (hl.2.2.2 _ _ hv) (kk g H locs ls (fun _ _ => rfl) hg hI hS hl)
          | null => cases hs; exact lv_aloadN hx hb (zdec ho (Nat.succ_ne_zero _)) (hl.2.2.2 _ _ hv) (kk g H locs ls (fun _ _ => rfl) hg hI hS hl)
          | _ => cases hok2
        · cases hs
      · cases hs
    | istore_n n =>
      dsimp only at hs
      obtain ⟨x, q, rfl, ht⟩ := z1i_e hs
      split at ht
      · rename_i hlt
        cases ht
        exact lv_istore_n hx hb (zdec ho (Nat.succ_ne_zero _)) rfl (zlv_has hl) (by rw [← hl.2.2.1]; exact hlt) rfl (fun ls' hl' => kk g H locs ls' (fun _ _ => rfl) hg hI hS (zlv_set1 hl hl'))
      · cases ht
    | istore n =>
      dsimp only at hs
      obtain ⟨x, q, rfl, ht⟩ := z1i_e hs
      split at ht
      · rename_i hlt
        cases ht
        exact lv_istore hx hb (zdec ho (Nat.succ_ne_zero _)) (zlv_has hl) (by rw [← hl.2.2.1]; exact hlt) rfl (fun ls' hl' => kk g H locs ls' (fun _ _ => rfl) hg hI hS (zlv_set1 hl hl'))
      · cases ht
    | lstore_n n =>
      dsimp only at hs
      obtain ⟨x, q, rfl, ht⟩ := z1l_e hs
      split at ht
      · rename_i hlt
        cases ht
        exact lv_lstore_n hx hb (zdec ho (Nat.succ_ne_zero _)) rfl (zlv_has hl) (by rw [← hl.2.2.1]; exact hlt) rfl (fun ls' hl' => kk g H locs ls' (fun _ _ => rfl) hg hI hS (zlv_set2 hl hl'))
      · cases ht
    | lstore n =>
      dsimp only at hs
      obtain ⟨x, q, rfl, ht⟩ := z1l_e hs
      split at ht
      · rename_i hlt
        cases ht
        exact lv_lstore hx hb (zdec ho (Nat.succ_ne_zero _)) (zlv_has hl) (by rw [← hl.2.2.1]; exact hlt) rfl (fun ls' hl' => kk g H locs ls' (fun _ _ => rfl) hg hI hS (zlv_set2 hl hl'))
      · cases ht
    | astore_n n =>
      dsimp only at hs
      split at hs
      · split at hs
        · rename_i hlt
          cases hs
          exact lv_astore_n hx hb (zdec ho (Nat.succ_ne_zero _)) rfl (zlv_has hl) (by rw [← hl.2.2.1]; exact hlt) rfl (fun ls' hl' => kk g H locs ls' (fun _ _ => rfl) hg hI hS (zlv_set1 (v := .ref _) hl hl'))
        · cases hs
      · split at hs
        · rename_i hlt
          cases hs
          exact lv_astore_nN hx hb (zdec ho (Nat.succ_ne_zero _)) rfl (zlv_has hl) (by rw [← hl.2.2.1]; exact hlt) rfl (fun ls' hl' => kk g H locs ls' (fun _ _ => rfl) hg hI hS (zlv_set1 (v := .null) hl hl'))
        · cases hs
      · cases hs
    | astore n =>
      dsimp only at hs
      split at hs
      · split at hs
        · rename_i hlt
          cases hs
          exact lv_astore hx hb (zdec ho (Nat.succ_ne_zero _)) (zlv_has hl) (by rw [← hl.2.2.1]; exact hlt) rfl (fun ls' hl' => kk g H locs ls' (fun _ _ => rfl) hg hI hS (zlv_set1 (v := .ref _) hl hl'))
        · cases hs
      · split at hs
        · rename_i hlt
          cases hs
          exact lv_astoreN hx hb (zdec ho (Nat.succ_ne_zero _)) (zlv_has hl) (by rw [← hl.2.2.1]; exact hlt) rfl (fun ls' hl' => kk g H locs ls' (fun _ _ => rfl) hg hI hS (zlv_set1 (v := .null) hl hl'))
        · cases hs
      · cases hs
    | iinc n v =>
      dsimp only at hs
      split at hs
      · rename_i x hv
        split at hs
        · rename_i hlt
          cases hs
          obtain ⟨k2, hk2⟩ := List.getElem?_of_mem (zas_mem (g := g) hv)
          exact lv_iinc hx hb (zdec ho (Nat.succ_ne_zero _)) (zlv_has hl) hk2 (by rw [ho2]) (by rw [← hl.2.2.1]; exact hlt) rfl (fun ls' hl' => kk g H locs ls' (fun _ _ => rfl) hg hI hS (zlv_set1 (v := .int _) hl hl'))
        · cases hs
      · cases hs
    | dup =>
      dsimp only at hs
      split at hs
      · cases hs; exact lv_dup hx hb (zdec ho (Nat.succ_ne_zero _)) rfl (kk g H locs ls (fun _ _ => rfl) hg hI hS hl)
      · cases hs; exact lv_dup hx hb (zdec ho (Nat.succ_ne_zero _)) rfl (kk g H locs ls (fun _ _ => rfl) hg hI hS hl)
      · cases hs
    | dup2 =>
      dsimp only at hs
      split at hs
      · cases hs; exact lv_dup2_11 hx hb (zdec ho (Nat.succ_ne_zero _)) rfl rfl (kk g H locs ls (fun _ _ => rfl) hg hI hS hl)
      · cases hs
    | pop =>
      dsimp only at hs
      split at hs
      · cases hs; exact lv_pop hx hb (zdec ho (Nat.succ_ne_zero _)) rfl (kk g H locs ls (fun _ _ => rfl) hg hI hS hl)
      · cases hs; exact lv_pop hx hb (zdec ho (Nat.succ_ne_zero _)) rfl (kk g H locs ls (fun _ _ => rfl) hg hI hS hl)
      · cases hs
    | goto off =>
      dsimp only at hs
      split at hs
      · rename_i hp
        cases hs
        exact lv_goto hx hb (zdec ho (Nat.succ_ne_zero _)) (Int.toNat_of_nonneg hp).symm (kk g H locs ls (fun _ _ => rfl) hg hI hS hl)
      · cases hs
    | ifCond cnd off =>
      cases cnd with
      | eq =>
        dsimp only at hs
        obtain ⟨x, q, rfl, ht⟩ := z1i_e hs
        unfold zjp at ht
        split at ht
        · rename_i hp
          cases ht
          refine lv_if_eq hx hb (zdec ho (Nat.succ_ne_zero _)) (Int.toNat_of_nonneg hp).symm (fun hc => ?_) (fun hc => ?_)
          · rw [if_pos hc] at kk; exact (kk g H locs ls (fun _ _ => rfl) hg hI hS hl)
          · rw [if_neg hc] at kk; exact (kk g H locs ls (fun _ _ => rfl) hg hI hS hl)
        · cases ht
      | ne =>
        dsimp only at hs
        obtain ⟨x, q, rfl, ht⟩ := z1i_e hs
        unfold zjp at ht
        split at ht
        · rename_i hp
          cases ht
          refine lv_if_ne hx hb (zdec ho (Nat.succ_ne_zero _)) (Int.toNat_of_nonneg hp).symm (fun hc => ?_) (fun hc => ?_)
          · rw [if_pos hc] at kk; exact (kk g H locs ls (fun _ _ => rfl) hg hI hS hl)
          · rw [if_neg (fun z => z hc)] at kk; exact (kk g H locs ls (fun _ _ => rfl) hg hI hS hl)
        · cases ht
      | lt =>
        dsimp only at hs
        obtain ⟨x, q, rfl, ht⟩ := z1i_e hs
        unfold zjp at ht
        split at ht
        · rename_i hp
          cases ht
          refine lv_if_lt hx hb (zdec ho (Nat.succ_ne_zero _)) (Int.toNat_of_nonneg hp).symm (fun hc => ?_) (fun hc => ?_)
          · rw [if_pos hc] at kk; exact (kk g H locs ls (fun _ _ => rfl) hg hI hS hl)
          · rw [if_neg hc] at kk; exact (kk g H locs ls (fun _ _ => rfl) hg hI hS hl)
        · cases ht
      | ge =>
        dsimp only at hs
        obtain ⟨x, q, rfl, ht⟩ := z1i_e hs
        unfold zjp at ht
        split at ht
        · rename_i hp
          cases ht
          refine lv_if_ge hx hb (zdec ho (Nat.succ_ne_zero _)) (Int.toNat_of_nonneg hp).symm (fun hc => ?_) (fun hc => ?_)
          · rw [if_pos hc] at kk; exact (kk g H locs ls (fun _ _ => rfl) hg hI hS hl)
          · rw [if_neg hc] at kk; exact (kk g H locs ls (fun _ _ => rfl) hg hI hS hl)
        · cases ht
      | gt =>
        dsimp only at hs
        obtain ⟨x, q, rfl, ht⟩ := z1i_e hs
        unfold zjp at ht
        split at ht
        · rename_i hp
          cases ht
          refine lv_if_gt hx hb (zdec ho (Nat.succ_ne_zero _)) (Int.toNat_of_nonneg hp).symm (fun hc => ?_) (fun hc => ?_)
          · rw [if_pos hc] at kk; exact (kk g H locs ls (fun _ _ => rfl) hg hI hS hl)
          · rw [if_neg hc] at kk; exact (kk g H locs ls (fun _ _ => rfl) hg hI hS hl)
        · cases ht
      | le =>
        dsimp only at hs
        obtain ⟨x, q, rfl, ht⟩ := z1i_e hs
        unfold zjp at ht
        split at ht
        · rename_i hp
          cases ht
          refine lv_if_le hx hb (zdec ho (Nat.succ_ne_zero _)) (Int.toNat_of_nonneg hp).symm (fun hc => ?_) (fun hc => ?_)
          · rw [if_pos hc] at kk; exact (kk g H locs ls (fun _ _ => rfl) hg hI hS hl)
          · rw [if_neg hc] at kk; exact (kk g H locs ls (fun _ _ => rfl) hg hI hS hl)
        · cases ht
    | if_icmp cnd off =>
      cases cnd with
      | eq =>
        dsimp only at hs
        obtain ⟨x, y, q, rfl, ht⟩ := z2i_e hs
        unfold zjp at ht
        split at ht
        · rename_i hp
          cases ht
          refine lv_icmp_eq hx hb (zdec ho (Nat.succ_ne_zero _)) (Int.toNat_of_nonneg hp).symm (fun hc => ?_) (fun hc => ?_)
          · rw [if_pos hc] at kk; exact (kk g H locs ls (fun _ _ => rfl) hg hI hS hl)
          · rw [if_neg hc] at kk; exact (kk g H locs ls (fun _ _ => rfl) hg hI hS hl)
        · cases ht
      | ne =>
        dsimp only at hs
        obtain ⟨x, y, q, rfl, ht⟩ := z2i_e hs
        unfold zjp at ht
        split at ht
        · rename_i hp
          cases ht
          refine lv_icmp_ne hx hb (zdec ho (Nat.succ_ne_zero _)) (Int.toNat_of_nonneg hp).symm (fun hc => ?_) (fun hc => ?_)
          · rw [if_pos hc] at kk; exact (kk g H locs ls (fun _ _ => rfl) hg hI hS hl)
          · rw [if_neg (fun z => z hc)] at kk; exact (kk g H locs ls (fun _ _ => rfl) hg hI hS hl)
        · cases ht
      | lt =>
        dsimp only at hs
        obtain ⟨x, y, q, rfl, ht⟩ := z2i_e hs
        unfold zjp at ht
        split at ht
        · rename_i hp
          cases ht
          refine lv_icmp_lt hx hb (zdec ho (Nat.succ_ne_zero _)) (Int.toNat_of_nonneg hp).symm (fun hc => ?_) (fun hc => ?_)
          · rw [if_pos hc] at kk; exact (kk g H locs ls (fun _ _ => rfl) hg hI hS hl)
          · rw [if_neg hc] at kk; exact (kk g H locs ls (fun _ _ => rfl) hg hI hS hl)
        · cases ht
      | ge =>
        dsimp only at hs
        obtain ⟨x, y, q, rfl, ht⟩ := z2i_e hs
        unfold zjp at ht
        split at ht
        · rename_i hp
          cases ht
          refine lv_icmp_ge hx hb (zdec ho (Nat.succ_ne_zero _)) (Int.toNat_of_nonneg hp).symm (fun hc => ?_) (fun hc => ?_)
          · rw [if_pos hc] at kk; exact (kk g H locs ls (fun _ _ => rfl) hg hI hS hl)
          · rw [if_neg hc] at kk; exact (kk g H locs ls (fun _ _ => rfl) hg hI hS hl)
        · cases ht
      | gt =>
        dsimp only at hs
        obtain ⟨x, y, q, rfl, ht⟩ := z2i_e hs
        unfold zjp at ht
        split at ht
        · rename_i hp
          cases ht
          refine lv_icmp_gt hx hb (zdec ho (Nat.succ_ne_zero _)) (Int.toNat_of_nonneg hp).symm (fun hc => ?_) (fun hc => ?_)
          · rw [if_pos hc] at kk; exact (kk g H locs ls (fun _ _ => rfl) hg hI hS hl)
          · rw [if_neg hc] at kk; exact (kk g H locs ls (fun _ _ => rfl) hg hI hS hl)
        · cases ht
      | le =>
        dsimp only at hs
        obtain ⟨x, y, q, rfl, ht⟩ := z2i_e hs
        unfold zjp at ht
        split at ht
        · rename_i hp
          cases ht
          refine lv_icmp_le hx hb (zdec ho (Nat.succ_ne_zero _)) (Int.toNat_of_nonneg hp).symm (fun hc => ?_) (fun hc => ?_)
          · rw [if_pos hc] at kk; exact (kk g H locs ls (fun _ _ => rfl) hg hI hS hl)
          · rw [if_neg hc] at kk; exact (kk g H locs ls (fun _ _ => rfl) hg hI hS hl)
        · cases ht
    | ifnull off =>
      dsimp only at hs
      split at hs
      · cases hs; exact lv_ifnull hx hb (zdec ho (Nat.succ_ne_zero _)) (kk g H locs ls (fun _ _ => rfl) hg hI hS hl)
      · split at hs
        · rename_i hp
          cases hs
          exact lv_ifnullN hx hb (zdec ho (Nat.succ_ne_zero _)) (Int.toNat_of_nonneg hp).symm (kk g H locs ls (fun _ _ => rfl) hg hI hS hl)
        · cases hs
      · cases hs
    | ifnonnull off =>
      dsimp only at hs
      split at hs
      · split at hs
        · rename_i hp
          cases hs
          exact lv_ifnonnull hx hb (zdec ho (Nat.succ_ne_zero _)) (Int.toNat_of_nonneg hp).symm (kk g H locs ls (fun _ _ => rfl) hg hI hS hl)
        · cases hs
      · cases hs; exact lv_ifnonnullN hx hb (zdec ho (Nat.succ_ne_zero _)) (kk g H locs ls (fun _ _ => rfl) hg hI hS hl)
      · cases hs
    | tableswitch dflt lo hi offs =>
      dsimp only at hs
      obtain ⟨x, q, rfl, ht⟩ := z1i_e hs
      obtain ⟨len, hdg, -⟩ := ho.1
      split at ht
      · rename_i hout
        split at ht
        · rename_i hp
          cases ht
          exact lv_tableOut hx hb hdg hout (Int.toNat_of_nonneg hp).symm (kk g H locs ls (fun _ _ => rfl) hg hI hS hl)
        · cases ht
      · rename_i hin
        split at ht
        · rename_i off hoff
          split at ht
          · rename_i hp
            cases ht
            exact lv_tableIn hx hb hdg (fun z => hin (Or.inl z)) (fun z => hin (Or.inr z)) hoff (Int.toNat_of_nonneg hp).symm (kk g H locs ls (fun _ _ => rfl) hg hI hS hl)
          · cases ht
        · cases ht
    | lookupswitch dflt ps =>
      dsimp only at hs
      obtain ⟨x, q, rfl, ht⟩ := z1i_e hs
      obtain ⟨len, hdg, -⟩ := ho.1
      split at ht
      · rename_i hp
        cases ht
        exact lv_lookup hx hb hdg hp.1 rfl (Int.toNat_of_nonneg hp.2).symm (kk g H locs ls (fun _ _ => rfl) hg hI hS hl)
      · cases ht
    | arraylength =>
      dsimp only at hs
      obtain ⟨a, q, rfl, ht⟩ := z1a_e hs
      split at ht
      · split at ht
        · rename_i ty n ea
          cases ht
          have hw := zW_get (kc := kc) (g := g) ea
          exact va_alen hx hb (zK1 hG.1 (hI.2.2.1 _ _ _ ea)) hI.1 a 0 hw rfl rfl (zdec ho (Nat.succ_ne_zero _)) (kk g H locs ls (fun _ _ => rfl) hg hI hS hl)
        · cases ht
      · split at ht
        · rename_i n fx ex
          cases ht
          have x3 := hG.2.2.2.2.1 _ _ _ ex
          have eg : g a = ro (a - zro) := by rw [← hg (a - zro)]; congr 1; omega
          have kk2 := (kk g H locs ls (fun _ _ => rfl) hg hI hS hl)
          show W _ _ _ _ _ _ _ _ _ _ _ _ _ _ _ (F0 m pc ls (.ref (g a) :: q.map (zcv g)))
          rw [eg]
          exact va_tlen hx hb x3 hS rfl (zdec ho (Nat.succ_ne_zero _)) kk2
        · cases ht
    | iaload =>
      dsimp only at hs
      obtain ⟨a, j, q, rfl, ht⟩ := zai_e hs
      unfold zaload at ht
      split at ht
      · split at ht
        · rename_i t n ea
          split at ht
          · rename_i et
            subst et
            split at ht
            · cases ht
            · rename_i hin
              cases ht
              exact va_iald hx hb (zK1 hG.1 (hI.2.2.1 _ _ _ ea)) hI.1 a 0 (zW_i rfl ea) rfl hin (zdec ho (Nat.succ_ne_zero _)) (kk g H locs ls (fun _ _ => rfl) hg hI hS hl)
          · cases ht
        · cases ht
      · split at ht
        · split at ht
          · rename_i n fx ex
            split at ht
            · cases ht
            · rename_i hin
              cases ht
              have x3 := hG.2.2.2.2.1 _ _ _ ex
              have eg : g a = ro (a - zro) := by rw [← hg (a - zro)]; congr 1; omega
              have kk2 := (kk g H locs ls (fun _ _ => rfl) hg hI hS hl)
              show W _ _ _ _ _ _ _ _ _ _ _ _ _ _ _ (F0 m pc ls (.int j :: .ref (g a) :: q.map (zcv g)))
              rw [eg]
              exact va_ti hx hb x3 hS hin rfl (zdec ho (Nat.succ_ne_zero _)) kk2
          · cases ht
        · cases ht
    | baload =>
      dsimp only at hs
      obtain ⟨a, j, q, rfl, ht⟩ := zai_e hs
      split at ht
      · skip
        unfold zaload at ht
        split at ht
        · split at ht
          · rename_i t n ea
            split at ht
            · rename_i et
              subst et
              split at ht
              · cases ht
              · rename_i hin
                cases ht
                exact va_bald hx hb (zK1 hG.1 (hI.2.2.1 _ _ _ ea)) hI.1 a 0 (zW_i rfl ea) rfl hin (zdec ho (Nat.succ_ne_zero _)) (kk g H locs ls (fun _ _ => rfl) hg hI hS hl)
            · cases ht
          · cases ht
        · split at ht
          · rename_i z; cases z
          · cases ht
      · skip
        unfold zaload at ht
        split at ht
        · split at ht
          · rename_i t n ea
            split at ht
            · rename_i et
              subst et
              split at ht
              · cases ht
              · rename_i hin
                cases ht
                exact va_zald hx hb (zK1 hG.1 (hI.2.2.1 _ _ _ ea)) hI.1 a 0 (zW_i rfl ea) rfl hin (zdec ho (Nat.succ_ne_zero _)) (kk g H locs ls (fun _ _ => rfl) hg hI hS hl)
            · cases ht
          · cases ht
        · split at ht
          · rename_i z; cases z
          · cases ht
    | laload =>
      dsimp only at hs
      obtain ⟨a, j, q, rfl, ht⟩ := zai_e hs
      unfold zarr at ht
      split at ht
      · rename_i t n ea
        split at ht
        · rename_i et
          obtain ⟨et, -⟩ := et
          subst et
          split at ht
          · cases ht
          · rename_i hin
            cases ht
            exact va_lald hx hb (zK1 hG.1 (hI.2.2.1 _ _ _ ea)) hI.1 a 0 (zW_l rfl ea) rfl hin (zdec ho (Nat.succ_ne_zero _)) (kk g H locs ls (fun _ _ => rfl) hg hI hS hl)
        · cases ht
      · cases ht
    | aaload =>
      dsimp only at hs
      obtain ⟨a, j, q, rfl, ht⟩ := zai_e hs
      split at ht
      · rename_i C n0' ea0
        unfold zarr at ht
        split at ht
        · rename_i t n ea
          split at ht
          · rename_i et
            obtain ⟨et, -⟩ := et
            subst et
            split at ht
            · cases ht
            · rename_i hin
              cases ht
              refine va_aldq hx hb (zK1 hG.1 (hI.2.2.1 _ _ _ ea)) hI.1 a 0 (zW_r rfl ea) rfl hin (zdec ho (Nat.succ_ne_zero _)) ?_
              have kk2 := (kk g H locs ls (fun _ _ => rfl) hg hI hS hl)
              have er : zcv g (zrf (h.2.1 a j.toNatClampNeg)) = va_rf ((h.2.1 a j.toNatClampNeg).map g) := by cases h.2.1 a j.toNatClampNeg <;> rfl
              simp only [List.map_cons, er] at kk2
              exact kk2
          · cases ht
        · cases ht
      · cases ht
    | iastore =>
      dsimp only at hs
      obtain ⟨a, j, x, q, rfl, ht⟩ := zaii_e hs
      unfold zarr at ht
      split at ht
      · rename_i t n ea
        split at ht
        · rename_i et
          obtain ⟨et, -⟩ := et
          subst et
          split at ht
          · cases ht
          · rename_i hin
            cases ht
            refine va_iast hx hb (zK1 hG.1 (hI.2.2.1 _ _ _ ea)) hI.1 hI.2.1 hS a 0 (zW_i rfl ea) rfl hin (zdec ho (Nat.succ_ne_zero _)) (fun H1 locs1 hP1 hD1 hS1 => ?_)
            refine kk g H1 locs1 ls (fun _ _ => rfl) hg (hI.put (sh := .inl (.int, n)) ea rfl (fun b hb2 => ⟨rfl, zu_ne _ _ _ hb2, rfl⟩) ?_ ?_ ?_ hP1 hD1) hS1 hl
            · simp [zE, zk, zu_row]
              rfl
            · exact hI.2.2.2.1
            · intro n' j' e; cases e
        · cases ht
      · cases ht

    | bastore =>
      dsimp only at hs
      obtain ⟨a, j, x, q, rfl, ht⟩ := zaii_e hs
      split at ht
      · skip
        unfold zarr at ht
        split at ht
        · rename_i t n ea
          split at ht
          · rename_i et
            obtain ⟨et, -⟩ := et
            subst et
            split at ht
            · cases ht
            · rename_i hin
              cases ht
              refine va_bast hx hb (zK1 hG.1 (hI.2.2.1 _ _ _ ea)) hI.1 hI.2.1 hS a 0 (zW_i rfl ea) rfl hin (zdec ho (Nat.succ_ne_zero _)) (fun H1 locs1 hP1 hD1 hS1 => ?_)
              refine kk g H1 locs1 ls (fun _ _ => rfl) hg (hI.put (sh := .inl (.byte, n)) ea rfl (fun b hb2 => ⟨rfl, zu_ne _ _ _ hb2, rfl⟩) ?_ ?_ ?_ hP1 hD1) hS1 hl
              · simp [zE, zk, zu_row]
                rw [zvb]; rfl
              · exact hI.2.2.2.1
              · intro n' j' e; dsimp only; rw [zu_row]; dsimp only; split; exact fb8 x; exact hI.2.2.2.2.2 a n j' ea
          · cases ht
        · cases ht
      · skip
        unfold zarr at ht
        split at ht
        · rename_i t n ea
          split at ht
          · rename_i et
            obtain ⟨et, -⟩ := et
            subst et
            split at ht
            · cases ht
            · rename_i hin
              cases ht
              refine va_zast hx hb (zK1 hG.1 (hI.2.2.1 _ _ _ ea)) hI.1 hI.2.1 hS a 0 (zW_i rfl ea) rfl hin (zdec ho (Nat.succ_ne_zero _)) (fun H1 locs1 hP1 hD1 hS1 => ?_)
              refine kk g H1 locs1 ls (fun _ _ => rfl) hg (hI.put (sh := .inl (.boolean, n)) ea rfl (fun b hb2 => ⟨rfl, zu_ne _ _ _ hb2, rfl⟩) ?_ ?_ ?_ hP1 hD1) hS1 hl
              · simp [zE, zk, zu_row]
                rfl
              · exact hI.2.2.2.1
              · intro n' j' e; cases e
          · cases ht
        · cases ht

    | lastore =>
      dsimp only at hs
      obtain ⟨a, j, x, q, rfl, ht⟩ := zail_e hs
      unfold zarr at ht
      split at ht
      · rename_i t n ea
        split at ht
        · rename_i et
          obtain ⟨et, -⟩ := et
          subst et
          split at ht
          · cases ht
          · rename_i hin
            cases ht
            refine va_last hx hb (zK1 hG.1 (hI.2.2.1 _ _ _ ea)) hI.1 hI.2.1 hS a 0 (zW_l rfl ea) rfl hin (zdec ho (Nat.succ_ne_zero _)) (fun H1 locs1 hP1 hD1 hS1 => ?_)
            refine kk g H1 locs1 ls (fun _ _ => rfl) hg (hI.put (sh := .inl (.long, n)) ea rfl (fun b hb2 => ⟨rfl, rfl, zu_ne _ _ _ hb2⟩) ?_ ?_ ?_ hP1 hD1) hS1 hl
            · simp [zE, zk, zu_row]
              rfl
            · exact hI.2.2.2.1
            · intro n' j' e; cases e
        · cases ht
      · cases ht

    | aastore =>
      dsimp only at hs
      obtain ⟨a, j, x, q, rfl, ht⟩ := zaia_e hs
      split at ht
      · rename_i C n0' ci2 ea0 ex
        split at ht
        · rename_i hC
          split at ht
          · unfold zarr at ht
            split at ht
            · rename_i t n ea
              split at ht
              · rename_i et
                obtain ⟨et, -⟩ := et
                subst et
                split at ht
                · cases ht
                · rename_i hin
                  cases ht
                  cases hq : vwCl[ci2]? with
                  | none => rw [hq] at hC; cases hC
                  | some qc =>
                    rw [hq] at hC
                    have eC : qc.1 = C := Option.some.inj hC
                    subst eC
                    refine va_astq hx hb (zK1 hG.1 (hI.2.2.1 _ _ _ ea)) hI.1 hI.2.1 hS a 0 x ci2 (zW_r rfl ea) rfl (zW_o ex) hq hin (zdec ho (Nat.succ_ne_zero _)) (fun H1 locs1 hP1 hD1 hS1 => ?_)
                    refine kk g H1 locs1 ls (fun _ _ => rfl) hg (hI.put (sh := .inl (.object qc.1, n)) ea rfl (fun b hb2 => ⟨zu_ne _ _ _ hb2, rfl, rfl⟩) ?_ ?_ ?_ hP1 hD1) hS1 hl
                    · simp only [zE, zk, zu_row]
                      simp only [if_neg (show ¬ (2 : Nat) = 0 by decide), if_neg (show ¬ (2 : Nat) = 1 by decide)]
                      congr 7
                      funext w
                      simp only [va_up]
                      split <;> rfl
                    · intro b2 k2 c2 e2
                      dsimp only [zu] at e2
                      split at e2
                      · cases e2; exact (List.getElem?_eq_some_iff.mp ex).1
                      · exact hI.2.2.2.1 _ _ _ e2
                    · intro n' j' e; cases e
              · cases ht
            · cases ht
          · cases ht
        · cases ht
      · cases ht
    | getfield idx =>
      dsimp only at hs
      obtain ⟨a, q, rfl, ht⟩ := z1a_e hs
      obtain ⟨qc, hq, hk, hlink, hin, hty, hnames⟩ := ho2
      obtain ⟨qC, qT, qN⟩ := qc
      unfold zobj at ht
      split at ht
      · rename_i cc2 ea
        split at ht
        · rename_i ec
          obtain ⟨ec, -⟩ := ec
          subst ec
          have hkn : k < zNf cc2 := by rw [zNf_eq hq]; exact hk
          have key : ∀ v : Value, zfv g h a cc2 k = zcv g v → f' = (pc + 3, L, v :: q, h) → W p l e Rm s m args below meth c H locs (List.length h.1 - n0) (zsz h.1 - z0) Q (F0 m pc ls (.ref (g a) :: q.map (zcv g))) := by
            intro v ev ef
            subst ef
            exact va_get (C := qC) (T := qT) (N := qN) hx hb hts hin hown hG.1 hI.1 a (zW_o ea) hq k hk (hts _ hlink) (fun _ h9 => h9) (by rw [zfs_get hkn, ev]) (zdec ho (Nat.succ_ne_zero _)) (kk g H locs ls (fun _ _ => rfl) hg hI hS hl)
          split at ht
          · rename_i ek; cases ht; exact key (.int _) (by unfold zfv; rw [if_pos ek]; rfl) rfl
          · rename_i ek; cases ht; exact key (.long _) (by unfold zfv; rw [if_neg (by rw [ek]; decide), if_pos ek]; rfl) rfl
          · rename_i ek; cases ht; exact key (zrf _) (by unfold zfv; rw [if_neg (by rw [ek]; decide), if_neg (by rw [ek]; decide)]; cases h.2.1 a k <;> rfl) rfl
          · cases ht
        · cases ht
      · cases ht
    | putfield idx =>
      dsimp only at hs
      obtain ⟨⟨qc, hq, hk, hlink, hin, hty, hnames⟩, hfin⟩ := ho2
      obtain ⟨qC, qT, qN⟩ := qc
      have key : ∀ (a : Nat) (q : List Value) (v : Value) (h' : zH), h.1[a]? = some (.inr r) → h'.1 = h.1 → (∀ b, b ≠ a → h'.2.1 b = h.2.1 b ∧ h'.2.2.1 b = h.2.2.1 b ∧ h'.2.2.2 b = h.2.2.2 b) → zfv g h' a r k = zcv g v → (∀ j, j ≠ k → zfv g h' a r j = zfv g h a r j) → (∀ b k c, h'.2.1 b k = some c → c < h.1.length) →
          narrow (zft r k) (zcv g v) = zcv g v → fits (zft r k) (zcv g v) = true → f' = (pc + 3, L, q, h') → W p l e Rm s m args below meth c H locs (List.length h.1 - n0) (zsz h.1 - z0) Q (F0 m pc ls (zcv g v :: .ref (g a) :: q.map (zcv g))) := by
        intro a q v h' ea e1 e2 e3 e4 e5 hn hfit ef
        have hkn : k < zNf r := by rw [zNf_eq hq]; exact hk
        have fin : ∀ (H1 : Heap) (locs1 : List Loc), va_P D vwCl ((zW kc g h).set a (g a, .inr (r, ((List.range (zNf r)).map (zfv g h a r)).set k (zcv g v)))) H1 → va_D A ((zW kc g h).set a (g a, .inr (r, ((List.range (zNf r)).map (zfv g h a r)).set k (zcv g v)))) → va_S A s.heap H1 locs1 → W p l e Rm s m args below meth c H1 locs1 (List.length h.1 - n0) (zsz h.1 - z0) Q (F0 m (pc + 3) ls (q.map (zcv g))) := by
          intro H1 locs1 hP1 hD1 hS1
          rw [zfs_set hkn e3 e4] at hP1 hD1
          subst ef
          have kk2 := kk g H1 locs1 ls (fun _ _ => rfl) hg (hI.put (sh := .inr r) ea e1 e2 rfl e5 (fun n' j' e => by cases e) hP1 hD1) hS1 hl
          dsimp only at kk2
          rw [e1] at kk2
          exact kk2
        by_cases hf : (qT k).2.2.2 = true
        · obtain ⟨z1, z2⟩ := hfin _ hq hf
          exact va_putF (C := qC) (T := qT) (N := qN) hx hb hts hin (zft r) hty hnames hown hG.1 hI.1 hI.2.1 hS a (zW_o ea) hq k hk (hts _ hlink) (fun _ h9 => h9) hf (hnm z1) z2 (hty k hk) hn hfit (by simpa using hkn) (zdec ho (Nat.succ_ne_zero _)) fin
        · exact va_put (C := qC) (T := qT) (N := qN) hx hb hts hin (zft r) hty hnames hown hG.1 hI.1 hI.2.1 hS a (zW_o ea) hq k hk (hts _ hlink) (fun _ h9 => h9) (by simpa using hf) (hty k hk) hn hfit (by simpa using hkn) (zdec ho (Nat.succ_ne_zero _)) fin
      split at hs
      · rename_i x a q
        unfold zobj at hs
        split at hs
        · rename_i cc2 ea
          split at hs
          · rename_i ec
            obtain ⟨ec, -⟩ := ec
            subst ec
            split at hs
            · rename_i ek
              cases hs
              refine key a q (.int x) (h.1, h.2.1, zu h.2.2.1 a k x, h.2.2.2) ea rfl (fun b hb2 => ⟨rfl, zu_ne _ _ _ hb2, rfl⟩) ?_ ?_ hI.2.2.2.1 ?_ ?_ rfl
              · unfold zfv; rw [if_pos ek.1]; simp [zu, zcv]
              · intro j hj; unfold zfv; simp [zu, hj]
              · rcases ek.2 with e | ⟨e, ex⟩
                · rw [e]; rfl
                · rw [e]; simp only [zbool, decide_eq_true_eq] at ex; rcases ex with rfl | rfl <;> rfl
              · rcases ek.2 with e | ⟨e, ex⟩
                · rw [e]; rfl
                · rw [e]; simp only [zbool, decide_eq_true_eq] at ex; rcases ex with rfl | rfl <;> rfl
            · cases hs
          · cases hs
        · cases hs
      · rename_i x a q
        unfold zobj at hs
        split at hs
        · rename_i cc2 ea
          split at hs
          · rename_i ec
            obtain ⟨ec, -⟩ := ec
            subst ec
            split at hs
            · rename_i ek
              cases hs
              have et : zft cc2 k = .long := by
                cases hz : zft cc2 k <;> rw [hz] at ek <;> first | rfl | (simp [zk] at ek)
              refine key a q (.long x) (h.1, h.2.1, h.2.2.1, zu h.2.2.2 a k x) ea rfl (fun b hb2 => ⟨rfl, rfl, zu_ne _ _ _ hb2⟩) ?_ ?_ hI.2.2.2.1 ?_ ?_ rfl
              · unfold zfv; rw [if_neg (by rw [ek]; decide), if_pos ek]; simp [zu, zcv]
              · intro j hj; unfold zfv; simp [zu, hj]
              · rw [et]; rfl
              · rw [et]; rfl
            · cases hs
          · cases hs
        · cases hs
      · rename_i x a q
        unfold zobj at hs
        split at hs
        · rename_i cc2 ea
          split at hs
          · rename_i ec
            obtain ⟨ec, -⟩ := ec
            subst ec
            split at hs
            · rename_i ek
              obtain ⟨ek, exl⟩ := ek
              cases hs
              refine key a q (.ref x) (h.1, zu h.2.1 a k (some x), h.2.2.1, h.2.2.2) ea rfl (fun b hb2 => ⟨zu_ne _ _ _ hb2, rfl, rfl⟩) ?_ ?_ ?_ ?_ ?_ rfl
              · unfold zfv; rw [if_neg (by rw [ek]; decide), if_neg (by rw [ek]; decide)]; simp [zu, zcv, va_rf]
              · intro j hj; unfold zfv; simp [zu, hj]
              · intro b2 k2 c2 e2
                dsimp only [zu] at e2
                split at e2
                · cases e2; exact exl
                · exact hI.2.2.2.1 _ _ _ e2
              · cases hz : zft cc2 k <;> rw [hz] at ek <;> first | rfl | (simp [zk] at ek)
              · cases hz : zft cc2 k <;> rw [hz] at ek <;> first | rfl | (simp [zk] at ek)
            · cases hs
          · cases hs
        · cases hs
      · cases hs
    | getstatic idx =>
      dsimp only at hs
      split at hs
      · cases hs
        obtain ⟨hk1, qs, hq, hlink⟩ := ho2
        cases k with
        | zero => exact absurd hk1 (by decide)
        | succ k =>
          have hZ := hG.2.2.2.2.2.1 k qs hq
          have kk2 := (kk g H locs ls (fun _ _ => rfl) hg hI hS hl)
          simp only [List.map_cons, zcv, hg (k + 1)] at kk2
          exact va_gets hx hb hZ hS hown (hts _ hlink) (fun _ h9 => h9) (zdec ho (Nat.succ_ne_zero _)) kk2
      · cases hs
    | new idx =>
      dsimp only at hs
      obtain ⟨qc, hq, hcl, hins, hini, hin, hty, hk3⟩ := ho2
      obtain ⟨qC, qT, qN⟩ := qc
      split at hs
      · rename_i hcond
        rw [hq] at hs
        dsimp only at hs
        cases hs
        dsimp only at hN
        have hz : zsz (h.1 ++ [.inr r]) = zsz h.1 + qN := by
          rw [zsz_app]; simp only [zsz, hq]; rfl
        have hc1 : h.1.length - n0 + 1 ≤ Rm.cells := by have := hN.2.2.1; simp at this; omega
        have hs1 : zsz h.1 - z0 + qN ≤ Rm.slots := by have := hN.2.2.2; rw [hz] at this; omega
        refine va_new (C := qC) (T := qT) (N := qN) hx hb hts hin (zft r) hty hown (hts _ hcl) (hts _ hins) (hts _ hini) hG.1 hI.1 hI.2.1 hS hA hq (fs := (List.range (zNf r)).map (zfv g (h.1 ++ [.inr r], zrow h.2.1 h.1.length (fun _ => none), zrow h.2.2.1 h.1.length (fun _ => 0), zrow h.2.2.2 h.1.length (fun _ => 0)) h.1.length r)) ?_ hc1 hs1 (zdec ho (Nat.succ_ne_zero _)) (fun q0 H1 hP1 hD1 hS1 => ?_)
        · intro j hj
          have hjn : j < zNf r := by rw [zNf_eq hq]; exact hj
          have e1 := zfs_get (g := g) (h := (h.1 ++ [.inr r], zrow h.2.1 h.1.length (fun _ => none), zrow h.2.2.1 h.1.length (fun _ => 0), zrow h.2.2.2 h.1.length (fun _ => 0))) (a := h.1.length) hjn
          unfold vp_V
          rw [List.getD_eq_getElem?_getD, e1]
          simp only [Option.getD_some, zfv, zrow_eq]
          have h3 := hk3 j hj
          cases hz2 : zft r j <;> rw [hz2] at h3 <;> first | rfl | (simp [zk] at h3)
        · have hlen : h.1.length ≤ zro := hI.2.2.2.2.1
          let g2 : Nat → Nat := fun b => if b = h.1.length then q0 else g b
          have hg2 : ∀ b, b ≠ h.1.length → g2 b = g b := fun b hb2 => by simp [g2, hb2]
          have hfr := hcond.2
          have kk2 := kk g2 H1 locs ls (fun b hb2 => hg2 b (by simp at hb2; omega)) (fun r2 => by rw [hg2 _ (by have := hcond.1; omega)]; exact hg r2) (znewIn (sh := .inr r) (q := q0) (x := .inr (r, (List.range (zNf r)).map (zfv g2 (h.1 ++ [.inr r], zrow h.2.1 h.1.length (fun _ => none), zrow h.2.2.1 h.1.length (fun _ => 0), zrow h.2.2.2 h.1.length (fun _ => 0)) h.1.length r))) hI hcond.1 hg2 (by simp [g2]) rfl (fun ty n e => by cases e) (by
            have e9 : (List.range (zNf r)).map (zfv g2 (h.1 ++ [.inr r], zrow h.2.1 h.1.length (fun _ => none), zrow h.2.2.1 h.1.length (fun _ => 0), zrow h.2.2.2 h.1.length (fun _ => 0)) h.1.length r) = (List.range (zNf r)).map (zfv g (h.1 ++ [.inr r], zrow h.2.1 h.1.length (fun _ => none), zrow h.2.2.1 h.1.length (fun _ => 0), zrow h.2.2.2 h.1.length (fun _ => 0)) h.1.length r) := by
              apply List.map_congr_left
              intro k2 _
              simp only [zfv, zrow_eq, Option.map_none]
            rw [e9]; exact ⟨hP1, hD1⟩)) hS1 (zfr_lv hfr hg2 hl)
          have e8 : (Value.ref h.1.length :: st).map (zcv g2) = .ref q0 :: st.map (zcv g) := by
            rw [List.map_cons, zfr_st hfr hg2]; simp [zcv, g2]
          dsimp only at kk2
          rw [e8, hz] at kk2
          have e7 : (h.1 ++ [Sum.inr r]).length - n0 = h.1.length - n0 + 1 := by simp; omega
          have e6 : zsz h.1 + qN - z0 = zsz h.1 - z0 + qN := by omega
          rw [e7, e6] at kk2
          exact kk2
      · cases hs
    | newarray t =>
      dsimp only at hs
      obtain ⟨x, q, rfl, ht⟩ := z1i_e hs
      split at ht
      · rename_i hcond
        obtain ⟨hc0, hx0, hx1, hzk, hfr⟩ := hcond
        cases ht
        dsimp only at hN
        have hz : zsz (h.1 ++ [.inl (newarray.typeOf t, x.toNatClampNeg)]) = zsz h.1 + x.toNatClampNeg := by
          rw [zsz_app]; rfl
        have hc1 : h.1.length - n0 + 1 ≤ Rm.cells := by have := hN.2.2.1; simp at this; omega
        have hs1 : zsz h.1 - z0 + x.toNatClampNeg ≤ Rm.slots := by have := hN.2.2.2; rw [hz] at this; omega
        have hxs : x.toNatClampNeg < 100000 := znat_lt hx0 hx1
        refine va_newa (a0 := (x.toNatClampNeg, if zk (newarray.typeOf t) = 0 then .inl (fun _ => 0) else .inr (.inl (fun _ => 0)))) hx hb (hts _ ho2) rfl hG.1 hI.1 hI.2.1 hS hA ?_ hx0 rfl ?_ hc1 hs1 (zdec ho (Nat.succ_ne_zero _)) (fun q0 cA H1 hK1 hP1 hD1 hS1 => ?_)
        · intro cA
          cases t <;> first | rfl | (simp [zk, newarray.typeOf] at hzk)
        · have : componentBytes (newarray.typeOf t) ≤ 8 := by cases t <;> decide
          exact Nat.le_trans (Nat.mul_le_mul (Nat.le_of_lt hxs) this) (by decide)
        · have hAr := hK1.2 0 (cA, newarray.typeOf t) rfl
          have eA : cA = kc (newarray.typeOf t) := hG.2.1 _ _ (by
            have := hAr.2
            cases t <;> exact this)
          subst eA
          let g2 : Nat → Nat := fun b => if b = h.1.length then q0 else g b
          have hg2 : ∀ b, b ≠ h.1.length → g2 b = g b := fun b hb2 => by simp [g2, hb2]
          have kk2 := kk g2 H1 locs ls (fun b hb2 => hg2 b (by simp at hb2; omega)) (fun r2 => by rw [hg2 _ (by omega)]; exact hg r2) (znewIn (sh := .inl (newarray.typeOf t, x.toNatClampNeg)) (q := q0) (x := .inl (kc (newarray.typeOf t), (x.toNatClampNeg, if zk (newarray.typeOf t) = 0 then .inl (fun _ => 0) else .inr (.inl (fun _ => 0))))) hI hc0 hg2 (by simp [g2]) (by
            simp only [zE, zrow_eq]
            cases t <;> first | rfl | (simp [zk, newarray.typeOf] at hzk)) (fun ty n e => by cases e; exact hAr) ⟨hP1, hD1⟩) hS1 (zfr_lv hfr hg2 hl)
          have e8 : (Value.ref h.1.length :: q).map (zcv g2) = .ref q0 :: q.map (zcv g) := by
            rw [List.map_cons, zfr_st hfr hg2]; simp [zcv, g2]
          dsimp only at kk2
          rw [e8, hz] at kk2
          have e7 : (h.1 ++ [Sum.inl (newarray.typeOf t, x.toNatClampNeg)]).length - n0 = h.1.length - n0 + 1 := by simp; omega
          have e6 : zsz h.1 + x.toNatClampNeg - z0 = zsz h.1 - z0 + x.toNatClampNeg := by omega
          rw [e7, e6] at kk2
          exact kk2
      · cases ht
    | anewarray idx =>
      dsimp only at hs
      obtain ⟨x, q, rfl, ht⟩ := z1i_e hs
      obtain ⟨qc, hq, hcl, hov⟩ := ho2
      obtain ⟨qC, qT, qN⟩ := qc
      split at ht
      · rename_i hcond
        obtain ⟨hc0, hx0, hx1, hfr⟩ := hcond
        rw [hq] at ht
        dsimp only at ht
        cases ht
        dsimp only at hN
        have hz : zsz (h.1 ++ [.inl (.object qC, x.toNatClampNeg)]) = zsz h.1 + x.toNatClampNeg := by
          rw [zsz_app]; rfl
        have hc1 : h.1.length - n0 + 1 ≤ Rm.cells := by have := hN.2.2.1; simp at this; omega
        have hs1 : zsz h.1 - z0 + x.toNatClampNeg ≤ Rm.slots := by have := hN.2.2.2; rw [hz] at this; omega
        have hxs : x.toNatClampNeg < 100000 := znat_lt hx0 hx1
        refine va_newq hx hb hown (hts _ hcl) (hG.2.2.2.1 _ hov) hG.1 hI.1 hI.2.1 hS hA hx0 rfl (by omega) hc1 hs1 (zdec ho (Nat.succ_ne_zero _)) (fun q0 cA H1 hK1 hP1 hD1 hS1 => ?_)
        have hAr := hK1.2 0 (cA, .object qC) rfl
        have eA : cA = kc (.object qC) := hG.2.1 _ _ (by
          obtain ⟨kA, comp, f1, f2, f3, f4⟩ := hAr.2
          exact f4)
        subst eA
        let g2 : Nat → Nat := fun b => if b = h.1.length then q0 else g b
        have hg2 : ∀ b, b ≠ h.1.length → g2 b = g b := fun b hb2 => by simp [g2, hb2]
        have kk2 := kk g2 H1 locs ls (fun b hb2 => hg2 b (by simp at hb2; omega)) (fun r2 => by rw [hg2 _ (by omega)]; exact hg r2) (znewIn (sh := .inl (.object qC, x.toNatClampNeg)) (q := q0) (x := .inl (kc (.object qC), x.toNatClampNeg, .inr (.inr (.inr (.inr (fun _ => none)))))) hI hc0 hg2 (by simp [g2]) (by
          simp only [zE, zrow_eq]; rfl) (fun ty n e => by cases e; exact hAr) ⟨hP1, hD1⟩) hS1 (zfr_lv hfr hg2 hl)
        have e8 : (Value.ref h.1.length :: q).map (zcv g2) = .ref q0 :: q.map (zcv g) := by
          rw [List.map_cons, zfr_st hfr hg2]; simp [zcv, g2]
        dsimp only at kk2
        rw [e8, hz] at kk2
        have e7 : (h.1 ++ [Sum.inl (FieldType.object qC, x.toNatClampNeg)]).length - n0 = h.1.length - n0 + 1 := by simp; omega
        have e6 : zsz h.1 + x.toNatClampNeg - z0 = zsz h.1 - z0 + x.toNatClampNeg := by omega
        rw [e7, e6] at kk2
        exact kk2
      · cases ht
    | invokevirtual idx =>
      dsimp only at hs
      rcases ho2 with ⟨r6, hlk⟩ | ⟨r7, hlk⟩ | ⟨r0, -⟩
      · subst r6
        rw [if_neg (by decide), if_pos rfl] at hs
        split at hs
        · rename_i a q
          split at hs
          · rename_i w ew
            split at hs
            · rename_i hc
              cases hs
              dsimp only at hN
              have kk2 := (kk g H locs ls (fun _ _ => rfl) hg hI hS hl)
              have eg : g a = ro (1000 + (a - zstr)) := by rw [← zstr_g hg (a - zstr)]; congr 1; omega
              show W _ _ _ _ _ _ _ _ _ _ _ _ _ _ _ (F0 m pc ls (.ref (g a) :: q.map (zcv g)))
              rw [eg]
              exact (hstr p e Rm s m args below meth c Q M.2.1 H locs _ _ pc ls (q.map (zcv g)) M.1.cls idx (a - zstr) w hx hb (by rw [hml]; exact hl.1.symm) hown hts hG hS (by omega) (by omega) (by have := hN.2.2.1; omega) (by have := hN.2.2.2; omega) (by rw [zcat_cv]; exact hc.2) ew (zdec ho (Nat.succ_ne_zero _))).1 hlk kk2
            · cases hs
          · cases hs
        · cases hs
      · subst r7
        rw [if_neg (by decide), if_neg (by decide), if_pos rfl] at hs
        obtain ⟨a, j, q, rfl, ht⟩ := zai_e hs
        split at ht
        · rename_i w ew
          split at ht
          · rename_i hc
            cases ht
            dsimp only at hN
            have kk2 := (kk g H locs ls (fun _ _ => rfl) hg hI hS hl)
            have eg : g a = ro (1000 + (a - zstr)) := by rw [← zstr_g hg (a - zstr)]; congr 1; omega
            show W _ _ _ _ _ _ _ _ _ _ _ _ _ _ _ (F0 m pc ls (.int j :: .ref (g a) :: q.map (zcv g)))
            rw [eg]
            exact (hstr p e Rm s m args below meth c Q M.2.1 H locs _ _ pc ls (q.map (zcv g)) M.1.cls idx (a - zstr) w hx hb (by rw [hml]; exact hl.1.symm) hown hts hG hS (by omega) (by omega) (by have := hN.2.2.1; omega) (by have := hN.2.2.2; omega) (by rw [zcat_cv]; exact hc.2.1) ew (zdec ho (Nat.succ_ne_zero _))).2 j hc.2.2 hlk kk2
          · cases ht
        · cases ht
      · subst r0
        rw [if_pos rfl] at hs
        exact hinv k 1 pc L st h _ _ _ hop ⟨rfl, by decide⟩ hs rfl
    | invokespecial idx =>
      dsimp only at hs
      split at hs
      · rename_i r0
        subst r0
        exact hinv k 2 pc L st h _ _ _ hop ⟨rfl, by decide⟩ hs rfl
      · rename_i r0
        split at hs
        · rename_i r1
          obtain ⟨a, q, rfl, ht⟩ := z1a_e hs
          split at ht
          · rename_i hcat
            cases ht
            rcases ho2 with ⟨z, -⟩ | ⟨-, w1, w2, w3⟩
            · exact absurd z r0
            · exact W.objInit hx hb hown (hts _ w1) (hts _ w2) (hts _ w3) rfl (by rw [hml]; exact hl.1) rfl (zdec ho (Nat.succ_ne_zero _)) (by omega) (by
                have : 2 * (F0 m pc ls ((Value.ref a :: q).map (zcv g))).monitorRoom = 0 := rfl
                rw [this, zcat_cv]; omega) (kk g H locs ls (fun _ _ => rfl) hg hI hS hl)
          · cases ht
        · cases hs
    | invokestatic idx =>
      dsimp only at hs
      split at hs
      · rename_i r0
        subst r0
        exact hinv k 0 pc L st h _ _ _ hop ⟨rfl, by decide⟩ hs rfl
      · rename_i r0
        split at hs
        · rename_i r1
          obtain ⟨x, y, q, rfl, ht⟩ := z2i_e hs
          split at ht
          · rename_i hcat
            cases ht
            dsimp only at hN
            rcases ho2 with ⟨z, -⟩ | ⟨z, w1, w2, w3, w4⟩ | ⟨z, -⟩ | ⟨z, -⟩ | ⟨z, -⟩
            · exact absurd z r0
            · exact va_mmax hx hb (by rw [hml]; exact hl.1.symm) hown (hts _ w1) (hts _ w2) (hts _ w3) (hts _ w4) (by omega) (by rw [zcat_cv]; omega) (by have := hN.2.2.1; omega) (by have := hN.2.2.2; omega) (zdec ho (Nat.succ_ne_zero _)) (kk g H locs ls (fun _ _ => rfl) hg hI hS hl)
            all_goals omega
          · cases ht
        · rename_i r1
          split at hs
          · rename_i r2
            obtain ⟨x, y, q, rfl, ht⟩ := z2i_e hs
            split at ht
            · rename_i hcat
              cases ht
              dsimp only at hN
              rcases ho2 with ⟨z, -⟩ | ⟨z, -⟩ | ⟨z, w1, w2, w3, w4⟩ | ⟨z, -⟩ | ⟨z, -⟩
              · omega
              · omega
              · exact va_mmin hx hb (by rw [hml]; exact hl.1.symm) hown (hts _ w1) (hts _ w2) (hts _ w3) (hts _ w4) (by omega) (by rw [zcat_cv]; omega) (by have := hN.2.2.1; omega) (by have := hN.2.2.2; omega) (zdec ho (Nat.succ_ne_zero _)) (kk g H locs ls (fun _ _ => rfl) hg hI hS hl)
              all_goals omega
            · cases ht
          · rename_i r2
            split at hs
            · rename_i r3
              obtain ⟨x, q, rfl, ht⟩ := z1i_e hs
              split at ht
              · rename_i hcat
                cases ht
                dsimp only at hN
                rcases ho2 with ⟨z, -⟩ | ⟨z, -⟩ | ⟨z, -⟩ | ⟨z, w1, w2, w3, w4⟩ | ⟨z, -⟩
                · omega
                · omega
                · omega
                · exact va_mabs hx hb (by rw [hml]; exact hl.1.symm) hown (hts _ w1) (hts _ w2) (hts _ w3) (hts _ w4) (by omega) (by rw [zcat_cv]; omega) (by have := hN.2.2.1; omega) (by have := hN.2.2.2; omega) (zdec ho (Nat.succ_ne_zero _)) (kk g H locs ls (fun _ _ => rfl) hg hI hS hl)
                · omega
              · cases ht
            · rename_i r3
              split at hs
              · rename_i r4
                split at hs
                · rename_i n dp b sp a q
                  split at hs
                  · rename_i t0 n0' t1 n1 ea eb
                    split at hs
                    · rename_i hc
                      obtain ⟨c1, c2, c3, c4, c5, c6, c7, c8, c9, c10⟩ := hc
                      subst c1
                      cases hs
                      rcases ho2 with ⟨z, -⟩ | ⟨z, -⟩ | ⟨z, -⟩ | ⟨z, -⟩ | ⟨z, w1, w2, w3, w4⟩
                      · omega
                      · omega
                      · omega
                      · omega
                      · have hk0 : zk t0 = 0 := by rcases c2 with e | e <;> rw [e] <;> rfl
                        have hAr := hI.2.2.1 _ _ _ ea
                        refine va_copyi hx hb (by rw [hml]; exact hl.1.symm) hown (hts _ w1) (hts _ w2) (hts _ w3) (hts _ w4) (zK1 hG.1 hAr) hI.1 hI.2.1 hS a b 0 0 (zW_i hk0 ea) (zW_i hk0 eb) rfl rfl (by rcases c2 with e | e <;> rw [e] <;> rfl) c5 c6 c7 c8 c9 ?_ (by omega) (by rw [zcat_cv, znfw]; omega) (zdec ho (Nat.succ_ne_zero _)) (fun H1 locs1 hP1 hD1 hS1 => ?_)
                        · intro i _
                          rcases c2 with e | e
                          · rw [e]; rfl
                          · subst e
                            have := hI.2.2.2.2.2 a _ (sp.toNatClampNeg + i) ea
                            rw [← this]
                            exact pk_fb _
                        · refine kk g H1 locs1 ls (fun _ _ => rfl) hg (hI.put (sh := .inl (t0, n1)) eb rfl (fun b2 hb2 => ⟨rfl, zrow_ne _ _ hb2, rfl⟩) ?_ hI.2.2.2.1 ?_ hP1 hD1) hS1 hl
                          · simp [zE, hk0, zrow_eq]
                          · intro n' j' e
                            cases e
                            dsimp only
                            rw [zrow_eq]
                            unfold va_cpy
                            split
                            · exact hI.2.2.2.2.2 _ _ _ ea
                            · exact hI.2.2.2.2.2 _ _ _ eb
                    · cases hs
                  · cases hs
                · cases hs
              · cases hs
    | return_ => exact absurd hs (zret_no _ _ _ _ _)
    | ireturn => exact absurd hs (zret_no _ _ _ _ _)
    | lreturn => exact absurd hs (zret_no _ _ _ _ _)
    | areturn => exact absurd hs (zret_no _ _ _ _ _)
    | _ => cases hs
  · cases hs
end ZST
