/-! HOW A STATE OF THE ABSTRACT MACHINE LIES IN THE REAL ONE -/
def zcv (g : Nat → Nat) : Value → Value
  | .ref a => .ref (g a)
  | v => v
theorem zcv_cat (g : Nat → Nat) (v : Value) : (zcv g v).category = v.category := by cases v <;> rfl
def zNf (ci : Nat) : Nat := match vwCl[ci]? with
  | some q => q.2.2
  | none => 0
def zfv (g : Nat → Nat) (h : zH) (a ci k : Nat) : Value :=
  if zk (zft ci k) = 0 then .int (h.2.2.1 a k) else if zk (zft ci k) = 1 then .long (h.2.2.2 a k) else va_rf ((h.2.1 a k).map g)
def zE (kc : FieldType → ClassId) (g : Nat → Nat) (h : zH) (a : Nat) (sh : (FieldType × Nat) ⊕ Nat) : va_E := match sh with
  | .inl (ty, n) => .inl (kc ty, n, if zk ty = 0 then .inl (h.2.2.1 a) else if zk ty = 1 then .inr (.inl (h.2.2.2 a)) else .inr (.inr (.inr (.inr (fun j => (h.2.1 a j).map g)))))
  | .inr ci => .inr (ci, (List.range (zNf ci)).map (zfv g h a ci))
def zW (kc : FieldType → ClassId) (g : Nat → Nat) (h : zH) : va_W := h.1.mapIdx (fun a sh => (g a, zE kc g h a sh))
theorem zW_get {kc : FieldType → ClassId} {g : Nat → Nat} {h : zH} {a : Nat} {sh : (FieldType × Nat) ⊕ Nat} (e : h.1[a]? = some sh) : (zW kc g h)[a]? = some (g a, zE kc g h a sh) := by
  unfold zW
  rw [List.getElem?_mapIdx, e]
  rfl
theorem zW_lt {kc : FieldType → ClassId} {g : Nat → Nat} {h : zH} {a : Nat} {x : Nat × va_E} (e : (zW kc g h)[a]? = some x) : ∃ sh, h.1[a]? = some sh ∧ x = (g a, zE kc g h a sh) := by
  unfold zW at e
  rw [List.getElem?_mapIdx] at e
  cases hh : h.1[a]? with
  | none => rw [hh] at e; cases e
  | some sh => rw [hh] at e; exact ⟨sh, rfl, (Option.some.inj e).symm⟩
/-- an address alone changes -/
theorem zE_eq {kc : FieldType → ClassId} {g : Nat → Nat} {h h' : zH} {b : Nat} (sh : (FieldType × Nat) ⊕ Nat) (e1 : h'.2.1 b = h.2.1 b) (e2 : h'.2.2.1 b = h.2.2.1 b) (e3 : h'.2.2.2 b = h.2.2.2 b) : zE kc g h' b sh = zE kc g h b sh := by
  rcases sh with ⟨ty, n⟩ | ci
  · simp only [zE, e1, e2, e3]
  · simp only [zE]
    congr 2
    apply List.map_congr_left
    intro k _
    simp only [zfv, e1, e2, e3]
theorem zW_set {kc : FieldType → ClassId} {g : Nat → Nat} {h h' : zH} {a : Nat} {sh : (FieldType × Nat) ⊕ Nat} (e : h.1[a]? = some sh) (hs : h'.1 = h.1) (ho : ∀ b, b ≠ a → h'.2.1 b = h.2.1 b ∧ h'.2.2.1 b = h.2.2.1 b ∧ h'.2.2.2 b = h.2.2.2 b) :
    zW kc g h' = (zW kc g h).set a (g a, zE kc g h' a sh) := by
  apply List.ext_getElem?
  intro b
  rw [List.getElem?_set]
  have hl : a < h.1.length := (List.getElem?_eq_some_iff.mp e).1
  by_cases hb : a = b
  · subst hb
    rw [if_pos rfl, if_pos (by simpa [zW] using hl)]
    exact zW_get (by rw [hs]; exact e)
  · rw [if_neg hb]
    unfold zW
    rw [List.getElem?_mapIdx, List.getElem?_mapIdx, hs]
    cases h.1[b]? with
    | none => rfl
    | some sb =>
      obtain ⟨o1, o2, o3⟩ := ho b (fun z => hb z.symm)
      simp only [Option.map_some, zE_eq sb o1 o2 o3]
theorem zW_app {kc : FieldType → ClassId} {g g' : Nat → Nat} {h h' : zH} {sh : (FieldType × Nat) ⊕ Nat} {q : Nat} {x : va_E} (hs : h'.1 = h.1 ++ [sh]) (hg : ∀ b, b ≠ h.1.length → g' b = g b) (hq : g' h.1.length = q) (hR : ∀ a k b, h.2.1 a k = some b → b < h.1.length)
    (ho : ∀ b, b ≠ h.1.length → h'.2.1 b = h.2.1 b ∧ h'.2.2.1 b = h.2.2.1 b ∧ h'.2.2.2 b = h.2.2.2 b) (hx : zE kc g' h' h.1.length sh = x) : zW kc g' h' = zW kc g h ++ [(q, x)] := by
  apply List.ext_getElem?
  intro b
  have hm : ∀ a k, (h.2.1 a k).map g' = (h.2.1 a k).map g := by
    intro a k
    cases hr : h.2.1 a k with
    | none => rfl
    | some b => simp only [Option.map_some]; rw [hg b (Nat.ne_of_lt (hR a k b hr))]
  have hlen : (zW kc g h).length = h.1.length := by simp [zW]
  by_cases hb : b < h.1.length
  · rw [List.getElem?_append_left (by rw [hlen]; exact hb)]
    unfold zW
    rw [List.getElem?_mapIdx, List.getElem?_mapIdx, hs, List.getElem?_append_left hb]
    cases h.1[b]? with
    | none => rfl
    | some sb =>
      obtain ⟨o1, o2, o3⟩ := ho b (Nat.ne_of_lt hb)
      simp only [Option.map_some, hg b (Nat.ne_of_lt hb), zE_eq (kc := kc) (g := g') sb o1 o2 o3]
      congr 2
      rcases sb with ⟨ty, n⟩ | ci
      · simp only [zE, hm]
      · simp only [zE]
        congr 2
        apply List.map_congr_left
        intro k _
        simp only [zfv, hm]
  · by_cases hb2 : b = h.1.length
    · subst hb2
      rw [List.getElem?_append_right (by rw [hlen]; exact Nat.le_refl _), hlen, Nat.sub_self]
      have := zW_get (kc := kc) (g := g') (h := h') (a := h.1.length) (sh := sh) (by rw [hs]; simp)
      rw [this, hx, hq]; rfl
    · have h1 : (zW kc g' h')[b]? = none := by
        unfold zW
        rw [List.getElem?_mapIdx, hs, List.getElem?_eq_none (by simp; omega)]; rfl
      rw [h1, List.getElem?_eq_none (by simp [hlen]; omega)]
/-- a field's value, out of the list of the fields -/
theorem zfs_get {g : Nat → Nat} {h : zH} {a ci k : Nat} (hk : k < zNf ci) : ((List.range (zNf ci)).map (zfv g h a ci))[k]? = some (zfv g h a ci k) := by
  simp [hk]
theorem zfs_set {g : Nat → Nat} {h h' : zH} {a ci k : Nat} {v : Value} (hk : k < zNf ci) (hv : zfv g h' a ci k = v) (ho : ∀ j, j ≠ k → zfv g h' a ci j = zfv g h a ci j) : ((List.range (zNf ci)).map (zfv g h a ci)).set k v = (List.range (zNf ci)).map (zfv g h' a ci) := by
  apply List.ext_getElem?
  intro j
  rw [List.getElem?_set]
  by_cases hj : k = j
  · subst hj
    simp [hk, hv]
  · rw [if_neg hj]
    simp only [List.getElem?_map]
    cases hz : (List.range (zNf ci))[j]? with
    | none => rfl
    | some z =>
      have : z = j := by
        have := List.getElem?_eq_some_iff.mp hz
        obtain ⟨_, e⟩ := this
        simpa using e.symm
      subst this
      simp only [Option.map_some]
      rw [ho z (fun e => hj e.symm)]
/-! locals -/
def zlv (g : Nat → Nat) (ls : Array Slot) (n : Nat) (L : zL) : Prop := ls.size = n ∧ lv_wf ls ∧ L.length = n ∧ ∀ i v, zget L i = some v → ls[i]? = some (.val (zcv g v))
def zas (g : Nat → Nat) (L : zL) : List (Nat × Value) := (List.range L.length).filterMap fun i => (zget L i).map fun v => (i, zcv g v)
theorem zget_lt {L : zL} {i : Nat} {v : Value} (h : zget L i = some v) : i < L.length := by
  unfold zget at h
  split at h
  · rename_i e; exact (List.getElem?_eq_some_iff.mp e).1
  · cases h
theorem zas_mem {g : Nat → Nat} {L : zL} {i : Nat} {v : Value} (h : zget L i = some v) : (i, zcv g v) ∈ zas g L := by
  unfold zas
  rw [List.mem_filterMap]
  exact ⟨i, by simpa using zget_lt h, by rw [h]; rfl⟩
theorem zlv_has {g : Nat → Nat} {ls : Array Slot} {n : Nat} {L : zL} (h : zlv g ls n L) : lv_has ls n (zas g L) := by
  refine ⟨h.1, h.2.1, fun q hq => ?_⟩
  unfold zas at hq
  rw [List.mem_filterMap] at hq
  obtain ⟨i, -, e⟩ := hq
  cases hz : zget L i with
  | none => rw [hz] at e; cases e
  | some v => rw [hz] at e; cases e; exact h.2.2.2 i v hz
theorem zcut_len (L : zL) (i : Nat) : (zcut L i).length = L.length := by
  unfold zcut
  split
  · rfl
  · split <;> simp
theorem zlost_some {o : Option Value} {w : Value} (h : zlost o = some w) : o = some w ∧ ¬ w.category = 2 := by
  cases o with
  | none => cases h
  | some v =>
    cases v with
    | long x => cases h
    | double x => cases h
    | _ => cases h; exact ⟨rfl, by simp [Value.category]⟩
theorem zcut_get {L : zL} {i j : Nat} {w : Value} (h : zget (zcut L i) j = some w) : zget L j = some w ∧ ¬ (j + 1 = i ∧ w.category = 2) := by
  unfold zcut at h
  split at h
  · exact ⟨h, fun z => by omega⟩
  · rename_i i
    split at h
    · rename_i o e
      by_cases hj : i = j
      · subst hj
        have hl := (List.getElem?_eq_some_iff.mp e).1
        unfold zget at h ⊢
        rw [List.getElem?_set] at h
        simp only [hl, if_true] at h
        rw [e]
        cases hz : zlost o with
        | none => rw [hz] at h; cases h
        | some u =>
          rw [hz] at h
          have : u = w := by simpa using h
          subst this
          obtain ⟨e1, e2⟩ := zlost_some hz
          rw [e1]
          exact ⟨rfl, fun z => e2 z.2⟩
      · unfold zget at h ⊢
        rw [List.getElem?_set, if_neg hj] at h
        exact ⟨h, fun z => hj (by omega)⟩
    · rename_i e
      refine ⟨h, fun z => ?_⟩
      have hij : j = i := by omega
      subst hij
      unfold zget at h
      rw [e] at h
      cases h
theorem zset1_get {L : zL} {i j : Nat} {v w : Value} (h : zget (zset1 L i v) j = some w) : (j = i ∧ w = v) ∨ (j ≠ i ∧ zget L j = some w ∧ ¬ (j + 1 = i ∧ w.category = 2)) := by
  by_cases hj : i = j
  · subst hj
    left
    unfold zset1 zget at h
    rw [List.getElem?_set] at h
    simp only [if_true] at h
    split at h
    · rename_i u e
      split at e
      · cases e; cases h; exact ⟨rfl, rfl⟩
      · cases e
    · cases h
  · right
    have h2 : zget (zcut L i) j = some w := by
      unfold zset1 zget at h
      rw [List.getElem?_set, if_neg hj] at h
      exact h
    exact ⟨fun z => hj z.symm, zcut_get h2⟩
theorem zset2_get {L : zL} {i j : Nat} {v w : Value} (h : zget (zset2 L i v) j = some w) : (j = i ∧ w = v) ∨ (j ≠ i ∧ j ≠ i + 1 ∧ zget L j = some w ∧ ¬ (j + 1 = i ∧ w.category = 2)) := by
  by_cases hj : i + 1 = j
  · subst hj
    unfold zset2 zget at h
    rw [List.getElem?_set] at h
    simp only [if_true] at h
    split at h
    · rename_i u e
      split at e
      · cases e
      · cases e
    · cases h
  · have h2 : zget (zset1 L i v) j = some w := by
      unfold zset2 zget at h
      rw [List.getElem?_set, if_neg hj] at h
      exact h
    rcases zset1_get h2 with z | ⟨z1, z2, z3⟩
    · exact Or.inl z
    · exact Or.inr ⟨z1, fun z => hj z.symm, z2, z3⟩
theorem zlv_set1 {g : Nat → Nat} {ls ls' : Array Slot} {n i : Nat} {L : zL} {v : Value} (h : zlv g ls n L) (h' : lv_has ls' n ((i, zcv g v) :: (zas g L).filter (fun q => !(q.1 == i) && !(q.1 + 1 == i && q.2.category == 2)))) : zlv g ls' n (zset1 L i v) := by
  refine ⟨h'.1, h'.2.1, by simp [zset1, zcut_len, h.2.2.1], fun j w hw => ?_⟩
  rcases zset1_get hw with ⟨rfl, rfl⟩ | ⟨z1, z2, z3⟩
  · exact h'.2.2 (j, zcv g w) List.mem_cons_self
  · refine h'.2.2 (j, zcv g w) (List.mem_cons_of_mem _ (List.mem_filter.mpr ⟨zas_mem z2, ?_⟩))
    have : ¬ (j + 1 = i ∧ (zcv g w).category = 2) := by rw [zcv_cat]; exact z3
    simp only [Bool.and_eq_true, Bool.not_eq_true', beq_eq_false_iff_ne, ne_eq, Bool.and_eq_false_iff, beq_eq_false_iff_ne]
    refine ⟨z1, ?_⟩
    by_cases hq : j + 1 = i
    · exact Or.inr (fun e => this ⟨hq, e⟩)
    · exact Or.inl hq
theorem zlv_set2 {g : Nat → Nat} {ls ls' : Array Slot} {n i : Nat} {L : zL} {v : Value} (h : zlv g ls n L) (h' : lv_has ls' n ((i, zcv g v) :: (zas g L).filter (fun q => !(q.1 == i) && (!(q.1 == i + 1) && !(q.1 + 1 == i && q.2.category == 2))))) : zlv g ls' n (zset2 L i v) := by
  refine ⟨h'.1, h'.2.1, by simp [zset2, zcut_len, h.2.2.1], fun j w hw => ?_⟩
  rcases zset2_get hw with ⟨rfl, rfl⟩ | ⟨z1, z4, z2, z3⟩
  · exact h'.2.2 (j, zcv g w) List.mem_cons_self
  · refine h'.2.2 (j, zcv g w) (List.mem_cons_of_mem _ (List.mem_filter.mpr ⟨zas_mem z2, ?_⟩))
    have : ¬ (j + 1 = i ∧ (zcv g w).category = 2) := by rw [zcv_cat]; exact z3
    simp only [Bool.and_eq_true, Bool.not_eq_true', beq_eq_false_iff_ne, ne_eq, Bool.and_eq_false_iff, beq_eq_false_iff_ne]
    refine ⟨z1, z4, ?_⟩
    by_cases hq : j + 1 = i
    · exact Or.inr (fun e => this ⟨hq, e⟩)
    · exact Or.inl hq
theorem zent_args {g : Nat → Nat} : ∀ (vs : List Value) (o i : Nat) (v : Value) (n : Nat), zget (zent vs ++ List.replicate n none) i = some v → (o + i, zcv g v) ∈ lv_args o (vs.map (zcv g)) := by
  intro vs
  induction vs with
  | nil =>
    intro o i v n h
    unfold zget at h
    split at h
    · rename_i u e
      simp only [zent, List.nil_append] at e
      have := List.eq_of_mem_replicate (List.mem_of_getElem? e)
      cases this
    · cases h
  | cons w vs ih =>
    intro o i v n h
    have one : ∀ (w : Value), zent (w :: vs) = some w :: zent vs → (zcv g w).category ≠ 2 → zget (zent (w :: vs) ++ List.replicate n none) i = some v → (o + i, zcv g v) ∈ lv_args o ((w :: vs).map (zcv g)) := by
      intro w e hc h
      rw [e] at h
      simp only [List.map_cons, lv_args, if_neg hc]
      cases i with
      | zero =>
        have : v = w := by simpa [zget] using h.symm
        subst this
        exact List.mem_cons_self
      | succ i =>
        have h2 : zget (zent vs ++ List.replicate n none) i = some v := by simpa [zget] using h
        have := ih (o + 1) i v n h2
        rw [show o + (i + 1) = o + 1 + i by omega]
        exact List.mem_cons_of_mem _ this
    have two : ∀ (w : Value), zent (w :: vs) = some w :: none :: zent vs → (zcv g w).category = 2 → zget (zent (w :: vs) ++ List.replicate n none) i = some v → (o + i, zcv g v) ∈ lv_args o ((w :: vs).map (zcv g)) := by
      intro w e hc h
      rw [e] at h
      simp only [List.map_cons, lv_args, if_pos hc]
      cases i with
      | zero =>
        have : v = w := by simpa [zget] using h.symm
        subst this
        exact List.mem_cons_self
      | succ i =>
        cases i with
        | zero => simp [zget] at h
        | succ i =>
          have h2 : zget (zent vs ++ List.replicate n none) i = some v := by simpa [zget] using h
          have := ih (o + 2) i v n h2
          rw [show o + (i + 1 + 1) = o + 2 + i by omega]
          exact List.mem_cons_of_mem _ this
    cases w with
    | long x => exact two _ rfl rfl h
    | double x => exact two _ rfl rfl h
    | int x => exact one _ rfl (by simp [zcv, Value.category]) h
    | ref x => exact one _ rfl (by simp [zcv, Value.category]) h
    | null => exact one _ rfl (by simp [zcv, Value.category]) h
    | _ => exact one _ rfl (by simp [zcv, Value.category]) h
theorem zent_len (g : Nat → Nat) (vs : List Value) : (lg_sl (vs.map (zcv g))).length = (zent vs).length := by
  induction vs with
  | nil => rfl
  | cons w vs ih =>
    cases w <;> simp_all [lg_sl, zent, zcv, Value.category]
theorem zentry_lv {g : Nat → Nat} {vs : List Value} {n : Nat} (h : (zent vs).length ≤ n) : zlv g ((lg_sl (vs.map (zcv g)) ++ List.replicate (n - (lg_sl (vs.map (zcv g))).length) Slot.unset).toArray) n (zentry n vs) := by
  have h1 := lv_entry (vs.map (zcv g)) (n := n) (by rw [zent_len]; exact h)
  refine ⟨h1.1, h1.2.1, by simp [zentry]; omega, fun i v hv => ?_⟩
  have := zent_args (g := g) vs 0 i v _ hv
  rw [Nat.zero_add] at this
  exact h1.2.2 _ this
