/-! String.length AND String.charAt OF THE CONSTANTS -/
theorem zjs_w : ([.fieldLink "java/lang/String" 38 "java/lang/String" "COMPACT_STRINGS" "Z", .fieldLink "java/lang/String" 15 "java/lang/String" "coder" "B", .fieldLink "java/lang/String" 9 "java/lang/String" "value" "[B", .methodLink "java/lang/String" 335 yJ0_coder_7d493, .instanceMethod yJ0_coder_7d493, .selects "java/lang/String" yJ0_coder_7d493 yJ0_coder_7d493, .initialized "java/lang/String", .code yJ0_coder_7d493 cJ0_coder_7d493 1 (some .byte), .code yJ0_length_8abf5 cJ0_length_8abf5 1 (some .int), .instanceMethod yJ0_length_8abf5, .selects "java/lang/String" yJ0_length_8abf5 yJ0_length_8abf5,
  .code yJ0_isLatin1_aae02 cJ0_isLatin1_aae02 1 (some .boolean), .methodLink "java/lang/String" 492 yJ0_isLatin1_aae02, .instanceMethod yJ0_isLatin1_aae02, .selects "java/lang/String" yJ0_isLatin1_aae02 yJ0_isLatin1_aae02, .code yJ3_checkIndex_8e157 cJ3_checkIndex_8e157 3 (some .int), .methodLink "java/lang/String" 1059 yJ3_checkIndex_8e157, .static yJ3_checkIndex_8e157, .initialized "jdk/internal/util/Preconditions", .fieldLink "java/lang/String" 1053 "jdk/internal/util/Preconditions" "SIOOBE_FORMATTER" "Ljava/util/function/BiFunction;",
  .code yJ0_checkIndex_df160 cJ0_checkIndex_df160 2 none, .methodLink "java/lang/StringLatin1" 9 yJ0_checkIndex_df160, .static yJ0_checkIndex_df160, .code yJ1_charAt_3b067 cJ1_charAt_3b067 2 (some .char), .methodLink "java/lang/String" 495 yJ1_charAt_3b067, .static yJ1_charAt_3b067, .initialized "java/lang/StringLatin1", .code yJ0_charAt_5068e cJ0_charAt_5068e 2 (some .char), .instanceMethod yJ0_charAt_5068e, .selects "java/lang/String" yJ0_charAt_5068e yJ0_charAt_5068e] : List Cond).all (fun w => decide (w ∈ lw_tbl) && goodWord w) = true := by decide +kernel
theorem zjs (i : Nat) (w : Cond) (h : ([.fieldLink "java/lang/String" 38 "java/lang/String" "COMPACT_STRINGS" "Z", .fieldLink "java/lang/String" 15 "java/lang/String" "coder" "B", .fieldLink "java/lang/String" 9 "java/lang/String" "value" "[B", .methodLink "java/lang/String" 335 yJ0_coder_7d493, .instanceMethod yJ0_coder_7d493, .selects "java/lang/String" yJ0_coder_7d493 yJ0_coder_7d493, .initialized "java/lang/String", .code yJ0_coder_7d493 cJ0_coder_7d493 1 (some .byte), .code yJ0_length_8abf5 cJ0_length_8abf5 1 (some .int), .instanceMethod yJ0_length_8abf5, .selects "java/lang/String" yJ0_length_8abf5 yJ0_length_8abf5,
  .code yJ0_isLatin1_aae02 cJ0_isLatin1_aae02 1 (some .boolean), .methodLink "java/lang/String" 492 yJ0_isLatin1_aae02, .instanceMethod yJ0_isLatin1_aae02, .selects "java/lang/String" yJ0_isLatin1_aae02 yJ0_isLatin1_aae02, .code yJ3_checkIndex_8e157 cJ3_checkIndex_8e157 3 (some .int), .methodLink "java/lang/String" 1059 yJ3_checkIndex_8e157, .static yJ3_checkIndex_8e157, .initialized "jdk/internal/util/Preconditions", .fieldLink "java/lang/String" 1053 "jdk/internal/util/Preconditions" "SIOOBE_FORMATTER" "Ljava/util/function/BiFunction;",
  .code yJ0_checkIndex_df160 cJ0_checkIndex_df160 2 none, .methodLink "java/lang/StringLatin1" 9 yJ0_checkIndex_df160, .static yJ0_checkIndex_df160, .code yJ1_charAt_3b067 cJ1_charAt_3b067 2 (some .char), .methodLink "java/lang/String" 495 yJ1_charAt_3b067, .static yJ1_charAt_3b067, .initialized "java/lang/StringLatin1", .code yJ0_charAt_5068e cJ0_charAt_5068e 2 (some .char), .instanceMethod yJ0_charAt_5068e, .selects "java/lang/String" yJ0_charAt_5068e yJ0_charAt_5068e] : List Cond)[i]? = some w) : w ∈ ztb := zmem w (List.all_eq_true.mp zjs_w w (List.mem_of_getElem? h))
def zrj (n : Nat) : Room := { frames := n, cells := 0, slots := 0, locals := 32 * n }
def zwj (y : MethodName) (cc : ByteArray) (mx : Nat) (ret : Option FieldType) : List Cond := Cond.code y cc mx ret :: ztb
def zPj (A : Nat → Prop) (ro : Nat → Nat) (vs : List Value) (B : State → Prop) : Array Value → State → Prop := va_Pc vs (fun U => zGs A ro U U.heap ∧ B U)
theorem zPj_blind {A : Nat → Prop} {ro : Nat → Nat} {vs : List Value} : FrameBlind (zPj A ro vs (fun _ => True)) := by
  intro a U fr mk hp
  obtain ⟨e, h1, -⟩ := hp
  exact ⟨e, h1.same (U := U.calling fr mk a) rfl, trivial⟩
theorem zwj_good {y : MethodName} {cc : ByteArray} {mx : Nat} {ret : Option FieldType} (h : Cond.code y cc mx ret ∈ ztb) : GoodIn ztb (zwj y cc mx ret) := fun w hw => by
  unfold zwj at hw
  rcases List.mem_cons.mp hw with e | e
  · rw [e]; exact ⟨h, (ztb_good _ h).2⟩
  · exact ⟨e, (ztb_good _ e).2⟩
theorem dj_coder : decode cJ0_coder_7d493 0 = .ok (.getstatic 38, 3) ∧ decode cJ0_coder_7d493 3 = .ok (.ifCond .eq 10, 3) ∧ decode cJ0_coder_7d493 6 = .ok (.aload_n 0, 1) ∧ decode cJ0_coder_7d493 7 = .ok (.getfield 15, 3) ∧ decode cJ0_coder_7d493 10 = .ok (.goto 4, 3) ∧ decode cJ0_coder_7d493 14 = .ok (.ireturn, 1) := by decide +kernel
theorem dj_latin : decode cJ0_isLatin1_aae02 0 = .ok (.getstatic 38, 3) ∧ decode cJ0_isLatin1_aae02 3 = .ok (.ifCond .eq 14, 3) ∧ decode cJ0_isLatin1_aae02 6 = .ok (.aload_n 0, 1) ∧ decode cJ0_isLatin1_aae02 7 = .ok (.getfield 15, 3) ∧ decode cJ0_isLatin1_aae02 10 = .ok (.ifCond .ne 7, 3) ∧ decode cJ0_isLatin1_aae02 13 = .ok (.iconst 1, 1) ∧ decode cJ0_isLatin1_aae02 14 = .ok (.goto 4, 3) ∧ decode cJ0_isLatin1_aae02 18 = .ok (.ireturn, 1) := by decide +kernel
theorem dj_len : decode cJ0_length_8abf5 0 = .ok (.aload_n 0, 1) ∧ decode cJ0_length_8abf5 1 = .ok (.getfield 9, 3) ∧ decode cJ0_length_8abf5 4 = .ok (.arraylength, 1) ∧ decode cJ0_length_8abf5 5 = .ok (.aload_n 0, 1) ∧ decode cJ0_length_8abf5 6 = .ok (.invokevirtual 335, 3) ∧ decode cJ0_length_8abf5 9 = .ok (.ishr, 1) ∧ decode cJ0_length_8abf5 10 = .ok (.ireturn, 1) := by decide +kernel
theorem dj_pre : decode cJ3_checkIndex_8e157 0 = .ok (.iload_n 0, 1) ∧ decode cJ3_checkIndex_8e157 1 = .ok (.ifCond .lt 8, 3) ∧ decode cJ3_checkIndex_8e157 4 = .ok (.iload_n 0, 1) ∧ decode cJ3_checkIndex_8e157 5 = .ok (.iload_n 1, 1) ∧ decode cJ3_checkIndex_8e157 6 = .ok (.if_icmp .lt 10, 3) ∧ decode cJ3_checkIndex_8e157 16 = .ok (.iload_n 0, 1) ∧ decode cJ3_checkIndex_8e157 17 = .ok (.ireturn, 1) := by decide +kernel
theorem dj_chk : decode cJ0_checkIndex_df160 0 = .ok (.iload_n 0, 1) ∧ decode cJ0_checkIndex_df160 1 = .ok (.iload_n 1, 1) ∧ decode cJ0_checkIndex_df160 2 = .ok (.getstatic 1053, 3) ∧ decode cJ0_checkIndex_df160 5 = .ok (.invokestatic 1059, 3) ∧ decode cJ0_checkIndex_df160 8 = .ok (.pop, 1) ∧ decode cJ0_checkIndex_df160 9 = .ok (.return_, 1) := by decide +kernel
theorem dj_lat : decode cJ1_charAt_3b067 0 = .ok (.iload_n 1, 1) ∧ decode cJ1_charAt_3b067 1 = .ok (.aload_n 0, 1) ∧ decode cJ1_charAt_3b067 2 = .ok (.arraylength, 1) ∧ decode cJ1_charAt_3b067 3 = .ok (.invokestatic 9, 3) ∧ decode cJ1_charAt_3b067 6 = .ok (.aload_n 0, 1) ∧ decode cJ1_charAt_3b067 7 = .ok (.iload_n 1, 1) ∧ decode cJ1_charAt_3b067 8 = .ok (.baload, 1) ∧ decode cJ1_charAt_3b067 9 = .ok (.sipush 255, 3) ∧ decode cJ1_charAt_3b067 12 = .ok (.iand, 1) ∧ decode cJ1_charAt_3b067 13 = .ok (.i2c, 1) ∧ decode cJ1_charAt_3b067 14 = .ok (.ireturn, 1) := by decide +kernel
theorem dj_chr : decode cJ0_charAt_5068e 0 = .ok (.aload_n 0, 1) ∧ decode cJ0_charAt_5068e 1 = .ok (.invokevirtual 492, 3) ∧ decode cJ0_charAt_5068e 4 = .ok (.ifCond .eq 12, 3) ∧ decode cJ0_charAt_5068e 7 = .ok (.aload_n 0, 1) ∧ decode cJ0_charAt_5068e 8 = .ok (.getfield 9, 3) ∧ decode cJ0_charAt_5068e 11 = .ok (.iload_n 1, 1) ∧ decode cJ0_charAt_5068e 12 = .ok (.invokestatic 495, 3) ∧ decode cJ0_charAt_5068e 15 = .ok (.ireturn, 1) := by decide +kernel
section ZJS
variable {l : Launch} {A : Nat → Prop} {ro : Nat → Nat}
set_option maxHeartbeats 4000000 in
theorem cj_coder {k : Nat} (hk : k < 11) : Met l yJ0_coder_7d493 (zwj yJ0_coder_7d493 cJ0_coder_7d493 1 (some .byte)) (zrj 0) (zPj A ro [.ref (ro (1000 + k))] (fun _ => True)) (QcRead 0) 0 0 (fun _ => False) := by
  refine Met.ofW (cc := cJ0_coder_7d493) (maxL := 1) (ret := some .byte) (by decide +kernel) rfl ?_
  intro p e s m args below meth c s₁ B hml hv
  obtain ⟨rfl, ⟨hR, ⟨sv, hV⟩, hZ, hq⟩, -⟩ := hv
  have hx := B.exec
  have hb := B.bytes
  have hr := B.returns
  have hts : ∀ w ∈ ztb, w.before (#[Value.ref (ro (1000 + k))]) s = true := fun w hw => atoms_spec (ws := zwj yJ0_coder_7d493 cJ0_coder_7d493 1 (some .byte)) B.pre w (List.mem_cons_of_mem _ hw)
  have hown : s.vm.findClass "java/lang/String" = some m.cls := findClass_of_methodNamed B.named
  have hlocks := B.notSynchronized
  have hS : va_S A s.heap s.heap [] := va_S.rf
  obtain ⟨d0, d3, d6, d7, d10, d14⟩ := dj_coder
  have hl := lv_entry ([.ref (ro (1000 + k))]) (n := 1) (Nat.le_of_ble_eq_true rfl)
  rw [lg_entry_eq]
  generalize (lg_sl ([.ref (ro (1000 + k))]) ++ List.replicate (1 - (lg_sl ([.ref (ro (1000 + k))])).length) Slot.unset).toArray = ls at hl ⊢
  have hl : lv_has ls 1 [(0, .ref (ro (1000 + k)))] := hl
  refine va_gets hx hb hZ hS hown (hts _ (zjs 0 _ rfl)) (fun _ h9 => h9) d0 ?_
  refine lv_if_eq (tgt := 13) hx hb d3 (by decide) (fun h => absurd h (by decide)) (fun _ => ?_)
  refine lv_aload_n hx hb d6 rfl (lv_at hl 0 rfl) ?_
  refine vk_getf hx hb (hV.1 k hk).2.1 hS hown (hts _ (zjs 1 _ rfl)) (fun _ h9 => h9) d7 ?_
  refine lv_goto (tgt := 14) hx hb d10 (by decide) ?_
  exact W.zret (v := 0) hx hb hr rfl (fun t ht _ => ⟨rfl, ht⟩) (fun q h => by cases h) d14
set_option maxHeartbeats 4000000 in
theorem cj_latin {k : Nat} (hk : k < 11) : Met l yJ0_isLatin1_aae02 (zwj yJ0_isLatin1_aae02 cJ0_isLatin1_aae02 1 (some .boolean)) (zrj 0) (zPj A ro [.ref (ro (1000 + k))] (fun _ => True)) (QcRead 1) 0 0 (fun _ => False) := by
  refine Met.ofW (cc := cJ0_isLatin1_aae02) (maxL := 1) (ret := some .boolean) (by decide +kernel) rfl ?_
  intro p e s m args below meth c s₁ B hml hv
  obtain ⟨rfl, ⟨hR, ⟨sv, hV⟩, hZ, hq⟩, -⟩ := hv
  have hx := B.exec
  have hb := B.bytes
  have hr := B.returns
  have hts : ∀ w ∈ ztb, w.before (#[Value.ref (ro (1000 + k))]) s = true := fun w hw => atoms_spec (ws := zwj yJ0_isLatin1_aae02 cJ0_isLatin1_aae02 1 (some .boolean)) B.pre w (List.mem_cons_of_mem _ hw)
  have hown : s.vm.findClass "java/lang/String" = some m.cls := findClass_of_methodNamed B.named
  have hlocks := B.notSynchronized
  have hS : va_S A s.heap s.heap [] := va_S.rf
  obtain ⟨d0, d3, d6, d7, d10, d13, d14, d18⟩ := dj_latin
  have hl := lv_entry ([.ref (ro (1000 + k))]) (n := 1) (Nat.le_of_ble_eq_true rfl)
  rw [lg_entry_eq]
  generalize (lg_sl ([.ref (ro (1000 + k))]) ++ List.replicate (1 - (lg_sl ([.ref (ro (1000 + k))])).length) Slot.unset).toArray = ls at hl ⊢
  have hl : lv_has ls 1 [(0, .ref (ro (1000 + k)))] := hl
  refine va_gets hx hb hZ hS hown (hts _ (zjs 0 _ rfl)) (fun _ h9 => h9) d0 ?_
  refine lv_if_eq (tgt := 17) hx hb d3 (by decide) (fun h => absurd h (by decide)) (fun _ => ?_)
  refine lv_aload_n hx hb d6 rfl (lv_at hl 0 rfl) ?_
  refine vk_getf hx hb (hV.1 k hk).2.1 hS hown (hts _ (zjs 1 _ rfl)) (fun _ h9 => h9) d7 ?_
  refine lv_if_ne (tgt := 17) hx hb d10 (by decide) (fun h => absurd rfl h) (fun _ => ?_)
  refine lv_iconst (v := 1) hx hb d13 (by decide) ?_
  refine lv_goto (tgt := 18) hx hb d14 (by decide) ?_
  exact W.zret (v := 1) hx hb hr rfl (fun t ht _ => ⟨rfl, ht⟩) (fun q h => by cases h) d18
set_option maxHeartbeats 4000000 in
theorem cj_len {k : Nat} (hk : k < 11) : Met l yJ0_length_8abf5 (zwj yJ0_length_8abf5 cJ0_length_8abf5 1 (some .int)) (zrj 1) (zPj A ro [.ref (ro (1000 + k))] (fun _ => True)) (QcRead (Int32.ofNat (zlens.getD k 0))) 0 0 (fun _ => False) := by
  refine Met.ofW (cc := cJ0_length_8abf5) (maxL := 1) (ret := some .int) (by decide +kernel) rfl ?_
  intro p e s m args below meth c s₁ B hml hv
  obtain ⟨rfl, hGs, -⟩ := hv
  obtain ⟨hR, ⟨sv, hV⟩, hZ, hq⟩ := id hGs
  have hx := B.exec
  have hb := B.bytes
  have hr := B.returns
  have hts : ∀ w ∈ ztb, w.before (#[Value.ref (ro (1000 + k))]) s = true := fun w hw => atoms_spec (ws := zwj yJ0_length_8abf5 cJ0_length_8abf5 1 (some .int)) B.pre w (List.mem_cons_of_mem _ hw)
  have hown : s.vm.findClass "java/lang/String" = some m.cls := findClass_of_methodNamed B.named
  have hlocks := B.notSynchronized
  have hS : va_S A s.heap s.heap [] := va_S.rf
  obtain ⟨d0, d1, d4, d5, d6, d9, d10⟩ := dj_len
  have hl := lv_entry ([.ref (ro (1000 + k))]) (n := 1) (Nat.le_of_ble_eq_true rfl)
  rw [lg_entry_eq]
  generalize (lg_sl ([.ref (ro (1000 + k))]) ++ List.replicate (1 - (lg_sl ([.ref (ro (1000 + k))])).length) Slot.unset).toArray = ls at hl ⊢
  have hl : lv_has ls 1 [(0, .ref (ro (1000 + k)))] := hl
  refine lv_aload_n hx hb d0 rfl (lv_at hl 0 rfl) ?_
  refine vk_getf hx hb (hV.1 k hk).2.2.1 hS hown (hts _ (zjs 2 _ rfl)) (fun _ h9 => h9) d1 ?_
  refine va_tlen hx hb (hV.1 k hk).2.2.2 hS rfl d4 ?_
  refine lv_aload_n hx hb d5 rfl (lv_at hl 0 rfl) ?_
  refine W.callR (W.runV (C := "java/lang/String") (b := ro (1000 + k)) (As := []) (n := 0) (nL := 1) (Ts := ztb) ⟨hx, hb, hml, hown, hts⟩ (cj_coder hk) ⟨⟨rfl, rfl, Nat.le_of_ble_eq_true rfl, Nat.le_of_ble_eq_true rfl, pay_in hts (zwj_good (zjs 7 _ rfl)), List.mem_cons_self, hts _ (zjs 7 _ rfl), hts _ (zjs 6 _ rfl), by decide +kernel, fun sig h => ?_, hts _ (zjs 3 _ rfl)⟩, hts _ (zjs 4 _ rfl), hts _ (zjs 5 _ rfl)⟩ ⟨zPj_blind, vk_recv (adK := fun k => ro (1000 + k)) (i := k) hV hk hS, fun U hU hW => ⟨rfl, hGs.moved hW (fun a h1 h2 => by rw [hU]), trivial⟩⟩ rfl rfl hl.1 rfl (Nat.le_of_ble_eq_true rfl) d6 ⟨Nat.le_refl _, Nat.le_refl _⟩) ?_
  · have e1 : (parseMethodDescriptor yJ0_coder_7d493.desc).map (fun d => d.parameters.length) = some 0 := by decide +kernel
    rw [h] at e1; exact (Option.some.inj e1).symm
  refine lv_ishr hx hb d9 ?_
  have e2 : Int32.ofNat (zlens.getD k 0) >>> ((0 : Int32) &&& 31) = Int32.ofNat (zlens.getD k 0) := sb_shr0 _
  rw [e2]
  exact W.iret hx hb hr (fun t ht _ => ⟨rfl, ht⟩) (fun q h => by cases h) d10
set_option maxHeartbeats 4000000 in
theorem cj_pre {j n : Int32} {v : Value} (hv0 : v = .null ∨ ∃ t, v = .ref t) (h0 : ¬ j < 0) (h1 : j < n) : Met l yJ3_checkIndex_8e157 (zwj yJ3_checkIndex_8e157 cJ3_checkIndex_8e157 3 (some .int)) (zrj 0) (va_Pc [.int j, .int n, v] (fun _ => True)) (QcRead j) 0 0 (fun _ => False) := by
  refine Met.ofW (cc := cJ3_checkIndex_8e157) (maxL := 3) (ret := some .int) (by decide +kernel) rfl ?_
  intro p e s m args below meth c s₁ B hml hv
  obtain ⟨rfl, -⟩ := hv
  have hx := B.exec
  have hb := B.bytes
  have hr := B.returns
  have hlocks := B.notSynchronized
  obtain ⟨d0, d1, d4, d5, d6, d16, d17⟩ := dj_pre
  have hlen : (lg_sl [.int j, .int n, v]).length ≤ 3 := by rcases hv0 with rfl | ⟨t, rfl⟩ <;> exact Nat.le_refl 3
  have hl := lv_entry ([.int j, .int n, v]) (n := 3) hlen
  rw [lg_entry_eq]
  generalize (lg_sl ([.int j, .int n, v]) ++ List.replicate (3 - (lg_sl ([.int j, .int n, v])).length) Slot.unset).toArray = ls at hl ⊢
  have hl : lv_has ls 3 [(0, .int j), (1, .int n), (2, v)] := hl
  refine lv_iload_n hx hb d0 rfl (lv_at hl 0 rfl) ?_
  refine lv_if_lt (tgt := 9) hx hb d1 (by decide) (fun h => absurd h h0) (fun _ => ?_)
  refine lv_iload_n hx hb d4 rfl (lv_at hl 0 rfl) ?_
  refine lv_iload_n hx hb d5 rfl (lv_at hl 1 rfl) ?_
  refine lv_icmp_lt (tgt := 16) hx hb d6 (by decide) (fun _ => ?_) (fun h => absurd h1 h)
  refine lv_iload_n hx hb d16 rfl (lv_at hl 0 rfl) ?_
  exact W.iret hx hb hr (fun t ht _ => ⟨rfl, ht⟩) (fun q h => by cases h) d17
def QcNone : Array Value → State → Outcome → State → Prop := fun _ st o t => o = .returned none ∧ t.heap = st.heap
set_option maxHeartbeats 4000000 in
theorem cj_chk {j n : Int32} (h0 : ¬ j < 0) (h1 : j < n) : Met l yJ0_checkIndex_df160 (zwj yJ0_checkIndex_df160 cJ0_checkIndex_df160 2 none) (zrj 1) (zPj A ro [.int j, .int n] (fun _ => True)) QcNone 0 0 (fun _ => False) := by
  refine Met.ofW (cc := cJ0_checkIndex_df160) (maxL := 2) (ret := none) (by decide +kernel) rfl ?_
  intro p e s m args below meth c s₁ B hml hv
  obtain ⟨rfl, hGs, -⟩ := hv
  obtain ⟨hR, ⟨sv, hV⟩, hZ, hq⟩ := id hGs
  have hx := B.exec
  have hb := B.bytes
  have hr := B.returns
  have hts : ∀ w ∈ ztb, w.before (#[Value.int j, Value.int n]) s = true := fun w hw => atoms_spec (ws := zwj yJ0_checkIndex_df160 cJ0_checkIndex_df160 2 none) B.pre w (List.mem_cons_of_mem _ hw)
  have hown : s.vm.findClass "java/lang/String" = some m.cls := findClass_of_methodNamed B.named
  have hlocks := B.notSynchronized
  have hS : va_S A s.heap s.heap [] := va_S.rf
  obtain ⟨d0, d1, d2, d5, d8, d9⟩ := dj_chk
  have hl := lv_entry ([.int j, .int n]) (n := 2) (Nat.le_of_ble_eq_true rfl)
  rw [lg_entry_eq]
  generalize (lg_sl ([.int j, .int n]) ++ List.replicate (2 - (lg_sl ([.int j, .int n])).length) Slot.unset).toArray = ls at hl ⊢
  have hl : lv_has ls 2 [(0, .int j), (1, .int n)] := hl
  refine lv_iload_n hx hb d0 rfl (lv_at hl 0 rfl) ?_
  refine lv_iload_n hx hb d1 rfl (lv_at hl 1 rfl) ?_
  have key : ∀ v : Value, (v = .null ∨ ∃ t, v = .ref t) → va_Z "jdk/internal/util/Preconditions" "SIOOBE_FORMATTER" "Ljava/util/function/BiFunction;" v A s s.heap → W p l e (headSpec (zwj yJ0_checkIndex_df160 cJ0_checkIndex_df160 2 none) (zrj 1)).room s m #[Value.int j, Value.int n] below meth c s.heap [] 0 0 (MQ below QcNone #[Value.int j, Value.int n] s 0 0 fun _ => False) (F0 m 2 ls [.int n, .int j]) := by
    intro v hv0 hZ2
    refine va_gets hx hb hZ2 hS hown (hts _ (zjs 19 _ rfl)) (fun _ h9 => h9) d2 ?_
    refine W.callR (W.runS (As := [.int j, .int n, v]) (rest := []) (n := 3) (nL := 2) (Ts := ztb) ⟨hx, hb, hml, hown, hts⟩ (cj_pre hv0 h0 h1) ⟨⟨rfl, rfl, Nat.le_of_ble_eq_true rfl, Nat.le_of_ble_eq_true rfl, pay_in hts (zwj_good (zjs 15 _ rfl)), List.mem_cons_self, hts _ (zjs 15 _ rfl), hts _ (zjs 18 _ rfl), by decide +kernel, fun sig h => ?_, hts _ (zjs 16 _ rfl)⟩, hts _ (zjs 17 _ rfl)⟩ ⟨fun a U fr mk hp => hp, fun U hU hW => ⟨rfl, trivial⟩⟩ rfl rfl hl.1 rfl (Nat.le_of_ble_eq_true rfl) d5 ⟨Nat.le_refl _, Nat.le_refl _⟩) ?_
    · have e1 : (parseMethodDescriptor yJ3_checkIndex_8e157.desc).map (fun d => d.parameters.length) = some 3 := by decide +kernel
      rw [h] at e1; exact (Option.some.inj e1).symm
    refine lv_pop hx hb d8 rfl ?_
    exact W.vret hx hb hr (fun t ht _ => ⟨rfl, ht⟩) (fun q h => by cases h) d9
  rcases hq with hq | ⟨t, hq⟩
  · exact key .null (Or.inl rfl) hq
  · exact key (.ref t) (Or.inr ⟨t, rfl⟩) hq
theorem zcallN {p : Program} {e : Env} {R : Room} {s : State} {m : MethodId} {args : Array Value} {below : List Frame} {meth : Method} {c : Code} {H : Heap} {locs : List Loc} {cells slots : Nat} {Q : State → Prop} {g : JFrame} {rest : List Value} {a : Array Value} (hr : CallRun p l e R s m args below meth c H locs cells slots 0 0 g rest (QcNone a) (fun _ => False)) (kk : W p l e R s m args below meth c H locs cells slots Q { g with pc := g.pc + 3, stack := rest }) : W p l e R s m args below meth c H locs cells slots Q g := by
  intro T hT X
  obtain ⟨v, st₀, t, T', L, h0, X', hL, e1, ⟨hv, hh⟩, st⟩ := hr T hT X
  cases hv
  obtain ⟨t2, a1, b1⟩ := kk T' (by rw [e1, hh, h0]) (Stand.forget X' (fun q h => (hL q h).elim))
  exact ⟨t2, st t2 a1, b1⟩
theorem zch_ok : ∀ k, k < 11 → ∀ j, j < zlens.getD k 0 → (((zwords.getD k []).getD j 0 &&& 255).toUInt32 % 65536).toInt32 = (zwords.getD k []).getD j 0 := by decide +kernel
set_option maxHeartbeats 4000000 in
theorem cj_lat {k : Nat} (hk : k < 11) {sv : Nat → Nat} {j : Int32} (hj : vp_in j (zlens.getD k 0)) (hn : j < Int32.ofNat (zlens.getD k 0)) : Met l yJ1_charAt_3b067 (zwj yJ1_charAt_3b067 cJ1_charAt_3b067 2 (some .char)) (zrj 2) (va_Pc [.ref (sv k), .int j] (fun U => zGs A ro U U.heap ∧ vk_S 11 zlens zwords (fun k => ro (1000 + k)) sv A U U.heap)) (QcRead ((zwords.getD k []).getD j.toNatClampNeg 0)) 0 0 (fun _ => False) := by
  refine Met.ofW (cc := cJ1_charAt_3b067) (maxL := 2) (ret := some .char) (by decide +kernel) rfl ?_
  intro p e s m args below meth c s₁ B hml hv
  obtain ⟨rfl, hGs, hV⟩ := hv
  have hx := B.exec
  have hb := B.bytes
  have hr := B.returns
  have hts : ∀ w ∈ ztb, w.before (#[Value.ref (sv k), Value.int j]) s = true := fun w hw => atoms_spec (ws := zwj yJ1_charAt_3b067 cJ1_charAt_3b067 2 (some .char)) B.pre w (List.mem_cons_of_mem _ hw)
  have hown : s.vm.findClass "java/lang/StringLatin1" = some m.cls := findClass_of_methodNamed B.named
  have hlocks := B.notSynchronized
  have hS : va_S A s.heap s.heap [] := va_S.rf
  have h0 : ¬ j < 0 := fun z => hj (Or.inl z)
  have hjn : j.toNatClampNeg < zlens.getD k 0 := by
    rcases Nat.lt_or_ge j.toNatClampNeg (zlens.getD k 0) with q | q
    · exact q
    · exact absurd (Or.inr q) hj
  obtain ⟨d0, d1, d2, d3, d6, d7, d8, d9, d12, d13, d14⟩ := dj_lat
  have hl := lv_entry ([.ref (sv k), .int j]) (n := 2) (Nat.le_of_ble_eq_true rfl)
  rw [lg_entry_eq]
  generalize (lg_sl ([.ref (sv k), .int j]) ++ List.replicate (2 - (lg_sl ([.ref (sv k), .int j])).length) Slot.unset).toArray = ls at hl ⊢
  have hl : lv_has ls 2 [(0, .ref (sv k)), (1, .int j)] := hl
  refine lv_iload_n hx hb d0 rfl (lv_at hl 1 rfl) ?_
  refine lv_aload_n hx hb d1 rfl (lv_at hl 0 rfl) ?_
  refine va_tlen hx hb (hV.1 k hk).2.2.2 hS rfl d2 ?_
  refine zcallN (W.runS (As := [.int j, .int (Int32.ofNat (zlens.getD k 0))]) (rest := []) (n := 2) (nL := 2) (Ts := ztb) ⟨hx, hb, hml, hown, hts⟩ (cj_chk (A := A) (ro := ro) h0 hn) ⟨⟨rfl, rfl, Nat.le_of_ble_eq_true rfl, Nat.le_of_ble_eq_true rfl, pay_in hts (zwj_good (zjs 20 _ rfl)), List.mem_cons_self, hts _ (zjs 20 _ rfl), hts _ (zjs 6 _ rfl), by decide +kernel, fun sig h => ?_, hts _ (zjs 21 _ rfl)⟩, hts _ (zjs 22 _ rfl)⟩ ⟨zPj_blind, fun U hU hW => ⟨rfl, hGs.moved hW (fun a h1 h2 => by rw [hU]), trivial⟩⟩ rfl rfl hl.1 rfl (Nat.le_of_ble_eq_true rfl) d3 ⟨Nat.le_refl _, Nat.le_refl _⟩) ?_
  · have e1 : (parseMethodDescriptor yJ0_checkIndex_df160.desc).map (fun d => d.parameters.length) = some 2 := by decide +kernel
    rw [h] at e1; exact (Option.some.inj e1).symm
  refine lv_aload_n hx hb d6 rfl (lv_at hl 0 rfl) ?_
  refine lv_iload_n hx hb d7 rfl (lv_at hl 1 rfl) ?_
  refine va_tb hx hb (hV.1 k hk).2.2.2 hS hj rfl d8 ?_
  refine lv_sipush (v := 255) hx hb d9 (by decide) ?_
  refine lv_iand hx hb d12 ?_
  refine lv_i2c hx hb d13 (zch_ok k hk _ hjn) ?_
  refine W.zret hx hb hr ?_ (fun t ht _ => ⟨rfl, ht⟩) (fun q h => by cases h) d14
  rw [← zch_ok k hk _ hjn]
  exact pk_nc _
set_option maxHeartbeats 4000000 in
theorem cj_chr {k : Nat} (hk : k < 11) {j : Int32} (hj : vp_in j (zlens.getD k 0)) (hn : j < Int32.ofNat (zlens.getD k 0)) : Met l yJ0_charAt_5068e (zwj yJ0_charAt_5068e cJ0_charAt_5068e 2 (some .char)) (zrj 3) (zPj A ro [.ref (ro (1000 + k)), .int j] (fun _ => True)) (QcRead ((zwords.getD k []).getD j.toNatClampNeg 0)) 0 0 (fun _ => False) := by
  refine Met.ofW (cc := cJ0_charAt_5068e) (maxL := 2) (ret := some .char) (by decide +kernel) rfl ?_
  intro p e s m args below meth c s₁ B hml hv
  obtain ⟨rfl, hGs, -⟩ := hv
  obtain ⟨hR, ⟨sv, hV⟩, hZ, hq⟩ := id hGs
  have hx := B.exec
  have hb := B.bytes
  have hr := B.returns
  have hts : ∀ w ∈ ztb, w.before (#[Value.ref (ro (1000 + k)), Value.int j]) s = true := fun w hw => atoms_spec (ws := zwj yJ0_charAt_5068e cJ0_charAt_5068e 2 (some .char)) B.pre w (List.mem_cons_of_mem _ hw)
  have hown : s.vm.findClass "java/lang/String" = some m.cls := findClass_of_methodNamed B.named
  have hlocks := B.notSynchronized
  have hS : va_S A s.heap s.heap [] := va_S.rf
  have hjn : j.toNatClampNeg < zlens.getD k 0 := by
    rcases Nat.lt_or_ge j.toNatClampNeg (zlens.getD k 0) with q | q
    · exact q
    · exact absurd (Or.inr q) hj
  obtain ⟨d0, d1, d4, d7, d8, d11, d12, d15⟩ := dj_chr
  have hl := lv_entry ([.ref (ro (1000 + k)), .int j]) (n := 2) (Nat.le_of_ble_eq_true rfl)
  rw [lg_entry_eq]
  generalize (lg_sl ([.ref (ro (1000 + k)), .int j]) ++ List.replicate (2 - (lg_sl ([.ref (ro (1000 + k)), .int j])).length) Slot.unset).toArray = ls at hl ⊢
  have hl : lv_has ls 2 [(0, .ref (ro (1000 + k))), (1, .int j)] := hl
  refine lv_aload_n hx hb d0 rfl (lv_at hl 0 rfl) ?_
  refine W.callR (W.runV (C := "java/lang/String") (b := ro (1000 + k)) (As := []) (rest := []) (n := 0) (nL := 2) (Ts := ztb) ⟨hx, hb, hml, hown, hts⟩ (cj_latin hk) ⟨⟨rfl, rfl, Nat.le_of_ble_eq_true rfl, Nat.le_of_ble_eq_true rfl, pay_in hts (zwj_good (zjs 11 _ rfl)), List.mem_cons_self, hts _ (zjs 11 _ rfl), hts _ (zjs 6 _ rfl), by decide +kernel, fun sig h => ?_, hts _ (zjs 12 _ rfl)⟩, hts _ (zjs 13 _ rfl), hts _ (zjs 14 _ rfl)⟩ ⟨zPj_blind, vk_recv (adK := fun k => ro (1000 + k)) (i := k) hV hk hS, fun U hU hW => ⟨rfl, hGs.moved hW (fun a h1 h2 => by rw [hU]), trivial⟩⟩ rfl rfl hl.1 rfl (Nat.le_of_ble_eq_true rfl) d1 ⟨Nat.le_refl _, Nat.le_refl _⟩) ?_
  · have e1 : (parseMethodDescriptor yJ0_isLatin1_aae02.desc).map (fun d => d.parameters.length) = some 0 := by decide +kernel
    rw [h] at e1; exact (Option.some.inj e1).symm
  refine lv_if_eq (tgt := 16) hx hb d4 rfl (fun h => absurd h (by decide)) (fun _ => ?_)
  refine lv_aload_n hx hb d7 rfl (lv_at hl 0 rfl) ?_
  refine vk_getf hx hb (hV.1 k hk).2.2.1 hS hown (hts _ (zjs 2 _ rfl)) (fun _ h9 => h9) d8 ?_
  refine lv_iload_n hx hb d11 rfl (lv_at hl 1 rfl) ?_
  refine W.callR (W.runS (As := [.ref (sv k), .int j]) (rest := []) (n := 2) (nL := 2) (Ts := ztb) ⟨hx, hb, hml, hown, hts⟩ (cj_lat (A := A) (ro := ro) hk hj hn) ⟨⟨rfl, rfl, Nat.le_of_ble_eq_true rfl, Nat.le_of_ble_eq_true rfl, pay_in hts (zwj_good (zjs 23 _ rfl)), List.mem_cons_self, hts _ (zjs 23 _ rfl), hts _ (zjs 26 _ rfl), by decide +kernel, fun sig h => ?_, hts _ (zjs 24 _ rfl)⟩, hts _ (zjs 25 _ rfl)⟩ ⟨fun a U fr mk hp => ⟨hp.1, hp.2.1.same (U := U.calling fr mk a) rfl, vk_S.moved (U := U.calling fr mk a) (Vm.Alike.refl _) hp.2.2⟩, fun U hU hW => ⟨rfl, hGs.moved hW (fun a h1 h2 => by rw [hU]), (vk_S.moved hW.alike hV).kept (fun a h1 h2 => by rw [hU])⟩⟩ rfl rfl hl.1 rfl (Nat.le_of_ble_eq_true rfl) d12 ⟨Nat.le_refl _, Nat.le_refl _⟩) ?_
  · have e1 : (parseMethodDescriptor yJ1_charAt_3b067.desc).map (fun d => d.parameters.length) = some 2 := by decide +kernel
    rw [h] at e1; exact (Option.some.inj e1).symm
  refine W.zret hx hb hr ?_ (fun t ht _ => ⟨rfl, ht⟩) (fun q h => by cases h) d15
  rw [← zch_ok k hk _ hjn]
  exact pk_nc _
theorem zwl : ∀ k, k < 11 → zlens.getD k 0 = (zwords.getD k []).length := by decide +kernel
set_option maxHeartbeats 4000000 in
theorem zStr_ok (l : Launch) (D : va_G) (kc : FieldType → ClassId) (A : Nat → Prop) (X : zX) (ro : Nat → Nat) : zStr l D kc A X ro := by
  intro p e Rm s m args below meth c Q cc H locs cells slots pc ls rest own idx k w hx hb hml hown hts hG hS hfr hlo hce hsl hcat hw hdg
  have hk : k < 11 := (List.getElem?_eq_some_iff.mp hw).1
  have ew : zwords.getD k [] = w := by rw [List.getD_eq_getElem?_getD, hw]; rfl
  have el : zlens.getD k 0 = w.length := by rw [zwl k hk, ew]
  have hGs := hG.2.2.2.2.2.2
  obtain ⟨hR, ⟨sv, hV⟩, hZ, hq⟩ := id hGs
  have hpre : ∀ U : State, U.heap = H → s.WarmedH U.vm → zGs A ro U U.heap := fun U hU hW => hGs.moved hW (fun a h1 h2 => by rw [hU]; exact hS.2.1 a h1 h2)
  refine ⟨fun hlk kk => ?_, fun j hj hlk kk => ?_⟩
  · refine W.callR (r := Int32.ofNat (zlens.getD k 0)) (W.runV (C := "java/lang/String") (b := ro (1000 + k)) (As := []) (rest := rest) (n := 0) (nL := ls.size) (Ts := ztb) ⟨hx, hb, hml, hown, hts⟩ (cj_len hk) ⟨⟨rfl, rfl, by simp only [zrj]; omega, by simp only [zrj]; omega, pay_in hts (zwj_good (zjs 8 _ rfl)), List.mem_cons_self, hts _ (zjs 8 _ rfl), hts _ (zjs 6 _ rfl), by decide +kernel, fun sig h => ?_, hts _ hlk⟩, hts _ (zjs 9 _ rfl), hts _ (zjs 10 _ rfl)⟩ ⟨zPj_blind, vk_recv (adK := fun k => ro (1000 + k)) (i := k) hV hk hS, fun U hU hW => ⟨rfl, hpre U hU hW, trivial⟩⟩ rfl rfl rfl rfl (by
      have : 2 * (F0 m pc ls (.ref (ro (1000 + k)) :: rest)).monitorRoom = 0 := rfl
      rw [this]; omega) hdg ⟨by omega, by omega⟩) ?_
    · have e1 : (parseMethodDescriptor yJ0_length_8abf5.desc).map (fun d => d.parameters.length) = some 0 := by decide +kernel
      rw [h] at e1; exact (Option.some.inj e1).symm
    · rw [el]; exact kk
  · have hj2 : vp_in j (zlens.getD k 0) := by rw [el]; exact hj
    have hn : j < Int32.ofNat (zlens.getD k 0) := by
      have hlt : zlens.getD k 0 < 2 ^ 31 := by
        have : ∀ k, k < 11 → zlens.getD k 0 < 2 ^ 31 := by decide +kernel
        exact this k hk
      obtain ⟨i, hi, e⟩ := vp_in_of hj2 hlt
      rw [e]
      exact nI_lt hi hlt
    refine W.callR (r := (zwords.getD k []).getD j.toNatClampNeg 0) (W.runV (C := "java/lang/String") (b := ro (1000 + k)) (As := [.int j]) (rest := rest) (n := 1) (nL := ls.size) (Ts := ztb) ⟨hx, hb, hml, hown, hts⟩ (cj_chr hk hj2 hn) ⟨⟨rfl, rfl, by simp only [zrj]; omega, by simp only [zrj]; omega, pay_in hts (zwj_good (zjs 27 _ rfl)), List.mem_cons_self, hts _ (zjs 27 _ rfl), hts _ (zjs 6 _ rfl), by decide +kernel, fun sig h => ?_, hts _ hlk⟩, hts _ (zjs 28 _ rfl), hts _ (zjs 29 _ rfl)⟩ ⟨zPj_blind, vk_recv (adK := fun k => ro (1000 + k)) (i := k) hV hk hS, fun U hU hW => ⟨rfl, hpre U hU hW, trivial⟩⟩ rfl rfl rfl rfl (by
      have : 2 * (F0 m pc ls (.int j :: .ref (ro (1000 + k)) :: rest)).monitorRoom = 0 := rfl
      rw [this]; omega) hdg ⟨by omega, by omega⟩) ?_
    · have e1 : (parseMethodDescriptor yJ0_charAt_5068e.desc).map (fun d => d.parameters.length) = some 1 := by decide +kernel
      rw [h] at e1; exact (Option.some.inj e1).symm
    · rw [ew]; exact kk
end ZJS
