set_option maxRecDepth 100000 in
theorem zf_si : Cond.isRef (.static "jdk/internal/util/Preconditions" "SIOOBE_FORMATTER" "Ljava/util/function/BiFunction;") ∈ flatC narrow_1 ∧ Cond.laysStatic "jdk/internal/util/Preconditions" "SIOOBE_FORMATTER" "Ljava/util/function/BiFunction;" ∈ lw_tbl ∧ Cond.initialized "jdk/internal/util/Preconditions" ∈ lw_tbl := by decide +kernel
theorem zsta_len : ∀ r, r < 4 → (zsta r).length ≤ 60 := by decide +kernel
theorem zG_start {p : Program} {s : State} {m : MethodId} {meth : Method} {c : Code} {b L : Nat} {xs : Nat → Int32} (hL : L ≤ 3072) (C0 : lw_At p s m meth c b L xs) : ∃ (D : va_G) (kc : FieldType → ClassId) (ro : Nat → Nat), ro 0 = b ∧ zG D kc (fun q => s.heap.size ≤ q) (zXs L xs) ro s s.heap := by
  obtain ⟨hx, hb, hr, hml, hown, hts, hX, hbl, hlocks, hgv⟩ := C0
  have hfl : ∀ w ∈ flatC narrow_1, w.before #[Value.ref b] s = true := fun w hw => flat_of_before _ hgv w (List.mem_append_right _ hw)
  have hA : ∀ a : Nat, a < s.heap.size → ¬ (fun q => s.heap.size ≤ q) a := fun a h => Nat.not_le.mpr h
  have hD : ∀ k : Nat, ∃ cd : ClassId × (Nat → Nat), ∀ q, vwCl[k]? = some q → u_Kn s q.1 q.2.1 q.2.2 cd.1 cd.2 := by
    intro k
    cases hq : vwCl[k]? with
    | none => exact ⟨(default, fun _ => 0), fun q e => by cases e⟩
    | some q =>
      have hr : k < 12 := (List.getElem?_eq_some_iff.mp hq).1
      obtain ⟨-, w2⟩ := zw_ini k hr q hq (zw_all k hr q hq)
      obtain ⟨cC, iS, h⟩ := u_known (C := q.1) (T := q.2.1) (N := q.2.2) (n := q.2.2) hts (fun w hw => (ztb_good w (zcls_in k q hq w hw)).1) (hts _ (ztb_good _ (zmem _ w2)).1)
      exact ⟨(cC, iS), fun q2 e => by cases e; exact h⟩
  obtain ⟨cd, hcd⟩ := Classical.axiomOfChoice hD
  obtain ⟨adK, adV, hVS, hev⟩ := vk_Sof (args := #[Value.ref b]) (s := s) (N := 11) (tm := zstm) (len := zlens) (byt := zwords) (A := fun q => s.heap.size ≤ q) (by decide +kernel) (fun i hi => hfl _ (zf_str i hi).1) (fun i hi => hfl _ (zf_str i hi).2.1) (fun i hi => hfl _ (zf_str i hi).2.2.1) (fun i hi => hfl _ (zf_str i hi).2.2.2) (fun i hi j hj => hfl _ (zf_chr i hi j hj)) (fun i j hi hj hij => (zf_ne i hi j hj hij).imp (hfl _) (hfl _)) hA
  have hTa : ∀ r : Nat, ∃ t : Nat, r < 4 → (zstt r).eval #[Value.ref b] s none [] s = some (.ref t) ∧ va_T .int t (zsta r).length (fun j => .int ((zsta r).getD j 0)) (fun q => s.heap.size ≤ q) s s.heap := by
    intro r
    by_cases hr : r < 4
    · obtain ⟨z1, z2, z3⟩ := zf_sta r hr
      have hlen : (zsta r).length < 2 ^ 31 := by
        have := zsta_len r hr
        omega
      obtain ⟨t, h1, h2⟩ := va_Tof (args := #[Value.ref b]) (s := s) (tm := zstt r) (ty := .int) (N := (zsta r).length) (f := fun j => .int ((zsta r).getD j 0)) (A := fun q => s.heap.size ≤ q) hlen (hfl _ z1) (va_eqt (hfl _ z2)) (fun j hj => va_eqt (hfl _ (z3 j hj))) hA
      exact ⟨t, fun _ => ⟨h1, h2⟩⟩
    · exact ⟨0, fun h => absurd h hr⟩
  obtain ⟨ta, hta⟩ := Classical.axiomOfChoice hTa
  let ro : Nat → Nat := fun r => if r = 0 then b else if r < 5 then ta (r - 1) else adK (r - 1000)
  have ero : (fun k => ro (1000 + k)) = adK := by
    funext k
    have h1 : ¬ (1000 + k = 0) := by omega
    have h2 : ¬ (1000 + k < 5) := by omega
    simp only [ro, if_neg h1, if_neg h2, Nat.add_sub_cancel_left]
  have ero2 : ∀ k, ro (1000 + k) = adK k := fun k => congrFun ero k
  refine ⟨(fun k => (cd k).1, fun k => (cd k).2), fun ty => (s.vm.findClass ("[" ++ FieldType.toString ty)).getD default, ro, rfl, ⟨fun k q hq => hcd k q hq, fun k q hq => by simp at hq⟩, fun ty cA e => by show cA = (s.vm.findClass _).getD default; rw [e]; rfl, fun a i y h e => va_Nw.of rfl (hts _ (zf_nest a i y h e)), fun C hC => va_AO.of (hts _ (zf_over C hC)), ?_, ?_, ?_, ⟨adV, ?_⟩, ?_, va_Zqof (hts _ zf_si.2.1) (hts _ zf_si.2.2) (hfl _ zf_si.1) hA⟩
  · intro r n f e
    obtain ⟨scr, h1, h2, h3, h4, h5⟩ := hX
    match r, e with
    | 0, e => cases e; exact ⟨scr, h1, h2, h3, Nat.le_of_eq h4.symm, by rw [h4], h5, hA b hbl⟩
    | 1, e => cases e; exact (hta 0 (by decide)).2
    | 2, e => cases e; exact (hta 1 (by decide)).2
    | 3, e => cases e; exact (hta 2 (by decide)).2
    | 4, e => cases e; exact (hta 3 (by decide)).2
    | k + 5, e => cases e
  · intro r q e
    have hr : r < 4 := by
      have := (List.getElem?_eq_some_iff.mp e).1
      simp [zstat] at this
      omega
    obtain ⟨w1, w2⟩ := zf_lay r hr q e
    have h1 := (hta r hr).1
    have er : ro (r + 1) = ta r := by
      have h2 : ¬ (r + 1 = 0) := by omega
      have h3 : r + 1 < 5 := by omega
      simp only [ro, if_neg h2, if_pos h3]; rfl
    rw [er]
    have et : zstt r = Term.static q.1 q.2.1 q.2.2 := by unfold zstt; rw [e]
    rw [et] at h1
    exact va_Zof (hts _ w1) (by rw [w2]; exact hts _ zf_cs.2.2.2) h1 hA
  · intro k idx e
    have hk : k < 11 := (List.getElem?_eq_some_iff.mp e).1
    have ei : zspool.getD k 0 = idx := by rw [List.getD_eq_getElem?_getD, e]; rfl
    have h1 := hev k hk
    unfold zstm at h1
    have h2 := hts _ (zf_ref k hk)
    rw [ei] at h1 h2
    rw [ero2]
    exact ⟨_, vk_R.of h2 h1⟩
  · rw [ero]; exact hVS
  · exact va_Zof (hts _ zf_cs.2.1) (hts _ zf_cs.2.2.1) (va_eqi (hfl _ zf_cs.1)) hA
theorem zlaw_code : zm_286.2.1 = code := rfl
def zh0 : zH := ([], fun _ _ => none, fun _ _ => 0, fun _ _ => 0)
/-- what is left: the abstract machine runs the law to its end, with 1 -/
def zLaw : Prop := ∀ (L : Nat) (xs : Nat → Int32), L ≤ 3072 → ∃ d n h', d ≤ 1000 ∧ zrun (zXs L xs) zP d n zm_286 (0, [some (.ref zro), none, none, none], [], zh0) = some (some (.int 1), h') ∧ h'.1.length ≤ 600000 ∧ zsz h'.1 ≤ 7302250
theorem zwhole (hstr : ∀ l D kc A X ro, zStr l D kc A X ro) (hz : zLaw) {p : Program} {e : Env} {s : State} {m : MethodId} {below : List Frame} {meth : Method} {c : Code} (l : Launch) {b L : Nat} {xs : Nat → Int32} (hL : L ≤ 3072) (C0 : lw_At p s m meth c b L xs) : W p l e room_1 s m #[Value.ref b] below meth c s.heap [] 0 0 (lw_Z below #[Value.ref b] s) (entryFrame m ([Value.ref b] : List Value).toArray 4) := by
  obtain ⟨D, kc, ro, hro, hG⟩ := zG_start hL C0
  obtain ⟨hx, hb, hr, hml, hown, hts, hX, hbl, hlocks, hgv⟩ := C0
  obtain ⟨d, n, h', hd, hrun, hN, hZ⟩ := hz L xs hL
  let g : Nat → Nat := fun a => ro (a - zro)
  have hg : zrho g ro := fun r => by show ro (zro + r - zro) = ro r; rw [Nat.add_sub_cancel_left]
  have hC : zCx p s m #[Value.ref b] meth c D kc (fun q => s.heap.size ≤ q) (zXs L xs) ro zm_286 := ⟨hx, hb, hml, hown, fun w hw => hts w (ztb_good w hw).1, hG, fun q h => h, fun h => absurd h (by decide +kernel)⟩
  have hI : zIn D kc (fun q => s.heap.size ≤ q) g zh0 s s.heap := by
    have h1 : va_P D vwCl (zW kc g zh0) s.heap := fun k q h => by simp [zW, zh0] at h
    have h2 : va_D (fun q => s.heap.size ≤ q) (zW kc g zh0) := ⟨fun i j p q h => by simp [zW, zh0] at h, fun k q h => by simp [zW, zh0] at h⟩
    have h3 : ∀ (a : Nat) (ty : FieldType) (n : Nat), zh0.1[a]? = some (Sum.inl (ty, n)) → ArrOfT s (kc ty) ty ∧ va_RA s (kc ty) ty := fun a ty n h => by simp [zh0] at h
    have h4 : ∀ a k b, zh0.2.1 a k = some b → b < zh0.1.length := fun a k b h => by simp [zh0] at h
    have h6 : ∀ (a n j : Nat), zh0.1[a]? = some (Sum.inl (FieldType.byte, n)) → (zh0.2.2.1 a j).toInt8.toInt32 = zh0.2.2.1 a j := fun a n j h => by simp [zh0] at h
    exact ⟨h1, h2, h3, h4, Nat.zero_le _, h6⟩
  have hlv := zentry_lv (g := g) (vs := [.ref zro]) (n := 4) (by decide)
  have e0 : ([Value.ref zro] : List Value).map (zcv g) = [Value.ref b] := by
    simp only [List.map_cons, List.map_nil, zcv, g, Nat.sub_self, hro]
  rw [e0] at hlv
  rw [lg_entry_eq]
  have K := zsnd_run (p := p) (l := l) (e := e) (Rm := room_1) (s := s) (m := m) (args := #[Value.ref b]) (below := below) (meth := meth) (c := c) (Q := lw_Z below #[Value.ref b] s) (D := D) (kc := kc) (A := fun q => s.heap.size ≤ q) (X := zXs L xs) (ro := ro) (P := zP) (fun mid M hm => (zok_all mid M hm).1) (M := zm_286) zok_law (hstr l D kc _ _ ro) (d := d) (n0 := 0) (z0 := 0) hC ⟨by show d + 5 ≤ 2048; omega, by show 64 * (d + 5) ≤ 84000; omega⟩ (v := some (.int 1)) (h' := h') (g0 := g) ⟨by show h'.1.length ≤ 0 + 600000; omega, by show zsz h'.1 ≤ 0 + 7302250; omega⟩ n (fun k _ => zmet_all (hstr l D kc _ _ ro) zok_all k d) ?_ (0, [some (.ref zro), none, none, none], [], zh0) hrun (Nat.zero_le _) (Nat.zero_le _) g s.heap [] _ (fun _ _ => rfl) hg hI va_S.rf hlv
  · exact K
  · intro k f g' H locs ls hs hag hg' hI' hS' hl'
    obtain ⟨i, c1, cl, r, k1, hop, hz2⟩ := zret_h hs
    obtain ⟨pc, L1, st, h2⟩ := f
    dsimp only at hz2 hop hI' hl' hag ⊢
    have ho := zok_law.2 pc _ hop
    unfold zret at hz2
    split at hz2
    · cases hz2
    · rename_i hq; cases hq
    · split at hz2
      · cases hz2
        refine va_forget (fun q hq => hS'.2.2 q hq) ?_
        refine W.widen (k := 600000) (n := 7302250) (Nat.le_trans (Nat.sub_le _ _) hN) (Nat.le_trans (Nat.sub_le _ _) hZ) ?_
        have hdg := zdec ho (Nat.succ_ne_zero _)
        rw [zlaw_code] at hdg
        exact lw_ret hx hb hr hlocks hdg
      · cases hz2
    · cases hz2
    · cases hz2
    · cases hz2
    · cases hz2
