/-! CALLS, AND A WHOLE RUN -/
theorem f_len {ret : Option FieldType} {pc : Nat} {L : zL} {rest : List Value} {h : zH} {cal : zC} {mid : Nat} {vs : List Value} {f' : zF} {v : Option Value} {h1 : zH} (hs : zfin ret pc L rest h (cal mid vs h) = some (.inl f')) (hc : cal mid vs h = some (v, h1)) : f'.2.2.2 = h1 := by
  rw [hc] at hs
  unfold zfin at hs
  dsimp only at hs
  split at hs
  · cases v with
    | none =>
      dsimp only at hs
      split at hs
      · cases hs; rfl
      · cases hs
    | some w =>
      dsimp only at hs
      split at hs
      · cases hs
      · cases hs; rfl
  · cases hs
theorem zG.same {D : va_G} {kc : FieldType → ClassId} {A : Nat → Prop} {X : zX} {ro : Nat → Nat} {s U : State} {H : Heap} (h : zG D kc A X ro s H) (hv : s.vm = U.vm) : zG D kc A X ro U H := by
  obtain ⟨h1, h2, h3, h4, h5, h6, h7⟩ := h
  have ha : s.vm.Alike U.vm := by rw [hv]; exact Vm.Alike.refl _
  exact ⟨va_K.moved ha h1, fun ty cA e => h2 ty cA (by rw [hv]; exact e), fun a i x y hm => va_Nw.same rfl hv (h3 a i x y hm), fun C hC => va_AO.moved ha (h4 C hC), fun r n f e => va_T.moved ha (h5 r n f e), fun r q e => va_Z.moved ha (h6 r q e), h7.same hv⟩
theorem zPc_blind {D : va_G} {kc : FieldType → ClassId} {A : Nat → Prop} {X : zX} {ro g : Nat → Nat} {vs : List Value} {h : zH} : FrameBlind (zPc D kc A X ro g vs h) := by
  intro a U fr mk hp
  obtain ⟨e, h1, h2, h3⟩ := hp
  exact ⟨e, h1.same (U := U.calling fr mk a) rfl, h2.moved (U := U.calling fr mk a) (Vm.Alike.refl _), h3⟩
theorem zfr_st2 {g g2 : Nat → Nat} {n n' : Nat} {L : zL} {st : List Value} (hf : zfr n n' L st = true) (hg : ∀ b, (b < n ∨ n' ≤ b) → g2 b = g b) : st.map (zcv g2) = st.map (zcv g) := by
  apply List.map_congr_left
  intro v hv
  unfold zfr at hf
  rw [Bool.and_eq_true] at hf
  have h1 := List.all_eq_true.mp hf.1 v hv
  cases v with
  | ref b =>
    simp only [zfr1, decide_eq_true_eq] at h1
    simp only [zcv]; rw [hg b h1]
  | _ => rfl
theorem zfr_lv2 {g g2 : Nat → Nat} {n n' N : Nat} {L : zL} {st : List Value} {ls : Array Slot} (hf : zfr n n' L st = true) (hg : ∀ b, (b < n ∨ n' ≤ b) → g2 b = g b) (hl : zlv g ls N L) : zlv g2 ls N L := by
  refine ⟨hl.1, hl.2.1, hl.2.2.1, fun i v hv => ?_⟩
  rw [hl.2.2.2 i v hv]
  unfold zfr at hf
  rw [Bool.and_eq_true] at hf
  have hm : some v ∈ L := by
    unfold zget at hv
    split at hv
    · rename_i e; cases hv; exact List.mem_of_getElem? e
    · cases hv
  have h1 := List.all_eq_true.mp hf.2 _ hm
  cases v with
  | ref b =>
    simp only [zfr1, decide_eq_true_eq] at h1
    simp only [zcv]; rw [hg b h1]
  | _ => rfl
theorem zrecv {D : va_G} {kc : FieldType → ClassId} {A : Nat → Prop} {g : Nat → Nat} {h : zH} {s : State} {H : Heap} {a ci : Nat} {C : String} (hK : va_K D vwCl [] s) (hI : zIn D kc A g h s H) (ea : h.1[a]? = some (.inr ci)) (hc : (vwCl[ci]?).map (fun q => q.1) = some C) : ∃ cell : Cell, H[g a]? = some cell ∧ cell.vm.isStatics = false ∧ s.vm.findClass C = some cell.cls := by
  cases hq : vwCl[ci]? with
  | none => rw [hq] at hc; cases hc
  | some q =>
    rw [hq] at hc
    cases hc
    exact va_recv hK hI.1 hq (zW_o ea)
section ZCL
variable {p : Program} {l : Launch} {e : Env} {Rm : Room} {s : State} {m : MethodId} {args : Array Value} {below : List Frame} {meth : Method} {c : Code} {Q : State → Prop} {D : va_G} {kc : FieldType → ClassId} {A : Nat → Prop} {X : zX} {ro : Nat → Nat}
/-- behind a call -/
theorem zcall_go {H : Heap} {locs : List Loc} {cells slots mc ms pc : Nat} {ls : Array Slot} {st0 rest : List Value} {g : Nat → Nat} {h h' : zH} {v : Option Value} {a : Array Value}
    (hr : va_Run p l e Rm s m args below meth c H locs cells slots mc ms (F0 m pc ls st0) rest (zQc D kc A g h v h' a) A) (hS : va_S A s.heap H locs)
    (kk : ∀ g' H' locs', (∀ a, (a < h.1.length ∨ h'.1.length ≤ a) → g' a = g a) → zIn D kc A g' h' s H' → va_S A s.heap H' locs' → W p l e Rm s m args below meth c H' locs' (cells + mc) (slots + ms) Q (F0 m (pc + 3) ls ((v.map (zcv g')).toList ++ rest))) :
    W p l e Rm s m args below meth c H locs cells slots Q (F0 m pc ls st0) := by
  intro T hT X'
  obtain ⟨v', st₀, t, T', L', h0, X2, hL, e1, e2, ⟨g', hag, hv, hIn, hF⟩, stp⟩ := hr T hT X'
  cases hv
  obtain ⟨hz, hk⟩ := hF
  rw [h0] at hz hk
  have hal : s.vm.Alike t.vm := by rw [← e2]; exact X2.warmed.alike
  have hIn2 : zIn D kc A g' h' s T'.heap := by rw [e1]; exact hIn.moved hal.symm
  obtain ⟨t2, a1, b1⟩ := kk g' T'.heap (locs ++ L') hag hIn2 ⟨Nat.le_trans hS.1 (by rw [e1]; exact hz), fun q h1 h2 => by rw [e1, hk q (Nat.lt_of_lt_of_le h1 hS.1) h2]; exact hS.2.1 q h1 h2, fun q hq => by
      rcases List.mem_append.mp hq with h | h
      · exact hS.2.2 q h
      · exact hL q h⟩ T' rfl X2
  exact ⟨t2, stp t2 a1, b1⟩
set_option maxHeartbeats 4000000 in
theorem zsnd_call {P : Nat → Option zM} {M : zM} {cal : zC} {d n0 z0 : Nat} (hok : zokM P M) (C0 : zCx p s m args meth c D kc A X ro M) (hd : d + 5 ≤ Rm.frames ∧ 64 * (d + 5) ≤ Rm.locals) (hcal : zMet l P D kc A X ro d cal) (hle : zcle cal) {pc : Nat} {L : zL} {st : List Value} {h : zH} {f' : zF}
    {i : Instr} {ci : Int32} {cl : Int64} {mid kind : Nat} (hop : M.2.2.2.2.2.2.2[pc]? = some (some (i, ci, cl, 0, mid))) (hkd0 : zkd i = kind ∧ kind < 3) (hs : zinvoke cal (P mid) mid kind pc L st h = some (.inl f'))
    {g : Nat → Nat} (hg : zrho g ro) {H : Heap} {locs : List Loc} {ls : Array Slot} (hI : zIn D kc A g h s H) (hS : va_S A s.heap H locs) (hl : zlv g ls M.2.2.1 L) (hN : n0 ≤ h.1.length ∧ z0 ≤ zsz h.1 ∧ f'.2.2.2.1.length ≤ n0 + Rm.cells ∧ zsz f'.2.2.2.1 ≤ z0 + Rm.slots)
    (kk : ∀ (g' : Nat → Nat) H' locs' ls', (∀ a, (a < h.1.length ∨ f'.2.2.2.1.length ≤ a) → g' a = g a) → zrho g' ro → zIn D kc A g' f'.2.2.2 s H' → va_S A s.heap H' locs' → zlv g' ls' M.2.2.1 f'.2.1 → W p l e Rm s m args below meth c H' locs' (f'.2.2.2.1.length - n0) (zsz f'.2.2.2.1 - z0) Q (F0 m f'.1 ls' (f'.2.2.1.map (zcv g')))) :
    W p l e Rm s m args below meth c H locs (h.1.length - n0) (zsz h.1 - z0) Q (F0 m pc ls (st.map (zcv g))) := by
  obtain ⟨hx, hb, hml, hown, hts, hG, hA, hnm⟩ := C0
  have ho := hok.2 pc _ hop
  unfold zinvoke at hs
  cases hP : P mid with
  | none => rw [hP] at hs; cases hs
  | some M' =>
    rw [hP] at hs
    obtain ⟨y', cc', mx', ret', kd', ci', np', ops'⟩ := M'
    dsimp only at hs
    -- the callee's run, and what comes behind it
    have key : ∀ (n : Nat) (fin : zN), n ≤ st.length → zcat (st.drop n) ≤ 8 → fin = zfin ret' pc L (st.drop n) h (cal mid (st.take n).reverse h) → fin = some (.inl f') →
        (∀ (v : Option Value) (h1 : zH), cal mid (st.take n).reverse h = some (v, h1) → ∃ a, va_Run p l e Rm s m args below meth c H locs (h.1.length - n0) (zsz h.1 - z0) (h1.1.length - h.1.length) (zsz h1.1 - zsz h.1) (F0 m pc ls (st.map (zcv g))) ((st.drop n).map (zcv g)) (zQc D kc A g h v h1 a) A) →
        W p l e Rm s m args below meth c H locs (h.1.length - n0) (zsz h.1 - z0) Q (F0 m pc ls (st.map (zcv g))) := by
      intro n fin hn hcat efin hfin hrun
      rw [efin] at hfin
      unfold zfin at hfin
      cases hc : cal mid (st.take n).reverse h with
      | none => rw [hc] at hfin; cases hfin
      | some z =>
        obtain ⟨v, h1⟩ := z
        rw [hc] at hfin
        dsimp only at hfin
        obtain ⟨a, hr⟩ := hrun v h1 hc
        have hz := hle _ _ _ _ _ hc
        split at hfin
        · rename_i hfr
          have ef : f' = (pc + 3, L, v.toList ++ st.drop n, h1) := by
            cases v with
            | none =>
              dsimp only at hfin
              split at hfin
              · cases hfin; rfl
              · cases hfin
            | some w =>
              dsimp only at hfin
              split at hfin
              · cases hfin
              · cases hfin; rfl
          subst ef
          refine zcall_go hr hS (fun g' H' locs' hag hIn hS' => ?_)
          have hg' : zrho g' ro := fun r => by rw [hag (zro + r) (Or.inr (by have := hIn.2.2.2.2.1; omega))]; exact hg r
          have hlr : zlv g' ls M.2.2.1 L ∧ (st.drop n).map (zcv g') = (st.drop n).map (zcv g) := by
            rcases hfr with e1 | e1
            · have eg : g' = g := by
                funext b
                exact hag b (by rw [e1]; omega)
              rw [eg]; exact ⟨hl, rfl⟩
            · exact ⟨zfr_lv2 e1 hag hl, zfr_st2 e1 hag⟩
          have kk2 := kk g' H' locs' ls hag hg' hIn hS' hlr.1
          dsimp only at kk2
          have e5 : (v.toList ++ st.drop n).map (zcv g') = (v.map (zcv g')).toList ++ (st.drop n).map (zcv g) := by
            rw [List.map_append, hlr.2]
            cases v <;> rfl
          rw [e5] at kk2
          have e6 : h1.1.length - n0 = h.1.length - n0 + (h1.1.length - h.1.length) := by have := hz.1; omega
          have e7 : zsz h1.1 - z0 = zsz h.1 - z0 + (zsz h1.1 - zsz h.1) := by have := hz.2; omega
          rw [e6, e7] at kk2
          exact kk2
        · cases hfin
    have hws : ∀ M'' : zM, zokC M'' → GoodIn ztb (zws M'') := fun M'' hz w hw => by
      unfold zws at hw
      rcases List.mem_cons.mp hw with e1 | e1
      · rw [e1]; exact ⟨hz.1, (ztb_good _ hz.1).2⟩
      · exact ⟨e1, (ztb_good _ e1).2⟩
    have hpre : ∀ (vs : List Value), ∀ U : State, U.heap = H → s.WarmedH U.vm → zPc D kc A X ro g vs h (vs.map (zcv g)).toArray U := fun vs U hU hW => ⟨rfl, hG.moved hW (fun a h1 h2 => by rw [hU]; exact hS.2.1 a h1 h2), by rw [hU]; exact hI.moved hW.alike, fun q hq => hA q (by rw [hU] at hq; exact Nat.le_trans hS.1 hq)⟩
    have hparam : ∀ (vs : List Value) (n : Nat), vs = (st.take n).reverse → n ≤ st.length → st.map (zcv g) = (vs.map (zcv g)).reverse ++ (st.drop n).map (zcv g) ∧ vs.length = n := by
      intro vs n ev hn
      subst ev
      refine ⟨?_, by simp; omega⟩
      rw [← List.map_reverse, List.reverse_reverse, ← List.map_append, List.take_append_drop]
    have hcatg : ∀ q : List Value, zcat q ≤ 8 → 2 * (F0 m pc ls (st.map (zcv g))).monitorRoom + ((q.map (zcv g)).map fun v => v.category).sum ≤ 8 := by
      intro q hq
      have : 2 * (F0 m pc ls (st.map (zcv g))).monitorRoom = 0 := rfl
      rw [this, zcat_cv]; omega
    obtain ⟨hkd, hk3⟩ := hkd0
    cases i with
    | invokestatic idx =>
      have e0 : kind = 0 := hkd.symm
      subst e0
      by_cases ekd : kd' = 0
      · rw [if_pos ekd, if_pos rfl] at hs
        by_cases hcond : np' ≤ st.length ∧ zcat (st.drop np') ≤ 8 ∧ (zent (st.take np').reverse).length ≤ mx'
        · rw [if_pos hcond, if_pos rfl] at hs
          refine key np' _ hcond.1 hcond.2.1 rfl hs (fun v h1 hc => ?_)
          rcases ho.2 with ⟨-, hz⟩ | ⟨z, -⟩ | ⟨z, -⟩ | ⟨z, -⟩ | ⟨z, -⟩
          · obtain ⟨hC, hL, hst⟩ := hz _ hP ekd
            obtain ⟨hd1, hM⟩ := hcal mid _ _ h v h1 hP hcond.2.2 hc g hg
            have hz1 := hle _ _ _ _ _ hc
            have hfz := f_len hs hc
            obtain ⟨hp1, hp2⟩ := hparam _ np' rfl hcond.1
            have hroom : h.1.length - n0 + (h1.1.length - h.1.length) ≤ Rm.cells ∧ zsz h.1 - z0 + (zsz h1.1 - zsz h.1) ≤ Rm.slots := by
              rw [hfz] at hN
              have := hN; have := hz1.1; have := hz1.2; omega
            refine ⟨(((st.take np').reverse).map (zcv g)).toArray, ?_⟩
            rcases hL with hL | ⟨host, hL⟩
            · exact va_runS (n := np') (nL := M.2.2.1) (Ts := ztb) ⟨hx, hb, hml, hown, hts⟩ hM ⟨⟨rfl, rfl, by simp only [zrm]; omega, by have := hC.2.2.2.2.2; simp only [zrm]; dsimp only at this; omega, pay_in hts (hws _ hC), List.mem_cons_self, hts _ hC.1, hts _ hC.2.1, hC.2.2.2.1, fun sig hsig => by
                have := hC.2.2.2.2.1; rw [hsig] at this; exact (Option.some.inj this).symm, hts _ hL⟩, hts _ hst⟩ ⟨zPc_blind, hpre _⟩ rfl (by simpa using hp2) hl.1 hp1 (hcatg _ hcond.2.1) (zdec ho (Nat.succ_ne_zero _)) hroom
            · exact va_runSN (n := np') (nL := M.2.2.1) (Ts := ztb) ⟨hx, hb, hml, hown, hts⟩ hM ⟨⟨⟨rfl, rfl, by simp only [zrm]; omega, by have := hC.2.2.2.2.2; simp only [zrm]; dsimp only at this; omega, pay_in hts (hws _ hC), List.mem_cons_self⟩, hts _ hC.1, hts _ hC.2.1, hC.2.2.2.1, fun sig hsig => by
                have := hC.2.2.2.2.1; rw [hsig] at this; exact (Option.some.inj this).symm, va_Nw.use rfl (hG.2.2.1 _ _ _ _ hL)⟩, hts _ hst, trivial⟩ ⟨zPc_blind, hpre _⟩ rfl (by simpa using hp2) hl.1 hp1 (hcatg _ hcond.2.1) (zdec ho (Nat.succ_ne_zero _)) hroom
          all_goals exact absurd z (by decide)
        · rw [if_neg hcond] at hs; cases hs
      · rw [if_neg ekd] at hs; cases hs
    | invokevirtual idx =>
      have e0 : kind = 1 := hkd.symm
      subst e0
      by_cases ekd : kd' = 1
      · rw [if_pos ekd, if_neg (show ¬ (1 : Nat) = 0 by decide)] at hs
        by_cases hcond : np' + 1 ≤ st.length ∧ zcat (st.drop (np' + 1)) ≤ 8 ∧ (zent (st.take (np' + 1)).reverse).length ≤ mx'
        · rw [if_pos hcond, if_neg (show ¬ (1 : Nat) = 0 by decide)] at hs
          obtain ⟨hp1, hp2⟩ := hparam _ (np' + 1) rfl hcond.1
          split at hs
          · rename_i a0 tl evs
            unfold zobj at hs
            split at hs
            · rename_i cr ea
              split at hs
              · rename_i ec
                obtain ⟨ec, -⟩ := ec
                subst ec
                refine key (np' + 1) _ hcond.1 hcond.2.1 rfl hs (fun v h1 hc => ?_)
                rcases ho.2 with ⟨z, -⟩ | ⟨z, -⟩ | ⟨-, hz⟩
                · exact absurd z (by decide)
                · exact absurd z (by decide)
                obtain ⟨hC, hL, hinst, hsel, hcls⟩ := hz _ hP ekd
                dsimp only at hcls
                obtain ⟨hd1, hM⟩ := hcal mid _ _ h v h1 hP hcond.2.2 hc g hg
                have hz1 := hle _ _ _ _ _ hc
                have hfz := f_len hs hc
                have hroom : h.1.length - n0 + (h1.1.length - h.1.length) ≤ Rm.cells ∧ zsz h.1 - z0 + (zsz h1.1 - zsz h.1) ≤ Rm.slots := by
                  rw [hfz] at hN
                  have := hN; have := hz1.1; have := hz1.2; omega
                have hp := hpre (st.take (np' + 1)).reverse
                rw [evs] at hp1 hp2 hp hM
                rw [List.map_cons, List.reverse_cons, List.append_assoc] at hp1
                refine ⟨(Value.ref (g a0) :: tl.map (zcv g)).toArray, ?_⟩
                rcases hL with hL | ⟨host, hL⟩
                · exact va_runV (n := np') (nL := M.2.2.1) (Ts := ztb) (b := g a0) (As := tl.map (zcv g)) ⟨hx, hb, hml, hown, hts⟩ hM ⟨⟨rfl, rfl, by simp only [zrm]; omega, by have := hC.2.2.2.2.2; simp only [zrm]; dsimp only at this; omega, pay_in hts (hws _ hC), List.mem_cons_self, hts _ hC.1, hts _ hC.2.1, hC.2.2.2.1, fun sig hsig => by
                    have := hC.2.2.2.2.1; rw [hsig] at this; exact (Option.some.inj this).symm, hts _ hL⟩, hts _ hinst, hts _ hsel⟩ ⟨zPc_blind, zrecv hG.1 hI ea hcls, hp⟩ rfl (by simpa using hp2) hl.1 hp1 (hcatg _ hcond.2.1) (zdec ho (Nat.succ_ne_zero _)) hroom
                · exact va_runVN (n := np') (nL := M.2.2.1) (Ts := ztb) (b := g a0) (As := tl.map (zcv g)) ⟨hx, hb, hml, hown, hts⟩ hM ⟨⟨⟨rfl, rfl, by simp only [zrm]; omega, by have := hC.2.2.2.2.2; simp only [zrm]; dsimp only at this; omega, pay_in hts (hws _ hC), List.mem_cons_self⟩, hts _ hC.1, hts _ hC.2.1, hC.2.2.2.1, fun sig hsig => by
                    have := hC.2.2.2.2.1; rw [hsig] at this; exact (Option.some.inj this).symm, va_Nw.use rfl (hG.2.2.1 _ _ _ _ hL)⟩, hts _ hinst, hts _ hsel⟩ ⟨zPc_blind, zrecv hG.1 hI ea hcls, hp⟩ rfl (by simpa using hp2) hl.1 hp1 (hcatg _ hcond.2.1) (zdec ho (Nat.succ_ne_zero _)) hroom
              · cases hs
            · cases hs
          · cases hs
        · rw [if_neg hcond] at hs; cases hs
      · rw [if_neg ekd] at hs; cases hs
    | invokespecial idx =>
      have e0 : kind = 2 := hkd.symm
      subst e0
      by_cases ekd : kd' = 2
      · rw [if_pos ekd, if_neg (show ¬ (2 : Nat) = 0 by decide)] at hs
        by_cases hcond : np' + 1 ≤ st.length ∧ zcat (st.drop (np' + 1)) ≤ 8 ∧ (zent (st.take (np' + 1)).reverse).length ≤ mx'
        · rw [if_pos hcond, if_neg (show ¬ (2 : Nat) = 0 by decide)] at hs
          obtain ⟨hp1, hp2⟩ := hparam _ (np' + 1) rfl hcond.1
          split at hs
          · rename_i a0 tl evs
            unfold zobj at hs
            split at hs
            · rename_i cr ea
              split at hs
              · rename_i ec
                obtain ⟨ec, -⟩ := ec
                subst ec
                refine key (np' + 1) _ hcond.1 hcond.2.1 rfl hs (fun v h1 hc => ?_)
                rcases ho.2 with ⟨-, hz⟩ | ⟨z, -⟩
                case inr => exact absurd z (by decide)
                obtain ⟨hC, hL, hinst, hini, hret⟩ := hz _ hP ekd
                dsimp only at hret
                subst hret
                obtain ⟨hd1, hM⟩ := hcal mid _ _ h v h1 hP hcond.2.2 hc g hg
                have hz1 := hle _ _ _ _ _ hc
                have hfz := f_len hs hc
                have hroom : h.1.length - n0 + (h1.1.length - h.1.length) ≤ Rm.cells ∧ zsz h.1 - z0 + (zsz h1.1 - zsz h.1) ≤ Rm.slots := by
                  rw [hfz] at hN
                  have := hN; have := hz1.1; have := hz1.2; omega
                have hp := hpre (st.take (np' + 1)).reverse
                rw [evs] at hp1 hp2 hp hM
                rw [List.map_cons, List.reverse_cons, List.append_assoc] at hp1
                refine ⟨(Value.ref (g a0) :: tl.map (zcv g)).toArray, ?_⟩
                rcases hL with hL | ⟨host, hL⟩
                · exact va_runI (n := np') (nL := M.2.2.1) (Ts := ztb) (b := g a0) (As := tl.map (zcv g)) ⟨hx, hb, hml, hown, hts⟩ hM ⟨⟨rfl, rfl, by simp only [zrm]; omega, by have := hC.2.2.2.2.2; simp only [zrm]; dsimp only at this; omega, pay_in hts (hws _ hC), List.mem_cons_self, hts _ hC.1, hts _ hC.2.1, hC.2.2.2.1, fun sig hsig => by
                    have := hC.2.2.2.2.1; rw [hsig] at this; exact (Option.some.inj this).symm, hts _ hL⟩, hini, hts _ hinst⟩ ⟨zPc_blind, hp⟩ rfl (by simpa using hp2) hl.1 hp1 (hcatg _ hcond.2.1) (zdec ho (Nat.succ_ne_zero _)) hroom
                · exact va_runIN (n := np') (nL := M.2.2.1) (Ts := ztb) (b := g a0) (As := tl.map (zcv g)) ⟨hx, hb, hml, hown, hts⟩ hM ⟨⟨⟨rfl, rfl, by simp only [zrm]; omega, by have := hC.2.2.2.2.2; simp only [zrm]; dsimp only at this; omega, pay_in hts (hws _ hC), List.mem_cons_self⟩, hts _ hC.1, hts _ hC.2.1, hC.2.2.2.1, fun sig hsig => by
                    have := hC.2.2.2.2.1; rw [hsig] at this; exact (Option.some.inj this).symm, va_Nw.use rfl (hG.2.2.1 _ _ _ _ hL)⟩, hini, hts _ hinst⟩ ⟨zPc_blind, hp⟩ rfl (by simpa using hp2) hl.1 hp1 (hcatg _ hcond.2.1) (zdec ho (Nat.succ_ne_zero _)) hroom
              · cases hs
            · cases hs
          · cases hs
        · rw [if_neg hcond] at hs; cases hs
      · rw [if_neg ekd] at hs; cases hs
    | _ => exact absurd hk3 (by rw [← hkd]; exact (show ¬ (9 : Nat) < 3 by decide))
/-- a step, calls too -/
theorem zsnd_step {P : Nat → Option zM} {M : zM} {cal : zC} {d n0 z0 : Nat} (hok : zokM P M) (hstr : zStr l D kc A X ro) (C0 : zCx p s m args meth c D kc A X ro M) (hd : d + 5 ≤ Rm.frames ∧ 64 * (d + 5) ≤ Rm.locals) (hcal : zMet l P D kc A X ro d cal) (hle : zcle cal) {f f' : zF} (hs : zstep X P cal M f = some (.inl f'))
    {g : Nat → Nat} (hg : zrho g ro) {H : Heap} {locs : List Loc} {ls : Array Slot} (hI : zIn D kc A g f.2.2.2 s H) (hS : va_S A s.heap H locs) (hl : zlv g ls M.2.2.1 f.2.1) (hN : n0 ≤ f.2.2.2.1.length ∧ z0 ≤ zsz f.2.2.2.1 ∧ f'.2.2.2.1.length ≤ n0 + Rm.cells ∧ zsz f'.2.2.2.1 ≤ z0 + Rm.slots)
    (kk : ∀ (g' : Nat → Nat) H' locs' ls', (∀ a, (a < f.2.2.2.1.length ∨ f'.2.2.2.1.length ≤ a) → g' a = g a) → zrho g' ro → zIn D kc A g' f'.2.2.2 s H' → va_S A s.heap H' locs' → zlv g' ls' M.2.2.1 f'.2.1 → W p l e Rm s m args below meth c H' locs' (f'.2.2.2.1.length - n0) (zsz f'.2.2.2.1 - z0) Q (F0 m f'.1 ls' (f'.2.2.1.map (zcv g')))) :
    W p l e Rm s m args below meth c H locs (f.2.2.2.1.length - n0) (zsz f.2.2.2.1 - z0) Q (F0 m f.1 ls (f.2.2.1.map (zcv g))) :=
  zsnd_simple hok hstr C0 hd hs hg hI hS hl hN (fun mid kind pc L st h i ci cl hop hk hs2 ef => by
    subst ef
    exact zsnd_call hok C0 hd hcal hle hop hk hs2 hg hI hS hl hN kk) kk
/-- a run, up to its return -/
theorem zsnd_run {P : Nat → Option zM} (hokP : ∀ mid M, P mid = some M → zokM P M) {M : zM} (hok : zokM P M) (hstr : zStr l D kc A X ro) {d n0 z0 : Nat} (C0 : zCx p s m args meth c D kc A X ro M) (hd : d + 5 ≤ Rm.frames ∧ 64 * (d + 5) ≤ Rm.locals) {v : Option Value} {h' : zH} {g0 : Nat → Nat} (hN' : h'.1.length ≤ n0 + Rm.cells ∧ zsz h'.1 ≤ z0 + Rm.slots) :
    ∀ (n : Nat), (∀ k, k < n → zMet l P D kc A X ro d (zcal X P d k)) → 
    (∀ (k : Nat) (f : zF) (g : Nat → Nat) (H : Heap) (locs : List Loc) (ls : Array Slot), zstep X P (zcal X P d k) M f = some (.inr (v, h')) → (∀ a, (a < n0 ∨ f.2.2.2.1.length ≤ a) → g a = g0 a) → zrho g ro → zIn D kc A g f.2.2.2 s H → va_S A s.heap H locs → zlv g ls M.2.2.1 f.2.1 → W p l e Rm s m args below meth c H locs (f.2.2.2.1.length - n0) (zsz f.2.2.2.1 - z0) Q (F0 m f.1 ls (f.2.2.1.map (zcv g)))) →
    ∀ (f : zF), zrun X P d n M f = some (v, h') → n0 ≤ f.2.2.2.1.length → z0 ≤ zsz f.2.2.2.1 → ∀ (g : Nat → Nat) (H : Heap) (locs : List Loc) (ls : Array Slot), (∀ a, (a < n0 ∨ f.2.2.2.1.length ≤ a) → g a = g0 a) → zrho g ro → zIn D kc A g f.2.2.2 s H → va_S A s.heap H locs → zlv g ls M.2.2.1 f.2.1 →
      W p l e Rm s m args below meth c H locs (f.2.2.2.1.length - n0) (zsz f.2.2.2.1 - z0) Q (F0 m f.1 ls (f.2.2.1.map (zcv g))) := by
  intro n
  induction n with
  | zero => intro _ _ f hr; rw [zrun_0] at hr; cases hr
  | succ n ih =>
    intro hcal hret f hr hn1 hz1 g H locs ls hag hg hI hS hl
    rw [zrun_s] at hr
    have hle : zcle (zcal X P d n) := by
      intro mid vs h1 v1 h2 e1
      unfold zcal at e1
      split at e1
      · cases e1
      · split at e1
        · cases e1
        · exact zrun_le X P _ _ _ _ _ _ e1
    have hsl := zstep_le (X := X) (P := P) hle (M := M) (pc := f.1) (L := f.2.1) (st := f.2.2.1) (h := f.2.2.2)
    split at hr
    · rename_i f' e1
      have h1 : zle f.2.2.2 f'.2.2.2 := hsl _ e1
      have h2 : zle f'.2.2.2 h' := zrun_le X P _ _ _ _ _ _ hr
      refine zsnd_step hok hstr C0 hd (hcal n (Nat.lt_succ_self n)) hle e1 hg hI hS hl ⟨hn1, hz1, Nat.le_trans h2.1 hN'.1, Nat.le_trans h2.2 hN'.2⟩ (fun g' H' locs' ls' hag' hg' hI' hS' hl' => ?_)
      exact ih (fun k hk => hcal k (Nat.lt_succ_of_lt hk)) hret f' hr (Nat.le_trans hn1 h1.1) (Nat.le_trans hz1 h1.2) g' H' locs' ls' (fun a ha => by have := h1.1; rw [hag' a (by omega), hag a (by omega)]) hg' hI' hS' hl'
    · rename_i r e1
      cases hr
      exact hret n f g H locs ls e1 hag hg hI hS hl
    · cases hr
end ZCL
section ZMT
variable {D : va_G} {kc : FieldType → ClassId} {A : Nat → Prop} {X : zX} {ro : Nat → Nat}
def zQl (z : zF ⊕ zA) : Prop := ∃ f, z = .inl f
theorem zQl_inv {cal : zC} {M' : Option zM} {mid kind pc : Nat} {L : zL} {st : List Value} {h : zH} : zall zQl (zinvoke cal M' mid kind pc L st h) := by
  have fin : ∀ (ret : Option FieldType) (args rest : List Value), zall zQl (zfin ret pc L rest h (cal mid args h)) := by
    intro ret args rest
    unfold zfin
    split
    · exact zall_n
    · refine zall_if (fun _ => ?_) (fun _ => zall_n)
      split
      · exact zall_if (fun _ => zall_go ⟨_, rfl⟩) (fun _ => zall_n)
      · exact zall_if (fun _ => zall_n) (fun _ => zall_go ⟨_, rfl⟩)
  unfold zinvoke
  split
  · exact zall_n
  · refine zall_if (fun _ => ?_) (fun _ => zall_n)
    dsimp only
    refine zall_if (fun _ => ?_) (fun _ => zall_n)
    refine zall_if (fun _ => fin _ _ _) (fun _ => ?_)
    split
    · exact zall_obj (fin _ _ _)
    · exact zall_n
theorem zQl_no {z : zN} (h : zall zQl z) {r : zA} : ¬ z = some (.inr r) := fun e => by
  obtain ⟨f, hf⟩ := h _ e
  cases hf
set_option maxRecDepth 20000 in
set_option maxHeartbeats 4000000 in
theorem zret_h {X : zX} {P : Nat → Option zM} {cal : zC} {M : zM} {f : zF} {v : Option Value} {h' : zH} (hs : zstep X P cal M f = some (.inr (v, h'))) : ∃ i c cl r k, M.2.2.2.2.2.2.2[f.1]? = some (some (i, c, cl, r, k)) ∧ zret M f.2.2.1 f.2.2.2 i = some (.inr (v, h')) := by
  obtain ⟨pc, L, st, h⟩ := f
  unfold zstep at hs
  dsimp only at hs ⊢
  split at hs
  · rename_i i c cl r k hop
    refine ⟨i, c, cl, r, k, hop, ?_⟩
    split at hs
    all_goals first
      | exact hs
      | refine absurd hs (zQl_no ?_)
    all_goals repeat' first
      | with_reducible exact zall_n
      | (with_reducible refine zall_go ?_); exact ⟨_, rfl⟩
      | with_reducible exact zQl_inv
      | (with_reducible refine zall_ld (fun _ => ?_)); exact ⟨_, rfl⟩
      | (with_reducible refine zall_jp (fun _ => ?_)); exact ⟨_, rfl⟩
      | with_reducible refine zall_if (fun _ => ?_) (fun _ => ?_)
      | with_reducible refine zall_1i (fun _ _ => ?_)
      | with_reducible refine zall_2i (fun _ _ _ => ?_)
      | with_reducible refine zall_1l (fun _ _ => ?_)
      | with_reducible refine zall_2l (fun _ _ _ => ?_)
      | with_reducible refine zall_li (fun _ _ _ => ?_)
      | with_reducible refine zall_1a (fun _ _ => ?_)
      | with_reducible refine zall_ai (fun _ _ _ => ?_)
      | with_reducible refine zall_aii (fun _ _ _ _ => ?_)
      | with_reducible refine zall_ail (fun _ _ _ _ => ?_)
      | with_reducible refine zall_aia (fun _ _ _ _ => ?_)
      | with_reducible refine zall_obj ?_
      | with_reducible refine zall_arr (fun _ => ?_)
      | with_reducible refine zall_aload (fun _ => ?_)
      | split
  · cases hs
/-- every method that the run calls keeps its contract -/
theorem zmet_all {l : Launch} {P : Nat → Option zM} (hstr : zStr l D kc A X ro) (hokP : ∀ mid M, P mid = some M → zokM P M ∧ zokC M) : ∀ (n d : Nat), zMet l P D kc A X ro d (zcal X P d n) := by
  intro n
  induction n using Nat.strongRecOn with
  | _ n ih =>
  intro d mid M' vs h v h' hP hlen hc g hg
  unfold zcal at hc
  cases d with
  | zero => cases hc
  | succ d =>
  refine ⟨Nat.succ_le_succ (Nat.zero_le d), ?_⟩
  dsimp only at hc
  rw [hP] at hc
  dsimp only at hc
  obtain ⟨hokM, hokC⟩ := hokP mid M' hP
  show Met l M'.1 (zws M') (zrm d (h'.1.length - h.1.length) (zsz h'.1 - zsz h.1)) (zPc D kc A X ro g vs h) (zQc D kc A g h v h') (h'.1.length - h.1.length) (zsz h'.1 - zsz h.1) A
  refine Met.ofW (cc := M'.2.1) (maxL := M'.2.2.1) (ret := M'.2.2.2.1) hokC.2.2.1 rfl ?_
  intro p e s m args below meth c s₁ B hml hv
  obtain ⟨rfl, hG, hI, hA⟩ := hv
  have hts0 := atoms_spec (ws := zws M') B.pre
  have hts : ∀ w ∈ ztb, w.before (vs.map (zcv g)).toArray s = true := fun w hw => hts0 w (List.mem_cons_of_mem _ hw)
  have hown : s.vm.findClass M'.1.cls = some m.cls := findClass_of_methodNamed B.named
  have hle := zrun_le X P _ _ _ _ _ _ hc
  have C0 : zCx p s m (vs.map (zcv g)).toArray meth c D kc A X ro M' := ⟨B.exec, B.bytes, hml, hown, hts, hG, hA, fun e1 => by
    rw [(name_of_methodNamed B.named B.method).1]; exact e1⟩
  have hr := B.returns
  have hlocks := B.notSynchronized
  have hS0 : va_S A s.heap s.heap [] := va_S.rf
  rw [lg_entry_eq]
  have K := zsnd_run (p := p) (l := l) (e := e) (Rm := (headSpec (zws M') (zrm d (h'.1.length - h.1.length) (zsz h'.1 - zsz h.1))).room) (s := s) (m := m) (args := (vs.map (zcv g)).toArray) (below := below) (meth := meth) (c := c) (Q := MQ below (zQc D kc A g h v h') (vs.map (zcv g)).toArray s (h'.1.length - h.1.length) (zsz h'.1 - zsz h.1) A) (D := D) (kc := kc) (A := A) (X := X) (ro := ro) (P := P) (fun mid M hm => (hokP mid M hm).1) (M := M') hokM hstr (d := d) (n0 := h.1.length) (z0 := zsz h.1) C0 ⟨Nat.le_refl _, Nat.le_refl _⟩ (v := v) (h' := h') (g0 := g) ⟨by
      show h'.1.length ≤ h.1.length + (h'.1.length - h.1.length); omega, by show zsz h'.1 ≤ zsz h.1 + (zsz h'.1 - zsz h.1); omega⟩ n (fun k hk => ih k hk d) ?_ (0, zentry M'.2.2.1 vs, [], h) hc (Nat.le_refl _) (Nat.le_refl _) g s.heap [] _ (fun _ _ => rfl) hg hI hS0 (zentry_lv hlen)
  · simp only [Nat.sub_self] at K
    exact K
  · intro k f g' H locs ls hs hag hg' hI' hS' hl'
    obtain ⟨i, c1, cl, r, k1, hop, hz⟩ := zret_h hs
    obtain ⟨pc, L, st, h2⟩ := f
    dsimp only at hz hop hI' hl' hag ⊢
    have ho := hokM.2 pc _ hop
    have hq : ∀ (h3 : zH), h3 = h' → h2 = h3 → ∀ t : State, t.heap = H → s.WarmedH t.vm → zQc D kc A g h v h' (vs.map (zcv g)).toArray s (.returned (v.map (zcv g'))) t := by
      intro h3 e1 e2 t ht hW
      subst e2; subst e1
      exact ⟨g', hag, rfl, by rw [ht]; exact hI'.moved hW.alike, hS'.F ht⟩
    unfold zret at hz
    split at hz
    · cases hz
      exact W.vret B.exec B.bytes (hr.trans ‹_›) (hq _ rfl rfl) hS'.2.2 (zdec ho (Nat.succ_ne_zero _))
    · cases hz
      exact W.iret (v := _) B.exec B.bytes (hr.trans ‹_›) (hq _ rfl rfl) hS'.2.2 (zdec ho (Nat.succ_ne_zero _))
    · rename_i x
      split at hz
      · rename_i hb
        cases hz
        refine W.zret (v := _) B.exec B.bytes (hr.trans ‹_›) ?_ (hq _ rfl rfl) hS'.2.2 (zdec ho (Nat.succ_ne_zero _))
        simp only [zbool, decide_eq_true_eq] at hb
        rcases hb with rfl | rfl <;> rfl
      · cases hz
    · cases hz
      exact W.lret (v := _) B.exec B.bytes (hr.trans ‹_›) (hq _ rfl rfl) hS'.2.2 (zdec ho (Nat.succ_ne_zero _))
    · cases hz
      exact W.aret (v := .ref _) B.exec B.bytes (hr.trans ‹_›) (Or.inl ⟨_, rfl⟩) (Or.inr ⟨_, rfl⟩) (hq _ rfl rfl) hS'.2.2 (zdec ho (Nat.succ_ne_zero _))
    · cases hz
      exact W.aret (v := .null) B.exec B.bytes (hr.trans ‹_›) (Or.inl ⟨_, rfl⟩) (Or.inl rfl) (hq _ rfl rfl) hS'.2.2 (zdec ho (Nat.succ_ne_zero _))
    · cases hz
end ZMT
