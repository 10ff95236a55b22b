/-! THE SMALL OPERATIONS: fault, count, deed, fact, cellar -/
def wKq (a : Nat) : Bool := (decide (1 ≤ a) && decide (a ≤ 146)) || (decide (216 ≤ a) && decide (a ≤ 223)) || a == 236 || a == 184 || a == 185 || a == 212 || a == 213
def wEq2 (h h' : zK) : Prop := ∀ a, wKq a = true → h'.2.1 a = h.2.1 a ∧ h'.2.2 a = h.2.2 a
theorem wKq_p {a : Nat} (h : wKp a) : wKq a = true := by
  unfold wKp at h
  unfold wKq
  rcases h with ⟨h1, h2⟩ | ⟨h1, h2⟩ | rfl
  · simp [h1, h2]
  · simp [h1, h2]
  · rfl
theorem wEq_2 {h h' : zK} (e : wEq2 h h') : wEq h h' := fun a ha => (e a (wKq_p ha)).1
theorem wEq2_r {h : zK} : wEq2 h h := fun _ _ => ⟨rfl, rfl⟩
theorem wEq2_t {h h1 h2 : zK} (a : wEq2 h h1) (b : wEq2 h1 h2) : wEq2 h h2 := fun x hx => ⟨(b x hx).1.trans (a x hx).1, (b x hx).2.trans (a x hx).2⟩
theorem wEq2_f {W : List Nat} {h h' : zK} (F : zFr W h h') (hW : W.all (fun a => !wKq a) = true) : wEq2 h h' := by
  intro a ha
  have hn : a ∉ W := fun hh => by
    have := List.all_eq_true.mp hW a hh
    rw [ha] at this
    cases this
  exact ⟨F.2.1 a hn, F.2.2 a hn⟩
theorem wne {a : Int32} {m r : Nat} (hr : r < m) (hm : m < 2 ^ 31) (ha : a < 0 ∨ ∃ j, m ≤ j ∧ j < 2 ^ 31 ∧ a = nI j) : a ≠ nI r := by
  rcases ha with ha | ⟨j, h1, h2, rfl⟩
  · intro e
    rw [e] at ha
    exact nI_pos (by omega) ha
  · intro e
    rw [nI_eq h2 (by omega)] at e
    omega
theorem nI_div {a b : Nat} (ha : a < 2 ^ 31) (hb : b < 2 ^ 31) : nI a / nI b = nI (a / b) := by
  apply Int32.toInt_inj.mp
  rw [Int32.toInt_div, nI_toInt ha, nI_toInt hb, nI_toInt (Nat.lt_of_le_of_lt (Nat.div_le_self a b) ha), ← Int.ofNat_tdiv]
  have := Nat.div_le_self a b
  generalize a / b = q at *
  exact Int.bmod_eq_of_le (by omega) (by omega)
theorem nI_sub {a b : Nat} (h : b ≤ a) : nI a - nI b = nI (a - b) := by
  have e := nI_add (a - b) b
  rw [show a - b + b = a by omega] at e
  rw [← e]
  exact Int32.add_sub_cancel _ _
theorem nI_rem {a b : Nat} (ha : a < 2 ^ 31) (hb : b < 2 ^ 31) : nI a - nI a / nI b * nI b = nI (a % b) := by
  have h1 : a / b * b ≤ a := Nat.div_mul_le_self a b
  rw [nI_div ha hb, nI_mul, nI_sub h1]
  have h2 := Nat.div_add_mod a b
  have h3 : a / b * b = b * (a / b) := Nat.mul_comm _ _
  congr 1
  omega
theorem wo_fault {h : zK} (H : InvB h) (a : Int32) : qM_fault a h = some (qC_fault a h, sI h 215 0 0) := by
  obtain ⟨-, ⟨f1, f2⟩, -⟩ := H.1
  unfold qM_fault qC_fault
  simp only [zlet]
  have g1 : gI (sI h 215 0 0) 219 0 = gI h 1 3 := f2.symm
  have g2 : gI (sI h 215 0 0) 218 0 = gI h 1 2 := f1.symm
  rw [g1, g2]
  split
  · split <;> rfl
  · rfl
theorem wo_count {h : zK} (H : InvB h) (a : Int32) : ∃ w, qC_count a h = some w ∧ qM_count a h = some (w, sI h 215 0 0) := by
  obtain ⟨-, -, m, m1, -⟩ := H.1
  have e3 : nI 3 - 1 = (2 : Int32) := by decide
  unfold qC_count qM_count
  simp only [zlet]
  rcases zf_in_n (m := 3) (by omega) a with ⟨j, hj, rfl, hz⟩ | ⟨ha, hz⟩
  · rw [e3] at hz
    obtain ⟨p1, p2, p3⟩ := m1 j hj
    refine ⟨nI (m j), ?_, ?_⟩
    · rw [if_neg (nI_pos (by omega)), if_neg (show ¬ (3 : Int32) ≤ nI j from nI_ge (b := 3) hj (by decide)), zix_nI hj (by omega), Option.bind_some]
      exact congrArg some p2
    · rw [hz, if_neg (by decide), zix_nI (by omega) (by omega), Option.bind_some]
      have e : 3 * 0 + j = j := by omega
      rw [e] at p3
      have g : gI (sI h 215 0 0) 220 j = nI (m j) := p3
      rw [g]
  · rw [e3] at hz
    refine ⟨-2, ?_, by rw [hz]; rfl⟩
    rcases ha with ha | ⟨j, h1, h2, rfl⟩
    · rw [if_pos ha]
    · rw [if_neg (nI_pos h2), if_pos (show (3 : Int32) ≤ nI j from nI_le (a := 3) h1 h2)]
theorem nI_nm1 {j : Nat} (hj : j < 2 ^ 31) : ¬ nI j = -1 := by
  intro e
  have := congrArg Int32.toInt e
  rw [nI_toInt hj] at this
  have e2 : (-1 : Int32).toInt = -1 := rfl
  rw [e2] at this
  omega
theorem wm1_lt : (-1 : Int32) < 0 := by decide
/-- a deed, or a fact: class and reference look into their rows alike -/
theorem wo_deed {h : zK} (H : InvB h) (a b x : Int32) : ∃ w h2, qC_deed a b x h = some w ∧ qM_deed a b x h = some (w, h2) := by
  have e3 : nI 3 - 1 = (2 : Int32) := by decide
  unfold qC_deed qM_deed
  simp only [zlet]
  rcases wdeed H a with ⟨e1, e2⟩ | ⟨k, d, hk, rfl, d1, d2, d3, e1, e2, e4⟩
  · rw [e1, e2 _ (wEq_s (by unfold wKp; omega)), Option.bind_some, Option.bind_some]
    exact ⟨_, _, rfl, rfl⟩
  · rw [e1, e4 _ (wEq_s (by unfold wKp; omega)), Option.bind_some, Option.bind_some]
    simp only [if_pos e2]
    rw [if_pos (show ¬ (1 : Int32) = 0 by decide)]
    have s1 : gI h (15 + 15 * k) 0 = nI d.1 := d2.1
    let h2 : zK := sI (sI h 215 0 0) 215 37 (nI k)
    have g37 : gI h2 215 37 = nI k := rfl
    have m0 : qM_deeds h2 = some (nI d.1) := by
      unfold qM_deeds
      rw [g37, show (121 : Int32) = nI 121 from rfl, nI_mul, zix_nI (by omega) (by omega), Option.bind_some]
      exact congrArg some d3.1
    have hd := d1.1
    by_cases hb : b = -1
    · subst hb
      rw [if_neg (show ¬ ¬ (-1 : Int32) = -1 from fun e => e rfl), if_neg (show ¬ ¬ (-1 : Int32) = -1 from fun e => e rfl)]
      by_cases hx : x = 0
      · rw [if_neg (show ¬ ¬ x = 0 from fun e => e hx), if_neg (show ¬ ¬ x = 0 from fun e => e hx)]
        refine ⟨nI d.1, h2, by rw [s1], ?_⟩
        show (qM_deeds h2).bind _ = _
        rw [m0]; rfl
      · rw [if_pos hx, if_pos hx]
        refine ⟨-2, h2, ?_, rfl⟩
        unfold qC_deed_j33
        rw [if_pos wm1_lt]
    · rw [if_pos hb, if_pos hb]
      show ∃ w h3, _ ∧ ((qM_deeds h2).bind _) = _
      rw [m0, Option.bind_some]
      unfold qC_deed_j33
      rcases zf_in_n (m := d.1) (by omega) b with ⟨i, hi, rfl, hz⟩ | ⟨hbb, hz⟩
      · rw [hz, if_neg (show ¬ (1 : Int32) = 0 by decide), if_neg (nI_pos (by omega)), s1, if_pos (nI_lt hi (by omega)), zix_nI (by omega) (by omega)]
        rcases zf_in_n (m := 3) (by omega) x with ⟨r, hr, rfl, hz2⟩ | ⟨hxx, hz2⟩
        · rw [e3] at hz2
          rw [hz2, if_neg (show ¬ (1 : Int32) = 0 by decide)]
          have m2 : qM_deedOf (nI i) (nI r) h2 = some (d.2 r i) := by
            unfold qM_deedOf
            rw [g37, show (121 : Int32) = nI 121 from rfl, show (3 : Int32) = nI 3 from rfl, show (1 : Int32) = nI 1 from rfl, nI_mul, nI_mul, nI_add, nI_add, nI_add, zix_nI (by omega) (by omega), Option.bind_some]
            exact congrArg some (d3.2 r i hr hi)
          refine ⟨d.2 r i, h2, ?_, by show (qM_deedOf _ _ h2).bind _ = _; rw [m2]; rfl⟩
          have q := d2.2 r i hr hi
          rcases (by omega : r = 0 ∨ r = 1 ∨ r = 2) with rfl | rfl | rfl
          · rw [if_pos (by decide)]; exact congrArg some q
          · rw [if_neg (by decide), if_pos (by decide)]; exact congrArg some q
          · rw [if_neg (by decide), if_neg (by decide), if_pos (by decide)]; exact congrArg some q
        · rw [e3] at hz2
          rw [hz2, if_pos rfl, if_neg (show ¬ x = (0 : Int32) from wne (r := 0) (by omega) (by omega) hxx), if_neg (show ¬ x = (1 : Int32) from wne (r := 1) (by omega) (by omega) hxx), if_neg (show ¬ x = (2 : Int32) from wne (r := 2) (by omega) (by omega) hxx)]
          exact ⟨-2, _, rfl, rfl⟩
      · rw [hz, if_pos rfl]
        refine ⟨-2, _, ?_, rfl⟩
        rcases hbb with hbb | ⟨j, h1, h2, rfl⟩
        · rw [if_pos hbb]
        · rw [if_neg (nI_pos h2), s1, if_neg (nI_nlt h1 h2)]
theorem wo_fact {h : zK} (H : InvB h) (a b x : Int32) : ∃ w h2, qC_fact a b x h = some w ∧ qM_fact a b x h = some (w, h2) := by
  have e3 : nI 2 - 1 = (1 : Int32) := by decide
  unfold qC_fact qM_fact
  simp only [zlet]
  rcases wlog H a with ⟨e1, e2⟩ | ⟨k, d, hk, rfl, d1, d2, d3, e1, e2, e4⟩
  · rw [e1, e2 _ (wEq_s (by unfold wKp; omega)), Option.bind_some, Option.bind_some]
    exact ⟨_, _, rfl, rfl⟩
  · rw [e1, e4 _ (wEq_s (by unfold wKp; omega)), Option.bind_some, Option.bind_some]
    simp only [if_pos e2]
    rw [if_pos (show ¬ (1 : Int32) = 0 by decide)]
    have s1 : gI h (19 + 15 * k) 0 = nI d.1 := d2.1
    let h2 : zK := sI (sI h 215 0 0) 215 43 (nI k)
    have g37 : gI h2 215 43 = nI k := rfl
    have m0 : qM_facts h2 = some (nI d.1) := by
      unfold qM_facts
      rw [g37, show (17 : Int32) = nI 17 from rfl, nI_mul, zix_nI (by omega) (by omega), Option.bind_some]
      exact congrArg some d3.1
    have hd := d1.1
    by_cases hb : b = -1
    · subst hb
      rw [if_neg (show ¬ ¬ (-1 : Int32) = -1 from fun e => e rfl), if_neg (show ¬ ¬ (-1 : Int32) = -1 from fun e => e rfl)]
      by_cases hx : x = 0
      · rw [if_neg (show ¬ ¬ x = 0 from fun e => e hx), if_neg (show ¬ ¬ x = 0 from fun e => e hx)]
        refine ⟨nI d.1, h2, by rw [s1], ?_⟩
        show (qM_facts h2).bind _ = _
        rw [m0]; rfl
      · rw [if_pos hx, if_pos hx]
        refine ⟨-2, h2, ?_, rfl⟩
        unfold qC_fact_j33
        rw [if_pos wm1_lt]
    · rw [if_pos hb, if_pos hb]
      show ∃ w h3, _ ∧ ((qM_facts h2).bind _) = _
      rw [m0, Option.bind_some]
      unfold qC_fact_j33
      rcases zf_in_n (m := d.1) (by omega) b with ⟨i, hi, rfl, hz⟩ | ⟨hbb, hz⟩
      · rw [hz, if_neg (show ¬ (1 : Int32) = 0 by decide), if_neg (nI_pos (by omega)), s1, if_pos (nI_lt hi (by omega)), zix_nI (by omega) (by omega)]
        rcases zf_in_n (m := 2) (by omega) x with ⟨r, hr, rfl, hz2⟩ | ⟨hxx, hz2⟩
        · rw [e3] at hz2
          rw [hz2, if_neg (show ¬ (1 : Int32) = 0 by decide)]
          have m2 : qM_factOf (nI i) (nI r) h2 = some (nI (d.2 r i)) := by
            unfold qM_factOf
            rw [g37, show (17 : Int32) = nI 17 from rfl, show (2 : Int32) = nI 2 from rfl, show (1 : Int32) = nI 1 from rfl, nI_mul, nI_mul, nI_add, nI_add, nI_add, zix_nI (by omega) (by omega), Option.bind_some]
            exact congrArg some (d3.2 r i hr hi)
          refine ⟨nI (d.2 r i), h2, ?_, by show (qM_factOf _ _ h2).bind _ = _; rw [m2]; rfl⟩
          have q := d2.2 r i hr hi
          rcases (by omega : r = 0 ∨ r = 1) with rfl | rfl
          · rw [if_pos (by decide)]; exact congrArg some q
          · rw [if_neg (by decide), if_pos (by decide)]; exact congrArg some q
        · rw [e3] at hz2
          rw [hz2, if_pos rfl, if_neg (show ¬ x = (0 : Int32) from wne (r := 0) (by omega) (by omega) hxx), if_neg (show ¬ x = (1 : Int32) from wne (r := 1) (by omega) (by omega) hxx)]
          exact ⟨-2, _, rfl, rfl⟩
      · rw [hz, if_pos rfl]
        refine ⟨-2, _, ?_, rfl⟩
        rcases hbb with hbb | ⟨j, h1, h2, rfl⟩
        · rw [if_pos hbb]
        · rw [if_neg (nI_pos h2), s1, if_neg (nI_nlt h1 h2)]
/-- a saying of a cellar -/
theorem qCe_has_ev {h : zK} {o : Nat} {c : wC} (hc : cC h o c) (hn : c.1 ≤ 7) (x : Int32) : (∃ s, s < c.1 ∧ x = nI s ∧ qCe_has o x h = 1 ∧ zf_in x 0 (nI c.1 - 1) = 1) ∨ ((x < 0 ∨ ∃ j, c.1 ≤ j ∧ j < 2 ^ 31 ∧ x = nI j) ∧ qCe_has o x h = 0 ∧ zf_in x 0 (nI c.1 - 1) = 0) := by
  have s1 : gI h o 2 = nI c.1 := hc.2.2.1
  unfold qCe_has
  rcases zf_in_n (m := c.1) (by omega) x with ⟨j, hj, rfl, hz⟩ | ⟨ha, hz⟩
  · exact Or.inl ⟨j, hj, rfl, by rw [if_neg (nI_pos (by omega)), s1, if_neg (nI_ge hj (by omega))], hz⟩
  · refine Or.inr ⟨ha, ?_, hz⟩
    rcases ha with ha | ⟨j, h1, h2, rfl⟩
    · rw [if_pos ha]
    · rw [if_neg (nI_pos h2), s1, if_pos (nI_le h1 h2)]
theorem qM_isSaying_ev {h : zK} {k : Nat} {c : wC} (B : mB h k c) (x : Int32) : qM_isSaying x h = some (zf_in x 0 (nI c.1 - 1)) := by
  unfold qM_isSaying
  rw [B.2.2.1, if_pos (zbool_in _ _ _)]
theorem wo_cellar {h : zK} (H : InvB h) (a x : Int32) : ∃ w h2, qC_cellar a x h = some w ∧ qM_cellar a x h = some (w, h2) := by
  have e3 : nI 3 - 1 = (2 : Int32) := by decide
  unfold qC_cellar qM_cellar
  simp only [zlet]
  rcases wcell H a with ⟨e1, e2⟩ | ⟨k, c, hk, rfl, c1, c2, c3, e1, e2, e4⟩
  · rw [e1, e2 _ (wEq_s (by unfold wKp; omega)), Option.bind_some, Option.bind_some]
    exact ⟨_, _, rfl, rfl⟩
  · obtain ⟨h2, q1, B, B2, -⟩ := e4 (sI h 215 0 0) (wEq_s (by unfold wKp; omega))
    rw [e1, q1, Option.bind_some, Option.bind_some]
    simp only [if_pos e2]
    rw [if_pos (show ¬ (1 : Int32) = 0 by decide)]
    have hn := c1.1
    by_cases hx : x < 0
    · refine ⟨-1, h2, by rw [if_neg (Int32.not_le.mpr hx)], ?_⟩
      rw [if_neg, if_pos]
      · have e : nI 3 - 1 = (2 : Int32) := by decide
        rcases zf_in_n (m := 3) (by omega) x with ⟨j, hj, rfl, hz⟩ | ⟨-, hz⟩
        · exact absurd hx (nI_pos (by omega))
        · rw [e] at hz; exact hz
      · intro hh
        rw [Int32.le_iff_toInt_le] at hh
        rw [Int32.lt_iff_toInt_lt] at hx
        have ee : (10 : Int32).toInt = 10 := rfl
        have e0 : (0 : Int32).toInt = 0 := rfl
        omega
    · obtain ⟨w, hw, rfl⟩ := nI_of hx
      rw [if_pos (Int32.not_lt.mp hx)]
      by_cases w3 : w < 3
      · refine ⟨gI h (7 + 15 * k) w, h2, ?_, ?_⟩
        · rcases (by omega : w = 0 ∨ w = 1 ∨ w = 2) with rfl | rfl | rfl
          · rw [if_pos (by decide)]
          · rw [if_neg (by decide), if_pos (by decide)]
          · rw [if_neg (by decide), if_neg (by decide), if_pos (by decide)]
        · rw [if_neg (show ¬ (10 : Int32) ≤ nI w from nI_ge (b := 10) (by omega) (by decide))]
          rcases zf_in_n (m := 3) (by omega) (nI w) with ⟨j, hj, hh, hz⟩ | ⟨hq, hz⟩
          · rw [e3] at hz
            rw [hz, if_neg (by decide), qM_of_ev (k := k) (j := w) B.2.1 rfl (by omega), Option.bind_some]
            obtain ⟨b1, b2, b3, -⟩ := B.2.2.2
            obtain ⟨f1, f2, f3, -⟩ := c2
            rcases (by omega : w = 0 ∨ w = 1 ∨ w = 2) with rfl | rfl | rfl
            · rw [f1, show 52 * k + 0 = 52 * k from rfl, b1]
            · rw [f2, b2]
            · rw [f3, b3]
          · rcases hq with hq | ⟨j, h1, h2', hq⟩
            · exact absurd hq hx
            · rw [nI_eq hw h2'] at hq; omega
      · have q0 : ∀ r, r < 3 → ¬ nI w = nI r := fun r hr e => by rw [nI_eq hw (by omega)] at e; omega
        rw [if_neg (show ¬ nI w = (0 : Int32) from q0 0 (by omega)), if_neg (show ¬ nI w = (1 : Int32) from q0 1 (by omega)), if_neg (show ¬ nI w = (2 : Int32) from q0 2 (by omega))]
        have er : nI w - nI w / 10 * 10 = nI (w % 10) := nI_rem (b := 10) hw (by omega)
        have ed : nI w / 10 = nI (w / 10) := nI_div (b := 10) hw (by omega)
        rw [er, ed]
        have hr : w % 10 < 10 := Nat.mod_lt _ (by omega)
        have hdv := Nat.div_add_mod w 10
        rcases qCe_has_ev c2 hn (nI (w % 10)) with ⟨s, hs, es, hz, -⟩ | ⟨hq, hz, -⟩
        · rw [nI_eq (by omega) (by omega)] at es
          rw [hz, if_pos (by decide), es, zix_nI (by omega) (by omega)]
          by_cases w10 : w < 10
          · have e0 : w / 10 = 0 := by omega
            rw [e0]
            refine ⟨-1, h2, rfl, ?_⟩
            rw [if_neg (show ¬ (10 : Int32) ≤ nI w from nI_ge (b := 10) (by omega) (by decide))]
            rcases zf_in_n (m := 3) (by omega) (nI w) with ⟨j, hj, hh, -⟩ | ⟨-, hz2⟩
            · rw [nI_eq hw (by omega)] at hh; omega
            · rw [e3] at hz2; rw [hz2]; rfl
          · rw [if_pos (show (10 : Int32) ≤ nI w from nI_le (a := 10) (by omega) hw)]
            by_cases w80 : w < 80
            · rw [if_neg (show ¬ (80 : Int32) ≤ nI w from nI_ge (b := 80) w80 (by decide)), B.2.2.1, if_neg (nI_ge hs (by omega))]
              obtain ⟨q, hq, hq7⟩ : ∃ q, w / 10 = q + 1 ∧ q < 7 := ⟨w / 10 - 1, by omega, by omega⟩
              rw [hq, nI_pred]
              rw [mB_of B hn hq7 hs (x := 3 + 7 * nI q + nI s) (by rw [show (7 : Int32) = nI 7 from rfl, show (3 : Int32) = nI 3 from rfl, nI_mul, nI_add, nI_add]), Option.bind_some]
              have f := c2.2.2.2 q s hq7 hs
              refine ⟨nI (c.2.2.2 q s), h2, ?_, rfl⟩
              rw [← f]
              rcases (by omega : q = 0 ∨ q = 1 ∨ q = 2 ∨ q = 3 ∨ q = 4 ∨ q = 5 ∨ q = 6) with rfl | rfl | rfl | rfl | rfl | rfl | rfl <;> rfl
            · rw [if_pos (show (80 : Int32) ≤ nI w from nI_le (a := 80) (by omega) hw)]
              refine ⟨-1, h2, ?_, rfl⟩
              have qq : ∀ r, r < 8 → ¬ nI (w / 10) = nI r := fun r hr e => by rw [nI_eq (by omega) (by omega)] at e; omega
              rw [if_neg (show ¬ nI (w / 10) = (1 : Int32) from qq 1 (by omega)), if_neg (show ¬ nI (w / 10) = (2 : Int32) from qq 2 (by omega)), if_neg (show ¬ nI (w / 10) = (3 : Int32) from qq 3 (by omega)), if_neg (show ¬ nI (w / 10) = (4 : Int32) from qq 4 (by omega)), if_neg (show ¬ nI (w / 10) = (5 : Int32) from qq 5 (by omega)), if_neg (show ¬ nI (w / 10) = (6 : Int32) from qq 6 (by omega)), if_neg (show ¬ nI (w / 10) = (7 : Int32) from qq 7 (by omega))]
        · rw [hz, if_neg (by decide)]
          have hqn : c.1 ≤ w % 10 := by
            rcases hq with hq | ⟨j, h1, h2', hq⟩
            · exact absurd hq (nI_pos (by omega))
            · rw [nI_eq (by omega) h2'] at hq; omega
          refine ⟨-1, h2, rfl, ?_⟩
          by_cases w10 : w < 10
          · rw [if_neg (show ¬ (10 : Int32) ≤ nI w from nI_ge (b := 10) (by omega) (by decide))]
            rcases zf_in_n (m := 3) (by omega) (nI w) with ⟨j, hj, hh, -⟩ | ⟨-, hz2⟩
            · rw [nI_eq hw (by omega)] at hh; omega
            · rw [e3] at hz2; rw [hz2]; rfl
          · rw [if_pos (show (10 : Int32) ≤ nI w from nI_le (a := 10) (by omega) hw)]
            split
            · rfl
            · rw [B.2.2.1, if_pos (nI_le hqn (by omega))]
