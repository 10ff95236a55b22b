/-! a deed, the class; deed by deed -/
section DID
variable {h : zK} {o oc oe k n s i : Nat} {c : wC} {re sh : Int32} {σ : wS} {d : wD}
theorem cS_g {τ : wS} {i f : Nat} (hi : i < 11) (e : [0, 11, 1, 2, 12, 13, 7, 6, 8, 9, 14].getD i 100 = f) : gI (lS (wLc n o) h τ) o f = τ.1 i := lS_sc (A := wLc n o) (σ := τ) (wLc_ok n o) hi (congrArg (Prod.mk o) e)
theorem cS_w {τ : wS} {i f : Nat} {v : Int32} (hi : i < 11) (e : [0, 11, 1, 2, 12, 13, 7, 6, 8, 9, 14].getD i 100 = f) : sI (lS (wLc n o) h τ) o f v = lS (wLc n o) h (upd τ.1 i v, τ.2) := lS_ws (A := wLc n o) (σ := τ) (wLc_ok n o) hi (congrArg (Prod.mk o) e)
theorem cS_r {τ : wS} {r a t : Nat} (hr : r < 4) (e : [10, 11, 12, 13, 1].getD r 100 = a) (ht : t < n) : gI (lS (wLc n o) h τ) (o + a) t = τ.2 r t := lS_rw (A := wLc n o) (σ := τ) (wLc_ok n o) (show r < 5 by omega) (congrArg (fun z => o + z) e) (show t < if r = 4 then 51 else n by rw [if_neg (by omega)]; exact ht)
theorem cS_wr {τ : wS} {r a t : Nat} {v : Int32} (hr : r < 4) (e : [10, 11, 12, 13, 1].getD r 100 = a) (ht : t < n) : sI (lS (wLc n o) h τ) (o + a) t v = lS (wLc n o) h (τ.1, zu τ.2 r t v) := lS_wr (A := wLc n o) (σ := τ) (wLc_ok n o) (show r < 5 by omega) (congrArg (fun z => o + z) e) (show t < if r = 4 then 51 else n by rw [if_neg (by omega)]; exact ht)
theorem qRu_openUp_ev (hs : s < n) (hn : n ≤ 7) : qRu_openUp o (nI s) (lS (wLc n o) h σ) = some (lS (wLc n o) h (spOpen s σ)) := by
  unfold qRu_openUp qRu_openUp_j83
  simp only [zlet]
  rw [cS_g (i := 3) (f := 2) (by decide) rfl, cS_w (i := 3) (f := 2) (by decide) rfl, cS_g (i := 5) (f := 13) (by decide) rfl, wcinh, show (upd σ.1 3 (σ.1 3 ||| (1 : Int32) <<< (nI s &&& 31)), σ.2).1 5 = σ.1 5 from rfl, cS_g (i := 8) (f := 8) (by decide) rfl, cS_w (i := 8) (f := 8) (by decide) rfl]
  unfold spOpen
  by_cases ht : zf_has (σ.1 5) (nI s) = 0
  · rw [if_pos ht, if_pos ht, zix_nI (by omega) (by omega)]
    simp only [Option.bind_some]
    rw [cS_g (i := 1) (f := 11) (by decide) rfl, cS_r (r := 0) (a := 10) (by decide) rfl hs, cS_w (i := 1) (f := 11) (by decide) rfl, cS_g (i := 10) (f := 14) (by decide) rfl, cS_r (r := 0) (a := 10) (by decide) rfl hs, cS_g (i := 7) (f := 6) (by decide) rfl, cS_w (i := 7) (f := 6) (by decide) rfl, cS_r (r := 0) (a := 10) (by decide) rfl hs, cS_w (i := 10) (f := 14) (by decide) rfl]
    show (if σ.1 10 < σ.2 0 s then _ else if ¬ σ.2 0 s = σ.1 10 then _ else if σ.1 7 ≤ nI s then _ else _) = _
    by_cases h1 : σ.1 10 < σ.2 0 s
    · rw [if_pos h1, if_pos (Or.inl h1)]
      rfl
    · rw [if_neg h1]
      by_cases h2 : σ.2 0 s = σ.1 10
      · rw [if_neg (show ¬ ¬ σ.2 0 s = σ.1 10 from fun z => z h2)]
        by_cases h3 : σ.1 7 ≤ nI s
        · rw [if_pos h3, if_neg (fun z => z.elim h1 (fun q => q.2 h3))]
          rfl
        · rw [if_neg h3, if_pos (Or.inr ⟨h2, h3⟩)]
          rfl
      · rw [if_pos h2, if_neg (fun z => z.elim h1 (fun q => h2 q.1))]
        rfl
  · rw [if_neg ht, if_neg ht]
    rfl
theorem qRu_did_ev (B : wBc h o oc c re sh) (ok : wCok c) (H : wOk c.1 σ) {kk : Nat} (hk : kk ≤ 4) (sy p : Int32) : qRu_did o (nI kk) sy p (lS (wLc c.1 o) h σ) = some (wD2 (wLc c.1 o) h σ (spDid re sh c kk sy p σ)) := by
  have n7 := ok.1
  unfold qRu_did spDid
  by_cases k0 : kk = 0
  · subst k0
    rw [if_neg (show ¬ ¬ nI 0 = 0 by decide), if_pos rfl]
    obtain ⟨y, y1, y2⟩ := H.2.2
    by_cases h50 : σ.1 0 = 50
    · rw [qRu_passedYear_no B h50, Option.bind_some, if_pos h50]
      dsimp only
      rw [if_pos zbool_0]
      rfl
    · have hy : y < 50 := by
        apply Nat.lt_of_le_of_ne y1
        intro z
        exact h50 (y2.trans (by rw [z]; rfl))
      rw [qRu_passedYear_ev B ok H hy y2, Option.bind_some, if_neg h50]
      dsimp only
      rw [if_pos zbool_1]
      rfl
  · have kz : ¬ nI kk = 0 := nI_ne0 (by omega) (by omega)
    have cc : cC (lS (wLc c.1 o) h σ) oc c := cC_l B.1 B.2.1 B.2.2.2.2.2
    rw [if_pos kz, if_neg k0]
    simp only [zlet]
    rw [gR_l, B.2.2.1, if_pos B.2.1, wcinh, cS_g (i := 3) (f := 2) (by decide) rfl]
    rcases qCe_has_ev cc n7 sy with ⟨s, hs, rfl, hz, hz2⟩ | ⟨-, hz, hz2⟩
    · rw [hz, hz2, if_neg (show ¬ (1 : Int32) = 0 by decide), if_neg (show ¬ (1 : Int32) = 0 by decide), nI_clamp (by omega)]
      unfold spDs
      by_cases hg : zf_has (σ.1 3) (nI s) = 0
      · rw [if_pos hg, if_neg (show ¬ ¬ zf_has (σ.1 3) (nI s) = 0 from fun z => z hg)]
        rcases (by omega : kk = 1 ∨ kk = 2 ∨ kk = 3 ∨ kk = 4) with rfl | rfl | rfl | rfl
        · rw [if_pos (show nI 1 = (1 : Int32) from rfl), if_pos rfl, qRu_openUp_ev hs n7, Option.bind_some]
          rfl
        · rw [if_neg (show ¬ nI 2 = (1 : Int32) by decide), if_pos (show nI 2 = (2 : Int32) from rfl), if_neg (show ¬ (2 : Nat) = 1 by decide), if_pos rfl]
          unfold qRu_wiredDown
          simp only [zlet]
          rw [wcinh, cS_g (i := 4) (f := 12) (by decide) rfl, cS_w (i := 4) (f := 12) (by decide) rfl, zix_nI (by omega) (by omega), Option.bind_some, cS_r (r := 2) (a := 12) (by decide) rfl hs, cS_wr (r := 2) (a := 12) (by decide) rfl hs]
          by_cases ht : zf_has (σ.1 4) (nI s) = 0
          · rw [if_pos ht, if_pos ht, Option.bind_some]
            unfold wD2 wB1
            dsimp only
            rw [if_pos zbool_1]
          · rw [if_neg ht, if_neg ht, Option.bind_some]
            unfold wD2
            dsimp only
            rw [if_pos zbool_0]
        · rw [if_neg (show ¬ nI 3 = (1 : Int32) by decide), if_neg (show ¬ nI 3 = (2 : Int32) by decide), if_pos (show nI 3 = (3 : Int32) from rfl), if_neg (show ¬ (3 : Nat) = 1 by decide), if_neg (show ¬ (3 : Nat) = 2 by decide), if_pos rfl]
          unfold qRu_becameTainted
          simp only [zlet]
          rw [wcinh, cS_g (i := 5) (f := 13) (by decide) rfl, cS_w (i := 5) (f := 13) (by decide) rfl]
          by_cases ht : zf_has (σ.1 5) (nI s) = 0
          · rw [if_pos ht, if_pos ht, Option.bind_some]
            unfold wD2 wB1
            dsimp only
            rw [if_pos zbool_1]
          · rw [if_neg ht, if_neg ht, Option.bind_some]
            unfold wD2
            dsimp only
            rw [if_pos zbool_0]
        · rw [if_neg (show ¬ nI 4 = (1 : Int32) by decide), if_neg (show ¬ nI 4 = (2 : Int32) by decide), if_neg (show ¬ nI 4 = (3 : Int32) by decide), if_pos (show nI 4 = (4 : Int32) from rfl), if_neg (show ¬ (4 : Nat) = 1 by decide), if_neg (show ¬ (4 : Nat) = 2 by decide), if_neg (show ¬ (4 : Nat) = 3 by decide)]
          unfold qRu_movedTo
          simp only [zlet]
          rw [zix_nI (by omega) (by omega), Option.bind_some, cS_r (r := 3) (a := 13) (by decide) rfl hs, cS_wr (r := 3) (a := 13) (by decide) rfl hs, cS_g (i := 9) (f := 9) (by decide) rfl, cS_w (i := 9) (f := 9) (by decide) rfl]
          by_cases ht : σ.2 3 s = p
          · rw [if_neg (show ¬ ¬ σ.2 3 s = p from fun z => z ht), if_neg (show ¬ ¬ σ.2 3 s = p from fun z => z ht), Option.bind_some]
            unfold wD2
            dsimp only
            rw [if_pos zbool_0]
          · rw [if_pos ht, if_pos ht, Option.bind_some]
            unfold wD2
            dsimp only
            rw [if_pos zbool_1]
      · rw [if_neg hg, if_pos hg]
        rfl
    · rw [hz, hz2, if_pos rfl, if_pos rfl]
      rfl
/-! deed by deed -/
def spK (d : wD) (i : Nat) : Nat := (d.2 0 i).toNatClampNeg
def spSt (re sh : Int32) (c : wC) (d : wD) (σ : wS) (i : Nat) : wS := wfold (fun i τ => (spDid re sh c (spK d i) (d.2 1 i) (d.2 2 i) τ).getD τ) σ i
def spQp (re sh : Int32) (c : wC) (d : wD) (σ : wS) (i : Nat) : Bool := (spDid re sh c (spK d i) (d.2 1 i) (d.2 2 i) (spSt re sh c d σ i)).isNone
def spQ (re sh : Int32) (c : wC) (d : wD) (σ : wS) (m : Nat) : Nat := fa_first (spQp re sh c d σ) m
theorem spSt_s (i : Nat) : spSt re sh c d σ (i + 1) = (spDid re sh c (spK d i) (d.2 1 i) (d.2 2 i) (spSt re sh c d σ i)).getD (spSt re sh c d σ i) := rfl
theorem wDk (od : wDok d) {i : Nat} (hi : i < d.1) : spK d i ≤ 4 ∧ d.2 0 i = nI (spK d i) ∧ (spK d i = 4 → ∃ p, p ≤ 20 ∧ d.2 2 i = nI p) := by
  obtain ⟨q, q1, q2, -, q4⟩ := od.2 i hi
  have e : spK d i = q := by
    unfold spK
    rw [q2, nI_clamp (by omega)]
  rw [e]
  exact ⟨q1, q2, q4⟩
theorem spSt_ok (hn : c.1 ≤ 7) (od : wDok d) (H : wOk c.1 σ) : ∀ i, i ≤ d.1 → wOk c.1 (spSt re sh c d σ i)
  | 0, _ => H
  | i + 1, hi => by
    have ih := spSt_ok hn od H i (by omega)
    obtain ⟨q1, -, q3⟩ := wDk od (i := i) (by omega)
    rw [spSt_s]
    cases e : spDid re sh c (spK d i) (d.2 1 i) (d.2 2 i) (spSt re sh c d σ i) with
    | none => exact ih
    | some τ => exact spDid_ok hn q3 q1 ih e
theorem lS_m3 {j : Nat} (hj : 33 ≤ j) : gI (lS (wLm n) h σ) 215 j = gI h 215 j := by
  refine lS_ot (fun i hi e => ?_) (fun r hr e => ?_)
  · have : 26 + i = j := (Prod.mk.inj e).2
    have : i < 7 := hi
    omega
  · have : 226 + r = 215 := e
    omega
theorem qM_deedOf_ev {ky r : Nat} {g : zK} {x : Int32} (hky : ky < 2) (e37 : gI g 215 37 = nI ky) (dm : dM g (121 * ky) d) (od : wDok d) (hi : i < d.1) (hx : x = nI r) (hr : r < 3) : qM_deedOf (nI i) x g = some (d.2 r i) := by
  have := od.1
  unfold qM_deedOf
  rw [e37, hx, show (121 : Int32) = nI 121 from rfl, show (3 : Int32) = nI 3 from rfl, show (1 : Int32) = nI 1 from rfl, nI_mul, nI_mul, nI_add, nI_add, nI_add, zix_nI (by omega) (by omega), Option.bind_some]
  exact congrArg some (dm.2 r i hr hi)
theorem qM_play_ev {ky : Nat} (B : mB h k c) (N : mN h re sh) (ok : wCok c) (H : wOk c.1 σ) (hky : ky < 2) (e37 : gI h 215 37 = nI ky) (dm : dM h (121 * ky) d) (od : wDok d) {m : Nat} (hm : m ≤ d.1) : qM_play (nI m) (lS (wLm c.1) h σ) = some (nI (spQ re sh c d σ m), lS (wLm c.1) h (spSt re sh c d σ (spQ re sh c d σ m))) := by
  have hd := od.1
  have l2 : spQ re sh c d σ m ≤ m := fa_first_le _ _
  have e : zloop (qM_play_b2 (nI m)) zfu (0, lS (wLm c.1) h σ) = some (nI (spQ re sh c d σ m), lS (wLm c.1) h (spSt re sh c d σ (spQ re sh c d σ m))) := by
    have dd : ∀ i, i < d.1 → qM_doesDeed (nI i) (lS (wLm c.1) h (spSt re sh c d σ i)) = some (wD2 (wLm c.1) h (spSt re sh c d σ i) (spDid re sh c (spK d i) (d.2 1 i) (d.2 2 i) (spSt re sh c d σ i))) := by
      intro i hi
      obtain ⟨q1, q2, -⟩ := wDk od hi
      have g37 : gI (lS (wLm c.1) h (spSt re sh c d σ i)) 215 37 = nI ky := (lS_m3 (by omega)).trans e37
      have dm' : dM (lS (wLm c.1) h (spSt re sh c d σ i)) (121 * ky) d := ⟨(lS_m2 (by omega) (by omega)).trans dm.1, fun r i hr hi => (lS_m2 (by omega) (by omega)).trans (dm.2 r i hr hi)⟩
      unfold qM_doesDeed
      rw [qM_deedOf_ev (x := 0) (r := 0) hky g37 dm' od hi rfl (by omega), Option.bind_some, qM_deedOf_ev (x := 1) (r := 1) hky g37 dm' od hi rfl (by omega), Option.bind_some, qM_deedOf_ev (x := 2) (r := 2) hky g37 dm' od hi rfl (by omega), Option.bind_some, q2, qM_does_ev B N ok (spSt_ok ok.1 od H i (by omega)) q1, Option.bind_some]
      cases spDid re sh c (spK d i) (d.2 1 i) (d.2 2 i) (spSt re sh c d σ i) with
      | none =>
        unfold wD2
        dsimp only
        rw [if_pos zbool_0]
      | some τ =>
        unfold wD2
        dsimp only
        rw [if_pos zbool_1]
    refine zloop_for (fun i => (nI i, lS (wLm c.1) h (spSt re sh c d σ i))) (spQ re sh c d σ m) (fun i hi => ?_) ?_ (zfu_lt (by omega))
    · have q := fa_first_no (spQp re sh c d σ) m i hi
      unfold qM_play_b2
      dsimp only
      rw [if_neg (nI_ge (by omega) (by omega)), dd i (by omega), Option.bind_some, spSt_s]
      unfold spQp at q
      cases ee : spDid re sh c (spK d i) (d.2 1 i) (d.2 2 i) (spSt re sh c d σ i) with
      | none => rw [ee] at q; cases q
      | some τ =>
        unfold wD2
        dsimp only
        rw [if_neg (show ¬ (1 : Int32) = 0 by decide), nI_1]
        rfl
    · unfold qM_play_b2
      dsimp only
      by_cases hl : spQ re sh c d σ m < m
      · have q : spQp re sh c d σ (spQ re sh c d σ m) = true := fa_first_yes (spQp re sh c d σ) m hl
        rw [if_neg (nI_ge hl (by omega)), dd _ (by omega), Option.bind_some]
        unfold spQp at q
        cases ee : spDid re sh c (spK d (spQ re sh c d σ m)) (d.2 1 (spQ re sh c d σ m)) (d.2 2 (spQ re sh c d σ m)) (spSt re sh c d σ (spQ re sh c d σ m)) with
        | none =>
          unfold wD2
          dsimp only
          rw [if_pos rfl]
        | some τ => rw [ee] at q; cases q
      · rw [if_pos (nI_le (by omega) (by omega))]
  unfold qM_play
  rw [e]
  rfl
theorem qRu_follow_ev (B : wBc h o oc c re sh) (ok : wCok c) (H : wOk c.1 σ) (hoe : oe = 15 ∨ oe = 30) (dc : dC h oe d) (od : wDok d) {m : Nat} (hm : m ≤ d.1) : qRu_follow o oe (nI m) (lS (wLc c.1 o) h σ) = some (nI (spQ re sh c d σ m), lS (wLc c.1 o) h (spSt re sh c d σ (spQ re sh c d σ m))) := by
  have hd := od.1
  have l2 : spQ re sh c d σ m ≤ m := fa_first_le _ _
  have dc' : ∀ τ : wS, dC (lS (wLc c.1 o) h τ) oe d := fun τ => ⟨(lS_c B.1 (by omega)).trans dc.1, fun r i hr hi => (lS_c B.1 (by omega)).trans (dc.2 r i hr hi)⟩
  have dd : ∀ i, i < d.1 → qRu_did o (gI (lS (wLc c.1 o) h (spSt re sh c d σ i)) (oe + 1) i) (gI (lS (wLc c.1 o) h (spSt re sh c d σ i)) (oe + 2) i) (gI (lS (wLc c.1 o) h (spSt re sh c d σ i)) (oe + 3) i) (lS (wLc c.1 o) h (spSt re sh c d σ i)) = some (wD2 (wLc c.1 o) h (spSt re sh c d σ i) (spDid re sh c (spK d i) (d.2 1 i) (d.2 2 i) (spSt re sh c d σ i))) := by
    intro i hi
    obtain ⟨q1, q2, -⟩ := wDk od hi
    have a0 := (dc' (spSt re sh c d σ i)).2 0 i (by omega) hi
    have a1 := (dc' (spSt re sh c d σ i)).2 1 i (by omega) hi
    have a2 := (dc' (spSt re sh c d σ i)).2 2 i (by omega) hi
    rw [show oe + 1 = oe + 1 + 0 from rfl, a0, show oe + 2 = oe + 1 + 1 from rfl, a1, show oe + 3 = oe + 1 + 2 from rfl, a2, q2]
    exact qRu_did_ev B ok (spSt_ok ok.1 od H i (by omega)) q1 _ _
  have e : zloop (qRu_follow_b2 oe o (nI m)) zfu (0, lS (wLc c.1 o) h σ) = some (if spQ re sh c d σ m < m then Sum.inr (nI (spQ re sh c d σ m), lS (wLc c.1 o) h (spSt re sh c d σ (spQ re sh c d σ m))) else Sum.inl (lS (wLc c.1 o) h (spSt re sh c d σ (spQ re sh c d σ m)))) := by
    refine zloop_for (fun i => (nI i, lS (wLc c.1 o) h (spSt re sh c d σ i))) (spQ re sh c d σ m) (fun i hi => ?_) ?_ (zfu_lt (by omega))
    · have q := fa_first_no (spQp re sh c d σ) m i hi
      unfold qRu_follow_b2
      dsimp only
      rw [if_neg (nI_ge (by omega) (by omega)), (dc' _).1, if_neg (nI_ge (by omega) (by omega)), zix_nI (by omega) (by omega), Option.bind_some, dd i (by omega), Option.bind_some, spSt_s]
      unfold spQp at q
      cases ee : spDid re sh c (spK d i) (d.2 1 i) (d.2 2 i) (spSt re sh c d σ i) with
      | none => rw [ee] at q; cases q
      | some τ =>
        unfold wD2
        dsimp only
        rw [if_pos (show ¬ (1 : Int32) = 0 by decide), nI_1]
        rfl
    · unfold qRu_follow_b2
      dsimp only
      by_cases hl : spQ re sh c d σ m < m
      · have q : spQp re sh c d σ (spQ re sh c d σ m) = true := fa_first_yes (spQp re sh c d σ) m hl
        rw [if_neg (nI_ge hl (by omega)), (dc' _).1, if_neg (nI_ge (by omega) (by omega)), zix_nI (by omega) (by omega), Option.bind_some, dd _ (by omega), Option.bind_some, if_pos hl]
        unfold spQp at q
        cases ee : spDid re sh c (spK d (spQ re sh c d σ m)) (d.2 1 (spQ re sh c d σ m)) (d.2 2 (spQ re sh c d σ m)) (spSt re sh c d σ (spQ re sh c d σ m)) with
        | none =>
          unfold wD2
          dsimp only
          rw [if_neg (show ¬ ¬ (0 : Int32) = 0 by decide)]
        | some τ => rw [ee] at q; cases q
      · rw [if_pos (nI_le (by omega) (by omega)), if_neg hl]
  unfold qRu_follow
  rw [e, Option.bind_some]
  by_cases hl : spQ re sh c d σ m < m
  · rw [if_pos hl]
  · rw [if_neg hl]
    dsimp only
    rw [(dc' _).1]
    unfold zf_min
    rw [if_neg (nI_nlt hm (by omega)), show spQ re sh c d σ m = m by omega]
end DID
