section AFTER2
variable {h : zK} {o oc k n s i : Nat} {c : wC} {d : wD} {re sh : Int32} {σ τ τ' : wS}
/-- one deed that can be, in the reference's loop -/
theorem qM_after_b53_y {ky : Nat} (B : mB h k c) (N : mN h re sh) (ok : wCok c) (H : wOk c.1 τ) (hky : ky < 2) (e37 : gI h 215 37 = nI ky) (dm : dM h (121 * ky) d) (od : wDok d) (hi : i < d.1) (x3 : Int32) {y : Nat} {b : Nat → Nat} (J : yJ c.1 y b τ) (e : spDid re sh c (spK d i) (d.2 1 i) (d.2 2 i) τ = some τ') : ∃ y' b', yJ c.1 y' b' τ' ∧ qM_after_b53 x3 (yLo y b τ 1 (nI i) (lS (wLm c.1) h τ)) = some (.inl (yLo y' b' τ' 1 (nI (i + 1)) (lS (wLm c.1) h τ'))) := by
  have hd := od.1
  have n7 := ok.1
  have L := wLm_ok c.1
  obtain ⟨q1, q2, -⟩ := wDk od hi
  have m0 : qM_deeds (lS (wLm c.1) h τ) = some (nI d.1) := by
    unfold qM_deeds
    rw [show gI (lS (wLm c.1) h τ) 215 37 = nI ky from (lS_m3 (by omega)).trans e37, show (121 : Int32) = nI 121 from rfl, nI_mul, zix_nI (by omega) (by omega), Option.bind_some]
    exact congrArg some ((lS_m2 (by omega) (by omega)).trans dm.1)
  have dd := qM_doesDeed_ev (re := re) (sh := sh) B N ok H hky e37 dm od hi
  have g37 : gI (lS (wLm c.1) h τ') 215 37 = nI ky := (lS_m3 (by omega)).trans e37
  have dm' : dM (lS (wLm c.1) h τ') (121 * ky) d := ⟨(lS_m2 (by omega) (by omega)).trans dm.1, fun r i hr hi => (lS_m2 (by omega) (by omega)).trans (dm.2 r i hr hi)⟩
  have k0 := qM_deedOf_ev (x := 0) (r := 0) hky g37 dm' od hi rfl (by omega)
  have k1 := qM_deedOf_ev (x := 1) (r := 1) hky g37 dm' od hi rfl (by omega)
  have s28 : ∀ τ : wS, gI (lS (wLm c.1) h τ) 215 28 = τ.1 2 := fun τ => lS_sc L (i := 2) (show 2 < 7 by decide) rfl
  have s26 : gI (lS (wLm c.1) h τ') 215 26 = τ'.1 0 := lS_sc L (i := 0) (show 0 < 7 by decide) rfl
  have s31 : gI (lS (wLm c.1) h τ') 215 31 = τ'.1 5 := lS_sc L (i := 5) (show 5 < 7 by decide) rfl
  have rw0 : ∀ t, t < c.1 → gI (lS (wLm c.1) h τ') 226 t = τ'.2 0 t := fun t ht => lS_rw L (r := 0) (show 0 < 4 by decide) rfl ht
  have am := yAf_m J.2.2.2.1 y
  unfold yLo qM_after_b53
  simp only [zlet]
  rw [if_neg (show ¬ (1 : Int32) = 0 by decide), m0, Option.bind_some, if_neg (nI_ge hi (by omega)), dd, e, Option.bind_some]
  unfold wD2
  dsimp only
  rw [if_neg (show ¬ (1 : Int32) = 0 by decide), k0, Option.bind_some, Option.bind_some, k1, Option.bind_some, q2, s28, s28, s26, s31, nI_1]
  by_cases hk0 : spK d i = 0
  · -- a year
    unfold spDid at e
    rw [if_pos hk0] at e
    split at e
    · cases e
    · rename_i h50
      cases e
      have hy : y < 50 := by
        apply Nat.lt_of_not_le
        intro z
        have : y = 50 := by have := J.1; omega
        exact h50 (by rw [J.2.1, this]; rfl)
      obtain ⟨b', J', bb, p, q, p1, p2, p3, p4, p5⟩ := yJ_year (re := re) (sh := sh) n7 J hy
      refine ⟨y + 1, b', J', ?_⟩
      have ey : (spYear re sh c τ).1 0 = nI (y + 1) := J'.2.1
      have cg := yAf_cong (b := b) (b' := b') y (fun t ht => (bb t ht).symm)
      have b7 := J'.2.2.2.1 (y + 1)
      rw [p1, p2, ey, hk0, nI_sub p3, ← p5, cg, if_pos (show ¬ nI 0 = 1 by decide), if_pos (show ¬ nI 0 = 4 by decide), if_pos (show ¬ nI 0 = 1 by decide), Option.bind_some]
      rw [cg] at am
      have f7 : (spYear re sh c τ).1 7 = τ.1 7 ∧ (spYear re sh c τ).1 10 = τ.1 10 ∧ (spYear re sh c τ).1 8 = τ.1 8 ∧ (spYear re sh c τ).1 9 = τ.1 9 := spYear_f
      rw [f7.1, f7.2.1, f7.2.2.1, f7.2.2.2, Int32.add_zero, wgren (by omega) (by omega)]
      congr 2
      refine Prod.ext ?_ (Prod.ext ?_ (Prod.ext ?_ rfl))
      · dsimp only
        rw [← yAf_bg hy]
        by_cases h0 : b' (y + 1) = 0
        · rw [if_pos h0, if_pos (show nI q ≤ nI p from nI_le (by omega) (by omega))]
        · rw [if_neg h0, if_neg (show ¬ nI q ≤ nI p from nI_ge (by omega) (by omega))]
      · dsimp only
        rw [yAf_s]
        unfold yAfS
        dsimp only
        by_cases h0 : (yAf b' y).2.2 < b' (y + 1)
        · rw [if_neg (nI_ge h0 (by omega)), if_pos h0]
          rfl
        · rw [if_pos (nI_le (by omega) (by omega)), if_neg h0]
      · dsimp only
        rw [yAf_s]
        unfold yAfS
        rfl
  · -- another deed
    unfold spDid at e
    rw [if_neg hk0] at e
    split at e
    · cases e
    · rename_i hz
      rcases zf_in_n (m := c.1) (by omega) (d.2 1 i) with ⟨s, hs, es, -⟩ | ⟨-, z0⟩
      · rw [es, nI_clamp (by omega)] at e
        obtain ⟨J', e2⟩ := yJ_ds n7 J hs e
        refine ⟨y, b, J', ?_⟩
        have v2 : τ.1 2 - τ.1 2 = (0 : Int32) := Int32.sub_self _
        have bg : (if ¬ wO (yAf b y).1 = -1 then wO (yAf b y).1 else if τ.1 2 ≤ τ.1 2 then wO (yAf b y).1 else τ'.1 0) = wO (yAf b y).1 := by
          rw [if_pos (Int32.le_refl _)]
          split <;> rfl
        have bu : (0 : Int32) ≤ nI (yAf b y).2.2 := nI_pos' (by omega)
        rw [e2, v2, bg, if_pos bu, wgre_0 (by omega), es]
        unfold spDs at e
        split at e
        · cases e
        · split at e
          · rename_i hk1
            cases e
            rw [hk1, if_neg (show ¬ ¬ nI 1 = 1 from fun z => z rfl), if_pos (show ¬ nI 1 = 4 by decide), if_neg (show ¬ ¬ nI 1 = 1 from fun z => z rfl), zix_nI (by omega) (by omega), Option.bind_some, rw0 s hs]
            unfold spOpen
            by_cases ht : zf_has (τ.1 5) (nI s) = 0
            · rw [if_pos ht]
              by_cases hb : τ.1 10 < τ.2 0 s ∨ (τ.2 0 s = τ.1 10 ∧ ¬ τ.1 7 ≤ nI s)
              · rw [if_pos hb]
                dsimp only
                have u5 : zf_has ((upd (upd (upd (upd τ.1 3 (τ.1 3 ||| wB1 s)) 1 (τ.1 1 + τ.2 0 s)) 7 (nI s)) 10 (τ.2 0 s)) 5) (nI s) = 0 := ht
                rw [if_pos u5, Option.bind_some]
                have gv : zf_greater (τ.1 10) (τ.2 0 s) = τ.2 0 s := by
                  unfold zf_greater
                  rcases hb with hb | hb
                  · rw [if_neg (Int32.not_lt.mpr (Int32.le_of_lt hb))]
                  · rw [hb.1, if_neg (show ¬ τ.1 10 < τ.1 10 from fun z => Int32.lt_irrefl z)]
                have vb : (if τ.1 10 < τ.2 0 s then (1 : Int32) else if ¬ τ.2 0 s = τ.1 10 then 0 else if τ.1 7 ≤ nI s then 0 else 1) = 1 := by
                  rcases hb with hb | hb
                  · rw [if_pos hb]
                  · by_cases hl : τ.1 10 < τ.2 0 s
                    · rw [if_pos hl]
                    · rw [if_neg hl, if_neg (fun z => z hb.1), if_neg hb.2]
                dsimp only
                rw [vb, gv, if_neg (show ¬ (1 : Int32) = 0 by decide), Int32.add_zero]
                rfl
              · rw [if_neg hb]
                dsimp only
                have u5 : zf_has ((upd (upd τ.1 3 (τ.1 3 ||| wB1 s)) 1 (τ.1 1 + τ.2 0 s)) 5) (nI s) = 0 := ht
                rw [if_pos u5, Option.bind_some]
                have hb1 : ¬ τ.1 10 < τ.2 0 s := fun z => hb (Or.inl z)
                have gv : zf_greater (τ.1 10) (τ.2 0 s) = τ.1 10 := by
                  unfold zf_greater
                  by_cases hl : τ.2 0 s < τ.1 10
                  · rw [if_pos hl]
                  · rw [if_neg hl]
                    exact Int32.le_antisymm (Int32.not_lt.mp hb1) (Int32.not_lt.mp hl)
                have vb : (if τ.1 10 < τ.2 0 s then (1 : Int32) else if ¬ τ.2 0 s = τ.1 10 then 0 else if τ.1 7 ≤ nI s then 0 else 1) = 0 := by
                  rw [if_neg hb1]
                  by_cases hq : τ.2 0 s = τ.1 10
                  · rw [if_neg (fun z => z hq), if_pos]
                    exact Classical.byContradiction fun z => hb (Or.inr ⟨hq, z⟩)
                  · rw [if_pos hq]
                dsimp only
                rw [vb, gv, if_pos rfl, Int32.add_zero]
                rfl
            · rw [if_neg ht]
              dsimp only
              have u5 : ¬ zf_has ((upd (upd τ.1 3 (τ.1 3 ||| wB1 s)) 8 (τ.1 8 + 1)) 5) (nI s) = 0 := ht
              rw [if_neg u5, Option.bind_some, Int32.add_zero]
              rfl
          · rename_i hk1
            have k4 : ¬ nI (spK d i) = 1 := fun z => hk1 ((nI_eq (b := 1) (by omega) (by omega)).mp z)
            rw [if_pos k4, if_pos k4, Option.bind_some]
            split at e
            · rename_i hk2
              split at e
              · cases e
                rw [hk2, if_pos (show ¬ nI 2 = 4 by decide), Int32.add_zero]
                rfl
              · cases e
            · split at e
              · rename_i hk3
                split at e
                · cases e
                  rw [hk3, if_pos (show ¬ nI 3 = 4 by decide), Int32.add_zero]
                  rfl
                · cases e
              · rename_i hk2 hk3
                split at e
                · cases e
                  rw [show spK d i = 4 by omega, if_neg (show ¬ ¬ nI 4 = 4 from fun z => z rfl)]
                  rfl
                · cases e
      · exact absurd z0 hz
end AFTER2
