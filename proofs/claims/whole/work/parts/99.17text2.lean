/-! TEXT: the call -/
section TEXT2
variable {h : zK}
def yGoC (so : Nat) (k : Nat) (h : zK) : Option (Int32 × zK) := (qRe_read (nI so) (gI h 1 1) (yH3 h)).bind fun p14 => if (gI p14 147 3) = 0 then (qT_take (nI so) (nI k) p14).bind fun p16 => if ¬ nI so = 0 then some (nI k, p16) else (qC_forgetCellars p16).bind fun p18 => some (nI k, p18) else some (-1, sI (sI p14 1 2 (gI p14 147 3)) 1 3 (gI (sI p14 1 2 (gI p14 147 3)) 147 4))
theorem ytext_go (H : InvB h) {so k : Nat} {m : Nat → Nat} {x2 : Int32} (hso : so < 3) (M : (∀ r, r < 3 → m r ≤ 2 ∧ gI h (1 + 2) r = nI (m r) ∧ gI h 220 (3 * 0 + r) = nI (m r)) ∧ (∀ k, k < m 0 → ∃ c, wCok c ∧ cC h (1 + 6 + 15 * k) c ∧ cM h (52 * (2 * 0 + k)) c) ∧ (∀ k, k < m 1 → ∃ d, wDok d ∧ dC h (1 + 14 + 15 * k) d ∧ dM h (121 * (2 * 0 + k)) d) ∧ (∀ k, k < m 2 → ∃ l, wLok l ∧ lC h (1 + 18 + 15 * k) l ∧ lM h (17 * (2 * 0 + k)) l)) (dec : (x2 = -1 ∧ k = m so ∧ m so < 2) ∨ (¬ x2 = -1 ∧ x2 = nI k ∧ k < m so)) : ∃ w h1 h2, yGoC so k h = some (w, h1) ∧ qM_text_j75 (nI so) x2 (yH5 h1) = some (w, h2) ∧ gI h1 220 so = nI (m so) ∧ InvB h2 ∧ yCc h h2 := by
  obtain ⟨m1, m2, m3, m4⟩ := M
  obtain ⟨len, l1, l2, l3, l4⟩ := H.1.1
  have ms := (m1 so hso).1
  have k2 : k < 2 := by rcases dec with ⟨-, a, b⟩ | ⟨-, -, a⟩ <;> omega
  obtain ⟨w1, w2, w3⟩ := yH3_1 (h := h) (j := 0)
  have us : ∀ j, j < len → gI (yH3 h) 2 j = yBt (yU h j) ∧ yU h j < 256 := fun j hj => ⟨by rw [yH3_o (by decide)]; exact (yU_b (l4 j hj).2).symm, yU_256 h j⟩
  -- what the reference finds, whatever stands elsewhere
  have ref : ∀ h1 : zK, gI h1 217 0 = nI len → (∀ j, gI h1 216 j = gI h 216 j) → ∃ g' ok x', qRe_read (nI so) (nI len) (yH3 h) = some g' ∧ qM_readText (nI so) (yH5 h1) = some (ok, x') ∧ ((gI g' 147 3 = 0 ∧ gI x' 218 0 = 0 ∧ gI x' 219 0 = -1 ∧ ok = 1 ∧ yDone so g' x') ∨ (¬ gI g' 147 3 = 0 ∧ gI x' 218 0 = gI g' 147 3 ∧ gI x' 219 0 = gI g' 147 4 ∧ ok = 0)) := fun h1 e17 e16 =>
    yReads hso l1 us (yH5_v.2.2.2.trans e17) (fun j hj => by
      rw [yH5_o (by decide) (by omega), e16 j, yU_b (l4 j hj).2]
      have := (l4 j hj).1
      rw [show 600 * 0 + j = j by omega] at this
      exact this.symm)
  obtain ⟨g', -, -, rd, -, -⟩ := ref h l3 (fun _ => rfl)
  have fg := f_qRe_read rd
  have fg' : ∀ a j, ¬ (147 ≤ a ∧ a ≤ 165) → gI g' a j = gI (yH3 h) a j := fun a j ha => congrFun (fg.2.1 a (by
    intro hh
    simp only [List.mem_cons, List.not_mem_nil, or_false] at hh
    omega)) j
  unfold yGoC
  rw [l2, rd, Option.bind_some]
  by_cases z : gI g' 147 3 = 0
  · rw [if_pos z]
    have g3 : gI g' 3 so = nI (m so) := (fg' 3 so (by omega)).trans ((yH3_o (by decide)).trans (m1 so hso).2.1)
    obtain ⟨p, p0, pj, p1, p3, pn⟩ := qT_take_ev hso k2 ms g3
    rw [p0, Option.bind_some]
    -- the caches
    have cach : ∃ h1, (if ¬ nI so = 0 then some (nI k, p) else (qC_forgetCellars p).bind fun p18 => some (nI k, p18)) = some (nI k, h1) ∧ (∀ a j, a ≠ 184 → a ≠ 213 → gI h1 a j = gI p a j) ∧ ((so = 0 ∧ gI h1 184 8 = -1 ∧ gI h1 213 0 = 0 ∧ gI h1 213 1 = 0) ∨ (so ≠ 0 ∧ ∀ a j, gI h1 a j = gI p a j)) := by
      by_cases s0 : so = 0
      · subst s0
        rw [if_neg (show ¬ ¬ nI 0 = 0 from fun z => z rfl)]
        obtain ⟨q, q0, q1, q2, q3, q4, q5⟩ := qC_forgetCellars_ev p
        rw [q0, Option.bind_some]
        exact ⟨q, rfl, fun a j h1 h2 => q5 a j h1 h2, Or.inl ⟨rfl, q2, q3, q4⟩⟩
      · rw [if_pos (fun z => s0 ((nI_z (by omega)).mp z))]
        exact ⟨p, rfl, fun _ _ _ _ => rfl, Or.inr ⟨s0, fun _ _ => rfl⟩⟩
    obtain ⟨h1, c0, c1, c2⟩ := cach
    have wd : ∀ so, so < 3 → 7 ≤ yBs so + 15 * k ∧ yBs so + 15 * k + yWd so ≤ 37 := by
      intro so hso
      rcases (by omega : so = 0 ∨ so = 1 ∨ so = 2) with rfl | rfl | rfl
      · show 7 ≤ 7 + 15 * k ∧ 7 + 15 * k + 8 ≤ 37; omega
      · show 7 ≤ 15 + 15 * k ∧ 15 + 15 * k + 4 ≤ 37; omega
      · show 7 ≤ 19 + 15 * k ∧ 19 + 15 * k + 3 ≤ 37; omega
    have wso := wd so hso
    have f1 : ∀ a j, a ≠ 184 → a ≠ 213 → a ≠ 3 → a ≠ 1 → ¬ (yBs so + 15 * k ≤ a ∧ a < yBs so + 15 * k + yWd so) → ¬ (147 ≤ a ∧ a ≤ 165) → gI h1 a j = gI h a j := fun a j q1 q2 q3 q4 q5 q6 => (c1 a j q1 q2).trans ((p1 a j q3 q5).trans ((fg' a j q6).trans (yH3_o q4)))
    have f11 : ∀ j, gI h1 1 j = gI (yH3 h) 1 j := fun j => (c1 1 j (by decide) (by decide)).trans ((p1 1 j (by decide) (by omega)).trans (fg' 1 j (by omega)))
    obtain ⟨g'', ok, x', rd', rt, dn⟩ := ref h1 ((f1 217 0 (by omega) (by omega) (by omega) (by omega) (by omega) (by omega)).trans l3) (fun j => f1 216 j (by omega) (by omega) (by omega) (by omega) (by omega) (by omega))
    have gg : g'' = g' := Option.some.inj (rd'.symm.trans rd)
    subst gg
    rcases dn with ⟨-, d1, d2, d3, d4⟩ | ⟨n, -⟩
    case inr => exact absurd z n
    subst d3
    have new := pn x' d4
    have fx := f_qM_readText rt
    have fx' : ∀ a j, a ≠ 215 → a ≠ 218 → a ≠ 219 → a ≠ 224 → a ≠ 225 → gI x' a j = gI (yH5 h1) a j := fun a j q1 q2 q3 q4 q5 => congrFun (fx.2.1 a (by
      intro hh
      simp only [List.mem_cons, List.not_mem_nil, or_false] at hh
      omega)) j
    have x220 : gI x' 220 so = nI (m so) := by
      rw [fx' 220 so (by decide) (by decide) (by decide) (by decide) (by decide), yH5_o (by decide) (by omega), f1 220 so (by omega) (by omega) (by omega) (by omega) (by omega) (by omega)]
      have := (m1 so hso).2.2
      rw [show 3 * 0 + so = so by omega] at this
      exact this
    let M' : Nat := if m so < k + 1 then k + 1 else m so
    have hM' : M' = if m so < k + 1 then k + 1 else m so := rfl
    have M2 : M' ≤ 2 := by rw [hM']; split <;> omega
    have kM : k < M' := by rw [hM']; split <;> omega
    have kold : ∀ k', k' < M' → k' ≠ k → k' < m so := by
      intro k' q1 q2
      rcases dec with ⟨-, a, b⟩ | ⟨-, -, a⟩
      · rw [hM', if_pos (by omega)] at q1; omega
      · rw [hM', if_neg (by omega)] at q1; omega
    let x18 : zK := sI x' 220 so (nI M')
    have body : qM_text_j75 (nI so) x2 (yH5 h1) = if ¬ nI so = 0 then if ¬ nI so = 1 then (qM_store 223 17 (nI k) x18).bind fun p21 => some (nI k, p21) else (qM_store 222 121 (nI k) x18).bind fun p22 => some (nI k, p22) else (qM_store 221 52 (nI k) x18).bind fun p23 => some (nI k, p23) := by
      unfold qM_text_j75
      rw [rt, Option.bind_some]
      dsimp only
      rw [if_pos (show ¬ (1 : Int32) = 0 by decide), zix_nI (show so < 12 by omega) (by omega)]
      rcases dec with ⟨a, b, c⟩ | ⟨a, b, c⟩
      · rw [if_neg (show ¬ ¬ x2 = -1 from fun q => q a), Option.bind_some, Option.bind_some, Option.bind_some]
        simp only [zlet]
        rw [if_neg (show ¬ ¬ x2 = -1 from fun q => q a), x220, nI_1, ← b, show nI (k + 1) = nI M' by rw [hM', if_pos (by omega)]]
      · rw [if_pos a, Option.bind_some, Option.bind_some]
        simp only [zlet]
        rw [if_pos a, x220, b, show nI (m so) + 0 = nI M' by rw [hM', if_neg (by omega), Int32.add_zero]]
    rw [c0]
    have fin : ∃ h2, (if ¬ nI so = 0 then if ¬ nI so = 1 then (qM_store 223 17 (nI k) x18).bind fun p21 => some (nI k, p21) else (qM_store 222 121 (nI k) x18).bind fun p22 => some (nI k, p22) else (qM_store 221 52 (nI k) x18).bind fun p23 => some (nI k, p23)) = some (nI k, h2) ∧ (∀ a j, a ≠ 221 → a ≠ 222 → a ≠ 223 → gI h2 a j = gI x18 a j) ∧ (∀ j, gI h2 221 j = if so = 0 ∧ 52 * k ≤ j ∧ j < 52 * k + 52 then gI x' 224 (j - 52 * k) else gI x18 221 j) ∧ (∀ j, gI h2 222 j = if so = 1 ∧ 121 * k ≤ j ∧ j < 121 * k + 121 then gI x' 224 (j - 121 * k) else gI x18 222 j) ∧ (∀ j, gI h2 223 j = if so = 2 ∧ 17 * k ≤ j ∧ j < 17 * k + 17 then gI x' 224 (j - 17 * k) else gI x18 223 j) := by
      have v24 : ∀ j, gI x18 224 j = gI x' 224 j := fun j => gI_ne (by decide)
      rcases (by omega : so = 0 ∨ so = 1 ∨ so = 2) with rfl | rfl | rfl
      · have zl : zln 221 = 416 := rfl
        obtain ⟨h2, s0, s1, s2, s3⟩ := qM_store_ev (x := x18) (oa := 221) (n := 52) (k := k) (by decide) (by omega) k2 (by rw [zl]; omega) (by rw [zl]; omega)
        have s0' : qM_store 221 52 (nI k) x18 = some h2 := s0
        rw [if_neg (show ¬ ¬ nI 0 = 0 from fun z => z rfl), s0', Option.bind_some]
        refine ⟨h2, rfl, fun a j q1 q2 q3 => s2 a j q1, fun j => ?_, fun j => ?_, fun j => ?_⟩
        · rw [s3 j]
          by_cases e : 52 * k ≤ j ∧ j < 52 * k + 52
          · rw [if_pos e, if_pos ⟨rfl, e⟩, v24]
          · rw [if_neg e, if_neg (fun q => e q.2)]
        · rw [if_neg (fun q => absurd q.1 (by decide))]; exact s2 222 j (by decide)
        · rw [if_neg (fun q => absurd q.1 (by decide))]; exact s2 223 j (by decide)
      · have zl : zln 222 = 968 := rfl
        obtain ⟨h2, s0, s1, s2, s3⟩ := qM_store_ev (x := x18) (oa := 222) (n := 121) (k := k) (by decide) (by omega) k2 (by rw [zl]; omega) (by rw [zl]; omega)
        have s0' : qM_store 222 121 (nI k) x18 = some h2 := s0
        rw [if_pos (show ¬ nI 1 = 0 by decide), if_neg (show ¬ ¬ nI 1 = 1 from fun z => z rfl), s0', Option.bind_some]
        refine ⟨h2, rfl, fun a j q1 q2 q3 => s2 a j q2, fun j => ?_, fun j => ?_, fun j => ?_⟩
        · rw [if_neg (fun q => absurd q.1 (by decide))]; exact s2 221 j (by decide)
        · rw [s3 j]
          by_cases e : 121 * k ≤ j ∧ j < 121 * k + 121
          · rw [if_pos e, if_pos ⟨rfl, e⟩, v24]
          · rw [if_neg e, if_neg (fun q => e q.2)]
        · rw [if_neg (fun q => absurd q.1 (by decide))]; exact s2 223 j (by decide)
      · have zl : zln 223 = 136 := rfl
        obtain ⟨h2, s0, s1, s2, s3⟩ := qM_store_ev (x := x18) (oa := 223) (n := 17) (k := k) (by decide) (by omega) k2 (by rw [zl]; omega) (by rw [zl]; omega)
        have s0' : qM_store 223 17 (nI k) x18 = some h2 := s0
        rw [if_pos (show ¬ nI 2 = 0 by decide), if_pos (show ¬ nI 2 = 1 by decide), s0', Option.bind_some]
        refine ⟨h2, rfl, fun a j q1 q2 q3 => s2 a j q3, fun j => ?_, fun j => ?_, fun j => ?_⟩
        · rw [if_neg (fun q => absurd q.1 (by decide))]; exact s2 221 j (by decide)
        · rw [if_neg (fun q => absurd q.1 (by decide))]; exact s2 222 j (by decide)
        · rw [s3 j]
          by_cases e : 17 * k ≤ j ∧ j < 17 * k + 17
          · rw [if_pos e, if_pos ⟨rfl, e⟩, v24]
          · rw [if_neg e, if_neg (fun q => e q.2)]
    obtain ⟨h2, s0, s1, s21, s22, s23⟩ := fin
    -- all of the class's cells
    have fc : ∀ a j, a < 215 → gI h2 a j = gI h1 a j := fun a j q => (s1 a j (by omega) (by omega) (by omega)).trans ((gI_ne (by omega)).trans ((fx' a j (by omega) (by omega) (by omega) (by omega) (by omega)).trans (yH5_o (by omega) (by omega))))
    have fm : ∀ a j, 220 ≤ a → a ≤ 223 → (a = 220 → j ≠ so) → gI x18 a j = gI h a j := fun a j q1 q2 q3 => by
      have e : gI x18 a j = gI x' a j := by
        show gI (sI x' 220 so (nI M')) a j = _
        rw [gI_sI, if_neg (fun q => q3 q.1 q.2)]
      rw [e, fx' a j (by omega) (by omega) (by omega) (by omega) (by omega), yH5_o (by omega) (by omega)]
      exact f1 a j (by omega) (by omega) (by omega) (by omega) (by omega) (by omega)
    have m20 : ∀ r, r < 3 → gI h 220 r = nI (m r) := fun r hr => by
      have := (m1 r hr).2.2
      rw [show 3 * 0 + r = r by omega] at this
      exact this
    have cnt : ∀ r, r < 3 → (if r = so then M' else m r) ≤ 2 ∧ gI h2 3 r = nI (if r = so then M' else m r) ∧ gI h2 220 r = nI (if r = so then M' else m r) := fun r hr => by
      rw [fc 3 r (by omega), c1 3 r (by decide) (by decide), p3 r, s1 220 r (by decide) (by decide) (by decide)]
      by_cases e : r = so
      · subst e
        rw [if_pos rfl, if_pos rfl]
        exact ⟨M2, rfl, gI_eq⟩
      · rw [if_neg e, if_neg e, fm 220 r (by omega) (by omega) (fun _ => e), fg' 3 r (by omega), yH3_o (by decide)]
        exact ⟨(m1 r hr).1, (m1 r hr).2.1, m20 r hr⟩
    have tx : wTx h2 1 0 := by
      refine wTx_mk (h := h) (m := m) (m' := fun r => if r = so then M' else m r) ⟨m2, m3, m4⟩ cnt (fun k' hk' => ?_) (fun k' hk' => ?_) (fun k' hk' => ?_)
      · by_cases e : so = 0 ∧ k' = k
        · right
          obtain ⟨rfl, rfl⟩ := e
          obtain ⟨c, ok, cc, X⟩ := (show ∃ c, wCok c ∧ cC p (7 + 15 * k') c ∧ yCX x' c from new)
          have n7 := ok.1
          have cl : ∀ a j, 7 + 15 * k' ≤ a → a < 15 + 15 * k' → gI h2 a j = gI p a j := fun a j q1 q2 => (fc a j (by omega)).trans (c1 a j (by omega) (by omega))
          refine ⟨c, ok, ⟨(cl _ _ (by omega) (by omega)).trans cc.1, (cl _ _ (by omega) (by omega)).trans cc.2.1, (cl _ _ (by omega) (by omega)).trans cc.2.2.1, fun i s hi hs => (cl _ _ (by omega) (by omega)).trans (cc.2.2.2 i s hi hs)⟩, ⟨?_, ?_, ?_, fun i s hi hs => ?_⟩⟩
          · rw [s21, if_pos (by omega), show 52 * k' - 52 * k' = 0 by omega]; exact X.1
          · rw [s21, if_pos (by omega), show 52 * k' + 1 - 52 * k' = 1 by omega]; exact X.2.1
          · rw [s21, if_pos (by omega), show 52 * k' + 2 - 52 * k' = 2 by omega]; exact X.2.2.1
          · rw [s21, if_pos (by omega), show 52 * k' + 3 + 7 * i + s - 52 * k' = 3 + 7 * i + s by omega]; exact X.2.2.2 i s hi hs
        · left
          have hk'' : k' < (if 0 = so then M' else m 0) := hk'
          have km : k' < m 0 := by
            by_cases e0 : so = 0
            · subst e0; rw [if_pos rfl] at hk''; exact kold k' hk'' (fun q => e ⟨rfl, q⟩)
            · rw [if_neg (fun q => e0 q.symm)] at hk''; exact hk''
          have k'2 := (m1 0 (by omega)).1
          refine ⟨km, fun a j q1 q2 => (fc a j (by omega)).trans (f1 a j (by omega) (by omega) (by omega) (by omega) ?_ (by omega)), fun j hj => ?_⟩
          · rcases (by omega : so = 0 ∨ so = 1 ∨ so = 2) with rfl | rfl | rfl
            · show ¬ (7 + 15 * k ≤ a ∧ a < 7 + 15 * k + 8); omega
            · show ¬ (15 + 15 * k ≤ a ∧ a < 15 + 15 * k + 4); omega
            · show ¬ (19 + 15 * k ≤ a ∧ a < 19 + 15 * k + 3); omega
          · rw [s21, if_neg (by omega)]; exact fm 221 _ (by omega) (by omega) (by omega)
      · by_cases e : so = 1 ∧ k' = k
        · right
          obtain ⟨rfl, rfl⟩ := e
          obtain ⟨c, ok, cc, X⟩ := (show ∃ d, wDok d ∧ dC p (15 + 15 * k') d ∧ yX1 x' d from new)
          have n7 := ok.1
          have cl : ∀ a j, 15 + 15 * k' ≤ a → a < 19 + 15 * k' → gI h2 a j = gI p a j := fun a j q1 q2 => (fc a j (by omega)).trans (c1 a j (by omega) (by omega))
          refine ⟨c, ok, ⟨(cl _ _ (by omega) (by omega)).trans cc.1, fun r i hr hi => (cl _ _ (by omega) (by omega)).trans (cc.2 r i hr hi)⟩, ⟨?_, fun r i hr hi => ?_⟩⟩
          · rw [s22, if_pos (by omega), show 121 * k' - 121 * k' = 0 by omega]; exact X.1
          · rw [s22, if_pos (by omega), show 121 * k' + 1 + 3 * i + r - 121 * k' = 1 + 3 * i + r by omega]; exact X.2 r i hr hi
        · left
          have hk'' : k' < (if 1 = so then M' else m 1) := hk'
          have km : k' < m 1 := by
            by_cases e0 : so = 1
            · subst e0; rw [if_pos rfl] at hk''; exact kold k' hk'' (fun q => e ⟨rfl, q⟩)
            · rw [if_neg (fun q => e0 q.symm)] at hk''; exact hk''
          have k'2 := (m1 1 (by omega)).1
          refine ⟨km, fun a j q1 q2 => (fc a j (by omega)).trans (f1 a j (by omega) (by omega) (by omega) (by omega) ?_ (by omega)), fun j hj => ?_⟩
          · rcases (by omega : so = 0 ∨ so = 1 ∨ so = 2) with rfl | rfl | rfl
            · show ¬ (7 + 15 * k ≤ a ∧ a < 7 + 15 * k + 8); omega
            · show ¬ (15 + 15 * k ≤ a ∧ a < 15 + 15 * k + 4); omega
            · show ¬ (19 + 15 * k ≤ a ∧ a < 19 + 15 * k + 3); omega
          · rw [s22, if_neg (by omega)]; exact fm 222 _ (by omega) (by omega) (by omega)
      · by_cases e : so = 2 ∧ k' = k
        · right
          obtain ⟨rfl, rfl⟩ := e
          obtain ⟨c, ok, cc, X⟩ := (show ∃ d, wLok d ∧ lC p (19 + 15 * k') d ∧ yX2 x' d from new)
          have n7 := ok.1
          have cl : ∀ a j, 19 + 15 * k' ≤ a → a < 22 + 15 * k' → gI h2 a j = gI p a j := fun a j q1 q2 => (fc a j (by omega)).trans (c1 a j (by omega) (by omega))
          refine ⟨c, ok, ⟨(cl _ _ (by omega) (by omega)).trans cc.1, fun r i hr hi => (cl _ _ (by omega) (by omega)).trans (cc.2 r i hr hi)⟩, ⟨?_, fun r i hr hi => ?_⟩⟩
          · rw [s23, if_pos (by omega), show 17 * k' - 17 * k' = 0 by omega]; exact X.1
          · rw [s23, if_pos (by omega), show 17 * k' + 1 + 2 * i + r - 17 * k' = 1 + 2 * i + r by omega]; exact X.2 r i hr hi
        · left
          have hk'' : k' < (if 2 = so then M' else m 2) := hk'
          have km : k' < m 2 := by
            by_cases e0 : so = 2
            · subst e0; rw [if_pos rfl] at hk''; exact kold k' hk'' (fun q => e ⟨rfl, q⟩)
            · rw [if_neg (fun q => e0 q.symm)] at hk''; exact hk''
          have k'2 := (m1 2 (by omega)).1
          refine ⟨km, fun a j q1 q2 => (fc a j (by omega)).trans (f1 a j (by omega) (by omega) (by omega) (by omega) ?_ (by omega)), fun j hj => ?_⟩
          · rcases (by omega : so = 0 ∨ so = 1 ∨ so = 2) with rfl | rfl | rfl
            · show ¬ (7 + 15 * k ≤ a ∧ a < 7 + 15 * k + 8); omega
            · show ¬ (15 + 15 * k ≤ a ∧ a < 15 + 15 * k + 4); omega
            · show ¬ (19 + 15 * k ≤ a ∧ a < 19 + 15 * k + 3); omega
          · rw [s23, if_neg (by omega)]; exact fm 223 _ (by omega) (by omega) (by omega)
    have v1 := yH5_v (y := h1)
    have o17 : gI h2 217 0 = 0 := (s1 217 0 (by decide) (by decide) (by decide)).trans ((gI_ne (by decide)).trans ((fx' 217 0 (by decide) (by decide) (by decide) (by decide) (by decide)).trans v1.1))
    have o18 : gI h2 218 0 = 0 := (s1 218 0 (by decide) (by decide) (by decide)).trans ((gI_ne (by decide)).trans d1)
    have o19 : gI h2 219 0 = -1 := (s1 219 0 (by decide) (by decide) (by decide)).trans ((gI_ne (by decide)).trans d2)
    have fro : ∀ a j, 217 ≤ a → a ≤ 219 → 1 ≤ j → gI h2 a j = gI h a j := fun a j q1 q2 q3 => by
      rw [s1 a j (by omega) (by omega) (by omega)]
      have e : gI x18 a j = gI x' a j := gI_ne (by omega)
      rw [e]
      have e2 : gI x' a j = gI (yH5 h1) a j := by
        by_cases e7 : a = 217
        · exact fx' a j (by omega) (by omega) (by omega) (by omega) (by omega)
        · exact qM_readText_fr rt a j (by omega) q3
      rw [e2, yH5_o (by omega) (by omega)]
      exact f1 a j (by omega) (by omega) (by omega) (by omega) (by omega) (by omega)
    refine ⟨nI k, h1, h2, rfl, body.trans s0, (f1 220 so (by omega) (by omega) (by omega) (by omega) (by omega) (by omega)).trans (m20 so hso), InvB_tx H ?_ o17 ?_ ?_ tx (fun a j q1 q2 => (fc a j (by omega)).trans (f1 a j (by omega) (by omega) (by omega) (by omega) (by omega) (by omega))) (fun j => ?_) (fun j => ?_) fro (fun j q => ?_) (fun j q => ?_) (fun j q => ?_) (fun j q => ?_), ?_⟩
    · rw [fc 1 1 (by omega), f11, w1]
    · rw [fc 1 2 (by omega), f11, w2, o18]
    · rw [fc 1 3 (by omega), f11, w3, o19]
    · rw [s1 236 j (by decide) (by decide) (by decide)]
      have e : gI x18 236 j = gI x' 236 j := gI_ne (by decide)
      rw [e, fx' 236 j (by decide) (by decide) (by decide) (by decide) (by decide), yH5_o (by decide) (by omega)]
      exact f1 236 j (by omega) (by omega) (by omega) (by omega) (by omega) (by omega)
    · rw [s1 216 j (by decide) (by decide) (by decide)]
      have e : gI x18 216 j = gI x' 216 j := gI_ne (by decide)
      rw [e, fx' 216 j (by decide) (by decide) (by decide) (by decide) (by decide), yH5_o (by decide) (by omega)]
      exact f1 216 j (by omega) (by omega) (by omega) (by omega) (by omega) (by omega)
    · rw [s1 220 j (by decide) (by decide) (by decide)]; exact fm 220 j (by omega) (by omega) (by omega)
    · rw [s21, if_neg (by omega)]; exact fm 221 j (by omega) (by omega) (by omega)
    · rw [s22, if_neg (by omega)]; exact fm 222 j (by omega) (by omega) (by omega)
    · rw [s23, if_neg (by omega)]; exact fm 223 j (by omega) (by omega) (by omega)
    · rcases c2 with ⟨s0', q1, q2, q3⟩ | ⟨s0', q⟩
      · left
        rw [fc 184 8 (by omega), fc 213 0 (by omega), fc 213 1 (by omega)]
        exact ⟨q1, q2, q3⟩
      · right
        intro b j hb
        rw [fc b j (by omega), q b j, p1 b j (by omega) ?_, fg' b j (by omega), yH3_o (by omega)]
        rcases (by omega : so = 1 ∨ so = 2) with rfl | rfl
        · show ¬ (15 + 15 * k ≤ b ∧ b < 15 + 15 * k + 4); omega
        · show ¬ (19 + 15 * k ≤ b ∧ b < 19 + 15 * k + 3); omega
  · rw [if_neg z]
    let h1 : zK := sI (sI g' 1 2 (gI g' 147 3)) 1 3 (gI (sI g' 1 2 (gI g' 147 3)) 147 4)
    have f1 : ∀ a j, a ≠ 1 → ¬ (147 ≤ a ∧ a ≤ 165) → gI h1 a j = gI h a j := fun a j q1 q2 => (gI_ne q1).trans ((gI_ne q1).trans ((fg' a j q2).trans (yH3_o q1)))
    obtain ⟨g'', ok, x', rd', rt, dn⟩ := ref h1 ((f1 217 0 (by omega) (by omega)).trans l3) (fun j => f1 216 j (by omega) (by omega))
    have gg : g'' = g' := Option.some.inj (rd'.symm.trans rd)
    subst gg
    rcases dn with ⟨n, -⟩ | ⟨-, d1, d2, d3⟩
    case inl => exact absurd n z
    subst d3
    have fx := f_qM_readText rt
    have fx' : ∀ a j, a ≠ 215 → a ≠ 218 → a ≠ 219 → a ≠ 224 → a ≠ 225 → gI x' a j = gI (yH5 h1) a j := fun a j q1 q2 q3 q4 q5 => congrFun (fx.2.1 a (by
      intro hh
      simp only [List.mem_cons, List.not_mem_nil, or_false] at hh
      omega)) j
    have body : qM_text_j75 (nI so) x2 (yH5 h1) = some (-1, x') := by
      unfold qM_text_j75
      rw [rt, Option.bind_some]
      dsimp only
      rw [if_neg (show ¬ ¬ (0 : Int32) = 0 from fun z => z rfl)]
    have v1 := yH5_v (y := h1)
    have x1 : ∀ j, gI x' 1 j = gI h1 1 j := fun j => (fx' 1 j (by decide) (by decide) (by decide) (by decide) (by decide)).trans (yH5_o (by decide) (by omega))
    have q := ytext_o (h2 := x') H (by
      rw [x1]
      show gI (sI (sI g'' 1 2 _) 1 3 _) 1 1 = 0
      rw [gI_nk (by decide), gI_nk (by decide), fg' 1 1 (by omega), w1]) (by rw [fx' 217 0 (by decide) (by decide) (by decide) (by decide) (by decide), v1.1]) (by
      rw [x1, d1]
      show gI (sI (sI g'' 1 2 _) 1 3 _) 1 2 = _
      rw [gI_nk (by decide), gI_eq]) (by
      rw [x1, d2]
      show gI (sI (sI g'' 1 2 _) 1 3 _) 1 3 = _
      rw [gI_eq, gI_ne (by decide)]) (fun a j q1 q2 q3 q4 q5 q6 => by
      have e2 : gI x' a j = gI (yH5 h1) a j := by
        by_cases e7 : a = 218 ∨ a = 219
        · exact qM_readText_fr rt a j e7 (by omega)
        · exact fx' a j q3 (by omega) (by omega) q5 q6
      rw [e2, yH5_o q3 q4, f1 a j q1 q2])
    refine ⟨-1, h1, x', rfl, body, ?_, q.1, q.2⟩
    rw [f1 220 so (by omega) (by omega)]
    have := (m1 so hso).2.2
    rw [show 3 * 0 + so = so by omega] at this
    exact this
theorem wo_text (H : InvB h) (a x2 : Int32) : ∃ w h1 h2, qC_text a x2 h = some (w, h1) ∧ qM_text a x2 h1 = some (w, h2) ∧ InvB h2 ∧ yCc h h2 := by
  obtain ⟨m, M⟩ := H.1.2.2
  have uC : ∀ a, qC_text a x2 h = if a < 0 then some (-2, yH3 h) else if a < 3 then Option.bind (if ¬ x2 = (-1) then some x2 else (zix a 3).bind fun j8 => some (gI (yH3 h) 3 j8)) fun (v7 : Int32) => Option.bind (if ¬ x2 = (-1) then (zix a 3).bind fun j11 => some (gI (yH3 h) 3 j11) else some 2) fun (v10 : Int32) => if v7 < 0 then some (-2, yH3 h) else if v7 < v10 then (qRe_read a (gI h 1 1) (yH3 h)).bind fun p14 => if (gI p14 147 3) = 0 then (qT_take a v7 p14).bind fun p16 => if ¬ a = 0 then some (v7, p16) else (qC_forgetCellars p16).bind fun p18 => some (v7, p18) else some (-1, sI (sI p14 1 2 (gI p14 147 3)) 1 3 (gI (sI p14 1 2 (gI p14 147 3)) 147 4)) else some (-2, yH3 h) else some (-2, yH3 h) := fun a => rfl
  have uM : ∀ a y, qM_text a x2 y = if (zf_in a 0 2) = 0 then some (-2, yH5 y) else if ¬ x2 = (-1) then (qM_is a x2 (yH5 y)).bind fun p8 => if ¬ p8 = 0 then qM_text_j75 a x2 (yH5 y) else some (-2, yH5 y) else (zix a 12).bind fun j24 => if ¬ (gI (yH5 y) 220 j24) = 2 then qM_text_j75 a x2 (yH5 y) else some (-2, yH5 y) := fun a y => by
    unfold qM_text
    simp only [zlet]
    rw [gI_ne (show 217 ≠ 215 by decide)]
    rfl
  obtain ⟨n1, n2⟩ := ytext_no H
  have no : qC_text a x2 h = some (-2, yH3 h) → qM_text a x2 (yH3 h) = some (-2, yH5 (yH3 h)) → ∃ w h1 h2, qC_text a x2 h = some (w, h1) ∧ qM_text a x2 h1 = some (w, h2) ∧ InvB h2 ∧ yCc h h2 := fun p q => ⟨-2, _, _, p, q, n1, n2⟩
  rcases zf_in_n (m := 3) (by omega) a with ⟨so, hso, rfl, hz⟩ | ⟨ha, hz⟩
  · have hz' : zf_in (nI so) 0 2 = 1 := hz
    have ms := (M.1 so hso).1
    have h3 : gI (yH3 h) 3 so = nI (m so) := (yH3_o (by decide)).trans (M.1 so hso).2.1
    have m20 : gI h 220 so = nI (m so) := by
      have := (M.1 so hso).2.2
      rw [show 3 * 0 + so = so by omega] at this
      exact this
    have y220 : ∀ y, gI y 220 so = nI (m so) → gI (yH5 y) 220 so = nI (m so) := fun y e => (yH5_o (by decide) (by omega)).trans e
    have y3 : gI (yH3 h) 220 so = nI (m so) := (yH3_o (by decide)).trans m20
    have c1 := uC (nI so)
    rw [if_neg (nI_pos (by omega)), if_pos (show nI so < 3 from nI_lt (b := 3) hso (by decide)), zix_nI hso (by omega), Option.bind_some, h3] at c1
    by_cases e : x2 = -1
    · rw [if_neg (fun q => q e), if_neg (fun q => q e), Option.bind_some, Option.bind_some, if_neg (nI_pos (by omega))] at c1
      have r1 : ∀ y, gI y 220 so = nI (m so) → qM_text (nI so) x2 y = if ¬ nI (m so) = 2 then qM_text_j75 (nI so) x2 (yH5 y) else some (-2, yH5 y) := fun y ey => by
        rw [uM, hz', if_neg (show ¬ (1 : Int32) = 0 by decide), if_neg (fun q => q e), zix_nI (show so < 12 by omega) (by omega), Option.bind_some, y220 y ey]
      by_cases m2 : m so = 2
      · rw [if_neg (show ¬ nI (m so) < 2 by rw [m2]; decide)] at c1
        refine no c1 ?_
        rw [r1 _ y3, m2, if_neg (show ¬ ¬ nI 2 = 2 from fun q => q rfl)]
      · rw [if_pos (show nI (m so) < 2 from nI_lt (b := 2) (by omega) (by decide))] at c1
        obtain ⟨w, h1, h2, q1, q2, q3, q4, q5⟩ := ytext_go H (k := m so) (x2 := x2) hso M (Or.inl ⟨e, rfl, by omega⟩)
        refine ⟨w, h1, h2, c1.trans q1, ?_, q4, q5⟩
        rw [r1 h1 q3, if_pos (show ¬ nI (m so) = 2 from fun q => m2 ((nI_eq (b := 2) (by omega) (by omega)).mp q))]
        exact q2
    · rw [if_pos e, if_pos e, Option.bind_some, Option.bind_some] at c1
      have r1 : ∀ y, gI y 220 so = nI (m so) → qM_text (nI so) x2 y = if ¬ zf_in x2 0 (nI (m so) - 1) = 0 then qM_text_j75 (nI so) x2 (yH5 y) else some (-2, yH5 y) := fun y ey => by
        rw [uM, hz', if_neg (show ¬ (1 : Int32) = 0 by decide), if_pos e, qM_is_ev rfl hso (y220 y ey), Option.bind_some]
      rcases zf_in_n (m := m so) (by omega) x2 with ⟨k, hk, ek, hzz⟩ | ⟨hb, hzz⟩
      · obtain ⟨w, h1, h2, q1, q2, q3, q4, q5⟩ := ytext_go H (k := k) (x2 := x2) hso M (Or.inr ⟨e, ek, hk⟩)
        rw [ek, if_neg (nI_pos (by omega)), if_pos (nI_lt hk (by omega)), ← ek] at c1
        refine ⟨w, h1, h2, ?_, ?_, q4, q5⟩
        · rw [c1, ek]
          exact q1
        · rw [r1 h1 q3, hzz, if_pos (show ¬ (1 : Int32) = 0 by decide)]
          exact q2
      · refine no ?_ ?_
        · rw [c1]
          rcases hb with hb | ⟨j, hj, hj2, rfl⟩
          · rw [if_pos hb]
          · rw [if_neg (nI_pos hj2), if_neg (nI_nlt hj hj2)]
        · rw [r1 _ y3, hzz, if_neg (show ¬ ¬ (0 : Int32) = 0 from fun q => q rfl)]
  · refine no ?_ ?_
    · rw [uC]
      rcases ha with ha | ⟨j, hj, hj2, rfl⟩
      · rw [if_pos ha]
      · rw [if_neg (nI_pos hj2), if_neg (show ¬ nI j < 3 from nI_nlt (b := 3) hj hj2)]
    · rw [uM, show zf_in a 0 2 = 0 from hz, if_pos rfl]
end TEXT2
