/-! LAWS: a cellar as the heap has it; how many burst by a law -/
def yCan (h : zK) (o : Nat) : wC := ((gI h o 2).toNatClampNeg, (gI h o 0).toNatClampNeg, (gI h o 1).toNatClampNeg, fun i s => if i < 7 then (gI h (o + 1 + i) s).toNatClampNeg else 0)
def yAg (c c' : wC) : Prop := c'.1 = c.1 ∧ c'.2.1 = c.2.1 ∧ c'.2.2.1 = c.2.2.1 ∧ ∀ i s, i < 7 → s < c.1 → c'.2.2.2 i s = c.2.2.2 i s
theorem yCan_ag {h : zK} {o : Nat} {c : wC} (hc : cC h o c) (ok : wCok c) : yAg c (yCan h o) := by
  obtain ⟨n7, s9, r9, rr⟩ := ok
  refine ⟨?_, ?_, ?_, fun i s hi hs => ?_⟩
  · show (gI h o 2).toNatClampNeg = _
    rw [hc.2.2.1, nI_clamp (by omega)]
  · show (gI h o 0).toNatClampNeg = _
    rw [hc.1, nI_clamp (by omega)]
  · show (gI h o 1).toNatClampNeg = _
    rw [hc.2.1, nI_clamp (by omega)]
  · show (if i < 7 then (gI h (o + 1 + i) s).toNatClampNeg else 0) = _
    rw [if_pos hi, hc.2.2.2 i s hi hs, nI_clamp]
    obtain ⟨a0, a1, a2, a3, a4, a5, a6, a7, -⟩ := rr s hs
    have p7 := w2n n7
    rcases (by omega : i = 0 ∨ i = 1 ∨ i = 2 ∨ i = 3 ∨ i = 4 ∨ i = 5 ∨ i = 6) with rfl | rfl | rfl | rfl | rfl | rfl | rfl <;> omega
theorem wCok_ag {c c' : wC} (e : yAg c c') (ok : wCok c) : wCok c' := by
  obtain ⟨e1, e2, e3, e4⟩ := e
  obtain ⟨a, b, d, f⟩ := ok
  refine ⟨by omega, by omega, by omega, fun s hs => ?_⟩
  rw [e1] at hs ⊢
  rw [e4 0 s (by omega) hs, e4 1 s (by omega) hs, e4 2 s (by omega) hs, e4 3 s (by omega) hs, e4 4 s (by omega) hs, e4 5 s (by omega) hs, e4 6 s (by omega) hs]
  exact f s hs
theorem cC_ag {h : zK} {o : Nat} {c c' : wC} (e : yAg c c') (H : cC h o c) : cC h o c' := by
  obtain ⟨e1, e2, e3, e4⟩ := e
  obtain ⟨a, b, d, f⟩ := H
  refine ⟨by rw [e2]; exact a, by rw [e3]; exact b, by rw [e1]; exact d, fun i s hi hs => ?_⟩
  rw [e1] at hs
  rw [e4 i s hi hs]
  exact f i s hi hs
theorem cM_ag {h : zK} {m : Nat} {c c' : wC} (e : yAg c c') (H : cM h m c) : cM h m c' := by
  obtain ⟨e1, e2, e3, e4⟩ := e
  obtain ⟨a, b, d, f⟩ := H
  refine ⟨by rw [e2]; exact a, by rw [e3]; exact b, by rw [e1]; exact d, fun i s hi hs => ?_⟩
  rw [e1] at hs
  rw [e4 i s hi hs]
  exact f i s hi hs
theorem mB_ag {h : zK} {k : Nat} {c c' : wC} (e : yAg c c') (H : mB h k c) : mB h k c' := ⟨H.1, H.2.1, by rw [e.1]; exact H.2.2.1, cM_ag e H.2.2.2⟩
theorem mB2_ag {h : zK} {c c' : wC} (e : yAg c c') (H : mB2 h c) : mB2 h c' := ⟨by rw [e.2.1]; exact H.1, by rw [e.2.2.1]; exact H.2⟩
theorem mB3_ag {h : zK} {c c' : wC} (e : yAg c c') (H : mB3 h c) : mB3 h c' := by
  obtain ⟨e1, e2, e3, e4⟩ := e
  refine ⟨H.1, fun s hs => ?_⟩
  rw [e1] at hs
  rw [e4 0 s (by omega) hs, e4 2 s (by omega) hs, e4 4 s (by omega) hs, e4 5 s (by omega) hs]
  exact H.2 s hs
theorem yCan_eq {h h' : zK} {o : Nat} (e : ∀ a j, a < 100 → gI h' a j = gI h a j) (ho : o < 50) : yCan h' o = yCan h o := by
  unfold yCan
  refine Prod.ext ?_ (Prod.ext ?_ (Prod.ext ?_ ?_))
  · show (gI h' o 2).toNatClampNeg = _
    rw [e o 2 (by omega)]
  · show (gI h' o 0).toNatClampNeg = _
    rw [e o 0 (by omega)]
  · show (gI h' o 1).toNatClampNeg = _
    rw [e o 1 (by omega)]
  · funext i s
    dsimp only
    by_cases hi : i < 7
    · rw [if_pos hi, if_pos hi, e _ _ (by omega)]
    · rw [if_neg hi, if_neg hi]
/-- as wcell, with the cellar as the heap has it -/
theorem wcell2 {h : zK} (H : InvB h) (a : Int32) : (qT_cellarAt a h = some none ∧ ∀ h', wEq h h' → qM_hand a h' = some (0, h')) ∨ ∃ k c, c = yCan h (7 + 15 * k) ∧ k < 2 ∧ a = nI k ∧ wCok c ∧ cC h (7 + 15 * k) c ∧ cM h (52 * k) c ∧ qT_cellarAt a h = some (some (7 + 15 * k)) ∧ (7 + 15 * k = 7 ∨ 7 + 15 * k = 22) ∧ ∀ h', wEq h h' → ∃ h2, qM_hand a h' = some (1, h2) ∧ mB h2 k c ∧ mB2 h2 c ∧ mB3 h2 c ∧ ∀ j, 33 ≤ j → gI h2 215 j = gI h' 215 j := by
  rcases wcell H a with z | ⟨k, c, hk, rfl, c1, c2, c3, e1, e2, e4⟩
  · exact Or.inl z
  · have ag := yCan_ag c2 c1
    refine Or.inr ⟨k, _, rfl, hk, rfl, wCok_ag ag c1, cC_ag ag c2, cM_ag ag c3, e1, e2, fun h' e => ?_⟩
    obtain ⟨h2, q1, q2, q3, q4, q5⟩ := e4 h' e
    exact ⟨h2, q1, mB_ag ag q2, mB2_ag ag q3, mB3_ag ag q4, q5⟩
section LAWS
variable {c : wC} {L : Nat}
def yLy (c : wC) (L y : Nat) : wS := wYr (nI (L / 10)) (nI (L % 10)) c y
theorem yLy_nb (ok : wCok c) : ∀ y, wNb c.1 0 (yLy c L y)
  | 0 => wNb_0 ok.1
  | y + 1 => wNb_year ok.1 (yLy_nb ok y)
def yN (c : wC) (L y : Nat) : Nat := ((yLy c L y).1 2).toNatClampNeg
theorem yN_ok (ok : wCok c) (y : Nat) : (yLy c L y).1 2 = nI (yN c L y) ∧ yN c L y ≤ 7 ∧ wNb c.1 (yN c L y) (yLy c L y) := by
  have n7 := ok.1
  obtain ⟨b, g, g1, g2, g3, g4, g5⟩ := yLy_nb (L := L) ok y
  have e : yN c L y = b := by
    unfold yN
    rw [g3, nI_clamp (by omega)]
  rw [e]
  exact ⟨g3, by omega, b, g, g1, g2, g3, Nat.le_refl _, g5⟩
theorem yN_mono (ok : wCok c) (y : Nat) : yN c L y ≤ yN c L (y + 1) := by
  have n7 := ok.1
  obtain ⟨-, -, w⟩ := yN_ok (L := L) ok y
  obtain ⟨b, g, g1, g2, g3, g4, g5⟩ := wNb_year (re := nI (L / 10)) (sh := nI (L % 10)) ok.1 w
  have e : yN c L (y + 1) = b := by
    unfold yN
    rw [show (yLy c L (y + 1)).1 2 = nI b from g3, nI_clamp (by omega)]
  omega
def yB (c : wC) (L : Nat) : Nat → Nat
  | 0 => 0
  | y + 1 => yN c L (y + 1) - yN c L y
theorem yB_7 (ok : wCok c) : ∀ y, yB c L y ≤ 7
  | 0 => Nat.zero_le _
  | y + 1 => by
    have := (yN_ok (L := L) ok (y + 1)).2.1
    show yN c L (y + 1) - yN c L y ≤ 7
    omega
theorem yB_4 (ok : wCok c) {i y : Nat} (h1 : 1 ≤ y) (h2 : y ≤ i) (hi : i ≤ 50) : (yLy c L i).2 4 y = nI (yB c L y) := by
  obtain ⟨t, rfl⟩ : ∃ t, y = t + 1 := ⟨y - 1, by omega⟩
  have := wYr_4 (re := nI (L / 10)) (sh := nI (L % 10)) ok i h2 hi
  show (wYr (nI (L / 10)) (nI (L % 10)) c i).2 4 (t + 1) = _
  rw [this]
  show (yLy c L (t + 1)).1 2 - (yLy c L t).1 2 = _
  rw [(yN_ok ok (t + 1)).1, (yN_ok ok t).1, nI_sub (yN_mono ok t)]
  rfl
end LAWS
/-! digits of three bits -/
def yH (b : Nat → Nat) : Nat → Nat
  | 0 => 0
  | y + 1 => yH b y + b (y + 1) * 2 ^ (3 * (y + 1))
theorem yp3 (y : Nat) : 2 ^ (3 * (y + 1)) = 2 ^ (3 * y) * 8 := by
  rw [show 3 * (y + 1) = 3 * y + 3 by omega, Nat.pow_add]
theorem yH_lt {b : Nat → Nat} (hb : ∀ y, b y ≤ 7) : ∀ y, yH b y < 2 ^ (3 * (y + 1))
  | 0 => (by decide : 0 < 2 ^ (3 * (0 + 1)))
  | y + 1 => by
    have ih := yH_lt hb y
    have b7 := hb (y + 1)
    have e := yp3 (y + 1)
    have m := Nat.mul_le_mul_right (2 ^ (3 * (y + 1))) b7
    show yH b y + b (y + 1) * 2 ^ (3 * (y + 1)) < _
    omega
theorem yH_d {b : Nat → Nat} (hb : ∀ y, b y ≤ 7) {t : Nat} (ht : 1 ≤ t) : ∀ y, t ≤ y → yH b y / 2 ^ (3 * t) % 8 = b t
  | 0, h => by omega
  | y + 1, h => by
    have lt := yH_lt hb y
    have b7 := hb (y + 1)
    show (yH b y + b (y + 1) * 2 ^ (3 * (y + 1))) / 2 ^ (3 * t) % 8 = b t
    by_cases e : t = y + 1
    · subst e
      rw [Nat.add_mul_div_right _ _ (Nat.two_pow_pos _), Nat.div_eq_of_lt lt, Nat.zero_add, Nat.mod_eq_of_lt (by omega)]
    · have ih := yH_d hb ht y (by omega)
      have p : 2 ^ (3 * (y + 1)) = 8 * 2 ^ (3 * (y - t)) * 2 ^ (3 * t) := by
        rw [Nat.mul_comm 8, ← yp3, ← Nat.pow_add]
        congr 1
        omega
      rw [p, ← Nat.mul_assoc, Nat.add_mul_div_right _ _ (Nat.two_pow_pos _), show b (y + 1) * (8 * 2 ^ (3 * (y - t))) = 8 * (b (y + 1) * 2 ^ (3 * (y - t))) by rw [← Nat.mul_assoc, Nat.mul_comm (b (y + 1)) 8, Nat.mul_assoc], Nat.add_mul_mod_self_left, ih]
theorem yH_63 {b : Nat → Nat} (hb : ∀ y, b y ≤ 7) {y : Nat} (hy : y ≤ 20) : yH b y < 2 ^ 63 := Nat.lt_of_lt_of_le (yH_lt hb y) (Nat.pow_le_pow_right (by omega) (by omega))
theorem lN_int (m : Nat) : (lN m).toInt32 = nI m := Int64.toInt32_ofNat'
theorem yH_or {b : Nat → Nat} (hb : ∀ y, b y ≤ 7) {y : Nat} (hy : y < 20) : lN (yH b y) ||| ((nI (b (y + 1))).toInt64 <<< ((nI (3 * (y + 1))).toInt64 &&& 63)) = lN (yH b (y + 1)) := by
  have b7 := hb (y + 1)
  have l63 := yH_63 hb (show y + 1 ≤ 20 by omega)
  rw [nI_l (by omega), wb_shl _ (by omega)]
  have h1 : yH b (y + 1) = yH b y + b (y + 1) * 2 ^ (3 * (y + 1)) := rfl
  rw [h1] at l63 ⊢
  exact g_or' rfl (yH_lt hb y) (by omega)
theorem yH_get {b : Nat → Nat} (hb : ∀ y, b y ≤ 7) {t : Nat} (h1 : 1 ≤ t) (h2 : t ≤ 20) : (Int64.toInt32 (((lN (yH b 20)).toUInt64 >>> ((nI (3 * t)).toInt64.toUInt64 &&& Int64.toUInt64 63)).toInt64)) &&& 7 = nI (b t) := by
  have l63 := yH_63 hb (Nat.le_refl 20)
  rw [wb_shr (by omega) (by omega), lN_int, show (7 : Int32) = nI (2 ^ 3 - 1) from rfl, fa_mask, show 2 ^ 3 = 8 from rfl, yH_d hb h1 20 h2]
