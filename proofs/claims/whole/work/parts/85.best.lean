/-! THE BEST OF SOME: the first of the greatest, among those that may be -/
def iI (z : Int) : Int32 := Int32.ofInt z
def iB (z : Int) : Prop := -1000000000 ≤ z ∧ z ≤ 1000000000
section III
variable {a b : Int}
theorem iI_t (h : iB a) : (iI a).toInt = a := fb_ofI (by unfold iB at h; omega) (by unfold iB at h; omega)
theorem iI_le (ha : iB a) (hb : iB b) : iI a ≤ iI b ↔ a ≤ b := by rw [Int32.le_iff_toInt_le, iI_t ha, iI_t hb]
theorem iI_lt (ha : iB a) (hb : iB b) : iI a < iI b ↔ a < b := by rw [Int32.lt_iff_toInt_lt, iI_t ha, iI_t hb]
theorem iI_eq (ha : iB a) (hb : iB b) : iI a = iI b ↔ a = b := by rw [← Int32.toInt_inj, iI_t ha, iI_t hb]
theorem iI_add (ha : iB a) (hb : iB b) (hab : iB (a + b)) : iI a + iI b = iI (a + b) := by
  have h := hab
  unfold iB at h
  apply Int32.toInt_inj.mp
  rw [iI_t hab, fb_addI, iI_t ha, iI_t hb]
  · rw [iI_t ha, iI_t hb]; omega
  · rw [iI_t ha, iI_t hb]; omega
theorem iI_sub (ha : iB a) (hb : iB b) (hab : iB (a - b)) : iI a - iI b = iI (a - b) := by
  have h := hab
  unfold iB at h
  apply Int32.toInt_inj.mp
  rw [iI_t hab, fb_subI, iI_t ha, iI_t hb]
  · rw [iI_t ha, iI_t hb]; omega
  · rw [iI_t ha, iI_t hb]; omega
theorem iI_neg (ha : iB a) : -iI a = iI (-a) := by
  have h := ha
  unfold iB at h
  have hn : iB (-a) := by unfold iB; omega
  apply Int32.toInt_inj.mp
  rw [iI_t hn, fb_negI, iI_t ha]
  rw [iI_t ha]; omega
theorem iB_nat {n : Nat} (h : n ≤ 1000000000) : iB (n : Int) := by unfold iB; omega
theorem iI_nat {n : Nat} (h : n ≤ 1000000000) : nI n = iI (n : Int) := by
  apply Int32.toInt_inj.mp
  rw [iI_t (iB_nat h), nI_toInt (by omega)]
theorem iI_0 : iI 0 = 0 := by decide
theorem iI_m1 : iI (-1) = -1 := by decide
theorem iI_far : iI (-1000000) = -1000000 := by decide
theorem iI_farp : iI 1000000 = 1000000 := by decide
theorem iI_gre (ha : iB a) (hb : iB b) : zf_greater (iI a) (iI b) = iI (if b < a then a else b) := by
  unfold zf_greater
  by_cases h : b < a
  · rw [if_pos ((iI_lt hb ha).mpr h), if_pos h]
  · rw [if_neg (fun z => h ((iI_lt hb ha).mp z)), if_neg h]
end III
def yBoS (f : Nat → Option Int) (i : Nat) (a : Option (Nat × Int)) : Option (Nat × Int) := match f i with
  | none => a
  | some u => match a with
    | none => some (i, u)
    | some p => if p.2 < u then some (i, u) else some p
def yBo (f : Nat → Option Int) (i : Nat) : Option (Nat × Int) := wfold (yBoS f) none i
theorem yBo_s (f : Nat → Option Int) (i : Nat) : yBo f (i + 1) = yBoS f i (yBo f i) := rfl
def yIB (f : Nat → Option Int) (m w : Nat) (v : Int) : Prop := w < m ∧ f w = some v ∧ (∀ s u, s < m → f s = some u → u ≤ v) ∧ ∀ s u, s < w → f s = some u → u < v
theorem yIB_one {f : Nat → Option Int} {m w w' : Nat} {v v' : Int} (h : yIB f m w v) (k : yIB f m w' v') : w = w' ∧ v = v' := by
  obtain ⟨h1, h2, h3, h4⟩ := h
  obtain ⟨k1, k2, k3, k4⟩ := k
  have a := h3 w' v' k1 k2
  have b := k3 w v h1 h2
  have e : v = v' := by omega
  subst e
  refine ⟨?_, rfl⟩
  apply Nat.le_antisymm
  · apply Nat.le_of_not_lt
    intro z
    have := h4 w' v z k2
    omega
  · apply Nat.le_of_not_lt
    intro z
    have := k4 w v z h2
    omega
theorem yBo_cases (f : Nat → Option Int) : ∀ m, (yBo f m = none ∧ ∀ s, s < m → f s = none) ∨ ∃ w v, yBo f m = some (w, v) ∧ yIB f m w v
  | 0 => Or.inl ⟨rfl, fun s hs => absurd hs (Nat.not_lt_zero _)⟩
  | m + 1 => by
    rw [yBo_s]
    unfold yBoS
    cases e : f m with
    | none =>
      rcases yBo_cases f m with ⟨h1, h2⟩ | ⟨w, v, h1, h2, h3, h4, h5⟩
      · exact Or.inl ⟨h1, fun s hs => if es : s = m then es ▸ e else h2 s (by omega)⟩
      · refine Or.inr ⟨w, v, h1, by omega, h3, fun s u hs hu => ?_, h5⟩
        by_cases es : s = m
        · rw [es, e] at hu; cases hu
        · exact h4 s u (by omega) hu
    | some u =>
      rcases yBo_cases f m with ⟨h1, h2⟩ | ⟨w, v, h1, h2, h3, h4, h5⟩
      · rw [h1]
        refine Or.inr ⟨m, u, rfl, by omega, e, fun s u' hs hu => ?_, fun s u' hs hu => ?_⟩
        · by_cases es : s = m
          · rw [es, e] at hu; cases hu; omega
          · rw [h2 s (by omega)] at hu; cases hu
        · rw [h2 s hs] at hu; cases hu
      · rw [h1]
        dsimp only
        by_cases hl : v < u
        · rw [if_pos hl]
          refine Or.inr ⟨m, u, rfl, by omega, e, fun s u' hs hu => ?_, fun s u' hs hu => ?_⟩
          · by_cases es : s = m
            · rw [es, e] at hu; cases hu; omega
            · have := h4 s u' (by omega) hu; omega
          · have := h4 s u' hs hu; omega
        · rw [if_neg hl]
          refine Or.inr ⟨w, v, rfl, by omega, h3, fun s u' hs hu => ?_, h5⟩
          by_cases es : s = m
          · rw [es, e] at hu; cases hu; omega
          · exact h4 s u' (by omega) hu
theorem yBo_IB {f : Nat → Option Int} {m w : Nat} {v : Int} (h : yBo f m = some (w, v)) : yIB f m w v := by
  rcases yBo_cases f m with ⟨h1, -⟩ | ⟨w', v', h1, h2⟩
  · rw [h1] at h; cases h
  · rw [h1] at h; cases h; exact h2
theorem yIB_bo {f : Nat → Option Int} {m w : Nat} {v : Int} (h : yIB f m w v) : yBo f m = some (w, v) := by
  rcases yBo_cases f m with ⟨-, h1⟩ | ⟨w', v', h1, h2⟩
  · have := h.2.1
    rw [h1 w h.1] at this
    cases this
  · obtain ⟨rfl, rfl⟩ := yIB_one h h2
    exact h1
theorem yBo_no {f : Nat → Option Int} {m : Nat} (h : ∀ s, s < m → f s = none) : yBo f m = none := by
  rcases yBo_cases f m with ⟨h1, -⟩ | ⟨w, v, -, h2⟩
  · exact h1
  · have := h2.2.1
    rw [h w h2.1] at this
    cases this
theorem yBo_cong {f g : Nat → Option Int} : ∀ m, (∀ s, s < m → f s = g s) → yBo f m = yBo g m
  | 0, _ => rfl
  | m + 1, h => by
    rw [yBo_s, yBo_s, yBo_cong m (fun s hs => h s (by omega))]
    unfold yBoS
    rw [h m (by omega)]
/-- the value, d where nothing may be -/
def yVa (d : Int) : Option (Nat × Int) → Int
  | none => d
  | some p => p.2
def yWh (d : Nat) : Option (Nat × Int) → Nat
  | none => d
  | some p => p.1
theorem yBo_bd {f : Nat → Option Int} {m : Nat} {d lo hi : Int} (h : ∀ s u, s < m → f s = some u → lo ≤ u ∧ u ≤ hi) (hd : lo ≤ d ∧ d ≤ hi) : lo ≤ yVa d (yBo f m) ∧ yVa d (yBo f m) ≤ hi := by
  rcases yBo_cases f m with ⟨h1, -⟩ | ⟨w, v, h1, h2⟩
  · rw [h1]; exact hd
  · rw [h1]; exact h w v h2.1 h2.2.1
/-- going down from d: those of s and above have been looked at -/
def yDn (f : Nat → Option Int) (s m w : Nat) (v : Int) : Prop := s ≤ w ∧ w < m ∧ f w = some v ∧ (∀ x u, s ≤ x → x < m → f x = some u → u ≤ v) ∧ ∀ x u, s ≤ x → x < w → f x = some u → u < v
theorem yDn_0 {f : Nat → Option Int} {m w : Nat} {v : Int} (h : yDn f 0 m w v) : yBo f m = some (w, v) :=
  yIB_bo ⟨h.2.1, h.2.2.1, fun s u hs hu => h.2.2.2.1 s u (Nat.zero_le _) hs hu, fun s u hs hu => h.2.2.2.2 s u (Nat.zero_le _) hs hu⟩
theorem yDn_n {f : Nat → Option Int} {s m w : Nat} {v : Int} (h : yDn f (s + 1) m w v) (e : ∀ u, f s = some u → u < v) : yDn f s m w v := by
  obtain ⟨h1, h2, h3, h4, h5⟩ := h
  refine ⟨by omega, h2, h3, fun x u hx hm hu => ?_, fun x u hx hw hu => ?_⟩
  · by_cases ex : x = s
    · subst ex; have := e u hu; omega
    · exact h4 x u (by omega) hm hu
  · by_cases ex : x = s
    · subst ex; exact e u hu
    · exact h5 x u (by omega) hw hu
theorem yDn_y {f : Nat → Option Int} {s m w : Nat} {v u : Int} (h : yDn f (s + 1) m w v) (e : f s = some u) (hu : v ≤ u) : yDn f s m s u := by
  obtain ⟨h1, h2, h3, h4, h5⟩ := h
  refine ⟨Nat.le_refl _, by omega, e, fun x u' hx hm hu' => ?_, fun x u' hx hw _ => by omega⟩
  by_cases ex : x = s
  · rw [ex, e] at hu'; cases hu'; omega
  · have := h4 x u' (by omega) hm hu'; omega
/-! rows of the heap -/
theorem gI_rI (h : zK) (a : Nat) (T : Nat → Int32) (j : Nat) : gI (rI h a T) a j = T j := by
  unfold gI rI
  dsimp only
  rw [zrow_eq]
theorem gI_rn {h : zK} {a b : Nat} {T : Nat → Int32} {j : Nat} (hb : b ≠ a) : gI (rI h a T) b j = gI h b j := by
  unfold gI rI
  dsimp only
  rw [zrow_ne _ _ hb]
theorem upd_e (T : Nat → Int32) (i : Nat) (v : Int32) : upd T i v i = v := by unfold upd; rw [if_pos rfl]
theorem upd_n {T : Nat → Int32} {i j : Nat} {v : Int32} (h : j ≠ i) : upd T i v j = T j := by unfold upd; rw [if_neg h]
theorem cC_g {h h' : zK} {o : Nat} {c : wC} (ho : o = 7 ∨ o = 22) (e : ∀ a j, a < 100 → gI h' a j = gI h a j) (H : cC h o c) : cC h' o c := by
  obtain ⟨a, b, d, f⟩ := H
  exact ⟨(e _ _ (by omega)).trans a, (e _ _ (by omega)).trans b, (e _ _ (by omega)).trans d, fun i s hi hs => (e _ _ (by omega)).trans (f i s hi hs)⟩
theorem cC_rI {h : zK} {o a : Nat} {c : wC} {T : Nat → Int32} (ho : o = 7 ∨ o = 22) (ha : 100 ≤ a) (H : cC h o c) : cC (rI h a T) o c := cC_g ho (fun b j hb => gI_rn (by omega)) H
