/-! WHAT HOLDS BETWEEN THE CALLS: the class's told texts and the reference's rows tell the same cellars, deeds, logs -/
theorem gI_sI (h : zK) (a k : Nat) (v : Int32) (b j : Nat) : gI (sI h a k v) b j = if b = a ∧ j = k then v else gI h b j := rfl
theorem gI_ne {h : zK} {a k : Nat} {v : Int32} {b j : Nat} (hb : b ≠ a) : gI (sI h a k v) b j = gI h b j := by
  rw [gI_sI, if_neg (fun e => hb e.1)]
theorem gI_nk {h : zK} {a k : Nat} {v : Int32} {b j : Nat} (hj : j ≠ k) : gI (sI h a k v) b j = gI h b j := by
  rw [gI_sI, if_neg (fun e => hj e.2)]
theorem gI_eq {h : zK} {a k : Nat} {v : Int32} : gI (sI h a k v) a k = v := by
  rw [gI_sI, if_pos ⟨rfl, rfl⟩]
abbrev wC : Type := Nat × Nat × Nat × (Nat → Nat → Nat)
/-- a cellar: sayings, shock, reach; by number and saying: wit, fade, fizz, rise, cork, place, answers -/
def wCok (c : wC) : Prop := c.1 ≤ 7 ∧ c.2.1 ≤ 9 ∧ c.2.2.1 ≤ 9 ∧ ∀ s, s < c.1 → c.2.2.2 0 s ≤ 30 ∧ c.2.2.2 1 s ≤ 5 ∧ c.2.2.2 2 s ≤ 30 ∧ c.2.2.2 3 s ≤ 5 ∧ 1 ≤ c.2.2.2 4 s ∧ c.2.2.2 4 s ≤ 40 ∧ c.2.2.2 5 s ≤ 20 ∧ c.2.2.2 6 s < 2 ^ c.1 ∧ (c.2.2.2 6 s).testBit s = false
def cC (h : zK) (o : Nat) (c : wC) : Prop := gI h o 0 = nI c.2.1 ∧ gI h o 1 = nI c.2.2.1 ∧ gI h o 2 = nI c.1 ∧ ∀ i s, i < 7 → s < c.1 → gI h (o + 1 + i) s = nI (c.2.2.2 i s)
def cM (h : zK) (m : Nat) (c : wC) : Prop := gI h 221 m = nI c.2.1 ∧ gI h 221 (m + 1) = nI c.2.2.1 ∧ gI h 221 (m + 2) = nI c.1 ∧ ∀ i s, i < 7 → s < c.1 → gI h 221 (m + 3 + 7 * i + s) = nI (c.2.2.2 i s)
abbrev wD : Type := Nat × (Nat → Nat → Int32)
def wDok (d : wD) : Prop := d.1 ≤ 40 ∧ ∀ i, i < d.1 → ∃ k, k ≤ 4 ∧ d.2 0 i = nI k ∧ (k ≠ 0 → ∃ s, s ≤ 6 ∧ d.2 1 i = nI s) ∧ (k = 4 → ∃ p, p ≤ 20 ∧ d.2 2 i = nI p)
def dC (h : zK) (o : Nat) (d : wD) : Prop := gI h o 0 = nI d.1 ∧ ∀ r i, r < 3 → i < d.1 → gI h (o + 1 + r) i = d.2 r i
def dM (h : zK) (m : Nat) (d : wD) : Prop := gI h 222 m = nI d.1 ∧ ∀ r i, r < 3 → i < d.1 → gI h 222 (m + 1 + 3 * i + r) = d.2 r i
abbrev wLg : Type := Nat × (Nat → Nat → Nat)
def wLok (l : wLg) : Prop := l.1 ≤ 8 ∧ ∀ i, i < l.1 → 1 ≤ l.2 0 i ∧ l.2 0 i ≤ 20 ∧ l.2 1 i ≤ 7
def lC (h : zK) (o : Nat) (l : wLg) : Prop := gI h o 0 = nI l.1 ∧ ∀ r i, r < 2 → i < l.1 → gI h (o + 1 + r) i = nI (l.2 r i)
def lM (h : zK) (m : Nat) (l : wLg) : Prop := gI h 223 m = nI l.1 ∧ ∀ r i, r < 2 → i < l.1 → gI h 223 (m + 1 + 2 * i + r) = nI (l.2 r i)
def wTp (h : zK) (T s : Nat) : Prop := ∃ len, len ≤ 600 ∧ gI h T 1 = nI len ∧ gI h 217 s = nI len ∧ ∀ j, j < len → gI h (T + 1) j = gI h 216 (600 * s + j) ∧ (gI h (T + 1) j).toInt8.toInt32 = gI h (T + 1) j
def wTx (h : zK) (T s : Nat) : Prop := ∃ m : Nat → Nat, (∀ r, r < 3 → m r ≤ 2 ∧ gI h (T + 2) r = nI (m r) ∧ gI h 220 (3 * s + r) = nI (m r)) ∧ (∀ k, k < m 0 → ∃ c, wCok c ∧ cC h (T + 6 + 15 * k) c ∧ cM h (52 * (2 * s + k)) c) ∧ (∀ k, k < m 1 → ∃ d, wDok d ∧ dC h (T + 14 + 15 * k) d ∧ dM h (121 * (2 * s + k)) d) ∧ (∀ k, k < m 2 → ∃ l, wLok l ∧ lC h (T + 18 + 15 * k) l ∧ lM h (17 * (2 * s + k)) l)
def TR (h : zK) (T s : Nat) : Prop := wTp h T s ∧ (gI h T 2 = gI h 218 s ∧ gI h T 3 = gI h 219 s) ∧ wTx h T s
def wIm (h : zK) : Prop := ∀ j, j < 3 → gI h 146 j = gI h 236 j ∧ (gI h 146 j = 0 ∨ gI h 146 j = 1) ∧ (gI h 146 j = 1 → TR h (38 + 36 * j) (j + 1))
def InvB (h : zK) : Prop := TR h 1 0 ∧ wIm h
/-- the cells that it speaks of -/
def wKp (a : Nat) : Prop := (1 ≤ a ∧ a ≤ 146) ∨ (216 ≤ a ∧ a ≤ 223) ∨ a = 236
def wEq (h h' : zK) : Prop := ∀ a, wKp a → h'.2.1 a = h.2.1 a
theorem wEq_g {h h' : zK} (e : wEq h h') {a : Nat} (ha : wKp a) (j : Nat) : gI h' a j = gI h a j := congrFun (e a ha) j
theorem wEq_r {h : zK} : wEq h h := fun _ _ => rfl
theorem wEq_t {h h1 h2 : zK} (a : wEq h h1) (b : wEq h1 h2) : wEq h h2 := fun x hx => (b x hx).trans (a x hx)
theorem wEq_f {W : List Nat} {h h' : zK} (F : zFr W h h') (hW : ∀ a ∈ W, ¬ wKp a) : wEq h h' := fun a ha => F.2.1 a fun hh => hW a hh ha
theorem cC_eq {h h' : zK} (e : wEq h h') {o : Nat} {c : wC} (h1 : 1 ≤ o) (h2 : o + 7 ≤ 146) (H : cC h o c) : cC h' o c := by
  have g : ∀ i, i ≤ 7 → ∀ j, gI h' (o + i) j = gI h (o + i) j := fun i hi j => wEq_g e (Or.inl ⟨by omega, by omega⟩) j
  obtain ⟨a, b, d, f⟩ := H
  refine ⟨(g 0 (by omega) _).trans a, (g 0 (by omega) _).trans b, (g 0 (by omega) _).trans d, fun i s hi hs => ?_⟩
  rw [show o + 1 + i = o + (1 + i) by omega, g (1 + i) (by omega), ← show o + 1 + i = o + (1 + i) by omega]
  exact f i s hi hs
theorem cM_eq {h h' : zK} (e : wEq h h') {m : Nat} {c : wC} (H : cM h m c) : cM h' m c := by
  have g : ∀ j, gI h' 221 j = gI h 221 j := fun j => wEq_g e (by unfold wKp; omega) j
  obtain ⟨a, b, d, f⟩ := H
  exact ⟨(g _).trans a, (g _).trans b, (g _).trans d, fun i s hi hs => (g _).trans (f i s hi hs)⟩
theorem dC_eq {h h' : zK} (e : wEq h h') {o : Nat} {d : wD} (h1 : 1 ≤ o) (h2 : o + 3 ≤ 146) (H : dC h o d) : dC h' o d :=
  ⟨(wEq_g e (Or.inl ⟨by omega, by omega⟩) _).trans H.1, fun r i hr hi => (wEq_g e (Or.inl ⟨by omega, by omega⟩) _).trans (H.2 r i hr hi)⟩
theorem dM_eq {h h' : zK} (e : wEq h h') {m : Nat} {d : wD} (H : dM h m d) : dM h' m d :=
  ⟨(wEq_g e (by unfold wKp; omega) _).trans H.1, fun r i hr hi => (wEq_g e (by unfold wKp; omega) _).trans (H.2 r i hr hi)⟩
theorem lC_eq {h h' : zK} (e : wEq h h') {o : Nat} {l : wLg} (h1 : 1 ≤ o) (h2 : o + 2 ≤ 146) (H : lC h o l) : lC h' o l :=
  ⟨(wEq_g e (Or.inl ⟨by omega, by omega⟩) _).trans H.1, fun r i hr hi => (wEq_g e (Or.inl ⟨by omega, by omega⟩) _).trans (H.2 r i hr hi)⟩
theorem lM_eq {h h' : zK} (e : wEq h h') {m : Nat} {l : wLg} (H : lM h m l) : lM h' m l :=
  ⟨(wEq_g e (by unfold wKp; omega) _).trans H.1, fun r i hr hi => (wEq_g e (by unfold wKp; omega) _).trans (H.2 r i hr hi)⟩
theorem TR_eq {h h' : zK} (e : wEq h h') {T s : Nat} (h1 : 1 ≤ T) (h2 : T + 36 ≤ 146) (H : TR h T s) : TR h' T s := by
  have g : ∀ i, i ≤ 36 → ∀ j, gI h' (T + i) j = gI h (T + i) j := fun i hi j => wEq_g e (Or.inl ⟨by omega, by omega⟩) j
  have g0 := g 0 (by omega)
  have gm : ∀ a, 216 ≤ a → a ≤ 223 → ∀ j, gI h' a j = gI h a j := fun a ha hb j => wEq_g e (Or.inr (Or.inl ⟨ha, hb⟩)) j
  obtain ⟨⟨len, l1, l2, l3, l4⟩, ⟨f1, f2⟩, m, m1, m2, m3, m4⟩ := H
  refine ⟨⟨len, l1, (g0 _).trans l2, (gm 217 (by omega) (by omega) _).trans l3, fun j hj => ?_⟩, ⟨?_, ?_⟩, m, fun r hr => ⟨(m1 r hr).1, (g 2 (by omega) _).trans (m1 r hr).2.1, (gm 220 (by omega) (by omega) _).trans (m1 r hr).2.2⟩, fun k hk => ?_, fun k hk => ?_, fun k hk => ?_⟩
  · rw [g 1 (by omega), gm 216 (by omega) (by omega)]
    exact l4 j hj
  · exact (g0 _).trans (f1.trans (gm 218 (by omega) (by omega) _).symm)
  · exact (g0 _).trans (f2.trans (gm 219 (by omega) (by omega) _).symm)
  · obtain ⟨c, c1, c2, c3⟩ := m2 k hk
    have := (m1 0 (by omega)).1
    exact ⟨c, c1, cC_eq e (by omega) (by omega) c2, cM_eq e c3⟩
  · obtain ⟨c, c1, c2, c3⟩ := m3 k hk
    have := (m1 1 (by omega)).1
    exact ⟨c, c1, dC_eq e (by omega) (by omega) c2, dM_eq e c3⟩
  · obtain ⟨c, c1, c2, c3⟩ := m4 k hk
    have := (m1 2 (by omega)).1
    exact ⟨c, c1, lC_eq e (by omega) (by omega) c2, lM_eq e c3⟩
theorem InvB_eq {h h' : zK} (e : wEq h h') (H : InvB h) : InvB h' := by
  refine ⟨TR_eq e (by omega) (by omega) H.1, fun j hj => ?_⟩
  have g : ∀ j, gI h' 146 j = gI h 146 j := fun j => wEq_g e (by unfold wKp; omega) j
  obtain ⟨a, b, d⟩ := H.2 j hj
  rw [g]
  exact ⟨a.trans (wEq_g e (by unfold wKp; omega) _).symm, b, fun hh => TR_eq e (by omega) (by omega) (d hh)⟩
theorem wEq_s {h : zK} {a k : Nat} {v : Int32} (ha : ¬ wKp a) : wEq h (sI h a k v) := fun b hb => zu_ne _ _ _ (fun e => ha (e ▸ hb))
