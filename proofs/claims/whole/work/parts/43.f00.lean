/-! WHAT A METHOD LEAVES AS IT WAS: all but the cells of W -/
def zFr (W : List Nat) (h h' : zK) : Prop := (∀ a, a ∉ W → h'.1 a = h.1 a) ∧ (∀ a, a ∉ W → h'.2.1 a = h.2.1 a) ∧ (∀ a, a ∉ W → h'.2.2 a = h.2.2 a)
theorem zFr_r {W : List Nat} {h : zK} : zFr W h h := ⟨fun _ _ => rfl, fun _ _ => rfl, fun _ _ => rfl⟩
theorem zFr_t {W : List Nat} {h h1 h2 : zK} (a : zFr W h h1) (b : zFr W h1 h2) : zFr W h h2 := ⟨fun x hx => (b.1 x hx).trans (a.1 x hx), fun x hx => (b.2.1 x hx).trans (a.2.1 x hx), fun x hx => (b.2.2 x hx).trans (a.2.2 x hx)⟩
theorem zFr_w {W V : List Nat} {h h1 h2 : zK} (a : zFr W h h1) (b : zFr V h1 h2) (hV : ∀ x ∈ V, x ∈ W) : zFr W h h2 := zFr_t a ⟨fun x hx => b.1 x fun hh => hx (hV x hh), fun x hx => b.2.1 x fun hh => hx (hV x hh), fun x hx => b.2.2 x fun hh => hx (hV x hh)⟩
theorem zFr_s {W : List Nat} {h h1 h2 : zK} {a k : Nat} {v : Int32} (F : zFr W h h1) (e : sI h1 a k v = h2) (ha : a ∈ W) : zFr W h h2 := by
  subst e
  refine zFr_t F ⟨fun _ _ => rfl, fun x hx => ?_, fun _ _ => rfl⟩
  exact zu_ne _ _ _ (fun e => hx (e ▸ ha))
theorem zFr_sj {W : List Nat} {h h1 h2 : zK} {a k : Nat} {v : Int64} (F : zFr W h h1) (e : sJ h1 a k v = h2) (ha : a ∈ W) : zFr W h h2 := by
  subst e
  refine zFr_t F ⟨fun _ _ => rfl, fun _ _ => rfl, fun x hx => ?_⟩
  exact zu_ne _ _ _ (fun e => hx (e ▸ ha))
theorem zFr_sr {W : List Nat} {h h1 h2 : zK} {a c : Nat} (F : zFr W h h1) (e : sR h1 a c = h2) (ha : a ∈ W) : zFr W h h2 := by
  subst e
  refine zFr_t F ⟨fun x hx => ?_, fun _ _ => rfl, fun _ _ => rfl⟩
  show (if x = a then c else h1.1 x) = h1.1 x
  rw [if_neg (fun e : x = a => hx (e ▸ ha))]
theorem zFr_c {W : List Nat} {h h1 h2 : zK} {a b sp dp n : Nat} (F : zFr W h h1) (e : cI h1 a b sp dp n = h2) (hb : b ∈ W) : zFr W h h2 := by
  subst e
  refine zFr_t F ⟨fun _ _ => rfl, fun x hx => ?_, fun _ _ => rfl⟩
  exact zrow_ne _ _ (fun e => hx (e ▸ hb))
