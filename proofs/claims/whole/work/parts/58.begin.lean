/-! Run.begin; the state looked at; TILL, STATE -/
def rI (h : zK) (a : Nat) (g : Nat → Int32) : zK := (h.1, zrow h.2.1 a g, h.2.2)
theorem rI_self {h : zK} {a : Nat} {g : Nat → Int32} (e : g = h.2.1 a) : rI h a g = h := by
  unfold rI
  refine Prod.ext rfl (Prod.ext ?_ rfl)
  funext b
  dsimp only
  unfold zrow
  by_cases hb : b = a
  · subst hb; rw [if_pos rfl, e]
  · rw [if_neg hb]
theorem rI_set {h : zK} {a j : Nat} {g : Nat → Int32} {v : Int32} : sI (rI h a g) a j v = rI h a (upd g j v) := by
  unfold rI sI
  refine Prod.ext rfl (Prod.ext ?_ rfl)
  funext b k
  dsimp only
  unfold zu zrow upd
  by_cases hb : b = a
  · subst hb
    by_cases hk : k = j
    · rw [if_pos ⟨rfl, hk⟩, if_pos rfl, if_pos hk]
    · rw [if_neg (fun z => hk z.2), if_pos rfl, if_pos rfl, if_neg hk]
  · rw [if_neg (fun z => hb z.1), if_neg hb, if_neg hb]
section BEGIN
variable {h : zK} {o oc oe k n s i : Nat} {c : wC} {re sh : Int32} {σ : wS} {d : wD}
theorem qRu_begin_b113_ev (g : zK) : zloop (qRu_begin_b113 oc o) zfu (0, g) = some (rI g (o + 1) (fun j => if j < 51 then 0 else g.2.1 (o + 1) j)) := by
  have st : ((0 : Int32), g) = (nI 0, rI g (o + 1) (fun j => if j < 0 then 0 else g.2.1 (o + 1) j)) := by
    rw [rI_self]
    · rfl
    · funext j; rw [if_neg (Nat.not_lt_zero _)]
  rw [st]
  refine zloop_for (fun i => (nI i, rI g (o + 1) (fun j => if j < i then 0 else g.2.1 (o + 1) j))) 51 (fun i hi => ?_) ?_ (zfu_lt (by omega))
  · unfold qRu_begin_b113
    dsimp only
    simp only [zlet]
    rw [if_neg (show ¬ (50 : Int32) < nI i from nI_nlt (a := 50) (by omega) (by decide)), zix_nI (by omega) (by omega), Option.bind_some, rI_set, nI_1]
    have e : upd (fun j => if j < i then (0 : Int32) else g.2.1 (o + 1) j) i 0 = fun j => if j < i + 1 then 0 else g.2.1 (o + 1) j := by
      funext j
      unfold upd
      by_cases h1 : j = i
      · subst h1; rw [if_pos rfl, if_pos (by omega)]
      · rw [if_neg h1]
        dsimp only
        by_cases h2 : j < i
        · rw [if_pos h2, if_pos (by omega)]
        · rw [if_neg h2, if_neg (by omega)]
    rw [e]
  · unfold qRu_begin_b113
    dsimp only
    rw [if_pos (show (50 : Int32) < nI 51 from nI_lt (a := 50) (by omega) (by decide))]
/-- the state in which years begin -/
def wS0 (c : wC) : wS := (fun i => if i = 7 ∨ i = 10 then -1 else 0, fun r t => if r = 0 then nI (c.2.2.2 0 t) else if r = 1 then nI (c.2.2.2 2 t) else if r = 2 then nI (c.2.2.2 4 t) else if r = 3 then nI (c.2.2.2 5 t) else 0)
theorem wS0_ok (ok : wCok c) : wOk c.1 (wS0 c) := by
  refine ⟨⟨0, by omega, rfl⟩, fun t ht => ?_, 0, by omega, rfl⟩
  obtain ⟨-, -, -, -, -, -, r, -⟩ := ok.2.2.2 t ht
  exact ⟨c.2.2.2 5 t, r, rfl⟩
theorem mB3_l (B : mB3 h c) : lS (wLm c.1) h (wS0 c) = h := by
  refine lS_self (fun i hi => ?_) (fun r hr t ht => ?_)
  · have hi' : i < 7 := hi
    have e : (wS0 c).1 i = 0 := if_neg (by omega)
    rw [e]
    exact B.1 (26 + i) (by omega) (by omega)
  · have hr' : r < 4 := hr
    obtain ⟨a1, a2, a3, a4⟩ := B.2 t ht
    rcases (by omega : r = 0 ∨ r = 1 ∨ r = 2 ∨ r = 3) with rfl | rfl | rfl | rfl
    · exact a1
    · exact a2
    · exact a3
    · exact a4
def wBeg (o oc : Nat) (h : zK) : zK := sI (sI (sI (sI (sI (sI (cI (cI (cI (cI (sI (sI (sR h o oc) o 3 (gI (sR h o oc) oc 1)) o 4 (gI (sI (sR h o oc) o 3 (gI (sR h o oc) oc 1)) oc 0)) (oc + 1) (o + 10) 0 0 7) (oc + 3) (o + 11) 0 0 7) (oc + 5) (o + 12) 0 0 7) (oc + 6) (o + 13) 0 0 7) o 0 0) o 11 0) o 1 0) o 2 0) o 12 0) o 13 0
def wBeg2 (o oc : Nat) (h : zK) : zK := sI (sI (sI (sI (sI (rI (wBeg o oc h) (o + 1) (fun j => if j < 51 then 0 else (wBeg o oc h).2.1 (o + 1) j)) o 6 (-1)) o 14 (-1)) o 7 0) o 8 0) o 9 0
theorem qRu_begin_eq : qRu_begin o oc h = some (wBeg2 o oc h) := by
  unfold qRu_begin
  simp only [zlet]
  have e := qRu_begin_b113_ev (oc := oc) (o := o) (wBeg o oc h)
  unfold wBeg at e
  rw [e, Option.bind_some]
  rfl
theorem qRu_begin_ev (ho : o = 166 ∨ o = 198) (hoc : oc = 7 ∨ oc = 22) (hc : cC h oc c) (ok : wCok c) : ∃ h', qRu_begin o oc h = some h' ∧ wBc h' o oc c (nI c.2.2.1) (nI c.2.1) ∧ lS (wLc c.1 o) h' (wS0 c) = h' ∧ (∀ a, a < 100 → h'.2.1 a = h.2.1 a) := by
  have n7 := ok.1
  refine ⟨_, qRu_begin_eq, ?_, ?_, ?_⟩
  · obtain ⟨a1, a2, a3, a4⟩ := hc
    rcases ho with rfl | rfl <;> rcases hoc with rfl | rfl <;> exact ⟨by decide, by decide, rfl, a2, a1, a1, a2, a3, fun i s hi hs => by
      have := a4 i s hi hs
      rcases (by omega : i = 0 ∨ i = 1 ∨ i = 2 ∨ i = 3 ∨ i = 4 ∨ i = 5 ∨ i = 6) with rfl | rfl | rfl | rfl | rfl | rfl | rfl <;> exact this⟩
  · refine lS_self (fun i hi => ?_) (fun r hr t ht => ?_)
    · have hi' : i < 11 := hi
      rcases ho with rfl | rfl <;> rcases (by omega : i = 0 ∨ i = 1 ∨ i = 2 ∨ i = 3 ∨ i = 4 ∨ i = 5 ∨ i = 6 ∨ i = 7 ∨ i = 8 ∨ i = 9 ∨ i = 10) with rfl | rfl | rfl | rfl | rfl | rfl | rfl | rfl | rfl | rfl | rfl <;> rfl
    · have hr' : r < 5 := hr
      rcases (by omega : r = 0 ∨ r = 1 ∨ r = 2 ∨ r = 3 ∨ r = 4) with rfl | rfl | rfl | rfl | rfl
      · have ht' : t < c.1 := ht
        have q := cC_0 hc ht'
        show _ = nI (c.2.2.2 0 t)
        rw [← q]
        rcases ho with rfl | rfl <;> rcases hoc with rfl | rfl
        · exact (show _ = va_cpy (h.2.1 8) (h.2.1 176) 0 0 7 t from rfl).trans ((pk_cpy_in (by omega) (by omega)).trans (by rw [show 0 + (t - 0) = t by omega]; rfl))
        · exact (show _ = va_cpy (h.2.1 23) (h.2.1 176) 0 0 7 t from rfl).trans ((pk_cpy_in (by omega) (by omega)).trans (by rw [show 0 + (t - 0) = t by omega]; rfl))
        · exact (show _ = va_cpy (h.2.1 8) (h.2.1 208) 0 0 7 t from rfl).trans ((pk_cpy_in (by omega) (by omega)).trans (by rw [show 0 + (t - 0) = t by omega]; rfl))
        · exact (show _ = va_cpy (h.2.1 23) (h.2.1 208) 0 0 7 t from rfl).trans ((pk_cpy_in (by omega) (by omega)).trans (by rw [show 0 + (t - 0) = t by omega]; rfl))
      · have ht' : t < c.1 := ht
        have q := cC_2 hc ht'
        show _ = nI (c.2.2.2 2 t)
        rw [← q]
        rcases ho with rfl | rfl <;> rcases hoc with rfl | rfl
        · exact (show _ = va_cpy (h.2.1 10) (h.2.1 177) 0 0 7 t from rfl).trans ((pk_cpy_in (by omega) (by omega)).trans (by rw [show 0 + (t - 0) = t by omega]; rfl))
        · exact (show _ = va_cpy (h.2.1 25) (h.2.1 177) 0 0 7 t from rfl).trans ((pk_cpy_in (by omega) (by omega)).trans (by rw [show 0 + (t - 0) = t by omega]; rfl))
        · exact (show _ = va_cpy (h.2.1 10) (h.2.1 209) 0 0 7 t from rfl).trans ((pk_cpy_in (by omega) (by omega)).trans (by rw [show 0 + (t - 0) = t by omega]; rfl))
        · exact (show _ = va_cpy (h.2.1 25) (h.2.1 209) 0 0 7 t from rfl).trans ((pk_cpy_in (by omega) (by omega)).trans (by rw [show 0 + (t - 0) = t by omega]; rfl))
      · have ht' : t < c.1 := ht
        have q := cC_4 hc ht'
        show _ = nI (c.2.2.2 4 t)
        rw [← q]
        rcases ho with rfl | rfl <;> rcases hoc with rfl | rfl
        · exact (show _ = va_cpy (h.2.1 12) (h.2.1 178) 0 0 7 t from rfl).trans ((pk_cpy_in (by omega) (by omega)).trans (by rw [show 0 + (t - 0) = t by omega]; rfl))
        · exact (show _ = va_cpy (h.2.1 27) (h.2.1 178) 0 0 7 t from rfl).trans ((pk_cpy_in (by omega) (by omega)).trans (by rw [show 0 + (t - 0) = t by omega]; rfl))
        · exact (show _ = va_cpy (h.2.1 12) (h.2.1 210) 0 0 7 t from rfl).trans ((pk_cpy_in (by omega) (by omega)).trans (by rw [show 0 + (t - 0) = t by omega]; rfl))
        · exact (show _ = va_cpy (h.2.1 27) (h.2.1 210) 0 0 7 t from rfl).trans ((pk_cpy_in (by omega) (by omega)).trans (by rw [show 0 + (t - 0) = t by omega]; rfl))
      · have ht' : t < c.1 := ht
        have q := cC_5 hc ht'
        show _ = nI (c.2.2.2 5 t)
        rw [← q]
        rcases ho with rfl | rfl <;> rcases hoc with rfl | rfl
        · exact (show _ = va_cpy (h.2.1 13) (h.2.1 179) 0 0 7 t from rfl).trans ((pk_cpy_in (by omega) (by omega)).trans (by rw [show 0 + (t - 0) = t by omega]; rfl))
        · exact (show _ = va_cpy (h.2.1 28) (h.2.1 179) 0 0 7 t from rfl).trans ((pk_cpy_in (by omega) (by omega)).trans (by rw [show 0 + (t - 0) = t by omega]; rfl))
        · exact (show _ = va_cpy (h.2.1 13) (h.2.1 211) 0 0 7 t from rfl).trans ((pk_cpy_in (by omega) (by omega)).trans (by rw [show 0 + (t - 0) = t by omega]; rfl))
        · exact (show _ = va_cpy (h.2.1 28) (h.2.1 211) 0 0 7 t from rfl).trans ((pk_cpy_in (by omega) (by omega)).trans (by rw [show 0 + (t - 0) = t by omega]; rfl))
      · have ht' : t < 51 := ht
        show _ = (0 : Int32)
        rcases ho with rfl | rfl
        · exact (show _ = (if t < 51 then (0 : Int32) else _) from rfl).trans (if_pos ht')
        · exact (show _ = (if t < 51 then (0 : Int32) else _) from rfl).trans (if_pos ht')
  · intro a ha
    have F := f_qRu_begin (p := wBeg2 o oc h) (h := h) (oo := o) (oc := oc) (by rcases ho with rfl | rfl <;> rcases hoc with rfl | rfl <;> decide) qRu_begin_eq
    exact F.2.1 a (fun hh => by
      have : ∀ x ∈ ([166, 167, 176, 177, 178, 179, 198, 199, 208, 209, 210, 211] : List Nat), 100 ≤ x := by decide
      have := this a hh
      omega)
end BEGIN
