/-! TEXTS: bytes and tokens -/
def yBt (n : Nat) : Int32 := (nI n).toInt8.toInt32
def yLt (n : Nat) : Bool := decide (97 ≤ n) && decide (n ≤ 122)
def yDg (n : Nat) : Bool := decide (48 ≤ n) && decide (n ≤ 57)
def yBl (n : Nat) : Bool := decide (n = 10) || decide (n = 32)
theorem yBt_and : ∀ n, n < 256 → yBt n &&& 255 = nI n := by decide +kernel
theorem yBt_32 : ∀ n, n < 256 → (yBt n = 32 ↔ n = 32) := by decide +kernel
theorem yBt_10 : ∀ n, n < 256 → (yBt n = 10 ↔ n = 10) := by decide +kernel
theorem yBt_59 : ∀ n, n < 256 → (yBt n = 59 ↔ n = 59) := by decide +kernel
theorem yBt_l : ∀ n, n < 256 → qRe_isLetter (yBt n) = if yLt n then 1 else 0 := by decide +kernel
theorem yBt_d : ∀ n, n < 256 → qRe_isDigit (yBt n) = if yDg n then 1 else 0 := by decide +kernel
theorem yBt_n : ∀ n, n < 128 → yBt n = nI n := by decide +kernel
theorem yin_l : ∀ n, n < 256 → zf_in (nI n) 97 122 = if yLt n then 1 else 0 := by decide +kernel
theorem yin_d : ∀ n, n < 256 → zf_in (nI n) 48 57 = if yDg n then 1 else 0 := by decide +kernel
theorem yLt_d : ∀ n, n < 256 → yDg n = true → yLt n = false := by decide +kernel
theorem yBt_of {b : Int32} (h : b.toInt8.toInt32 = b) : ∃ n, n < 256 ∧ b = yBt n := by
  obtain ⟨n, hn, e⟩ : ∃ n, n < 256 ∧ b &&& 255 = nI n := by
    obtain ⟨q, hq, e⟩ := wb_of32 b
    refine ⟨q % 256, Nat.mod_lt _ (by omega), ?_⟩
    rw [e]
    have := fa_mask q 8
    exact this
  refine ⟨n, hn, ?_⟩
  unfold yBt
  rw [← e, fa_byte_low, h]
/-- from a on, as long as p holds -/
def ySc (p : Nat → Bool) (len a : Nat) : Nat := a + fa_first (fun i => !p (a + i)) (len - a)
section SC
variable {p : Nat → Bool} {len a : Nat}
theorem ySc_ge : a ≤ ySc p len a := Nat.le_add_right _ _
theorem ySc_le (h : a ≤ len) : ySc p len a ≤ len := by
  have := fa_first_le (fun i => !p (a + i)) (len - a)
  unfold ySc
  omega
theorem ySc_y {j : Nat} (h1 : a ≤ j) (h2 : j < ySc p len a) : p j = true := by
  have := fa_first_no (fun i => !p (a + i)) (len - a) (j - a) (by unfold ySc at h2; omega)
  rw [show a + (j - a) = j by omega] at this
  simpa using this
theorem ySc_n (h : a ≤ len) (h2 : ySc p len a < len) : p (ySc p len a) = false := by
  have := fa_first_yes (fun i => !p (a + i)) (len - a) (by unfold ySc at h2; omega)
  have : (!p (ySc p len a)) = true := this
  simpa using this
theorem ySc_gt (h : a < len) (hp : p a = true) : a < ySc p len a := by
  have g := ySc_ge (p := p) (len := len) (a := a)
  have : ySc p len a ≠ a := fun e => by
    have q := ySc_n (p := p) (len := len) (a := a) (by omega) (by omega)
    rw [e, hp] at q
    cases q
  omega
end SC
def ySt (u : Nat → Nat) (len a : Nat) : Nat := ySc (fun j => yBl (u j)) len a
def yNx (u : Nat → Nat) (len s : Nat) : Nat := if len ≤ s then s else if yLt (u s) then ySc (fun j => yLt (u j)) len s else if yDg (u s) then ySc (fun j => yDg (u j)) len s else s + 1
def yKd (u : Nat → Nat) (len s : Nat) : Nat := if len ≤ s then 0 else if yLt (u s) then 1 else if yDg (u s) then (if ySc (fun j => yDg (u j)) len s - s ≤ 2 then 2 else 4) else if u s = 59 then 3 else 4
def yVl (u : Nat → Nat) (s n : Nat) : Nat := if n = 1 then u s - 48 else 10 * (u s - 48) + (u (s + 1) - 48)
theorem sI_self {h : zK} {a k : Nat} {v : Int32} (e : gI h a k = v) : sI h a k v = h := by
  unfold sI
  refine Prod.ext rfl (Prod.ext ?_ rfl)
  funext b j
  dsimp only
  unfold zu
  by_cases hb : b = a ∧ j = k
  · rw [if_pos hb, hb.1, hb.2, ← e]; rfl
  · rw [if_neg hb]
section TOK
variable {g : zK} {u : Nat → Nat} {len a : Nat}
/-- the reader's text -/
def yTp (g : zK) (u : Nat → Nat) (len : Nat) : Prop := len ≤ 600 ∧ gI g 147 8 = nI len ∧ ∀ j, j < len → gI g 163 j = yBt (u j) ∧ u j < 256
/-- a loop that goes on while the bytes have p -/
theorem yloop_at {b : zK → Option (zK ⊕ zK)} {p : Nat → Bool} (T : yTp g u len) (ha : a ≤ len) (e9 : gI g 147 9 = nI a) (hb : ∀ i, i ≤ len → b (sI g 147 9 (nI i)) = if i < len ∧ p i = true then some (.inl (sI g 147 9 (nI (i + 1)))) else some (.inr (sI g 147 9 (nI i)))) : zloop b zfu g = some (sI g 147 9 (nI (ySc p len a))) := by
  have l6 := T.1
  have ge := ySc_ge (p := p) (len := len) (a := a)
  have le := ySc_le (p := p) (len := len) (a := a) ha
  have st : g = sI g 147 9 (nI (a + 0)) := (sI_self e9).symm
  have key : zloop b zfu (sI g 147 9 (nI (a + 0))) = some (sI g 147 9 (nI (ySc p len a))) := by
    refine zloop_for (fun i => sI g 147 9 (nI (a + i))) (ySc p len a - a) (fun i hi => ?_) ?_ (zfu_lt (by omega))
    · have y := ySc_y (p := p) (len := len) (a := a) (j := a + i) (by omega) (by omega)
      rw [hb (a + i) (by omega), if_pos ⟨by omega, y⟩]
      rfl
    · rw [show a + (ySc p len a - a) = ySc p len a by omega, hb _ le]
      by_cases hl : ySc p len a < len
      · have := ySc_n (p := p) (len := len) (a := a) ha hl
        rw [if_neg (fun z => by rw [this] at z; cases z.2)]
      · rw [if_neg (fun z => hl z.1)]
  rw [← st] at key
  exact key
theorem yTp_9 {v : Int32} (T : yTp g u len) : yTp (sI g 147 9 v) u len := ⟨T.1, (gI_nk (by decide)).trans T.2.1, fun j hj => ⟨(gI_ne (by decide)).trans (T.2.2 j hj).1, (T.2.2 j hj).2⟩⟩
theorem yTp_s {k : Nat} {v : Int32} (hk : k ≠ 8) (T : yTp g u len) : yTp (sI g 147 k v) u len := ⟨T.1, (gI_nk (fun e => hk e.symm)).trans T.2.1, fun j hj => ⟨(gI_ne (by decide)).trans (T.2.2 j hj).1, (T.2.2 j hj).2⟩⟩
/-- the value as the class reads it -/
def yVf (u : Nat → Nat) (s : Nat) (i : Nat) : Int32 := wfold (fun j v => v * 10 + yBt (u (s + j)) - 48) 0 i
theorem yVf_v {s n : Nat} (hn : 1 ≤ n) (h2 : n ≤ 2) (hd : ∀ i, i < n → yDg (u (s + i)) = true) : yVf u s n = nI (yVl u s n) := by
  have dig : ∀ i, i < n → 48 ≤ u (s + i) ∧ u (s + i) ≤ 57 := fun i hi => by
    have := hd i hi
    unfold yDg at this
    rw [Bool.and_eq_true] at this
    exact ⟨of_decide_eq_true this.1, of_decide_eq_true this.2⟩
  have d0 := dig 0 (by omega)
  rw [Nat.add_zero] at d0
  have one : yVf u s 1 = nI (u s - 48) := by
    show (0 : Int32) * 10 + yBt (u (s + 0)) - 48 = _
    rw [Nat.add_zero, yBt_n _ (by omega), Int32.zero_mul, Int32.zero_add, show (48 : Int32) = nI 48 from rfl, nI_sub (by omega)]
  rcases (by omega : n = 1 ∨ n = 2) with rfl | rfl
  · rw [one]; rfl
  · have d1 := dig 1 (by omega)
    show yVf u s 1 * 10 + yBt (u (s + 1)) - 48 = _
    rw [one, yBt_n _ (by omega), show (10 : Int32) = nI 10 from rfl, nI_mul, nI_add, show (48 : Int32) = nI 48 from rfl, nI_sub (by omega)]
    unfold yVl
    rw [if_neg (by omega)]
    congr 1
    omega
/-- class: a token is read; st, nx, kind, value -/
def yCS (g : zK) (u : Nat → Nat) (len s : Nat) : Prop := gI g 147 11 = nI s ∧ gI g 147 10 = nI (yKd u len s) ∧ gI g 147 9 = nI (yNx u len s) ∧ (yKd u len s = 2 → gI g 147 12 = nI (yVl u s (yNx u len s - s)))
def yFC (g g' : zK) : Prop := g'.2.2 = g.2.2 ∧ ∀ x j, (x ≠ 147 ∨ (j ≠ 9 ∧ j ≠ 10 ∧ j ≠ 11 ∧ j ≠ 12)) → gI g' x j = gI g x j
theorem yFC_t {g g1 g2 : zK} (a : yFC g g1) (b : yFC g1 g2) : yFC g g2 := ⟨b.1.trans a.1, fun x j h => (b.2 x j h).trans (a.2 x j h)⟩
theorem yFC_s {k : Nat} {v : Int32} (hk : k = 9 ∨ k = 10 ∨ k = 11 ∨ k = 12) : yFC g (sI g 147 k v) := ⟨rfl, fun x j h => by
  by_cases e : x = 147
  · rw [gI_nk (by omega)]
  · rw [gI_ne e]⟩
theorem qRe_step_ev (T : yTp g u len) (ha : a ≤ len) (e9 : gI g 147 9 = nI a) : ∃ g', qRe_step g = some g' ∧ yCS g' u len (ySt u len a) ∧ yFC g g' := by
  have l6 := T.1
  have sle : ySt u len a ≤ len := ySc_le ha
  have rd : ∀ (g : zK), yTp g u len → ∀ i, i < len → gI g 163 i = yBt (u i) ∧ u i < 256 := fun g T i hi => T.2.2 i hi
  -- blanks
  have b0 : zloop qRe_step_b0 zfu g = some (sI g 147 9 (nI (ySt u len a))) := by
    refine yloop_at (p := fun j => yBl (u j)) T ha e9 fun i hi => ?_
    have T' := yTp_9 (v := nI i) T
    unfold qRe_step_b0 qRe_step_j39
    simp only [zlet]
    rw [T'.2.1, gI_eq, sI_twice, nI_1]
    by_cases hl : i < len
    · obtain ⟨r1, r2⟩ := T'.2.2 i hl
      rw [if_neg (nI_ge hl (by omega)), zix_nI (by omega) (by omega), Option.bind_some, r1]
      by_cases h32 : u i = 32
      · rw [if_pos ((yBt_32 _ r2).mpr h32), if_pos ⟨hl, by show yBl (u i) = true; rw [h32]; rfl⟩]
      · rw [if_neg (fun z => h32 ((yBt_32 _ r2).mp z))]
        by_cases h10 : u i = 10
        · rw [if_neg (show ¬ ¬ yBt (u i) = 10 from fun z => z ((yBt_10 _ r2).mpr h10)), if_pos ⟨hl, by show yBl (u i) = true; rw [h10]; rfl⟩]
        · rw [if_pos (fun z => h10 ((yBt_10 _ r2).mp z)), if_neg]
          rintro ⟨-, z⟩
          have : yBl (u i) = true := z
          unfold yBl at this
          rw [decide_eq_false h10, decide_eq_false h32] at this
          cases this
    · rw [if_pos (nI_le (by omega) (by omega)), if_neg (fun z => hl z.1)]
  generalize hs : ySt u len a = s at *
  let h8 : zK := sI (sI g 147 9 (nI s)) 147 11 (nI s)
  have T8 : yTp h8 u len := yTp_s (by decide) (yTp_9 T)
  have e8 : gI h8 147 9 = nI s := by
    show gI (sI (sI _ _ _ _) _ _ _) _ _ = _
    rw [gI_nk (by decide), gI_eq]
  have e11 : gI h8 147 11 = nI s := gI_eq
  have f8 : yFC g h8 := yFC_t (yFC_s (by omega)) (yFC_s (by omega))
  unfold qRe_step
  rw [b0, Option.bind_some]
  simp only [zlet]
  rw [gI_eq]
  show ∃ g', (if gI h8 147 9 < gI h8 147 8 then (zix (gI h8 147 9) 600).bind fun j10 => _ else some (sI h8 147 10 0)) = some g' ∧ _
  rw [e8, T8.2.1]
  unfold yCS yKd yNx
  by_cases hl : s < len
  · obtain ⟨r1, r2⟩ := T8.2.2 s hl
    rw [if_pos (nI_lt hl (by omega)), zix_nI (by omega) (by omega), Option.bind_some, r1, yBt_l _ r2, yBt_d _ r2, if_neg (show ¬ len ≤ s by omega), if_neg (show ¬ len ≤ s by omega)]
    cases hL : yLt (u s) with
    | true =>
      rw [if_pos rfl, if_neg (show ¬ (1 : Int32) = 0 by decide), if_pos rfl, if_pos rfl]
      have b1 : zloop qRe_step_b99 zfu (sI h8 147 10 1) = some (sI (sI h8 147 10 1) 147 9 (nI (ySc (fun j => yLt (u j)) len s))) := by
        refine yloop_at (p := fun j => yLt (u j)) (yTp_s (by decide) T8) sle ((gI_nk (by decide)).trans e8) fun i hi => ?_
        have T' := yTp_9 (v := nI i) (yTp_s (k := 10) (v := 1) (by decide) T8)
        unfold qRe_step_b99
        simp only [zlet]
        rw [T'.2.1, gI_eq, sI_twice, nI_1]
        by_cases hl : i < len
        · obtain ⟨r1, r2⟩ := T'.2.2 i hl
          rw [if_neg (nI_ge hl (by omega)), zix_nI (by omega) (by omega), Option.bind_some, r1, yBt_l _ r2]
          cases hp : yLt (u i) with
          | true => rw [if_pos rfl, if_neg (show ¬ (1 : Int32) = 0 by decide), if_pos ⟨hl, rfl⟩]
          | false => rw [if_neg (show ¬ false = true by decide), if_pos rfl, if_neg (fun z => by cases z.2)]
        · rw [if_pos (nI_le (by omega) (by omega)), if_neg (fun z => hl z.1)]
      rw [b1, Option.bind_some]
      refine ⟨_, rfl, ⟨?_, ?_, gI_eq, fun z => absurd z (by decide)⟩, yFC_t f8 (yFC_t (yFC_s (by omega)) (yFC_s (by omega)))⟩
      · rw [gI_nk (by decide), gI_nk (by decide)]; exact e11
      · rw [gI_nk (by decide), gI_eq]; rfl
    | false =>
      rw [if_neg (show ¬ false = true by decide), if_pos rfl, if_neg (show ¬ false = true by decide), if_neg (show ¬ false = true by decide)]
      cases hD : yDg (u s) with
      | true =>
        rw [if_pos rfl, if_neg (show ¬ (1 : Int32) = 0 by decide), if_pos rfl, if_pos rfl]
        have ge := ySc_ge (p := fun j => yDg (u j)) (len := len) (a := s)
        have le := ySc_le (p := fun j => yDg (u j)) (len := len) (a := s) sle
        have gt := ySc_gt (p := fun j => yDg (u j)) hl hD
        have n1 : zloop qRe_stepNumber_b5 zfu (sI h8 147 12 0) = some (sI (sI h8 147 12 (yVf u s (ySc (fun j => yDg (u j)) len s - s))) 147 9 (nI (ySc (fun j => yDg (u j)) len s))) := by
          have st : sI h8 147 12 0 = sI (sI h8 147 12 (yVf u s 0)) 147 9 (nI (s + 0)) := (sI_self ((gI_nk (by decide)).trans e8)).symm
          rw [st]
          refine zloop_for (fun i => sI (sI h8 147 12 (yVf u s i)) 147 9 (nI (s + i))) (ySc (fun j => yDg (u j)) len s - s) (fun i hi => ?_) ?_ (zfu_lt (by omega))
          · have T' := yTp_9 (v := nI (s + i)) (yTp_s (k := 12) (v := yVf u s i) (by decide) T8)
            have hd := ySc_y (p := fun j => yDg (u j)) (len := len) (a := s) (j := s + i) (by omega) (by omega)
            obtain ⟨r1, r2⟩ := T'.2.2 (s + i) (by omega)
            unfold qRe_stepNumber_b5
            simp only [zlet]
            have v12 : gI (sI (sI h8 147 12 (yVf u s i)) 147 9 (nI (s + i))) 147 12 = yVf u s i := by rw [gI_nk (by decide), gI_eq]
            rw [T'.2.1, gI_eq, if_neg (nI_ge (show s + i < len by omega) (by omega)), zix_nI (by omega) (by omega), Option.bind_some, r1, yBt_d _ r2, show yDg (u (s + i)) = true from hd, if_pos rfl, if_neg (show ¬ (1 : Int32) = 0 by decide), v12, gI_nk (show 9 ≠ 12 by decide), gI_eq, nI_1]
            have sw : ∀ v w : Int32, sI (sI (sI (sI h8 147 12 (yVf u s i)) 147 9 (nI (s + i))) 147 12 v) 147 9 w = sI (sI h8 147 12 v) 147 9 w := fun v w => by
              unfold sI
              refine Prod.ext rfl (Prod.ext ?_ rfl)
              funext b j
              dsimp only
              unfold zu
              by_cases c1 : b = 147 ∧ j = 9
              · rw [if_pos c1, if_pos c1]
              · rw [if_neg c1, if_neg c1]
                by_cases c2 : b = 147 ∧ j = 12
                · rw [if_pos c2, if_pos c2, if_neg c1]
                · rw [if_neg c2, if_neg c2, if_neg c1, if_neg c2]
            rw [sw]
            rfl
          · have T' := yTp_9 (v := nI (s + (ySc (fun j => yDg (u j)) len s - s))) (yTp_s (k := 12) (v := yVf u s (ySc (fun j => yDg (u j)) len s - s)) (by decide) T8)
            have es : s + (ySc (fun j => yDg (u j)) len s - s) = ySc (fun j => yDg (u j)) len s := by omega
            rw [es] at T' ⊢
            unfold qRe_stepNumber_b5
            simp only [zlet]
            rw [T'.2.1, gI_eq]
            by_cases hq : ySc (fun j => yDg (u j)) len s < len
            · obtain ⟨r1, r2⟩ := T'.2.2 _ hq
              have := ySc_n (p := fun j => yDg (u j)) sle hq
              rw [if_neg (nI_ge hq (by omega)), zix_nI (by omega) (by omega), Option.bind_some, r1, yBt_d _ r2, show yDg (u (ySc (fun j => yDg (u j)) len s)) = false from this, if_neg (show ¬ false = true by decide), if_pos rfl]
            · rw [if_pos (nI_le (by omega) (by omega))]
        unfold qRe_stepNumber
        simp only [zlet]
        generalize hr : ySc (fun j => yDg (u j)) len s = r at *
        have q9 : gI (sI (sI h8 147 12 (yVf u s (r - s))) 147 9 (nI r)) 147 9 = nI r := gI_eq
        have q11 : gI (sI (sI h8 147 12 (yVf u s (r - s))) 147 9 (nI r)) 147 11 = nI s := by
          rw [gI_nk (by decide), gI_nk (by decide)]; exact e11
        rw [n1, Option.bind_some, q9, q11, nI_sub (by omega)]
        have fr : yFC g (sI (sI h8 147 12 (yVf u s (r - s))) 147 9 (nI r)) := yFC_t f8 (yFC_t (yFC_s (by omega)) (yFC_s (by omega)))
        by_cases h2 : r - s ≤ 2
        · rw [if_neg (show ¬ (2 : Int32) < nI (r - s) from nI_nlt (a := 2) h2 (by decide)), Option.bind_some, if_pos h2]
          refine ⟨_, rfl, ⟨?_, gI_eq, ?_, fun _ => ?_⟩, yFC_t fr (yFC_s (by omega))⟩
          · rw [gI_nk (by decide)]; exact q11
          · rw [gI_nk (by decide)]; exact q9
          · rw [gI_nk (by decide), gI_nk (by decide), gI_eq]
            exact yVf_v (by omega) h2 (fun i hi => by
              have := ySc_y (p := fun j => yDg (u j)) (len := len) (a := s) (j := s + i) (by omega) (by omega)
              exact this)
        · rw [if_pos (show (2 : Int32) < nI (r - s) from nI_lt (a := 2) (by omega) (by omega)), Option.bind_some, if_neg h2]
          refine ⟨_, rfl, ⟨?_, gI_eq, ?_, fun z => absurd z (by decide)⟩, yFC_t fr (yFC_s (by omega))⟩
          · rw [gI_nk (by decide)]; exact q11
          · rw [gI_nk (by decide)]; exact q9
      | false =>
        rw [if_neg (show ¬ false = true by decide), if_pos rfl, if_neg (show ¬ false = true by decide), if_neg (show ¬ false = true by decide), gI_nk (show 9 ≠ 10 by decide), e8, nI_1]
        refine ⟨_, rfl, ⟨?_, ?_, gI_eq, fun z => ?_⟩, yFC_t f8 (yFC_t (yFC_s (by omega)) (yFC_s (by omega)))⟩
        · rw [gI_nk (by decide), gI_nk (by decide)]; exact e11
        · rw [gI_nk (by decide), gI_eq]
          by_cases h59 : u s = 59
          · rw [if_neg (show ¬ ¬ yBt (u s) = 59 from fun z => z ((yBt_59 _ r2).mpr h59)), if_pos h59]; rfl
          · rw [if_pos (fun z => h59 ((yBt_59 _ r2).mp z)), if_neg h59]; rfl
        · exfalso
          split at z <;> omega
  · rw [if_neg (nI_nlt (by omega) (by omega)), if_pos (by omega), if_pos (by omega)]
    refine ⟨_, rfl, ⟨?_, gI_eq, ?_, fun z => absurd z (by decide)⟩, yFC_t f8 (yFC_s (by omega))⟩
    · rw [gI_nk (by decide)]; exact e11
    · rw [gI_nk (by decide)]; exact e8
end TOK
