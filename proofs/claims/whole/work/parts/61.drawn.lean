/-! DRAWN: years by a seed -/
theorem lS_out {A : wA} {h : zK} {σ : wS} {a k : Nat} {v : Int32} (h1 : ∀ i, i < A.1 → A.2.2.1 i ≠ (a, k)) (h2 : ∀ r, r < A.2.1 → A.2.2.2.1 r ≠ a) : sI (lS A h σ) a k v = lS A (sI h a k v) σ := by
  unfold sI lS
  refine Prod.ext rfl (Prod.ext ?_ rfl)
  funext b j
  dsimp only
  unfold zu
  by_cases hb : b = a ∧ j = k
  · obtain ⟨rfl, rfl⟩ := hb
    rw [if_pos ⟨rfl, rfl⟩, if_neg (fun hh => h1 _ hh (wia_sc hh)), if_neg (fun hh => h2 _ hh.1 (wra_rw hh.1)), if_pos ⟨rfl, rfl⟩]
  · rw [if_neg hb]
    dsimp only
    by_cases hh : wia A b j < A.1
    · rw [if_pos hh, if_pos hh]
    · rw [if_neg hh, if_neg hh]
      by_cases hr : wra A b < A.2.1 ∧ j < A.2.2.2.2 (wra A b)
      · rw [if_pos hr, if_pos hr]
      · rw [if_neg hr, if_neg hr, if_neg hb]
theorem sI_twice {h : zK} {a k : Nat} {v w : Int32} : sI (sI h a k v) a k w = sI h a k w := by
  unfold sI
  refine Prod.ext rfl (Prod.ext ?_ rfl)
  funext b j
  dsimp only
  unfold zu
  by_cases hb : b = a ∧ j = k
  · rw [if_pos hb, if_pos hb]
  · rw [if_neg hb, if_neg hb, if_neg hb]
def wDn (x : Int32) : Int32 := x * 1103515245 + 12345
def wVl (x : Int32) : Int32 := (Int32.toUInt32 x >>> (Int32.toUInt32 16 &&& Int32.toUInt32 31)).toInt32
def wQn (x : Int32) : Nat := x.toUInt32.toNat / 65536
theorem wQn_lt (x : Int32) : wQn x < 65536 := by
  unfold wQn
  have := x.toUInt32.toNat_lt
  omega
theorem wVl_n (x : Int32) : wVl x = nI (wQn x) := by
  unfold wVl wQn nI
  apply Int32.toBitVec_inj.mp
  have e : (Int32.toUInt32 16 &&& Int32.toUInt32 31) = 16 := by decide
  rw [e]
  apply BitVec.eq_of_toNat_eq
  have h1 : (x.toUInt32 >>> 16).toNat = x.toUInt32.toNat / 65536 := by
    rw [UInt32.toNat_shiftRight]
    rw [show (16 : UInt32).toNat % 32 = 16 from rfl, Nat.shiftRight_eq_div_pow]
  have h2 : ((x.toUInt32 >>> 16).toInt32).toBitVec.toNat = (x.toUInt32 >>> 16).toNat := rfl
  rw [h2, h1]
  have h3 : (Int32.ofNat (x.toUInt32.toNat / 65536)).toBitVec = BitVec.ofNat 32 (x.toUInt32.toNat / 65536) := rfl
  have := x.toUInt32.toNat_lt
  rw [h3, BitVec.toNat_ofNat, Nat.mod_eq_of_lt (by omega)]
section DRAWN
variable {h : zK} {o oc k n s i : Nat} {c : wC} {re sh : Int32} {σ : wS}
theorem wLc_n15 : ∀ i, i < 11 → [0, 11, 1, 2, 12, 13, 7, 6, 8, 9, 14].getD i 100 ≠ 15 := by decide
theorem cS_o15 {v : Int32} : sI (lS (wLc n o) h σ) o 15 v = lS (wLc n o) (sI h o 15 v) σ := by
  refine lS_out (fun i hi e => ?_) (fun r hr e => ?_)
  · exact wLc_n15 i hi (Prod.mk.inj e).2
  · exact wLc_p r hr (by have : o + [10, 11, 12, 13, 1].getD r 100 = o := e; omega)
theorem cS_g15 : gI (lS (wLc n o) h σ) o 15 = gI h o 15 := by
  refine lS_ot (fun i hi e => ?_) (fun r hr e => ?_)
  · exact wLc_n15 i hi (Prod.mk.inj e).2
  · exact wLc_p r hr (by have : o + [10, 11, 12, 13, 1].getD r 100 = o := e; omega)
theorem mS_o47 {v : Int32} : sI (lS (wLm n) h σ) 215 47 v = lS (wLm n) (sI h 215 47 v) σ := by
  refine lS_out (fun i hi e => ?_) (fun r hr e => ?_)
  · have : 26 + i = 47 := (Prod.mk.inj e).2
    have : i < 7 := hi
    omega
  · have : 226 + r = 215 := e
    omega
theorem wBc_15 {v : Int32} (B : wBc h o oc c re sh) : wBc (sI h o 15 v) o oc c re sh := by
  obtain ⟨h1, h2, h3, h4, h5, a, b, d, f⟩ := B
  have q : ∀ a j, a < 100 → gI (sI h o 15 v) a j = gI h a j := fun a j ha => gI_ne (by omega)
  exact ⟨h1, h2, h3, (gI_nk (by decide)).trans h4, (gI_nk (by decide)).trans h5, (q _ _ (by omega)).trans a, (q _ _ (by omega)).trans b, (q _ _ (by omega)).trans d, fun i s hi hs => (q _ _ (by omega)).trans (f i s hi hs)⟩
theorem mB_47 {v : Int32} (B : mB h k c) : mB (sI h 215 47 v) k c := by
  obtain ⟨h1, h2, h3, a, b, d, f⟩ := B
  exact ⟨h1, (gI_nk (by decide)).trans h2, (gI_nk (by decide)).trans h3, (gI_ne (by decide)).trans a, (gI_ne (by decide)).trans b, (gI_ne (by decide)).trans d, fun i s hi hs => (gI_ne (by decide)).trans (f i s hi hs)⟩
theorem mN_47 {v : Int32} (B : mN h re sh) : mN (sI h 215 47 v) re sh := ⟨(gI_nk (by decide)).trans B.1, (gI_nk (by decide)).trans B.2⟩
theorem qRu_below_ev {x : Int32} {m : Nat} (hm : 1 ≤ m) (hm2 : m < 1000) : qRu_below o (nI m) (lS (wLc n o) (sI h o 15 x) σ) = some (nI (wQn (wDn x) % m), lS (wLc n o) (sI h o 15 (wDn x)) σ) := by
  have hq := wQn_lt (wDn x)
  unfold qRu_below
  simp only [zlet]
  rw [cS_g15, gI_eq, cS_o15, sI_twice, cS_g15, gI_eq, if_neg (show ¬ nI m ≤ 0 from nI_nle (by omega) (by omega)), if_pos (show ¬ nI m = 0 from nI_ne0 (by omega) (by omega))]
  have e := wVl_n (wDn x)
  unfold wVl wDn at e
  unfold wDn
  rw [e, nI_rem (by unfold wDn at hq; omega) (by omega)]
theorem qM_draw_ev {x : Int32} {m : Nat} (hm : 1 ≤ m) (hm2 : m < 1000) : qM_draw (nI m) (lS (wLm n) (sI h 215 47 x) σ) = some (nI (wQn (wDn x) % m), lS (wLm n) (sI h 215 47 (wDn x)) σ) := by
  have hq := wQn_lt (wDn x)
  unfold qM_draw
  simp only [zlet]
  simp only [lS_m3 (show 33 ≤ 47 by omega), gI_eq, mS_o47, sI_twice]
  rw [if_pos (show ¬ nI m = 0 from nI_ne0 (by omega) (by omega))]
  have e := wVl_n (wDn x)
  unfold wVl wDn at e
  unfold wDn
  rw [e, nI_rem (by unfold wDn at hq; omega) (by omega)]
theorem wD2_2 {A : wA} (r : Option wS) : (wD2 A h σ r).2 = lS A h (r.getD σ) := by
  cases r <;> rfl
/-- one draw -/
def wDg (x : Int32) : Nat := wQn (wDn x) % 10
theorem wDg_lt (x : Int32) : wDg x < 10 := Nat.mod_lt _ (by omega)
theorem qRu_below10 {x : Int32} : qRu_below o 10 (lS (wLc n o) (sI h o 15 x) σ) = some (nI (wDg x), lS (wLc n o) (sI h o 15 (wDn x)) σ) := qRu_below_ev (m := 10) (by omega) (by omega)
theorem qM_draw10 {x : Int32} : qM_draw 10 (lS (wLm n) (sI h 215 47 x) σ) = some (nI (wDg x), lS (wLm n) (sI h 215 47 (wDn x)) σ) := qM_draw_ev (m := 10) (by omega) (by omega)
def wSy (n : Nat) (x : Int32) : Int32 := nI (wQn (wDn x) % n)
def wPp (x : Int32) : Int32 := nI (wQn (wDn x) % 21)
theorem wPp_20 (x : Int32) : ∃ q, q ≤ 20 ∧ wPp x = nI q := ⟨wQn (wDn x) % 21, by have := Nat.mod_lt (wQn (wDn x)) (show 0 < 21 by omega); omega, rfl⟩
theorem qRu_below21 {x : Int32} : qRu_below o 21 (lS (wLc n o) (sI h o 15 x) σ) = some (wPp x, lS (wLc n o) (sI h o 15 (wDn x)) σ) := qRu_below_ev (m := 21) (by omega) (by omega)
theorem qM_draw21 {x : Int32} : qM_draw 21 (lS (wLm n) (sI h 215 47 x) σ) = some (wPp x, lS (wLm n) (sI h 215 47 (wDn x)) σ) := qM_draw_ev (m := 21) (by omega) (by omega)
theorem qRu_belown {x : Int32} {m : Nat} (hm : 1 ≤ m) (hm2 : m < 1000) : qRu_below o (nI m) (lS (wLc n o) (sI h o 15 x) σ) = some (wSy m x, lS (wLc n o) (sI h o 15 (wDn x)) σ) := qRu_below_ev hm hm2
theorem qM_drawn' {x : Int32} {m : Nat} (hm : 1 ≤ m) (hm2 : m < 1000) : qM_draw (nI m) (lS (wLm n) (sI h 215 47 x) σ) = some (wSy m x, lS (wLm n) (sI h 215 47 (wDn x)) σ) := qM_draw_ev hm hm2
def wKd (dg : Nat) : Nat := if dg < 6 then 1 else if dg = 6 then 2 else 3
def spDr2 (re sh : Int32) (c : wC) (dg : Nat) (a : Int32 × wS) : Int32 × wS :=
  if dg < 4 then (wDn a.1, (spDid re sh c 0 (-1) (-1) a.2).getD a.2)
  else if c.1 = 0 then (wDn a.1, a.2)
  else if 7 < dg then (wDn (wDn (wDn a.1)), (spDid re sh c 4 (wSy c.1 (wDn a.1)) (wPp (wDn (wDn a.1))) a.2).getD a.2)
  else (wDn (wDn a.1), (spDid re sh c (wKd dg) (wSy c.1 (wDn a.1)) (-1) a.2).getD a.2)
def spDr (re sh : Int32) (c : wC) (a : Int32 × wS) : Int32 × wS := spDr2 re sh c (wDg a.1) a
theorem spDid_gok {kk : Nat} {sy p : Int32} (hn : c.1 ≤ 7) (hp : kk = 4 → ∃ q, q ≤ 20 ∧ p = nI q) (hk : kk ≤ 4) (H : wOk c.1 σ) : wOk c.1 ((spDid re sh c kk sy p σ).getD σ) := by
  cases e : spDid re sh c kk sy p σ with
  | none => exact H
  | some τ => exact spDid_ok hn hp hk H e
theorem wKd_3 (dg : Nat) : 1 ≤ wKd dg ∧ wKd dg ≤ 3 := by
  unfold wKd
  split
  · omega
  · split <;> omega
theorem spDr2_ok (hn : c.1 ≤ 7) {a : Int32 × wS} {dg : Nat} (H : wOk c.1 a.2) : wOk c.1 (spDr2 re sh c dg a).2 := by
  unfold spDr2
  split
  · exact spDid_gok hn (fun e => by cases e) (by omega) H
  · split
    · exact H
    · split
      · exact spDid_gok hn (fun _ => wPp_20 _) (by omega) H
      · exact spDid_gok hn (fun e => by have := (wKd_3 dg).2; omega) (by have := (wKd_3 dg).2; omega) H
theorem spDr_ok (hn : c.1 ≤ 7) {a : Int32 × wS} (H : wOk c.1 a.2) : wOk c.1 (spDr re sh c a).2 := spDr2_ok hn H
theorem qRu_passedYear_d (B : wBc h o oc c re sh) (ok : wCok c) (H : wOk c.1 σ) (sy p : Int32) : qRu_passedYear o (lS (wLc c.1 o) h σ) = some (wD2 (wLc c.1 o) h σ (spDid re sh c 0 sy p σ)) := by
  unfold spDid
  rw [if_pos rfl]
  obtain ⟨y, y1, y2⟩ := H.2.2
  by_cases h50 : σ.1 0 = 50
  · rw [qRu_passedYear_no B h50, if_pos h50]
    rfl
  · have hy : y < 50 := by
      apply Nat.lt_of_le_of_ne y1
      intro z
      exact h50 (y2.trans (by rw [z]; rfl))
    rw [qRu_passedYear_ev B ok H hy y2, if_neg h50]
    rfl
theorem qRu_draw_b7_ev (B : wBc h o oc c re sh) (ok : wCok c) {a : Int32 × wS} (H : wOk c.1 a.2) {m i : Nat} (hi : i < m) (hm : m ≤ 60) : qRu_draw_b7 o (nI m) (nI i, lS (wLc c.1 o) (sI h o 15 a.1) a.2) = some (.inl (nI (i + 1), lS (wLc c.1 o) (sI h o 15 (spDr re sh c a).1) (spDr re sh c a).2)) := by
  have n7 := ok.1
  have hd := wDg_lt a.1
  unfold qRu_draw_b7 spDr
  dsimp only
  rw [if_neg (nI_ge hi (by omega)), qRu_below10, Option.bind_some]
  have B1 := wBc_15 (v := wDn a.1) B
  have B2 := wBc_15 (v := wDn (wDn a.1)) B
  have B3 := wBc_15 (v := wDn (wDn (wDn a.1))) B
  have cn : ∀ (x : Int32) (τ : wS), gI (lS (wLc c.1 o) (sI h o 15 x) τ) oc 2 = nI c.1 := fun x τ => cC_n (cC_l B.1 B.2.1 (wBc_15 (v := x) B).2.2.2.2.2)
  have gr : ∀ (x : Int32) (τ : wS), gR (lS (wLc c.1 o) (sI h o 15 x) τ) o = oc := fun x τ => gR_l.trans B.2.2.1
  dsimp only
  generalize wDg a.1 = dg at hd ⊢
  unfold spDr2
  by_cases d4 : dg < 4
  · have ek : qRu_kindDrawn (nI dg) = some 0 := by
      rcases (by omega : dg = 0 ∨ dg = 1 ∨ dg = 2 ∨ dg = 3) with rfl | rfl | rfl | rfl <;> rfl
    rw [ek, Option.bind_some, if_neg (show ¬ ¬ (0 : Int32) = 0 by decide), qRu_passedYear_d B1 ok H (-1) (-1), Option.bind_some, Option.bind_some, wD2_2, if_pos d4, nI_1]
  · obtain ⟨kk, k1, k2, k3, k4⟩ : ∃ kk, 1 ≤ kk ∧ kk ≤ 4 ∧ qRu_kindDrawn (nI dg) = some (nI kk) ∧ kk = (if 7 < dg then 4 else wKd dg) := by
      rcases (by omega : dg = 4 ∨ dg = 5 ∨ dg = 6 ∨ dg = 7 ∨ dg = 8 ∨ dg = 9) with rfl | rfl | rfl | rfl | rfl | rfl
      · exact ⟨1, by omega, by omega, rfl, rfl⟩
      · exact ⟨1, by omega, by omega, rfl, rfl⟩
      · exact ⟨2, by omega, by omega, rfl, rfl⟩
      · exact ⟨3, by omega, by omega, rfl, rfl⟩
      · exact ⟨4, by omega, by omega, rfl, rfl⟩
      · exact ⟨4, by omega, by omega, rfl, rfl⟩
    rw [k3, Option.bind_some, if_pos (show ¬ nI kk = 0 from nI_ne0 (by omega) (by omega)), if_neg d4]
    simp only [zlet]
    rw [gr, if_pos B.2.1, cn]
    by_cases n0 : c.1 = 0
    · rw [if_pos (show nI c.1 ≤ 0 by rw [n0]; decide), Option.bind_some, if_pos n0, nI_1]
    · rw [if_neg (show ¬ nI c.1 ≤ 0 from nI_nle (by omega) (by omega)), if_neg n0, if_pos B.2.1, qRu_belown (by omega) (by omega), Option.bind_some]
      dsimp only
      by_cases d7 : 7 < dg
      · rw [if_pos d7] at k4
        subst k4
        rw [if_neg (show ¬ ¬ nI 4 = (4 : Int32) by decide), qRu_below21, Option.bind_some, Option.bind_some]
        dsimp only
        rw [qRu_did_ev B3 ok H (by omega), Option.bind_some, Option.bind_some, wD2_2, if_pos d7, nI_1]
      · rw [if_neg d7] at k4
        have hk4 := (wKd_3 dg).2
        rw [if_pos (show ¬ nI kk = (4 : Int32) from fun z => by rw [show (4 : Int32) = nI 4 from rfl, nI_eq (by omega) (by omega)] at z; omega), Option.bind_some]
        dsimp only
        rw [qRu_did_ev B2 ok H (by omega), Option.bind_some, Option.bind_some, wD2_2, if_neg d7, nI_1, ← k4]
theorem qM_drawDeed_ev (B : mB h k c) (N : mN h re sh) (ok : wCok c) {a : Int32 × wS} (H : wOk c.1 a.2) : qM_drawDeed (lS (wLm c.1) (sI h 215 47 a.1) a.2) = some (lS (wLm c.1) (sI h 215 47 (spDr re sh c a).1) (spDr re sh c a).2) := by
  have n7 := ok.1
  have hd := wDg_lt a.1
  unfold qM_drawDeed spDr
  unfold zlet
  rw [qM_draw10, Option.bind_some]
  dsimp only
  have cn : ∀ (x : Int32) (τ : wS), gI (lS (wLm c.1) (sI h 215 47 x) τ) 215 23 = nI c.1 := fun x τ => (mB_l (n := c.1) (mB_47 (v := x) B)).2.2.1
  generalize wDg a.1 = dg at hd ⊢
  unfold spDr2
  by_cases d4 : dg < 4
  · have e := qM_does_ev (mB_47 (v := wDn a.1) B) (mN_47 (v := wDn a.1) N) ok H (kk := 0) (by omega) (-1) (-1)
    rw [nI_0] at e
    rw [if_neg (show ¬ (4 : Int32) ≤ nI dg from nI_ge (b := 4) d4 (by decide)), e, Option.bind_some, wD2_2, if_pos d4]
  · rw [if_pos (show (4 : Int32) ≤ nI dg from nI_le (a := 4) (by omega) (by omega)), cn, if_neg d4]
    by_cases n0 : c.1 = 0
    · rw [if_pos (show nI c.1 ≤ 0 by rw [n0]; decide), if_pos n0]
    · rw [if_neg (show ¬ nI c.1 ≤ 0 from nI_nle (by omega) (by omega)), if_neg n0, qM_drawn' (by omega) (by omega), Option.bind_some]
      dsimp only
      by_cases d7 : 7 < dg
      · have ev : (if (6 : Int32) ≤ nI dg then (if ¬ nI dg = 6 then (if ¬ nI dg = 7 then (4 : Int32) else 3) else 2) else 1) = nI 4 := by
          rcases (by omega : dg = 8 ∨ dg = 9) with rfl | rfl <;> rfl
        rw [if_neg (show ¬ nI dg ≤ (7 : Int32) from nI_ge (a := 7) d7 (by omega)), qM_draw21, Option.bind_some, Option.bind_some]
        dsimp only
        rw [ev, qM_does_ev (mB_47 (v := wDn (wDn (wDn a.1))) B) (mN_47 (v := wDn (wDn (wDn a.1))) N) ok H (by omega), Option.bind_some, wD2_2, if_pos d7]
      · have ev : (if (6 : Int32) ≤ nI dg then (if ¬ nI dg = 6 then (if ¬ nI dg = 7 then (4 : Int32) else 3) else 2) else 1) = nI (wKd dg) := by
          rcases (by omega : dg = 4 ∨ dg = 5 ∨ dg = 6 ∨ dg = 7) with rfl | rfl | rfl | rfl <;> rfl
        have hk4 := (wKd_3 dg).2
        rw [if_pos (show nI dg ≤ (7 : Int32) from nI_le (b := 7) (by omega) (by decide)), Option.bind_some]
        dsimp only
        rw [ev, qM_does_ev (mB_47 (v := wDn (wDn a.1)) B) (mN_47 (v := wDn (wDn a.1)) N) ok H (by omega), Option.bind_some, wD2_2, if_neg d7]
theorem wfold_s {α : Type} (f : Nat → α → α) (a : α) (i : Nat) : wfold f a (i + 1) = f i (wfold f a i) := rfl
def wDrw (re sh : Int32) (c : wC) (x : Int32) (i : Nat) : Int32 × wS := wfold (fun _ a => spDr re sh c a) (x, wS0 c) i
theorem wDrw_s (x : Int32) (i : Nat) : wDrw re sh c x (i + 1) = spDr re sh c (wDrw re sh c x i) := by
  unfold wDrw
  rw [wfold_s]
theorem wDrw_ok (ok : wCok c) (x : Int32) (i : Nat) : wOk c.1 (wDrw re sh c x i).2 := by
  induction i with
  | zero => exact wS0_ok ok
  | succ i ih =>
    rw [wDrw_s]
    exact spDr_ok ok.1 ih
theorem qRu_draw_ev (B : wBc h o oc c re sh) (ok : wCok c) (x : Int32) {m : Nat} (hm : m ≤ 60) : qRu_draw o x (nI m) (lS (wLc c.1 o) h (wS0 c)) = some (lS (wLc c.1 o) (sI h o 15 (wDrw re sh c x m).1) (wDrw re sh c x m).2) := by
  have e : zloop (qRu_draw_b7 o (nI m)) zfu (0, lS (wLc c.1 o) (sI h o 15 x) (wS0 c)) = some (lS (wLc c.1 o) (sI h o 15 (wDrw re sh c x m).1) (wDrw re sh c x m).2) := by
    refine zloop_for (fun i => (nI i, lS (wLc c.1 o) (sI h o 15 (wDrw re sh c x i).1) (wDrw re sh c x i).2)) m (fun i hi => ?_) ?_ (zfu_lt (by omega))
    · rw [wDrw_s]
      exact qRu_draw_b7_ev B ok (wDrw_ok ok x i) hi hm
    · unfold qRu_draw_b7
      dsimp only
      rw [if_pos (nI_le (Nat.le_refl _) (by omega))]
  unfold qRu_draw
  simp only [zlet]
  rw [cS_o15, e, Option.bind_some]
theorem qM_drawn_b33_ev (B : mB h k c) (N : mN h re sh) (ok : wCok c) (x z : Int32) {m : Nat} (hm : m ≤ 60) : zloop (qM_drawn_b33 (nI m) z) zfu (0, lS (wLm c.1) (sI h 215 47 x) (wS0 c)) = some (lS (wLm c.1) (sI h 215 47 (wDrw re sh c x m).1) (wDrw re sh c x m).2) := by
  refine zloop_for (fun i => (nI i, lS (wLm c.1) (sI h 215 47 (wDrw re sh c x i).1) (wDrw re sh c x i).2)) m (fun i hi => ?_) ?_ (zfu_lt (by omega))
  · unfold qM_drawn_b33
    dsimp only
    rw [if_neg (nI_ge hi (by omega)), qM_drawDeed_ev B N ok (wDrw_ok ok x i), Option.bind_some, nI_1, wDrw_s]
  · unfold qM_drawn_b33
    dsimp only
    rw [if_pos (nI_le (Nat.le_refl _) (by omega))]
end DRAWN
theorem wo_drawn {h : zK} (H : InvB h) (a x z y : Int32) : ∃ w h1 h2, qC_drawn a x z y h = some (w, h1) ∧ qM_drawn a x z y h1 = some (w, h2) := by
  have e61 : nI 61 - 1 = (60 : Int32) := by decide
  unfold qC_drawn qM_drawn
  simp only [zlet]
  rcases wcell H a with ⟨e1, e2⟩ | ⟨k, c, hk, rfl, c1, c2, c3, e1, e2, e4⟩
  · rw [e1, Option.bind_some]
    refine ⟨-1, h, sI h 215 0 0, rfl, ?_⟩
    rw [e2 _ (wEq_s (by unfold wKp; omega)), Option.bind_some]
    split <;> rfl
  · rw [e1, Option.bind_some]
    dsimp only
    rw [if_pos e2]
    rcases zf_in_n (m := 61) (by omega) z with ⟨m, hm, rfl, hz⟩ | ⟨hx, hz⟩
    · rw [e61] at hz
      obtain ⟨h1, b1, b2, b3, b4⟩ := qRu_begin_ev (o := 166) (Or.inl rfl) e2 c2 c1
      have F := qRu_draw_ev b2 c1 x (m := m) (by omega)
      rw [b3] at F
      have eq2 := wEq_2 (wEq2_f (f_qRu_begin (by rcases e2 with e | e <;> rw [e] <;> decide) b1) (by decide))
      have eq3 := wEq_2 (wEq2_f (f_qRu_draw (by decide) F) (by decide))
      obtain ⟨ρ, hρ⟩ : ∃ ρ, ρ = wDrw (nI c.2.2.1) (nI c.2.1) c x m := ⟨_, rfl⟩
      rw [← hρ] at F eq3
      obtain ⟨h2, g1, g2, g3, g4, -⟩ := e4 (sI (lS (wLc c.1 166) (sI h1 166 15 ρ.1) ρ.2) 215 0 0) (wEq_t (wEq_t eq2 eq3) (wEq_s (by unfold wKp; omega)))
      have P := qM_drawn_b33_ev (re := nI c.2.2.1) (sh := nI c.2.1) g2 ⟨g3.1, g3.2⟩ c1 x y (m := m) (by omega)
      rw [← mS_o47, mB3_l g4, ← hρ] at P
      obtain ⟨v, v1, v2⟩ := wlook (σ := ρ.2) (wBc_15 (v := ρ.1) b2) c1 (mB_47 (v := ρ.1) g2) y
      refine ⟨v, lS (wLc c.1 166) (sI h1 166 15 ρ.1) ρ.2, lS (wLm c.1) (sI h2 215 47 ρ.1) ρ.2, ?_, ?_⟩
      · rw [if_neg (nI_pos (by omega)), if_pos (show nI m ≤ (60 : Int32) from nI_le (b := 60) (by omega) (by decide)), b1, Option.bind_some, F, Option.bind_some, v1, Option.bind_some]
      · rw [hz, if_neg (show ¬ (1 : Int32) = 0 by decide), g1, Option.bind_some]
        dsimp only
        rw [if_pos (show ¬ (1 : Int32) = 0 by decide), P, Option.bind_some, v2, Option.bind_some]
    · rw [e61] at hz
      refine ⟨-1, h, sI h 215 0 0, ?_, by rw [hz, if_pos rfl]⟩
      rcases hx with hx | ⟨j, j1, j2, rfl⟩
      · rw [if_pos hx]
      · rw [if_neg (nI_pos j2), if_neg (show ¬ nI j ≤ (60 : Int32) from nI_ge (a := 60) (by omega) j2)]
