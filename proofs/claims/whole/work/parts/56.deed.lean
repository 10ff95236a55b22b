/-! a deed, class and reference -/
section DEED
variable {h : zK} {o oc k n s i : Nat} {c : wC} {re sh : Int32} {σ : wS}
def wB1 (s : Nat) : Int32 := (1 : Int32) <<< (nI s &&& 31)
def spOpen (s : Nat) (σ : wS) : wS :=
  if zf_has (σ.1 5) (nI s) = 0 then
    (if σ.1 10 < σ.2 0 s ∨ (σ.2 0 s = σ.1 10 ∧ ¬ σ.1 7 ≤ nI s) then (upd (upd (upd (upd σ.1 3 (σ.1 3 ||| wB1 s)) 1 (σ.1 1 + σ.2 0 s)) 7 (nI s)) 10 (σ.2 0 s), σ.2)
    else (upd (upd σ.1 3 (σ.1 3 ||| wB1 s)) 1 (σ.1 1 + σ.2 0 s), σ.2))
  else (upd (upd σ.1 3 (σ.1 3 ||| wB1 s)) 8 (σ.1 8 + 1), σ.2)
def spDs (kk s : Nat) (p : Int32) (σ : wS) : Option wS :=
  if ¬ zf_has (σ.1 3) (nI s) = 0 then none
  else if kk = 1 then some (spOpen s σ)
  else if kk = 2 then (if zf_has (σ.1 4) (nI s) = 0 then some (upd σ.1 4 (σ.1 4 ||| wB1 s), zu σ.2 2 s (σ.2 2 s + 5)) else none)
  else if kk = 3 then (if zf_has (σ.1 5) (nI s) = 0 then some (upd σ.1 5 (σ.1 5 ||| wB1 s), σ.2) else none)
  else (if ¬ σ.2 3 s = p then some (upd σ.1 9 (σ.1 9 + 1), zu σ.2 3 s p) else none)
def spDid (re sh : Int32) (c : wC) (kk : Nat) (sy p : Int32) (σ : wS) : Option wS :=
  if kk = 0 then (if σ.1 0 = 50 then none else some (spYear re sh c σ))
  else if zf_in sy 0 (nI c.1 - 1) = 0 then none
  else spDs kk sy.toNatClampNeg p σ
def wD2 (A : wA) (h : zK) (σ : wS) : Option wS → Int32 × zK
  | none => (0, lS A h σ)
  | some τ => (1, lS A h τ)
theorem spOpen_3 (σ : wS) : (spOpen s σ).1 3 = σ.1 3 ||| wB1 s ∧ (spOpen s σ).1 0 = σ.1 0 ∧ (spOpen s σ).2 = σ.2 := by
  unfold spOpen
  split
  · split <;> exact ⟨rfl, rfl, rfl⟩
  · exact ⟨rfl, rfl, rfl⟩
theorem spDs_ok {kk : Nat} {p : Int32} {τ : wS} (hs : s < 7) (hp : kk = 4 → ∃ q, q ≤ 20 ∧ p = nI q) (hk : kk ≤ 4) (hk1 : 1 ≤ kk) (H : wOk n σ) (e : spDs kk s p σ = some τ) : wOk n τ := by
  obtain ⟨⟨g, g1, g2⟩, hpl, y, y1, y2⟩ := H
  unfold spDs at e
  split at e
  · cases e
  · split at e
    · cases e
      obtain ⟨a1, a2, a3⟩ := spOpen_3 (s := s) σ
      refine ⟨⟨g ||| 2 ^ s, wor_lt g1 (wpow7 s hs), ?_⟩, ?_, y, y1, a2.trans y2⟩
      · rw [a1, g2]
        unfold wB1
        rw [wshl s (by omega), fa_or]
      · unfold wPl
        rw [a3]
        exact hpl
    · split at e
      · split at e
        · cases e
          refine ⟨⟨g, g1, g2⟩, fun t ht => ?_, y, y1, y2⟩
          obtain ⟨q, q1, q2⟩ := hpl t ht
          exact ⟨q, q1, (zu_r (f := σ.2) (a := 2) (k := s) (v := σ.2 2 s + 5) (b := 3) t (by decide)).trans q2⟩
        · cases e
      · split at e
        · split at e
          · cases e
            exact ⟨⟨g, g1, g2⟩, hpl, y, y1, y2⟩
          · cases e
        · split at e
          · cases e
            refine ⟨⟨g, g1, g2⟩, fun t ht => ?_, y, y1, y2⟩
            obtain ⟨q, q1, q2⟩ := hpl t ht
            obtain ⟨q', q3, q4⟩ := hp (by omega)
            show ∃ p', p' ≤ 20 ∧ zu σ.2 3 s p 3 t = nI p'
            unfold zu
            by_cases e : t = s
            · exact ⟨q', q3, by rw [if_pos ⟨rfl, e⟩, q4]⟩
            · exact ⟨q, q1, by rw [if_neg (fun z => e z.2), q2]⟩
          · cases e
theorem spDid_ok {kk : Nat} {sy p : Int32} {τ : wS} (hn : c.1 ≤ 7) (hp : kk = 4 → ∃ q, q ≤ 20 ∧ p = nI q) (hk : kk ≤ 4) (H : wOk c.1 σ) (e : spDid re sh c kk sy p σ = some τ) : wOk c.1 τ := by
  unfold spDid at e
  split at e
  · split at e
    · cases e
    · cases e
      rename_i h50
      obtain ⟨y, y1, y2⟩ := H.2.2
      have : y < 50 := by
        apply Nat.lt_of_le_of_ne y1
        intro z
        exact h50 (y2.trans (by rw [z]; rfl))
      exact spYear_ok hn H this y2
  · split at e
    · cases e
    · rename_i h0 hz
      rcases zf_in_n (m := c.1) (by omega) sy with ⟨j, hj, rfl, -⟩ | ⟨-, hz2⟩
      · rw [nI_clamp (by omega)] at e
        exact spDs_ok (by omega) hp hk (by omega) H e
      · exact absurd hz2 hz
theorem zbool_1 : zbool 1 = true := rfl
theorem zbool_0 : zbool 0 = true := rfl
theorem qM_does_ev (B : mB h k c) (N : mN h re sh) (ok : wCok c) (H : wOk c.1 σ) {kk : Nat} (hk : kk ≤ 4) (sy p : Int32) : qM_does (nI kk) sy p (lS (wLm c.1) h σ) = some (wD2 (wLm c.1) h σ (spDid re sh c kk sy p σ)) := by
  have n7 := ok.1
  have L := wLm_ok c.1
  have g : ∀ (τ : wS) (i : Nat), i < 7 → gI (lS (wLm c.1) h τ) 215 (26 + i) = τ.1 i := fun τ i hi => lS_sc (A := wLm c.1) (σ := τ) L hi rfl
  have w : ∀ (τ : wS) (i : Nat) (v : Int32), i < 7 → sI (lS (wLm c.1) h τ) 215 (26 + i) v = lS (wLm c.1) h (upd τ.1 i v, τ.2) := fun τ i v hi => lS_ws (A := wLm c.1) (σ := τ) L hi rfl
  have gr : ∀ (τ : wS) (r t : Nat), r < 4 → t < c.1 → gI (lS (wLm c.1) h τ) (226 + r) t = τ.2 r t := fun τ r t hr ht => lS_rw (A := wLm c.1) (σ := τ) L hr rfl ht
  have wr : ∀ (τ : wS) (r t : Nat) (v : Int32), r < 4 → t < c.1 → sI (lS (wLm c.1) h τ) (226 + r) t v = lS (wLm c.1) h (τ.1, zu τ.2 r t v) := fun τ r t v hr ht => lS_wr (A := wLm c.1) (σ := τ) L hr rfl ht
  unfold qM_does spDid
  by_cases k0 : kk = 0
  · subst k0
    rw [if_neg (show ¬ ¬ nI 0 = 0 by decide), if_pos rfl]
    obtain ⟨y, y1, y2⟩ := H.2.2
    by_cases h50 : σ.1 0 = 50
    · rw [qM_goesOn_no B h50, Option.bind_some, if_pos h50, if_pos (show zbool (0, lS (wLm c.1) h σ).1 = true from rfl)]
      rfl
    · have hy : y < 50 := by
        apply Nat.lt_of_le_of_ne y1
        intro z
        exact h50 (y2.trans (by rw [z]; rfl))
      rw [qM_goesOn_ev B N ok H hy y2, Option.bind_some, if_neg h50]
      dsimp only
      rw [if_pos zbool_1]
      rfl
  · have kz : ¬ nI kk = 0 := nI_ne0 (by omega) (by omega)
    rw [if_pos kz, if_neg k0]
    unfold qM_isHere
    rw [qM_isSaying_ev (mB_l (n := c.1) B), Option.bind_some]
    rcases zf_in_n (m := c.1) (by omega) sy with ⟨s, hs, rfl, hz⟩ | ⟨-, hz⟩
    · rw [hz, if_neg (show ¬ (1 : Int32) = 0 by decide), if_neg (show ¬ (1 : Int32) = 0 by decide), nI_clamp (by omega), g σ 3 (by omega)]
      unfold spDs
      by_cases hg : zf_has (σ.1 3) (nI s) = 0
      · rw [if_neg (show ¬ ¬ zf_has (σ.1 3) (nI s) = 0 from fun z => z hg), Option.bind_some, if_pos (show ¬ (1 : Int32) = 0 by decide), if_neg (show ¬ ¬ zf_has (σ.1 3) (nI s) = 0 from fun z => z hg)]
        rcases (by omega : kk = 1 ∨ kk = 2 ∨ kk = 3 ∨ kk = 4) with rfl | rfl | rfl | rfl
        · rw [if_pos (show nI 1 = (1 : Int32) from rfl), if_pos rfl]
          simp only [zlet]
          rw [w σ 3 _ (by omega), g _ 5 (by omega), show (upd σ.1 3 (σ.1 3 ||| (1 : Int32) <<< (nI s &&& 31)), σ.2).1 5 = σ.1 5 from rfl, zix_nI (by omega) (by omega), Option.bind_some, gr _ 0 s (by omega) hs, g _ 1 (by omega), show (upd σ.1 3 (σ.1 3 ||| (1 : Int32) <<< (nI s &&& 31)), σ.2).1 1 = σ.1 1 from rfl]
          unfold spOpen
          by_cases ht : zf_has (σ.1 5) (nI s) = 0
          · rw [if_pos ht, if_pos ht, Option.bind_some, w _ 1 _ (by omega)]
            split
            · unfold wD2
              dsimp only
              rw [lS_ws0 (A := wLm c.1) (σ := (_, σ.2)) (i := 10) (show ¬ 10 < 7 by decide), lS_ws0 (A := wLm c.1) (σ := (_, σ.2)) (i := 7) (show ¬ 7 < 7 by decide)]
              rfl
            · rfl
          · rw [if_neg ht, if_neg ht, Option.bind_some, w _ 1 _ (by omega), Int32.add_zero]
            unfold wD2
            dsimp only
            rw [lS_ws0 (A := wLm c.1) (σ := (_, σ.2)) (i := 8) (show ¬ 8 < 7 by decide)]
            have e : upd (upd σ.1 3 (σ.1 3 ||| (1 : Int32) <<< (nI s &&& 31))) 1 (σ.1 1) = upd σ.1 3 (σ.1 3 ||| (1 : Int32) <<< (nI s &&& 31)) := fa_upd_same rfl
            rw [e]
            rfl
        · rw [if_neg (show ¬ nI 2 = (1 : Int32) by decide), if_pos (show nI 2 = (2 : Int32) from rfl), if_neg (show ¬ (2 : Nat) = 1 by decide), if_pos rfl, g σ 4 (by omega)]
          simp only [zlet]
          by_cases ht : zf_has (σ.1 4) (nI s) = 0
          · rw [if_pos ht, if_pos ht, w σ 4 _ (by omega), zix_nI (by omega) (by omega), Option.bind_some, gr _ 2 s (by omega) hs, wr _ 2 s _ (by omega) hs]
            rfl
          · rw [if_neg ht, if_neg ht]
            rfl
        · rw [if_neg (show ¬ nI 3 = (1 : Int32) by decide), if_neg (show ¬ nI 3 = (2 : Int32) by decide), if_pos (show nI 3 = (3 : Int32) from rfl), if_neg (show ¬ (3 : Nat) = 1 by decide), if_neg (show ¬ (3 : Nat) = 2 by decide), if_pos rfl, g σ 5 (by omega)]
          simp only [zlet]
          by_cases ht : zf_has (σ.1 5) (nI s) = 0
          · rw [if_pos ht, if_pos ht, w σ 5 _ (by omega)]
            rfl
          · rw [if_neg ht, if_neg ht]
            rfl
        · rw [if_neg (show ¬ nI 4 = (1 : Int32) by decide), if_neg (show ¬ nI 4 = (2 : Int32) by decide), if_neg (show ¬ nI 4 = (3 : Int32) by decide), if_neg (show ¬ (4 : Nat) = 1 by decide), if_neg (show ¬ (4 : Nat) = 2 by decide), if_neg (show ¬ (4 : Nat) = 3 by decide), zix_nI (by omega) (by omega), Option.bind_some, gr σ 3 s (by omega) hs]
          simp only [zlet]
          by_cases ht : σ.2 3 s = p
          · rw [if_neg (show ¬ ¬ σ.2 3 s = p from fun z => z ht), if_neg (show ¬ ¬ σ.2 3 s = p from fun z => z ht)]
            rfl
          · rw [if_pos ht, if_pos ht, wr σ 3 s _ (by omega) hs]
            unfold wD2
            dsimp only
            rw [lS_ws0 (A := wLm c.1) (σ := (σ.1, zu σ.2 3 s p)) (i := 9) (show ¬ 9 < 7 by decide)]
      · rw [if_pos hg, Option.bind_some, if_neg (show ¬ ¬ (0 : Int32) = 0 by decide), if_pos hg]
        rfl
    · rw [hz, if_pos rfl, Option.bind_some, if_neg (show ¬ ¬ (0 : Int32) = 0 by decide), if_pos rfl]
      rfl
end DEED
