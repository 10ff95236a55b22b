/-! THE CLAIM OUT OF A STATEMENT ABOUT PLAIN FUNCTIONS -/
theorem zcal_mono2 {X X' : zX} (hx : zxle X X') {d d' n n' : Nat} (hd : d ≤ d') (h : n ≤ n') : zcals (zcal X zP d n) (zcal X' zP d' n') := by
  intro mid args h1 r e
  unfold zcal at e ⊢
  cases d with
  | zero => cases e
  | succ d0 =>
    cases d' with
    | zero => omega
    | succ d1 =>
      dsimp only at e ⊢
      split at e
      · cases e
      · exact zrun_mono hx _ _ _ _ _ _ _ h (by omega) e
theorem zEv_pd {X X' : zX} (hx : zxle X X') {d d' n : Nat} (hd : d ≤ d') {M : zM} {r : zA} : ∀ (k : Nat) {f f' : zF}, zprt X d n M k f = some f' → zEv X' d' M f' r → zEv X' d' M f r := by
  intro k
  induction k with
  | zero => intro f f' h e; cases h; exact e
  | succ k ih =>
    intro f f' h e
    unfold zprt at h
    split at h
    · rename_i f2 h2
      obtain ⟨n2, hn⟩ := ih h e
      refine ⟨max n n2 + 1, ?_⟩
      rw [zrun_s, zstep_mono hx (zcal_mono2 hx hd (Nat.le_max_left n n2)) _ h2]
      exact zrun_mono (fun _ _ h => h) _ _ _ _ _ _ _ (Nat.le_max_right n n2) (Nat.le_refl _) hn
    · cases h
def zSt : zK := (zf00, zsc.2.2.1, zsc.2.2.2)
theorem zSt_hp : zhp zSt = (zS0, zsc.2.1, zsc.2.2.1, zsc.2.2.2) := by
  unfold zhp zSt
  dsimp only
  rw [← zRr_0]
set_option maxRecDepth 20000 in
theorem zS0_len : zS0.length ≤ 600000 ∧ zsz zS0 ≤ 7302250 := by decide +kernel
theorem zLaw_of (hp : ∀ (Ls : Nat) (xs : Nat → Int32), Ls ≤ 3072 → ∃ h', qL_law Ls xs zSt = some (1, h')) : zLaw := by
  intro L xs hL
  obtain ⟨h', hq⟩ := hp L xs hL
  have Z := t_qL_law (d := 0) hq
  rw [zSt_hp] at Z
  have W := zEv_pd (X := fun _ => none) (X' := zXs L xs) (fun _ _ h => by cases h) (d := 10) (d' := 0 + 14) (by decide) 10 zf1_eq Z
  obtain ⟨n, hn⟩ := W
  exact ⟨14, n, zhp h', by decide, hn, zS0_len.1, zS0_len.2⟩
