/-! RUNS, WITHOUT THEIR FUEL -/
def zEv (X : zX) (d : Nat) (M : zM) (f : zF) (r : zA) : Prop := ∃ n, zrun X zP d n M f = some r
def znoc : zC := fun _ _ _ => none
def zst (X : zX) (M : zM) : Nat → zF → Option zF
  | 0, f => some f
  | k + 1, f => match zstep X zP znoc M f with
    | some (.inl f') => zst X M k f'
    | _ => none
theorem zEv_1 {X : zX} {d : Nat} {M : zM} {f f' : zF} {r : zA} (h : zstep X zP znoc M f = some (.inl f')) (k : zEv X d M f' r) : zEv X d M f r := by
  obtain ⟨n, hn⟩ := k
  refine ⟨n + 1, ?_⟩
  rw [zrun_s, zstep_mono (X' := X) (c' := zcal X zP d n) (fun _ _ h => h) (fun _ _ _ _ h => by cases h) _ h]
  exact hn
theorem zEv_k {X : zX} {d : Nat} {M : zM} {r : zA} : ∀ (k : Nat) {f f' : zF}, zst X M k f = some f' → zEv X d M f' r → zEv X d M f r := by
  intro k
  induction k with
  | zero => intro f f' h e; cases h; exact e
  | succ k ih =>
    intro f f' h e
    unfold zst at h
    split at h
    · rename_i f2 h2
      exact zEv_1 h2 (ih h e)
    · cases h
theorem zEv_r {X : zX} {d : Nat} {M : zM} {f : zF} {r : zA} (h : zstep X zP znoc M f = some (.inr r)) : zEv X d M f r := by
  refine ⟨1, ?_⟩
  rw [zrun_s, zstep_mono (X' := X) (c' := zcal X zP d 0) (fun _ _ h => h) (fun _ _ _ _ h => by cases h) _ h]
theorem zEv_if {X : zX} {d : Nat} {M : zM} {c : Prop} [Decidable c] {a b : Nat} {L : zL} {st : List Value} {h : zH} {r : zA} (k1 : c → zEv X d M (a, L, st, h) r) (k2 : ¬ c → zEv X d M (b, L, st, h) r) : zEv X d M (if c then a else b, L, st, h) r := by
  by_cases hc : c
  · rw [if_pos hc]; exact k1 hc
  · rw [if_neg hc]; exact k2 hc
theorem tst_has (X : zX) (d : Nat) (x y : Int32) (h : zH) : zEv X d zm_152 (0, [some (.int x), some (.int y)], [], h) (some (.int (if (x >>> (y &&& 31)) &&& 1 = 1 then 1 else 0)), h) := by
  refine zEv_k 7 (f' := (if ¬ (x >>> (y &&& 31)) &&& 1 = 1 then 13 else 9, [some (.int x), some (.int y)], [], h)) rfl ?_
  refine zEv_if (fun c => ?_) (fun c => ?_)
  · rw [if_neg c]
    exact zEv_k 1 (f' := (14, [some (.int x), some (.int y)], [.int 0], h)) rfl (zEv_r rfl)
  · rw [if_pos (Decidable.of_not_not c)]
    exact zEv_k 2 (f' := (14, [some (.int x), some (.int y)], [.int 1], h)) rfl (zEv_r rfl)
