/-! THE RUN: fuel n, depth d -/
def zrun (X : zX) (P : Nat → Option zM) : Nat → Nat → zM → zF → Option zA
  | _, 0, _, _ => none
  | d, n + 1, M, f => match zstep X P (fun mid args h => match d with
      | 0 => none
      | d' + 1 => match P mid with
        | none => none
        | some M' => zrun X P d' n M' (0, zentry M'.2.2.1 args, [], h)) M f with
    | some (.inl f') => zrun X P d n M f'
    | some (.inr r) => some r
    | none => none
def zcal (X : zX) (P : Nat → Option zM) (d n : Nat) : zC := fun mid args h => match d with
  | 0 => none
  | d' + 1 => match P mid with
    | none => none
    | some M' => zrun X P d' n M' (0, zentry M'.2.2.1 args, [], h)
theorem zrun_0 (X : zX) (P : Nat → Option zM) (d : Nat) (M : zM) (f : zF) : zrun X P d 0 M f = none := by
  unfold zrun; rfl
theorem zrun_s (X : zX) (P : Nat → Option zM) (d n : Nat) (M : zM) (f : zF) : zrun X P d (n + 1) M f = match zstep X P (zcal X P d n) M f with
    | some (.inl f') => zrun X P d n M f'
    | some (.inr r) => some r
    | none => none := by
  rw [zrun]; rfl
/-- what one step may come to, under a claim of its end -/
def zall (Q : zF ⊕ zA → Prop) (z : zN) : Prop := ∀ r, z = some r → Q r
theorem zall_n {Q : zF ⊕ zA → Prop} : zall Q none := fun _ h => by cases h
theorem zall_s {Q : zF ⊕ zA → Prop} {r : zF ⊕ zA} (h : Q r) : zall Q (some r) := fun _ e => by cases e; exact h
theorem zall_if {Q : zF ⊕ zA → Prop} {c : Prop} [Decidable c] {a b : zN} (ha : c → zall Q a) (hb : ¬ c → zall Q b) : zall Q (if c then a else b) := by
  split
  · exact ha ‹_›
  · exact hb ‹_›
section ZALL
variable {Q : zF ⊕ zA → Prop} {st : List Value}
theorem zall_1i {k : Int32 → List Value → zN} (h : ∀ x r, zall Q (k x r)) : zall Q (z1i st k) := by
  unfold z1i; split
  · exact h _ _
  · exact zall_n
theorem zall_2i {k : Int32 → Int32 → List Value → zN} (h : ∀ x y r, zall Q (k x y r)) : zall Q (z2i st k) := by
  unfold z2i; split
  · exact h _ _ _
  · exact zall_n
theorem zall_1l {k : Int64 → List Value → zN} (h : ∀ x r, zall Q (k x r)) : zall Q (z1l st k) := by
  unfold z1l; split
  · exact h _ _
  · exact zall_n
theorem zall_2l {k : Int64 → Int64 → List Value → zN} (h : ∀ x y r, zall Q (k x y r)) : zall Q (z2l st k) := by
  unfold z2l; split
  · exact h _ _ _
  · exact zall_n
theorem zall_li {k : Int64 → Int32 → List Value → zN} (h : ∀ x y r, zall Q (k x y r)) : zall Q (zli st k) := by
  unfold zli; split
  · exact h _ _ _
  · exact zall_n
theorem zall_1a {k : Nat → List Value → zN} (h : ∀ x r, zall Q (k x r)) : zall Q (z1a st k) := by
  unfold z1a; split
  · exact h _ _
  · exact zall_n
theorem zall_ai {k : Nat → Int32 → List Value → zN} (h : ∀ x y r, zall Q (k x y r)) : zall Q (zai st k) := by
  unfold zai; split
  · exact h _ _ _
  · exact zall_n
theorem zall_aii {k : Nat → Int32 → Int32 → List Value → zN} (h : ∀ a x y r, zall Q (k a x y r)) : zall Q (zaii st k) := by
  unfold zaii; split
  · exact h _ _ _ _
  · exact zall_n
theorem zall_ail {k : Nat → Int32 → Int64 → List Value → zN} (h : ∀ a x y r, zall Q (k a x y r)) : zall Q (zail st k) := by
  unfold zail; split
  · exact h _ _ _ _
  · exact zall_n
theorem zall_aia {k : Nat → Int32 → Nat → List Value → zN} (h : ∀ a x y r, zall Q (k a x y r)) : zall Q (zaia st k) := by
  unfold zaia; split
  · exact h _ _ _ _
  · exact zall_n
theorem zall_go {pc : Nat} {L : zL} {h : zH} (hq : Q (.inl (pc, L, st, h))) : zall Q (zgo pc L st h) := zall_s hq
theorem zall_jp {pc : Nat} {off : Int} {c : Prop} [Decidable c] {L : zL} {h : zH} (hq : ∀ pc', Q (.inl (pc', L, st, h))) : zall Q (zjp pc off c L st h) := zall_if (fun _ => zall_s (hq _)) (fun _ => zall_n)
theorem zall_ld {L : zL} {i pc : Nat} {h : zH} {ok : Value → Bool} (hq : ∀ v, Q (.inl (pc, L, v :: st, h))) : zall Q (zld L i pc st h ok) := by
  unfold zld; split
  · exact zall_if (fun _ => zall_go (hq _)) (fun _ => zall_n)
  · exact zall_n
theorem zall_aload {X : zX} {S : zS} {I : zI} {ty : FieldType} {a : Nat} {i : Int32} {k : Int32 → zN} (h : ∀ x, zall Q (k x)) : zall Q (zaload X S I ty a i k) := by
  unfold zaload
  refine zall_if (fun _ => ?_) (fun _ => zall_if (fun _ => ?_) (fun _ => zall_n))
  · split
    · exact zall_if (fun _ => zall_if (fun _ => zall_n) (fun _ => h _)) (fun _ => zall_n)
    · exact zall_n
  · split
    · exact zall_if (fun _ => zall_n) (fun _ => h _)
    · exact zall_n
theorem zall_arr {S : zS} {ty : FieldType} {a : Nat} {i : Int32} {k : Nat → zN} (h : ∀ x, zall Q (k x)) : zall Q (zarr S a ty i k) := by
  unfold zarr; split
  · exact zall_if (fun _ => zall_if (fun _ => zall_n) (fun _ => h _)) (fun _ => zall_n)
  · exact zall_n
theorem zall_obj {S : zS} {a ci : Nat} {k : zN} (h : zall Q k) : zall Q (zobj S a ci k) := by
  unfold zobj; split
  · exact zall_if (fun _ => h) (fun _ => zall_n)
  · exact zall_n
end ZALL
/-- how many elements and fields -/
def zsz : zS → Nat
  | [] => 0
  | .inl (_, n) :: r => n + zsz r
  | .inr ci :: r => (match vwCl[ci]? with
    | some q => q.2.2
    | none => 0) + zsz r
theorem zsz_app (a b : zS) : zsz (a ++ b) = zsz a + zsz b := by
  induction a with
  | nil => simp [zsz]
  | cons x r ih =>
    rcases x with ⟨t, n⟩ | ci
    · simp only [List.cons_append, zsz, ih]; omega
    · simp only [List.cons_append, zsz, ih]; omega
def zle (h h' : zH) : Prop := h.1.length ≤ h'.1.length ∧ zsz h.1 ≤ zsz h'.1
theorem zle_rf {h : zH} : zle h h := ⟨Nat.le_refl _, Nat.le_refl _⟩
theorem zle_tr {a b c : zH} (h1 : zle a b) (h2 : zle b c) : zle a c := ⟨Nat.le_trans h1.1 h2.1, Nat.le_trans h1.2 h2.2⟩
theorem zle_app {S T : zS} {R R' : zR} {I I' : zI} {J J' : zJ} : zle (S, R, I, J) (S ++ T, R', I', J') := ⟨by simp, by simp [zsz_app]⟩
def zleQ (h : zH) : zF ⊕ zA → Prop
  | .inl f => zle h f.2.2.2
  | .inr r => zle h r.2
def zcle (cal : zC) : Prop := ∀ mid args h v h', cal mid args h = some (v, h') → zle h h'
theorem zall_inv {cal : zC} (hc : zcle cal) {M' : Option zM} {mid kind pc : Nat} {L : zL} {st : List Value} {h : zH} : zall (zleQ h) (zinvoke cal M' mid kind pc L st h) := by
  unfold zinvoke
  split
  · exact zall_n
  · refine zall_if (fun _ => ?_) (fun _ => zall_n)
    dsimp only
    refine zall_if (fun _ => ?_) (fun _ => zall_n)
    have fin : ∀ (ret : Option FieldType) (args rest : List Value), zall (zleQ h) (zfin ret pc L rest h (cal mid args h)) := by
      intro ret args rest
      unfold zfin
      cases hh : cal mid args h with
      | none => exact zall_n
      | some z =>
        obtain ⟨v, h'⟩ := z
        have hz := hc _ _ _ _ _ hh
        dsimp only
        refine zall_if (fun _ => ?_) (fun _ => zall_n)
        cases v with
        | none => exact zall_if (fun _ => zall_go hz) (fun _ => zall_n)
        | some w => exact zall_if (fun _ => zall_n) (fun _ => zall_go hz)
    refine zall_if (fun _ => fin _ _ _) (fun _ => ?_)
    split
    · exact zall_obj (fin _ _ _)
    · exact zall_n
theorem zall_ret {M : zM} {st : List Value} {h : zH} {i : Instr} : zall (zleQ h) (zret M st h i) := by
  unfold zret
  split
  · exact zall_s zle_rf
  · exact zall_s zle_rf
  · exact zall_if (fun _ => zall_s zle_rf) (fun _ => zall_n)
  · exact zall_s zle_rf
  · exact zall_s zle_rf
  · exact zall_s zle_rf
  · exact zall_n
set_option maxRecDepth 20000 in
set_option maxHeartbeats 4000000 in
theorem zstep_le {X : zX} {P : Nat → Option zM} {cal : zC} (hc : zcle cal) {M : zM} {pc : Nat} {L : zL} {st : List Value} {h : zH} : zall (zleQ h) (zstep X P cal M (pc, L, st, h)) := by
  have r : zle h h := zle_rf
  unfold zstep
  dsimp only
  split
  · split
    all_goals repeat' first
        | with_reducible exact zall_n
        | (with_reducible refine zall_go ?_); exact r
        | with_reducible exact zall_ret
        | with_reducible exact zall_inv hc
        | (with_reducible refine zall_ld (fun _ => ?_)); exact r
        | (with_reducible refine zall_jp (fun _ => ?_)); exact r
        | (with_reducible refine zall_go ?_); exact zle_app
        | with_reducible refine zall_if (fun _ => ?_) (fun _ => ?_)
        | with_reducible refine zall_1i (fun _ _ => ?_)
        | with_reducible refine zall_2i (fun _ _ _ => ?_)
        | with_reducible refine zall_1l (fun _ _ => ?_)
        | with_reducible refine zall_2l (fun _ _ _ => ?_)
        | with_reducible refine zall_li (fun _ _ _ => ?_)
        | with_reducible refine zall_1a (fun _ _ => ?_)
        | with_reducible refine zall_ai (fun _ _ _ => ?_)
        | with_reducible refine zall_aii (fun _ _ _ _ => ?_)
        | with_reducible refine zall_ail (fun _ _ _ _ => ?_)
        | with_reducible refine zall_aia (fun _ _ _ _ => ?_)
        | with_reducible refine zall_obj ?_
        | with_reducible refine zall_arr (fun _ => ?_)
        | with_reducible refine zall_aload (fun _ => ?_)
        | split
  · exact zall_n
theorem zrun_le (X : zX) (P : Nat → Option zM) : ∀ (n d : Nat) (M : zM) (f : zF) (v : Option Value) (h' : zH), zrun X P d n M f = some (v, h') → zle f.2.2.2 h' := by
  intro n
  induction n with
  | zero => intro d M f v h' h; rw [zrun_0] at h; cases h
  | succ n ih =>
    intro d M f v h' h
    rw [zrun_s] at h
    have hc : zcle (zcal X P d n) := by
      intro mid args h1 v1 h2 e
      unfold zcal at e
      split at e
      · cases e
      · split at e
        · cases e
        · exact ih _ _ _ _ _ e
    obtain ⟨pc, L, st, h0⟩ := f
    have hs := zstep_le (X := X) (P := P) hc (M := M) (pc := pc) (L := L) (st := st) (h := h0)
    split at h
    · rename_i f' e
      exact zle_tr (hs _ e) (ih _ _ _ _ _ h)
    · rename_i r e
      cases h
      exact hs _ e
    · cases h
/-- a step that a larger script table and a better call make too -/
def znle (z z' : zN) : Prop := ∀ r, z = some r → z' = some r
theorem znle_rf {z : zN} : znle z z := fun _ h => h
theorem znle_n {z : zN} : znle none z := fun _ h => by cases h
theorem znle_if {c : Prop} [Decidable c] {a b a' b' : zN} (ha : c → znle a a') (hb : ¬ c → znle b b') : znle (if c then a else b) (if c then a' else b') := by
  split
  · exact ha ‹_›
  · exact hb ‹_›
def zxle (X X' : zX) : Prop := ∀ r v, X r = some v → X' r = some v
def zcals (c c' : zC) : Prop := ∀ mid args h r, c mid args h = some r → c' mid args h = some r
theorem znle_ai {st : List Value} {k k' : Nat → Int32 → List Value → zN} (h : ∀ a i r, znle (k a i r) (k' a i r)) : znle (zai st k) (zai st k') := by
  unfold zai; split
  · exact h _ _ _
  · exact znle_n
theorem znle_1a {st : List Value} {k k' : Nat → List Value → zN} (h : ∀ a r, znle (k a r) (k' a r)) : znle (z1a st k) (z1a st k') := by
  unfold z1a; split
  · exact h _ _
  · exact znle_n
theorem znle_aload {X X' : zX} (hx : zxle X X') {S : zS} {I : zI} {ty : FieldType} {a : Nat} {i : Int32} {k : Int32 → zN} : znle (zaload X S I ty a i k) (zaload X' S I ty a i k) := by
  unfold zaload
  refine znle_if (fun _ => znle_rf) (fun _ => znle_if (fun _ => ?_) (fun _ => znle_rf))
  cases e : X (a - zro) with
  | none => exact znle_n
  | some v => rw [hx _ _ e]; exact znle_rf
theorem znle_inv {c c' : zC} (hc : zcals c c') {M' : Option zM} {mid kind pc : Nat} {L : zL} {st : List Value} {h : zH} : znle (zinvoke c M' mid kind pc L st h) (zinvoke c' M' mid kind pc L st h) := by
  unfold zinvoke
  split
  · exact znle_n
  · refine znle_if (fun _ => ?_) (fun _ => znle_n)
    dsimp only
    refine znle_if (fun _ => ?_) (fun _ => znle_n)
    have fin : ∀ (ret : Option FieldType) (args rest : List Value), znle (zfin ret pc L rest h (c mid args h)) (zfin ret pc L rest h (c' mid args h)) := by
      intro ret args rest
      cases hh : c mid args h with
      | none => exact znle_n
      | some z => rw [hc _ _ _ _ hh]; exact znle_rf
    refine znle_if (fun _ => fin _ _ _) (fun _ => ?_)
    split
    · unfold zobj; split
      · exact znle_if (fun _ => fin _ _ _) (fun _ => znle_n)
      · exact znle_n
    · exact znle_n
theorem znle_gs {X X' : zX} (hx : zxle X X') {k : Nat} {a : zN} : znle (if (X k).isSome then a else none) (if (X' k).isSome then a else none) := by
  cases e : X k with
  | none => exact znle_n
  | some v => rw [hx _ _ e]; exact znle_rf
set_option maxHeartbeats 4000000 in
theorem zstep_mono {X X' : zX} {P : Nat → Option zM} {c c' : zC} (hx : zxle X X') (hc : zcals c c') {M : zM} {f : zF} : znle (zstep X P c M f) (zstep X' P c' M f) := by
  obtain ⟨pc, L, st, h⟩ := f
  unfold zstep
  dsimp only
  split
  · split
    all_goals first
      | exact znle_rf
      | exact znle_if (fun _ => znle_inv hc) (fun _ => znle_rf)
      | exact znle_ai (fun _ _ _ => znle_aload hx)
      | exact znle_ai (fun _ _ _ => znle_if (fun _ => znle_aload hx) (fun _ => znle_aload hx))
      | skip
    · refine znle_1a (fun a r => znle_if (fun _ => znle_rf) (fun _ => ?_))
      cases e : X (a - zro) with
      | none => exact znle_n
      | some v => rw [hx _ _ e]; exact znle_rf
    · exact znle_gs hx
  · exact znle_n
theorem zrun_mono {X X' : zX} {P : Nat → Option zM} (hx : zxle X X') : ∀ (n n' d d' : Nat) (M : zM) (f : zF) (r : zA), n ≤ n' → d ≤ d' → zrun X P d n M f = some r → zrun X' P d' n' M f = some r := by
  intro n
  induction n with
  | zero => intro n' d d' M f r _ _ h; rw [zrun_0] at h; cases h
  | succ n ih =>
    intro n' d d' M f r hn hd h
    obtain ⟨n', rfl⟩ : ∃ k, n' = k + 1 := ⟨n' - 1, by omega⟩
    rw [zrun_s] at h ⊢
    have hc : zcals (zcal X P d n) (zcal X' P d' n') := by
      intro mid args h1 r1 e
      unfold zcal at e ⊢
      cases d with
      | zero => cases e
      | succ d =>
        obtain ⟨d', rfl⟩ : ∃ k, d' = k + 1 := ⟨d' - 1, by omega⟩
        dsimp only at e ⊢
        cases hp : P mid with
        | none => rw [hp] at e; cases e
        | some M' =>
          rw [hp] at e
          exact ih n' d d' M' _ _ (by omega) (by omega) e
    have hs := zstep_mono (P := P) hx hc (M := M) (f := f)
    split at h
    · rename_i f' e
      rw [hs _ e]
      exact ih n' d d' M _ _ (by omega) hd h
    · rename_i r' e
      rw [hs _ e]
      exact h
    · cases h
