/-! LIFTING: the program's methods as plain functions on the heap's numbers; rows by which the machine is shown to do what they say -/
abbrev zK : Type := (Nat → Nat) × zI × zJ
/-- the references: all as the constructors left them, but Run.cellar of the two runs -/
def zRr (f : Nat → Nat) : zR := fun a k => if (a = 166 ∨ a = 198) ∧ k = 10 then some (f a) else zsc.2.1 a k
theorem zRr_ok (f : Nat → Nat) : zRok (zRr f) := by
  intro a k b h
  unfold zRr
  rw [if_neg]
  · exact zsc_R a k b h
  · rintro ⟨h1, rfl⟩
    rcases h1 with rfl | rfl
    · have e : zR0 166 10 = none := rfl
      rw [e] at h; cases h
    · have e : zR0 198 10 = none := rfl
      rw [e] at h; cases h
theorem zRr_u {f : Nat → Nat} {a c : Nat} (ha : a = 166 ∨ a = 198) : zu (zRr f) a 10 (some c) = zRr (fun b => if b = a then c else f b) := by
  funext b j
  unfold zu zRr
  by_cases h : b = a ∧ j = 10
  · obtain ⟨rfl, rfl⟩ := h
    rw [if_pos ⟨rfl, rfl⟩, if_pos ⟨ha, rfl⟩]
    dsimp only
    rw [if_pos rfl]
  · rw [if_neg h]
    by_cases h2 : (b = 166 ∨ b = 198) ∧ j = 10
    · rw [if_pos h2, if_pos h2]
      dsimp only
      rw [if_neg (fun e => h ⟨e, h2.2⟩)]
    · rw [if_neg h2, if_neg h2]
set_option maxRecDepth 100000 in
theorem zsc_c1 : zsc.2.1 166 10 = some 168 := by decide +kernel
set_option maxRecDepth 100000 in
theorem zsc_c2 : zsc.2.1 198 10 = some 200 := by decide +kernel
def zf00 (a : Nat) : Nat := if a = 166 then 168 else 200
theorem zRr_0 : zsc.2.1 = zRr zf00 := by
  funext a k
  unfold zRr
  by_cases h : (a = 166 ∨ a = 198) ∧ k = 10
  · rw [if_pos h]
    obtain ⟨h1, rfl⟩ := h
    rcases h1 with rfl | rfl
    · rw [zsc_c1]; rfl
    · rw [zsc_c2]; rfl
  · rw [if_neg h]
def zhp (h : zK) : zH := (zS0, zRr h.1, h.2.1, h.2.2)
def gI (h : zK) (a k : Nat) : Int32 := h.2.1 a k
def gJ (h : zK) (a k : Nat) : Int64 := h.2.2 a k
def gR (h : zK) (a : Nat) : Nat := h.1 a
def sI (h : zK) (a k : Nat) (v : Int32) : zK := (h.1, zu h.2.1 a k v, h.2.2)
def sJ (h : zK) (a k : Nat) (v : Int64) : zK := (h.1, h.2.1, zu h.2.2 a k v)
def sR (h : zK) (a c : Nat) : zK := (fun b => if b = a then c else h.1 b, h.2.1, h.2.2)
def cI (h : zK) (a b sp dp n : Nat) : zK := (h.1, zrow h.2.1 b (va_cpy (h.2.1 a) (h.2.1 b) sp dp n), h.2.2)
def zix (i : Int32) (n : Nat) : Option Nat := if i < 0 ∨ n ≤ i.toNatClampNeg then none else some i.toNatClampNeg
def zlet {α β : Type} (x : α) (f : α → β) : β := f x
def zln (a : Nat) : Nat := match zS0[a]? with
  | some (.inl (_, n)) => n
  | _ => 0
def zaa (a j : Nat) : Nat := (zR0 a j).getD 0
def zf_max (x y : Int32) : Int32 := if x < y then y else x
def zf_min (x y : Int32) : Int32 := if y < x then y else x
def zf_abs (x : Int32) : Int32 := if 0 ≤ x then x else 0 - x
/-- more rounds than any loop of the program has -/
def zfu : Nat := 20000
def zloop {σ τ : Type} (b : σ → Option (σ ⊕ τ)) : Nat → σ → Option τ
  | 0, _ => none
  | n + 1, x => match b x with
    | none => none
    | some (.inl y) => zloop b n y
    | some (.inr t) => some t
theorem zloop_P {σ τ : Type} {b : σ → Option (σ ⊕ τ)} {P : σ → Prop} {t : τ} (step : ∀ x y, b x = some (.inl y) → P y → P x) (last : ∀ x, b x = some (.inr t) → P x) : ∀ n x, zloop b n x = some t → P x := by
  intro n
  induction n with
  | zero => intro x h; unfold zloop at h; cases h
  | succ n ih =>
    intro x h
    unfold zloop at h
    split at h
    · cases h
    · rename_i y hy
      exact step x y hy (ih y h)
    · rename_i y hy
      cases h
      exact last x hy
theorem zbs {α β : Type} {x : Option α} {f : α → Option β} {e : β} (h : x.bind f = some e) : ∃ a, x = some a ∧ f a = some e := by
  cases x with
  | none => cases h
  | some a => exact ⟨a, rfl, h⟩
theorem zlets {α β : Type} {x : α} {f : α → β} {e : β} (h : zlet x f = e) : ∃ v, x = v ∧ f v = e := ⟨x, rfl, h⟩
theorem zif_t {α : Type} {c : Prop} [Decidable c] {a b e : α} (hc : c) (H : (if c then a else b) = e) : a = e := by
  rw [if_pos hc] at H; exact H
theorem zif_f {α : Type} {c : Prop} [Decidable c] {a b e : α} (hc : ¬ c) (H : (if c then a else b) = e) : b = e := by
  rw [if_neg hc] at H; exact H
theorem zifn {α : Type} {c : Prop} [Decidable c] {a : Option α} {e : α} (H : (if c then a else none) = some e) : c ∧ a = some e := by
  by_cases hc : c
  · rw [if_pos hc] at H; exact ⟨hc, H⟩
  · rw [if_neg hc] at H; cases H
theorem zix_s {i : Int32} {n j : Nat} (h : zix i n = some j) : zin i n ∧ i.toNatClampNeg = j ∧ j < n := by
  unfold zix at h
  split at h
  · cases h
  · rename_i hc
    cases h
    exact ⟨hc, rfl, Nat.lt_of_not_le fun hh => hc (Or.inr hh)⟩
section ZLIFT
variable {X : zX} {d : Nat} {M : zM} {pc : Nat} {L : zL} {st : List Value} {h h1 : zK} {r : zA}
theorem zEv_w {F : zK → zF} {h0 h1 : zK} {f : zF} (k : Nat) (hs : zst X M k f = some (F h0)) (e : h0 = h1) (kk : zEv X d M (F h1) r) : zEv X d M f r := by
  subst e; exact zEv_k k hs kk
theorem zEv_re {f : zF} {r1 : zA} (K : r1 = r) (hs : zstep X zP znoc M f = some (.inr r1)) : zEv X d M f r := by
  subst K; exact zEv_r hs
theorem zEv_rzK {c : Int32} {cl : Int64} {q1 k : Nat} {x : Int32} {hh : zH} (ho : M.2.2.2.2.2.2.2[pc]? = some (some (.ireturn, c, cl, q1, k))) (hr : M.2.2.2.1 = some .boolean) (hb : zbool x = true) (K : (some (.int x), hh) = r) : zEv X d M (pc, L, [.int x], hh) r := by
  subst K; exact zEv_rz ho hr hb
theorem zRgr {idx : Nat} {c : Int32} {cl : Int64} {ci k a b : Nat} (ho : M.2.2.2.2.2.2.2[pc]? = some (some (.getfield idx, c, cl, ci, k))) (hk : zk (zft ci k) = 2) (hS : zS0[a]? = some (.inr ci)) (ha : a < zro) (hz : zR0 a k = some b)
    (kk : zEv X d M (pc + 3, L, .ref b :: st, zhp h) r) : zEv X d M (pc, L, .ref a :: st, zhp h) r :=
  zEv_gr ho hk hS ha (zRr_ok _ a k b hz) kk
theorem zRgc {idx : Nat} {c : Int32} {cl : Int64} {ci a : Nat} (h0 : a = 166 ∨ a = 198) (ho : M.2.2.2.2.2.2.2[pc]? = some (some (.getfield idx, c, cl, ci, 10))) (hk : zk (zft ci 10) = 2) (hS : zS0[a]? = some (.inr ci)) (ha : a < zro)
    (kk : zEv X d M (pc + 3, L, .ref (gR h a) :: st, zhp h) r) : zEv X d M (pc, L, .ref a :: st, zhp h) r :=
  zEv_gr ho hk hS ha (by show zRr h.1 a 10 = some (h.1 a); unfold zRr; rw [if_pos ⟨h0, rfl⟩]) kk
theorem zRpr {idx : Nat} {c : Int32} {cl : Int64} {ci a b : Nat} (h0 : a = 166 ∨ a = 198) (ho : M.2.2.2.2.2.2.2[pc]? = some (some (.putfield idx, c, cl, ci, 10))) (hk : zk (zft ci 10) = 2) (hS : zS0[a]? = some (.inr ci)) (ha : a < zro) (hb : b < 237) (e : sR h a b = h1)
    (kk : zEv X d M (pc + 3, L, st, zhp h1) r) : zEv X d M (pc, L, .ref b :: .ref a :: st, zhp h) r := by
  subst e
  refine zEv_1 ?_ kk
  unfold zstep
  dsimp only
  rw [ho]
  dsimp only
  have e2 : zobj (zhp h).1 a ci = zobj zS0 a ci := rfl
  rw [e2]
  unfold zobj
  rw [hS]
  dsimp only
  rw [if_pos ⟨rfl, ha⟩, if_pos ⟨hk, hb⟩]
  show zgo _ _ _ (zS0, zu (zRr h.1) a 10 (some b), h.2.1, h.2.2) = _
  rw [zRr_u h0]
  rfl
theorem zRia {c : Int32} {cl : Int64} {r1 k a n j : Nat} {i : Int32} (ho : M.2.2.2.2.2.2.2[pc]? = some (some (.iaload, c, cl, r1, k))) (hS : zS0[a]? = some (.inl (.int, n))) (ha : a < zro) (hj : zix i n = some j)
    (kk : zEv X d M (pc + 1, L, .int (gI h a j) :: st, zhp h) r) : zEv X d M (pc, L, .int i :: .ref a :: st, zhp h) r := by
  obtain ⟨h1, rfl, -⟩ := zix_s hj
  exact zEv_ial ho hS ha h1 kk
theorem zRba {c : Int32} {cl : Int64} {r1 a n j : Nat} {i : Int32} (ho : M.2.2.2.2.2.2.2[pc]? = some (some (.baload, c, cl, r1, 0))) (hS : zS0[a]? = some (.inl (.byte, n))) (ha : a < zro) (hj : zix i n = some j)
    (kk : zEv X d M (pc + 1, L, .int (gI h a j) :: st, zhp h) r) : zEv X d M (pc, L, .int i :: .ref a :: st, zhp h) r := by
  obtain ⟨h1, rfl, -⟩ := zix_s hj
  exact zEv_bal ho hS ha h1 kk
theorem zRza {c : Int32} {cl : Int64} {r1 a n j : Nat} {i : Int32} (ho : M.2.2.2.2.2.2.2[pc]? = some (some (.baload, c, cl, r1, 1))) (hS : zS0[a]? = some (.inl (.boolean, n))) (ha : a < zro) (hj : zix i n = some j)
    (kk : zEv X d M (pc + 1, L, .int (gI h a j) :: st, zhp h) r) : zEv X d M (pc, L, .int i :: .ref a :: st, zhp h) r := by
  obtain ⟨h1, rfl, -⟩ := zix_s hj
  exact zEv_zal ho hS ha h1 kk
theorem zRla {c : Int32} {cl : Int64} {r1 k a n j : Nat} {i : Int32} (ho : M.2.2.2.2.2.2.2[pc]? = some (some (.laload, c, cl, r1, k))) (hS : zS0[a]? = some (.inl (.long, n))) (ha : a < zro) (hj : zix i n = some j)
    (kk : zEv X d M (pc + 1, L, .long (gJ h a j) :: st, zhp h) r) : zEv X d M (pc, L, .int i :: .ref a :: st, zhp h) r := by
  obtain ⟨h1, rfl, -⟩ := zix_s hj
  exact zEv_lal ho hS ha h1 kk
theorem zRaa {c : Int32} {cl : Int64} {r1 k a n j : Nat} {C : String} {i : Int32} (ho : M.2.2.2.2.2.2.2[pc]? = some (some (.aaload, c, cl, r1, k))) (hS : zS0[a]? = some (.inl (.object C, n))) (ha : a < zro) (hj : zix i n = some j) (hz : ∀ j, j < n → zR0 a j = some (zaa a j))
    (kk : zEv X d M (pc + 1, L, .ref (zaa a j) :: st, zhp h) r) : zEv X d M (pc, L, .int i :: .ref a :: st, zhp h) r := by
  obtain ⟨h1, rfl, h2⟩ := zix_s hj
  exact zEv_aal ho hS ha h1 (zRr_ok _ _ _ _ (hz _ h2)) kk
theorem zRix {c : Int32} {cl : Int64} {r1 k a n j : Nat} {f : Nat → Int32} {i : Int32} (ho : M.2.2.2.2.2.2.2[pc]? = some (some (.iaload, c, cl, r1, k))) (hX : X a = some (n, f)) (hj : zix i n = some j)
    (kk : zEv X d M (pc + 1, L, .int (f j) :: st, zhp h) r) : zEv X d M (pc, L, .int i :: .ref (zro + a) :: st, zhp h) r := by
  obtain ⟨h1, rfl, -⟩ := zix_s hj
  exact zEv_iax ho hX h1 kk
theorem zRis {c : Int32} {cl : Int64} {r1 k a n j : Nat} {i x : Int32} (ho : M.2.2.2.2.2.2.2[pc]? = some (some (.iastore, c, cl, r1, k))) (hS : zS0[a]? = some (.inl (.int, n))) (ha : a < zro) (hj : zix i n = some j) (e : sI h a j x = h1)
    (kk : zEv X d M (pc + 1, L, st, zhp h1) r) : zEv X d M (pc, L, .int x :: .int i :: .ref a :: st, zhp h) r := by
  obtain ⟨h1, rfl, -⟩ := zix_s hj
  subst e
  exact zEv_ias ho hS ha h1 kk
theorem zRbs {c : Int32} {cl : Int64} {r1 a n j : Nat} {i x : Int32} (ho : M.2.2.2.2.2.2.2[pc]? = some (some (.bastore, c, cl, r1, 0))) (hS : zS0[a]? = some (.inl (.byte, n))) (ha : a < zro) (hj : zix i n = some j) (e : sI h a j x.toInt8.toInt32 = h1)
    (kk : zEv X d M (pc + 1, L, st, zhp h1) r) : zEv X d M (pc, L, .int x :: .int i :: .ref a :: st, zhp h) r := by
  obtain ⟨h1, rfl, -⟩ := zix_s hj
  subst e
  exact zEv_bas ho hS ha h1 kk
theorem zRzs {c : Int32} {cl : Int64} {r1 a n j : Nat} {i x : Int32} (ho : M.2.2.2.2.2.2.2[pc]? = some (some (.bastore, c, cl, r1, 1))) (hS : zS0[a]? = some (.inl (.boolean, n))) (ha : a < zro) (hj : zix i n = some j) (e : sI h a j (vp_nar .boolean x) = h1)
    (kk : zEv X d M (pc + 1, L, st, zhp h1) r) : zEv X d M (pc, L, .int x :: .int i :: .ref a :: st, zhp h) r := by
  obtain ⟨h1, rfl, -⟩ := zix_s hj
  subst e
  exact zEv_zas ho hS ha h1 kk
theorem zRls {c : Int32} {cl : Int64} {r1 k a n j : Nat} {i : Int32} {x : Int64} (ho : M.2.2.2.2.2.2.2[pc]? = some (some (.lastore, c, cl, r1, k))) (hS : zS0[a]? = some (.inl (.long, n))) (ha : a < zro) (hj : zix i n = some j) (e : sJ h a j x = h1)
    (kk : zEv X d M (pc + 1, L, st, zhp h1) r) : zEv X d M (pc, L, .long x :: .int i :: .ref a :: st, zhp h) r := by
  obtain ⟨h1, rfl, -⟩ := zix_s hj
  subst e
  exact zEv_las ho hS ha h1 kk
theorem zRcp {idx : Nat} {c : Int32} {cl : Int64} {k a b n0 n1 : Nat} {ty : FieldType} {sp dp n : Int32} (ho : M.2.2.2.2.2.2.2[pc]? = some (some (.invokestatic idx, c, cl, 5, k))) (ha : zS0[a]? = some (.inl (ty, n0))) (hb : zS0[b]? = some (.inl (ty, n1))) (ht : ty = .int ∨ ty = .byte) (ha2 : a < zro) (hb2 : b < zro) (hz : zcpok sp dp n n0 n1) (hc : zcat st ≤ 8) (e : cI h a b sp.toNatClampNeg dp.toNatClampNeg n.toNatClampNeg = h1)
    (kk : zEv X d M (pc + 3, L, st, zhp h1) r) : zEv X d M (pc, L, .int n :: .int dp :: .ref b :: .int sp :: .ref a :: st, zhp h) r := by
  subst e
  exact zEv_cp ho ha hb ht ha2 hb2 hz hc kk
theorem zRsl {idx : Nat} {c : Int32} {cl : Int64} {k a : Nat} {w : List Int32} {h : zH} (ho : M.2.2.2.2.2.2.2[pc]? = some (some (.invokevirtual idx, c, cl, 6, k))) (hw : zwords[a]? = some w) (hc : zcat st ≤ 8)
    (kk : zEv X d M (pc + 3, L, .int (Int32.ofNat w.length) :: st, h) r) : zEv X d M (pc, L, .ref (zstr + a) :: st, h) r := by
  refine zEv_1 ?_ kk
  unfold zstep
  dsimp only
  rw [ho]
  dsimp only
  rw [if_neg (by decide), if_pos rfl, Nat.add_sub_cancel_left, hw]
  dsimp only
  rw [if_pos ⟨Nat.le_add_right _ _, hc⟩]
  rfl
theorem zRsc {idx : Nat} {c : Int32} {cl : Int64} {k a j : Nat} {i : Int32} {w : List Int32} {h : zH} (ho : M.2.2.2.2.2.2.2[pc]? = some (some (.invokevirtual idx, c, cl, 7, k))) (hw : zwords[a]? = some w) (hj : zix i w.length = some j) (hc : zcat st ≤ 8)
    (kk : zEv X d M (pc + 3, L, .int (w.getD j 0) :: st, h) r) : zEv X d M (pc, L, .int i :: .ref (zstr + a) :: st, h) r := by
  obtain ⟨h1, rfl, -⟩ := zix_s hj
  refine zEv_1 ?_ kk
  unfold zstep
  dsimp only
  rw [ho]
  dsimp only
  rw [if_neg (by decide), if_neg (by decide), if_pos rfl]
  unfold zai
  dsimp only
  rw [Nat.add_sub_cancel_left, hw]
  dsimp only
  rw [if_pos ⟨Nat.le_add_right _ _, hc, h1⟩]
  rfl
/-- a switch by keys -/
theorem zEv_ls {dflt : Int} {ps : Array (Int × Int)} {c : Int32} {cl : Int64} {r1 k pc2 : Nat} {x y : Int32} {h : zH} (ho : M.2.2.2.2.2.2.2[pc]? = some (some (.lookupswitch dflt ps, c, cl, r1, k))) (hx : x = y) (hp : ((pc : Int) + Op.lookupswitch.offset ps.toList dflt y.toInt).toNat = pc2) (hs : (ps.toList.zip (ps.toList.drop 1)).all (fun (a, next) => a.1 < next.1) = true) (h0 : 0 ≤ (pc : Int) + Op.lookupswitch.offset ps.toList dflt y.toInt)
    (kk : zEv X d M (pc2, L, st, h) r) : zEv X d M (pc, L, .int x :: st, h) r := by
  subst hx
  subst hp
  refine zEv_1 ?_ kk
  unfold zstep
  dsimp only
  rw [ho]
  dsimp only
  unfold z1i
  dsimp only
  rw [if_pos ⟨hs, h0⟩]
  rfl
theorem zls_n {dflt k : Int} : ∀ {l : List (Int × Int)}, (∀ q ∈ l.map (fun z => z.1), ¬ k = q) → Op.lookupswitch.offset l dflt k = dflt := by
  intro l
  induction l with
  | nil => intro _; rfl
  | cons z l ih =>
    intro hn
    obtain ⟨a, o⟩ := z
    rw [Op.lookupswitch.offset_cons, if_neg (fun e => hn a (by simp) e.symm)]
    exact ih fun q hq => hn q (by simp only [List.map_cons, List.mem_cons]; exact Or.inr hq)
theorem zEv_lsd {dflt : Int} {ps : Array (Int × Int)} {c : Int32} {cl : Int64} {r1 k pc2 : Nat} {x : Int32} {h : zH} (ho : M.2.2.2.2.2.2.2[pc]? = some (some (.lookupswitch dflt ps, c, cl, r1, k))) (hp : ((pc : Int) + dflt).toNat = pc2) (hs : (ps.toList.zip (ps.toList.drop 1)).all (fun (a, next) => a.1 < next.1) = true) (h0 : 0 ≤ (pc : Int) + dflt) (hn : ∀ q ∈ ps.toList.map (fun z => z.1), ¬ x.toInt = q)
    (kk : zEv X d M (pc2, L, st, h) r) : zEv X d M (pc, L, .int x :: st, h) r := by
  subst hp
  refine zEv_1 ?_ kk
  unfold zstep
  dsimp only
  rw [ho]
  dsimp only
  unfold z1i
  dsimp only
  rw [zls_n hn, if_pos ⟨hs, h0⟩]
  rfl
end ZLIFT
