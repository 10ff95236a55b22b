/-! ROWS FOR RUNS: calls, references, arrays -/
section ZROWS
variable {X : zX} {d : Nat} {M : zM} {pc : Nat} {L : zL} {st : List Value} {S : zS} {R : zR} {I : zI} {J : zJ} {r : zA}
theorem zEv_up {M : zM} {f : zF} {d d' : Nat} (h : zEv X d M f r) (hd : d ≤ d') : zEv X d' M f r := by
  obtain ⟨n, hn⟩ := h
  exact ⟨n, zrun_mono (fun _ _ h => h) _ _ _ _ _ _ _ (Nat.le_refl _) hd hn⟩
/-- a call: the callee's run, then on -/
theorem zEv_c {h h1 : zH} {mid : Nat} {M' : zM} {args rest : List Value} {ret : Option FieldType} {v : Option Value} (hs : ∀ cal, zstep X zP cal M (pc, L, st, h) = zfin ret pc L rest h (cal mid args h)) (hP : zP mid = some M') (hc : zEv X d M' (0, zentry M'.2.2.1 args, [], h) (v, h1)) (hl : h1.1.length = h.1.length) (hv : v.isSome = ret.isSome)
    (k : zEv X (d + 1) M (pc + 3, L, v.toList ++ rest, h1) r) : zEv X (d + 1) M (pc, L, st, h) r := by
  obtain ⟨n1, h1'⟩ := hc
  obtain ⟨n2, h2'⟩ := k
  refine ⟨max n1 n2 + 1, ?_⟩
  rw [zrun_s, hs]
  have e : zcal X zP (d + 1) (max n1 n2) mid args h = some (v, h1) := by
    unfold zcal
    dsimp only
    rw [hP]
    exact zrun_mono (fun _ _ h => h) _ _ _ _ _ _ _ (Nat.le_max_left n1 n2) (Nat.le_refl _) h1'
  rw [e]
  have e2 : zfin ret pc L rest h (some (v, h1)) = some (.inl (pc + 3, L, v.toList ++ rest, h1)) := by
    unfold zfin
    dsimp only
    rw [if_pos (Or.inl hl)]
    cases v with
    | none =>
      have : ret = none := by cases ret with
        | none => rfl
        | some t => cases hv
      rw [this]; rfl
    | some w =>
      have : ¬ ret = none := by
        intro e; rw [e] at hv; cases hv
      dsimp only
      rw [if_neg this]; rfl
  rw [e2]
  exact zrun_mono (fun _ _ h => h) _ _ _ _ _ _ _ (Nat.le_max_right n1 n2) (Nat.le_refl _) h2'
/-- a field that is a reference -/
theorem zEv_gr {idx : Nat} {c : Int32} {cl : Int64} {ci k a b : Nat} (ho : M.2.2.2.2.2.2.2[pc]? = some (some (.getfield idx, c, cl, ci, k))) (hk : zk (zft ci k) = 2) (hS : S[a]? = some (.inr ci)) (ha : a < zro) (hR : R a k = some b)
    (kk : zEv X d M (pc + 3, L, .ref b :: st, (S, R, I, J)) r) : zEv X d M (pc, L, .ref a :: st, (S, R, I, J)) r := by
  refine zEv_1 ?_ kk
  unfold zstep
  dsimp only
  rw [ho]
  simp only [z1a, zobj, hS, hk, hR, zrf, zgo]
  simp [ha]
theorem zEv_ial {c : Int32} {cl : Int64} {r1 k a n : Nat} {i : Int32} (ho : M.2.2.2.2.2.2.2[pc]? = some (some (.iaload, c, cl, r1, k))) (hS : S[a]? = some (.inl (.int, n))) (ha : a < zro) (hi : zin i n)
    (kk : zEv X d M (pc + 1, L, .int (I a i.toNatClampNeg) :: st, (S, R, I, J)) r) : zEv X d M (pc, L, .int i :: .ref a :: st, (S, R, I, J)) r := by
  refine zEv_1 ?_ kk
  unfold zstep
  dsimp only
  rw [ho]
  simp only [zai, zaload, hS, zgo]
  rw [if_pos ha, if_pos trivial, if_neg hi]
theorem zEv_iax {c : Int32} {cl : Int64} {r1 k a n : Nat} {f : Nat → Int32} {i : Int32} (ho : M.2.2.2.2.2.2.2[pc]? = some (some (.iaload, c, cl, r1, k))) (hX : X a = some (n, f)) (hi : zin i n)
    (kk : zEv X d M (pc + 1, L, .int (f i.toNatClampNeg) :: st, (S, R, I, J)) r) : zEv X d M (pc, L, .int i :: .ref (zro + a) :: st, (S, R, I, J)) r := by
  refine zEv_1 ?_ kk
  unfold zstep
  dsimp only
  rw [ho]
  simp only [zai, zaload, zgo]
  rw [if_neg (by omega), if_pos trivial, Nat.add_sub_cancel_left, hX]
  dsimp only
  rw [if_neg hi]
theorem zEv_bal {c : Int32} {cl : Int64} {r1 a n : Nat} {i : Int32} (ho : M.2.2.2.2.2.2.2[pc]? = some (some (.baload, c, cl, r1, 0))) (hS : S[a]? = some (.inl (.byte, n))) (ha : a < zro) (hi : zin i n)
    (kk : zEv X d M (pc + 1, L, .int (I a i.toNatClampNeg) :: st, (S, R, I, J)) r) : zEv X d M (pc, L, .int i :: .ref a :: st, (S, R, I, J)) r := by
  refine zEv_1 ?_ kk
  unfold zstep
  dsimp only
  rw [ho]
  simp only [zai, zaload, hS, zgo]
  simp only [if_pos ha, if_true]
  rw [if_neg hi]
theorem zEv_zal {c : Int32} {cl : Int64} {r1 a n : Nat} {i : Int32} (ho : M.2.2.2.2.2.2.2[pc]? = some (some (.baload, c, cl, r1, 1))) (hS : S[a]? = some (.inl (.boolean, n))) (ha : a < zro) (hi : zin i n)
    (kk : zEv X d M (pc + 1, L, .int (I a i.toNatClampNeg) :: st, (S, R, I, J)) r) : zEv X d M (pc, L, .int i :: .ref a :: st, (S, R, I, J)) r := by
  refine zEv_1 ?_ kk
  unfold zstep
  dsimp only
  rw [ho]
  simp only [zai, zaload, hS, zgo]
  rw [if_neg (by decide), if_pos ha, if_pos trivial, if_neg hi]
theorem zEv_lal {c : Int32} {cl : Int64} {r1 k a n : Nat} {i : Int32} (ho : M.2.2.2.2.2.2.2[pc]? = some (some (.laload, c, cl, r1, k))) (hS : S[a]? = some (.inl (.long, n))) (ha : a < zro) (hi : zin i n)
    (kk : zEv X d M (pc + 1, L, .long (J a i.toNatClampNeg) :: st, (S, R, I, J)) r) : zEv X d M (pc, L, .int i :: .ref a :: st, (S, R, I, J)) r := by
  refine zEv_1 ?_ kk
  unfold zstep
  dsimp only
  rw [ho]
  simp only [zai, zarr, hS, zgo]
  rw [if_pos ⟨trivial, ha⟩, if_neg hi]
theorem zEv_aal {c : Int32} {cl : Int64} {r1 k a n b : Nat} {C : String} {i : Int32} (ho : M.2.2.2.2.2.2.2[pc]? = some (some (.aaload, c, cl, r1, k))) (hS : S[a]? = some (.inl (.object C, n))) (ha : a < zro) (hi : zin i n) (hR : R a i.toNatClampNeg = some b)
    (kk : zEv X d M (pc + 1, L, .ref b :: st, (S, R, I, J)) r) : zEv X d M (pc, L, .int i :: .ref a :: st, (S, R, I, J)) r := by
  refine zEv_1 ?_ kk
  unfold zstep
  dsimp only
  rw [ho]
  simp only [zai, hS, zarr, zgo]
  rw [if_pos ⟨trivial, ha⟩, if_neg hi, hR]
  rfl
theorem zEv_ias {c : Int32} {cl : Int64} {r1 k a n : Nat} {i x : Int32} (ho : M.2.2.2.2.2.2.2[pc]? = some (some (.iastore, c, cl, r1, k))) (hS : S[a]? = some (.inl (.int, n))) (ha : a < zro) (hi : zin i n)
    (kk : zEv X d M (pc + 1, L, st, (S, R, zu I a i.toNatClampNeg x, J)) r) : zEv X d M (pc, L, .int x :: .int i :: .ref a :: st, (S, R, I, J)) r := by
  refine zEv_1 ?_ kk
  unfold zstep
  dsimp only
  rw [ho]
  simp only [zaii, zarr, hS, zgo]
  rw [if_pos ⟨trivial, ha⟩, if_neg hi]
theorem zEv_bas {c : Int32} {cl : Int64} {r1 a n : Nat} {i x : Int32} (ho : M.2.2.2.2.2.2.2[pc]? = some (some (.bastore, c, cl, r1, 0))) (hS : S[a]? = some (.inl (.byte, n))) (ha : a < zro) (hi : zin i n)
    (kk : zEv X d M (pc + 1, L, st, (S, R, zu I a i.toNatClampNeg x.toInt8.toInt32, J)) r) : zEv X d M (pc, L, .int x :: .int i :: .ref a :: st, (S, R, I, J)) r := by
  refine zEv_1 ?_ kk
  unfold zstep
  dsimp only
  rw [ho]
  simp only [zaii, zarr, hS, zgo]
  rw [if_pos trivial, if_pos ⟨trivial, ha⟩, if_neg hi]
theorem zEv_zas {c : Int32} {cl : Int64} {r1 a n : Nat} {i x : Int32} (ho : M.2.2.2.2.2.2.2[pc]? = some (some (.bastore, c, cl, r1, 1))) (hS : S[a]? = some (.inl (.boolean, n))) (ha : a < zro) (hi : zin i n)
    (kk : zEv X d M (pc + 1, L, st, (S, R, zu I a i.toNatClampNeg (vp_nar .boolean x), J)) r) : zEv X d M (pc, L, .int x :: .int i :: .ref a :: st, (S, R, I, J)) r := by
  refine zEv_1 ?_ kk
  unfold zstep
  dsimp only
  rw [ho]
  simp only [zaii, zarr, hS, zgo]
  rw [if_neg (by decide), if_pos ⟨trivial, ha⟩, if_neg hi]
theorem zEv_las {c : Int32} {cl : Int64} {r1 k a n : Nat} {i : Int32} {x : Int64} (ho : M.2.2.2.2.2.2.2[pc]? = some (some (.lastore, c, cl, r1, k))) (hS : S[a]? = some (.inl (.long, n))) (ha : a < zro) (hi : zin i n)
    (kk : zEv X d M (pc + 1, L, st, (S, R, I, zu J a i.toNatClampNeg x)) r) : zEv X d M (pc, L, .long x :: .int i :: .ref a :: st, (S, R, I, J)) r := by
  refine zEv_1 ?_ kk
  unfold zstep
  dsimp only
  rw [ho]
  simp only [zail, zarr, hS, zgo]
  rw [if_pos ⟨trivial, ha⟩, if_neg hi]
/-- a division -/
theorem zEv_div {c : Int32} {cl : Int64} {r1 k : Nat} {x y : Int32} {h : zH} (ho : M.2.2.2.2.2.2.2[pc]? = some (some (.idiv, c, cl, r1, k))) (hy : ¬ y = 0) (kk : zEv X d M (pc + 1, L, .int (x / y) :: st, h) r) : zEv X d M (pc, L, .int y :: .int x :: st, h) r := by
  refine zEv_1 ?_ kk
  unfold zstep
  dsimp only
  rw [ho]
  simp only [z2i, zgo]
  rw [if_neg hy]
theorem zEv_rem {c : Int32} {cl : Int64} {r1 k : Nat} {x y : Int32} {h : zH} (ho : M.2.2.2.2.2.2.2[pc]? = some (some (.irem, c, cl, r1, k))) (hy : ¬ y = 0) (kk : zEv X d M (pc + 1, L, .int (x - x / y * y) :: st, h) r) : zEv X d M (pc, L, .int y :: .int x :: st, h) r := by
  refine zEv_1 ?_ kk
  unfold zstep
  dsimp only
  rw [ho]
  simp only [z2i, zgo]
  rw [if_neg hy]
theorem zEv_ldiv {c : Int32} {cl : Int64} {r1 k : Nat} {x y : Int64} {h : zH} (ho : M.2.2.2.2.2.2.2[pc]? = some (some (.ldiv, c, cl, r1, k))) (hy : ¬ y = 0) (kk : zEv X d M (pc + 1, L, .long (x / y) :: st, h) r) : zEv X d M (pc, L, .long y :: .long x :: st, h) r := by
  refine zEv_1 ?_ kk
  unfold zstep
  dsimp only
  rw [ho]
  simp only [z2l, zgo]
  rw [if_neg hy]
theorem zEv_lrem {c : Int32} {cl : Int64} {r1 k : Nat} {x y : Int64} {h : zH} (ho : M.2.2.2.2.2.2.2[pc]? = some (some (.lrem, c, cl, r1, k))) (hy : ¬ y = 0) (kk : zEv X d M (pc + 1, L, .long (x - x / y * y) :: st, h) r) : zEv X d M (pc, L, .long y :: .long x :: st, h) r := by
  refine zEv_1 ?_ kk
  unfold zstep
  dsimp only
  rw [ho]
  simp only [z2l, zgo]
  rw [if_neg hy]
end ZROWS
