/-! leaves that are plain functions; switches -/
theorem zeqI {x y : Int32} {n : Int} (h : x.toInt = n) (e : y.toInt = n) : x = y := Int32.toInt_inj.mp (h.trans e.symm)
section ZLEAF
variable {X : zX} {d : Nat} {M : zM} {pc : Nat} {L : zL} {st : List Value} {h : zH} {r : zA}
theorem zEv_rz {c : Int32} {cl : Int64} {r1 k : Nat} {x : Int32} (ho : M.2.2.2.2.2.2.2[pc]? = some (some (.ireturn, c, cl, r1, k))) (hr : M.2.2.2.1 = some .boolean) (hb : zbool x = true) : zEv X d M (pc, L, [.int x], h) (some (.int x), h) := by
  refine zEv_r ?_
  unfold zstep
  dsimp only
  rw [ho]
  dsimp only
  unfold zret
  rw [hr]
  dsimp only
  rw [if_pos hb]
theorem zEv_ts {dflt lo hi : Int} {offs : Array Int} {c : Int32} {cl : Int64} {r1 k : Nat} {x : Int32} (ho : M.2.2.2.2.2.2.2[pc]? = some (some (.tableswitch dflt lo hi offs, c, cl, r1, k))) (h0 : 0 ≤ (pc : Int) + dflt) (h1 : hi + 1 = lo + (offs.size : Int)) (h2 : ∀ j, j < offs.size → 0 ≤ (pc : Int) + offs.getD j 0)
    (kd : x.toInt < lo ∨ hi < x.toInt → zEv X d M (((pc : Int) + dflt).toNat, L, st, h) r) (kj : ∀ j : Nat, j < offs.size → x.toInt = lo + (j : Int) → zEv X d M (((pc : Int) + offs.getD j 0).toNat, L, st, h) r) : zEv X d M (pc, L, .int x :: st, h) r := by
  by_cases hc : x.toInt < lo ∨ hi < x.toInt
  · refine zEv_1 ?_ (kd hc)
    unfold zstep
    dsimp only
    rw [ho]
    simp only [z1i, zgo]
    rw [if_pos hc, if_pos h0]
  · have hj : (x.toInt - lo).toNat < offs.size := by omega
    have hx : x.toInt = lo + (((x.toInt - lo).toNat : Nat) : Int) := by omega
    refine zEv_1 ?_ (kj _ hj hx)
    have h3 := h2 _ hj
    have e : offs[(x.toInt - lo).toNat]? = some (offs.getD (x.toInt - lo).toNat 0) := by
      rw [Array.getElem?_eq_getElem hj]
      simp [Array.getD, hj]
    unfold zstep
    dsimp only
    rw [ho]
    simp only [z1i, zgo]
    rw [if_neg hc, e]
    dsimp only
    rw [if_pos h3]
end ZLEAF
def zf_has (x k : Int32) : Int32 := if (x >>> (k &&& 31)) &&& 1 = 1 then 1 else 0
def zf_in (v lo hi : Int32) : Int32 := if lo ≤ v then (if v ≤ hi then 1 else 0) else 0
def zf_greater (a b : Int32) : Int32 := if b < a then a else b
def zf_lesser (a b : Int32) : Int32 := if a < b then a else b
def zf_away (a b : Int32) : Int32 := if a < b then b - a else a - b
def zf_cin (x k : Int32) : Int32 := if (x >>> (k &&& 31)) &&& 1 = 0 then 0 else 1
section ZLF
variable {X : zX} {d : Nat} {h : zH} {x y z : Int32}
theorem ev_zf_has : zEv X d zm_152 (0, [some (.int x), some (.int y)], [], h) (some (.int (zf_has x y)), h) := by
  refine zEv_k 7 (f' := (if ¬ (x >>> (y &&& 31)) &&& 1 = 1 then 13 else 9, [some (.int x), some (.int y)], [], h)) rfl (zEv_if (fun c => ?_) (fun c => ?_))
  · rw [zf_has, if_neg c]
    exact zEv_k 1 (f' := (14, [some (.int x), some (.int y)], [.int 0], h)) rfl (zEv_r rfl)
  · rw [zf_has, if_pos (Decidable.of_not_not c)]
    exact zEv_k 2 (f' := (14, [some (.int x), some (.int y)], [.int 1], h)) rfl (zEv_r rfl)
theorem ev_zf_cin : zEv X d zm_145 (0, [some (.int x), some (.int y)], [], h) (some (.int (zf_cin x y)), h) := by
  refine zEv_k 6 (f' := (if (x >>> (y &&& 31)) &&& 1 = 0 then 12 else 8, [some (.int x), some (.int y)], [], h)) rfl (zEv_if (fun c => ?_) (fun c => ?_))
  · rw [zf_cin, if_pos c]
    exact zEv_k 1 (f' := (13, [some (.int x), some (.int y)], [.int 0], h)) rfl (zEv_r rfl)
  · rw [zf_cin, if_neg c]
    exact zEv_k 2 (f' := (13, [some (.int x), some (.int y)], [.int 1], h)) rfl (zEv_r rfl)
theorem ev_zf_in : zEv X d zm_151 (0, [some (.int x), some (.int y), some (.int z)], [], h) (some (.int (zf_in x y z)), h) := by
  refine zEv_k 3 (f' := (if x < y then 14 else 5, [some (.int x), some (.int y), some (.int z)], [], h)) rfl (zEv_if (fun c => ?_) (fun c => ?_))
  · rw [zf_in, if_neg (fun hh => absurd c (Int32.not_lt.mpr hh))]
    exact zEv_k 1 (f' := (15, [some (.int x), some (.int y), some (.int z)], [.int 0], h)) rfl (zEv_r rfl)
  · rw [zf_in, if_pos (Int32.not_lt.mp c)]
    refine zEv_k 3 (f' := (if z < x then 14 else 10, [some (.int x), some (.int y), some (.int z)], [], h)) rfl (zEv_if (fun c => ?_) (fun c => ?_))
    · rw [if_neg (fun hh => absurd c (Int32.not_lt.mpr hh))]
      exact zEv_k 1 (f' := (15, [some (.int x), some (.int y), some (.int z)], [.int 0], h)) rfl (zEv_r rfl)
    · rw [if_pos (Int32.not_lt.mp c)]
      exact zEv_k 2 (f' := (15, [some (.int x), some (.int y), some (.int z)], [.int 1], h)) rfl (zEv_r rfl)
theorem ev_zf_greater : zEv X d zm_153 (0, [some (.int x), some (.int y)], [], h) (some (.int (zf_greater x y)), h) := by
  refine zEv_k 3 (f' := (if x ≤ y then 9 else 5, [some (.int x), some (.int y)], [], h)) rfl (zEv_if (fun c => ?_) (fun c => ?_))
  · rw [zf_greater, if_neg (Int32.not_lt.mpr c)]
    exact zEv_k 1 (f' := (10, [some (.int x), some (.int y)], [.int y], h)) rfl (zEv_r rfl)
  · rw [zf_greater, if_pos (Int32.not_le.mp c)]
    exact zEv_k 2 (f' := (10, [some (.int x), some (.int y)], [.int x], h)) rfl (zEv_r rfl)
theorem ev_zf_lesser : zEv X d zm_154 (0, [some (.int x), some (.int y)], [], h) (some (.int (zf_lesser x y)), h) := by
  refine zEv_k 3 (f' := (if y ≤ x then 9 else 5, [some (.int x), some (.int y)], [], h)) rfl (zEv_if (fun c => ?_) (fun c => ?_))
  · rw [zf_lesser, if_neg (Int32.not_lt.mpr c)]
    exact zEv_k 1 (f' := (10, [some (.int x), some (.int y)], [.int y], h)) rfl (zEv_r rfl)
  · rw [zf_lesser, if_pos (Int32.not_le.mp c)]
    exact zEv_k 2 (f' := (10, [some (.int x), some (.int y)], [.int x], h)) rfl (zEv_r rfl)
theorem ev_zf_away : zEv X d zm_185 (0, [some (.int x), some (.int y)], [], h) (some (.int (zf_away x y)), h) := by
  refine zEv_k 3 (f' := (if y ≤ x then 11 else 5, [some (.int x), some (.int y)], [], h)) rfl (zEv_if (fun c => ?_) (fun c => ?_))
  · rw [zf_away, if_neg (Int32.not_lt.mpr c)]
    exact zEv_k 3 (f' := (14, [some (.int x), some (.int y)], [.int (x - y)], h)) rfl (zEv_r rfl)
  · rw [zf_away, if_pos (Int32.not_le.mp c)]
    exact zEv_k 4 (f' := (14, [some (.int x), some (.int y)], [.int (y - x)], h)) rfl (zEv_r rfl)
end ZLF
