theorem b_11_0 {X : zX} {d : Nat} {R : zR} {I : zI} {J : zJ} {o : Nat} {q : Nat} (hR : zRok R) (ho : (o = 15 ∧ q = 52) ∨ (o = 15 ∧ q = 88) ∨ (o = 15 ∧ q = 124) ∨ (o = 15 ∧ q = 156) ∨ (o = 30 ∧ q = 67) ∨ (o = 30 ∧ q = 103) ∨ (o = 30 ∧ q = 139) ∨ (o = 30 ∧ q = 156) ∨ (o = 52 ∧ q = 15) ∨ (o = 67 ∧ q = 30) ∨ (o = 88 ∧ q = 15) ∨ (o = 103 ∧ q = 30) ∨ (o = 124 ∧ q = 15) ∨ (o = 139 ∧ q = 30)) : zEv X d zm_11 (0, [some (.ref o), some (.ref q)], [], (zS0, R, I, J)) (none, (zS0, R, zrow (zrow (zrow (zu I o 0 (I q 0)) (o + 1) (va_cpy (I (q + 1)) (I (o + 1)) (0 : Int32).toNatClampNeg (0 : Int32).toNatClampNeg (40 : Int32).toNatClampNeg)) (o + 2) (va_cpy (I (q + 2)) (I (o + 2)) (0 : Int32).toNatClampNeg (0 : Int32).toNatClampNeg (40 : Int32).toNatClampNeg)) (o + 3) (va_cpy (I (q + 3)) (I (o + 3)) (0 : Int32).toNatClampNeg (0 : Int32).toNatClampNeg (40 : Int32).toNatClampNeg), J)) := by
  rcases ho with ⟨rfl, rfl⟩ | ⟨rfl, rfl⟩ | ⟨rfl, rfl⟩ | ⟨rfl, rfl⟩ | ⟨rfl, rfl⟩ | ⟨rfl, rfl⟩ | ⟨rfl, rfl⟩ | ⟨rfl, rfl⟩ | ⟨rfl, rfl⟩ | ⟨rfl, rfl⟩ | ⟨rfl, rfl⟩ | ⟨rfl, rfl⟩ | ⟨rfl, rfl⟩ | ⟨rfl, rfl⟩
  · refine zEv_k 5 (f' := (9, [some (.ref 15), some (.ref 52)], [.ref 52], (zS0, R, zu I 15 0 (I 52 0), J))) rfl ?_
    refine zEv_gr rfl rfl rfl (by decide) (hR (52) 1 (52 + 1) rfl) ?_
    refine zEv_k 2 (f' := (14, [some (.ref 15), some (.ref 52)], [.ref 15, .int 0, .ref (52 + 1)], (zS0, R, zu I 15 0 (I 52 0), J))) rfl ?_
    refine zEv_gr rfl rfl rfl (by decide) (hR (15) 1 (15 + 1) rfl) ?_
    refine zEv_k 2 (f' := (20, [some (.ref 15), some (.ref 52)], [.int 40, .int 0, .ref (15 + 1), .int 0, .ref (52 + 1)], (zS0, R, zu I 15 0 (I 52 0), J))) rfl ?_
    refine zEv_cp rfl rfl rfl (by decide) (by decide) (by decide) (by unfold zcpok; decide) (by decide) ?_
    refine zEv_k 1 (f' := (24, [some (.ref 15), some (.ref 52)], [.ref 52], (zS0, R, zrow (zu I 15 0 (I 52 0)) (15 + 1) (va_cpy (I (52 + 1)) (I (15 + 1)) (0 : Int32).toNatClampNeg (0 : Int32).toNatClampNeg (40 : Int32).toNatClampNeg), J))) rfl ?_
    refine zEv_gr rfl rfl rfl (by decide) (hR (52) 2 (52 + 2) rfl) ?_
    refine zEv_k 2 (f' := (29, [some (.ref 15), some (.ref 52)], [.ref 15, .int 0, .ref (52 + 2)], (zS0, R, zrow (zu I 15 0 (I 52 0)) (15 + 1) (va_cpy (I (52 + 1)) (I (15 + 1)) (0 : Int32).toNatClampNeg (0 : Int32).toNatClampNeg (40 : Int32).toNatClampNeg), J))) rfl ?_
    refine zEv_gr rfl rfl rfl (by decide) (hR (15) 2 (15 + 2) rfl) ?_
    refine zEv_k 2 (f' := (35, [some (.ref 15), some (.ref 52)], [.int 40, .int 0, .ref (15 + 2), .int 0, .ref (52 + 2)], (zS0, R, zrow (zu I 15 0 (I 52 0)) (15 + 1) (va_cpy (I (52 + 1)) (I (15 + 1)) (0 : Int32).toNatClampNeg (0 : Int32).toNatClampNeg (40 : Int32).toNatClampNeg), J))) rfl ?_
    refine zEv_cp rfl rfl rfl (by decide) (by decide) (by decide) (by unfold zcpok; decide) (by decide) ?_
    refine zEv_k 1 (f' := (39, [some (.ref 15), some (.ref 52)], [.ref 52], (zS0, R, zrow (zrow (zu I 15 0 (I 52 0)) (15 + 1) (va_cpy (I (52 + 1)) (I (15 + 1)) (0 : Int32).toNatClampNeg (0 : Int32).toNatClampNeg (40 : Int32).toNatClampNeg)) (15 + 2) (va_cpy (I (52 + 2)) (I (15 + 2)) (0 : Int32).toNatClampNeg (0 : Int32).toNatClampNeg (40 : Int32).toNatClampNeg), J))) rfl ?_
    refine zEv_gr rfl rfl rfl (by decide) (hR (52) 3 (52 + 3) rfl) ?_
    refine zEv_k 2 (f' := (44, [some (.ref 15), some (.ref 52)], [.ref 15, .int 0, .ref (52 + 3)], (zS0, R, zrow (zrow (zu I 15 0 (I 52 0)) (15 + 1) (va_cpy (I (52 + 1)) (I (15 + 1)) (0 : Int32).toNatClampNeg (0 : Int32).toNatClampNeg (40 : Int32).toNatClampNeg)) (15 + 2) (va_cpy (I (52 + 2)) (I (15 + 2)) (0 : Int32).toNatClampNeg (0 : Int32).toNatClampNeg (40 : Int32).toNatClampNeg), J))) rfl ?_
    refine zEv_gr rfl rfl rfl (by decide) (hR (15) 3 (15 + 3) rfl) ?_
    refine zEv_k 2 (f' := (50, [some (.ref 15), some (.ref 52)], [.int 40, .int 0, .ref (15 + 3), .int 0, .ref (52 + 3)], (zS0, R, zrow (zrow (zu I 15 0 (I 52 0)) (15 + 1) (va_cpy (I (52 + 1)) (I (15 + 1)) (0 : Int32).toNatClampNeg (0 : Int32).toNatClampNeg (40 : Int32).toNatClampNeg)) (15 + 2) (va_cpy (I (52 + 2)) (I (15 + 2)) (0 : Int32).toNatClampNeg (0 : Int32).toNatClampNeg (40 : Int32).toNatClampNeg), J))) rfl ?_
    refine zEv_cp rfl rfl rfl (by decide) (by decide) (by decide) (by unfold zcpok; decide) (by decide) ?_
    exact zEv_r rfl
  · refine zEv_k 5 (f' := (9, [some (.ref 15), some (.ref 88)], [.ref 88], (zS0, R, zu I 15 0 (I 88 0), J))) rfl ?_
    refine zEv_gr rfl rfl rfl (by decide) (hR (88) 1 (88 + 1) rfl) ?_
    refine zEv_k 2 (f' := (14, [some (.ref 15), some (.ref 88)], [.ref 15, .int 0, .ref (88 + 1)], (zS0, R, zu I 15 0 (I 88 0), J))) rfl ?_
    refine zEv_gr rfl rfl rfl (by decide) (hR (15) 1 (15 + 1) rfl) ?_
    refine zEv_k 2 (f' := (20, [some (.ref 15), some (.ref 88)], [.int 40, .int 0, .ref (15 + 1), .int 0, .ref (88 + 1)], (zS0, R, zu I 15 0 (I 88 0), J))) rfl ?_
    refine zEv_cp rfl rfl rfl (by decide) (by decide) (by decide) (by unfold zcpok; decide) (by decide) ?_
    refine zEv_k 1 (f' := (24, [some (.ref 15), some (.ref 88)], [.ref 88], (zS0, R, zrow (zu I 15 0 (I 88 0)) (15 + 1) (va_cpy (I (88 + 1)) (I (15 + 1)) (0 : Int32).toNatClampNeg (0 : Int32).toNatClampNeg (40 : Int32).toNatClampNeg), J))) rfl ?_
    refine zEv_gr rfl rfl rfl (by decide) (hR (88) 2 (88 + 2) rfl) ?_
    refine zEv_k 2 (f' := (29, [some (.ref 15), some (.ref 88)], [.ref 15, .int 0, .ref (88 + 2)], (zS0, R, zrow (zu I 15 0 (I 88 0)) (15 + 1) (va_cpy (I (88 + 1)) (I (15 + 1)) (0 : Int32).toNatClampNeg (0 : Int32).toNatClampNeg (40 : Int32).toNatClampNeg), J))) rfl ?_
    refine zEv_gr rfl rfl rfl (by decide) (hR (15) 2 (15 + 2) rfl) ?_
    refine zEv_k 2 (f' := (35, [some (.ref 15), some (.ref 88)], [.int 40, .int 0, .ref (15 + 2), .int 0, .ref (88 + 2)], (zS0, R, zrow (zu I 15 0 (I 88 0)) (15 + 1) (va_cpy (I (88 + 1)) (I (15 + 1)) (0 : Int32).toNatClampNeg (0 : Int32).toNatClampNeg (40 : Int32).toNatClampNeg), J))) rfl ?_
    refine zEv_cp rfl rfl rfl (by decide) (by decide) (by decide) (by unfold zcpok; decide) (by decide) ?_
    refine zEv_k 1 (f' := (39, [some (.ref 15), some (.ref 88)], [.ref 88], (zS0, R, zrow (zrow (zu I 15 0 (I 88 0)) (15 + 1) (va_cpy (I (88 + 1)) (I (15 + 1)) (0 : Int32).toNatClampNeg (0 : Int32).toNatClampNeg (40 : Int32).toNatClampNeg)) (15 + 2) (va_cpy (I (88 + 2)) (I (15 + 2)) (0 : Int32).toNatClampNeg (0 : Int32).toNatClampNeg (40 : Int32).toNatClampNeg), J))) rfl ?_
    refine zEv_gr rfl rfl rfl (by decide) (hR (88) 3 (88 + 3) rfl) ?_
    refine zEv_k 2 (f' := (44, [some (.ref 15), some (.ref 88)], [.ref 15, .int 0, .ref (88 + 3)], (zS0, R, zrow (zrow (zu I 15 0 (I 88 0)) (15 + 1) (va_cpy (I (88 + 1)) (I (15 + 1)) (0 : Int32).toNatClampNeg (0 : Int32).toNatClampNeg (40 : Int32).toNatClampNeg)) (15 + 2) (va_cpy (I (88 + 2)) (I (15 + 2)) (0 : Int32).toNatClampNeg (0 : Int32).toNatClampNeg (40 : Int32).toNatClampNeg), J))) rfl ?_
    refine zEv_gr rfl rfl rfl (by decide) (hR (15) 3 (15 + 3) rfl) ?_
    refine zEv_k 2 (f' := (50, [some (.ref 15), some (.ref 88)], [.int 40, .int 0, .ref (15 + 3), .int 0, .ref (88 + 3)], (zS0, R, zrow (zrow (zu I 15 0 (I 88 0)) (15 + 1) (va_cpy (I (88 + 1)) (I (15 + 1)) (0 : Int32).toNatClampNeg (0 : Int32).toNatClampNeg (40 : Int32).toNatClampNeg)) (15 + 2) (va_cpy (I (88 + 2)) (I (15 + 2)) (0 : Int32).toNatClampNeg (0 : Int32).toNatClampNeg (40 : Int32).toNatClampNeg), J))) rfl ?_
    refine zEv_cp rfl rfl rfl (by decide) (by decide) (by decide) (by unfold zcpok; decide) (by decide) ?_
    exact zEv_r rfl
  · refine zEv_k 5 (f' := (9, [some (.ref 15), some (.ref 124)], [.ref 124], (zS0, R, zu I 15 0 (I 124 0), J))) rfl ?_
    refine zEv_gr rfl rfl rfl (by decide) (hR (124) 1 (124 + 1) rfl) ?_
    refine zEv_k 2 (f' := (14, [some (.ref 15), some (.ref 124)], [.ref 15, .int 0, .ref (124 + 1)], (zS0, R, zu I 15 0 (I 124 0), J))) rfl ?_
    refine zEv_gr rfl rfl rfl (by decide) (hR (15) 1 (15 + 1) rfl) ?_
    refine zEv_k 2 (f' := (20, [some (.ref 15), some (.ref 124)], [.int 40, .int 0, .ref (15 + 1), .int 0, .ref (124 + 1)], (zS0, R, zu I 15 0 (I 124 0), J))) rfl ?_
    refine zEv_cp rfl rfl rfl (by decide) (by decide) (by decide) (by unfold zcpok; decide) (by decide) ?_
    refine zEv_k 1 (f' := (24, [some (.ref 15), some (.ref 124)], [.ref 124], (zS0, R, zrow (zu I 15 0 (I 124 0)) (15 + 1) (va_cpy (I (124 + 1)) (I (15 + 1)) (0 : Int32).toNatClampNeg (0 : Int32).toNatClampNeg (40 : Int32).toNatClampNeg), J))) rfl ?_
    refine zEv_gr rfl rfl rfl (by decide) (hR (124) 2 (124 + 2) rfl) ?_
    refine zEv_k 2 (f' := (29, [some (.ref 15), some (.ref 124)], [.ref 15, .int 0, .ref (124 + 2)], (zS0, R, zrow (zu I 15 0 (I 124 0)) (15 + 1) (va_cpy (I (124 + 1)) (I (15 + 1)) (0 : Int32).toNatClampNeg (0 : Int32).toNatClampNeg (40 : Int32).toNatClampNeg), J))) rfl ?_
    refine zEv_gr rfl rfl rfl (by decide) (hR (15) 2 (15 + 2) rfl) ?_
    refine zEv_k 2 (f' := (35, [some (.ref 15), some (.ref 124)], [.int 40, .int 0, .ref (15 + 2), .int 0, .ref (124 + 2)], (zS0, R, zrow (zu I 15 0 (I 124 0)) (15 + 1) (va_cpy (I (124 + 1)) (I (15 + 1)) (0 : Int32).toNatClampNeg (0 : Int32).toNatClampNeg (40 : Int32).toNatClampNeg), J))) rfl ?_
    refine zEv_cp rfl rfl rfl (by decide) (by decide) (by decide) (by unfold zcpok; decide) (by decide) ?_
    refine zEv_k 1 (f' := (39, [some (.ref 15), some (.ref 124)], [.ref 124], (zS0, R, zrow (zrow (zu I 15 0 (I 124 0)) (15 + 1) (va_cpy (I (124 + 1)) (I (15 + 1)) (0 : Int32).toNatClampNeg (0 : Int32).toNatClampNeg (40 : Int32).toNatClampNeg)) (15 + 2) (va_cpy (I (124 + 2)) (I (15 + 2)) (0 : Int32).toNatClampNeg (0 : Int32).toNatClampNeg (40 : Int32).toNatClampNeg), J))) rfl ?_
    refine zEv_gr rfl rfl rfl (by decide) (hR (124) 3 (124 + 3) rfl) ?_
    refine zEv_k 2 (f' := (44, [some (.ref 15), some (.ref 124)], [.ref 15, .int 0, .ref (124 + 3)], (zS0, R, zrow (zrow (zu I 15 0 (I 124 0)) (15 + 1) (va_cpy (I (124 + 1)) (I (15 + 1)) (0 : Int32).toNatClampNeg (0 : Int32).toNatClampNeg (40 : Int32).toNatClampNeg)) (15 + 2) (va_cpy (I (124 + 2)) (I (15 + 2)) (0 : Int32).toNatClampNeg (0 : Int32).toNatClampNeg (40 : Int32).toNatClampNeg), J))) rfl ?_
    refine zEv_gr rfl rfl rfl (by decide) (hR (15) 3 (15 + 3) rfl) ?_
    refine zEv_k 2 (f' := (50, [some (.ref 15), some (.ref 124)], [.int 40, .int 0, .ref (15 + 3), .int 0, .ref (124 + 3)], (zS0, R, zrow (zrow (zu I 15 0 (I 124 0)) (15 + 1) (va_cpy (I (124 + 1)) (I (15 + 1)) (0 : Int32).toNatClampNeg (0 : Int32).toNatClampNeg (40 : Int32).toNatClampNeg)) (15 + 2) (va_cpy (I (124 + 2)) (I (15 + 2)) (0 : Int32).toNatClampNeg (0 : Int32).toNatClampNeg (40 : Int32).toNatClampNeg), J))) rfl ?_
    refine zEv_cp rfl rfl rfl (by decide) (by decide) (by decide) (by unfold zcpok; decide) (by decide) ?_
    exact zEv_r rfl
  · refine zEv_k 5 (f' := (9, [some (.ref 15), some (.ref 156)], [.ref 156], (zS0, R, zu I 15 0 (I 156 0), J))) rfl ?_
    refine zEv_gr rfl rfl rfl (by decide) (hR (156) 1 (156 + 1) rfl) ?_
    refine zEv_k 2 (f' := (14, [some (.ref 15), some (.ref 156)], [.ref 15, .int 0, .ref (156 + 1)], (zS0, R, zu I 15 0 (I 156 0), J))) rfl ?_
    refine zEv_gr rfl rfl rfl (by decide) (hR (15) 1 (15 + 1) rfl) ?_
    refine zEv_k 2 (f' := (20, [some (.ref 15), some (.ref 156)], [.int 40, .int 0, .ref (15 + 1), .int 0, .ref (156 + 1)], (zS0, R, zu I 15 0 (I 156 0), J))) rfl ?_
    refine zEv_cp rfl rfl rfl (by decide) (by decide) (by decide) (by unfold zcpok; decide) (by decide) ?_
    refine zEv_k 1 (f' := (24, [some (.ref 15), some (.ref 156)], [.ref 156], (zS0, R, zrow (zu I 15 0 (I 156 0)) (15 + 1) (va_cpy (I (156 + 1)) (I (15 + 1)) (0 : Int32).toNatClampNeg (0 : Int32).toNatClampNeg (40 : Int32).toNatClampNeg), J))) rfl ?_
    refine zEv_gr rfl rfl rfl (by decide) (hR (156) 2 (156 + 2) rfl) ?_
    refine zEv_k 2 (f' := (29, [some (.ref 15), some (.ref 156)], [.ref 15, .int 0, .ref (156 + 2)], (zS0, R, zrow (zu I 15 0 (I 156 0)) (15 + 1) (va_cpy (I (156 + 1)) (I (15 + 1)) (0 : Int32).toNatClampNeg (0 : Int32).toNatClampNeg (40 : Int32).toNatClampNeg), J))) rfl ?_
    refine zEv_gr rfl rfl rfl (by decide) (hR (15) 2 (15 + 2) rfl) ?_
    refine zEv_k 2 (f' := (35, [some (.ref 15), some (.ref 156)], [.int 40, .int 0, .ref (15 + 2), .int 0, .ref (156 + 2)], (zS0, R, zrow (zu I 15 0 (I 156 0)) (15 + 1) (va_cpy (I (156 + 1)) (I (15 + 1)) (0 : Int32).toNatClampNeg (0 : Int32).toNatClampNeg (40 : Int32).toNatClampNeg), J))) rfl ?_
    refine zEv_cp rfl rfl rfl (by decide) (by decide) (by decide) (by unfold zcpok; decide) (by decide) ?_
    refine zEv_k 1 (f' := (39, [some (.ref 15), some (.ref 156)], [.ref 156], (zS0, R, zrow (zrow (zu I 15 0 (I 156 0)) (15 + 1) (va_cpy (I (156 + 1)) (I (15 + 1)) (0 : Int32).toNatClampNeg (0 : Int32).toNatClampNeg (40 : Int32).toNatClampNeg)) (15 + 2) (va_cpy (I (156 + 2)) (I (15 + 2)) (0 : Int32).toNatClampNeg (0 : Int32).toNatClampNeg (40 : Int32).toNatClampNeg), J))) rfl ?_
    refine zEv_gr rfl rfl rfl (by decide) (hR (156) 3 (156 + 3) rfl) ?_
    refine zEv_k 2 (f' := (44, [some (.ref 15), some (.ref 156)], [.ref 15, .int 0, .ref (156 + 3)], (zS0, R, zrow (zrow (zu I 15 0 (I 156 0)) (15 + 1) (va_cpy (I (156 + 1)) (I (15 + 1)) (0 : Int32).toNatClampNeg (0 : Int32).toNatClampNeg (40 : Int32).toNatClampNeg)) (15 + 2) (va_cpy (I (156 + 2)) (I (15 + 2)) (0 : Int32).toNatClampNeg (0 : Int32).toNatClampNeg (40 : Int32).toNatClampNeg), J))) rfl ?_
    refine zEv_gr rfl rfl rfl (by decide) (hR (15) 3 (15 + 3) rfl) ?_
    refine zEv_k 2 (f' := (50, [some (.ref 15), some (.ref 156)], [.int 40, .int 0, .ref (15 + 3), .int 0, .ref (156 + 3)], (zS0, R, zrow (zrow (zu I 15 0 (I 156 0)) (15 + 1) (va_cpy (I (156 + 1)) (I (15 + 1)) (0 : Int32).toNatClampNeg (0 : Int32).toNatClampNeg (40 : Int32).toNatClampNeg)) (15 + 2) (va_cpy (I (156 + 2)) (I (15 + 2)) (0 : Int32).toNatClampNeg (0 : Int32).toNatClampNeg (40 : Int32).toNatClampNeg), J))) rfl ?_
    refine zEv_cp rfl rfl rfl (by decide) (by decide) (by decide) (by unfold zcpok; decide) (by decide) ?_
    exact zEv_r rfl
  · refine zEv_k 5 (f' := (9, [some (.ref 30), some (.ref 67)], [.ref 67], (zS0, R, zu I 30 0 (I 67 0), J))) rfl ?_
    refine zEv_gr rfl rfl rfl (by decide) (hR (67) 1 (67 + 1) rfl) ?_
    refine zEv_k 2 (f' := (14, [some (.ref 30), some (.ref 67)], [.ref 30, .int 0, .ref (67 + 1)], (zS0, R, zu I 30 0 (I 67 0), J))) rfl ?_
    refine zEv_gr rfl rfl rfl (by decide) (hR (30) 1 (30 + 1) rfl) ?_
    refine zEv_k 2 (f' := (20, [some (.ref 30), some (.ref 67)], [.int 40, .int 0, .ref (30 + 1), .int 0, .ref (67 + 1)], (zS0, R, zu I 30 0 (I 67 0), J))) rfl ?_
    refine zEv_cp rfl rfl rfl (by decide) (by decide) (by decide) (by unfold zcpok; decide) (by decide) ?_
    refine zEv_k 1 (f' := (24, [some (.ref 30), some (.ref 67)], [.ref 67], (zS0, R, zrow (zu I 30 0 (I 67 0)) (30 + 1) (va_cpy (I (67 + 1)) (I (30 + 1)) (0 : Int32).toNatClampNeg (0 : Int32).toNatClampNeg (40 : Int32).toNatClampNeg), J))) rfl ?_
    refine zEv_gr rfl rfl rfl (by decide) (hR (67) 2 (67 + 2) rfl) ?_
    refine zEv_k 2 (f' := (29, [some (.ref 30), some (.ref 67)], [.ref 30, .int 0, .ref (67 + 2)], (zS0, R, zrow (zu I 30 0 (I 67 0)) (30 + 1) (va_cpy (I (67 + 1)) (I (30 + 1)) (0 : Int32).toNatClampNeg (0 : Int32).toNatClampNeg (40 : Int32).toNatClampNeg), J))) rfl ?_
    refine zEv_gr rfl rfl rfl (by decide) (hR (30) 2 (30 + 2) rfl) ?_
    refine zEv_k 2 (f' := (35, [some (.ref 30), some (.ref 67)], [.int 40, .int 0, .ref (30 + 2), .int 0, .ref (67 + 2)], (zS0, R, zrow (zu I 30 0 (I 67 0)) (30 + 1) (va_cpy (I (67 + 1)) (I (30 + 1)) (0 : Int32).toNatClampNeg (0 : Int32).toNatClampNeg (40 : Int32).toNatClampNeg), J))) rfl ?_
    refine zEv_cp rfl rfl rfl (by decide) (by decide) (by decide) (by unfold zcpok; decide) (by decide) ?_
    refine zEv_k 1 (f' := (39, [some (.ref 30), some (.ref 67)], [.ref 67], (zS0, R, zrow (zrow (zu I 30 0 (I 67 0)) (30 + 1) (va_cpy (I (67 + 1)) (I (30 + 1)) (0 : Int32).toNatClampNeg (0 : Int32).toNatClampNeg (40 : Int32).toNatClampNeg)) (30 + 2) (va_cpy (I (67 + 2)) (I (30 + 2)) (0 : Int32).toNatClampNeg (0 : Int32).toNatClampNeg (40 : Int32).toNatClampNeg), J))) rfl ?_
    refine zEv_gr rfl rfl rfl (by decide) (hR (67) 3 (67 + 3) rfl) ?_
    refine zEv_k 2 (f' := (44, [some (.ref 30), some (.ref 67)], [.ref 30, .int 0, .ref (67 + 3)], (zS0, R, zrow (zrow (zu I 30 0 (I 67 0)) (30 + 1) (va_cpy (I (67 + 1)) (I (30 + 1)) (0 : Int32).toNatClampNeg (0 : Int32).toNatClampNeg (40 : Int32).toNatClampNeg)) (30 + 2) (va_cpy (I (67 + 2)) (I (30 + 2)) (0 : Int32).toNatClampNeg (0 : Int32).toNatClampNeg (40 : Int32).toNatClampNeg), J))) rfl ?_
    refine zEv_gr rfl rfl rfl (by decide) (hR (30) 3 (30 + 3) rfl) ?_
    refine zEv_k 2 (f' := (50, [some (.ref 30), some (.ref 67)], [.int 40, .int 0, .ref (30 + 3), .int 0, .ref (67 + 3)], (zS0, R, zrow (zrow (zu I 30 0 (I 67 0)) (30 + 1) (va_cpy (I (67 + 1)) (I (30 + 1)) (0 : Int32).toNatClampNeg (0 : Int32).toNatClampNeg (40 : Int32).toNatClampNeg)) (30 + 2) (va_cpy (I (67 + 2)) (I (30 + 2)) (0 : Int32).toNatClampNeg (0 : Int32).toNatClampNeg (40 : Int32).toNatClampNeg), J))) rfl ?_
    refine zEv_cp rfl rfl rfl (by decide) (by decide) (by decide) (by unfold zcpok; decide) (by decide) ?_
    exact zEv_r rfl
  · refine zEv_k 5 (f' := (9, [some (.ref 30), some (.ref 103)], [.ref 103], (zS0, R, zu I 30 0 (I 103 0), J))) rfl ?_
    refine zEv_gr rfl rfl rfl (by decide) (hR (103) 1 (103 + 1) rfl) ?_
    refine zEv_k 2 (f' := (14, [some (.ref 30), some (.ref 103)], [.ref 30, .int 0, .ref (103 + 1)], (zS0, R, zu I 30 0 (I 103 0), J))) rfl ?_
    refine zEv_gr rfl rfl rfl (by decide) (hR (30) 1 (30 + 1) rfl) ?_
    refine zEv_k 2 (f' := (20, [some (.ref 30), some (.ref 103)], [.int 40, .int 0, .ref (30 + 1), .int 0, .ref (103 + 1)], (zS0, R, zu I 30 0 (I 103 0), J))) rfl ?_
    refine zEv_cp rfl rfl rfl (by decide) (by decide) (by decide) (by unfold zcpok; decide) (by decide) ?_
    refine zEv_k 1 (f' := (24, [some (.ref 30), some (.ref 103)], [.ref 103], (zS0, R, zrow (zu I 30 0 (I 103 0)) (30 + 1) (va_cpy (I (103 + 1)) (I (30 + 1)) (0 : Int32).toNatClampNeg (0 : Int32).toNatClampNeg (40 : Int32).toNatClampNeg), J))) rfl ?_
    refine zEv_gr rfl rfl rfl (by decide) (hR (103) 2 (103 + 2) rfl) ?_
    refine zEv_k 2 (f' := (29, [some (.ref 30), some (.ref 103)], [.ref 30, .int 0, .ref (103 + 2)], (zS0, R, zrow (zu I 30 0 (I 103 0)) (30 + 1) (va_cpy (I (103 + 1)) (I (30 + 1)) (0 : Int32).toNatClampNeg (0 : Int32).toNatClampNeg (40 : Int32).toNatClampNeg), J))) rfl ?_
    refine zEv_gr rfl rfl rfl (by decide) (hR (30) 2 (30 + 2) rfl) ?_
    refine zEv_k 2 (f' := (35, [some (.ref 30), some (.ref 103)], [.int 40, .int 0, .ref (30 + 2), .int 0, .ref (103 + 2)], (zS0, R, zrow (zu I 30 0 (I 103 0)) (30 + 1) (va_cpy (I (103 + 1)) (I (30 + 1)) (0 : Int32).toNatClampNeg (0 : Int32).toNatClampNeg (40 : Int32).toNatClampNeg), J))) rfl ?_
    refine zEv_cp rfl rfl rfl (by decide) (by decide) (by decide) (by unfold zcpok; decide) (by decide) ?_
    refine zEv_k 1 (f' := (39, [some (.ref 30), some (.ref 103)], [.ref 103], (zS0, R, zrow (zrow (zu I 30 0 (I 103 0)) (30 + 1) (va_cpy (I (103 + 1)) (I (30 + 1)) (0 : Int32).toNatClampNeg (0 : Int32).toNatClampNeg (40 : Int32).toNatClampNeg)) (30 + 2) (va_cpy (I (103 + 2)) (I (30 + 2)) (0 : Int32).toNatClampNeg (0 : Int32).toNatClampNeg (40 : Int32).toNatClampNeg), J))) rfl ?_
    refine zEv_gr rfl rfl rfl (by decide) (hR (103) 3 (103 + 3) rfl) ?_
    refine zEv_k 2 (f' := (44, [some (.ref 30), some (.ref 103)], [.ref 30, .int 0, .ref (103 + 3)], (zS0, R, zrow (zrow (zu I 30 0 (I 103 0)) (30 + 1) (va_cpy (I (103 + 1)) (I (30 + 1)) (0 : Int32).toNatClampNeg (0 : Int32).toNatClampNeg (40 : Int32).toNatClampNeg)) (30 + 2) (va_cpy (I (103 + 2)) (I (30 + 2)) (0 : Int32).toNatClampNeg (0 : Int32).toNatClampNeg (40 : Int32).toNatClampNeg), J))) rfl ?_
    refine zEv_gr rfl rfl rfl (by decide) (hR (30) 3 (30 + 3) rfl) ?_
    refine zEv_k 2 (f' := (50, [some (.ref 30), some (.ref 103)], [.int 40, .int 0, .ref (30 + 3), .int 0, .ref (103 + 3)], (zS0, R, zrow (zrow (zu I 30 0 (I 103 0)) (30 + 1) (va_cpy (I (103 + 1)) (I (30 + 1)) (0 : Int32).toNatClampNeg (0 : Int32).toNatClampNeg (40 : Int32).toNatClampNeg)) (30 + 2) (va_cpy (I (103 + 2)) (I (30 + 2)) (0 : Int32).toNatClampNeg (0 : Int32).toNatClampNeg (40 : Int32).toNatClampNeg), J))) rfl ?_
    refine zEv_cp rfl rfl rfl (by decide) (by decide) (by decide) (by unfold zcpok; decide) (by decide) ?_
    exact zEv_r rfl
  · refine zEv_k 5 (f' := (9, [some (.ref 30), some (.ref 139)], [.ref 139], (zS0, R, zu I 30 0 (I 139 0), J))) rfl ?_
    refine zEv_gr rfl rfl rfl (by decide) (hR (139) 1 (139 + 1) rfl) ?_
    refine zEv_k 2 (f' := (14, [some (.ref 30), some (.ref 139)], [.ref 30, .int 0, .ref (139 + 1)], (zS0, R, zu I 30 0 (I 139 0), J))) rfl ?_
    refine zEv_gr rfl rfl rfl (by decide) (hR (30) 1 (30 + 1) rfl) ?_
    refine zEv_k 2 (f' := (20, [some (.ref 30), some (.ref 139)], [.int 40, .int 0, .ref (30 + 1), .int 0, .ref (139 + 1)], (zS0, R, zu I 30 0 (I 139 0), J))) rfl ?_
    refine zEv_cp rfl rfl rfl (by decide) (by decide) (by decide) (by unfold zcpok; decide) (by decide) ?_
    refine zEv_k 1 (f' := (24, [some (.ref 30), some (.ref 139)], [.ref 139], (zS0, R, zrow (zu I 30 0 (I 139 0)) (30 + 1) (va_cpy (I (139 + 1)) (I (30 + 1)) (0 : Int32).toNatClampNeg (0 : Int32).toNatClampNeg (40 : Int32).toNatClampNeg), J))) rfl ?_
    refine zEv_gr rfl rfl rfl (by decide) (hR (139) 2 (139 + 2) rfl) ?_
    refine zEv_k 2 (f' := (29, [some (.ref 30), some (.ref 139)], [.ref 30, .int 0, .ref (139 + 2)], (zS0, R, zrow (zu I 30 0 (I 139 0)) (30 + 1) (va_cpy (I (139 + 1)) (I (30 + 1)) (0 : Int32).toNatClampNeg (0 : Int32).toNatClampNeg (40 : Int32).toNatClampNeg), J))) rfl ?_
    refine zEv_gr rfl rfl rfl (by decide) (hR (30) 2 (30 + 2) rfl) ?_
    refine zEv_k 2 (f' := (35, [some (.ref 30), some (.ref 139)], [.int 40, .int 0, .ref (30 + 2), .int 0, .ref (139 + 2)], (zS0, R, zrow (zu I 30 0 (I 139 0)) (30 + 1) (va_cpy (I (139 + 1)) (I (30 + 1)) (0 : Int32).toNatClampNeg (0 : Int32).toNatClampNeg (40 : Int32).toNatClampNeg), J))) rfl ?_
    refine zEv_cp rfl rfl rfl (by decide) (by decide) (by decide) (by unfold zcpok; decide) (by decide) ?_
    refine zEv_k 1 (f' := (39, [some (.ref 30), some (.ref 139)], [.ref 139], (zS0, R, zrow (zrow (zu I 30 0 (I 139 0)) (30 + 1) (va_cpy (I (139 + 1)) (I (30 + 1)) (0 : Int32).toNatClampNeg (0 : Int32).toNatClampNeg (40 : Int32).toNatClampNeg)) (30 + 2) (va_cpy (I (139 + 2)) (I (30 + 2)) (0 : Int32).toNatClampNeg (0 : Int32).toNatClampNeg (40 : Int32).toNatClampNeg), J))) rfl ?_
    refine zEv_gr rfl rfl rfl (by decide) (hR (139) 3 (139 + 3) rfl) ?_
    refine zEv_k 2 (f' := (44, [some (.ref 30), some (.ref 139)], [.ref 30, .int 0, .ref (139 + 3)], (zS0, R, zrow (zrow (zu I 30 0 (I 139 0)) (30 + 1) (va_cpy (I (139 + 1)) (I (30 + 1)) (0 : Int32).toNatClampNeg (0 : Int32).toNatClampNeg (40 : Int32).toNatClampNeg)) (30 + 2) (va_cpy (I (139 + 2)) (I (30 + 2)) (0 : Int32).toNatClampNeg (0 : Int32).toNatClampNeg (40 : Int32).toNatClampNeg), J))) rfl ?_
    refine zEv_gr rfl rfl rfl (by decide) (hR (30) 3 (30 + 3) rfl) ?_
    refine zEv_k 2 (f' := (50, [some (.ref 30), some (.ref 139)], [.int 40, .int 0, .ref (30 + 3), .int 0, .ref (139 + 3)], (zS0, R, zrow (zrow (zu I 30 0 (I 139 0)) (30 + 1) (va_cpy (I (139 + 1)) (I (30 + 1)) (0 : Int32).toNatClampNeg (0 : Int32).toNatClampNeg (40 : Int32).toNatClampNeg)) (30 + 2) (va_cpy (I (139 + 2)) (I (30 + 2)) (0 : Int32).toNatClampNeg (0 : Int32).toNatClampNeg (40 : Int32).toNatClampNeg), J))) rfl ?_
    refine zEv_cp rfl rfl rfl (by decide) (by decide) (by decide) (by unfold zcpok; decide) (by decide) ?_
    exact zEv_r rfl
  · refine zEv_k 5 (f' := (9, [some (.ref 30), some (.ref 156)], [.ref 156], (zS0, R, zu I 30 0 (I 156 0), J))) rfl ?_
    refine zEv_gr rfl rfl rfl (by decide) (hR (156) 1 (156 + 1) rfl) ?_
    refine zEv_k 2 (f' := (14, [some (.ref 30), some (.ref 156)], [.ref 30, .int 0, .ref (156 + 1)], (zS0, R, zu I 30 0 (I 156 0), J))) rfl ?_
    refine zEv_gr rfl rfl rfl (by decide) (hR (30) 1 (30 + 1) rfl) ?_
    refine zEv_k 2 (f' := (20, [some (.ref 30), some (.ref 156)], [.int 40, .int 0, .ref (30 + 1), .int 0, .ref (156 + 1)], (zS0, R, zu I 30 0 (I 156 0), J))) rfl ?_
    refine zEv_cp rfl rfl rfl (by decide) (by decide) (by decide) (by unfold zcpok; decide) (by decide) ?_
    refine zEv_k 1 (f' := (24, [some (.ref 30), some (.ref 156)], [.ref 156], (zS0, R, zrow (zu I 30 0 (I 156 0)) (30 + 1) (va_cpy (I (156 + 1)) (I (30 + 1)) (0 : Int32).toNatClampNeg (0 : Int32).toNatClampNeg (40 : Int32).toNatClampNeg), J))) rfl ?_
    refine zEv_gr rfl rfl rfl (by decide) (hR (156) 2 (156 + 2) rfl) ?_
    refine zEv_k 2 (f' := (29, [some (.ref 30), some (.ref 156)], [.ref 30, .int 0, .ref (156 + 2)], (zS0, R, zrow (zu I 30 0 (I 156 0)) (30 + 1) (va_cpy (I (156 + 1)) (I (30 + 1)) (0 : Int32).toNatClampNeg (0 : Int32).toNatClampNeg (40 : Int32).toNatClampNeg), J))) rfl ?_
    refine zEv_gr rfl rfl rfl (by decide) (hR (30) 2 (30 + 2) rfl) ?_
    refine zEv_k 2 (f' := (35, [some (.ref 30), some (.ref 156)], [.int 40, .int 0, .ref (30 + 2), .int 0, .ref (156 + 2)], (zS0, R, zrow (zu I 30 0 (I 156 0)) (30 + 1) (va_cpy (I (156 + 1)) (I (30 + 1)) (0 : Int32).toNatClampNeg (0 : Int32).toNatClampNeg (40 : Int32).toNatClampNeg), J))) rfl ?_
    refine zEv_cp rfl rfl rfl (by decide) (by decide) (by decide) (by unfold zcpok; decide) (by decide) ?_
    refine zEv_k 1 (f' := (39, [some (.ref 30), some (.ref 156)], [.ref 156], (zS0, R, zrow (zrow (zu I 30 0 (I 156 0)) (30 + 1) (va_cpy (I (156 + 1)) (I (30 + 1)) (0 : Int32).toNatClampNeg (0 : Int32).toNatClampNeg (40 : Int32).toNatClampNeg)) (30 + 2) (va_cpy (I (156 + 2)) (I (30 + 2)) (0 : Int32).toNatClampNeg (0 : Int32).toNatClampNeg (40 : Int32).toNatClampNeg), J))) rfl ?_
    refine zEv_gr rfl rfl rfl (by decide) (hR (156) 3 (156 + 3) rfl) ?_
    refine zEv_k 2 (f' := (44, [some (.ref 30), some (.ref 156)], [.ref 30, .int 0, .ref (156 + 3)], (zS0, R, zrow (zrow (zu I 30 0 (I 156 0)) (30 + 1) (va_cpy (I (156 + 1)) (I (30 + 1)) (0 : Int32).toNatClampNeg (0 : Int32).toNatClampNeg (40 : Int32).toNatClampNeg)) (30 + 2) (va_cpy (I (156 + 2)) (I (30 + 2)) (0 : Int32).toNatClampNeg (0 : Int32).toNatClampNeg (40 : Int32).toNatClampNeg), J))) rfl ?_
    refine zEv_gr rfl rfl rfl (by decide) (hR (30) 3 (30 + 3) rfl) ?_
    refine zEv_k 2 (f' := (50, [some (.ref 30), some (.ref 156)], [.int 40, .int 0, .ref (30 + 3), .int 0, .ref (156 + 3)], (zS0, R, zrow (zrow (zu I 30 0 (I 156 0)) (30 + 1) (va_cpy (I (156 + 1)) (I (30 + 1)) (0 : Int32).toNatClampNeg (0 : Int32).toNatClampNeg (40 : Int32).toNatClampNeg)) (30 + 2) (va_cpy (I (156 + 2)) (I (30 + 2)) (0 : Int32).toNatClampNeg (0 : Int32).toNatClampNeg (40 : Int32).toNatClampNeg), J))) rfl ?_
    refine zEv_cp rfl rfl rfl (by decide) (by decide) (by decide) (by unfold zcpok; decide) (by decide) ?_
    exact zEv_r rfl
  · refine zEv_k 5 (f' := (9, [some (.ref 52), some (.ref 15)], [.ref 15], (zS0, R, zu I 52 0 (I 15 0), J))) rfl ?_
    refine zEv_gr rfl rfl rfl (by decide) (hR (15) 1 (15 + 1) rfl) ?_
    refine zEv_k 2 (f' := (14, [some (.ref 52), some (.ref 15)], [.ref 52, .int 0, .ref (15 + 1)], (zS0, R, zu I 52 0 (I 15 0), J))) rfl ?_
    refine zEv_gr rfl rfl rfl (by decide) (hR (52) 1 (52 + 1) rfl) ?_
    refine zEv_k 2 (f' := (20, [some (.ref 52), some (.ref 15)], [.int 40, .int 0, .ref (52 + 1), .int 0, .ref (15 + 1)], (zS0, R, zu I 52 0 (I 15 0), J))) rfl ?_
    refine zEv_cp rfl rfl rfl (by decide) (by decide) (by decide) (by unfold zcpok; decide) (by decide) ?_
    refine zEv_k 1 (f' := (24, [some (.ref 52), some (.ref 15)], [.ref 15], (zS0, R, zrow (zu I 52 0 (I 15 0)) (52 + 1) (va_cpy (I (15 + 1)) (I (52 + 1)) (0 : Int32).toNatClampNeg (0 : Int32).toNatClampNeg (40 : Int32).toNatClampNeg), J))) rfl ?_
    refine zEv_gr rfl rfl rfl (by decide) (hR (15) 2 (15 + 2) rfl) ?_
    refine zEv_k 2 (f' := (29, [some (.ref 52), some (.ref 15)], [.ref 52, .int 0, .ref (15 + 2)], (zS0, R, zrow (zu I 52 0 (I 15 0)) (52 + 1) (va_cpy (I (15 + 1)) (I (52 + 1)) (0 : Int32).toNatClampNeg (0 : Int32).toNatClampNeg (40 : Int32).toNatClampNeg), J))) rfl ?_
    refine zEv_gr rfl rfl rfl (by decide) (hR (52) 2 (52 + 2) rfl) ?_
    refine zEv_k 2 (f' := (35, [some (.ref 52), some (.ref 15)], [.int 40, .int 0, .ref (52 + 2), .int 0, .ref (15 + 2)], (zS0, R, zrow (zu I 52 0 (I 15 0)) (52 + 1) (va_cpy (I (15 + 1)) (I (52 + 1)) (0 : Int32).toNatClampNeg (0 : Int32).toNatClampNeg (40 : Int32).toNatClampNeg), J))) rfl ?_
    refine zEv_cp rfl rfl rfl (by decide) (by decide) (by decide) (by unfold zcpok; decide) (by decide) ?_
    refine zEv_k 1 (f' := (39, [some (.ref 52), some (.ref 15)], [.ref 15], (zS0, R, zrow (zrow (zu I 52 0 (I 15 0)) (52 + 1) (va_cpy (I (15 + 1)) (I (52 + 1)) (0 : Int32).toNatClampNeg (0 : Int32).toNatClampNeg (40 : Int32).toNatClampNeg)) (52 + 2) (va_cpy (I (15 + 2)) (I (52 + 2)) (0 : Int32).toNatClampNeg (0 : Int32).toNatClampNeg (40 : Int32).toNatClampNeg), J))) rfl ?_
    refine zEv_gr rfl rfl rfl (by decide) (hR (15) 3 (15 + 3) rfl) ?_
    refine zEv_k 2 (f' := (44, [some (.ref 52), some (.ref 15)], [.ref 52, .int 0, .ref (15 + 3)], (zS0, R, zrow (zrow (zu I 52 0 (I 15 0)) (52 + 1) (va_cpy (I (15 + 1)) (I (52 + 1)) (0 : Int32).toNatClampNeg (0 : Int32).toNatClampNeg (40 : Int32).toNatClampNeg)) (52 + 2) (va_cpy (I (15 + 2)) (I (52 + 2)) (0 : Int32).toNatClampNeg (0 : Int32).toNatClampNeg (40 : Int32).toNatClampNeg), J))) rfl ?_
    refine zEv_gr rfl rfl rfl (by decide) (hR (52) 3 (52 + 3) rfl) ?_
    refine zEv_k 2 (f' := (50, [some (.ref 52), some (.ref 15)], [.int 40, .int 0, .ref (52 + 3), .int 0, .ref (15 + 3)], (zS0, R, zrow (zrow (zu I 52 0 (I 15 0)) (52 + 1) (va_cpy (I (15 + 1)) (I (52 + 1)) (0 : Int32).toNatClampNeg (0 : Int32).toNatClampNeg (40 : Int32).toNatClampNeg)) (52 + 2) (va_cpy (I (15 + 2)) (I (52 + 2)) (0 : Int32).toNatClampNeg (0 : Int32).toNatClampNeg (40 : Int32).toNatClampNeg), J))) rfl ?_
    refine zEv_cp rfl rfl rfl (by decide) (by decide) (by decide) (by unfold zcpok; decide) (by decide) ?_
    exact zEv_r rfl
  · refine zEv_k 5 (f' := (9, [some (.ref 67), some (.ref 30)], [.ref 30], (zS0, R, zu I 67 0 (I 30 0), J))) rfl ?_
    refine zEv_gr rfl rfl rfl (by decide) (hR (30) 1 (30 + 1) rfl) ?_
    refine zEv_k 2 (f' := (14, [some (.ref 67), some (.ref 30)], [.ref 67, .int 0, .ref (30 + 1)], (zS0, R, zu I 67 0 (I 30 0), J))) rfl ?_
    refine zEv_gr rfl rfl rfl (by decide) (hR (67) 1 (67 + 1) rfl) ?_
    refine zEv_k 2 (f' := (20, [some (.ref 67), some (.ref 30)], [.int 40, .int 0, .ref (67 + 1), .int 0, .ref (30 + 1)], (zS0, R, zu I 67 0 (I 30 0), J))) rfl ?_
    refine zEv_cp rfl rfl rfl (by decide) (by decide) (by decide) (by unfold zcpok; decide) (by decide) ?_
    refine zEv_k 1 (f' := (24, [some (.ref 67), some (.ref 30)], [.ref 30], (zS0, R, zrow (zu I 67 0 (I 30 0)) (67 + 1) (va_cpy (I (30 + 1)) (I (67 + 1)) (0 : Int32).toNatClampNeg (0 : Int32).toNatClampNeg (40 : Int32).toNatClampNeg), J))) rfl ?_
    refine zEv_gr rfl rfl rfl (by decide) (hR (30) 2 (30 + 2) rfl) ?_
    refine zEv_k 2 (f' := (29, [some (.ref 67), some (.ref 30)], [.ref 67, .int 0, .ref (30 + 2)], (zS0, R, zrow (zu I 67 0 (I 30 0)) (67 + 1) (va_cpy (I (30 + 1)) (I (67 + 1)) (0 : Int32).toNatClampNeg (0 : Int32).toNatClampNeg (40 : Int32).toNatClampNeg), J))) rfl ?_
    refine zEv_gr rfl rfl rfl (by decide) (hR (67) 2 (67 + 2) rfl) ?_
    refine zEv_k 2 (f' := (35, [some (.ref 67), some (.ref 30)], [.int 40, .int 0, .ref (67 + 2), .int 0, .ref (30 + 2)], (zS0, R, zrow (zu I 67 0 (I 30 0)) (67 + 1) (va_cpy (I (30 + 1)) (I (67 + 1)) (0 : Int32).toNatClampNeg (0 : Int32).toNatClampNeg (40 : Int32).toNatClampNeg), J))) rfl ?_
    refine zEv_cp rfl rfl rfl (by decide) (by decide) (by decide) (by unfold zcpok; decide) (by decide) ?_
    refine zEv_k 1 (f' := (39, [some (.ref 67), some (.ref 30)], [.ref 30], (zS0, R, zrow (zrow (zu I 67 0 (I 30 0)) (67 + 1) (va_cpy (I (30 + 1)) (I (67 + 1)) (0 : Int32).toNatClampNeg (0 : Int32).toNatClampNeg (40 : Int32).toNatClampNeg)) (67 + 2) (va_cpy (I (30 + 2)) (I (67 + 2)) (0 : Int32).toNatClampNeg (0 : Int32).toNatClampNeg (40 : Int32).toNatClampNeg), J))) rfl ?_
    refine zEv_gr rfl rfl rfl (by decide) (hR (30) 3 (30 + 3) rfl) ?_
    refine zEv_k 2 (f' := (44, [some (.ref 67), some (.ref 30)], [.ref 67, .int 0, .ref (30 + 3)], (zS0, R, zrow (zrow (zu I 67 0 (I 30 0)) (67 + 1) (va_cpy (I (30 + 1)) (I (67 + 1)) (0 : Int32).toNatClampNeg (0 : Int32).toNatClampNeg (40 : Int32).toNatClampNeg)) (67 + 2) (va_cpy (I (30 + 2)) (I (67 + 2)) (0 : Int32).toNatClampNeg (0 : Int32).toNatClampNeg (40 : Int32).toNatClampNeg), J))) rfl ?_
    refine zEv_gr rfl rfl rfl (by decide) (hR (67) 3 (67 + 3) rfl) ?_
    refine zEv_k 2 (f' := (50, [some (.ref 67), some (.ref 30)], [.int 40, .int 0, .ref (67 + 3), .int 0, .ref (30 + 3)], (zS0, R, zrow (zrow (zu I 67 0 (I 30 0)) (67 + 1) (va_cpy (I (30 + 1)) (I (67 + 1)) (0 : Int32).toNatClampNeg (0 : Int32).toNatClampNeg (40 : Int32).toNatClampNeg)) (67 + 2) (va_cpy (I (30 + 2)) (I (67 + 2)) (0 : Int32).toNatClampNeg (0 : Int32).toNatClampNeg (40 : Int32).toNatClampNeg), J))) rfl ?_
    refine zEv_cp rfl rfl rfl (by decide) (by decide) (by decide) (by unfold zcpok; decide) (by decide) ?_
    exact zEv_r rfl
  · refine zEv_k 5 (f' := (9, [some (.ref 88), some (.ref 15)], [.ref 15], (zS0, R, zu I 88 0 (I 15 0), J))) rfl ?_
    refine zEv_gr rfl rfl rfl (by decide) (hR (15) 1 (15 + 1) rfl) ?_
    refine zEv_k 2 (f' := (14, [some (.ref 88), some (.ref 15)], [.ref 88, .int 0, .ref (15 + 1)], (zS0, R, zu I 88 0 (I 15 0), J))) rfl ?_
    refine zEv_gr rfl rfl rfl (by decide) (hR (88) 1 (88 + 1) rfl) ?_
    refine zEv_k 2 (f' := (20, [some (.ref 88), some (.ref 15)], [.int 40, .int 0, .ref (88 + 1), .int 0, .ref (15 + 1)], (zS0, R, zu I 88 0 (I 15 0), J))) rfl ?_
    refine zEv_cp rfl rfl rfl (by decide) (by decide) (by decide) (by unfold zcpok; decide) (by decide) ?_
    refine zEv_k 1 (f' := (24, [some (.ref 88), some (.ref 15)], [.ref 15], (zS0, R, zrow (zu I 88 0 (I 15 0)) (88 + 1) (va_cpy (I (15 + 1)) (I (88 + 1)) (0 : Int32).toNatClampNeg (0 : Int32).toNatClampNeg (40 : Int32).toNatClampNeg), J))) rfl ?_
    refine zEv_gr rfl rfl rfl (by decide) (hR (15) 2 (15 + 2) rfl) ?_
    refine zEv_k 2 (f' := (29, [some (.ref 88), some (.ref 15)], [.ref 88, .int 0, .ref (15 + 2)], (zS0, R, zrow (zu I 88 0 (I 15 0)) (88 + 1) (va_cpy (I (15 + 1)) (I (88 + 1)) (0 : Int32).toNatClampNeg (0 : Int32).toNatClampNeg (40 : Int32).toNatClampNeg), J))) rfl ?_
    refine zEv_gr rfl rfl rfl (by decide) (hR (88) 2 (88 + 2) rfl) ?_
    refine zEv_k 2 (f' := (35, [some (.ref 88), some (.ref 15)], [.int 40, .int 0, .ref (88 + 2), .int 0, .ref (15 + 2)], (zS0, R, zrow (zu I 88 0 (I 15 0)) (88 + 1) (va_cpy (I (15 + 1)) (I (88 + 1)) (0 : Int32).toNatClampNeg (0 : Int32).toNatClampNeg (40 : Int32).toNatClampNeg), J))) rfl ?_
    refine zEv_cp rfl rfl rfl (by decide) (by decide) (by decide) (by unfold zcpok; decide) (by decide) ?_
    refine zEv_k 1 (f' := (39, [some (.ref 88), some (.ref 15)], [.ref 15], (zS0, R, zrow (zrow (zu I 88 0 (I 15 0)) (88 + 1) (va_cpy (I (15 + 1)) (I (88 + 1)) (0 : Int32).toNatClampNeg (0 : Int32).toNatClampNeg (40 : Int32).toNatClampNeg)) (88 + 2) (va_cpy (I (15 + 2)) (I (88 + 2)) (0 : Int32).toNatClampNeg (0 : Int32).toNatClampNeg (40 : Int32).toNatClampNeg), J))) rfl ?_
    refine zEv_gr rfl rfl rfl (by decide) (hR (15) 3 (15 + 3) rfl) ?_
    refine zEv_k 2 (f' := (44, [some (.ref 88), some (.ref 15)], [.ref 88, .int 0, .ref (15 + 3)], (zS0, R, zrow (zrow (zu I 88 0 (I 15 0)) (88 + 1) (va_cpy (I (15 + 1)) (I (88 + 1)) (0 : Int32).toNatClampNeg (0 : Int32).toNatClampNeg (40 : Int32).toNatClampNeg)) (88 + 2) (va_cpy (I (15 + 2)) (I (88 + 2)) (0 : Int32).toNatClampNeg (0 : Int32).toNatClampNeg (40 : Int32).toNatClampNeg), J))) rfl ?_
    refine zEv_gr rfl rfl rfl (by decide) (hR (88) 3 (88 + 3) rfl) ?_
    refine zEv_k 2 (f' := (50, [some (.ref 88), some (.ref 15)], [.int 40, .int 0, .ref (88 + 3), .int 0, .ref (15 + 3)], (zS0, R, zrow (zrow (zu I 88 0 (I 15 0)) (88 + 1) (va_cpy (I (15 + 1)) (I (88 + 1)) (0 : Int32).toNatClampNeg (0 : Int32).toNatClampNeg (40 : Int32).toNatClampNeg)) (88 + 2) (va_cpy (I (15 + 2)) (I (88 + 2)) (0 : Int32).toNatClampNeg (0 : Int32).toNatClampNeg (40 : Int32).toNatClampNeg), J))) rfl ?_
    refine zEv_cp rfl rfl rfl (by decide) (by decide) (by decide) (by unfold zcpok; decide) (by decide) ?_
    exact zEv_r rfl
  · refine zEv_k 5 (f' := (9, [some (.ref 103), some (.ref 30)], [.ref 30], (zS0, R, zu I 103 0 (I 30 0), J))) rfl ?_
    refine zEv_gr rfl rfl rfl (by decide) (hR (30) 1 (30 + 1) rfl) ?_
    refine zEv_k 2 (f' := (14, [some (.ref 103), some (.ref 30)], [.ref 103, .int 0, .ref (30 + 1)], (zS0, R, zu I 103 0 (I 30 0), J))) rfl ?_
    refine zEv_gr rfl rfl rfl (by decide) (hR (103) 1 (103 + 1) rfl) ?_
    refine zEv_k 2 (f' := (20, [some (.ref 103), some (.ref 30)], [.int 40, .int 0, .ref (103 + 1), .int 0, .ref (30 + 1)], (zS0, R, zu I 103 0 (I 30 0), J))) rfl ?_
    refine zEv_cp rfl rfl rfl (by decide) (by decide) (by decide) (by unfold zcpok; decide) (by decide) ?_
    refine zEv_k 1 (f' := (24, [some (.ref 103), some (.ref 30)], [.ref 30], (zS0, R, zrow (zu I 103 0 (I 30 0)) (103 + 1) (va_cpy (I (30 + 1)) (I (103 + 1)) (0 : Int32).toNatClampNeg (0 : Int32).toNatClampNeg (40 : Int32).toNatClampNeg), J))) rfl ?_
    refine zEv_gr rfl rfl rfl (by decide) (hR (30) 2 (30 + 2) rfl) ?_
    refine zEv_k 2 (f' := (29, [some (.ref 103), some (.ref 30)], [.ref 103, .int 0, .ref (30 + 2)], (zS0, R, zrow (zu I 103 0 (I 30 0)) (103 + 1) (va_cpy (I (30 + 1)) (I (103 + 1)) (0 : Int32).toNatClampNeg (0 : Int32).toNatClampNeg (40 : Int32).toNatClampNeg), J))) rfl ?_
    refine zEv_gr rfl rfl rfl (by decide) (hR (103) 2 (103 + 2) rfl) ?_
    refine zEv_k 2 (f' := (35, [some (.ref 103), some (.ref 30)], [.int 40, .int 0, .ref (103 + 2), .int 0, .ref (30 + 2)], (zS0, R, zrow (zu I 103 0 (I 30 0)) (103 + 1) (va_cpy (I (30 + 1)) (I (103 + 1)) (0 : Int32).toNatClampNeg (0 : Int32).toNatClampNeg (40 : Int32).toNatClampNeg), J))) rfl ?_
    refine zEv_cp rfl rfl rfl (by decide) (by decide) (by decide) (by unfold zcpok; decide) (by decide) ?_
    refine zEv_k 1 (f' := (39, [some (.ref 103), some (.ref 30)], [.ref 30], (zS0, R, zrow (zrow (zu I 103 0 (I 30 0)) (103 + 1) (va_cpy (I (30 + 1)) (I (103 + 1)) (0 : Int32).toNatClampNeg (0 : Int32).toNatClampNeg (40 : Int32).toNatClampNeg)) (103 + 2) (va_cpy (I (30 + 2)) (I (103 + 2)) (0 : Int32).toNatClampNeg (0 : Int32).toNatClampNeg (40 : Int32).toNatClampNeg), J))) rfl ?_
    refine zEv_gr rfl rfl rfl (by decide) (hR (30) 3 (30 + 3) rfl) ?_
    refine zEv_k 2 (f' := (44, [some (.ref 103), some (.ref 30)], [.ref 103, .int 0, .ref (30 + 3)], (zS0, R, zrow (zrow (zu I 103 0 (I 30 0)) (103 + 1) (va_cpy (I (30 + 1)) (I (103 + 1)) (0 : Int32).toNatClampNeg (0 : Int32).toNatClampNeg (40 : Int32).toNatClampNeg)) (103 + 2) (va_cpy (I (30 + 2)) (I (103 + 2)) (0 : Int32).toNatClampNeg (0 : Int32).toNatClampNeg (40 : Int32).toNatClampNeg), J))) rfl ?_
    refine zEv_gr rfl rfl rfl (by decide) (hR (103) 3 (103 + 3) rfl) ?_
    refine zEv_k 2 (f' := (50, [some (.ref 103), some (.ref 30)], [.int 40, .int 0, .ref (103 + 3), .int 0, .ref (30 + 3)], (zS0, R, zrow (zrow (zu I 103 0 (I 30 0)) (103 + 1) (va_cpy (I (30 + 1)) (I (103 + 1)) (0 : Int32).toNatClampNeg (0 : Int32).toNatClampNeg (40 : Int32).toNatClampNeg)) (103 + 2) (va_cpy (I (30 + 2)) (I (103 + 2)) (0 : Int32).toNatClampNeg (0 : Int32).toNatClampNeg (40 : Int32).toNatClampNeg), J))) rfl ?_
    refine zEv_cp rfl rfl rfl (by decide) (by decide) (by decide) (by unfold zcpok; decide) (by decide) ?_
    exact zEv_r rfl
  · refine zEv_k 5 (f' := (9, [some (.ref 124), some (.ref 15)], [.ref 15], (zS0, R, zu I 124 0 (I 15 0), J))) rfl ?_
    refine zEv_gr rfl rfl rfl (by decide) (hR (15) 1 (15 + 1) rfl) ?_
    refine zEv_k 2 (f' := (14, [some (.ref 124), some (.ref 15)], [.ref 124, .int 0, .ref (15 + 1)], (zS0, R, zu I 124 0 (I 15 0), J))) rfl ?_
    refine zEv_gr rfl rfl rfl (by decide) (hR (124) 1 (124 + 1) rfl) ?_
    refine zEv_k 2 (f' := (20, [some (.ref 124), some (.ref 15)], [.int 40, .int 0, .ref (124 + 1), .int 0, .ref (15 + 1)], (zS0, R, zu I 124 0 (I 15 0), J))) rfl ?_
    refine zEv_cp rfl rfl rfl (by decide) (by decide) (by decide) (by unfold zcpok; decide) (by decide) ?_
    refine zEv_k 1 (f' := (24, [some (.ref 124), some (.ref 15)], [.ref 15], (zS0, R, zrow (zu I 124 0 (I 15 0)) (124 + 1) (va_cpy (I (15 + 1)) (I (124 + 1)) (0 : Int32).toNatClampNeg (0 : Int32).toNatClampNeg (40 : Int32).toNatClampNeg), J))) rfl ?_
    refine zEv_gr rfl rfl rfl (by decide) (hR (15) 2 (15 + 2) rfl) ?_
    refine zEv_k 2 (f' := (29, [some (.ref 124), some (.ref 15)], [.ref 124, .int 0, .ref (15 + 2)], (zS0, R, zrow (zu I 124 0 (I 15 0)) (124 + 1) (va_cpy (I (15 + 1)) (I (124 + 1)) (0 : Int32).toNatClampNeg (0 : Int32).toNatClampNeg (40 : Int32).toNatClampNeg), J))) rfl ?_
    refine zEv_gr rfl rfl rfl (by decide) (hR (124) 2 (124 + 2) rfl) ?_
    refine zEv_k 2 (f' := (35, [some (.ref 124), some (.ref 15)], [.int 40, .int 0, .ref (124 + 2), .int 0, .ref (15 + 2)], (zS0, R, zrow (zu I 124 0 (I 15 0)) (124 + 1) (va_cpy (I (15 + 1)) (I (124 + 1)) (0 : Int32).toNatClampNeg (0 : Int32).toNatClampNeg (40 : Int32).toNatClampNeg), J))) rfl ?_
    refine zEv_cp rfl rfl rfl (by decide) (by decide) (by decide) (by unfold zcpok; decide) (by decide) ?_
    refine zEv_k 1 (f' := (39, [some (.ref 124), some (.ref 15)], [.ref 15], (zS0, R, zrow (zrow (zu I 124 0 (I 15 0)) (124 + 1) (va_cpy (I (15 + 1)) (I (124 + 1)) (0 : Int32).toNatClampNeg (0 : Int32).toNatClampNeg (40 : Int32).toNatClampNeg)) (124 + 2) (va_cpy (I (15 + 2)) (I (124 + 2)) (0 : Int32).toNatClampNeg (0 : Int32).toNatClampNeg (40 : Int32).toNatClampNeg), J))) rfl ?_
    refine zEv_gr rfl rfl rfl (by decide) (hR (15) 3 (15 + 3) rfl) ?_
    refine zEv_k 2 (f' := (44, [some (.ref 124), some (.ref 15)], [.ref 124, .int 0, .ref (15 + 3)], (zS0, R, zrow (zrow (zu I 124 0 (I 15 0)) (124 + 1) (va_cpy (I (15 + 1)) (I (124 + 1)) (0 : Int32).toNatClampNeg (0 : Int32).toNatClampNeg (40 : Int32).toNatClampNeg)) (124 + 2) (va_cpy (I (15 + 2)) (I (124 + 2)) (0 : Int32).toNatClampNeg (0 : Int32).toNatClampNeg (40 : Int32).toNatClampNeg), J))) rfl ?_
    refine zEv_gr rfl rfl rfl (by decide) (hR (124) 3 (124 + 3) rfl) ?_
    refine zEv_k 2 (f' := (50, [some (.ref 124), some (.ref 15)], [.int 40, .int 0, .ref (124 + 3), .int 0, .ref (15 + 3)], (zS0, R, zrow (zrow (zu I 124 0 (I 15 0)) (124 + 1) (va_cpy (I (15 + 1)) (I (124 + 1)) (0 : Int32).toNatClampNeg (0 : Int32).toNatClampNeg (40 : Int32).toNatClampNeg)) (124 + 2) (va_cpy (I (15 + 2)) (I (124 + 2)) (0 : Int32).toNatClampNeg (0 : Int32).toNatClampNeg (40 : Int32).toNatClampNeg), J))) rfl ?_
    refine zEv_cp rfl rfl rfl (by decide) (by decide) (by decide) (by unfold zcpok; decide) (by decide) ?_
    exact zEv_r rfl
  · refine zEv_k 5 (f' := (9, [some (.ref 139), some (.ref 30)], [.ref 30], (zS0, R, zu I 139 0 (I 30 0), J))) rfl ?_
    refine zEv_gr rfl rfl rfl (by decide) (hR (30) 1 (30 + 1) rfl) ?_
    refine zEv_k 2 (f' := (14, [some (.ref 139), some (.ref 30)], [.ref 139, .int 0, .ref (30 + 1)], (zS0, R, zu I 139 0 (I 30 0), J))) rfl ?_
    refine zEv_gr rfl rfl rfl (by decide) (hR (139) 1 (139 + 1) rfl) ?_
    refine zEv_k 2 (f' := (20, [some (.ref 139), some (.ref 30)], [.int 40, .int 0, .ref (139 + 1), .int 0, .ref (30 + 1)], (zS0, R, zu I 139 0 (I 30 0), J))) rfl ?_
    refine zEv_cp rfl rfl rfl (by decide) (by decide) (by decide) (by unfold zcpok; decide) (by decide) ?_
    refine zEv_k 1 (f' := (24, [some (.ref 139), some (.ref 30)], [.ref 30], (zS0, R, zrow (zu I 139 0 (I 30 0)) (139 + 1) (va_cpy (I (30 + 1)) (I (139 + 1)) (0 : Int32).toNatClampNeg (0 : Int32).toNatClampNeg (40 : Int32).toNatClampNeg), J))) rfl ?_
    refine zEv_gr rfl rfl rfl (by decide) (hR (30) 2 (30 + 2) rfl) ?_
    refine zEv_k 2 (f' := (29, [some (.ref 139), some (.ref 30)], [.ref 139, .int 0, .ref (30 + 2)], (zS0, R, zrow (zu I 139 0 (I 30 0)) (139 + 1) (va_cpy (I (30 + 1)) (I (139 + 1)) (0 : Int32).toNatClampNeg (0 : Int32).toNatClampNeg (40 : Int32).toNatClampNeg), J))) rfl ?_
    refine zEv_gr rfl rfl rfl (by decide) (hR (139) 2 (139 + 2) rfl) ?_
    refine zEv_k 2 (f' := (35, [some (.ref 139), some (.ref 30)], [.int 40, .int 0, .ref (139 + 2), .int 0, .ref (30 + 2)], (zS0, R, zrow (zu I 139 0 (I 30 0)) (139 + 1) (va_cpy (I (30 + 1)) (I (139 + 1)) (0 : Int32).toNatClampNeg (0 : Int32).toNatClampNeg (40 : Int32).toNatClampNeg), J))) rfl ?_
    refine zEv_cp rfl rfl rfl (by decide) (by decide) (by decide) (by unfold zcpok; decide) (by decide) ?_
    refine zEv_k 1 (f' := (39, [some (.ref 139), some (.ref 30)], [.ref 30], (zS0, R, zrow (zrow (zu I 139 0 (I 30 0)) (139 + 1) (va_cpy (I (30 + 1)) (I (139 + 1)) (0 : Int32).toNatClampNeg (0 : Int32).toNatClampNeg (40 : Int32).toNatClampNeg)) (139 + 2) (va_cpy (I (30 + 2)) (I (139 + 2)) (0 : Int32).toNatClampNeg (0 : Int32).toNatClampNeg (40 : Int32).toNatClampNeg), J))) rfl ?_
    refine zEv_gr rfl rfl rfl (by decide) (hR (30) 3 (30 + 3) rfl) ?_
    refine zEv_k 2 (f' := (44, [some (.ref 139), some (.ref 30)], [.ref 139, .int 0, .ref (30 + 3)], (zS0, R, zrow (zrow (zu I 139 0 (I 30 0)) (139 + 1) (va_cpy (I (30 + 1)) (I (139 + 1)) (0 : Int32).toNatClampNeg (0 : Int32).toNatClampNeg (40 : Int32).toNatClampNeg)) (139 + 2) (va_cpy (I (30 + 2)) (I (139 + 2)) (0 : Int32).toNatClampNeg (0 : Int32).toNatClampNeg (40 : Int32).toNatClampNeg), J))) rfl ?_
    refine zEv_gr rfl rfl rfl (by decide) (hR (139) 3 (139 + 3) rfl) ?_
    refine zEv_k 2 (f' := (50, [some (.ref 139), some (.ref 30)], [.int 40, .int 0, .ref (139 + 3), .int 0, .ref (30 + 3)], (zS0, R, zrow (zrow (zu I 139 0 (I 30 0)) (139 + 1) (va_cpy (I (30 + 1)) (I (139 + 1)) (0 : Int32).toNatClampNeg (0 : Int32).toNatClampNeg (40 : Int32).toNatClampNeg)) (139 + 2) (va_cpy (I (30 + 2)) (I (139 + 2)) (0 : Int32).toNatClampNeg (0 : Int32).toNatClampNeg (40 : Int32).toNatClampNeg), J))) rfl ?_
    refine zEv_cp rfl rfl rfl (by decide) (by decide) (by decide) (by unfold zcpok; decide) (by decide) ?_
    exact zEv_r rfl
theorem b_12_0 {X : zX} {d : Nat} {R : zR} {I : zI} {J : zJ} {r : zA} (k1 : (I 156 0) < 40 → zEv X d zm_12 (13, [some (.ref 156)], [], (zS0, R, I, J)) r) (k2 : ¬ ((I 156 0) < 40) → zEv X d zm_12 (9, [some (.ref 156)], [], (zS0, R, I, J)) r) : zEv X d zm_12 (0, [some (.ref 156)], [], (zS0, R, I, J)) r := by
  refine zEv_k 4 (f' := (if (I 156 0) < 40 then 13 else 9, [some (.ref 156)], [], (zS0, R, I, J))) rfl ?_
  exact zEv_if k1 k2
theorem b_12_9 {X : zX} {d : Nat} {R : zR} {I : zI} {J : zJ}  : zEv X d zm_12 (9, [some (.ref 156)], [], (zS0, R, I, J)) (some (.int 1), (zS0, R, I, J)) := by
  refine zEv_k 2 (f' := (14, [some (.ref 156)], [.int 1], (zS0, R, I, J))) rfl ?_
  exact zEv_r rfl
theorem b_12_13 {X : zX} {d : Nat} {R : zR} {I : zI} {J : zJ}  : zEv X d zm_12 (13, [some (.ref 156)], [], (zS0, R, I, J)) (some (.int 0), (zS0, R, I, J)) := by
  refine zEv_k 1 (f' := (14, [some (.ref 156)], [.int 0], (zS0, R, I, J))) rfl ?_
  exact zEv_r rfl
theorem b_13_0 {X : zX} {d : Nat} {R : zR} {I : zI} {J : zJ} {r : zA} {x1 : Int32} {x2 : Int32} {x3 : Int32} {w : Int32} {R' : zR} {I' : zI} {J' : zJ} (hc : zEv X d zm_12 (0, [some (.ref 156)], [], (zS0, R, I, J)) (some (.int w), (zS0, R', I', J'))) (k1 : zEv X (d + 1) zm_13 (4, [some (.ref 156), some (.int x1), some (.int x2), some (.int x3)], [.int w], (zS0, R', I', J')) r) : zEv X (d + 1) zm_13 (0, [some (.ref 156), some (.int x1), some (.int x2), some (.int x3)], [], (zS0, R, I, J)) r := by
  refine zEv_k 1 (f' := (1, [some (.ref 156), some (.int x1), some (.int x2), some (.int x3)], [.ref 156], (zS0, R, I, J))) rfl ?_
  exact zEv_c (fun _ => rfl) rfl hc rfl rfl k1
theorem b_13_4 {X : zX} {d : Nat} {R : zR} {I : zI} {J : zJ} {r : zA} {x1 : Int32} {x2 : Int32} {x3 : Int32} {s0 : Int32} (k1 : s0 = 0 → zEv X d zm_13 (8, [some (.ref 156), some (.int x1), some (.int x2), some (.int x3)], [], (zS0, R, I, J)) r) (k2 : ¬ (s0 = 0) → zEv X d zm_13 (7, [some (.ref 156), some (.int x1), some (.int x2), some (.int x3)], [], (zS0, R, I, J)) r) : zEv X d zm_13 (4, [some (.ref 156), some (.int x1), some (.int x2), some (.int x3)], [.int s0], (zS0, R, I, J)) r := by
  refine zEv_k 1 (f' := (if s0 = 0 then 8 else 7, [some (.ref 156), some (.int x1), some (.int x2), some (.int x3)], [], (zS0, R, I, J))) rfl ?_
  exact zEv_if k1 k2
theorem b_13_7 {X : zX} {d : Nat} {R : zR} {I : zI} {J : zJ} {x1 : Int32} {x2 : Int32} {x3 : Int32} : zEv X d zm_13 (7, [some (.ref 156), some (.int x1), some (.int x2), some (.int x3)], [], (zS0, R, I, J)) (none, (zS0, R, I, J)) := by
  exact zEv_r rfl
theorem b_13_8 {X : zX} {d : Nat} {R : zR} {I : zI} {J : zJ} {x1 : Int32} {x2 : Int32} {x3 : Int32} (hR : zRok R) (h17 : zin (I 156 0) 40) (h27 : zin (I 156 0) 40) (h37 : zin (I 156 0) 40) : zEv X d zm_13 (8, [some (.ref 156), some (.int x1), some (.int x2), some (.int x3)], [], (zS0, R, I, J)) (none, (zS0, R, zu (zu (zu (zu I 157 (I 156 0).toNatClampNeg x1) 158 (I 156 0).toNatClampNeg x2) 159 (I 156 0).toNatClampNeg x3) 156 0 ((I 156 0) + 1), J)) := by
  refine zEv_k 1 (f' := (9, [some (.ref 156), some (.int x1), some (.int x2), some (.int x3)], [.ref 156], (zS0, R, I, J))) rfl ?_
  refine zEv_gr rfl rfl rfl (by decide) (hR (156) 1 (157) rfl) ?_
  refine zEv_k 3 (f' := (17, [some (.ref 156), some (.int x1), some (.int x2), some (.int x3)], [.int x1, .int (I 156 0), .ref 157], (zS0, R, I, J))) rfl ?_
  refine zEv_ias rfl rfl (by decide) h17 ?_
  refine zEv_k 1 (f' := (19, [some (.ref 156), some (.int x1), some (.int x2), some (.int x3)], [.ref 156], (zS0, R, zu I 157 (I 156 0).toNatClampNeg x1, J))) rfl ?_
  refine zEv_gr rfl rfl rfl (by decide) (hR (156) 2 (158) rfl) ?_
  refine zEv_k 3 (f' := (27, [some (.ref 156), some (.int x1), some (.int x2), some (.int x3)], [.int x2, .int (I 156 0), .ref 158], (zS0, R, zu I 157 (I 156 0).toNatClampNeg x1, J))) rfl ?_
  refine zEv_ias rfl rfl (by decide) h27 ?_
  refine zEv_k 1 (f' := (29, [some (.ref 156), some (.int x1), some (.int x2), some (.int x3)], [.ref 156], (zS0, R, zu (zu I 157 (I 156 0).toNatClampNeg x1) 158 (I 156 0).toNatClampNeg x2, J))) rfl ?_
  refine zEv_gr rfl rfl rfl (by decide) (hR (156) 3 (159) rfl) ?_
  refine zEv_k 3 (f' := (37, [some (.ref 156), some (.int x1), some (.int x2), some (.int x3)], [.int x3, .int (I 156 0), .ref 159], (zS0, R, zu (zu I 157 (I 156 0).toNatClampNeg x1) 158 (I 156 0).toNatClampNeg x2, J))) rfl ?_
  refine zEv_ias rfl rfl (by decide) h37 ?_
  refine zEv_k 6 (f' := (48, [some (.ref 156), some (.int x1), some (.int x2), some (.int x3)], [], (zS0, R, zu (zu (zu (zu I 157 (I 156 0).toNatClampNeg x1) 158 (I 156 0).toNatClampNeg x2) 159 (I 156 0).toNatClampNeg x3) 156 0 ((I 156 0) + 1), J))) rfl ?_
  exact zEv_r rfl
