theorem b_36_0 {X : zX} {d : Nat} {R : zR} {I : zI} {J : zJ} {o : Nat} {q : Nat} (hR : zRok R) (ho : (o = 19 ∧ q = 56) ∨ (o = 19 ∧ q = 92) ∨ (o = 19 ∧ q = 128) ∨ (o = 19 ∧ q = 160) ∨ (o = 34 ∧ q = 71) ∨ (o = 34 ∧ q = 107) ∨ (o = 34 ∧ q = 143) ∨ (o = 34 ∧ q = 160) ∨ (o = 56 ∧ q = 19) ∨ (o = 71 ∧ q = 34) ∨ (o = 92 ∧ q = 19) ∨ (o = 107 ∧ q = 34) ∨ (o = 128 ∧ q = 19) ∨ (o = 143 ∧ q = 34)) : zEv X d zm_36 (0, [some (.ref o), some (.ref q)], [], (zS0, R, I, J)) (none, (zS0, R, zrow (zrow (zu I o 0 (I q 0)) (o + 1) (va_cpy (I (q + 1)) (I (o + 1)) (0 : Int32).toNatClampNeg (0 : Int32).toNatClampNeg (8 : Int32).toNatClampNeg)) (o + 2) (va_cpy (I (q + 2)) (I (o + 2)) (0 : Int32).toNatClampNeg (0 : Int32).toNatClampNeg (8 : Int32).toNatClampNeg), J)) := by
  rcases ho with ⟨rfl, rfl⟩ | ⟨rfl, rfl⟩ | ⟨rfl, rfl⟩ | ⟨rfl, rfl⟩ | ⟨rfl, rfl⟩ | ⟨rfl, rfl⟩ | ⟨rfl, rfl⟩ | ⟨rfl, rfl⟩ | ⟨rfl, rfl⟩ | ⟨rfl, rfl⟩ | ⟨rfl, rfl⟩ | ⟨rfl, rfl⟩ | ⟨rfl, rfl⟩ | ⟨rfl, rfl⟩
  · refine zEv_k 5 (f' := (9, [some (.ref 19), some (.ref 56)], [.ref 56], (zS0, R, zu I 19 0 (I 56 0), J))) rfl ?_
    refine zEv_gr rfl rfl rfl (by decide) (hR (56) 1 (56 + 1) rfl) ?_
    refine zEv_k 2 (f' := (14, [some (.ref 19), some (.ref 56)], [.ref 19, .int 0, .ref (56 + 1)], (zS0, R, zu I 19 0 (I 56 0), J))) rfl ?_
    refine zEv_gr rfl rfl rfl (by decide) (hR (19) 1 (19 + 1) rfl) ?_
    refine zEv_k 2 (f' := (20, [some (.ref 19), some (.ref 56)], [.int 8, .int 0, .ref (19 + 1), .int 0, .ref (56 + 1)], (zS0, R, zu I 19 0 (I 56 0), J))) rfl ?_
    refine zEv_cp rfl rfl rfl (by decide) (by decide) (by decide) (by unfold zcpok; decide) (by decide) ?_
    refine zEv_k 1 (f' := (24, [some (.ref 19), some (.ref 56)], [.ref 56], (zS0, R, zrow (zu I 19 0 (I 56 0)) (19 + 1) (va_cpy (I (56 + 1)) (I (19 + 1)) (0 : Int32).toNatClampNeg (0 : Int32).toNatClampNeg (8 : Int32).toNatClampNeg), J))) rfl ?_
    refine zEv_gr rfl rfl rfl (by decide) (hR (56) 2 (56 + 2) rfl) ?_
    refine zEv_k 2 (f' := (29, [some (.ref 19), some (.ref 56)], [.ref 19, .int 0, .ref (56 + 2)], (zS0, R, zrow (zu I 19 0 (I 56 0)) (19 + 1) (va_cpy (I (56 + 1)) (I (19 + 1)) (0 : Int32).toNatClampNeg (0 : Int32).toNatClampNeg (8 : Int32).toNatClampNeg), J))) rfl ?_
    refine zEv_gr rfl rfl rfl (by decide) (hR (19) 2 (19 + 2) rfl) ?_
    refine zEv_k 2 (f' := (35, [some (.ref 19), some (.ref 56)], [.int 8, .int 0, .ref (19 + 2), .int 0, .ref (56 + 2)], (zS0, R, zrow (zu I 19 0 (I 56 0)) (19 + 1) (va_cpy (I (56 + 1)) (I (19 + 1)) (0 : Int32).toNatClampNeg (0 : Int32).toNatClampNeg (8 : Int32).toNatClampNeg), J))) rfl ?_
    refine zEv_cp rfl rfl rfl (by decide) (by decide) (by decide) (by unfold zcpok; decide) (by decide) ?_
    exact zEv_r rfl
  · refine zEv_k 5 (f' := (9, [some (.ref 19), some (.ref 92)], [.ref 92], (zS0, R, zu I 19 0 (I 92 0), J))) rfl ?_
    refine zEv_gr rfl rfl rfl (by decide) (hR (92) 1 (92 + 1) rfl) ?_
    refine zEv_k 2 (f' := (14, [some (.ref 19), some (.ref 92)], [.ref 19, .int 0, .ref (92 + 1)], (zS0, R, zu I 19 0 (I 92 0), J))) rfl ?_
    refine zEv_gr rfl rfl rfl (by decide) (hR (19) 1 (19 + 1) rfl) ?_
    refine zEv_k 2 (f' := (20, [some (.ref 19), some (.ref 92)], [.int 8, .int 0, .ref (19 + 1), .int 0, .ref (92 + 1)], (zS0, R, zu I 19 0 (I 92 0), J))) rfl ?_
    refine zEv_cp rfl rfl rfl (by decide) (by decide) (by decide) (by unfold zcpok; decide) (by decide) ?_
    refine zEv_k 1 (f' := (24, [some (.ref 19), some (.ref 92)], [.ref 92], (zS0, R, zrow (zu I 19 0 (I 92 0)) (19 + 1) (va_cpy (I (92 + 1)) (I (19 + 1)) (0 : Int32).toNatClampNeg (0 : Int32).toNatClampNeg (8 : Int32).toNatClampNeg), J))) rfl ?_
    refine zEv_gr rfl rfl rfl (by decide) (hR (92) 2 (92 + 2) rfl) ?_
    refine zEv_k 2 (f' := (29, [some (.ref 19), some (.ref 92)], [.ref 19, .int 0, .ref (92 + 2)], (zS0, R, zrow (zu I 19 0 (I 92 0)) (19 + 1) (va_cpy (I (92 + 1)) (I (19 + 1)) (0 : Int32).toNatClampNeg (0 : Int32).toNatClampNeg (8 : Int32).toNatClampNeg), J))) rfl ?_
    refine zEv_gr rfl rfl rfl (by decide) (hR (19) 2 (19 + 2) rfl) ?_
    refine zEv_k 2 (f' := (35, [some (.ref 19), some (.ref 92)], [.int 8, .int 0, .ref (19 + 2), .int 0, .ref (92 + 2)], (zS0, R, zrow (zu I 19 0 (I 92 0)) (19 + 1) (va_cpy (I (92 + 1)) (I (19 + 1)) (0 : Int32).toNatClampNeg (0 : Int32).toNatClampNeg (8 : Int32).toNatClampNeg), J))) rfl ?_
    refine zEv_cp rfl rfl rfl (by decide) (by decide) (by decide) (by unfold zcpok; decide) (by decide) ?_
    exact zEv_r rfl
  · refine zEv_k 5 (f' := (9, [some (.ref 19), some (.ref 128)], [.ref 128], (zS0, R, zu I 19 0 (I 128 0), J))) rfl ?_
    refine zEv_gr rfl rfl rfl (by decide) (hR (128) 1 (128 + 1) rfl) ?_
    refine zEv_k 2 (f' := (14, [some (.ref 19), some (.ref 128)], [.ref 19, .int 0, .ref (128 + 1)], (zS0, R, zu I 19 0 (I 128 0), J))) rfl ?_
    refine zEv_gr rfl rfl rfl (by decide) (hR (19) 1 (19 + 1) rfl) ?_
    refine zEv_k 2 (f' := (20, [some (.ref 19), some (.ref 128)], [.int 8, .int 0, .ref (19 + 1), .int 0, .ref (128 + 1)], (zS0, R, zu I 19 0 (I 128 0), J))) rfl ?_
    refine zEv_cp rfl rfl rfl (by decide) (by decide) (by decide) (by unfold zcpok; decide) (by decide) ?_
    refine zEv_k 1 (f' := (24, [some (.ref 19), some (.ref 128)], [.ref 128], (zS0, R, zrow (zu I 19 0 (I 128 0)) (19 + 1) (va_cpy (I (128 + 1)) (I (19 + 1)) (0 : Int32).toNatClampNeg (0 : Int32).toNatClampNeg (8 : Int32).toNatClampNeg), J))) rfl ?_
    refine zEv_gr rfl rfl rfl (by decide) (hR (128) 2 (128 + 2) rfl) ?_
    refine zEv_k 2 (f' := (29, [some (.ref 19), some (.ref 128)], [.ref 19, .int 0, .ref (128 + 2)], (zS0, R, zrow (zu I 19 0 (I 128 0)) (19 + 1) (va_cpy (I (128 + 1)) (I (19 + 1)) (0 : Int32).toNatClampNeg (0 : Int32).toNatClampNeg (8 : Int32).toNatClampNeg), J))) rfl ?_
    refine zEv_gr rfl rfl rfl (by decide) (hR (19) 2 (19 + 2) rfl) ?_
    refine zEv_k 2 (f' := (35, [some (.ref 19), some (.ref 128)], [.int 8, .int 0, .ref (19 + 2), .int 0, .ref (128 + 2)], (zS0, R, zrow (zu I 19 0 (I 128 0)) (19 + 1) (va_cpy (I (128 + 1)) (I (19 + 1)) (0 : Int32).toNatClampNeg (0 : Int32).toNatClampNeg (8 : Int32).toNatClampNeg), J))) rfl ?_
    refine zEv_cp rfl rfl rfl (by decide) (by decide) (by decide) (by unfold zcpok; decide) (by decide) ?_
    exact zEv_r rfl
  · refine zEv_k 5 (f' := (9, [some (.ref 19), some (.ref 160)], [.ref 160], (zS0, R, zu I 19 0 (I 160 0), J))) rfl ?_
    refine zEv_gr rfl rfl rfl (by decide) (hR (160) 1 (160 + 1) rfl) ?_
    refine zEv_k 2 (f' := (14, [some (.ref 19), some (.ref 160)], [.ref 19, .int 0, .ref (160 + 1)], (zS0, R, zu I 19 0 (I 160 0), J))) rfl ?_
    refine zEv_gr rfl rfl rfl (by decide) (hR (19) 1 (19 + 1) rfl) ?_
    refine zEv_k 2 (f' := (20, [some (.ref 19), some (.ref 160)], [.int 8, .int 0, .ref (19 + 1), .int 0, .ref (160 + 1)], (zS0, R, zu I 19 0 (I 160 0), J))) rfl ?_
    refine zEv_cp rfl rfl rfl (by decide) (by decide) (by decide) (by unfold zcpok; decide) (by decide) ?_
    refine zEv_k 1 (f' := (24, [some (.ref 19), some (.ref 160)], [.ref 160], (zS0, R, zrow (zu I 19 0 (I 160 0)) (19 + 1) (va_cpy (I (160 + 1)) (I (19 + 1)) (0 : Int32).toNatClampNeg (0 : Int32).toNatClampNeg (8 : Int32).toNatClampNeg), J))) rfl ?_
    refine zEv_gr rfl rfl rfl (by decide) (hR (160) 2 (160 + 2) rfl) ?_
    refine zEv_k 2 (f' := (29, [some (.ref 19), some (.ref 160)], [.ref 19, .int 0, .ref (160 + 2)], (zS0, R, zrow (zu I 19 0 (I 160 0)) (19 + 1) (va_cpy (I (160 + 1)) (I (19 + 1)) (0 : Int32).toNatClampNeg (0 : Int32).toNatClampNeg (8 : Int32).toNatClampNeg), J))) rfl ?_
    refine zEv_gr rfl rfl rfl (by decide) (hR (19) 2 (19 + 2) rfl) ?_
    refine zEv_k 2 (f' := (35, [some (.ref 19), some (.ref 160)], [.int 8, .int 0, .ref (19 + 2), .int 0, .ref (160 + 2)], (zS0, R, zrow (zu I 19 0 (I 160 0)) (19 + 1) (va_cpy (I (160 + 1)) (I (19 + 1)) (0 : Int32).toNatClampNeg (0 : Int32).toNatClampNeg (8 : Int32).toNatClampNeg), J))) rfl ?_
    refine zEv_cp rfl rfl rfl (by decide) (by decide) (by decide) (by unfold zcpok; decide) (by decide) ?_
    exact zEv_r rfl
  · refine zEv_k 5 (f' := (9, [some (.ref 34), some (.ref 71)], [.ref 71], (zS0, R, zu I 34 0 (I 71 0), J))) rfl ?_
    refine zEv_gr rfl rfl rfl (by decide) (hR (71) 1 (71 + 1) rfl) ?_
    refine zEv_k 2 (f' := (14, [some (.ref 34), some (.ref 71)], [.ref 34, .int 0, .ref (71 + 1)], (zS0, R, zu I 34 0 (I 71 0), J))) rfl ?_
    refine zEv_gr rfl rfl rfl (by decide) (hR (34) 1 (34 + 1) rfl) ?_
    refine zEv_k 2 (f' := (20, [some (.ref 34), some (.ref 71)], [.int 8, .int 0, .ref (34 + 1), .int 0, .ref (71 + 1)], (zS0, R, zu I 34 0 (I 71 0), J))) rfl ?_
    refine zEv_cp rfl rfl rfl (by decide) (by decide) (by decide) (by unfold zcpok; decide) (by decide) ?_
    refine zEv_k 1 (f' := (24, [some (.ref 34), some (.ref 71)], [.ref 71], (zS0, R, zrow (zu I 34 0 (I 71 0)) (34 + 1) (va_cpy (I (71 + 1)) (I (34 + 1)) (0 : Int32).toNatClampNeg (0 : Int32).toNatClampNeg (8 : Int32).toNatClampNeg), J))) rfl ?_
    refine zEv_gr rfl rfl rfl (by decide) (hR (71) 2 (71 + 2) rfl) ?_
    refine zEv_k 2 (f' := (29, [some (.ref 34), some (.ref 71)], [.ref 34, .int 0, .ref (71 + 2)], (zS0, R, zrow (zu I 34 0 (I 71 0)) (34 + 1) (va_cpy (I (71 + 1)) (I (34 + 1)) (0 : Int32).toNatClampNeg (0 : Int32).toNatClampNeg (8 : Int32).toNatClampNeg), J))) rfl ?_
    refine zEv_gr rfl rfl rfl (by decide) (hR (34) 2 (34 + 2) rfl) ?_
    refine zEv_k 2 (f' := (35, [some (.ref 34), some (.ref 71)], [.int 8, .int 0, .ref (34 + 2), .int 0, .ref (71 + 2)], (zS0, R, zrow (zu I 34 0 (I 71 0)) (34 + 1) (va_cpy (I (71 + 1)) (I (34 + 1)) (0 : Int32).toNatClampNeg (0 : Int32).toNatClampNeg (8 : Int32).toNatClampNeg), J))) rfl ?_
    refine zEv_cp rfl rfl rfl (by decide) (by decide) (by decide) (by unfold zcpok; decide) (by decide) ?_
    exact zEv_r rfl
  · refine zEv_k 5 (f' := (9, [some (.ref 34), some (.ref 107)], [.ref 107], (zS0, R, zu I 34 0 (I 107 0), J))) rfl ?_
    refine zEv_gr rfl rfl rfl (by decide) (hR (107) 1 (107 + 1) rfl) ?_
    refine zEv_k 2 (f' := (14, [some (.ref 34), some (.ref 107)], [.ref 34, .int 0, .ref (107 + 1)], (zS0, R, zu I 34 0 (I 107 0), J))) rfl ?_
    refine zEv_gr rfl rfl rfl (by decide) (hR (34) 1 (34 + 1) rfl) ?_
    refine zEv_k 2 (f' := (20, [some (.ref 34), some (.ref 107)], [.int 8, .int 0, .ref (34 + 1), .int 0, .ref (107 + 1)], (zS0, R, zu I 34 0 (I 107 0), J))) rfl ?_
    refine zEv_cp rfl rfl rfl (by decide) (by decide) (by decide) (by unfold zcpok; decide) (by decide) ?_
    refine zEv_k 1 (f' := (24, [some (.ref 34), some (.ref 107)], [.ref 107], (zS0, R, zrow (zu I 34 0 (I 107 0)) (34 + 1) (va_cpy (I (107 + 1)) (I (34 + 1)) (0 : Int32).toNatClampNeg (0 : Int32).toNatClampNeg (8 : Int32).toNatClampNeg), J))) rfl ?_
    refine zEv_gr rfl rfl rfl (by decide) (hR (107) 2 (107 + 2) rfl) ?_
    refine zEv_k 2 (f' := (29, [some (.ref 34), some (.ref 107)], [.ref 34, .int 0, .ref (107 + 2)], (zS0, R, zrow (zu I 34 0 (I 107 0)) (34 + 1) (va_cpy (I (107 + 1)) (I (34 + 1)) (0 : Int32).toNatClampNeg (0 : Int32).toNatClampNeg (8 : Int32).toNatClampNeg), J))) rfl ?_
    refine zEv_gr rfl rfl rfl (by decide) (hR (34) 2 (34 + 2) rfl) ?_
    refine zEv_k 2 (f' := (35, [some (.ref 34), some (.ref 107)], [.int 8, .int 0, .ref (34 + 2), .int 0, .ref (107 + 2)], (zS0, R, zrow (zu I 34 0 (I 107 0)) (34 + 1) (va_cpy (I (107 + 1)) (I (34 + 1)) (0 : Int32).toNatClampNeg (0 : Int32).toNatClampNeg (8 : Int32).toNatClampNeg), J))) rfl ?_
    refine zEv_cp rfl rfl rfl (by decide) (by decide) (by decide) (by unfold zcpok; decide) (by decide) ?_
    exact zEv_r rfl
  · refine zEv_k 5 (f' := (9, [some (.ref 34), some (.ref 143)], [.ref 143], (zS0, R, zu I 34 0 (I 143 0), J))) rfl ?_
    refine zEv_gr rfl rfl rfl (by decide) (hR (143) 1 (143 + 1) rfl) ?_
    refine zEv_k 2 (f' := (14, [some (.ref 34), some (.ref 143)], [.ref 34, .int 0, .ref (143 + 1)], (zS0, R, zu I 34 0 (I 143 0), J))) rfl ?_
    refine zEv_gr rfl rfl rfl (by decide) (hR (34) 1 (34 + 1) rfl) ?_
    refine zEv_k 2 (f' := (20, [some (.ref 34), some (.ref 143)], [.int 8, .int 0, .ref (34 + 1), .int 0, .ref (143 + 1)], (zS0, R, zu I 34 0 (I 143 0), J))) rfl ?_
    refine zEv_cp rfl rfl rfl (by decide) (by decide) (by decide) (by unfold zcpok; decide) (by decide) ?_
    refine zEv_k 1 (f' := (24, [some (.ref 34), some (.ref 143)], [.ref 143], (zS0, R, zrow (zu I 34 0 (I 143 0)) (34 + 1) (va_cpy (I (143 + 1)) (I (34 + 1)) (0 : Int32).toNatClampNeg (0 : Int32).toNatClampNeg (8 : Int32).toNatClampNeg), J))) rfl ?_
    refine zEv_gr rfl rfl rfl (by decide) (hR (143) 2 (143 + 2) rfl) ?_
    refine zEv_k 2 (f' := (29, [some (.ref 34), some (.ref 143)], [.ref 34, .int 0, .ref (143 + 2)], (zS0, R, zrow (zu I 34 0 (I 143 0)) (34 + 1) (va_cpy (I (143 + 1)) (I (34 + 1)) (0 : Int32).toNatClampNeg (0 : Int32).toNatClampNeg (8 : Int32).toNatClampNeg), J))) rfl ?_
    refine zEv_gr rfl rfl rfl (by decide) (hR (34) 2 (34 + 2) rfl) ?_
    refine zEv_k 2 (f' := (35, [some (.ref 34), some (.ref 143)], [.int 8, .int 0, .ref (34 + 2), .int 0, .ref (143 + 2)], (zS0, R, zrow (zu I 34 0 (I 143 0)) (34 + 1) (va_cpy (I (143 + 1)) (I (34 + 1)) (0 : Int32).toNatClampNeg (0 : Int32).toNatClampNeg (8 : Int32).toNatClampNeg), J))) rfl ?_
    refine zEv_cp rfl rfl rfl (by decide) (by decide) (by decide) (by unfold zcpok; decide) (by decide) ?_
    exact zEv_r rfl
  · refine zEv_k 5 (f' := (9, [some (.ref 34), some (.ref 160)], [.ref 160], (zS0, R, zu I 34 0 (I 160 0), J))) rfl ?_
    refine zEv_gr rfl rfl rfl (by decide) (hR (160) 1 (160 + 1) rfl) ?_
    refine zEv_k 2 (f' := (14, [some (.ref 34), some (.ref 160)], [.ref 34, .int 0, .ref (160 + 1)], (zS0, R, zu I 34 0 (I 160 0), J))) rfl ?_
    refine zEv_gr rfl rfl rfl (by decide) (hR (34) 1 (34 + 1) rfl) ?_
    refine zEv_k 2 (f' := (20, [some (.ref 34), some (.ref 160)], [.int 8, .int 0, .ref (34 + 1), .int 0, .ref (160 + 1)], (zS0, R, zu I 34 0 (I 160 0), J))) rfl ?_
    refine zEv_cp rfl rfl rfl (by decide) (by decide) (by decide) (by unfold zcpok; decide) (by decide) ?_
    refine zEv_k 1 (f' := (24, [some (.ref 34), some (.ref 160)], [.ref 160], (zS0, R, zrow (zu I 34 0 (I 160 0)) (34 + 1) (va_cpy (I (160 + 1)) (I (34 + 1)) (0 : Int32).toNatClampNeg (0 : Int32).toNatClampNeg (8 : Int32).toNatClampNeg), J))) rfl ?_
    refine zEv_gr rfl rfl rfl (by decide) (hR (160) 2 (160 + 2) rfl) ?_
    refine zEv_k 2 (f' := (29, [some (.ref 34), some (.ref 160)], [.ref 34, .int 0, .ref (160 + 2)], (zS0, R, zrow (zu I 34 0 (I 160 0)) (34 + 1) (va_cpy (I (160 + 1)) (I (34 + 1)) (0 : Int32).toNatClampNeg (0 : Int32).toNatClampNeg (8 : Int32).toNatClampNeg), J))) rfl ?_
    refine zEv_gr rfl rfl rfl (by decide) (hR (34) 2 (34 + 2) rfl) ?_
    refine zEv_k 2 (f' := (35, [some (.ref 34), some (.ref 160)], [.int 8, .int 0, .ref (34 + 2), .int 0, .ref (160 + 2)], (zS0, R, zrow (zu I 34 0 (I 160 0)) (34 + 1) (va_cpy (I (160 + 1)) (I (34 + 1)) (0 : Int32).toNatClampNeg (0 : Int32).toNatClampNeg (8 : Int32).toNatClampNeg), J))) rfl ?_
    refine zEv_cp rfl rfl rfl (by decide) (by decide) (by decide) (by unfold zcpok; decide) (by decide) ?_
    exact zEv_r rfl
  · refine zEv_k 5 (f' := (9, [some (.ref 56), some (.ref 19)], [.ref 19], (zS0, R, zu I 56 0 (I 19 0), J))) rfl ?_
    refine zEv_gr rfl rfl rfl (by decide) (hR (19) 1 (19 + 1) rfl) ?_
    refine zEv_k 2 (f' := (14, [some (.ref 56), some (.ref 19)], [.ref 56, .int 0, .ref (19 + 1)], (zS0, R, zu I 56 0 (I 19 0), J))) rfl ?_
    refine zEv_gr rfl rfl rfl (by decide) (hR (56) 1 (56 + 1) rfl) ?_
    refine zEv_k 2 (f' := (20, [some (.ref 56), some (.ref 19)], [.int 8, .int 0, .ref (56 + 1), .int 0, .ref (19 + 1)], (zS0, R, zu I 56 0 (I 19 0), J))) rfl ?_
    refine zEv_cp rfl rfl rfl (by decide) (by decide) (by decide) (by unfold zcpok; decide) (by decide) ?_
    refine zEv_k 1 (f' := (24, [some (.ref 56), some (.ref 19)], [.ref 19], (zS0, R, zrow (zu I 56 0 (I 19 0)) (56 + 1) (va_cpy (I (19 + 1)) (I (56 + 1)) (0 : Int32).toNatClampNeg (0 : Int32).toNatClampNeg (8 : Int32).toNatClampNeg), J))) rfl ?_
    refine zEv_gr rfl rfl rfl (by decide) (hR (19) 2 (19 + 2) rfl) ?_
    refine zEv_k 2 (f' := (29, [some (.ref 56), some (.ref 19)], [.ref 56, .int 0, .ref (19 + 2)], (zS0, R, zrow (zu I 56 0 (I 19 0)) (56 + 1) (va_cpy (I (19 + 1)) (I (56 + 1)) (0 : Int32).toNatClampNeg (0 : Int32).toNatClampNeg (8 : Int32).toNatClampNeg), J))) rfl ?_
    refine zEv_gr rfl rfl rfl (by decide) (hR (56) 2 (56 + 2) rfl) ?_
    refine zEv_k 2 (f' := (35, [some (.ref 56), some (.ref 19)], [.int 8, .int 0, .ref (56 + 2), .int 0, .ref (19 + 2)], (zS0, R, zrow (zu I 56 0 (I 19 0)) (56 + 1) (va_cpy (I (19 + 1)) (I (56 + 1)) (0 : Int32).toNatClampNeg (0 : Int32).toNatClampNeg (8 : Int32).toNatClampNeg), J))) rfl ?_
    refine zEv_cp rfl rfl rfl (by decide) (by decide) (by decide) (by unfold zcpok; decide) (by decide) ?_
    exact zEv_r rfl
  · refine zEv_k 5 (f' := (9, [some (.ref 71), some (.ref 34)], [.ref 34], (zS0, R, zu I 71 0 (I 34 0), J))) rfl ?_
    refine zEv_gr rfl rfl rfl (by decide) (hR (34) 1 (34 + 1) rfl) ?_
    refine zEv_k 2 (f' := (14, [some (.ref 71), some (.ref 34)], [.ref 71, .int 0, .ref (34 + 1)], (zS0, R, zu I 71 0 (I 34 0), J))) rfl ?_
    refine zEv_gr rfl rfl rfl (by decide) (hR (71) 1 (71 + 1) rfl) ?_
    refine zEv_k 2 (f' := (20, [some (.ref 71), some (.ref 34)], [.int 8, .int 0, .ref (71 + 1), .int 0, .ref (34 + 1)], (zS0, R, zu I 71 0 (I 34 0), J))) rfl ?_
    refine zEv_cp rfl rfl rfl (by decide) (by decide) (by decide) (by unfold zcpok; decide) (by decide) ?_
    refine zEv_k 1 (f' := (24, [some (.ref 71), some (.ref 34)], [.ref 34], (zS0, R, zrow (zu I 71 0 (I 34 0)) (71 + 1) (va_cpy (I (34 + 1)) (I (71 + 1)) (0 : Int32).toNatClampNeg (0 : Int32).toNatClampNeg (8 : Int32).toNatClampNeg), J))) rfl ?_
    refine zEv_gr rfl rfl rfl (by decide) (hR (34) 2 (34 + 2) rfl) ?_
    refine zEv_k 2 (f' := (29, [some (.ref 71), some (.ref 34)], [.ref 71, .int 0, .ref (34 + 2)], (zS0, R, zrow (zu I 71 0 (I 34 0)) (71 + 1) (va_cpy (I (34 + 1)) (I (71 + 1)) (0 : Int32).toNatClampNeg (0 : Int32).toNatClampNeg (8 : Int32).toNatClampNeg), J))) rfl ?_
    refine zEv_gr rfl rfl rfl (by decide) (hR (71) 2 (71 + 2) rfl) ?_
    refine zEv_k 2 (f' := (35, [some (.ref 71), some (.ref 34)], [.int 8, .int 0, .ref (71 + 2), .int 0, .ref (34 + 2)], (zS0, R, zrow (zu I 71 0 (I 34 0)) (71 + 1) (va_cpy (I (34 + 1)) (I (71 + 1)) (0 : Int32).toNatClampNeg (0 : Int32).toNatClampNeg (8 : Int32).toNatClampNeg), J))) rfl ?_
    refine zEv_cp rfl rfl rfl (by decide) (by decide) (by decide) (by unfold zcpok; decide) (by decide) ?_
    exact zEv_r rfl
  · refine zEv_k 5 (f' := (9, [some (.ref 92), some (.ref 19)], [.ref 19], (zS0, R, zu I 92 0 (I 19 0), J))) rfl ?_
    refine zEv_gr rfl rfl rfl (by decide) (hR (19) 1 (19 + 1) rfl) ?_
    refine zEv_k 2 (f' := (14, [some (.ref 92), some (.ref 19)], [.ref 92, .int 0, .ref (19 + 1)], (zS0, R, zu I 92 0 (I 19 0), J))) rfl ?_
    refine zEv_gr rfl rfl rfl (by decide) (hR (92) 1 (92 + 1) rfl) ?_
    refine zEv_k 2 (f' := (20, [some (.ref 92), some (.ref 19)], [.int 8, .int 0, .ref (92 + 1), .int 0, .ref (19 + 1)], (zS0, R, zu I 92 0 (I 19 0), J))) rfl ?_
    refine zEv_cp rfl rfl rfl (by decide) (by decide) (by decide) (by unfold zcpok; decide) (by decide) ?_
    refine zEv_k 1 (f' := (24, [some (.ref 92), some (.ref 19)], [.ref 19], (zS0, R, zrow (zu I 92 0 (I 19 0)) (92 + 1) (va_cpy (I (19 + 1)) (I (92 + 1)) (0 : Int32).toNatClampNeg (0 : Int32).toNatClampNeg (8 : Int32).toNatClampNeg), J))) rfl ?_
    refine zEv_gr rfl rfl rfl (by decide) (hR (19) 2 (19 + 2) rfl) ?_
    refine zEv_k 2 (f' := (29, [some (.ref 92), some (.ref 19)], [.ref 92, .int 0, .ref (19 + 2)], (zS0, R, zrow (zu I 92 0 (I 19 0)) (92 + 1) (va_cpy (I (19 + 1)) (I (92 + 1)) (0 : Int32).toNatClampNeg (0 : Int32).toNatClampNeg (8 : Int32).toNatClampNeg), J))) rfl ?_
    refine zEv_gr rfl rfl rfl (by decide) (hR (92) 2 (92 + 2) rfl) ?_
    refine zEv_k 2 (f' := (35, [some (.ref 92), some (.ref 19)], [.int 8, .int 0, .ref (92 + 2), .int 0, .ref (19 + 2)], (zS0, R, zrow (zu I 92 0 (I 19 0)) (92 + 1) (va_cpy (I (19 + 1)) (I (92 + 1)) (0 : Int32).toNatClampNeg (0 : Int32).toNatClampNeg (8 : Int32).toNatClampNeg), J))) rfl ?_
    refine zEv_cp rfl rfl rfl (by decide) (by decide) (by decide) (by unfold zcpok; decide) (by decide) ?_
    exact zEv_r rfl
  · refine zEv_k 5 (f' := (9, [some (.ref 107), some (.ref 34)], [.ref 34], (zS0, R, zu I 107 0 (I 34 0), J))) rfl ?_
    refine zEv_gr rfl rfl rfl (by decide) (hR (34) 1 (34 + 1) rfl) ?_
    refine zEv_k 2 (f' := (14, [some (.ref 107), some (.ref 34)], [.ref 107, .int 0, .ref (34 + 1)], (zS0, R, zu I 107 0 (I 34 0), J))) rfl ?_
    refine zEv_gr rfl rfl rfl (by decide) (hR (107) 1 (107 + 1) rfl) ?_
    refine zEv_k 2 (f' := (20, [some (.ref 107), some (.ref 34)], [.int 8, .int 0, .ref (107 + 1), .int 0, .ref (34 + 1)], (zS0, R, zu I 107 0 (I 34 0), J))) rfl ?_
    refine zEv_cp rfl rfl rfl (by decide) (by decide) (by decide) (by unfold zcpok; decide) (by decide) ?_
    refine zEv_k 1 (f' := (24, [some (.ref 107), some (.ref 34)], [.ref 34], (zS0, R, zrow (zu I 107 0 (I 34 0)) (107 + 1) (va_cpy (I (34 + 1)) (I (107 + 1)) (0 : Int32).toNatClampNeg (0 : Int32).toNatClampNeg (8 : Int32).toNatClampNeg), J))) rfl ?_
    refine zEv_gr rfl rfl rfl (by decide) (hR (34) 2 (34 + 2) rfl) ?_
    refine zEv_k 2 (f' := (29, [some (.ref 107), some (.ref 34)], [.ref 107, .int 0, .ref (34 + 2)], (zS0, R, zrow (zu I 107 0 (I 34 0)) (107 + 1) (va_cpy (I (34 + 1)) (I (107 + 1)) (0 : Int32).toNatClampNeg (0 : Int32).toNatClampNeg (8 : Int32).toNatClampNeg), J))) rfl ?_
    refine zEv_gr rfl rfl rfl (by decide) (hR (107) 2 (107 + 2) rfl) ?_
    refine zEv_k 2 (f' := (35, [some (.ref 107), some (.ref 34)], [.int 8, .int 0, .ref (107 + 2), .int 0, .ref (34 + 2)], (zS0, R, zrow (zu I 107 0 (I 34 0)) (107 + 1) (va_cpy (I (34 + 1)) (I (107 + 1)) (0 : Int32).toNatClampNeg (0 : Int32).toNatClampNeg (8 : Int32).toNatClampNeg), J))) rfl ?_
    refine zEv_cp rfl rfl rfl (by decide) (by decide) (by decide) (by unfold zcpok; decide) (by decide) ?_
    exact zEv_r rfl
  · refine zEv_k 5 (f' := (9, [some (.ref 128), some (.ref 19)], [.ref 19], (zS0, R, zu I 128 0 (I 19 0), J))) rfl ?_
    refine zEv_gr rfl rfl rfl (by decide) (hR (19) 1 (19 + 1) rfl) ?_
    refine zEv_k 2 (f' := (14, [some (.ref 128), some (.ref 19)], [.ref 128, .int 0, .ref (19 + 1)], (zS0, R, zu I 128 0 (I 19 0), J))) rfl ?_
    refine zEv_gr rfl rfl rfl (by decide) (hR (128) 1 (128 + 1) rfl) ?_
    refine zEv_k 2 (f' := (20, [some (.ref 128), some (.ref 19)], [.int 8, .int 0, .ref (128 + 1), .int 0, .ref (19 + 1)], (zS0, R, zu I 128 0 (I 19 0), J))) rfl ?_
    refine zEv_cp rfl rfl rfl (by decide) (by decide) (by decide) (by unfold zcpok; decide) (by decide) ?_
    refine zEv_k 1 (f' := (24, [some (.ref 128), some (.ref 19)], [.ref 19], (zS0, R, zrow (zu I 128 0 (I 19 0)) (128 + 1) (va_cpy (I (19 + 1)) (I (128 + 1)) (0 : Int32).toNatClampNeg (0 : Int32).toNatClampNeg (8 : Int32).toNatClampNeg), J))) rfl ?_
    refine zEv_gr rfl rfl rfl (by decide) (hR (19) 2 (19 + 2) rfl) ?_
    refine zEv_k 2 (f' := (29, [some (.ref 128), some (.ref 19)], [.ref 128, .int 0, .ref (19 + 2)], (zS0, R, zrow (zu I 128 0 (I 19 0)) (128 + 1) (va_cpy (I (19 + 1)) (I (128 + 1)) (0 : Int32).toNatClampNeg (0 : Int32).toNatClampNeg (8 : Int32).toNatClampNeg), J))) rfl ?_
    refine zEv_gr rfl rfl rfl (by decide) (hR (128) 2 (128 + 2) rfl) ?_
    refine zEv_k 2 (f' := (35, [some (.ref 128), some (.ref 19)], [.int 8, .int 0, .ref (128 + 2), .int 0, .ref (19 + 2)], (zS0, R, zrow (zu I 128 0 (I 19 0)) (128 + 1) (va_cpy (I (19 + 1)) (I (128 + 1)) (0 : Int32).toNatClampNeg (0 : Int32).toNatClampNeg (8 : Int32).toNatClampNeg), J))) rfl ?_
    refine zEv_cp rfl rfl rfl (by decide) (by decide) (by decide) (by unfold zcpok; decide) (by decide) ?_
    exact zEv_r rfl
  · refine zEv_k 5 (f' := (9, [some (.ref 143), some (.ref 34)], [.ref 34], (zS0, R, zu I 143 0 (I 34 0), J))) rfl ?_
    refine zEv_gr rfl rfl rfl (by decide) (hR (34) 1 (34 + 1) rfl) ?_
    refine zEv_k 2 (f' := (14, [some (.ref 143), some (.ref 34)], [.ref 143, .int 0, .ref (34 + 1)], (zS0, R, zu I 143 0 (I 34 0), J))) rfl ?_
    refine zEv_gr rfl rfl rfl (by decide) (hR (143) 1 (143 + 1) rfl) ?_
    refine zEv_k 2 (f' := (20, [some (.ref 143), some (.ref 34)], [.int 8, .int 0, .ref (143 + 1), .int 0, .ref (34 + 1)], (zS0, R, zu I 143 0 (I 34 0), J))) rfl ?_
    refine zEv_cp rfl rfl rfl (by decide) (by decide) (by decide) (by unfold zcpok; decide) (by decide) ?_
    refine zEv_k 1 (f' := (24, [some (.ref 143), some (.ref 34)], [.ref 34], (zS0, R, zrow (zu I 143 0 (I 34 0)) (143 + 1) (va_cpy (I (34 + 1)) (I (143 + 1)) (0 : Int32).toNatClampNeg (0 : Int32).toNatClampNeg (8 : Int32).toNatClampNeg), J))) rfl ?_
    refine zEv_gr rfl rfl rfl (by decide) (hR (34) 2 (34 + 2) rfl) ?_
    refine zEv_k 2 (f' := (29, [some (.ref 143), some (.ref 34)], [.ref 143, .int 0, .ref (34 + 2)], (zS0, R, zrow (zu I 143 0 (I 34 0)) (143 + 1) (va_cpy (I (34 + 1)) (I (143 + 1)) (0 : Int32).toNatClampNeg (0 : Int32).toNatClampNeg (8 : Int32).toNatClampNeg), J))) rfl ?_
    refine zEv_gr rfl rfl rfl (by decide) (hR (143) 2 (143 + 2) rfl) ?_
    refine zEv_k 2 (f' := (35, [some (.ref 143), some (.ref 34)], [.int 8, .int 0, .ref (143 + 2), .int 0, .ref (34 + 2)], (zS0, R, zrow (zu I 143 0 (I 34 0)) (143 + 1) (va_cpy (I (34 + 1)) (I (143 + 1)) (0 : Int32).toNatClampNeg (0 : Int32).toNatClampNeg (8 : Int32).toNatClampNeg), J))) rfl ?_
    refine zEv_cp rfl rfl rfl (by decide) (by decide) (by decide) (by unfold zcpok; decide) (by decide) ?_
    exact zEv_r rfl
theorem b_37_0 {X : zX} {d : Nat} {R : zR} {I : zI} {J : zJ} {r : zA} (k1 : (I 160 0) < 8 → zEv X d zm_37 (13, [some (.ref 160)], [], (zS0, R, I, J)) r) (k2 : ¬ ((I 160 0) < 8) → zEv X d zm_37 (9, [some (.ref 160)], [], (zS0, R, I, J)) r) : zEv X d zm_37 (0, [some (.ref 160)], [], (zS0, R, I, J)) r := by
  refine zEv_k 4 (f' := (if (I 160 0) < 8 then 13 else 9, [some (.ref 160)], [], (zS0, R, I, J))) rfl ?_
  exact zEv_if k1 k2
theorem b_37_9 {X : zX} {d : Nat} {R : zR} {I : zI} {J : zJ}  : zEv X d zm_37 (9, [some (.ref 160)], [], (zS0, R, I, J)) (some (.int 1), (zS0, R, I, J)) := by
  refine zEv_k 2 (f' := (14, [some (.ref 160)], [.int 1], (zS0, R, I, J))) rfl ?_
  exact zEv_r rfl
theorem b_37_13 {X : zX} {d : Nat} {R : zR} {I : zI} {J : zJ}  : zEv X d zm_37 (13, [some (.ref 160)], [], (zS0, R, I, J)) (some (.int 0), (zS0, R, I, J)) := by
  refine zEv_k 1 (f' := (14, [some (.ref 160)], [.int 0], (zS0, R, I, J))) rfl ?_
  exact zEv_r rfl
theorem b_38_0 {X : zX} {d : Nat} {R : zR} {I : zI} {J : zJ} {r : zA} {x1 : Int32} {x2 : Int32} {w : Int32} {R' : zR} {I' : zI} {J' : zJ} (hc : zEv X d zm_37 (0, [some (.ref 160)], [], (zS0, R, I, J)) (some (.int w), (zS0, R', I', J'))) (k1 : zEv X (d + 1) zm_38 (4, [some (.ref 160), some (.int x1), some (.int x2)], [.int w], (zS0, R', I', J')) r) : zEv X (d + 1) zm_38 (0, [some (.ref 160), some (.int x1), some (.int x2)], [], (zS0, R, I, J)) r := by
  refine zEv_k 1 (f' := (1, [some (.ref 160), some (.int x1), some (.int x2)], [.ref 160], (zS0, R, I, J))) rfl ?_
  exact zEv_c (fun _ => rfl) rfl hc rfl rfl k1
theorem b_38_4 {X : zX} {d : Nat} {R : zR} {I : zI} {J : zJ} {r : zA} {x1 : Int32} {x2 : Int32} {s0 : Int32} (k1 : s0 = 0 → zEv X d zm_38 (8, [some (.ref 160), some (.int x1), some (.int x2)], [], (zS0, R, I, J)) r) (k2 : ¬ (s0 = 0) → zEv X d zm_38 (7, [some (.ref 160), some (.int x1), some (.int x2)], [], (zS0, R, I, J)) r) : zEv X d zm_38 (4, [some (.ref 160), some (.int x1), some (.int x2)], [.int s0], (zS0, R, I, J)) r := by
  refine zEv_k 1 (f' := (if s0 = 0 then 8 else 7, [some (.ref 160), some (.int x1), some (.int x2)], [], (zS0, R, I, J))) rfl ?_
  exact zEv_if k1 k2
theorem b_38_7 {X : zX} {d : Nat} {R : zR} {I : zI} {J : zJ} {x1 : Int32} {x2 : Int32} : zEv X d zm_38 (7, [some (.ref 160), some (.int x1), some (.int x2)], [], (zS0, R, I, J)) (none, (zS0, R, I, J)) := by
  exact zEv_r rfl
theorem b_38_8 {X : zX} {d : Nat} {R : zR} {I : zI} {J : zJ} {x1 : Int32} {x2 : Int32} (hR : zRok R) (h17 : zin (I 160 0) 8) (h27 : zin (I 160 0) 8) : zEv X d zm_38 (8, [some (.ref 160), some (.int x1), some (.int x2)], [], (zS0, R, I, J)) (none, (zS0, R, zu (zu (zu I 161 (I 160 0).toNatClampNeg x1) 162 (I 160 0).toNatClampNeg x2) 160 0 ((I 160 0) + 1), J)) := by
  refine zEv_k 1 (f' := (9, [some (.ref 160), some (.int x1), some (.int x2)], [.ref 160], (zS0, R, I, J))) rfl ?_
  refine zEv_gr rfl rfl rfl (by decide) (hR (160) 1 (161) rfl) ?_
  refine zEv_k 3 (f' := (17, [some (.ref 160), some (.int x1), some (.int x2)], [.int x1, .int (I 160 0), .ref 161], (zS0, R, I, J))) rfl ?_
  refine zEv_ias rfl rfl (by decide) h17 ?_
  refine zEv_k 1 (f' := (19, [some (.ref 160), some (.int x1), some (.int x2)], [.ref 160], (zS0, R, zu I 161 (I 160 0).toNatClampNeg x1, J))) rfl ?_
  refine zEv_gr rfl rfl rfl (by decide) (hR (160) 2 (162) rfl) ?_
  refine zEv_k 3 (f' := (27, [some (.ref 160), some (.int x1), some (.int x2)], [.int x2, .int (I 160 0), .ref 162], (zS0, R, zu I 161 (I 160 0).toNatClampNeg x1, J))) rfl ?_
  refine zEv_ias rfl rfl (by decide) h27 ?_
  refine zEv_k 6 (f' := (38, [some (.ref 160), some (.int x1), some (.int x2)], [], (zS0, R, zu (zu (zu I 161 (I 160 0).toNatClampNeg x1) 162 (I 160 0).toNatClampNeg x2) 160 0 ((I 160 0) + 1), J))) rfl ?_
  exact zEv_r rfl
