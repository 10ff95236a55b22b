set_option maxRecDepth 20000 in
theorem b_70_0 {X : zX} {d : Nat} {R : zR} {I : zI} {J : zJ} {r : zA} {c : Nat} {o : Nat} (hR : zRok R) (ho : (c = 7 ∧ o = 166) ∨ (c = 7 ∧ o = 198) ∨ (c = 22 ∧ o = 166) ∨ (c = 22 ∧ o = 198)) (k1 : zEv X d zm_70 (113, [some (.ref o), some (.ref c), some (.int 0)], [], (zS0, zu R o 10 (some c), zu (zu (zu (zu (zu (zu (zrow (zrow (zrow (zrow (zu (zu I o 3 (I c 1)) o 4 (I c 0)) (o + 10) (va_cpy (I (c + 1)) (I (o + 10)) (0 : Int32).toNatClampNeg (0 : Int32).toNatClampNeg (7 : Int32).toNatClampNeg)) (o + 11) (va_cpy (I (c + 3)) (I (o + 11)) (0 : Int32).toNatClampNeg (0 : Int32).toNatClampNeg (7 : Int32).toNatClampNeg)) (o + 12) (va_cpy (I (c + 5)) (I (o + 12)) (0 : Int32).toNatClampNeg (0 : Int32).toNatClampNeg (7 : Int32).toNatClampNeg)) (o + 13) (va_cpy (I (c + 6)) (I (o + 13)) (0 : Int32).toNatClampNeg (0 : Int32).toNatClampNeg (7 : Int32).toNatClampNeg)) o 0 0) o 11 0) o 1 0) o 2 0) o 12 0) o 13 0, J)) r) : zEv X d zm_70 (0, [some (.ref o), some (.ref c), none], [], (zS0, R, I, J)) r := by
  rcases ho with ⟨rfl, rfl⟩ | ⟨rfl, rfl⟩ | ⟨rfl, rfl⟩ | ⟨rfl, rfl⟩
  · refine zEv_k 9 (f' := (15, [some (.ref 166), some (.ref 7), none], [.ref 7, .ref 166], (zS0, zu R 166 10 (some 7), zu I 166 3 (I 7 1), J))) rfl ?_
    refine zEv_k 3 (f' := (22, [some (.ref 166), some (.ref 7), none], [.ref 7], (zS0, zu R 166 10 (some 7), zu (zu I 166 3 (I 7 1)) 166 4 (I 7 0), J))) rfl ?_
    refine zEv_gr rfl rfl rfl (by decide) ((zRok_u hR rfl) (7) 3 (7 + 1) rfl) ?_
    refine zEv_k 2 (f' := (27, [some (.ref 166), some (.ref 7), none], [.ref 166, .int 0, .ref (7 + 1)], (zS0, zu R 166 10 (some 7), zu (zu I 166 3 (I 7 1)) 166 4 (I 7 0), J))) rfl ?_
    refine zEv_gr rfl rfl rfl (by decide) ((zRok_u hR rfl) (166) 16 (166 + 10) rfl) ?_
    refine zEv_k 2 (f' := (33, [some (.ref 166), some (.ref 7), none], [.int 7, .int 0, .ref (166 + 10), .int 0, .ref (7 + 1)], (zS0, zu R 166 10 (some 7), zu (zu I 166 3 (I 7 1)) 166 4 (I 7 0), J))) rfl ?_
    refine zEv_cp rfl rfl rfl (by decide) (by decide) (by decide) (by unfold zcpok; decide) (by decide) ?_
    refine zEv_k 1 (f' := (37, [some (.ref 166), some (.ref 7), none], [.ref 7], (zS0, zu R 166 10 (some 7), zrow (zu (zu I 166 3 (I 7 1)) 166 4 (I 7 0)) (166 + 10) (va_cpy (I (7 + 1)) (I (166 + 10)) (0 : Int32).toNatClampNeg (0 : Int32).toNatClampNeg (7 : Int32).toNatClampNeg), J))) rfl ?_
    refine zEv_gr rfl rfl rfl (by decide) ((zRok_u hR rfl) (7) 5 (7 + 3) rfl) ?_
    refine zEv_k 2 (f' := (42, [some (.ref 166), some (.ref 7), none], [.ref 166, .int 0, .ref (7 + 3)], (zS0, zu R 166 10 (some 7), zrow (zu (zu I 166 3 (I 7 1)) 166 4 (I 7 0)) (166 + 10) (va_cpy (I (7 + 1)) (I (166 + 10)) (0 : Int32).toNatClampNeg (0 : Int32).toNatClampNeg (7 : Int32).toNatClampNeg), J))) rfl ?_
    refine zEv_gr rfl rfl rfl (by decide) ((zRok_u hR rfl) (166) 17 (166 + 11) rfl) ?_
    refine zEv_k 2 (f' := (48, [some (.ref 166), some (.ref 7), none], [.int 7, .int 0, .ref (166 + 11), .int 0, .ref (7 + 3)], (zS0, zu R 166 10 (some 7), zrow (zu (zu I 166 3 (I 7 1)) 166 4 (I 7 0)) (166 + 10) (va_cpy (I (7 + 1)) (I (166 + 10)) (0 : Int32).toNatClampNeg (0 : Int32).toNatClampNeg (7 : Int32).toNatClampNeg), J))) rfl ?_
    refine zEv_cp rfl rfl rfl (by decide) (by decide) (by decide) (by unfold zcpok; decide) (by decide) ?_
    refine zEv_k 1 (f' := (52, [some (.ref 166), some (.ref 7), none], [.ref 7], (zS0, zu R 166 10 (some 7), zrow (zrow (zu (zu I 166 3 (I 7 1)) 166 4 (I 7 0)) (166 + 10) (va_cpy (I (7 + 1)) (I (166 + 10)) (0 : Int32).toNatClampNeg (0 : Int32).toNatClampNeg (7 : Int32).toNatClampNeg)) (166 + 11) (va_cpy (I (7 + 3)) (I (166 + 11)) (0 : Int32).toNatClampNeg (0 : Int32).toNatClampNeg (7 : Int32).toNatClampNeg), J))) rfl ?_
    refine zEv_gr rfl rfl rfl (by decide) ((zRok_u hR rfl) (7) 7 (7 + 5) rfl) ?_
    refine zEv_k 2 (f' := (57, [some (.ref 166), some (.ref 7), none], [.ref 166, .int 0, .ref (7 + 5)], (zS0, zu R 166 10 (some 7), zrow (zrow (zu (zu I 166 3 (I 7 1)) 166 4 (I 7 0)) (166 + 10) (va_cpy (I (7 + 1)) (I (166 + 10)) (0 : Int32).toNatClampNeg (0 : Int32).toNatClampNeg (7 : Int32).toNatClampNeg)) (166 + 11) (va_cpy (I (7 + 3)) (I (166 + 11)) (0 : Int32).toNatClampNeg (0 : Int32).toNatClampNeg (7 : Int32).toNatClampNeg), J))) rfl ?_
    refine zEv_gr rfl rfl rfl (by decide) ((zRok_u hR rfl) (166) 18 (166 + 12) rfl) ?_
    refine zEv_k 2 (f' := (63, [some (.ref 166), some (.ref 7), none], [.int 7, .int 0, .ref (166 + 12), .int 0, .ref (7 + 5)], (zS0, zu R 166 10 (some 7), zrow (zrow (zu (zu I 166 3 (I 7 1)) 166 4 (I 7 0)) (166 + 10) (va_cpy (I (7 + 1)) (I (166 + 10)) (0 : Int32).toNatClampNeg (0 : Int32).toNatClampNeg (7 : Int32).toNatClampNeg)) (166 + 11) (va_cpy (I (7 + 3)) (I (166 + 11)) (0 : Int32).toNatClampNeg (0 : Int32).toNatClampNeg (7 : Int32).toNatClampNeg), J))) rfl ?_
    refine zEv_cp rfl rfl rfl (by decide) (by decide) (by decide) (by unfold zcpok; decide) (by decide) ?_
    refine zEv_k 1 (f' := (67, [some (.ref 166), some (.ref 7), none], [.ref 7], (zS0, zu R 166 10 (some 7), zrow (zrow (zrow (zu (zu I 166 3 (I 7 1)) 166 4 (I 7 0)) (166 + 10) (va_cpy (I (7 + 1)) (I (166 + 10)) (0 : Int32).toNatClampNeg (0 : Int32).toNatClampNeg (7 : Int32).toNatClampNeg)) (166 + 11) (va_cpy (I (7 + 3)) (I (166 + 11)) (0 : Int32).toNatClampNeg (0 : Int32).toNatClampNeg (7 : Int32).toNatClampNeg)) (166 + 12) (va_cpy (I (7 + 5)) (I (166 + 12)) (0 : Int32).toNatClampNeg (0 : Int32).toNatClampNeg (7 : Int32).toNatClampNeg), J))) rfl ?_
    refine zEv_gr rfl rfl rfl (by decide) ((zRok_u hR rfl) (7) 8 (7 + 6) rfl) ?_
    refine zEv_k 2 (f' := (72, [some (.ref 166), some (.ref 7), none], [.ref 166, .int 0, .ref (7 + 6)], (zS0, zu R 166 10 (some 7), zrow (zrow (zrow (zu (zu I 166 3 (I 7 1)) 166 4 (I 7 0)) (166 + 10) (va_cpy (I (7 + 1)) (I (166 + 10)) (0 : Int32).toNatClampNeg (0 : Int32).toNatClampNeg (7 : Int32).toNatClampNeg)) (166 + 11) (va_cpy (I (7 + 3)) (I (166 + 11)) (0 : Int32).toNatClampNeg (0 : Int32).toNatClampNeg (7 : Int32).toNatClampNeg)) (166 + 12) (va_cpy (I (7 + 5)) (I (166 + 12)) (0 : Int32).toNatClampNeg (0 : Int32).toNatClampNeg (7 : Int32).toNatClampNeg), J))) rfl ?_
    refine zEv_gr rfl rfl rfl (by decide) ((zRok_u hR rfl) (166) 19 (166 + 13) rfl) ?_
    refine zEv_k 2 (f' := (78, [some (.ref 166), some (.ref 7), none], [.int 7, .int 0, .ref (166 + 13), .int 0, .ref (7 + 6)], (zS0, zu R 166 10 (some 7), zrow (zrow (zrow (zu (zu I 166 3 (I 7 1)) 166 4 (I 7 0)) (166 + 10) (va_cpy (I (7 + 1)) (I (166 + 10)) (0 : Int32).toNatClampNeg (0 : Int32).toNatClampNeg (7 : Int32).toNatClampNeg)) (166 + 11) (va_cpy (I (7 + 3)) (I (166 + 11)) (0 : Int32).toNatClampNeg (0 : Int32).toNatClampNeg (7 : Int32).toNatClampNeg)) (166 + 12) (va_cpy (I (7 + 5)) (I (166 + 12)) (0 : Int32).toNatClampNeg (0 : Int32).toNatClampNeg (7 : Int32).toNatClampNeg), J))) rfl ?_
    refine zEv_cp rfl rfl rfl (by decide) (by decide) (by decide) (by unfold zcpok; decide) (by decide) ?_
    refine zEv_k 9 (f' := (96, [some (.ref 166), some (.ref 7), none], [], (zS0, zu R 166 10 (some 7), zu (zu (zu (zrow (zrow (zrow (zrow (zu (zu I 166 3 (I 7 1)) 166 4 (I 7 0)) (166 + 10) (va_cpy (I (7 + 1)) (I (166 + 10)) (0 : Int32).toNatClampNeg (0 : Int32).toNatClampNeg (7 : Int32).toNatClampNeg)) (166 + 11) (va_cpy (I (7 + 3)) (I (166 + 11)) (0 : Int32).toNatClampNeg (0 : Int32).toNatClampNeg (7 : Int32).toNatClampNeg)) (166 + 12) (va_cpy (I (7 + 5)) (I (166 + 12)) (0 : Int32).toNatClampNeg (0 : Int32).toNatClampNeg (7 : Int32).toNatClampNeg)) (166 + 13) (va_cpy (I (7 + 6)) (I (166 + 13)) (0 : Int32).toNatClampNeg (0 : Int32).toNatClampNeg (7 : Int32).toNatClampNeg)) 166 0 0) 166 11 0) 166 1 0, J))) rfl ?_
    refine zEv_k 9 (f' := (111, [some (.ref 166), some (.ref 7), none], [], (zS0, zu R 166 10 (some 7), zu (zu (zu (zu (zu (zu (zrow (zrow (zrow (zrow (zu (zu I 166 3 (I 7 1)) 166 4 (I 7 0)) (166 + 10) (va_cpy (I (7 + 1)) (I (166 + 10)) (0 : Int32).toNatClampNeg (0 : Int32).toNatClampNeg (7 : Int32).toNatClampNeg)) (166 + 11) (va_cpy (I (7 + 3)) (I (166 + 11)) (0 : Int32).toNatClampNeg (0 : Int32).toNatClampNeg (7 : Int32).toNatClampNeg)) (166 + 12) (va_cpy (I (7 + 5)) (I (166 + 12)) (0 : Int32).toNatClampNeg (0 : Int32).toNatClampNeg (7 : Int32).toNatClampNeg)) (166 + 13) (va_cpy (I (7 + 6)) (I (166 + 13)) (0 : Int32).toNatClampNeg (0 : Int32).toNatClampNeg (7 : Int32).toNatClampNeg)) 166 0 0) 166 11 0) 166 1 0) 166 2 0) 166 12 0) 166 13 0, J))) rfl ?_
    refine zEv_k 2 (f' := (113, [some (.ref 166), some (.ref 7), some (.int 0)], [], (zS0, zu R 166 10 (some 7), zu (zu (zu (zu (zu (zu (zrow (zrow (zrow (zrow (zu (zu I 166 3 (I 7 1)) 166 4 (I 7 0)) (166 + 10) (va_cpy (I (7 + 1)) (I (166 + 10)) (0 : Int32).toNatClampNeg (0 : Int32).toNatClampNeg (7 : Int32).toNatClampNeg)) (166 + 11) (va_cpy (I (7 + 3)) (I (166 + 11)) (0 : Int32).toNatClampNeg (0 : Int32).toNatClampNeg (7 : Int32).toNatClampNeg)) (166 + 12) (va_cpy (I (7 + 5)) (I (166 + 12)) (0 : Int32).toNatClampNeg (0 : Int32).toNatClampNeg (7 : Int32).toNatClampNeg)) (166 + 13) (va_cpy (I (7 + 6)) (I (166 + 13)) (0 : Int32).toNatClampNeg (0 : Int32).toNatClampNeg (7 : Int32).toNatClampNeg)) 166 0 0) 166 11 0) 166 1 0) 166 2 0) 166 12 0) 166 13 0, J))) rfl ?_
    exact k1
  · refine zEv_k 9 (f' := (15, [some (.ref 198), some (.ref 7), none], [.ref 7, .ref 198], (zS0, zu R 198 10 (some 7), zu I 198 3 (I 7 1), J))) rfl ?_
    refine zEv_k 3 (f' := (22, [some (.ref 198), some (.ref 7), none], [.ref 7], (zS0, zu R 198 10 (some 7), zu (zu I 198 3 (I 7 1)) 198 4 (I 7 0), J))) rfl ?_
    refine zEv_gr rfl rfl rfl (by decide) ((zRok_u hR rfl) (7) 3 (7 + 1) rfl) ?_
    refine zEv_k 2 (f' := (27, [some (.ref 198), some (.ref 7), none], [.ref 198, .int 0, .ref (7 + 1)], (zS0, zu R 198 10 (some 7), zu (zu I 198 3 (I 7 1)) 198 4 (I 7 0), J))) rfl ?_
    refine zEv_gr rfl rfl rfl (by decide) ((zRok_u hR rfl) (198) 16 (198 + 10) rfl) ?_
    refine zEv_k 2 (f' := (33, [some (.ref 198), some (.ref 7), none], [.int 7, .int 0, .ref (198 + 10), .int 0, .ref (7 + 1)], (zS0, zu R 198 10 (some 7), zu (zu I 198 3 (I 7 1)) 198 4 (I 7 0), J))) rfl ?_
    refine zEv_cp rfl rfl rfl (by decide) (by decide) (by decide) (by unfold zcpok; decide) (by decide) ?_
    refine zEv_k 1 (f' := (37, [some (.ref 198), some (.ref 7), none], [.ref 7], (zS0, zu R 198 10 (some 7), zrow (zu (zu I 198 3 (I 7 1)) 198 4 (I 7 0)) (198 + 10) (va_cpy (I (7 + 1)) (I (198 + 10)) (0 : Int32).toNatClampNeg (0 : Int32).toNatClampNeg (7 : Int32).toNatClampNeg), J))) rfl ?_
    refine zEv_gr rfl rfl rfl (by decide) ((zRok_u hR rfl) (7) 5 (7 + 3) rfl) ?_
    refine zEv_k 2 (f' := (42, [some (.ref 198), some (.ref 7), none], [.ref 198, .int 0, .ref (7 + 3)], (zS0, zu R 198 10 (some 7), zrow (zu (zu I 198 3 (I 7 1)) 198 4 (I 7 0)) (198 + 10) (va_cpy (I (7 + 1)) (I (198 + 10)) (0 : Int32).toNatClampNeg (0 : Int32).toNatClampNeg (7 : Int32).toNatClampNeg), J))) rfl ?_
    refine zEv_gr rfl rfl rfl (by decide) ((zRok_u hR rfl) (198) 17 (198 + 11) rfl) ?_
    refine zEv_k 2 (f' := (48, [some (.ref 198), some (.ref 7), none], [.int 7, .int 0, .ref (198 + 11), .int 0, .ref (7 + 3)], (zS0, zu R 198 10 (some 7), zrow (zu (zu I 198 3 (I 7 1)) 198 4 (I 7 0)) (198 + 10) (va_cpy (I (7 + 1)) (I (198 + 10)) (0 : Int32).toNatClampNeg (0 : Int32).toNatClampNeg (7 : Int32).toNatClampNeg), J))) rfl ?_
    refine zEv_cp rfl rfl rfl (by decide) (by decide) (by decide) (by unfold zcpok; decide) (by decide) ?_
    refine zEv_k 1 (f' := (52, [some (.ref 198), some (.ref 7), none], [.ref 7], (zS0, zu R 198 10 (some 7), zrow (zrow (zu (zu I 198 3 (I 7 1)) 198 4 (I 7 0)) (198 + 10) (va_cpy (I (7 + 1)) (I (198 + 10)) (0 : Int32).toNatClampNeg (0 : Int32).toNatClampNeg (7 : Int32).toNatClampNeg)) (198 + 11) (va_cpy (I (7 + 3)) (I (198 + 11)) (0 : Int32).toNatClampNeg (0 : Int32).toNatClampNeg (7 : Int32).toNatClampNeg), J))) rfl ?_
    refine zEv_gr rfl rfl rfl (by decide) ((zRok_u hR rfl) (7) 7 (7 + 5) rfl) ?_
    refine zEv_k 2 (f' := (57, [some (.ref 198), some (.ref 7), none], [.ref 198, .int 0, .ref (7 + 5)], (zS0, zu R 198 10 (some 7), zrow (zrow (zu (zu I 198 3 (I 7 1)) 198 4 (I 7 0)) (198 + 10) (va_cpy (I (7 + 1)) (I (198 + 10)) (0 : Int32).toNatClampNeg (0 : Int32).toNatClampNeg (7 : Int32).toNatClampNeg)) (198 + 11) (va_cpy (I (7 + 3)) (I (198 + 11)) (0 : Int32).toNatClampNeg (0 : Int32).toNatClampNeg (7 : Int32).toNatClampNeg), J))) rfl ?_
    refine zEv_gr rfl rfl rfl (by decide) ((zRok_u hR rfl) (198) 18 (198 + 12) rfl) ?_
    refine zEv_k 2 (f' := (63, [some (.ref 198), some (.ref 7), none], [.int 7, .int 0, .ref (198 + 12), .int 0, .ref (7 + 5)], (zS0, zu R 198 10 (some 7), zrow (zrow (zu (zu I 198 3 (I 7 1)) 198 4 (I 7 0)) (198 + 10) (va_cpy (I (7 + 1)) (I (198 + 10)) (0 : Int32).toNatClampNeg (0 : Int32).toNatClampNeg (7 : Int32).toNatClampNeg)) (198 + 11) (va_cpy (I (7 + 3)) (I (198 + 11)) (0 : Int32).toNatClampNeg (0 : Int32).toNatClampNeg (7 : Int32).toNatClampNeg), J))) rfl ?_
    refine zEv_cp rfl rfl rfl (by decide) (by decide) (by decide) (by unfold zcpok; decide) (by decide) ?_
    refine zEv_k 1 (f' := (67, [some (.ref 198), some (.ref 7), none], [.ref 7], (zS0, zu R 198 10 (some 7), zrow (zrow (zrow (zu (zu I 198 3 (I 7 1)) 198 4 (I 7 0)) (198 + 10) (va_cpy (I (7 + 1)) (I (198 + 10)) (0 : Int32).toNatClampNeg (0 : Int32).toNatClampNeg (7 : Int32).toNatClampNeg)) (198 + 11) (va_cpy (I (7 + 3)) (I (198 + 11)) (0 : Int32).toNatClampNeg (0 : Int32).toNatClampNeg (7 : Int32).toNatClampNeg)) (198 + 12) (va_cpy (I (7 + 5)) (I (198 + 12)) (0 : Int32).toNatClampNeg (0 : Int32).toNatClampNeg (7 : Int32).toNatClampNeg), J))) rfl ?_
    refine zEv_gr rfl rfl rfl (by decide) ((zRok_u hR rfl) (7) 8 (7 + 6) rfl) ?_
    refine zEv_k 2 (f' := (72, [some (.ref 198), some (.ref 7), none], [.ref 198, .int 0, .ref (7 + 6)], (zS0, zu R 198 10 (some 7), zrow (zrow (zrow (zu (zu I 198 3 (I 7 1)) 198 4 (I 7 0)) (198 + 10) (va_cpy (I (7 + 1)) (I (198 + 10)) (0 : Int32).toNatClampNeg (0 : Int32).toNatClampNeg (7 : Int32).toNatClampNeg)) (198 + 11) (va_cpy (I (7 + 3)) (I (198 + 11)) (0 : Int32).toNatClampNeg (0 : Int32).toNatClampNeg (7 : Int32).toNatClampNeg)) (198 + 12) (va_cpy (I (7 + 5)) (I (198 + 12)) (0 : Int32).toNatClampNeg (0 : Int32).toNatClampNeg (7 : Int32).toNatClampNeg), J))) rfl ?_
    refine zEv_gr rfl rfl rfl (by decide) ((zRok_u hR rfl) (198) 19 (198 + 13) rfl) ?_
    refine zEv_k 2 (f' := (78, [some (.ref 198), some (.ref 7), none], [.int 7, .int 0, .ref (198 + 13), .int 0, .ref (7 + 6)], (zS0, zu R 198 10 (some 7), zrow (zrow (zrow (zu (zu I 198 3 (I 7 1)) 198 4 (I 7 0)) (198 + 10) (va_cpy (I (7 + 1)) (I (198 + 10)) (0 : Int32).toNatClampNeg (0 : Int32).toNatClampNeg (7 : Int32).toNatClampNeg)) (198 + 11) (va_cpy (I (7 + 3)) (I (198 + 11)) (0 : Int32).toNatClampNeg (0 : Int32).toNatClampNeg (7 : Int32).toNatClampNeg)) (198 + 12) (va_cpy (I (7 + 5)) (I (198 + 12)) (0 : Int32).toNatClampNeg (0 : Int32).toNatClampNeg (7 : Int32).toNatClampNeg), J))) rfl ?_
    refine zEv_cp rfl rfl rfl (by decide) (by decide) (by decide) (by unfold zcpok; decide) (by decide) ?_
    refine zEv_k 9 (f' := (96, [some (.ref 198), some (.ref 7), none], [], (zS0, zu R 198 10 (some 7), zu (zu (zu (zrow (zrow (zrow (zrow (zu (zu I 198 3 (I 7 1)) 198 4 (I 7 0)) (198 + 10) (va_cpy (I (7 + 1)) (I (198 + 10)) (0 : Int32).toNatClampNeg (0 : Int32).toNatClampNeg (7 : Int32).toNatClampNeg)) (198 + 11) (va_cpy (I (7 + 3)) (I (198 + 11)) (0 : Int32).toNatClampNeg (0 : Int32).toNatClampNeg (7 : Int32).toNatClampNeg)) (198 + 12) (va_cpy (I (7 + 5)) (I (198 + 12)) (0 : Int32).toNatClampNeg (0 : Int32).toNatClampNeg (7 : Int32).toNatClampNeg)) (198 + 13) (va_cpy (I (7 + 6)) (I (198 + 13)) (0 : Int32).toNatClampNeg (0 : Int32).toNatClampNeg (7 : Int32).toNatClampNeg)) 198 0 0) 198 11 0) 198 1 0, J))) rfl ?_
    refine zEv_k 9 (f' := (111, [some (.ref 198), some (.ref 7), none], [], (zS0, zu R 198 10 (some 7), zu (zu (zu (zu (zu (zu (zrow (zrow (zrow (zrow (zu (zu I 198 3 (I 7 1)) 198 4 (I 7 0)) (198 + 10) (va_cpy (I (7 + 1)) (I (198 + 10)) (0 : Int32).toNatClampNeg (0 : Int32).toNatClampNeg (7 : Int32).toNatClampNeg)) (198 + 11) (va_cpy (I (7 + 3)) (I (198 + 11)) (0 : Int32).toNatClampNeg (0 : Int32).toNatClampNeg (7 : Int32).toNatClampNeg)) (198 + 12) (va_cpy (I (7 + 5)) (I (198 + 12)) (0 : Int32).toNatClampNeg (0 : Int32).toNatClampNeg (7 : Int32).toNatClampNeg)) (198 + 13) (va_cpy (I (7 + 6)) (I (198 + 13)) (0 : Int32).toNatClampNeg (0 : Int32).toNatClampNeg (7 : Int32).toNatClampNeg)) 198 0 0) 198 11 0) 198 1 0) 198 2 0) 198 12 0) 198 13 0, J))) rfl ?_
    refine zEv_k 2 (f' := (113, [some (.ref 198), some (.ref 7), some (.int 0)], [], (zS0, zu R 198 10 (some 7), zu (zu (zu (zu (zu (zu (zrow (zrow (zrow (zrow (zu (zu I 198 3 (I 7 1)) 198 4 (I 7 0)) (198 + 10) (va_cpy (I (7 + 1)) (I (198 + 10)) (0 : Int32).toNatClampNeg (0 : Int32).toNatClampNeg (7 : Int32).toNatClampNeg)) (198 + 11) (va_cpy (I (7 + 3)) (I (198 + 11)) (0 : Int32).toNatClampNeg (0 : Int32).toNatClampNeg (7 : Int32).toNatClampNeg)) (198 + 12) (va_cpy (I (7 + 5)) (I (198 + 12)) (0 : Int32).toNatClampNeg (0 : Int32).toNatClampNeg (7 : Int32).toNatClampNeg)) (198 + 13) (va_cpy (I (7 + 6)) (I (198 + 13)) (0 : Int32).toNatClampNeg (0 : Int32).toNatClampNeg (7 : Int32).toNatClampNeg)) 198 0 0) 198 11 0) 198 1 0) 198 2 0) 198 12 0) 198 13 0, J))) rfl ?_
    exact k1
  · refine zEv_k 9 (f' := (15, [some (.ref 166), some (.ref 22), none], [.ref 22, .ref 166], (zS0, zu R 166 10 (some 22), zu I 166 3 (I 22 1), J))) rfl ?_
    refine zEv_k 3 (f' := (22, [some (.ref 166), some (.ref 22), none], [.ref 22], (zS0, zu R 166 10 (some 22), zu (zu I 166 3 (I 22 1)) 166 4 (I 22 0), J))) rfl ?_
    refine zEv_gr rfl rfl rfl (by decide) ((zRok_u hR rfl) (22) 3 (22 + 1) rfl) ?_
    refine zEv_k 2 (f' := (27, [some (.ref 166), some (.ref 22), none], [.ref 166, .int 0, .ref (22 + 1)], (zS0, zu R 166 10 (some 22), zu (zu I 166 3 (I 22 1)) 166 4 (I 22 0), J))) rfl ?_
    refine zEv_gr rfl rfl rfl (by decide) ((zRok_u hR rfl) (166) 16 (166 + 10) rfl) ?_
    refine zEv_k 2 (f' := (33, [some (.ref 166), some (.ref 22), none], [.int 7, .int 0, .ref (166 + 10), .int 0, .ref (22 + 1)], (zS0, zu R 166 10 (some 22), zu (zu I 166 3 (I 22 1)) 166 4 (I 22 0), J))) rfl ?_
    refine zEv_cp rfl rfl rfl (by decide) (by decide) (by decide) (by unfold zcpok; decide) (by decide) ?_
    refine zEv_k 1 (f' := (37, [some (.ref 166), some (.ref 22), none], [.ref 22], (zS0, zu R 166 10 (some 22), zrow (zu (zu I 166 3 (I 22 1)) 166 4 (I 22 0)) (166 + 10) (va_cpy (I (22 + 1)) (I (166 + 10)) (0 : Int32).toNatClampNeg (0 : Int32).toNatClampNeg (7 : Int32).toNatClampNeg), J))) rfl ?_
    refine zEv_gr rfl rfl rfl (by decide) ((zRok_u hR rfl) (22) 5 (22 + 3) rfl) ?_
    refine zEv_k 2 (f' := (42, [some (.ref 166), some (.ref 22), none], [.ref 166, .int 0, .ref (22 + 3)], (zS0, zu R 166 10 (some 22), zrow (zu (zu I 166 3 (I 22 1)) 166 4 (I 22 0)) (166 + 10) (va_cpy (I (22 + 1)) (I (166 + 10)) (0 : Int32).toNatClampNeg (0 : Int32).toNatClampNeg (7 : Int32).toNatClampNeg), J))) rfl ?_
    refine zEv_gr rfl rfl rfl (by decide) ((zRok_u hR rfl) (166) 17 (166 + 11) rfl) ?_
    refine zEv_k 2 (f' := (48, [some (.ref 166), some (.ref 22), none], [.int 7, .int 0, .ref (166 + 11), .int 0, .ref (22 + 3)], (zS0, zu R 166 10 (some 22), zrow (zu (zu I 166 3 (I 22 1)) 166 4 (I 22 0)) (166 + 10) (va_cpy (I (22 + 1)) (I (166 + 10)) (0 : Int32).toNatClampNeg (0 : Int32).toNatClampNeg (7 : Int32).toNatClampNeg), J))) rfl ?_
    refine zEv_cp rfl rfl rfl (by decide) (by decide) (by decide) (by unfold zcpok; decide) (by decide) ?_
    refine zEv_k 1 (f' := (52, [some (.ref 166), some (.ref 22), none], [.ref 22], (zS0, zu R 166 10 (some 22), zrow (zrow (zu (zu I 166 3 (I 22 1)) 166 4 (I 22 0)) (166 + 10) (va_cpy (I (22 + 1)) (I (166 + 10)) (0 : Int32).toNatClampNeg (0 : Int32).toNatClampNeg (7 : Int32).toNatClampNeg)) (166 + 11) (va_cpy (I (22 + 3)) (I (166 + 11)) (0 : Int32).toNatClampNeg (0 : Int32).toNatClampNeg (7 : Int32).toNatClampNeg), J))) rfl ?_
    refine zEv_gr rfl rfl rfl (by decide) ((zRok_u hR rfl) (22) 7 (22 + 5) rfl) ?_
    refine zEv_k 2 (f' := (57, [some (.ref 166), some (.ref 22), none], [.ref 166, .int 0, .ref (22 + 5)], (zS0, zu R 166 10 (some 22), zrow (zrow (zu (zu I 166 3 (I 22 1)) 166 4 (I 22 0)) (166 + 10) (va_cpy (I (22 + 1)) (I (166 + 10)) (0 : Int32).toNatClampNeg (0 : Int32).toNatClampNeg (7 : Int32).toNatClampNeg)) (166 + 11) (va_cpy (I (22 + 3)) (I (166 + 11)) (0 : Int32).toNatClampNeg (0 : Int32).toNatClampNeg (7 : Int32).toNatClampNeg), J))) rfl ?_
    refine zEv_gr rfl rfl rfl (by decide) ((zRok_u hR rfl) (166) 18 (166 + 12) rfl) ?_
    refine zEv_k 2 (f' := (63, [some (.ref 166), some (.ref 22), none], [.int 7, .int 0, .ref (166 + 12), .int 0, .ref (22 + 5)], (zS0, zu R 166 10 (some 22), zrow (zrow (zu (zu I 166 3 (I 22 1)) 166 4 (I 22 0)) (166 + 10) (va_cpy (I (22 + 1)) (I (166 + 10)) (0 : Int32).toNatClampNeg (0 : Int32).toNatClampNeg (7 : Int32).toNatClampNeg)) (166 + 11) (va_cpy (I (22 + 3)) (I (166 + 11)) (0 : Int32).toNatClampNeg (0 : Int32).toNatClampNeg (7 : Int32).toNatClampNeg), J))) rfl ?_
    refine zEv_cp rfl rfl rfl (by decide) (by decide) (by decide) (by unfold zcpok; decide) (by decide) ?_
    refine zEv_k 1 (f' := (67, [some (.ref 166), some (.ref 22), none], [.ref 22], (zS0, zu R 166 10 (some 22), zrow (zrow (zrow (zu (zu I 166 3 (I 22 1)) 166 4 (I 22 0)) (166 + 10) (va_cpy (I (22 + 1)) (I (166 + 10)) (0 : Int32).toNatClampNeg (0 : Int32).toNatClampNeg (7 : Int32).toNatClampNeg)) (166 + 11) (va_cpy (I (22 + 3)) (I (166 + 11)) (0 : Int32).toNatClampNeg (0 : Int32).toNatClampNeg (7 : Int32).toNatClampNeg)) (166 + 12) (va_cpy (I (22 + 5)) (I (166 + 12)) (0 : Int32).toNatClampNeg (0 : Int32).toNatClampNeg (7 : Int32).toNatClampNeg), J))) rfl ?_
    refine zEv_gr rfl rfl rfl (by decide) ((zRok_u hR rfl) (22) 8 (22 + 6) rfl) ?_
    refine zEv_k 2 (f' := (72, [some (.ref 166), some (.ref 22), none], [.ref 166, .int 0, .ref (22 + 6)], (zS0, zu R 166 10 (some 22), zrow (zrow (zrow (zu (zu I 166 3 (I 22 1)) 166 4 (I 22 0)) (166 + 10) (va_cpy (I (22 + 1)) (I (166 + 10)) (0 : Int32).toNatClampNeg (0 : Int32).toNatClampNeg (7 : Int32).toNatClampNeg)) (166 + 11) (va_cpy (I (22 + 3)) (I (166 + 11)) (0 : Int32).toNatClampNeg (0 : Int32).toNatClampNeg (7 : Int32).toNatClampNeg)) (166 + 12) (va_cpy (I (22 + 5)) (I (166 + 12)) (0 : Int32).toNatClampNeg (0 : Int32).toNatClampNeg (7 : Int32).toNatClampNeg), J))) rfl ?_
    refine zEv_gr rfl rfl rfl (by decide) ((zRok_u hR rfl) (166) 19 (166 + 13) rfl) ?_
    refine zEv_k 2 (f' := (78, [some (.ref 166), some (.ref 22), none], [.int 7, .int 0, .ref (166 + 13), .int 0, .ref (22 + 6)], (zS0, zu R 166 10 (some 22), zrow (zrow (zrow (zu (zu I 166 3 (I 22 1)) 166 4 (I 22 0)) (166 + 10) (va_cpy (I (22 + 1)) (I (166 + 10)) (0 : Int32).toNatClampNeg (0 : Int32).toNatClampNeg (7 : Int32).toNatClampNeg)) (166 + 11) (va_cpy (I (22 + 3)) (I (166 + 11)) (0 : Int32).toNatClampNeg (0 : Int32).toNatClampNeg (7 : Int32).toNatClampNeg)) (166 + 12) (va_cpy (I (22 + 5)) (I (166 + 12)) (0 : Int32).toNatClampNeg (0 : Int32).toNatClampNeg (7 : Int32).toNatClampNeg), J))) rfl ?_
    refine zEv_cp rfl rfl rfl (by decide) (by decide) (by decide) (by unfold zcpok; decide) (by decide) ?_
    refine zEv_k 9 (f' := (96, [some (.ref 166), some (.ref 22), none], [], (zS0, zu R 166 10 (some 22), zu (zu (zu (zrow (zrow (zrow (zrow (zu (zu I 166 3 (I 22 1)) 166 4 (I 22 0)) (166 + 10) (va_cpy (I (22 + 1)) (I (166 + 10)) (0 : Int32).toNatClampNeg (0 : Int32).toNatClampNeg (7 : Int32).toNatClampNeg)) (166 + 11) (va_cpy (I (22 + 3)) (I (166 + 11)) (0 : Int32).toNatClampNeg (0 : Int32).toNatClampNeg (7 : Int32).toNatClampNeg)) (166 + 12) (va_cpy (I (22 + 5)) (I (166 + 12)) (0 : Int32).toNatClampNeg (0 : Int32).toNatClampNeg (7 : Int32).toNatClampNeg)) (166 + 13) (va_cpy (I (22 + 6)) (I (166 + 13)) (0 : Int32).toNatClampNeg (0 : Int32).toNatClampNeg (7 : Int32).toNatClampNeg)) 166 0 0) 166 11 0) 166 1 0, J))) rfl ?_
    refine zEv_k 9 (f' := (111, [some (.ref 166), some (.ref 22), none], [], (zS0, zu R 166 10 (some 22), zu (zu (zu (zu (zu (zu (zrow (zrow (zrow (zrow (zu (zu I 166 3 (I 22 1)) 166 4 (I 22 0)) (166 + 10) (va_cpy (I (22 + 1)) (I (166 + 10)) (0 : Int32).toNatClampNeg (0 : Int32).toNatClampNeg (7 : Int32).toNatClampNeg)) (166 + 11) (va_cpy (I (22 + 3)) (I (166 + 11)) (0 : Int32).toNatClampNeg (0 : Int32).toNatClampNeg (7 : Int32).toNatClampNeg)) (166 + 12) (va_cpy (I (22 + 5)) (I (166 + 12)) (0 : Int32).toNatClampNeg (0 : Int32).toNatClampNeg (7 : Int32).toNatClampNeg)) (166 + 13) (va_cpy (I (22 + 6)) (I (166 + 13)) (0 : Int32).toNatClampNeg (0 : Int32).toNatClampNeg (7 : Int32).toNatClampNeg)) 166 0 0) 166 11 0) 166 1 0) 166 2 0) 166 12 0) 166 13 0, J))) rfl ?_
    refine zEv_k 2 (f' := (113, [some (.ref 166), some (.ref 22), some (.int 0)], [], (zS0, zu R 166 10 (some 22), zu (zu (zu (zu (zu (zu (zrow (zrow (zrow (zrow (zu (zu I 166 3 (I 22 1)) 166 4 (I 22 0)) (166 + 10) (va_cpy (I (22 + 1)) (I (166 + 10)) (0 : Int32).toNatClampNeg (0 : Int32).toNatClampNeg (7 : Int32).toNatClampNeg)) (166 + 11) (va_cpy (I (22 + 3)) (I (166 + 11)) (0 : Int32).toNatClampNeg (0 : Int32).toNatClampNeg (7 : Int32).toNatClampNeg)) (166 + 12) (va_cpy (I (22 + 5)) (I (166 + 12)) (0 : Int32).toNatClampNeg (0 : Int32).toNatClampNeg (7 : Int32).toNatClampNeg)) (166 + 13) (va_cpy (I (22 + 6)) (I (166 + 13)) (0 : Int32).toNatClampNeg (0 : Int32).toNatClampNeg (7 : Int32).toNatClampNeg)) 166 0 0) 166 11 0) 166 1 0) 166 2 0) 166 12 0) 166 13 0, J))) rfl ?_
    exact k1
  · refine zEv_k 9 (f' := (15, [some (.ref 198), some (.ref 22), none], [.ref 22, .ref 198], (zS0, zu R 198 10 (some 22), zu I 198 3 (I 22 1), J))) rfl ?_
    refine zEv_k 3 (f' := (22, [some (.ref 198), some (.ref 22), none], [.ref 22], (zS0, zu R 198 10 (some 22), zu (zu I 198 3 (I 22 1)) 198 4 (I 22 0), J))) rfl ?_
    refine zEv_gr rfl rfl rfl (by decide) ((zRok_u hR rfl) (22) 3 (22 + 1) rfl) ?_
    refine zEv_k 2 (f' := (27, [some (.ref 198), some (.ref 22), none], [.ref 198, .int 0, .ref (22 + 1)], (zS0, zu R 198 10 (some 22), zu (zu I 198 3 (I 22 1)) 198 4 (I 22 0), J))) rfl ?_
    refine zEv_gr rfl rfl rfl (by decide) ((zRok_u hR rfl) (198) 16 (198 + 10) rfl) ?_
    refine zEv_k 2 (f' := (33, [some (.ref 198), some (.ref 22), none], [.int 7, .int 0, .ref (198 + 10), .int 0, .ref (22 + 1)], (zS0, zu R 198 10 (some 22), zu (zu I 198 3 (I 22 1)) 198 4 (I 22 0), J))) rfl ?_
    refine zEv_cp rfl rfl rfl (by decide) (by decide) (by decide) (by unfold zcpok; decide) (by decide) ?_
    refine zEv_k 1 (f' := (37, [some (.ref 198), some (.ref 22), none], [.ref 22], (zS0, zu R 198 10 (some 22), zrow (zu (zu I 198 3 (I 22 1)) 198 4 (I 22 0)) (198 + 10) (va_cpy (I (22 + 1)) (I (198 + 10)) (0 : Int32).toNatClampNeg (0 : Int32).toNatClampNeg (7 : Int32).toNatClampNeg), J))) rfl ?_
    refine zEv_gr rfl rfl rfl (by decide) ((zRok_u hR rfl) (22) 5 (22 + 3) rfl) ?_
    refine zEv_k 2 (f' := (42, [some (.ref 198), some (.ref 22), none], [.ref 198, .int 0, .ref (22 + 3)], (zS0, zu R 198 10 (some 22), zrow (zu (zu I 198 3 (I 22 1)) 198 4 (I 22 0)) (198 + 10) (va_cpy (I (22 + 1)) (I (198 + 10)) (0 : Int32).toNatClampNeg (0 : Int32).toNatClampNeg (7 : Int32).toNatClampNeg), J))) rfl ?_
    refine zEv_gr rfl rfl rfl (by decide) ((zRok_u hR rfl) (198) 17 (198 + 11) rfl) ?_
    refine zEv_k 2 (f' := (48, [some (.ref 198), some (.ref 22), none], [.int 7, .int 0, .ref (198 + 11), .int 0, .ref (22 + 3)], (zS0, zu R 198 10 (some 22), zrow (zu (zu I 198 3 (I 22 1)) 198 4 (I 22 0)) (198 + 10) (va_cpy (I (22 + 1)) (I (198 + 10)) (0 : Int32).toNatClampNeg (0 : Int32).toNatClampNeg (7 : Int32).toNatClampNeg), J))) rfl ?_
    refine zEv_cp rfl rfl rfl (by decide) (by decide) (by decide) (by unfold zcpok; decide) (by decide) ?_
    refine zEv_k 1 (f' := (52, [some (.ref 198), some (.ref 22), none], [.ref 22], (zS0, zu R 198 10 (some 22), zrow (zrow (zu (zu I 198 3 (I 22 1)) 198 4 (I 22 0)) (198 + 10) (va_cpy (I (22 + 1)) (I (198 + 10)) (0 : Int32).toNatClampNeg (0 : Int32).toNatClampNeg (7 : Int32).toNatClampNeg)) (198 + 11) (va_cpy (I (22 + 3)) (I (198 + 11)) (0 : Int32).toNatClampNeg (0 : Int32).toNatClampNeg (7 : Int32).toNatClampNeg), J))) rfl ?_
    refine zEv_gr rfl rfl rfl (by decide) ((zRok_u hR rfl) (22) 7 (22 + 5) rfl) ?_
    refine zEv_k 2 (f' := (57, [some (.ref 198), some (.ref 22), none], [.ref 198, .int 0, .ref (22 + 5)], (zS0, zu R 198 10 (some 22), zrow (zrow (zu (zu I 198 3 (I 22 1)) 198 4 (I 22 0)) (198 + 10) (va_cpy (I (22 + 1)) (I (198 + 10)) (0 : Int32).toNatClampNeg (0 : Int32).toNatClampNeg (7 : Int32).toNatClampNeg)) (198 + 11) (va_cpy (I (22 + 3)) (I (198 + 11)) (0 : Int32).toNatClampNeg (0 : Int32).toNatClampNeg (7 : Int32).toNatClampNeg), J))) rfl ?_
    refine zEv_gr rfl rfl rfl (by decide) ((zRok_u hR rfl) (198) 18 (198 + 12) rfl) ?_
    refine zEv_k 2 (f' := (63, [some (.ref 198), some (.ref 22), none], [.int 7, .int 0, .ref (198 + 12), .int 0, .ref (22 + 5)], (zS0, zu R 198 10 (some 22), zrow (zrow (zu (zu I 198 3 (I 22 1)) 198 4 (I 22 0)) (198 + 10) (va_cpy (I (22 + 1)) (I (198 + 10)) (0 : Int32).toNatClampNeg (0 : Int32).toNatClampNeg (7 : Int32).toNatClampNeg)) (198 + 11) (va_cpy (I (22 + 3)) (I (198 + 11)) (0 : Int32).toNatClampNeg (0 : Int32).toNatClampNeg (7 : Int32).toNatClampNeg), J))) rfl ?_
    refine zEv_cp rfl rfl rfl (by decide) (by decide) (by decide) (by unfold zcpok; decide) (by decide) ?_
    refine zEv_k 1 (f' := (67, [some (.ref 198), some (.ref 22), none], [.ref 22], (zS0, zu R 198 10 (some 22), zrow (zrow (zrow (zu (zu I 198 3 (I 22 1)) 198 4 (I 22 0)) (198 + 10) (va_cpy (I (22 + 1)) (I (198 + 10)) (0 : Int32).toNatClampNeg (0 : Int32).toNatClampNeg (7 : Int32).toNatClampNeg)) (198 + 11) (va_cpy (I (22 + 3)) (I (198 + 11)) (0 : Int32).toNatClampNeg (0 : Int32).toNatClampNeg (7 : Int32).toNatClampNeg)) (198 + 12) (va_cpy (I (22 + 5)) (I (198 + 12)) (0 : Int32).toNatClampNeg (0 : Int32).toNatClampNeg (7 : Int32).toNatClampNeg), J))) rfl ?_
    refine zEv_gr rfl rfl rfl (by decide) ((zRok_u hR rfl) (22) 8 (22 + 6) rfl) ?_
    refine zEv_k 2 (f' := (72, [some (.ref 198), some (.ref 22), none], [.ref 198, .int 0, .ref (22 + 6)], (zS0, zu R 198 10 (some 22), zrow (zrow (zrow (zu (zu I 198 3 (I 22 1)) 198 4 (I 22 0)) (198 + 10) (va_cpy (I (22 + 1)) (I (198 + 10)) (0 : Int32).toNatClampNeg (0 : Int32).toNatClampNeg (7 : Int32).toNatClampNeg)) (198 + 11) (va_cpy (I (22 + 3)) (I (198 + 11)) (0 : Int32).toNatClampNeg (0 : Int32).toNatClampNeg (7 : Int32).toNatClampNeg)) (198 + 12) (va_cpy (I (22 + 5)) (I (198 + 12)) (0 : Int32).toNatClampNeg (0 : Int32).toNatClampNeg (7 : Int32).toNatClampNeg), J))) rfl ?_
    refine zEv_gr rfl rfl rfl (by decide) ((zRok_u hR rfl) (198) 19 (198 + 13) rfl) ?_
    refine zEv_k 2 (f' := (78, [some (.ref 198), some (.ref 22), none], [.int 7, .int 0, .ref (198 + 13), .int 0, .ref (22 + 6)], (zS0, zu R 198 10 (some 22), zrow (zrow (zrow (zu (zu I 198 3 (I 22 1)) 198 4 (I 22 0)) (198 + 10) (va_cpy (I (22 + 1)) (I (198 + 10)) (0 : Int32).toNatClampNeg (0 : Int32).toNatClampNeg (7 : Int32).toNatClampNeg)) (198 + 11) (va_cpy (I (22 + 3)) (I (198 + 11)) (0 : Int32).toNatClampNeg (0 : Int32).toNatClampNeg (7 : Int32).toNatClampNeg)) (198 + 12) (va_cpy (I (22 + 5)) (I (198 + 12)) (0 : Int32).toNatClampNeg (0 : Int32).toNatClampNeg (7 : Int32).toNatClampNeg), J))) rfl ?_
    refine zEv_cp rfl rfl rfl (by decide) (by decide) (by decide) (by unfold zcpok; decide) (by decide) ?_
    refine zEv_k 9 (f' := (96, [some (.ref 198), some (.ref 22), none], [], (zS0, zu R 198 10 (some 22), zu (zu (zu (zrow (zrow (zrow (zrow (zu (zu I 198 3 (I 22 1)) 198 4 (I 22 0)) (198 + 10) (va_cpy (I (22 + 1)) (I (198 + 10)) (0 : Int32).toNatClampNeg (0 : Int32).toNatClampNeg (7 : Int32).toNatClampNeg)) (198 + 11) (va_cpy (I (22 + 3)) (I (198 + 11)) (0 : Int32).toNatClampNeg (0 : Int32).toNatClampNeg (7 : Int32).toNatClampNeg)) (198 + 12) (va_cpy (I (22 + 5)) (I (198 + 12)) (0 : Int32).toNatClampNeg (0 : Int32).toNatClampNeg (7 : Int32).toNatClampNeg)) (198 + 13) (va_cpy (I (22 + 6)) (I (198 + 13)) (0 : Int32).toNatClampNeg (0 : Int32).toNatClampNeg (7 : Int32).toNatClampNeg)) 198 0 0) 198 11 0) 198 1 0, J))) rfl ?_
    refine zEv_k 9 (f' := (111, [some (.ref 198), some (.ref 22), none], [], (zS0, zu R 198 10 (some 22), zu (zu (zu (zu (zu (zu (zrow (zrow (zrow (zrow (zu (zu I 198 3 (I 22 1)) 198 4 (I 22 0)) (198 + 10) (va_cpy (I (22 + 1)) (I (198 + 10)) (0 : Int32).toNatClampNeg (0 : Int32).toNatClampNeg (7 : Int32).toNatClampNeg)) (198 + 11) (va_cpy (I (22 + 3)) (I (198 + 11)) (0 : Int32).toNatClampNeg (0 : Int32).toNatClampNeg (7 : Int32).toNatClampNeg)) (198 + 12) (va_cpy (I (22 + 5)) (I (198 + 12)) (0 : Int32).toNatClampNeg (0 : Int32).toNatClampNeg (7 : Int32).toNatClampNeg)) (198 + 13) (va_cpy (I (22 + 6)) (I (198 + 13)) (0 : Int32).toNatClampNeg (0 : Int32).toNatClampNeg (7 : Int32).toNatClampNeg)) 198 0 0) 198 11 0) 198 1 0) 198 2 0) 198 12 0) 198 13 0, J))) rfl ?_
    refine zEv_k 2 (f' := (113, [some (.ref 198), some (.ref 22), some (.int 0)], [], (zS0, zu R 198 10 (some 22), zu (zu (zu (zu (zu (zu (zrow (zrow (zrow (zrow (zu (zu I 198 3 (I 22 1)) 198 4 (I 22 0)) (198 + 10) (va_cpy (I (22 + 1)) (I (198 + 10)) (0 : Int32).toNatClampNeg (0 : Int32).toNatClampNeg (7 : Int32).toNatClampNeg)) (198 + 11) (va_cpy (I (22 + 3)) (I (198 + 11)) (0 : Int32).toNatClampNeg (0 : Int32).toNatClampNeg (7 : Int32).toNatClampNeg)) (198 + 12) (va_cpy (I (22 + 5)) (I (198 + 12)) (0 : Int32).toNatClampNeg (0 : Int32).toNatClampNeg (7 : Int32).toNatClampNeg)) (198 + 13) (va_cpy (I (22 + 6)) (I (198 + 13)) (0 : Int32).toNatClampNeg (0 : Int32).toNatClampNeg (7 : Int32).toNatClampNeg)) 198 0 0) 198 11 0) 198 1 0) 198 2 0) 198 12 0) 198 13 0, J))) rfl ?_
    exact k1
theorem b_70_113 {X : zX} {d : Nat} {R : zR} {I : zI} {J : zJ} {r : zA} {c : Nat} {o : Nat} {x2 : Int32} (ho : (c = 7 ∧ o = 166) ∨ (c = 7 ∧ o = 198) ∨ (c = 22 ∧ o = 166) ∨ (c = 22 ∧ o = 198)) (k1 : 50 < x2 → zEv X d zm_70 (132, [some (.ref o), some (.ref c), some (.int x2)], [], (zS0, R, I, J)) r) (k2 : ¬ (50 < x2) → zEv X d zm_70 (119, [some (.ref o), some (.ref c), some (.int x2)], [], (zS0, R, I, J)) r) : zEv X d zm_70 (113, [some (.ref o), some (.ref c), some (.int x2)], [], (zS0, R, I, J)) r := by
  rcases ho with ⟨rfl, rfl⟩ | ⟨rfl, rfl⟩ | ⟨rfl, rfl⟩ | ⟨rfl, rfl⟩
  · refine zEv_k 3 (f' := (if 50 < x2 then 132 else 119, [some (.ref 166), some (.ref 7), some (.int x2)], [], (zS0, R, I, J))) rfl ?_
    exact zEv_if k1 k2
  · refine zEv_k 3 (f' := (if 50 < x2 then 132 else 119, [some (.ref 198), some (.ref 7), some (.int x2)], [], (zS0, R, I, J))) rfl ?_
    exact zEv_if k1 k2
  · refine zEv_k 3 (f' := (if 50 < x2 then 132 else 119, [some (.ref 166), some (.ref 22), some (.int x2)], [], (zS0, R, I, J))) rfl ?_
    exact zEv_if k1 k2
  · refine zEv_k 3 (f' := (if 50 < x2 then 132 else 119, [some (.ref 198), some (.ref 22), some (.int x2)], [], (zS0, R, I, J))) rfl ?_
    exact zEv_if k1 k2
theorem b_70_119 {X : zX} {d : Nat} {R : zR} {I : zI} {J : zJ} {r : zA} {c : Nat} {o : Nat} {x2 : Int32} (hR : zRok R) (ho : (c = 7 ∧ o = 166) ∨ (c = 7 ∧ o = 198) ∨ (c = 22 ∧ o = 166) ∨ (c = 22 ∧ o = 198)) (h125 : zin x2 51) (k1 : zEv X d zm_70 (113, [some (.ref o), some (.ref c), some (.int (x2 + 1))], [], (zS0, R, zu I (o + 1) (x2).toNatClampNeg 0, J)) r) : zEv X d zm_70 (119, [some (.ref o), some (.ref c), some (.int x2)], [], (zS0, R, I, J)) r := by
  rcases ho with ⟨rfl, rfl⟩ | ⟨rfl, rfl⟩ | ⟨rfl, rfl⟩ | ⟨rfl, rfl⟩
  · refine zEv_k 1 (f' := (120, [some (.ref 166), some (.ref 7), some (.int x2)], [.ref 166], (zS0, R, I, J))) rfl ?_
    refine zEv_gr rfl rfl rfl (by decide) (hR (166) 5 (166 + 1) rfl) ?_
    refine zEv_k 2 (f' := (125, [some (.ref 166), some (.ref 7), some (.int x2)], [.int 0, .int x2, .ref (166 + 1)], (zS0, R, I, J))) rfl ?_
    refine zEv_ias rfl rfl (by decide) h125 ?_
    refine zEv_k 2 (f' := (113, [some (.ref 166), some (.ref 7), some (.int (x2 + 1))], [], (zS0, R, zu I (166 + 1) (x2).toNatClampNeg 0, J))) rfl ?_
    exact k1
  · refine zEv_k 1 (f' := (120, [some (.ref 198), some (.ref 7), some (.int x2)], [.ref 198], (zS0, R, I, J))) rfl ?_
    refine zEv_gr rfl rfl rfl (by decide) (hR (198) 5 (198 + 1) rfl) ?_
    refine zEv_k 2 (f' := (125, [some (.ref 198), some (.ref 7), some (.int x2)], [.int 0, .int x2, .ref (198 + 1)], (zS0, R, I, J))) rfl ?_
    refine zEv_ias rfl rfl (by decide) h125 ?_
    refine zEv_k 2 (f' := (113, [some (.ref 198), some (.ref 7), some (.int (x2 + 1))], [], (zS0, R, zu I (198 + 1) (x2).toNatClampNeg 0, J))) rfl ?_
    exact k1
  · refine zEv_k 1 (f' := (120, [some (.ref 166), some (.ref 22), some (.int x2)], [.ref 166], (zS0, R, I, J))) rfl ?_
    refine zEv_gr rfl rfl rfl (by decide) (hR (166) 5 (166 + 1) rfl) ?_
    refine zEv_k 2 (f' := (125, [some (.ref 166), some (.ref 22), some (.int x2)], [.int 0, .int x2, .ref (166 + 1)], (zS0, R, I, J))) rfl ?_
    refine zEv_ias rfl rfl (by decide) h125 ?_
    refine zEv_k 2 (f' := (113, [some (.ref 166), some (.ref 22), some (.int (x2 + 1))], [], (zS0, R, zu I (166 + 1) (x2).toNatClampNeg 0, J))) rfl ?_
    exact k1
  · refine zEv_k 1 (f' := (120, [some (.ref 198), some (.ref 22), some (.int x2)], [.ref 198], (zS0, R, I, J))) rfl ?_
    refine zEv_gr rfl rfl rfl (by decide) (hR (198) 5 (198 + 1) rfl) ?_
    refine zEv_k 2 (f' := (125, [some (.ref 198), some (.ref 22), some (.int x2)], [.int 0, .int x2, .ref (198 + 1)], (zS0, R, I, J))) rfl ?_
    refine zEv_ias rfl rfl (by decide) h125 ?_
    refine zEv_k 2 (f' := (113, [some (.ref 198), some (.ref 22), some (.int (x2 + 1))], [], (zS0, R, zu I (198 + 1) (x2).toNatClampNeg 0, J))) rfl ?_
    exact k1
theorem b_70_132 {X : zX} {d : Nat} {R : zR} {I : zI} {J : zJ} {c : Nat} {o : Nat} {x2 : Int32} (ho : (c = 7 ∧ o = 166) ∨ (c = 7 ∧ o = 198) ∨ (c = 22 ∧ o = 166) ∨ (c = 22 ∧ o = 198)) : zEv X d zm_70 (132, [some (.ref o), some (.ref c), some (.int x2)], [], (zS0, R, I, J)) (none, (zS0, R, zu (zu (zu (zu (zu I o 6 (-1)) o 14 (-1)) o 7 0) o 8 0) o 9 0, J)) := by
  rcases ho with ⟨rfl, rfl⟩ | ⟨rfl, rfl⟩ | ⟨rfl, rfl⟩ | ⟨rfl, rfl⟩
  · refine zEv_k 9 (f' := (147, [some (.ref 166), some (.ref 7), some (.int x2)], [], (zS0, R, zu (zu (zu I 166 6 (-1)) 166 14 (-1)) 166 7 0, J))) rfl ?_
    refine zEv_k 6 (f' := (157, [some (.ref 166), some (.ref 7), some (.int x2)], [], (zS0, R, zu (zu (zu (zu (zu I 166 6 (-1)) 166 14 (-1)) 166 7 0) 166 8 0) 166 9 0, J))) rfl ?_
    exact zEv_r rfl
  · refine zEv_k 9 (f' := (147, [some (.ref 198), some (.ref 7), some (.int x2)], [], (zS0, R, zu (zu (zu I 198 6 (-1)) 198 14 (-1)) 198 7 0, J))) rfl ?_
    refine zEv_k 6 (f' := (157, [some (.ref 198), some (.ref 7), some (.int x2)], [], (zS0, R, zu (zu (zu (zu (zu I 198 6 (-1)) 198 14 (-1)) 198 7 0) 198 8 0) 198 9 0, J))) rfl ?_
    exact zEv_r rfl
  · refine zEv_k 9 (f' := (147, [some (.ref 166), some (.ref 22), some (.int x2)], [], (zS0, R, zu (zu (zu I 166 6 (-1)) 166 14 (-1)) 166 7 0, J))) rfl ?_
    refine zEv_k 6 (f' := (157, [some (.ref 166), some (.ref 22), some (.int x2)], [], (zS0, R, zu (zu (zu (zu (zu I 166 6 (-1)) 166 14 (-1)) 166 7 0) 166 8 0) 166 9 0, J))) rfl ?_
    exact zEv_r rfl
  · refine zEv_k 9 (f' := (147, [some (.ref 198), some (.ref 22), some (.int x2)], [], (zS0, R, zu (zu (zu I 198 6 (-1)) 198 14 (-1)) 198 7 0, J))) rfl ?_
    refine zEv_k 6 (f' := (157, [some (.ref 198), some (.ref 22), some (.int x2)], [], (zS0, R, zu (zu (zu (zu (zu I 198 6 (-1)) 198 14 (-1)) 198 7 0) 198 8 0) 198 9 0, J))) rfl ?_
    exact zEv_r rfl
theorem b_71_0 {X : zX} {d : Nat} {R : zR} {I : zI} {J : zJ} {r : zA} {e : Nat} {o : Nat} {x2 : Int32} (ho : (e = 15 ∧ o = 166) ∨ (e = 15 ∧ o = 198) ∨ (e = 30 ∧ o = 166) ∨ (e = 30 ∧ o = 198)) (k1 : zEv X d zm_71 (2, [some (.ref o), some (.ref e), some (.int x2), some (.int 0)], [], (zS0, R, I, J)) r) : zEv X d zm_71 (0, [some (.ref o), some (.ref e), some (.int x2), none], [], (zS0, R, I, J)) r := by
  rcases ho with ⟨rfl, rfl⟩ | ⟨rfl, rfl⟩ | ⟨rfl, rfl⟩ | ⟨rfl, rfl⟩
  · refine zEv_k 2 (f' := (2, [some (.ref 166), some (.ref 15), some (.int x2), some (.int 0)], [], (zS0, R, I, J))) rfl ?_
    exact k1
  · refine zEv_k 2 (f' := (2, [some (.ref 198), some (.ref 15), some (.int x2), some (.int 0)], [], (zS0, R, I, J))) rfl ?_
    exact k1
  · refine zEv_k 2 (f' := (2, [some (.ref 166), some (.ref 30), some (.int x2), some (.int 0)], [], (zS0, R, I, J))) rfl ?_
    exact k1
  · refine zEv_k 2 (f' := (2, [some (.ref 198), some (.ref 30), some (.int x2), some (.int 0)], [], (zS0, R, I, J))) rfl ?_
    exact k1
theorem b_71_2 {X : zX} {d : Nat} {R : zR} {I : zI} {J : zJ} {r : zA} {e : Nat} {o : Nat} {x2 : Int32} {x3 : Int32} (ho : (e = 15 ∧ o = 166) ∨ (e = 15 ∧ o = 198) ∨ (e = 30 ∧ o = 166) ∨ (e = 30 ∧ o = 198)) (k1 : x2 ≤ x3 → zEv X d zm_71 (48, [some (.ref o), some (.ref e), some (.int x2), some (.int x3)], [], (zS0, R, I, J)) r) (k2 : ¬ (x2 ≤ x3) → zEv X d zm_71 (7, [some (.ref o), some (.ref e), some (.int x2), some (.int x3)], [], (zS0, R, I, J)) r) : zEv X d zm_71 (2, [some (.ref o), some (.ref e), some (.int x2), some (.int x3)], [], (zS0, R, I, J)) r := by
  rcases ho with ⟨rfl, rfl⟩ | ⟨rfl, rfl⟩ | ⟨rfl, rfl⟩ | ⟨rfl, rfl⟩
  · refine zEv_k 3 (f' := (if x2 ≤ x3 then 48 else 7, [some (.ref 166), some (.ref 15), some (.int x2), some (.int x3)], [], (zS0, R, I, J))) rfl ?_
    exact zEv_if k1 k2
  · refine zEv_k 3 (f' := (if x2 ≤ x3 then 48 else 7, [some (.ref 198), some (.ref 15), some (.int x2), some (.int x3)], [], (zS0, R, I, J))) rfl ?_
    exact zEv_if k1 k2
  · refine zEv_k 3 (f' := (if x2 ≤ x3 then 48 else 7, [some (.ref 166), some (.ref 30), some (.int x2), some (.int x3)], [], (zS0, R, I, J))) rfl ?_
    exact zEv_if k1 k2
  · refine zEv_k 3 (f' := (if x2 ≤ x3 then 48 else 7, [some (.ref 198), some (.ref 30), some (.int x2), some (.int x3)], [], (zS0, R, I, J))) rfl ?_
    exact zEv_if k1 k2
theorem b_71_7 {X : zX} {d : Nat} {R : zR} {I : zI} {J : zJ} {r : zA} {e : Nat} {o : Nat} {x2 : Int32} {x3 : Int32} (ho : (e = 15 ∧ o = 166) ∨ (e = 15 ∧ o = 198) ∨ (e = 30 ∧ o = 166) ∨ (e = 30 ∧ o = 198)) (k1 : (I e 0) ≤ x3 → zEv X d zm_71 (48, [some (.ref o), some (.ref e), some (.int x2), some (.int x3)], [], (zS0, R, I, J)) r) (k2 : ¬ ((I e 0) ≤ x3) → zEv X d zm_71 (15, [some (.ref o), some (.ref e), some (.int x2), some (.int x3)], [], (zS0, R, I, J)) r) : zEv X d zm_71 (7, [some (.ref o), some (.ref e), some (.int x2), some (.int x3)], [], (zS0, R, I, J)) r := by
  rcases ho with ⟨rfl, rfl⟩ | ⟨rfl, rfl⟩ | ⟨rfl, rfl⟩ | ⟨rfl, rfl⟩
  · refine zEv_k 4 (f' := (if (I 15 0) ≤ x3 then 48 else 15, [some (.ref 166), some (.ref 15), some (.int x2), some (.int x3)], [], (zS0, R, I, J))) rfl ?_
    exact zEv_if k1 k2
  · refine zEv_k 4 (f' := (if (I 15 0) ≤ x3 then 48 else 15, [some (.ref 198), some (.ref 15), some (.int x2), some (.int x3)], [], (zS0, R, I, J))) rfl ?_
    exact zEv_if k1 k2
  · refine zEv_k 4 (f' := (if (I 30 0) ≤ x3 then 48 else 15, [some (.ref 166), some (.ref 30), some (.int x2), some (.int x3)], [], (zS0, R, I, J))) rfl ?_
    exact zEv_if k1 k2
  · refine zEv_k 4 (f' := (if (I 30 0) ≤ x3 then 48 else 15, [some (.ref 198), some (.ref 30), some (.int x2), some (.int x3)], [], (zS0, R, I, J))) rfl ?_
    exact zEv_if k1 k2
theorem b_71_15 {X : zX} {d : Nat} {R : zR} {I : zI} {J : zJ} {r : zA} {e : Nat} {o : Nat} {x2 : Int32} {x3 : Int32} {w : Int32} {R' : zR} {I' : zI} {J' : zJ} (hR : zRok R) (ho : (e = 15 ∧ o = 166) ∨ (e = 15 ∧ o = 198) ∨ (e = 30 ∧ o = 166) ∨ (e = 30 ∧ o = 198)) (h21 : zin x3 40) (h27 : zin x3 40) (h33 : zin x3 40) (hc : zEv X d zm_72 (0, [some (.ref o), some (.int (I (e + 1) (x3).toNatClampNeg)), some (.int (I (e + 2) (x3).toNatClampNeg)), some (.int (I (e + 3) (x3).toNatClampNeg))], [], (zS0, R, I, J)) (some (.int w), (zS0, R', I', J'))) (k1 : zEv X (d + 1) zm_71 (37, [some (.ref o), some (.ref e), some (.int x2), some (.int x3)], [.int w], (zS0, R', I', J')) r) : zEv X (d + 1) zm_71 (15, [some (.ref o), some (.ref e), some (.int x2), some (.int x3)], [], (zS0, R, I, J)) r := by
  rcases ho with ⟨rfl, rfl⟩ | ⟨rfl, rfl⟩ | ⟨rfl, rfl⟩ | ⟨rfl, rfl⟩
  · refine zEv_k 2 (f' := (17, [some (.ref 166), some (.ref 15), some (.int x2), some (.int x3)], [.ref 15, .ref 166], (zS0, R, I, J))) rfl ?_
    refine zEv_gr rfl rfl rfl (by decide) (hR (15) 1 (15 + 1) rfl) ?_
    refine zEv_k 1 (f' := (21, [some (.ref 166), some (.ref 15), some (.int x2), some (.int x3)], [.int x3, .ref (15 + 1), .ref 166], (zS0, R, I, J))) rfl ?_
    refine zEv_ial rfl rfl (by decide) h21 ?_
    refine zEv_k 1 (f' := (23, [some (.ref 166), some (.ref 15), some (.int x2), some (.int x3)], [.ref 15, .int (I (15 + 1) (x3).toNatClampNeg), .ref 166], (zS0, R, I, J))) rfl ?_
    refine zEv_gr rfl rfl rfl (by decide) (hR (15) 2 (15 + 2) rfl) ?_
    refine zEv_k 1 (f' := (27, [some (.ref 166), some (.ref 15), some (.int x2), some (.int x3)], [.int x3, .ref (15 + 2), .int (I (15 + 1) (x3).toNatClampNeg), .ref 166], (zS0, R, I, J))) rfl ?_
    refine zEv_ial rfl rfl (by decide) h27 ?_
    refine zEv_k 1 (f' := (29, [some (.ref 166), some (.ref 15), some (.int x2), some (.int x3)], [.ref 15, .int (I (15 + 2) (x3).toNatClampNeg), .int (I (15 + 1) (x3).toNatClampNeg), .ref 166], (zS0, R, I, J))) rfl ?_
    refine zEv_gr rfl rfl rfl (by decide) (hR (15) 3 (15 + 3) rfl) ?_
    refine zEv_k 1 (f' := (33, [some (.ref 166), some (.ref 15), some (.int x2), some (.int x3)], [.int x3, .ref (15 + 3), .int (I (15 + 2) (x3).toNatClampNeg), .int (I (15 + 1) (x3).toNatClampNeg), .ref 166], (zS0, R, I, J))) rfl ?_
    refine zEv_ial rfl rfl (by decide) h33 ?_
    exact zEv_c (fun _ => rfl) rfl hc rfl rfl k1
  · refine zEv_k 2 (f' := (17, [some (.ref 198), some (.ref 15), some (.int x2), some (.int x3)], [.ref 15, .ref 198], (zS0, R, I, J))) rfl ?_
    refine zEv_gr rfl rfl rfl (by decide) (hR (15) 1 (15 + 1) rfl) ?_
    refine zEv_k 1 (f' := (21, [some (.ref 198), some (.ref 15), some (.int x2), some (.int x3)], [.int x3, .ref (15 + 1), .ref 198], (zS0, R, I, J))) rfl ?_
    refine zEv_ial rfl rfl (by decide) h21 ?_
    refine zEv_k 1 (f' := (23, [some (.ref 198), some (.ref 15), some (.int x2), some (.int x3)], [.ref 15, .int (I (15 + 1) (x3).toNatClampNeg), .ref 198], (zS0, R, I, J))) rfl ?_
    refine zEv_gr rfl rfl rfl (by decide) (hR (15) 2 (15 + 2) rfl) ?_
    refine zEv_k 1 (f' := (27, [some (.ref 198), some (.ref 15), some (.int x2), some (.int x3)], [.int x3, .ref (15 + 2), .int (I (15 + 1) (x3).toNatClampNeg), .ref 198], (zS0, R, I, J))) rfl ?_
    refine zEv_ial rfl rfl (by decide) h27 ?_
    refine zEv_k 1 (f' := (29, [some (.ref 198), some (.ref 15), some (.int x2), some (.int x3)], [.ref 15, .int (I (15 + 2) (x3).toNatClampNeg), .int (I (15 + 1) (x3).toNatClampNeg), .ref 198], (zS0, R, I, J))) rfl ?_
    refine zEv_gr rfl rfl rfl (by decide) (hR (15) 3 (15 + 3) rfl) ?_
    refine zEv_k 1 (f' := (33, [some (.ref 198), some (.ref 15), some (.int x2), some (.int x3)], [.int x3, .ref (15 + 3), .int (I (15 + 2) (x3).toNatClampNeg), .int (I (15 + 1) (x3).toNatClampNeg), .ref 198], (zS0, R, I, J))) rfl ?_
    refine zEv_ial rfl rfl (by decide) h33 ?_
    exact zEv_c (fun _ => rfl) rfl hc rfl rfl k1
  · refine zEv_k 2 (f' := (17, [some (.ref 166), some (.ref 30), some (.int x2), some (.int x3)], [.ref 30, .ref 166], (zS0, R, I, J))) rfl ?_
    refine zEv_gr rfl rfl rfl (by decide) (hR (30) 1 (30 + 1) rfl) ?_
    refine zEv_k 1 (f' := (21, [some (.ref 166), some (.ref 30), some (.int x2), some (.int x3)], [.int x3, .ref (30 + 1), .ref 166], (zS0, R, I, J))) rfl ?_
    refine zEv_ial rfl rfl (by decide) h21 ?_
    refine zEv_k 1 (f' := (23, [some (.ref 166), some (.ref 30), some (.int x2), some (.int x3)], [.ref 30, .int (I (30 + 1) (x3).toNatClampNeg), .ref 166], (zS0, R, I, J))) rfl ?_
    refine zEv_gr rfl rfl rfl (by decide) (hR (30) 2 (30 + 2) rfl) ?_
    refine zEv_k 1 (f' := (27, [some (.ref 166), some (.ref 30), some (.int x2), some (.int x3)], [.int x3, .ref (30 + 2), .int (I (30 + 1) (x3).toNatClampNeg), .ref 166], (zS0, R, I, J))) rfl ?_
    refine zEv_ial rfl rfl (by decide) h27 ?_
    refine zEv_k 1 (f' := (29, [some (.ref 166), some (.ref 30), some (.int x2), some (.int x3)], [.ref 30, .int (I (30 + 2) (x3).toNatClampNeg), .int (I (30 + 1) (x3).toNatClampNeg), .ref 166], (zS0, R, I, J))) rfl ?_
    refine zEv_gr rfl rfl rfl (by decide) (hR (30) 3 (30 + 3) rfl) ?_
    refine zEv_k 1 (f' := (33, [some (.ref 166), some (.ref 30), some (.int x2), some (.int x3)], [.int x3, .ref (30 + 3), .int (I (30 + 2) (x3).toNatClampNeg), .int (I (30 + 1) (x3).toNatClampNeg), .ref 166], (zS0, R, I, J))) rfl ?_
    refine zEv_ial rfl rfl (by decide) h33 ?_
    exact zEv_c (fun _ => rfl) rfl hc rfl rfl k1
  · refine zEv_k 2 (f' := (17, [some (.ref 198), some (.ref 30), some (.int x2), some (.int x3)], [.ref 30, .ref 198], (zS0, R, I, J))) rfl ?_
    refine zEv_gr rfl rfl rfl (by decide) (hR (30) 1 (30 + 1) rfl) ?_
    refine zEv_k 1 (f' := (21, [some (.ref 198), some (.ref 30), some (.int x2), some (.int x3)], [.int x3, .ref (30 + 1), .ref 198], (zS0, R, I, J))) rfl ?_
    refine zEv_ial rfl rfl (by decide) h21 ?_
    refine zEv_k 1 (f' := (23, [some (.ref 198), some (.ref 30), some (.int x2), some (.int x3)], [.ref 30, .int (I (30 + 1) (x3).toNatClampNeg), .ref 198], (zS0, R, I, J))) rfl ?_
    refine zEv_gr rfl rfl rfl (by decide) (hR (30) 2 (30 + 2) rfl) ?_
    refine zEv_k 1 (f' := (27, [some (.ref 198), some (.ref 30), some (.int x2), some (.int x3)], [.int x3, .ref (30 + 2), .int (I (30 + 1) (x3).toNatClampNeg), .ref 198], (zS0, R, I, J))) rfl ?_
    refine zEv_ial rfl rfl (by decide) h27 ?_
    refine zEv_k 1 (f' := (29, [some (.ref 198), some (.ref 30), some (.int x2), some (.int x3)], [.ref 30, .int (I (30 + 2) (x3).toNatClampNeg), .int (I (30 + 1) (x3).toNatClampNeg), .ref 198], (zS0, R, I, J))) rfl ?_
    refine zEv_gr rfl rfl rfl (by decide) (hR (30) 3 (30 + 3) rfl) ?_
    refine zEv_k 1 (f' := (33, [some (.ref 198), some (.ref 30), some (.int x2), some (.int x3)], [.int x3, .ref (30 + 3), .int (I (30 + 2) (x3).toNatClampNeg), .int (I (30 + 1) (x3).toNatClampNeg), .ref 198], (zS0, R, I, J))) rfl ?_
    refine zEv_ial rfl rfl (by decide) h33 ?_
    exact zEv_c (fun _ => rfl) rfl hc rfl rfl k1
theorem b_71_37 {X : zX} {d : Nat} {R : zR} {I : zI} {J : zJ} {r : zA} {e : Nat} {o : Nat} {x2 : Int32} {x3 : Int32} {s0 : Int32} (ho : (e = 15 ∧ o = 166) ∨ (e = 15 ∧ o = 198) ∨ (e = 30 ∧ o = 166) ∨ (e = 30 ∧ o = 198)) (k1 : ¬ s0 = 0 → zEv X d zm_71 (42, [some (.ref o), some (.ref e), some (.int x2), some (.int x3)], [], (zS0, R, I, J)) r) (k2 : ¬ (¬ s0 = 0) → zEv X d zm_71 (40, [some (.ref o), some (.ref e), some (.int x2), some (.int x3)], [], (zS0, R, I, J)) r) : zEv X d zm_71 (37, [some (.ref o), some (.ref e), some (.int x2), some (.int x3)], [.int s0], (zS0, R, I, J)) r := by
  rcases ho with ⟨rfl, rfl⟩ | ⟨rfl, rfl⟩ | ⟨rfl, rfl⟩ | ⟨rfl, rfl⟩
  · refine zEv_k 1 (f' := (if ¬ s0 = 0 then 42 else 40, [some (.ref 166), some (.ref 15), some (.int x2), some (.int x3)], [], (zS0, R, I, J))) rfl ?_
    exact zEv_if k1 k2
  · refine zEv_k 1 (f' := (if ¬ s0 = 0 then 42 else 40, [some (.ref 198), some (.ref 15), some (.int x2), some (.int x3)], [], (zS0, R, I, J))) rfl ?_
    exact zEv_if k1 k2
  · refine zEv_k 1 (f' := (if ¬ s0 = 0 then 42 else 40, [some (.ref 166), some (.ref 30), some (.int x2), some (.int x3)], [], (zS0, R, I, J))) rfl ?_
    exact zEv_if k1 k2
  · refine zEv_k 1 (f' := (if ¬ s0 = 0 then 42 else 40, [some (.ref 198), some (.ref 30), some (.int x2), some (.int x3)], [], (zS0, R, I, J))) rfl ?_
    exact zEv_if k1 k2
theorem b_71_40 {X : zX} {d : Nat} {R : zR} {I : zI} {J : zJ} {e : Nat} {o : Nat} {x2 : Int32} {x3 : Int32} (ho : (e = 15 ∧ o = 166) ∨ (e = 15 ∧ o = 198) ∨ (e = 30 ∧ o = 166) ∨ (e = 30 ∧ o = 198)) : zEv X d zm_71 (40, [some (.ref o), some (.ref e), some (.int x2), some (.int x3)], [], (zS0, R, I, J)) (some (.int x3), (zS0, R, I, J)) := by
  rcases ho with ⟨rfl, rfl⟩ | ⟨rfl, rfl⟩ | ⟨rfl, rfl⟩ | ⟨rfl, rfl⟩
  · refine zEv_k 1 (f' := (41, [some (.ref 166), some (.ref 15), some (.int x2), some (.int x3)], [.int x3], (zS0, R, I, J))) rfl ?_
    exact zEv_r rfl
  · refine zEv_k 1 (f' := (41, [some (.ref 198), some (.ref 15), some (.int x2), some (.int x3)], [.int x3], (zS0, R, I, J))) rfl ?_
    exact zEv_r rfl
  · refine zEv_k 1 (f' := (41, [some (.ref 166), some (.ref 30), some (.int x2), some (.int x3)], [.int x3], (zS0, R, I, J))) rfl ?_
    exact zEv_r rfl
  · refine zEv_k 1 (f' := (41, [some (.ref 198), some (.ref 30), some (.int x2), some (.int x3)], [.int x3], (zS0, R, I, J))) rfl ?_
    exact zEv_r rfl
theorem b_71_42 {X : zX} {d : Nat} {R : zR} {I : zI} {J : zJ} {r : zA} {e : Nat} {o : Nat} {x2 : Int32} {x3 : Int32} (ho : (e = 15 ∧ o = 166) ∨ (e = 15 ∧ o = 198) ∨ (e = 30 ∧ o = 166) ∨ (e = 30 ∧ o = 198)) (k1 : zEv X d zm_71 (2, [some (.ref o), some (.ref e), some (.int x2), some (.int (x3 + 1))], [], (zS0, R, I, J)) r) : zEv X d zm_71 (42, [some (.ref o), some (.ref e), some (.int x2), some (.int x3)], [], (zS0, R, I, J)) r := by
  rcases ho with ⟨rfl, rfl⟩ | ⟨rfl, rfl⟩ | ⟨rfl, rfl⟩ | ⟨rfl, rfl⟩
  · refine zEv_k 2 (f' := (2, [some (.ref 166), some (.ref 15), some (.int x2), some (.int (x3 + 1))], [], (zS0, R, I, J))) rfl ?_
    exact k1
  · refine zEv_k 2 (f' := (2, [some (.ref 198), some (.ref 15), some (.int x2), some (.int (x3 + 1))], [], (zS0, R, I, J))) rfl ?_
    exact k1
  · refine zEv_k 2 (f' := (2, [some (.ref 166), some (.ref 30), some (.int x2), some (.int (x3 + 1))], [], (zS0, R, I, J))) rfl ?_
    exact k1
  · refine zEv_k 2 (f' := (2, [some (.ref 198), some (.ref 30), some (.int x2), some (.int (x3 + 1))], [], (zS0, R, I, J))) rfl ?_
    exact k1
theorem b_71_48 {X : zX} {d : Nat} {R : zR} {I : zI} {J : zJ} {e : Nat} {o : Nat} {x2 : Int32} {x3 : Int32} (ho : (e = 15 ∧ o = 166) ∨ (e = 15 ∧ o = 198) ∨ (e = 30 ∧ o = 166) ∨ (e = 30 ∧ o = 198)) : zEv X d zm_71 (48, [some (.ref o), some (.ref e), some (.int x2), some (.int x3)], [], (zS0, R, I, J)) (some (.int (if (I e 0) < x2 then (I e 0) else x2)), (zS0, R, I, J)) := by
  rcases ho with ⟨rfl, rfl⟩ | ⟨rfl, rfl⟩ | ⟨rfl, rfl⟩ | ⟨rfl, rfl⟩
  · refine zEv_k 4 (f' := (56, [some (.ref 166), some (.ref 15), some (.int x2), some (.int x3)], [.int (if (I 15 0) < x2 then (I 15 0) else x2)], (zS0, R, I, J))) rfl ?_
    exact zEv_r rfl
  · refine zEv_k 4 (f' := (56, [some (.ref 198), some (.ref 15), some (.int x2), some (.int x3)], [.int (if (I 15 0) < x2 then (I 15 0) else x2)], (zS0, R, I, J))) rfl ?_
    exact zEv_r rfl
  · refine zEv_k 4 (f' := (56, [some (.ref 166), some (.ref 30), some (.int x2), some (.int x3)], [.int (if (I 30 0) < x2 then (I 30 0) else x2)], (zS0, R, I, J))) rfl ?_
    exact zEv_r rfl
  · refine zEv_k 4 (f' := (56, [some (.ref 198), some (.ref 30), some (.int x2), some (.int x3)], [.int (if (I 30 0) < x2 then (I 30 0) else x2)], (zS0, R, I, J))) rfl ?_
    exact zEv_r rfl
theorem b_72_0 {X : zX} {d : Nat} {R : zR} {I : zI} {J : zJ} {r : zA} {o : Nat} {x1 : Int32} {x2 : Int32} {x3 : Int32} (ho : o = 166 ∨ o = 198) (k1 : ¬ x1 = 0 → zEv X d zm_72 (9, [some (.ref o), some (.int x1), some (.int x2), some (.int x3)], [], (zS0, R, I, J)) r) (k2 : ¬ (¬ x1 = 0) → zEv X d zm_72 (4, [some (.ref o), some (.int x1), some (.int x2), some (.int x3)], [], (zS0, R, I, J)) r) : zEv X d zm_72 (0, [some (.ref o), some (.int x1), some (.int x2), some (.int x3)], [], (zS0, R, I, J)) r := by
  rcases ho with rfl | rfl
  · refine zEv_k 2 (f' := (if ¬ x1 = 0 then 9 else 4, [some (.ref 166), some (.int x1), some (.int x2), some (.int x3)], [], (zS0, R, I, J))) rfl ?_
    exact zEv_if k1 k2
  · refine zEv_k 2 (f' := (if ¬ x1 = 0 then 9 else 4, [some (.ref 198), some (.int x1), some (.int x2), some (.int x3)], [], (zS0, R, I, J))) rfl ?_
    exact zEv_if k1 k2
theorem b_72_4 {X : zX} {d : Nat} {R : zR} {I : zI} {J : zJ} {r : zA} {o : Nat} {x1 : Int32} {x2 : Int32} {x3 : Int32} {w : Int32} {R' : zR} {I' : zI} {J' : zJ} (ho : o = 166 ∨ o = 198) (hc : zEv X d zm_78 (0, [some (.ref o), none, none], [], (zS0, R, I, J)) (some (.int w), (zS0, R', I', J'))) (k1 : zEv X (d + 1) zm_72 (8, [some (.ref o), some (.int x1), some (.int x2), some (.int x3)], [.int w], (zS0, R', I', J')) r) : zEv X (d + 1) zm_72 (4, [some (.ref o), some (.int x1), some (.int x2), some (.int x3)], [], (zS0, R, I, J)) r := by
  rcases ho with rfl | rfl
  · refine zEv_k 1 (f' := (5, [some (.ref 166), some (.int x1), some (.int x2), some (.int x3)], [.ref 166], (zS0, R, I, J))) rfl ?_
    exact zEv_c (fun _ => rfl) rfl hc rfl rfl k1
  · refine zEv_k 1 (f' := (5, [some (.ref 198), some (.int x1), some (.int x2), some (.int x3)], [.ref 198], (zS0, R, I, J))) rfl ?_
    exact zEv_c (fun _ => rfl) rfl hc rfl rfl k1
theorem b_72_8 {X : zX} {d : Nat} {R : zR} {I : zI} {J : zJ} {o : Nat} {x1 : Int32} {x2 : Int32} {x3 : Int32} {s0 : Int32} (ho : o = 166 ∨ o = 198) (h8 : zbool s0 = true) : zEv X d zm_72 (8, [some (.ref o), some (.int x1), some (.int x2), some (.int x3)], [.int s0], (zS0, R, I, J)) (some (.int s0), (zS0, R, I, J)) := by
  rcases ho with rfl | rfl
  · exact zEv_rz rfl rfl h8
  · exact zEv_rz rfl rfl h8
theorem b_72_9 {X : zX} {d : Nat} {R : zR} {I : zI} {J : zJ} {r : zA} {o : Nat} {cr : Nat} {x1 : Int32} {x2 : Int32} {x3 : Int32} {w : Int32} {R' : zR} {I' : zI} {J' : zJ} (ho : (o = 166 ∧ cr = 7) ∨ (o = 166 ∧ cr = 22) ∨ (o = 198 ∧ cr = 7) ∨ (o = 198 ∧ cr = 22)) (hcr : R o 10 = some cr) (hc : zEv X d zm_6 (0, [some (.ref cr), some (.int x2)], [], (zS0, R, I, J)) (some (.int w), (zS0, R', I', J'))) (k1 : zEv X (d + 1) zm_72 (17, [some (.ref o), some (.int x1), some (.int x2), some (.int x3)], [.int w], (zS0, R', I', J')) r) : zEv X (d + 1) zm_72 (9, [some (.ref o), some (.int x1), some (.int x2), some (.int x3)], [], (zS0, R, I, J)) r := by
  rcases ho with ⟨rfl, rfl⟩ | ⟨rfl, rfl⟩ | ⟨rfl, rfl⟩ | ⟨rfl, rfl⟩
  · refine zEv_k 1 (f' := (10, [some (.ref 166), some (.int x1), some (.int x2), some (.int x3)], [.ref 166], (zS0, R, I, J))) rfl ?_
    refine zEv_gr rfl rfl rfl (by decide) hcr ?_
    refine zEv_k 1 (f' := (14, [some (.ref 166), some (.int x1), some (.int x2), some (.int x3)], [.int x2, .ref 7], (zS0, R, I, J))) rfl ?_
    exact zEv_c (fun _ => rfl) rfl hc rfl rfl k1
  · refine zEv_k 1 (f' := (10, [some (.ref 166), some (.int x1), some (.int x2), some (.int x3)], [.ref 166], (zS0, R, I, J))) rfl ?_
    refine zEv_gr rfl rfl rfl (by decide) hcr ?_
    refine zEv_k 1 (f' := (14, [some (.ref 166), some (.int x1), some (.int x2), some (.int x3)], [.int x2, .ref 22], (zS0, R, I, J))) rfl ?_
    exact zEv_c (fun _ => rfl) rfl hc rfl rfl k1
  · refine zEv_k 1 (f' := (10, [some (.ref 198), some (.int x1), some (.int x2), some (.int x3)], [.ref 198], (zS0, R, I, J))) rfl ?_
    refine zEv_gr rfl rfl rfl (by decide) hcr ?_
    refine zEv_k 1 (f' := (14, [some (.ref 198), some (.int x1), some (.int x2), some (.int x3)], [.int x2, .ref 7], (zS0, R, I, J))) rfl ?_
    exact zEv_c (fun _ => rfl) rfl hc rfl rfl k1
  · refine zEv_k 1 (f' := (10, [some (.ref 198), some (.int x1), some (.int x2), some (.int x3)], [.ref 198], (zS0, R, I, J))) rfl ?_
    refine zEv_gr rfl rfl rfl (by decide) hcr ?_
    refine zEv_k 1 (f' := (14, [some (.ref 198), some (.int x1), some (.int x2), some (.int x3)], [.int x2, .ref 22], (zS0, R, I, J))) rfl ?_
    exact zEv_c (fun _ => rfl) rfl hc rfl rfl k1
theorem b_72_17 {X : zX} {d : Nat} {R : zR} {I : zI} {J : zJ} {r : zA} {o : Nat} {x1 : Int32} {x2 : Int32} {x3 : Int32} {s0 : Int32} (ho : o = 166 ∨ o = 198) (k1 : s0 = 0 → zEv X d zm_72 (31, [some (.ref o), some (.int x1), some (.int x2), some (.int x3)], [], (zS0, R, I, J)) r) (k2 : ¬ (s0 = 0) → zEv X d zm_72 (20, [some (.ref o), some (.int x1), some (.int x2), some (.int x3)], [], (zS0, R, I, J)) r) : zEv X d zm_72 (17, [some (.ref o), some (.int x1), some (.int x2), some (.int x3)], [.int s0], (zS0, R, I, J)) r := by
  rcases ho with rfl | rfl
  · refine zEv_k 1 (f' := (if s0 = 0 then 31 else 20, [some (.ref 166), some (.int x1), some (.int x2), some (.int x3)], [], (zS0, R, I, J))) rfl ?_
    exact zEv_if k1 k2
  · refine zEv_k 1 (f' := (if s0 = 0 then 31 else 20, [some (.ref 198), some (.int x1), some (.int x2), some (.int x3)], [], (zS0, R, I, J))) rfl ?_
    exact zEv_if k1 k2
theorem b_72_20 {X : zX} {d : Nat} {R : zR} {I : zI} {J : zJ} {r : zA} {o : Nat} {x1 : Int32} {x2 : Int32} {x3 : Int32} (ho : o = 166 ∨ o = 198) (k1 : (zf_cin (I o 2) x2) = 0 → zEv X (d + 1) zm_72 (33, [some (.ref o), some (.int x1), some (.int x2), some (.int x3)], [], (zS0, R, I, J)) r) (k2 : ¬ ((zf_cin (I o 2) x2) = 0) → zEv X (d + 1) zm_72 (31, [some (.ref o), some (.int x1), some (.int x2), some (.int x3)], [], (zS0, R, I, J)) r) : zEv X (d + 1) zm_72 (20, [some (.ref o), some (.int x1), some (.int x2), some (.int x3)], [], (zS0, R, I, J)) r := by
  rcases ho with rfl | rfl
  · refine zEv_k 3 (f' := (25, [some (.ref 166), some (.int x1), some (.int x2), some (.int x3)], [.int x2, .int (I 166 2)], (zS0, R, I, J))) rfl ?_
    refine zEv_c (fun _ => rfl) rfl ev_zf_cin rfl rfl ?_
    refine zEv_k 1 (f' := (if (zf_cin (I 166 2) x2) = 0 then 33 else 31, [some (.ref 166), some (.int x1), some (.int x2), some (.int x3)], [], (zS0, R, I, J))) rfl ?_
    exact zEv_if k1 k2
  · refine zEv_k 3 (f' := (25, [some (.ref 198), some (.int x1), some (.int x2), some (.int x3)], [.int x2, .int (I 198 2)], (zS0, R, I, J))) rfl ?_
    refine zEv_c (fun _ => rfl) rfl ev_zf_cin rfl rfl ?_
    refine zEv_k 1 (f' := (if (zf_cin (I 198 2) x2) = 0 then 33 else 31, [some (.ref 198), some (.int x1), some (.int x2), some (.int x3)], [], (zS0, R, I, J))) rfl ?_
    exact zEv_if k1 k2
theorem b_72_31 {X : zX} {d : Nat} {R : zR} {I : zI} {J : zJ} {o : Nat} {x1 : Int32} {x2 : Int32} {x3 : Int32} (ho : o = 166 ∨ o = 198) : zEv X d zm_72 (31, [some (.ref o), some (.int x1), some (.int x2), some (.int x3)], [], (zS0, R, I, J)) (some (.int 0), (zS0, R, I, J)) := by
  rcases ho with rfl | rfl
  · refine zEv_k 1 (f' := (32, [some (.ref 166), some (.int x1), some (.int x2), some (.int x3)], [.int 0], (zS0, R, I, J))) rfl ?_
    exact zEv_r rfl
  · refine zEv_k 1 (f' := (32, [some (.ref 198), some (.int x1), some (.int x2), some (.int x3)], [.int 0], (zS0, R, I, J))) rfl ?_
    exact zEv_r rfl
theorem b_72_33 {X : zX} {d : Nat} {R : zR} {I : zI} {J : zJ} {r : zA} {o : Nat} {x1 : Int32} {x2 : Int32} {x3 : Int32} (ho : o = 166 ∨ o = 198) (k0 : x1 = 1 → zEv X d zm_72 (64, [some (.ref o), some (.int x1), some (.int x2), some (.int x3)], [], (zS0, R, I, J)) r) (k1 : x1 = 2 → zEv X d zm_72 (71, [some (.ref o), some (.int x1), some (.int x2), some (.int x3)], [], (zS0, R, I, J)) r) (k2 : x1 = 3 → zEv X d zm_72 (77, [some (.ref o), some (.int x1), some (.int x2), some (.int x3)], [], (zS0, R, I, J)) r) (k3 : x1 = 4 → zEv X d zm_72 (83, [some (.ref o), some (.int x1), some (.int x2), some (.int x3)], [], (zS0, R, I, J)) r) (kd : ¬ (1 ≤ (x1 : Int32).toInt ∧ (x1 : Int32).toInt ≤ 4) → zEv X d zm_72 (90, [some (.ref o), some (.int x1), some (.int x2), some (.int x3)], [], (zS0, R, I, J)) r) : zEv X d zm_72 (33, [some (.ref o), some (.int x1), some (.int x2), some (.int x3)], [], (zS0, R, I, J)) r := by
  rcases ho with rfl | rfl
  · refine zEv_k 1 (f' := (34, [some (.ref 166), some (.int x1), some (.int x2), some (.int x3)], [.int x1], (zS0, R, I, J))) rfl ?_
    refine zEv_ts rfl (by decide) (by decide) (by decide) (fun hh => ?_) (fun j hj hh => ?_)
    · exact kd (by omega)
    · rcases (by have hj2 : j < 4 := hj; omega : j = 0 ∨ j = 1 ∨ j = 2 ∨ j = 3) with rfl | rfl | rfl | rfl
      · exact k0 (zeqI hh (by decide))
      · exact k1 (zeqI hh (by decide))
      · exact k2 (zeqI hh (by decide))
      · exact k3 (zeqI hh (by decide))
  · refine zEv_k 1 (f' := (34, [some (.ref 198), some (.int x1), some (.int x2), some (.int x3)], [.int x1], (zS0, R, I, J))) rfl ?_
    refine zEv_ts rfl (by decide) (by decide) (by decide) (fun hh => ?_) (fun j hj hh => ?_)
    · exact kd (by omega)
    · rcases (by have hj2 : j < 4 := hj; omega : j = 0 ∨ j = 1 ∨ j = 2 ∨ j = 3) with rfl | rfl | rfl | rfl
      · exact k0 (zeqI hh (by decide))
      · exact k1 (zeqI hh (by decide))
      · exact k2 (zeqI hh (by decide))
      · exact k3 (zeqI hh (by decide))
theorem b_72_64 {X : zX} {d : Nat} {R : zR} {I : zI} {J : zJ} {r : zA} {o : Nat} {x1 : Int32} {x2 : Int32} {x3 : Int32} {R' : zR} {I' : zI} {J' : zJ} (ho : o = 166 ∨ o = 198) (hc : zEv X d zm_81 (0, [some (.ref o), some (.int x2)], [], (zS0, R, I, J)) (none, (zS0, R', I', J'))) (k1 : zEv X (d + 1) zm_72 (69, [some (.ref o), some (.int x1), some (.int x2), some (.int x3)], [], (zS0, R', I', J')) r) : zEv X (d + 1) zm_72 (64, [some (.ref o), some (.int x1), some (.int x2), some (.int x3)], [], (zS0, R, I, J)) r := by
  rcases ho with rfl | rfl
  · refine zEv_k 2 (f' := (66, [some (.ref 166), some (.int x1), some (.int x2), some (.int x3)], [.int x2, .ref 166], (zS0, R, I, J))) rfl ?_
    exact zEv_c (fun _ => rfl) rfl hc rfl rfl k1
  · refine zEv_k 2 (f' := (66, [some (.ref 198), some (.int x1), some (.int x2), some (.int x3)], [.int x2, .ref 198], (zS0, R, I, J))) rfl ?_
    exact zEv_c (fun _ => rfl) rfl hc rfl rfl k1
theorem b_72_69 {X : zX} {d : Nat} {R : zR} {I : zI} {J : zJ} {o : Nat} {x1 : Int32} {x2 : Int32} {x3 : Int32} (ho : o = 166 ∨ o = 198) : zEv X d zm_72 (69, [some (.ref o), some (.int x1), some (.int x2), some (.int x3)], [], (zS0, R, I, J)) (some (.int 1), (zS0, R, I, J)) := by
  rcases ho with rfl | rfl
  · refine zEv_k 1 (f' := (70, [some (.ref 166), some (.int x1), some (.int x2), some (.int x3)], [.int 1], (zS0, R, I, J))) rfl ?_
    exact zEv_r rfl
  · refine zEv_k 1 (f' := (70, [some (.ref 198), some (.int x1), some (.int x2), some (.int x3)], [.int 1], (zS0, R, I, J))) rfl ?_
    exact zEv_r rfl
theorem b_72_71 {X : zX} {d : Nat} {R : zR} {I : zI} {J : zJ} {r : zA} {o : Nat} {x1 : Int32} {x2 : Int32} {x3 : Int32} {w : Int32} {R' : zR} {I' : zI} {J' : zJ} (ho : o = 166 ∨ o = 198) (hc : zEv X d zm_82 (0, [some (.ref o), some (.int x2)], [], (zS0, R, I, J)) (some (.int w), (zS0, R', I', J'))) (k1 : zEv X (d + 1) zm_72 (76, [some (.ref o), some (.int x1), some (.int x2), some (.int x3)], [.int w], (zS0, R', I', J')) r) : zEv X (d + 1) zm_72 (71, [some (.ref o), some (.int x1), some (.int x2), some (.int x3)], [], (zS0, R, I, J)) r := by
  rcases ho with rfl | rfl
  · refine zEv_k 2 (f' := (73, [some (.ref 166), some (.int x1), some (.int x2), some (.int x3)], [.int x2, .ref 166], (zS0, R, I, J))) rfl ?_
    exact zEv_c (fun _ => rfl) rfl hc rfl rfl k1
  · refine zEv_k 2 (f' := (73, [some (.ref 198), some (.int x1), some (.int x2), some (.int x3)], [.int x2, .ref 198], (zS0, R, I, J))) rfl ?_
    exact zEv_c (fun _ => rfl) rfl hc rfl rfl k1
theorem b_72_76 {X : zX} {d : Nat} {R : zR} {I : zI} {J : zJ} {o : Nat} {x1 : Int32} {x2 : Int32} {x3 : Int32} {s0 : Int32} (ho : o = 166 ∨ o = 198) (h76 : zbool s0 = true) : zEv X d zm_72 (76, [some (.ref o), some (.int x1), some (.int x2), some (.int x3)], [.int s0], (zS0, R, I, J)) (some (.int s0), (zS0, R, I, J)) := by
  rcases ho with rfl | rfl
  · exact zEv_rz rfl rfl h76
  · exact zEv_rz rfl rfl h76
theorem b_72_77 {X : zX} {d : Nat} {R : zR} {I : zI} {J : zJ} {r : zA} {o : Nat} {x1 : Int32} {x2 : Int32} {x3 : Int32} {w : Int32} {R' : zR} {I' : zI} {J' : zJ} (ho : o = 166 ∨ o = 198) (hc : zEv X d zm_83 (0, [some (.ref o), some (.int x2)], [], (zS0, R, I, J)) (some (.int w), (zS0, R', I', J'))) (k1 : zEv X (d + 1) zm_72 (82, [some (.ref o), some (.int x1), some (.int x2), some (.int x3)], [.int w], (zS0, R', I', J')) r) : zEv X (d + 1) zm_72 (77, [some (.ref o), some (.int x1), some (.int x2), some (.int x3)], [], (zS0, R, I, J)) r := by
  rcases ho with rfl | rfl
  · refine zEv_k 2 (f' := (79, [some (.ref 166), some (.int x1), some (.int x2), some (.int x3)], [.int x2, .ref 166], (zS0, R, I, J))) rfl ?_
    exact zEv_c (fun _ => rfl) rfl hc rfl rfl k1
  · refine zEv_k 2 (f' := (79, [some (.ref 198), some (.int x1), some (.int x2), some (.int x3)], [.int x2, .ref 198], (zS0, R, I, J))) rfl ?_
    exact zEv_c (fun _ => rfl) rfl hc rfl rfl k1
theorem b_72_82 {X : zX} {d : Nat} {R : zR} {I : zI} {J : zJ} {o : Nat} {x1 : Int32} {x2 : Int32} {x3 : Int32} {s0 : Int32} (ho : o = 166 ∨ o = 198) (h82 : zbool s0 = true) : zEv X d zm_72 (82, [some (.ref o), some (.int x1), some (.int x2), some (.int x3)], [.int s0], (zS0, R, I, J)) (some (.int s0), (zS0, R, I, J)) := by
  rcases ho with rfl | rfl
  · exact zEv_rz rfl rfl h82
  · exact zEv_rz rfl rfl h82
theorem b_72_83 {X : zX} {d : Nat} {R : zR} {I : zI} {J : zJ} {r : zA} {o : Nat} {x1 : Int32} {x2 : Int32} {x3 : Int32} {w : Int32} {R' : zR} {I' : zI} {J' : zJ} (ho : o = 166 ∨ o = 198) (hc : zEv X d zm_84 (0, [some (.ref o), some (.int x2), some (.int x3)], [], (zS0, R, I, J)) (some (.int w), (zS0, R', I', J'))) (k1 : zEv X (d + 1) zm_72 (89, [some (.ref o), some (.int x1), some (.int x2), some (.int x3)], [.int w], (zS0, R', I', J')) r) : zEv X (d + 1) zm_72 (83, [some (.ref o), some (.int x1), some (.int x2), some (.int x3)], [], (zS0, R, I, J)) r := by
  rcases ho with rfl | rfl
  · refine zEv_k 3 (f' := (86, [some (.ref 166), some (.int x1), some (.int x2), some (.int x3)], [.int x3, .int x2, .ref 166], (zS0, R, I, J))) rfl ?_
    exact zEv_c (fun _ => rfl) rfl hc rfl rfl k1
  · refine zEv_k 3 (f' := (86, [some (.ref 198), some (.int x1), some (.int x2), some (.int x3)], [.int x3, .int x2, .ref 198], (zS0, R, I, J))) rfl ?_
    exact zEv_c (fun _ => rfl) rfl hc rfl rfl k1
theorem b_72_89 {X : zX} {d : Nat} {R : zR} {I : zI} {J : zJ} {o : Nat} {x1 : Int32} {x2 : Int32} {x3 : Int32} {s0 : Int32} (ho : o = 166 ∨ o = 198) (h89 : zbool s0 = true) : zEv X d zm_72 (89, [some (.ref o), some (.int x1), some (.int x2), some (.int x3)], [.int s0], (zS0, R, I, J)) (some (.int s0), (zS0, R, I, J)) := by
  rcases ho with rfl | rfl
  · exact zEv_rz rfl rfl h89
  · exact zEv_rz rfl rfl h89
theorem b_72_90 {X : zX} {d : Nat} {R : zR} {I : zI} {J : zJ} {o : Nat} {x1 : Int32} {x2 : Int32} {x3 : Int32} (ho : o = 166 ∨ o = 198) : zEv X d zm_72 (90, [some (.ref o), some (.int x1), some (.int x2), some (.int x3)], [], (zS0, R, I, J)) (some (.int 0), (zS0, R, I, J)) := by
  rcases ho with rfl | rfl
  · refine zEv_k 1 (f' := (91, [some (.ref 166), some (.int x1), some (.int x2), some (.int x3)], [.int 0], (zS0, R, I, J))) rfl ?_
    exact zEv_r rfl
  · refine zEv_k 1 (f' := (91, [some (.ref 198), some (.int x1), some (.int x2), some (.int x3)], [.int 0], (zS0, R, I, J))) rfl ?_
    exact zEv_r rfl
theorem b_73_0 {X : zX} {d : Nat} {R : zR} {I : zI} {J : zJ} {r : zA} {o : Nat} {x1 : Int32} (ho : o = 166 ∨ o = 198) (k1 : zEv X d zm_73 (2, [some (.ref o), some (.int x1), some (.int 0)], [], (zS0, R, I, J)) r) : zEv X d zm_73 (0, [some (.ref o), some (.int x1), none], [], (zS0, R, I, J)) r := by
  rcases ho with rfl | rfl
  · refine zEv_k 2 (f' := (2, [some (.ref 166), some (.int x1), some (.int 0)], [], (zS0, R, I, J))) rfl ?_
    exact k1
  · refine zEv_k 2 (f' := (2, [some (.ref 198), some (.int x1), some (.int 0)], [], (zS0, R, I, J))) rfl ?_
    exact k1
theorem b_73_2 {X : zX} {d : Nat} {R : zR} {I : zI} {J : zJ} {r : zA} {o : Nat} {x1 : Int32} {x2 : Int32} (ho : o = 166 ∨ o = 198) (k1 : x1 ≤ x2 → zEv X d zm_73 (18, [some (.ref o), some (.int x1), some (.int x2)], [], (zS0, R, I, J)) r) (k2 : ¬ (x1 ≤ x2) → zEv X d zm_73 (7, [some (.ref o), some (.int x1), some (.int x2)], [], (zS0, R, I, J)) r) : zEv X d zm_73 (2, [some (.ref o), some (.int x1), some (.int x2)], [], (zS0, R, I, J)) r := by
  rcases ho with rfl | rfl
  · refine zEv_k 3 (f' := (if x1 ≤ x2 then 18 else 7, [some (.ref 166), some (.int x1), some (.int x2)], [], (zS0, R, I, J))) rfl ?_
    exact zEv_if k1 k2
  · refine zEv_k 3 (f' := (if x1 ≤ x2 then 18 else 7, [some (.ref 198), some (.int x1), some (.int x2)], [], (zS0, R, I, J))) rfl ?_
    exact zEv_if k1 k2
theorem b_73_7 {X : zX} {d : Nat} {R : zR} {I : zI} {J : zJ} {r : zA} {o : Nat} {x1 : Int32} {x2 : Int32} {w : Int32} {R' : zR} {I' : zI} {J' : zJ} (ho : o = 166 ∨ o = 198) (hc : zEv X d zm_78 (0, [some (.ref o), none, none], [], (zS0, R, I, J)) (some (.int w), (zS0, R', I', J'))) (k1 : zEv X (d + 1) zm_73 (11, [some (.ref o), some (.int x1), some (.int x2)], [.int w], (zS0, R', I', J')) r) : zEv X (d + 1) zm_73 (7, [some (.ref o), some (.int x1), some (.int x2)], [], (zS0, R, I, J)) r := by
  rcases ho with rfl | rfl
  · refine zEv_k 1 (f' := (8, [some (.ref 166), some (.int x1), some (.int x2)], [.ref 166], (zS0, R, I, J))) rfl ?_
    exact zEv_c (fun _ => rfl) rfl hc rfl rfl k1
  · refine zEv_k 1 (f' := (8, [some (.ref 198), some (.int x1), some (.int x2)], [.ref 198], (zS0, R, I, J))) rfl ?_
    exact zEv_c (fun _ => rfl) rfl hc rfl rfl k1
theorem b_73_11 {X : zX} {d : Nat} {R : zR} {I : zI} {J : zJ} {r : zA} {o : Nat} {x1 : Int32} {x2 : Int32} {s0 : Int32} (ho : o = 166 ∨ o = 198) (k1 : zEv X d zm_73 (2, [some (.ref o), some (.int x1), some (.int (x2 + 1))], [], (zS0, R, I, J)) r) : zEv X d zm_73 (11, [some (.ref o), some (.int x1), some (.int x2)], [.int s0], (zS0, R, I, J)) r := by
  rcases ho with rfl | rfl
  · refine zEv_k 3 (f' := (2, [some (.ref 166), some (.int x1), some (.int (x2 + 1))], [], (zS0, R, I, J))) rfl ?_
    exact k1
  · refine zEv_k 3 (f' := (2, [some (.ref 198), some (.int x1), some (.int (x2 + 1))], [], (zS0, R, I, J))) rfl ?_
    exact k1
theorem b_73_18 {X : zX} {d : Nat} {R : zR} {I : zI} {J : zJ} {o : Nat} {x1 : Int32} {x2 : Int32} (ho : o = 166 ∨ o = 198) : zEv X d zm_73 (18, [some (.ref o), some (.int x1), some (.int x2)], [], (zS0, R, I, J)) (none, (zS0, R, I, J)) := by
  rcases ho with rfl | rfl
  · exact zEv_r rfl
  · exact zEv_r rfl
theorem b_74_0 {X : zX} {d : Nat} {R : zR} {I : zI} {J : zJ} {r : zA} {o : Nat} {x1 : Int32} {x2 : Int32} (ho : o = 166 ∨ o = 198) (k1 : zEv X d zm_74 (7, [some (.ref o), some (.int x1), some (.int x2), some (.int 0), none, none], [], (zS0, R, zu I o 15 x1, J)) r) : zEv X d zm_74 (0, [some (.ref o), some (.int x1), some (.int x2), none, none, none], [], (zS0, R, I, J)) r := by
  rcases ho with rfl | rfl
  · refine zEv_k 5 (f' := (7, [some (.ref 166), some (.int x1), some (.int x2), some (.int 0), none, none], [], (zS0, R, zu I 166 15 x1, J))) rfl ?_
    exact k1
  · refine zEv_k 5 (f' := (7, [some (.ref 198), some (.int x1), some (.int x2), some (.int 0), none, none], [], (zS0, R, zu I 198 15 x1, J))) rfl ?_
    exact k1
theorem b_74_7 {X : zX} {d : Nat} {R : zR} {I : zI} {J : zJ} {r : zA} {o : Nat} {x1 : Int32} {x2 : Int32} {x3 : Int32} {x4 : Option Value} {x5 : Option Value} (ho : o = 166 ∨ o = 198) (k1 : x2 ≤ x3 → zEv X d zm_74 (90, [some (.ref o), some (.int x1), some (.int x2), some (.int x3), x4, x5], [], (zS0, R, I, J)) r) (k2 : ¬ (x2 ≤ x3) → zEv X d zm_74 (12, [some (.ref o), some (.int x1), some (.int x2), some (.int x3), x4, x5], [], (zS0, R, I, J)) r) : zEv X d zm_74 (7, [some (.ref o), some (.int x1), some (.int x2), some (.int x3), x4, x5], [], (zS0, R, I, J)) r := by
  rcases ho with rfl | rfl
  · refine zEv_k 3 (f' := (if x2 ≤ x3 then 90 else 12, [some (.ref 166), some (.int x1), some (.int x2), some (.int x3), x4, x5], [], (zS0, R, I, J))) rfl ?_
    exact zEv_if k1 k2
  · refine zEv_k 3 (f' := (if x2 ≤ x3 then 90 else 12, [some (.ref 198), some (.int x1), some (.int x2), some (.int x3), x4, x5], [], (zS0, R, I, J))) rfl ?_
    exact zEv_if k1 k2
theorem b_74_12 {X : zX} {d : Nat} {R : zR} {I : zI} {J : zJ} {r : zA} {o : Nat} {x1 : Int32} {x2 : Int32} {x3 : Int32} {x4 : Option Value} {x5 : Option Value} {w : Int32} {R' : zR} {I' : zI} {J' : zJ} (ho : o = 166 ∨ o = 198) (hc : zEv X d zm_85 (0, [some (.ref o), some (.int 10)], [], (zS0, R, I, J)) (some (.int w), (zS0, R', I', J'))) (k1 : zEv X (d + 1) zm_74 (18, [some (.ref o), some (.int x1), some (.int x2), some (.int x3), x4, x5], [.int w], (zS0, R', I', J')) r) : zEv X (d + 1) zm_74 (12, [some (.ref o), some (.int x1), some (.int x2), some (.int x3), x4, x5], [], (zS0, R, I, J)) r := by
  rcases ho with rfl | rfl
  · refine zEv_k 2 (f' := (15, [some (.ref 166), some (.int x1), some (.int x2), some (.int x3), x4, x5], [.int 10, .ref 166], (zS0, R, I, J))) rfl ?_
    exact zEv_c (fun _ => rfl) rfl hc rfl rfl k1
  · refine zEv_k 2 (f' := (15, [some (.ref 198), some (.int x1), some (.int x2), some (.int x3), x4, x5], [.int 10, .ref 198], (zS0, R, I, J))) rfl ?_
    exact zEv_c (fun _ => rfl) rfl hc rfl rfl k1
theorem b_74_18 {X : zX} {d : Nat} {R : zR} {I : zI} {J : zJ} {r : zA} {o : Nat} {x1 : Int32} {x2 : Int32} {x3 : Int32} {x4 : Option Value} {x5 : Option Value} {s0 : Int32} {w : Int32} {R' : zR} {I' : zI} {J' : zJ} (ho : o = 166 ∨ o = 198) (hc : zEv X d zm_86 (0, [some (.int s0)], [], (zS0, R, I, J)) (some (.int w), (zS0, R', I', J'))) (k1 : zEv X (d + 1) zm_74 (21, [some (.ref o), some (.int x1), some (.int x2), some (.int x3), x4, x5], [.int w], (zS0, R', I', J')) r) : zEv X (d + 1) zm_74 (18, [some (.ref o), some (.int x1), some (.int x2), some (.int x3), x4, x5], [.int s0], (zS0, R, I, J)) r := by
  rcases ho with rfl | rfl
  · exact zEv_c (fun _ => rfl) rfl hc rfl rfl k1
  · exact zEv_c (fun _ => rfl) rfl hc rfl rfl k1
theorem b_74_21 {X : zX} {d : Nat} {R : zR} {I : zI} {J : zJ} {r : zA} {o : Nat} {x1 : Int32} {x2 : Int32} {x3 : Int32} {x4 : Option Value} {x5 : Option Value} {s0 : Int32} (ho : o = 166 ∨ o = 198) (k1 : ¬ s0 = 0 → zEv X d zm_74 (36, [some (.ref o), some (.int x1), some (.int x2), some (.int x3), some (.int s0), x5], [], (zS0, R, I, J)) r) (k2 : ¬ (¬ s0 = 0) → zEv X d zm_74 (28, [some (.ref o), some (.int x1), some (.int x2), some (.int x3), some (.int s0), x5], [], (zS0, R, I, J)) r) : zEv X d zm_74 (21, [some (.ref o), some (.int x1), some (.int x2), some (.int x3), x4, x5], [.int s0], (zS0, R, I, J)) r := by
  rcases ho with rfl | rfl
  · refine zEv_k 3 (f' := (if ¬ s0 = 0 then 36 else 28, [some (.ref 166), some (.int x1), some (.int x2), some (.int x3), some (.int s0), x5], [], (zS0, R, I, J))) rfl ?_
    exact zEv_if k1 k2
  · refine zEv_k 3 (f' := (if ¬ s0 = 0 then 36 else 28, [some (.ref 198), some (.int x1), some (.int x2), some (.int x3), some (.int s0), x5], [], (zS0, R, I, J))) rfl ?_
    exact zEv_if k1 k2
theorem b_74_28 {X : zX} {d : Nat} {R : zR} {I : zI} {J : zJ} {r : zA} {o : Nat} {x1 : Int32} {x2 : Int32} {x3 : Int32} {x4 : Int32} {x5 : Option Value} {w : Int32} {R' : zR} {I' : zI} {J' : zJ} (ho : o = 166 ∨ o = 198) (hc : zEv X d zm_78 (0, [some (.ref o), none, none], [], (zS0, R, I, J)) (some (.int w), (zS0, R', I', J'))) (k1 : zEv X (d + 1) zm_74 (32, [some (.ref o), some (.int x1), some (.int x2), some (.int x3), some (.int x4), x5], [.int w], (zS0, R', I', J')) r) : zEv X (d + 1) zm_74 (28, [some (.ref o), some (.int x1), some (.int x2), some (.int x3), some (.int x4), x5], [], (zS0, R, I, J)) r := by
  rcases ho with rfl | rfl
  · refine zEv_k 1 (f' := (29, [some (.ref 166), some (.int x1), some (.int x2), some (.int x3), some (.int x4), x5], [.ref 166], (zS0, R, I, J))) rfl ?_
    exact zEv_c (fun _ => rfl) rfl hc rfl rfl k1
  · refine zEv_k 1 (f' := (29, [some (.ref 198), some (.int x1), some (.int x2), some (.int x3), some (.int x4), x5], [.ref 198], (zS0, R, I, J))) rfl ?_
    exact zEv_c (fun _ => rfl) rfl hc rfl rfl k1
theorem b_74_32 {X : zX} {d : Nat} {R : zR} {I : zI} {J : zJ} {r : zA} {o : Nat} {x1 : Int32} {x2 : Int32} {x3 : Int32} {x4 : Int32} {x5 : Option Value} {s0 : Int32} (ho : o = 166 ∨ o = 198) (k1 : zEv X d zm_74 (84, [some (.ref o), some (.int x1), some (.int x2), some (.int x3), some (.int x4), x5], [], (zS0, R, I, J)) r) : zEv X d zm_74 (32, [some (.ref o), some (.int x1), some (.int x2), some (.int x3), some (.int x4), x5], [.int s0], (zS0, R, I, J)) r := by
  rcases ho with rfl | rfl
  · refine zEv_k 2 (f' := (84, [some (.ref 166), some (.int x1), some (.int x2), some (.int x3), some (.int x4), x5], [], (zS0, R, I, J))) rfl ?_
    exact k1
  · refine zEv_k 2 (f' := (84, [some (.ref 198), some (.int x1), some (.int x2), some (.int x3), some (.int x4), x5], [], (zS0, R, I, J))) rfl ?_
    exact k1
theorem b_74_36 {X : zX} {d : Nat} {R : zR} {I : zI} {J : zJ} {r : zA} {o : Nat} {cr : Nat} {x1 : Int32} {x2 : Int32} {x3 : Int32} {x4 : Int32} {x5 : Option Value} (ho : (o = 166 ∧ cr = 7) ∨ (o = 166 ∧ cr = 22) ∨ (o = 198 ∧ cr = 7) ∨ (o = 198 ∧ cr = 22)) (hcr : R o 10 = some cr) (k1 : (I cr 2) ≤ 0 → zEv X d zm_74 (84, [some (.ref o), some (.int x1), some (.int x2), some (.int x3), some (.int x4), x5], [], (zS0, R, I, J)) r) (k2 : ¬ ((I cr 2) ≤ 0) → zEv X d zm_74 (46, [some (.ref o), some (.int x1), some (.int x2), some (.int x3), some (.int x4), x5], [], (zS0, R, I, J)) r) : zEv X d zm_74 (36, [some (.ref o), some (.int x1), some (.int x2), some (.int x3), some (.int x4), x5], [], (zS0, R, I, J)) r := by
  rcases ho with ⟨rfl, rfl⟩ | ⟨rfl, rfl⟩ | ⟨rfl, rfl⟩ | ⟨rfl, rfl⟩
  · refine zEv_k 1 (f' := (37, [some (.ref 166), some (.int x1), some (.int x2), some (.int x3), some (.int x4), x5], [.ref 166], (zS0, R, I, J))) rfl ?_
    refine zEv_gr rfl rfl rfl (by decide) hcr ?_
    refine zEv_k 2 (f' := (if (I 7 2) ≤ 0 then 84 else 46, [some (.ref 166), some (.int x1), some (.int x2), some (.int x3), some (.int x4), x5], [], (zS0, R, I, J))) rfl ?_
    exact zEv_if k1 k2
  · refine zEv_k 1 (f' := (37, [some (.ref 166), some (.int x1), some (.int x2), some (.int x3), some (.int x4), x5], [.ref 166], (zS0, R, I, J))) rfl ?_
    refine zEv_gr rfl rfl rfl (by decide) hcr ?_
    refine zEv_k 2 (f' := (if (I 22 2) ≤ 0 then 84 else 46, [some (.ref 166), some (.int x1), some (.int x2), some (.int x3), some (.int x4), x5], [], (zS0, R, I, J))) rfl ?_
    exact zEv_if k1 k2
  · refine zEv_k 1 (f' := (37, [some (.ref 198), some (.int x1), some (.int x2), some (.int x3), some (.int x4), x5], [.ref 198], (zS0, R, I, J))) rfl ?_
    refine zEv_gr rfl rfl rfl (by decide) hcr ?_
    refine zEv_k 2 (f' := (if (I 7 2) ≤ 0 then 84 else 46, [some (.ref 198), some (.int x1), some (.int x2), some (.int x3), some (.int x4), x5], [], (zS0, R, I, J))) rfl ?_
    exact zEv_if k1 k2
  · refine zEv_k 1 (f' := (37, [some (.ref 198), some (.int x1), some (.int x2), some (.int x3), some (.int x4), x5], [.ref 198], (zS0, R, I, J))) rfl ?_
    refine zEv_gr rfl rfl rfl (by decide) hcr ?_
    refine zEv_k 2 (f' := (if (I 22 2) ≤ 0 then 84 else 46, [some (.ref 198), some (.int x1), some (.int x2), some (.int x3), some (.int x4), x5], [], (zS0, R, I, J))) rfl ?_
    exact zEv_if k1 k2
theorem b_74_46 {X : zX} {d : Nat} {R : zR} {I : zI} {J : zJ} {r : zA} {o : Nat} {cr : Nat} {x1 : Int32} {x2 : Int32} {x3 : Int32} {x4 : Int32} {x5 : Option Value} {w : Int32} {R' : zR} {I' : zI} {J' : zJ} (ho : (o = 166 ∧ cr = 7) ∨ (o = 166 ∧ cr = 22) ∨ (o = 198 ∧ cr = 7) ∨ (o = 198 ∧ cr = 22)) (hcr : R o 10 = some cr) (hc : zEv X d zm_85 (0, [some (.ref o), some (.int (I cr 2))], [], (zS0, R, I, J)) (some (.int w), (zS0, R', I', J'))) (k1 : zEv X (d + 1) zm_74 (57, [some (.ref o), some (.int x1), some (.int x2), some (.int x3), some (.int x4), x5], [.int w], (zS0, R', I', J')) r) : zEv X (d + 1) zm_74 (46, [some (.ref o), some (.int x1), some (.int x2), some (.int x3), some (.int x4), x5], [], (zS0, R, I, J)) r := by
  rcases ho with ⟨rfl, rfl⟩ | ⟨rfl, rfl⟩ | ⟨rfl, rfl⟩ | ⟨rfl, rfl⟩
  · refine zEv_k 2 (f' := (48, [some (.ref 166), some (.int x1), some (.int x2), some (.int x3), some (.int x4), x5], [.ref 166, .ref 166], (zS0, R, I, J))) rfl ?_
    refine zEv_gr rfl rfl rfl (by decide) hcr ?_
    refine zEv_k 1 (f' := (54, [some (.ref 166), some (.int x1), some (.int x2), some (.int x3), some (.int x4), x5], [.int (I 7 2), .ref 166], (zS0, R, I, J))) rfl ?_
    exact zEv_c (fun _ => rfl) rfl hc rfl rfl k1
  · refine zEv_k 2 (f' := (48, [some (.ref 166), some (.int x1), some (.int x2), some (.int x3), some (.int x4), x5], [.ref 166, .ref 166], (zS0, R, I, J))) rfl ?_
    refine zEv_gr rfl rfl rfl (by decide) hcr ?_
    refine zEv_k 1 (f' := (54, [some (.ref 166), some (.int x1), some (.int x2), some (.int x3), some (.int x4), x5], [.int (I 22 2), .ref 166], (zS0, R, I, J))) rfl ?_
    exact zEv_c (fun _ => rfl) rfl hc rfl rfl k1
  · refine zEv_k 2 (f' := (48, [some (.ref 198), some (.int x1), some (.int x2), some (.int x3), some (.int x4), x5], [.ref 198, .ref 198], (zS0, R, I, J))) rfl ?_
    refine zEv_gr rfl rfl rfl (by decide) hcr ?_
    refine zEv_k 1 (f' := (54, [some (.ref 198), some (.int x1), some (.int x2), some (.int x3), some (.int x4), x5], [.int (I 7 2), .ref 198], (zS0, R, I, J))) rfl ?_
    exact zEv_c (fun _ => rfl) rfl hc rfl rfl k1
  · refine zEv_k 2 (f' := (48, [some (.ref 198), some (.int x1), some (.int x2), some (.int x3), some (.int x4), x5], [.ref 198, .ref 198], (zS0, R, I, J))) rfl ?_
    refine zEv_gr rfl rfl rfl (by decide) hcr ?_
    refine zEv_k 1 (f' := (54, [some (.ref 198), some (.int x1), some (.int x2), some (.int x3), some (.int x4), x5], [.int (I 22 2), .ref 198], (zS0, R, I, J))) rfl ?_
    exact zEv_c (fun _ => rfl) rfl hc rfl rfl k1
theorem b_74_57 {X : zX} {d : Nat} {R : zR} {I : zI} {J : zJ} {r : zA} {o : Nat} {x1 : Int32} {x2 : Int32} {x3 : Int32} {x4 : Int32} {x5 : Option Value} {s0 : Int32} (ho : o = 166 ∨ o = 198) (k1 : ¬ x4 = 4 → zEv X d zm_74 (79, [some (.ref o), some (.int x1), some (.int x2), some (.int x3), some (.int x4), some (.int s0)], [.int s0, .int x4, .ref o], (zS0, R, I, J)) r) (k2 : ¬ (¬ x4 = 4) → zEv X d zm_74 (70, [some (.ref o), some (.int x1), some (.int x2), some (.int x3), some (.int x4), some (.int s0)], [.int s0, .int x4, .ref o], (zS0, R, I, J)) r) : zEv X d zm_74 (57, [some (.ref o), some (.int x1), some (.int x2), some (.int x3), some (.int x4), x5], [.int s0], (zS0, R, I, J)) r := by
  rcases ho with rfl | rfl
  · refine zEv_k 7 (f' := (if ¬ x4 = 4 then 79 else 70, [some (.ref 166), some (.int x1), some (.int x2), some (.int x3), some (.int x4), some (.int s0)], [.int s0, .int x4, .ref 166], (zS0, R, I, J))) rfl ?_
    exact zEv_if k1 k2
  · refine zEv_k 7 (f' := (if ¬ x4 = 4 then 79 else 70, [some (.ref 198), some (.int x1), some (.int x2), some (.int x3), some (.int x4), some (.int s0)], [.int s0, .int x4, .ref 198], (zS0, R, I, J))) rfl ?_
    exact zEv_if k1 k2
theorem b_74_70 {X : zX} {d : Nat} {R : zR} {I : zI} {J : zJ} {r : zA} {o : Nat} {x1 : Int32} {x2 : Int32} {x3 : Int32} {x4 : Int32} {x5 : Int32} {s1 : Int32} {s2 : Int32} {w : Int32} {R' : zR} {I' : zI} {J' : zJ} (ho : o = 166 ∨ o = 198) (hc : zEv X d zm_85 (0, [some (.ref o), some (.int 21)], [], (zS0, R, I, J)) (some (.int w), (zS0, R', I', J'))) (k1 : zEv X (d + 1) zm_74 (76, [some (.ref o), some (.int x1), some (.int x2), some (.int x3), some (.int x4), some (.int x5)], [.int w, .int s2, .int s1, .ref o], (zS0, R', I', J')) r) : zEv X (d + 1) zm_74 (70, [some (.ref o), some (.int x1), some (.int x2), some (.int x3), some (.int x4), some (.int x5)], [.int s2, .int s1, .ref o], (zS0, R, I, J)) r := by
  rcases ho with rfl | rfl
  · refine zEv_k 2 (f' := (73, [some (.ref 166), some (.int x1), some (.int x2), some (.int x3), some (.int x4), some (.int x5)], [.int 21, .ref 166, .int s2, .int s1, .ref 166], (zS0, R, I, J))) rfl ?_
    exact zEv_c (fun _ => rfl) rfl hc rfl rfl k1
  · refine zEv_k 2 (f' := (73, [some (.ref 198), some (.int x1), some (.int x2), some (.int x3), some (.int x4), some (.int x5)], [.int 21, .ref 198, .int s2, .int s1, .ref 198], (zS0, R, I, J))) rfl ?_
    exact zEv_c (fun _ => rfl) rfl hc rfl rfl k1
theorem b_74_76 {X : zX} {d : Nat} {R : zR} {I : zI} {J : zJ} {r : zA} {o : Nat} {x1 : Int32} {x2 : Int32} {x3 : Int32} {x4 : Int32} {x5 : Int32} {s1 : Int32} {s2 : Int32} {s3 : Int32} (ho : o = 166 ∨ o = 198) (k1 : zEv X d zm_74 (80, [some (.ref o), some (.int x1), some (.int x2), some (.int x3), some (.int x4), some (.int x5)], [.int s3, .int s2, .int s1, .ref o], (zS0, R, I, J)) r) : zEv X d zm_74 (76, [some (.ref o), some (.int x1), some (.int x2), some (.int x3), some (.int x4), some (.int x5)], [.int s3, .int s2, .int s1, .ref o], (zS0, R, I, J)) r := by
  rcases ho with rfl | rfl
  · refine zEv_k 1 (f' := (80, [some (.ref 166), some (.int x1), some (.int x2), some (.int x3), some (.int x4), some (.int x5)], [.int s3, .int s2, .int s1, .ref 166], (zS0, R, I, J))) rfl ?_
    exact k1
  · refine zEv_k 1 (f' := (80, [some (.ref 198), some (.int x1), some (.int x2), some (.int x3), some (.int x4), some (.int x5)], [.int s3, .int s2, .int s1, .ref 198], (zS0, R, I, J))) rfl ?_
    exact k1
theorem b_74_79 {X : zX} {d : Nat} {R : zR} {I : zI} {J : zJ} {r : zA} {o : Nat} {x1 : Int32} {x2 : Int32} {x3 : Int32} {x4 : Int32} {x5 : Int32} {s1 : Int32} {s2 : Int32} (ho : o = 166 ∨ o = 198) (k1 : zEv X d zm_74 (80, [some (.ref o), some (.int x1), some (.int x2), some (.int x3), some (.int x4), some (.int x5)], [.int (-1), .int s2, .int s1, .ref o], (zS0, R, I, J)) r) : zEv X d zm_74 (79, [some (.ref o), some (.int x1), some (.int x2), some (.int x3), some (.int x4), some (.int x5)], [.int s2, .int s1, .ref o], (zS0, R, I, J)) r := by
  rcases ho with rfl | rfl
  · refine zEv_k 1 (f' := (80, [some (.ref 166), some (.int x1), some (.int x2), some (.int x3), some (.int x4), some (.int x5)], [.int (-1), .int s2, .int s1, .ref 166], (zS0, R, I, J))) rfl ?_
    exact k1
  · refine zEv_k 1 (f' := (80, [some (.ref 198), some (.int x1), some (.int x2), some (.int x3), some (.int x4), some (.int x5)], [.int (-1), .int s2, .int s1, .ref 198], (zS0, R, I, J))) rfl ?_
    exact k1
theorem b_74_80 {X : zX} {d : Nat} {R : zR} {I : zI} {J : zJ} {r : zA} {o : Nat} {x1 : Int32} {x2 : Int32} {x3 : Int32} {x4 : Int32} {x5 : Int32} {s1 : Int32} {s2 : Int32} {s3 : Int32} {w : Int32} {R' : zR} {I' : zI} {J' : zJ} (ho : o = 166 ∨ o = 198) (hc : zEv X d zm_72 (0, [some (.ref o), some (.int s1), some (.int s2), some (.int s3)], [], (zS0, R, I, J)) (some (.int w), (zS0, R', I', J'))) (k1 : zEv X (d + 1) zm_74 (83, [some (.ref o), some (.int x1), some (.int x2), some (.int x3), some (.int x4), some (.int x5)], [.int w], (zS0, R', I', J')) r) : zEv X (d + 1) zm_74 (80, [some (.ref o), some (.int x1), some (.int x2), some (.int x3), some (.int x4), some (.int x5)], [.int s3, .int s2, .int s1, .ref o], (zS0, R, I, J)) r := by
  rcases ho with rfl | rfl
  · exact zEv_c (fun _ => rfl) rfl hc rfl rfl k1
  · exact zEv_c (fun _ => rfl) rfl hc rfl rfl k1
theorem b_74_83 {X : zX} {d : Nat} {R : zR} {I : zI} {J : zJ} {r : zA} {o : Nat} {x1 : Int32} {x2 : Int32} {x3 : Int32} {x4 : Int32} {x5 : Int32} {s0 : Int32} (ho : o = 166 ∨ o = 198) (k1 : zEv X d zm_74 (84, [some (.ref o), some (.int x1), some (.int x2), some (.int x3), some (.int x4), some (.int x5)], [], (zS0, R, I, J)) r) : zEv X d zm_74 (83, [some (.ref o), some (.int x1), some (.int x2), some (.int x3), some (.int x4), some (.int x5)], [.int s0], (zS0, R, I, J)) r := by
  rcases ho with rfl | rfl
  · refine zEv_k 1 (f' := (84, [some (.ref 166), some (.int x1), some (.int x2), some (.int x3), some (.int x4), some (.int x5)], [], (zS0, R, I, J))) rfl ?_
    exact k1
  · refine zEv_k 1 (f' := (84, [some (.ref 198), some (.int x1), some (.int x2), some (.int x3), some (.int x4), some (.int x5)], [], (zS0, R, I, J))) rfl ?_
    exact k1
theorem b_74_84 {X : zX} {d : Nat} {R : zR} {I : zI} {J : zJ} {r : zA} {o : Nat} {x1 : Int32} {x2 : Int32} {x3 : Int32} {x4 : Int32} {x5 : Option Value} (ho : o = 166 ∨ o = 198) (k1 : zEv X d zm_74 (7, [some (.ref o), some (.int x1), some (.int x2), some (.int (x3 + 1)), some (.int x4), x5], [], (zS0, R, I, J)) r) : zEv X d zm_74 (84, [some (.ref o), some (.int x1), some (.int x2), some (.int x3), some (.int x4), x5], [], (zS0, R, I, J)) r := by
  rcases ho with rfl | rfl
  · refine zEv_k 2 (f' := (7, [some (.ref 166), some (.int x1), some (.int x2), some (.int (x3 + 1)), some (.int x4), x5], [], (zS0, R, I, J))) rfl ?_
    exact k1
  · refine zEv_k 2 (f' := (7, [some (.ref 198), some (.int x1), some (.int x2), some (.int (x3 + 1)), some (.int x4), x5], [], (zS0, R, I, J))) rfl ?_
    exact k1
theorem b_74_90 {X : zX} {d : Nat} {R : zR} {I : zI} {J : zJ} {o : Nat} {x1 : Int32} {x2 : Int32} {x3 : Int32} {x4 : Option Value} {x5 : Option Value} (ho : o = 166 ∨ o = 198) : zEv X d zm_74 (90, [some (.ref o), some (.int x1), some (.int x2), some (.int x3), x4, x5], [], (zS0, R, I, J)) (none, (zS0, R, I, J)) := by
  rcases ho with rfl | rfl
  · exact zEv_r rfl
  · exact zEv_r rfl
theorem b_75_0 {X : zX} {d : Nat} {R : zR} {I : zI} {J : zJ} {r : zA} {o : Nat} {x1 : Int32} (ho : o = 166 ∨ o = 198) (k0 : x1 = 0 → zEv X d zm_75 (40, [some (.ref o), some (.int x1), none], [], (zS0, R, I, J)) r) (k1 : x1 = 1 → zEv X d zm_75 (45, [some (.ref o), some (.int x1), none], [], (zS0, R, I, J)) r) (k2 : x1 = 2 → zEv X d zm_75 (50, [some (.ref o), some (.int x1), none], [], (zS0, R, I, J)) r) (k3 : x1 = 3 → zEv X d zm_75 (55, [some (.ref o), some (.int x1), none], [], (zS0, R, I, J)) r) (k4 : x1 = 4 → zEv X d zm_75 (60, [some (.ref o), some (.int x1), none], [], (zS0, R, I, J)) r) (k5 : x1 = 5 → zEv X d zm_75 (65, [some (.ref o), some (.int x1), none], [], (zS0, R, I, J)) r) (kd : ¬ (0 ≤ (x1 : Int32).toInt ∧ (x1 : Int32).toInt ≤ 5) → zEv X d zm_75 (70, [some (.ref o), some (.int x1), none], [], (zS0, R, I, J)) r) : zEv X d zm_75 (0, [some (.ref o), some (.int x1), none], [], (zS0, R, I, J)) r := by
  rcases ho with rfl | rfl
  · refine zEv_k 1 (f' := (1, [some (.ref 166), some (.int x1), none], [.int x1], (zS0, R, I, J))) rfl ?_
    refine zEv_ts rfl (by decide) (by decide) (by decide) (fun hh => ?_) (fun j hj hh => ?_)
    · exact kd (by omega)
    · rcases (by have hj2 : j < 6 := hj; omega : j = 0 ∨ j = 1 ∨ j = 2 ∨ j = 3 ∨ j = 4 ∨ j = 5) with rfl | rfl | rfl | rfl | rfl | rfl
      · exact k0 (zeqI hh (by decide))
      · exact k1 (zeqI hh (by decide))
      · exact k2 (zeqI hh (by decide))
      · exact k3 (zeqI hh (by decide))
      · exact k4 (zeqI hh (by decide))
      · exact k5 (zeqI hh (by decide))
  · refine zEv_k 1 (f' := (1, [some (.ref 198), some (.int x1), none], [.int x1], (zS0, R, I, J))) rfl ?_
    refine zEv_ts rfl (by decide) (by decide) (by decide) (fun hh => ?_) (fun j hj hh => ?_)
    · exact kd (by omega)
    · rcases (by have hj2 : j < 6 := hj; omega : j = 0 ∨ j = 1 ∨ j = 2 ∨ j = 3 ∨ j = 4 ∨ j = 5) with rfl | rfl | rfl | rfl | rfl | rfl
      · exact k0 (zeqI hh (by decide))
      · exact k1 (zeqI hh (by decide))
      · exact k2 (zeqI hh (by decide))
      · exact k3 (zeqI hh (by decide))
      · exact k4 (zeqI hh (by decide))
      · exact k5 (zeqI hh (by decide))
theorem b_75_40 {X : zX} {d : Nat} {R : zR} {I : zI} {J : zJ} {o : Nat} {x1 : Int32} (ho : o = 166 ∨ o = 198) : zEv X d zm_75 (40, [some (.ref o), some (.int x1), none], [], (zS0, R, I, J)) (some (.int (I o 0)), (zS0, R, I, J)) := by
  rcases ho with rfl | rfl
  · refine zEv_k 2 (f' := (44, [some (.ref 166), some (.int x1), none], [.int (I 166 0)], (zS0, R, I, J))) rfl ?_
    exact zEv_r rfl
  · refine zEv_k 2 (f' := (44, [some (.ref 198), some (.int x1), none], [.int (I 198 0)], (zS0, R, I, J))) rfl ?_
    exact zEv_r rfl
theorem b_75_45 {X : zX} {d : Nat} {R : zR} {I : zI} {J : zJ} {o : Nat} {x1 : Int32} (ho : o = 166 ∨ o = 198) : zEv X d zm_75 (45, [some (.ref o), some (.int x1), none], [], (zS0, R, I, J)) (some (.int (I o 11)), (zS0, R, I, J)) := by
  rcases ho with rfl | rfl
  · refine zEv_k 2 (f' := (49, [some (.ref 166), some (.int x1), none], [.int (I 166 11)], (zS0, R, I, J))) rfl ?_
    exact zEv_r rfl
  · refine zEv_k 2 (f' := (49, [some (.ref 198), some (.int x1), none], [.int (I 198 11)], (zS0, R, I, J))) rfl ?_
    exact zEv_r rfl
theorem b_75_50 {X : zX} {d : Nat} {R : zR} {I : zI} {J : zJ} {o : Nat} {x1 : Int32} (ho : o = 166 ∨ o = 198) : zEv X d zm_75 (50, [some (.ref o), some (.int x1), none], [], (zS0, R, I, J)) (some (.int (I o 1)), (zS0, R, I, J)) := by
  rcases ho with rfl | rfl
  · refine zEv_k 2 (f' := (54, [some (.ref 166), some (.int x1), none], [.int (I 166 1)], (zS0, R, I, J))) rfl ?_
    exact zEv_r rfl
  · refine zEv_k 2 (f' := (54, [some (.ref 198), some (.int x1), none], [.int (I 198 1)], (zS0, R, I, J))) rfl ?_
    exact zEv_r rfl
theorem b_75_55 {X : zX} {d : Nat} {R : zR} {I : zI} {J : zJ} {o : Nat} {x1 : Int32} (ho : o = 166 ∨ o = 198) : zEv X d zm_75 (55, [some (.ref o), some (.int x1), none], [], (zS0, R, I, J)) (some (.int (I o 2)), (zS0, R, I, J)) := by
  rcases ho with rfl | rfl
  · refine zEv_k 2 (f' := (59, [some (.ref 166), some (.int x1), none], [.int (I 166 2)], (zS0, R, I, J))) rfl ?_
    exact zEv_r rfl
  · refine zEv_k 2 (f' := (59, [some (.ref 198), some (.int x1), none], [.int (I 198 2)], (zS0, R, I, J))) rfl ?_
    exact zEv_r rfl
theorem b_75_60 {X : zX} {d : Nat} {R : zR} {I : zI} {J : zJ} {o : Nat} {x1 : Int32} (ho : o = 166 ∨ o = 198) : zEv X d zm_75 (60, [some (.ref o), some (.int x1), none], [], (zS0, R, I, J)) (some (.int (I o 12)), (zS0, R, I, J)) := by
  rcases ho with rfl | rfl
  · refine zEv_k 2 (f' := (64, [some (.ref 166), some (.int x1), none], [.int (I 166 12)], (zS0, R, I, J))) rfl ?_
    exact zEv_r rfl
  · refine zEv_k 2 (f' := (64, [some (.ref 198), some (.int x1), none], [.int (I 198 12)], (zS0, R, I, J))) rfl ?_
    exact zEv_r rfl
theorem b_75_65 {X : zX} {d : Nat} {R : zR} {I : zI} {J : zJ} {o : Nat} {x1 : Int32} (ho : o = 166 ∨ o = 198) : zEv X d zm_75 (65, [some (.ref o), some (.int x1), none], [], (zS0, R, I, J)) (some (.int (I o 13)), (zS0, R, I, J)) := by
  rcases ho with rfl | rfl
  · refine zEv_k 2 (f' := (69, [some (.ref 166), some (.int x1), none], [.int (I 166 13)], (zS0, R, I, J))) rfl ?_
    exact zEv_r rfl
  · refine zEv_k 2 (f' := (69, [some (.ref 198), some (.int x1), none], [.int (I 198 13)], (zS0, R, I, J))) rfl ?_
    exact zEv_r rfl
theorem b_75_70 {X : zX} {d : Nat} {R : zR} {I : zI} {J : zJ} {r : zA} {o : Nat} {x1 : Int32} (ho : o = 166 ∨ o = 198) (k1 : x1 < 0 → zEv X d zm_75 (90, [some (.ref o), some (.int x1), some (.int (x1 - x1 / 10 * 10))], [], (zS0, R, I, J)) r) (k2 : ¬ (x1 < 0) → zEv X d zm_75 (79, [some (.ref o), some (.int x1), some (.int (x1 - x1 / 10 * 10))], [], (zS0, R, I, J)) r) : zEv X d zm_75 (70, [some (.ref o), some (.int x1), none], [], (zS0, R, I, J)) r := by
  rcases ho with rfl | rfl
  · refine zEv_k 2 (f' := (73, [some (.ref 166), some (.int x1), none], [.int 10, .int x1], (zS0, R, I, J))) rfl ?_
    refine zEv_rem rfl (by decide) ?_
    refine zEv_k 3 (f' := (if x1 < 0 then 90 else 79, [some (.ref 166), some (.int x1), some (.int (x1 - x1 / 10 * 10))], [], (zS0, R, I, J))) rfl ?_
    exact zEv_if k1 k2
  · refine zEv_k 2 (f' := (73, [some (.ref 198), some (.int x1), none], [.int 10, .int x1], (zS0, R, I, J))) rfl ?_
    refine zEv_rem rfl (by decide) ?_
    refine zEv_k 3 (f' := (if x1 < 0 then 90 else 79, [some (.ref 198), some (.int x1), some (.int (x1 - x1 / 10 * 10))], [], (zS0, R, I, J))) rfl ?_
    exact zEv_if k1 k2
theorem b_75_79 {X : zX} {d : Nat} {R : zR} {I : zI} {J : zJ} {r : zA} {o : Nat} {cr : Nat} {x1 : Int32} {x2 : Int32} {w : Int32} {R' : zR} {I' : zI} {J' : zJ} (ho : (o = 166 ∧ cr = 7) ∨ (o = 166 ∧ cr = 22) ∨ (o = 198 ∧ cr = 7) ∨ (o = 198 ∧ cr = 22)) (hcr : R o 10 = some cr) (hc : zEv X d zm_6 (0, [some (.ref cr), some (.int x2)], [], (zS0, R, I, J)) (some (.int w), (zS0, R', I', J'))) (k1 : zEv X (d + 1) zm_75 (87, [some (.ref o), some (.int x1), some (.int x2)], [.int w], (zS0, R', I', J')) r) : zEv X (d + 1) zm_75 (79, [some (.ref o), some (.int x1), some (.int x2)], [], (zS0, R, I, J)) r := by
  rcases ho with ⟨rfl, rfl⟩ | ⟨rfl, rfl⟩ | ⟨rfl, rfl⟩ | ⟨rfl, rfl⟩
  · refine zEv_k 1 (f' := (80, [some (.ref 166), some (.int x1), some (.int x2)], [.ref 166], (zS0, R, I, J))) rfl ?_
    refine zEv_gr rfl rfl rfl (by decide) hcr ?_
    refine zEv_k 1 (f' := (84, [some (.ref 166), some (.int x1), some (.int x2)], [.int x2, .ref 7], (zS0, R, I, J))) rfl ?_
    exact zEv_c (fun _ => rfl) rfl hc rfl rfl k1
  · refine zEv_k 1 (f' := (80, [some (.ref 166), some (.int x1), some (.int x2)], [.ref 166], (zS0, R, I, J))) rfl ?_
    refine zEv_gr rfl rfl rfl (by decide) hcr ?_
    refine zEv_k 1 (f' := (84, [some (.ref 166), some (.int x1), some (.int x2)], [.int x2, .ref 22], (zS0, R, I, J))) rfl ?_
    exact zEv_c (fun _ => rfl) rfl hc rfl rfl k1
  · refine zEv_k 1 (f' := (80, [some (.ref 198), some (.int x1), some (.int x2)], [.ref 198], (zS0, R, I, J))) rfl ?_
    refine zEv_gr rfl rfl rfl (by decide) hcr ?_
    refine zEv_k 1 (f' := (84, [some (.ref 198), some (.int x1), some (.int x2)], [.int x2, .ref 7], (zS0, R, I, J))) rfl ?_
    exact zEv_c (fun _ => rfl) rfl hc rfl rfl k1
  · refine zEv_k 1 (f' := (80, [some (.ref 198), some (.int x1), some (.int x2)], [.ref 198], (zS0, R, I, J))) rfl ?_
    refine zEv_gr rfl rfl rfl (by decide) hcr ?_
    refine zEv_k 1 (f' := (84, [some (.ref 198), some (.int x1), some (.int x2)], [.int x2, .ref 22], (zS0, R, I, J))) rfl ?_
    exact zEv_c (fun _ => rfl) rfl hc rfl rfl k1
theorem b_75_87 {X : zX} {d : Nat} {R : zR} {I : zI} {J : zJ} {r : zA} {o : Nat} {x1 : Int32} {x2 : Int32} {s0 : Int32} (ho : o = 166 ∨ o = 198) (k1 : ¬ s0 = 0 → zEv X d zm_75 (92, [some (.ref o), some (.int x1), some (.int x2)], [], (zS0, R, I, J)) r) (k2 : ¬ (¬ s0 = 0) → zEv X d zm_75 (90, [some (.ref o), some (.int x1), some (.int x2)], [], (zS0, R, I, J)) r) : zEv X d zm_75 (87, [some (.ref o), some (.int x1), some (.int x2)], [.int s0], (zS0, R, I, J)) r := by
  rcases ho with rfl | rfl
  · refine zEv_k 1 (f' := (if ¬ s0 = 0 then 92 else 90, [some (.ref 166), some (.int x1), some (.int x2)], [], (zS0, R, I, J))) rfl ?_
    exact zEv_if k1 k2
  · refine zEv_k 1 (f' := (if ¬ s0 = 0 then 92 else 90, [some (.ref 198), some (.int x1), some (.int x2)], [], (zS0, R, I, J))) rfl ?_
    exact zEv_if k1 k2
theorem b_75_90 {X : zX} {d : Nat} {R : zR} {I : zI} {J : zJ} {o : Nat} {x1 : Int32} {x2 : Int32} (ho : o = 166 ∨ o = 198) : zEv X d zm_75 (90, [some (.ref o), some (.int x1), some (.int x2)], [], (zS0, R, I, J)) (some (.int (-1)), (zS0, R, I, J)) := by
  rcases ho with rfl | rfl
  · refine zEv_k 1 (f' := (91, [some (.ref 166), some (.int x1), some (.int x2)], [.int (-1)], (zS0, R, I, J))) rfl ?_
    exact zEv_r rfl
  · refine zEv_k 1 (f' := (91, [some (.ref 198), some (.int x1), some (.int x2)], [.int (-1)], (zS0, R, I, J))) rfl ?_
    exact zEv_r rfl
theorem b_75_92 {X : zX} {d : Nat} {R : zR} {I : zI} {J : zJ} {r : zA} {o : Nat} {x1 : Int32} {x2 : Int32} (ho : o = 166 ∨ o = 198) (k0 : (x1 / 10) = 1 → zEv X d zm_75 (128, [some (.ref o), some (.int x1), some (.int x2)], [], (zS0, R, I, J)) r) (k1 : (x1 / 10) = 2 → zEv X d zm_75 (135, [some (.ref o), some (.int x1), some (.int x2)], [], (zS0, R, I, J)) r) (k2 : (x1 / 10) = 3 → zEv X d zm_75 (142, [some (.ref o), some (.int x1), some (.int x2)], [], (zS0, R, I, J)) r) (k3 : (x1 / 10) = 4 → zEv X d zm_75 (149, [some (.ref o), some (.int x1), some (.int x2)], [], (zS0, R, I, J)) r) (kd : ¬ (1 ≤ (x1 / 10 : Int32).toInt ∧ (x1 / 10 : Int32).toInt ≤ 4) → zEv X d zm_75 (156, [some (.ref o), some (.int x1), some (.int x2)], [], (zS0, R, I, J)) r) : zEv X d zm_75 (92, [some (.ref o), some (.int x1), some (.int x2)], [], (zS0, R, I, J)) r := by
  rcases ho with rfl | rfl
  · refine zEv_k 2 (f' := (95, [some (.ref 166), some (.int x1), some (.int x2)], [.int 10, .int x1], (zS0, R, I, J))) rfl ?_
    refine zEv_div rfl (by decide) ?_
    refine zEv_ts rfl (by decide) (by decide) (by decide) (fun hh => ?_) (fun j hj hh => ?_)
    · exact kd (by omega)
    · rcases (by have hj2 : j < 4 := hj; omega : j = 0 ∨ j = 1 ∨ j = 2 ∨ j = 3) with rfl | rfl | rfl | rfl
      · exact k0 (zeqI hh (by decide))
      · exact k1 (zeqI hh (by decide))
      · exact k2 (zeqI hh (by decide))
      · exact k3 (zeqI hh (by decide))
  · refine zEv_k 2 (f' := (95, [some (.ref 198), some (.int x1), some (.int x2)], [.int 10, .int x1], (zS0, R, I, J))) rfl ?_
    refine zEv_div rfl (by decide) ?_
    refine zEv_ts rfl (by decide) (by decide) (by decide) (fun hh => ?_) (fun j hj hh => ?_)
    · exact kd (by omega)
    · rcases (by have hj2 : j < 4 := hj; omega : j = 0 ∨ j = 1 ∨ j = 2 ∨ j = 3) with rfl | rfl | rfl | rfl
      · exact k0 (zeqI hh (by decide))
      · exact k1 (zeqI hh (by decide))
      · exact k2 (zeqI hh (by decide))
      · exact k3 (zeqI hh (by decide))
theorem b_75_128 {X : zX} {d : Nat} {R : zR} {I : zI} {J : zJ} {o : Nat} {x1 : Int32} {x2 : Int32} (hR : zRok R) (ho : o = 166 ∨ o = 198) (h133 : zin x2 7) : zEv X d zm_75 (128, [some (.ref o), some (.int x1), some (.int x2)], [], (zS0, R, I, J)) (some (.int (I (o + 10) (x2).toNatClampNeg)), (zS0, R, I, J)) := by
  rcases ho with rfl | rfl
  · refine zEv_k 1 (f' := (129, [some (.ref 166), some (.int x1), some (.int x2)], [.ref 166], (zS0, R, I, J))) rfl ?_
    refine zEv_gr rfl rfl rfl (by decide) (hR (166) 16 (166 + 10) rfl) ?_
    refine zEv_k 1 (f' := (133, [some (.ref 166), some (.int x1), some (.int x2)], [.int x2, .ref (166 + 10)], (zS0, R, I, J))) rfl ?_
    refine zEv_ial rfl rfl (by decide) h133 ?_
    exact zEv_r rfl
  · refine zEv_k 1 (f' := (129, [some (.ref 198), some (.int x1), some (.int x2)], [.ref 198], (zS0, R, I, J))) rfl ?_
    refine zEv_gr rfl rfl rfl (by decide) (hR (198) 16 (198 + 10) rfl) ?_
    refine zEv_k 1 (f' := (133, [some (.ref 198), some (.int x1), some (.int x2)], [.int x2, .ref (198 + 10)], (zS0, R, I, J))) rfl ?_
    refine zEv_ial rfl rfl (by decide) h133 ?_
    exact zEv_r rfl
theorem b_75_135 {X : zX} {d : Nat} {R : zR} {I : zI} {J : zJ} {o : Nat} {x1 : Int32} {x2 : Int32} (hR : zRok R) (ho : o = 166 ∨ o = 198) (h140 : zin x2 7) : zEv X d zm_75 (135, [some (.ref o), some (.int x1), some (.int x2)], [], (zS0, R, I, J)) (some (.int (I (o + 11) (x2).toNatClampNeg)), (zS0, R, I, J)) := by
  rcases ho with rfl | rfl
  · refine zEv_k 1 (f' := (136, [some (.ref 166), some (.int x1), some (.int x2)], [.ref 166], (zS0, R, I, J))) rfl ?_
    refine zEv_gr rfl rfl rfl (by decide) (hR (166) 17 (166 + 11) rfl) ?_
    refine zEv_k 1 (f' := (140, [some (.ref 166), some (.int x1), some (.int x2)], [.int x2, .ref (166 + 11)], (zS0, R, I, J))) rfl ?_
    refine zEv_ial rfl rfl (by decide) h140 ?_
    exact zEv_r rfl
  · refine zEv_k 1 (f' := (136, [some (.ref 198), some (.int x1), some (.int x2)], [.ref 198], (zS0, R, I, J))) rfl ?_
    refine zEv_gr rfl rfl rfl (by decide) (hR (198) 17 (198 + 11) rfl) ?_
    refine zEv_k 1 (f' := (140, [some (.ref 198), some (.int x1), some (.int x2)], [.int x2, .ref (198 + 11)], (zS0, R, I, J))) rfl ?_
    refine zEv_ial rfl rfl (by decide) h140 ?_
    exact zEv_r rfl
theorem b_75_142 {X : zX} {d : Nat} {R : zR} {I : zI} {J : zJ} {o : Nat} {x1 : Int32} {x2 : Int32} (hR : zRok R) (ho : o = 166 ∨ o = 198) (h147 : zin x2 7) : zEv X d zm_75 (142, [some (.ref o), some (.int x1), some (.int x2)], [], (zS0, R, I, J)) (some (.int (I (o + 12) (x2).toNatClampNeg)), (zS0, R, I, J)) := by
  rcases ho with rfl | rfl
  · refine zEv_k 1 (f' := (143, [some (.ref 166), some (.int x1), some (.int x2)], [.ref 166], (zS0, R, I, J))) rfl ?_
    refine zEv_gr rfl rfl rfl (by decide) (hR (166) 18 (166 + 12) rfl) ?_
    refine zEv_k 1 (f' := (147, [some (.ref 166), some (.int x1), some (.int x2)], [.int x2, .ref (166 + 12)], (zS0, R, I, J))) rfl ?_
    refine zEv_ial rfl rfl (by decide) h147 ?_
    exact zEv_r rfl
  · refine zEv_k 1 (f' := (143, [some (.ref 198), some (.int x1), some (.int x2)], [.ref 198], (zS0, R, I, J))) rfl ?_
    refine zEv_gr rfl rfl rfl (by decide) (hR (198) 18 (198 + 12) rfl) ?_
    refine zEv_k 1 (f' := (147, [some (.ref 198), some (.int x1), some (.int x2)], [.int x2, .ref (198 + 12)], (zS0, R, I, J))) rfl ?_
    refine zEv_ial rfl rfl (by decide) h147 ?_
    exact zEv_r rfl
theorem b_75_149 {X : zX} {d : Nat} {R : zR} {I : zI} {J : zJ} {o : Nat} {x1 : Int32} {x2 : Int32} (hR : zRok R) (ho : o = 166 ∨ o = 198) (h154 : zin x2 7) : zEv X d zm_75 (149, [some (.ref o), some (.int x1), some (.int x2)], [], (zS0, R, I, J)) (some (.int (I (o + 13) (x2).toNatClampNeg)), (zS0, R, I, J)) := by
  rcases ho with rfl | rfl
  · refine zEv_k 1 (f' := (150, [some (.ref 166), some (.int x1), some (.int x2)], [.ref 166], (zS0, R, I, J))) rfl ?_
    refine zEv_gr rfl rfl rfl (by decide) (hR (166) 19 (166 + 13) rfl) ?_
    refine zEv_k 1 (f' := (154, [some (.ref 166), some (.int x1), some (.int x2)], [.int x2, .ref (166 + 13)], (zS0, R, I, J))) rfl ?_
    refine zEv_ial rfl rfl (by decide) h154 ?_
    exact zEv_r rfl
  · refine zEv_k 1 (f' := (150, [some (.ref 198), some (.int x1), some (.int x2)], [.ref 198], (zS0, R, I, J))) rfl ?_
    refine zEv_gr rfl rfl rfl (by decide) (hR (198) 19 (198 + 13) rfl) ?_
    refine zEv_k 1 (f' := (154, [some (.ref 198), some (.int x1), some (.int x2)], [.int x2, .ref (198 + 13)], (zS0, R, I, J))) rfl ?_
    refine zEv_ial rfl rfl (by decide) h154 ?_
    exact zEv_r rfl
theorem b_75_156 {X : zX} {d : Nat} {R : zR} {I : zI} {J : zJ} {o : Nat} {x1 : Int32} {x2 : Int32} (ho : o = 166 ∨ o = 198) : zEv X d zm_75 (156, [some (.ref o), some (.int x1), some (.int x2)], [], (zS0, R, I, J)) (some (.int (-1)), (zS0, R, I, J)) := by
  rcases ho with rfl | rfl
  · refine zEv_k 1 (f' := (157, [some (.ref 166), some (.int x1), some (.int x2)], [.int (-1)], (zS0, R, I, J))) rfl ?_
    exact zEv_r rfl
  · refine zEv_k 1 (f' := (157, [some (.ref 198), some (.int x1), some (.int x2)], [.int (-1)], (zS0, R, I, J))) rfl ?_
    exact zEv_r rfl
theorem b_76_0 {X : zX} {d : Nat} {R : zR} {I : zI} {J : zJ} {r : zA} {o : Nat} (ho : o = 166 ∨ o = 198) (k1 : zEv X d zm_76 (2, [some (.ref o), some (.int 1)], [], (zS0, R, I, J)) r) : zEv X d zm_76 (0, [some (.ref o), none], [], (zS0, R, I, J)) r := by
  rcases ho with rfl | rfl
  · refine zEv_k 2 (f' := (2, [some (.ref 166), some (.int 1)], [], (zS0, R, I, J))) rfl ?_
    exact k1
  · refine zEv_k 2 (f' := (2, [some (.ref 198), some (.int 1)], [], (zS0, R, I, J))) rfl ?_
    exact k1
theorem b_76_2 {X : zX} {d : Nat} {R : zR} {I : zI} {J : zJ} {r : zA} {o : Nat} {x1 : Int32} (ho : o = 166 ∨ o = 198) (k1 : 50 < x1 → zEv X d zm_76 (25, [some (.ref o), some (.int x1)], [], (zS0, R, I, J)) r) (k2 : ¬ (50 < x1) → zEv X d zm_76 (8, [some (.ref o), some (.int x1)], [], (zS0, R, I, J)) r) : zEv X d zm_76 (2, [some (.ref o), some (.int x1)], [], (zS0, R, I, J)) r := by
  rcases ho with rfl | rfl
  · refine zEv_k 3 (f' := (if 50 < x1 then 25 else 8, [some (.ref 166), some (.int x1)], [], (zS0, R, I, J))) rfl ?_
    exact zEv_if k1 k2
  · refine zEv_k 3 (f' := (if 50 < x1 then 25 else 8, [some (.ref 198), some (.int x1)], [], (zS0, R, I, J))) rfl ?_
    exact zEv_if k1 k2
theorem b_76_8 {X : zX} {d : Nat} {R : zR} {I : zI} {J : zJ} {r : zA} {o : Nat} {x1 : Int32} (hR : zRok R) (ho : o = 166 ∨ o = 198) (h13 : zin x1 51) (k1 : (I (o + 1) (x1).toNatClampNeg) ≤ 0 → zEv X d zm_76 (19, [some (.ref o), some (.int x1)], [], (zS0, R, I, J)) r) (k2 : ¬ ((I (o + 1) (x1).toNatClampNeg) ≤ 0) → zEv X d zm_76 (17, [some (.ref o), some (.int x1)], [], (zS0, R, I, J)) r) : zEv X d zm_76 (8, [some (.ref o), some (.int x1)], [], (zS0, R, I, J)) r := by
  rcases ho with rfl | rfl
  · refine zEv_k 1 (f' := (9, [some (.ref 166), some (.int x1)], [.ref 166], (zS0, R, I, J))) rfl ?_
    refine zEv_gr rfl rfl rfl (by decide) (hR (166) 5 (166 + 1) rfl) ?_
    refine zEv_k 1 (f' := (13, [some (.ref 166), some (.int x1)], [.int x1, .ref (166 + 1)], (zS0, R, I, J))) rfl ?_
    refine zEv_ial rfl rfl (by decide) h13 ?_
    refine zEv_k 1 (f' := (if (I (166 + 1) (x1).toNatClampNeg) ≤ 0 then 19 else 17, [some (.ref 166), some (.int x1)], [], (zS0, R, I, J))) rfl ?_
    exact zEv_if k1 k2
  · refine zEv_k 1 (f' := (9, [some (.ref 198), some (.int x1)], [.ref 198], (zS0, R, I, J))) rfl ?_
    refine zEv_gr rfl rfl rfl (by decide) (hR (198) 5 (198 + 1) rfl) ?_
    refine zEv_k 1 (f' := (13, [some (.ref 198), some (.int x1)], [.int x1, .ref (198 + 1)], (zS0, R, I, J))) rfl ?_
    refine zEv_ial rfl rfl (by decide) h13 ?_
    refine zEv_k 1 (f' := (if (I (198 + 1) (x1).toNatClampNeg) ≤ 0 then 19 else 17, [some (.ref 198), some (.int x1)], [], (zS0, R, I, J))) rfl ?_
    exact zEv_if k1 k2
theorem b_76_17 {X : zX} {d : Nat} {R : zR} {I : zI} {J : zJ} {o : Nat} {x1 : Int32} (ho : o = 166 ∨ o = 198) : zEv X d zm_76 (17, [some (.ref o), some (.int x1)], [], (zS0, R, I, J)) (some (.int x1), (zS0, R, I, J)) := by
  rcases ho with rfl | rfl
  · refine zEv_k 1 (f' := (18, [some (.ref 166), some (.int x1)], [.int x1], (zS0, R, I, J))) rfl ?_
    exact zEv_r rfl
  · refine zEv_k 1 (f' := (18, [some (.ref 198), some (.int x1)], [.int x1], (zS0, R, I, J))) rfl ?_
    exact zEv_r rfl
theorem b_76_19 {X : zX} {d : Nat} {R : zR} {I : zI} {J : zJ} {r : zA} {o : Nat} {x1 : Int32} (ho : o = 166 ∨ o = 198) (k1 : zEv X d zm_76 (2, [some (.ref o), some (.int (x1 + 1))], [], (zS0, R, I, J)) r) : zEv X d zm_76 (19, [some (.ref o), some (.int x1)], [], (zS0, R, I, J)) r := by
  rcases ho with rfl | rfl
  · refine zEv_k 2 (f' := (2, [some (.ref 166), some (.int (x1 + 1))], [], (zS0, R, I, J))) rfl ?_
    exact k1
  · refine zEv_k 2 (f' := (2, [some (.ref 198), some (.int (x1 + 1))], [], (zS0, R, I, J))) rfl ?_
    exact k1
theorem b_76_25 {X : zX} {d : Nat} {R : zR} {I : zI} {J : zJ} {o : Nat} {x1 : Int32} (ho : o = 166 ∨ o = 198) : zEv X d zm_76 (25, [some (.ref o), some (.int x1)], [], (zS0, R, I, J)) (some (.int (-1)), (zS0, R, I, J)) := by
  rcases ho with rfl | rfl
  · refine zEv_k 1 (f' := (26, [some (.ref 166), some (.int x1)], [.int (-1)], (zS0, R, I, J))) rfl ?_
    exact zEv_r rfl
  · refine zEv_k 1 (f' := (26, [some (.ref 198), some (.int x1)], [.int (-1)], (zS0, R, I, J))) rfl ?_
    exact zEv_r rfl
theorem b_77_0 {X : zX} {d : Nat} {R : zR} {I : zI} {J : zJ} {r : zA} {o : Nat} (ho : o = 166 ∨ o = 198) (k1 : zEv X d zm_77 (6, [some (.ref o), some (.int 0), some (.int (-1)), some (.int 1)], [], (zS0, R, I, J)) r) : zEv X d zm_77 (0, [some (.ref o), none, none, none], [], (zS0, R, I, J)) r := by
  rcases ho with rfl | rfl
  · refine zEv_k 6 (f' := (6, [some (.ref 166), some (.int 0), some (.int (-1)), some (.int 1)], [], (zS0, R, I, J))) rfl ?_
    exact k1
  · refine zEv_k 6 (f' := (6, [some (.ref 198), some (.int 0), some (.int (-1)), some (.int 1)], [], (zS0, R, I, J))) rfl ?_
    exact k1
theorem b_77_6 {X : zX} {d : Nat} {R : zR} {I : zI} {J : zJ} {r : zA} {o : Nat} {x1 : Int32} {x2 : Int32} {x3 : Int32} (ho : o = 166 ∨ o = 198) (k1 : 50 < x3 → zEv X d zm_77 (37, [some (.ref o), some (.int x1), some (.int x2), some (.int x3)], [], (zS0, R, I, J)) r) (k2 : ¬ (50 < x3) → zEv X d zm_77 (12, [some (.ref o), some (.int x1), some (.int x2), some (.int x3)], [], (zS0, R, I, J)) r) : zEv X d zm_77 (6, [some (.ref o), some (.int x1), some (.int x2), some (.int x3)], [], (zS0, R, I, J)) r := by
  rcases ho with rfl | rfl
  · refine zEv_k 3 (f' := (if 50 < x3 then 37 else 12, [some (.ref 166), some (.int x1), some (.int x2), some (.int x3)], [], (zS0, R, I, J))) rfl ?_
    exact zEv_if k1 k2
  · refine zEv_k 3 (f' := (if 50 < x3 then 37 else 12, [some (.ref 198), some (.int x1), some (.int x2), some (.int x3)], [], (zS0, R, I, J))) rfl ?_
    exact zEv_if k1 k2
theorem b_77_12 {X : zX} {d : Nat} {R : zR} {I : zI} {J : zJ} {r : zA} {o : Nat} {x1 : Int32} {x2 : Int32} {x3 : Int32} (hR : zRok R) (ho : o = 166 ∨ o = 198) (h17 : zin x3 51) (k1 : (I (o + 1) (x3).toNatClampNeg) ≤ x1 → zEv X d zm_77 (31, [some (.ref o), some (.int x1), some (.int x2), some (.int x3)], [], (zS0, R, I, J)) r) (k2 : ¬ ((I (o + 1) (x3).toNatClampNeg) ≤ x1) → zEv X d zm_77 (22, [some (.ref o), some (.int x1), some (.int x2), some (.int x3)], [], (zS0, R, I, J)) r) : zEv X d zm_77 (12, [some (.ref o), some (.int x1), some (.int x2), some (.int x3)], [], (zS0, R, I, J)) r := by
  rcases ho with rfl | rfl
  · refine zEv_k 1 (f' := (13, [some (.ref 166), some (.int x1), some (.int x2), some (.int x3)], [.ref 166], (zS0, R, I, J))) rfl ?_
    refine zEv_gr rfl rfl rfl (by decide) (hR (166) 5 (166 + 1) rfl) ?_
    refine zEv_k 1 (f' := (17, [some (.ref 166), some (.int x1), some (.int x2), some (.int x3)], [.int x3, .ref (166 + 1)], (zS0, R, I, J))) rfl ?_
    refine zEv_ial rfl rfl (by decide) h17 ?_
    refine zEv_k 2 (f' := (if (I (166 + 1) (x3).toNatClampNeg) ≤ x1 then 31 else 22, [some (.ref 166), some (.int x1), some (.int x2), some (.int x3)], [], (zS0, R, I, J))) rfl ?_
    exact zEv_if k1 k2
  · refine zEv_k 1 (f' := (13, [some (.ref 198), some (.int x1), some (.int x2), some (.int x3)], [.ref 198], (zS0, R, I, J))) rfl ?_
    refine zEv_gr rfl rfl rfl (by decide) (hR (198) 5 (198 + 1) rfl) ?_
    refine zEv_k 1 (f' := (17, [some (.ref 198), some (.int x1), some (.int x2), some (.int x3)], [.int x3, .ref (198 + 1)], (zS0, R, I, J))) rfl ?_
    refine zEv_ial rfl rfl (by decide) h17 ?_
    refine zEv_k 2 (f' := (if (I (198 + 1) (x3).toNatClampNeg) ≤ x1 then 31 else 22, [some (.ref 198), some (.int x1), some (.int x2), some (.int x3)], [], (zS0, R, I, J))) rfl ?_
    exact zEv_if k1 k2
theorem b_77_22 {X : zX} {d : Nat} {R : zR} {I : zI} {J : zJ} {r : zA} {o : Nat} {x1 : Int32} {x2 : Int32} {x3 : Int32} (hR : zRok R) (ho : o = 166 ∨ o = 198) (h27 : zin x3 51) (k1 : zEv X d zm_77 (31, [some (.ref o), some (.int (I (o + 1) (x3).toNatClampNeg)), some (.int x3), some (.int x3)], [], (zS0, R, I, J)) r) : zEv X d zm_77 (22, [some (.ref o), some (.int x1), some (.int x2), some (.int x3)], [], (zS0, R, I, J)) r := by
  rcases ho with rfl | rfl
  · refine zEv_k 1 (f' := (23, [some (.ref 166), some (.int x1), some (.int x2), some (.int x3)], [.ref 166], (zS0, R, I, J))) rfl ?_
    refine zEv_gr rfl rfl rfl (by decide) (hR (166) 5 (166 + 1) rfl) ?_
    refine zEv_k 1 (f' := (27, [some (.ref 166), some (.int x1), some (.int x2), some (.int x3)], [.int x3, .ref (166 + 1)], (zS0, R, I, J))) rfl ?_
    refine zEv_ial rfl rfl (by decide) h27 ?_
    refine zEv_k 3 (f' := (31, [some (.ref 166), some (.int (I (166 + 1) (x3).toNatClampNeg)), some (.int x3), some (.int x3)], [], (zS0, R, I, J))) rfl ?_
    exact k1
  · refine zEv_k 1 (f' := (23, [some (.ref 198), some (.int x1), some (.int x2), some (.int x3)], [.ref 198], (zS0, R, I, J))) rfl ?_
    refine zEv_gr rfl rfl rfl (by decide) (hR (198) 5 (198 + 1) rfl) ?_
    refine zEv_k 1 (f' := (27, [some (.ref 198), some (.int x1), some (.int x2), some (.int x3)], [.int x3, .ref (198 + 1)], (zS0, R, I, J))) rfl ?_
    refine zEv_ial rfl rfl (by decide) h27 ?_
    refine zEv_k 3 (f' := (31, [some (.ref 198), some (.int (I (198 + 1) (x3).toNatClampNeg)), some (.int x3), some (.int x3)], [], (zS0, R, I, J))) rfl ?_
    exact k1
theorem b_77_31 {X : zX} {d : Nat} {R : zR} {I : zI} {J : zJ} {r : zA} {o : Nat} {x1 : Int32} {x2 : Int32} {x3 : Int32} (ho : o = 166 ∨ o = 198) (k1 : zEv X d zm_77 (6, [some (.ref o), some (.int x1), some (.int x2), some (.int (x3 + 1))], [], (zS0, R, I, J)) r) : zEv X d zm_77 (31, [some (.ref o), some (.int x1), some (.int x2), some (.int x3)], [], (zS0, R, I, J)) r := by
  rcases ho with rfl | rfl
  · refine zEv_k 2 (f' := (6, [some (.ref 166), some (.int x1), some (.int x2), some (.int (x3 + 1))], [], (zS0, R, I, J))) rfl ?_
    exact k1
  · refine zEv_k 2 (f' := (6, [some (.ref 198), some (.int x1), some (.int x2), some (.int (x3 + 1))], [], (zS0, R, I, J))) rfl ?_
    exact k1
theorem b_77_37 {X : zX} {d : Nat} {R : zR} {I : zI} {J : zJ} {o : Nat} {x1 : Int32} {x2 : Int32} {x3 : Int32} (ho : o = 166 ∨ o = 198) : zEv X d zm_77 (37, [some (.ref o), some (.int x1), some (.int x2), some (.int x3)], [], (zS0, R, I, J)) (some (.int x2), (zS0, R, I, J)) := by
  rcases ho with rfl | rfl
  · refine zEv_k 1 (f' := (38, [some (.ref 166), some (.int x1), some (.int x2), some (.int x3)], [.int x2], (zS0, R, I, J))) rfl ?_
    exact zEv_r rfl
  · refine zEv_k 1 (f' := (38, [some (.ref 198), some (.int x1), some (.int x2), some (.int x3)], [.int x2], (zS0, R, I, J))) rfl ?_
    exact zEv_r rfl
theorem b_78_0 {X : zX} {d : Nat} {R : zR} {I : zI} {J : zJ} {r : zA} {o : Nat} (ho : o = 166 ∨ o = 198) (k1 : (I o 0) < 50 → zEv X d zm_78 (11, [some (.ref o), none, none], [], (zS0, R, I, J)) r) (k2 : ¬ ((I o 0) < 50) → zEv X d zm_78 (9, [some (.ref o), none, none], [], (zS0, R, I, J)) r) : zEv X d zm_78 (0, [some (.ref o), none, none], [], (zS0, R, I, J)) r := by
  rcases ho with rfl | rfl
  · refine zEv_k 4 (f' := (if (I 166 0) < 50 then 11 else 9, [some (.ref 166), none, none], [], (zS0, R, I, J))) rfl ?_
    exact zEv_if k1 k2
  · refine zEv_k 4 (f' := (if (I 198 0) < 50 then 11 else 9, [some (.ref 198), none, none], [], (zS0, R, I, J))) rfl ?_
    exact zEv_if k1 k2
theorem b_78_9 {X : zX} {d : Nat} {R : zR} {I : zI} {J : zJ} {o : Nat} (ho : o = 166 ∨ o = 198) : zEv X d zm_78 (9, [some (.ref o), none, none], [], (zS0, R, I, J)) (some (.int 0), (zS0, R, I, J)) := by
  rcases ho with rfl | rfl
  · refine zEv_k 1 (f' := (10, [some (.ref 166), none, none], [.int 0], (zS0, R, I, J))) rfl ?_
    exact zEv_r rfl
  · refine zEv_k 1 (f' := (10, [some (.ref 198), none, none], [.int 0], (zS0, R, I, J))) rfl ?_
    exact zEv_r rfl
theorem b_78_11 {X : zX} {d : Nat} {R : zR} {I : zI} {J : zJ} {r : zA} {o : Nat} (ho : o = 166 ∨ o = 198) (k1 : zEv X d zm_78 (13, [some (.ref o), some (.int 0), none], [], (zS0, R, I, J)) r) : zEv X d zm_78 (11, [some (.ref o), none, none], [], (zS0, R, I, J)) r := by
  rcases ho with rfl | rfl
  · refine zEv_k 2 (f' := (13, [some (.ref 166), some (.int 0), none], [], (zS0, R, I, J))) rfl ?_
    exact k1
  · refine zEv_k 2 (f' := (13, [some (.ref 198), some (.int 0), none], [], (zS0, R, I, J))) rfl ?_
    exact k1
theorem b_78_13 {X : zX} {d : Nat} {R : zR} {I : zI} {J : zJ} {r : zA} {o : Nat} {cr : Nat} {x1 : Int32} (ho : (o = 166 ∧ cr = 7) ∨ (o = 166 ∧ cr = 22) ∨ (o = 198 ∧ cr = 7) ∨ (o = 198 ∧ cr = 22)) (hcr : R o 10 = some cr) (k1 : (I cr 2) ≤ x1 → zEv X d zm_78 (85, [some (.ref o), some (.int x1), none], [], (zS0, R, I, J)) r) (k2 : ¬ ((I cr 2) ≤ x1) → zEv X d zm_78 (24, [some (.ref o), some (.int x1), none], [], (zS0, R, I, J)) r) : zEv X d zm_78 (13, [some (.ref o), some (.int x1), none], [], (zS0, R, I, J)) r := by
  rcases ho with ⟨rfl, rfl⟩ | ⟨rfl, rfl⟩ | ⟨rfl, rfl⟩ | ⟨rfl, rfl⟩
  · refine zEv_k 2 (f' := (15, [some (.ref 166), some (.int x1), none], [.ref 166, .int x1], (zS0, R, I, J))) rfl ?_
    refine zEv_gr rfl rfl rfl (by decide) hcr ?_
    refine zEv_k 2 (f' := (if (I 7 2) ≤ x1 then 85 else 24, [some (.ref 166), some (.int x1), none], [], (zS0, R, I, J))) rfl ?_
    exact zEv_if k1 k2
  · refine zEv_k 2 (f' := (15, [some (.ref 166), some (.int x1), none], [.ref 166, .int x1], (zS0, R, I, J))) rfl ?_
    refine zEv_gr rfl rfl rfl (by decide) hcr ?_
    refine zEv_k 2 (f' := (if (I 22 2) ≤ x1 then 85 else 24, [some (.ref 166), some (.int x1), none], [], (zS0, R, I, J))) rfl ?_
    exact zEv_if k1 k2
  · refine zEv_k 2 (f' := (15, [some (.ref 198), some (.int x1), none], [.ref 198, .int x1], (zS0, R, I, J))) rfl ?_
    refine zEv_gr rfl rfl rfl (by decide) hcr ?_
    refine zEv_k 2 (f' := (if (I 7 2) ≤ x1 then 85 else 24, [some (.ref 198), some (.int x1), none], [], (zS0, R, I, J))) rfl ?_
    exact zEv_if k1 k2
  · refine zEv_k 2 (f' := (15, [some (.ref 198), some (.int x1), none], [.ref 198, .int x1], (zS0, R, I, J))) rfl ?_
    refine zEv_gr rfl rfl rfl (by decide) hcr ?_
    refine zEv_k 2 (f' := (if (I 22 2) ≤ x1 then 85 else 24, [some (.ref 198), some (.int x1), none], [], (zS0, R, I, J))) rfl ?_
    exact zEv_if k1 k2
theorem b_78_24 {X : zX} {d : Nat} {R : zR} {I : zI} {J : zJ} {r : zA} {o : Nat} {x1 : Int32} (ho : o = 166 ∨ o = 198) (k1 : ¬ (zf_cin (I o 2) x1) = 0 → zEv X (d + 1) zm_78 (79, [some (.ref o), some (.int x1), none], [], (zS0, R, I, J)) r) (k2 : ¬ (¬ (zf_cin (I o 2) x1) = 0) → zEv X (d + 1) zm_78 (35, [some (.ref o), some (.int x1), none], [], (zS0, R, I, J)) r) : zEv X (d + 1) zm_78 (24, [some (.ref o), some (.int x1), none], [], (zS0, R, I, J)) r := by
  rcases ho with rfl | rfl
  · refine zEv_k 3 (f' := (29, [some (.ref 166), some (.int x1), none], [.int x1, .int (I 166 2)], (zS0, R, I, J))) rfl ?_
    refine zEv_c (fun _ => rfl) rfl ev_zf_cin rfl rfl ?_
    refine zEv_k 1 (f' := (if ¬ (zf_cin (I 166 2) x1) = 0 then 79 else 35, [some (.ref 166), some (.int x1), none], [], (zS0, R, I, J))) rfl ?_
    exact zEv_if k1 k2
  · refine zEv_k 3 (f' := (29, [some (.ref 198), some (.int x1), none], [.int x1, .int (I 198 2)], (zS0, R, I, J))) rfl ?_
    refine zEv_c (fun _ => rfl) rfl ev_zf_cin rfl rfl ?_
    refine zEv_k 1 (f' := (if ¬ (zf_cin (I 198 2) x1) = 0 then 79 else 35, [some (.ref 198), some (.int x1), none], [], (zS0, R, I, J))) rfl ?_
    exact zEv_if k1 k2
theorem b_78_35 {X : zX} {d : Nat} {R : zR} {I : zI} {J : zJ} {r : zA} {o : Nat} {cr : Nat} {x1 : Int32} (hR : zRok R) (ho : (o = 166 ∧ cr = 7) ∨ (o = 166 ∧ cr = 22) ∨ (o = 198 ∧ cr = 7) ∨ (o = 198 ∧ cr = 22)) (hcr : R o 10 = some cr) (h46 : zin x1 7) (h55 : zin x1 7) (h60 : zin x1 7) (h67 : zin x1 7) (h76 : zin x1 7) (h78 : zin x1 7) (k1 : zEv X d zm_78 (79, [some (.ref o), some (.int x1), none], [], (zS0, R, zu (zu I (o + 10) (x1).toNatClampNeg (if (0 : Int32) < ((I (o + 10) (x1).toNatClampNeg) - (I (cr + 2) (x1).toNatClampNeg)) then ((I (o + 10) (x1).toNatClampNeg) - (I (cr + 2) (x1).toNatClampNeg)) else (0 : Int32))) (o + 11) (x1).toNatClampNeg ((I (o + 11) (x1).toNatClampNeg) + (I (cr + 4) (x1).toNatClampNeg)), J)) r) : zEv X d zm_78 (35, [some (.ref o), some (.int x1), none], [], (zS0, R, I, J)) r := by
  rcases ho with ⟨rfl, rfl⟩ | ⟨rfl, rfl⟩ | ⟨rfl, rfl⟩ | ⟨rfl, rfl⟩
  · refine zEv_k 1 (f' := (36, [some (.ref 166), some (.int x1), none], [.ref 166], (zS0, R, I, J))) rfl ?_
    refine zEv_gr rfl rfl rfl (by decide) (hR (166) 16 (166 + 10) rfl) ?_
    refine zEv_k 3 (f' := (42, [some (.ref 166), some (.int x1), none], [.ref 166, .int 0, .int x1, .ref (166 + 10)], (zS0, R, I, J))) rfl ?_
    refine zEv_gr rfl rfl rfl (by decide) (hR (166) 16 (166 + 10) rfl) ?_
    refine zEv_k 1 (f' := (46, [some (.ref 166), some (.int x1), none], [.int x1, .ref (166 + 10), .int 0, .int x1, .ref (166 + 10)], (zS0, R, I, J))) rfl ?_
    refine zEv_ial rfl rfl (by decide) h46 ?_
    refine zEv_k 1 (f' := (48, [some (.ref 166), some (.int x1), none], [.ref 166, .int (I (166 + 10) (x1).toNatClampNeg), .int 0, .int x1, .ref (166 + 10)], (zS0, R, I, J))) rfl ?_
    refine zEv_gr rfl rfl rfl (by decide) hcr ?_
    refine zEv_gr rfl rfl rfl (by decide) (hR (7) 4 (7 + 2) rfl) ?_
    refine zEv_k 1 (f' := (55, [some (.ref 166), some (.int x1), none], [.int x1, .ref (7 + 2), .int (I (166 + 10) (x1).toNatClampNeg), .int 0, .int x1, .ref (166 + 10)], (zS0, R, I, J))) rfl ?_
    refine zEv_ial rfl rfl (by decide) h55 ?_
    refine zEv_k 2 (f' := (60, [some (.ref 166), some (.int x1), none], [.int (if (0 : Int32) < ((I (166 + 10) (x1).toNatClampNeg) - (I (7 + 2) (x1).toNatClampNeg)) then ((I (166 + 10) (x1).toNatClampNeg) - (I (7 + 2) (x1).toNatClampNeg)) else (0 : Int32)), .int x1, .ref (166 + 10)], (zS0, R, I, J))) rfl ?_
    refine zEv_ias rfl rfl (by decide) h60 ?_
    refine zEv_k 1 (f' := (62, [some (.ref 166), some (.int x1), none], [.ref 166], (zS0, R, zu I (166 + 10) (x1).toNatClampNeg (if (0 : Int32) < ((I (166 + 10) (x1).toNatClampNeg) - (I (7 + 2) (x1).toNatClampNeg)) then ((I (166 + 10) (x1).toNatClampNeg) - (I (7 + 2) (x1).toNatClampNeg)) else (0 : Int32)), J))) rfl ?_
    refine zEv_gr rfl rfl rfl (by decide) (hR (166) 17 (166 + 11) rfl) ?_
    refine zEv_k 2 (f' := (67, [some (.ref 166), some (.int x1), none], [.int x1, .ref (166 + 11), .int x1, .ref (166 + 11)], (zS0, R, zu I (166 + 10) (x1).toNatClampNeg (if (0 : Int32) < ((I (166 + 10) (x1).toNatClampNeg) - (I (7 + 2) (x1).toNatClampNeg)) then ((I (166 + 10) (x1).toNatClampNeg) - (I (7 + 2) (x1).toNatClampNeg)) else (0 : Int32)), J))) rfl ?_
    refine zEv_ial rfl rfl (by decide) h67 ?_
    refine zEv_k 1 (f' := (69, [some (.ref 166), some (.int x1), none], [.ref 166, .int (I (166 + 11) (x1).toNatClampNeg), .int x1, .ref (166 + 11)], (zS0, R, zu I (166 + 10) (x1).toNatClampNeg (if (0 : Int32) < ((I (166 + 10) (x1).toNatClampNeg) - (I (7 + 2) (x1).toNatClampNeg)) then ((I (166 + 10) (x1).toNatClampNeg) - (I (7 + 2) (x1).toNatClampNeg)) else (0 : Int32)), J))) rfl ?_
    refine zEv_gr rfl rfl rfl (by decide) hcr ?_
    refine zEv_gr rfl rfl rfl (by decide) (hR (7) 6 (7 + 4) rfl) ?_
    refine zEv_k 1 (f' := (76, [some (.ref 166), some (.int x1), none], [.int x1, .ref (7 + 4), .int (I (166 + 11) (x1).toNatClampNeg), .int x1, .ref (166 + 11)], (zS0, R, zu I (166 + 10) (x1).toNatClampNeg (if (0 : Int32) < ((I (166 + 10) (x1).toNatClampNeg) - (I (7 + 2) (x1).toNatClampNeg)) then ((I (166 + 10) (x1).toNatClampNeg) - (I (7 + 2) (x1).toNatClampNeg)) else (0 : Int32)), J))) rfl ?_
    refine zEv_ial rfl rfl (by decide) h76 ?_
    refine zEv_k 1 (f' := (78, [some (.ref 166), some (.int x1), none], [.int ((I (166 + 11) (x1).toNatClampNeg) + (I (7 + 4) (x1).toNatClampNeg)), .int x1, .ref (166 + 11)], (zS0, R, zu I (166 + 10) (x1).toNatClampNeg (if (0 : Int32) < ((I (166 + 10) (x1).toNatClampNeg) - (I (7 + 2) (x1).toNatClampNeg)) then ((I (166 + 10) (x1).toNatClampNeg) - (I (7 + 2) (x1).toNatClampNeg)) else (0 : Int32)), J))) rfl ?_
    refine zEv_ias rfl rfl (by decide) h78 ?_
    exact k1
  · refine zEv_k 1 (f' := (36, [some (.ref 166), some (.int x1), none], [.ref 166], (zS0, R, I, J))) rfl ?_
    refine zEv_gr rfl rfl rfl (by decide) (hR (166) 16 (166 + 10) rfl) ?_
    refine zEv_k 3 (f' := (42, [some (.ref 166), some (.int x1), none], [.ref 166, .int 0, .int x1, .ref (166 + 10)], (zS0, R, I, J))) rfl ?_
    refine zEv_gr rfl rfl rfl (by decide) (hR (166) 16 (166 + 10) rfl) ?_
    refine zEv_k 1 (f' := (46, [some (.ref 166), some (.int x1), none], [.int x1, .ref (166 + 10), .int 0, .int x1, .ref (166 + 10)], (zS0, R, I, J))) rfl ?_
    refine zEv_ial rfl rfl (by decide) h46 ?_
    refine zEv_k 1 (f' := (48, [some (.ref 166), some (.int x1), none], [.ref 166, .int (I (166 + 10) (x1).toNatClampNeg), .int 0, .int x1, .ref (166 + 10)], (zS0, R, I, J))) rfl ?_
    refine zEv_gr rfl rfl rfl (by decide) hcr ?_
    refine zEv_gr rfl rfl rfl (by decide) (hR (22) 4 (22 + 2) rfl) ?_
    refine zEv_k 1 (f' := (55, [some (.ref 166), some (.int x1), none], [.int x1, .ref (22 + 2), .int (I (166 + 10) (x1).toNatClampNeg), .int 0, .int x1, .ref (166 + 10)], (zS0, R, I, J))) rfl ?_
    refine zEv_ial rfl rfl (by decide) h55 ?_
    refine zEv_k 2 (f' := (60, [some (.ref 166), some (.int x1), none], [.int (if (0 : Int32) < ((I (166 + 10) (x1).toNatClampNeg) - (I (22 + 2) (x1).toNatClampNeg)) then ((I (166 + 10) (x1).toNatClampNeg) - (I (22 + 2) (x1).toNatClampNeg)) else (0 : Int32)), .int x1, .ref (166 + 10)], (zS0, R, I, J))) rfl ?_
    refine zEv_ias rfl rfl (by decide) h60 ?_
    refine zEv_k 1 (f' := (62, [some (.ref 166), some (.int x1), none], [.ref 166], (zS0, R, zu I (166 + 10) (x1).toNatClampNeg (if (0 : Int32) < ((I (166 + 10) (x1).toNatClampNeg) - (I (22 + 2) (x1).toNatClampNeg)) then ((I (166 + 10) (x1).toNatClampNeg) - (I (22 + 2) (x1).toNatClampNeg)) else (0 : Int32)), J))) rfl ?_
    refine zEv_gr rfl rfl rfl (by decide) (hR (166) 17 (166 + 11) rfl) ?_
    refine zEv_k 2 (f' := (67, [some (.ref 166), some (.int x1), none], [.int x1, .ref (166 + 11), .int x1, .ref (166 + 11)], (zS0, R, zu I (166 + 10) (x1).toNatClampNeg (if (0 : Int32) < ((I (166 + 10) (x1).toNatClampNeg) - (I (22 + 2) (x1).toNatClampNeg)) then ((I (166 + 10) (x1).toNatClampNeg) - (I (22 + 2) (x1).toNatClampNeg)) else (0 : Int32)), J))) rfl ?_
    refine zEv_ial rfl rfl (by decide) h67 ?_
    refine zEv_k 1 (f' := (69, [some (.ref 166), some (.int x1), none], [.ref 166, .int (I (166 + 11) (x1).toNatClampNeg), .int x1, .ref (166 + 11)], (zS0, R, zu I (166 + 10) (x1).toNatClampNeg (if (0 : Int32) < ((I (166 + 10) (x1).toNatClampNeg) - (I (22 + 2) (x1).toNatClampNeg)) then ((I (166 + 10) (x1).toNatClampNeg) - (I (22 + 2) (x1).toNatClampNeg)) else (0 : Int32)), J))) rfl ?_
    refine zEv_gr rfl rfl rfl (by decide) hcr ?_
    refine zEv_gr rfl rfl rfl (by decide) (hR (22) 6 (22 + 4) rfl) ?_
    refine zEv_k 1 (f' := (76, [some (.ref 166), some (.int x1), none], [.int x1, .ref (22 + 4), .int (I (166 + 11) (x1).toNatClampNeg), .int x1, .ref (166 + 11)], (zS0, R, zu I (166 + 10) (x1).toNatClampNeg (if (0 : Int32) < ((I (166 + 10) (x1).toNatClampNeg) - (I (22 + 2) (x1).toNatClampNeg)) then ((I (166 + 10) (x1).toNatClampNeg) - (I (22 + 2) (x1).toNatClampNeg)) else (0 : Int32)), J))) rfl ?_
    refine zEv_ial rfl rfl (by decide) h76 ?_
    refine zEv_k 1 (f' := (78, [some (.ref 166), some (.int x1), none], [.int ((I (166 + 11) (x1).toNatClampNeg) + (I (22 + 4) (x1).toNatClampNeg)), .int x1, .ref (166 + 11)], (zS0, R, zu I (166 + 10) (x1).toNatClampNeg (if (0 : Int32) < ((I (166 + 10) (x1).toNatClampNeg) - (I (22 + 2) (x1).toNatClampNeg)) then ((I (166 + 10) (x1).toNatClampNeg) - (I (22 + 2) (x1).toNatClampNeg)) else (0 : Int32)), J))) rfl ?_
    refine zEv_ias rfl rfl (by decide) h78 ?_
    exact k1
  · refine zEv_k 1 (f' := (36, [some (.ref 198), some (.int x1), none], [.ref 198], (zS0, R, I, J))) rfl ?_
    refine zEv_gr rfl rfl rfl (by decide) (hR (198) 16 (198 + 10) rfl) ?_
    refine zEv_k 3 (f' := (42, [some (.ref 198), some (.int x1), none], [.ref 198, .int 0, .int x1, .ref (198 + 10)], (zS0, R, I, J))) rfl ?_
    refine zEv_gr rfl rfl rfl (by decide) (hR (198) 16 (198 + 10) rfl) ?_
    refine zEv_k 1 (f' := (46, [some (.ref 198), some (.int x1), none], [.int x1, .ref (198 + 10), .int 0, .int x1, .ref (198 + 10)], (zS0, R, I, J))) rfl ?_
    refine zEv_ial rfl rfl (by decide) h46 ?_
    refine zEv_k 1 (f' := (48, [some (.ref 198), some (.int x1), none], [.ref 198, .int (I (198 + 10) (x1).toNatClampNeg), .int 0, .int x1, .ref (198 + 10)], (zS0, R, I, J))) rfl ?_
    refine zEv_gr rfl rfl rfl (by decide) hcr ?_
    refine zEv_gr rfl rfl rfl (by decide) (hR (7) 4 (7 + 2) rfl) ?_
    refine zEv_k 1 (f' := (55, [some (.ref 198), some (.int x1), none], [.int x1, .ref (7 + 2), .int (I (198 + 10) (x1).toNatClampNeg), .int 0, .int x1, .ref (198 + 10)], (zS0, R, I, J))) rfl ?_
    refine zEv_ial rfl rfl (by decide) h55 ?_
    refine zEv_k 2 (f' := (60, [some (.ref 198), some (.int x1), none], [.int (if (0 : Int32) < ((I (198 + 10) (x1).toNatClampNeg) - (I (7 + 2) (x1).toNatClampNeg)) then ((I (198 + 10) (x1).toNatClampNeg) - (I (7 + 2) (x1).toNatClampNeg)) else (0 : Int32)), .int x1, .ref (198 + 10)], (zS0, R, I, J))) rfl ?_
    refine zEv_ias rfl rfl (by decide) h60 ?_
    refine zEv_k 1 (f' := (62, [some (.ref 198), some (.int x1), none], [.ref 198], (zS0, R, zu I (198 + 10) (x1).toNatClampNeg (if (0 : Int32) < ((I (198 + 10) (x1).toNatClampNeg) - (I (7 + 2) (x1).toNatClampNeg)) then ((I (198 + 10) (x1).toNatClampNeg) - (I (7 + 2) (x1).toNatClampNeg)) else (0 : Int32)), J))) rfl ?_
    refine zEv_gr rfl rfl rfl (by decide) (hR (198) 17 (198 + 11) rfl) ?_
    refine zEv_k 2 (f' := (67, [some (.ref 198), some (.int x1), none], [.int x1, .ref (198 + 11), .int x1, .ref (198 + 11)], (zS0, R, zu I (198 + 10) (x1).toNatClampNeg (if (0 : Int32) < ((I (198 + 10) (x1).toNatClampNeg) - (I (7 + 2) (x1).toNatClampNeg)) then ((I (198 + 10) (x1).toNatClampNeg) - (I (7 + 2) (x1).toNatClampNeg)) else (0 : Int32)), J))) rfl ?_
    refine zEv_ial rfl rfl (by decide) h67 ?_
    refine zEv_k 1 (f' := (69, [some (.ref 198), some (.int x1), none], [.ref 198, .int (I (198 + 11) (x1).toNatClampNeg), .int x1, .ref (198 + 11)], (zS0, R, zu I (198 + 10) (x1).toNatClampNeg (if (0 : Int32) < ((I (198 + 10) (x1).toNatClampNeg) - (I (7 + 2) (x1).toNatClampNeg)) then ((I (198 + 10) (x1).toNatClampNeg) - (I (7 + 2) (x1).toNatClampNeg)) else (0 : Int32)), J))) rfl ?_
    refine zEv_gr rfl rfl rfl (by decide) hcr ?_
    refine zEv_gr rfl rfl rfl (by decide) (hR (7) 6 (7 + 4) rfl) ?_
    refine zEv_k 1 (f' := (76, [some (.ref 198), some (.int x1), none], [.int x1, .ref (7 + 4), .int (I (198 + 11) (x1).toNatClampNeg), .int x1, .ref (198 + 11)], (zS0, R, zu I (198 + 10) (x1).toNatClampNeg (if (0 : Int32) < ((I (198 + 10) (x1).toNatClampNeg) - (I (7 + 2) (x1).toNatClampNeg)) then ((I (198 + 10) (x1).toNatClampNeg) - (I (7 + 2) (x1).toNatClampNeg)) else (0 : Int32)), J))) rfl ?_
    refine zEv_ial rfl rfl (by decide) h76 ?_
    refine zEv_k 1 (f' := (78, [some (.ref 198), some (.int x1), none], [.int ((I (198 + 11) (x1).toNatClampNeg) + (I (7 + 4) (x1).toNatClampNeg)), .int x1, .ref (198 + 11)], (zS0, R, zu I (198 + 10) (x1).toNatClampNeg (if (0 : Int32) < ((I (198 + 10) (x1).toNatClampNeg) - (I (7 + 2) (x1).toNatClampNeg)) then ((I (198 + 10) (x1).toNatClampNeg) - (I (7 + 2) (x1).toNatClampNeg)) else (0 : Int32)), J))) rfl ?_
    refine zEv_ias rfl rfl (by decide) h78 ?_
    exact k1
  · refine zEv_k 1 (f' := (36, [some (.ref 198), some (.int x1), none], [.ref 198], (zS0, R, I, J))) rfl ?_
    refine zEv_gr rfl rfl rfl (by decide) (hR (198) 16 (198 + 10) rfl) ?_
    refine zEv_k 3 (f' := (42, [some (.ref 198), some (.int x1), none], [.ref 198, .int 0, .int x1, .ref (198 + 10)], (zS0, R, I, J))) rfl ?_
    refine zEv_gr rfl rfl rfl (by decide) (hR (198) 16 (198 + 10) rfl) ?_
    refine zEv_k 1 (f' := (46, [some (.ref 198), some (.int x1), none], [.int x1, .ref (198 + 10), .int 0, .int x1, .ref (198 + 10)], (zS0, R, I, J))) rfl ?_
    refine zEv_ial rfl rfl (by decide) h46 ?_
    refine zEv_k 1 (f' := (48, [some (.ref 198), some (.int x1), none], [.ref 198, .int (I (198 + 10) (x1).toNatClampNeg), .int 0, .int x1, .ref (198 + 10)], (zS0, R, I, J))) rfl ?_
    refine zEv_gr rfl rfl rfl (by decide) hcr ?_
    refine zEv_gr rfl rfl rfl (by decide) (hR (22) 4 (22 + 2) rfl) ?_
    refine zEv_k 1 (f' := (55, [some (.ref 198), some (.int x1), none], [.int x1, .ref (22 + 2), .int (I (198 + 10) (x1).toNatClampNeg), .int 0, .int x1, .ref (198 + 10)], (zS0, R, I, J))) rfl ?_
    refine zEv_ial rfl rfl (by decide) h55 ?_
    refine zEv_k 2 (f' := (60, [some (.ref 198), some (.int x1), none], [.int (if (0 : Int32) < ((I (198 + 10) (x1).toNatClampNeg) - (I (22 + 2) (x1).toNatClampNeg)) then ((I (198 + 10) (x1).toNatClampNeg) - (I (22 + 2) (x1).toNatClampNeg)) else (0 : Int32)), .int x1, .ref (198 + 10)], (zS0, R, I, J))) rfl ?_
    refine zEv_ias rfl rfl (by decide) h60 ?_
    refine zEv_k 1 (f' := (62, [some (.ref 198), some (.int x1), none], [.ref 198], (zS0, R, zu I (198 + 10) (x1).toNatClampNeg (if (0 : Int32) < ((I (198 + 10) (x1).toNatClampNeg) - (I (22 + 2) (x1).toNatClampNeg)) then ((I (198 + 10) (x1).toNatClampNeg) - (I (22 + 2) (x1).toNatClampNeg)) else (0 : Int32)), J))) rfl ?_
    refine zEv_gr rfl rfl rfl (by decide) (hR (198) 17 (198 + 11) rfl) ?_
    refine zEv_k 2 (f' := (67, [some (.ref 198), some (.int x1), none], [.int x1, .ref (198 + 11), .int x1, .ref (198 + 11)], (zS0, R, zu I (198 + 10) (x1).toNatClampNeg (if (0 : Int32) < ((I (198 + 10) (x1).toNatClampNeg) - (I (22 + 2) (x1).toNatClampNeg)) then ((I (198 + 10) (x1).toNatClampNeg) - (I (22 + 2) (x1).toNatClampNeg)) else (0 : Int32)), J))) rfl ?_
    refine zEv_ial rfl rfl (by decide) h67 ?_
    refine zEv_k 1 (f' := (69, [some (.ref 198), some (.int x1), none], [.ref 198, .int (I (198 + 11) (x1).toNatClampNeg), .int x1, .ref (198 + 11)], (zS0, R, zu I (198 + 10) (x1).toNatClampNeg (if (0 : Int32) < ((I (198 + 10) (x1).toNatClampNeg) - (I (22 + 2) (x1).toNatClampNeg)) then ((I (198 + 10) (x1).toNatClampNeg) - (I (22 + 2) (x1).toNatClampNeg)) else (0 : Int32)), J))) rfl ?_
    refine zEv_gr rfl rfl rfl (by decide) hcr ?_
    refine zEv_gr rfl rfl rfl (by decide) (hR (22) 6 (22 + 4) rfl) ?_
    refine zEv_k 1 (f' := (76, [some (.ref 198), some (.int x1), none], [.int x1, .ref (22 + 4), .int (I (198 + 11) (x1).toNatClampNeg), .int x1, .ref (198 + 11)], (zS0, R, zu I (198 + 10) (x1).toNatClampNeg (if (0 : Int32) < ((I (198 + 10) (x1).toNatClampNeg) - (I (22 + 2) (x1).toNatClampNeg)) then ((I (198 + 10) (x1).toNatClampNeg) - (I (22 + 2) (x1).toNatClampNeg)) else (0 : Int32)), J))) rfl ?_
    refine zEv_ial rfl rfl (by decide) h76 ?_
    refine zEv_k 1 (f' := (78, [some (.ref 198), some (.int x1), none], [.int ((I (198 + 11) (x1).toNatClampNeg) + (I (22 + 4) (x1).toNatClampNeg)), .int x1, .ref (198 + 11)], (zS0, R, zu I (198 + 10) (x1).toNatClampNeg (if (0 : Int32) < ((I (198 + 10) (x1).toNatClampNeg) - (I (22 + 2) (x1).toNatClampNeg)) then ((I (198 + 10) (x1).toNatClampNeg) - (I (22 + 2) (x1).toNatClampNeg)) else (0 : Int32)), J))) rfl ?_
    refine zEv_ias rfl rfl (by decide) h78 ?_
    exact k1
theorem b_78_79 {X : zX} {d : Nat} {R : zR} {I : zI} {J : zJ} {r : zA} {o : Nat} {x1 : Int32} (ho : o = 166 ∨ o = 198) (k1 : zEv X d zm_78 (13, [some (.ref o), some (.int (x1 + 1)), none], [], (zS0, R, I, J)) r) : zEv X d zm_78 (79, [some (.ref o), some (.int x1), none], [], (zS0, R, I, J)) r := by
  rcases ho with rfl | rfl
  · refine zEv_k 2 (f' := (13, [some (.ref 166), some (.int (x1 + 1)), none], [], (zS0, R, I, J))) rfl ?_
    exact k1
  · refine zEv_k 2 (f' := (13, [some (.ref 198), some (.int (x1 + 1)), none], [], (zS0, R, I, J))) rfl ?_
    exact k1
theorem b_78_85 {X : zX} {d : Nat} {R : zR} {I : zI} {J : zJ} {r : zA} {o : Nat} {x1 : Int32} {w : Int32} {R' : zR} {I' : zI} {J' : zJ} (ho : o = 166 ∨ o = 198) (hc : zEv X d zm_79 (0, [some (.ref o), none], [], (zS0, R, zu I o 0 ((I o 0) + 1), J)) (some (.int w), (zS0, R', I', J'))) (k1 : zEv X (d + 1) zm_78 (99, [some (.ref o), some (.int x1), none], [.int w], (zS0, R', I', J')) r) : zEv X (d + 1) zm_78 (85, [some (.ref o), some (.int x1), none], [], (zS0, R, I, J)) r := by
  rcases ho with rfl | rfl
  · refine zEv_k 7 (f' := (96, [some (.ref 166), some (.int x1), none], [.ref 166], (zS0, R, zu I 166 0 ((I 166 0) + 1), J))) rfl ?_
    exact zEv_c (fun _ => rfl) rfl hc rfl rfl k1
  · refine zEv_k 7 (f' := (96, [some (.ref 198), some (.int x1), none], [.ref 198], (zS0, R, zu I 198 0 ((I 198 0) + 1), J))) rfl ?_
    exact zEv_c (fun _ => rfl) rfl hc rfl rfl k1
theorem b_78_99 {X : zX} {d : Nat} {R : zR} {I : zI} {J : zJ} {r : zA} {o : Nat} {x1 : Int32} {s0 : Int32} (ho : o = 166 ∨ o = 198) (k1 : zEv X d zm_78 (102, [some (.ref o), some (.int s0), some (.int 0)], [], (zS0, R, I, J)) r) : zEv X d zm_78 (99, [some (.ref o), some (.int x1), none], [.int s0], (zS0, R, I, J)) r := by
  rcases ho with rfl | rfl
  · refine zEv_k 3 (f' := (102, [some (.ref 166), some (.int s0), some (.int 0)], [], (zS0, R, I, J))) rfl ?_
    exact k1
  · refine zEv_k 3 (f' := (102, [some (.ref 198), some (.int s0), some (.int 0)], [], (zS0, R, I, J))) rfl ?_
    exact k1
theorem b_78_102 {X : zX} {d : Nat} {R : zR} {I : zI} {J : zJ} {r : zA} {o : Nat} {x1 : Int32} {x2 : Int32} (ho : o = 166 ∨ o = 198) (k1 : 7 ≤ x2 → zEv X d zm_78 (129, [some (.ref o), some (.int x1), some (.int x2)], [], (zS0, R, I, J)) r) (k2 : ¬ (7 ≤ x2) → zEv X d zm_78 (108, [some (.ref o), some (.int x1), some (.int x2)], [], (zS0, R, I, J)) r) : zEv X d zm_78 (102, [some (.ref o), some (.int x1), some (.int x2)], [], (zS0, R, I, J)) r := by
  rcases ho with rfl | rfl
  · refine zEv_k 3 (f' := (if 7 ≤ x2 then 129 else 108, [some (.ref 166), some (.int x1), some (.int x2)], [], (zS0, R, I, J))) rfl ?_
    exact zEv_if k1 k2
  · refine zEv_k 3 (f' := (if 7 ≤ x2 then 129 else 108, [some (.ref 198), some (.int x1), some (.int x2)], [], (zS0, R, I, J))) rfl ?_
    exact zEv_if k1 k2
theorem b_78_108 {X : zX} {d : Nat} {R : zR} {I : zI} {J : zJ} {r : zA} {o : Nat} {x1 : Int32} {x2 : Int32} (ho : o = 166 ∨ o = 198) (k1 : x1 = (-1) → zEv X d zm_78 (129, [some (.ref o), some (.int x1), some (.int x2)], [], (zS0, R, I, J)) r) (k2 : ¬ (x1 = (-1)) → zEv X d zm_78 (113, [some (.ref o), some (.int x1), some (.int x2)], [], (zS0, R, I, J)) r) : zEv X d zm_78 (108, [some (.ref o), some (.int x1), some (.int x2)], [], (zS0, R, I, J)) r := by
  rcases ho with rfl | rfl
  · refine zEv_k 3 (f' := (if x1 = (-1) then 129 else 113, [some (.ref 166), some (.int x1), some (.int x2)], [], (zS0, R, I, J))) rfl ?_
    exact zEv_if k1 k2
  · refine zEv_k 3 (f' := (if x1 = (-1) then 129 else 113, [some (.ref 198), some (.int x1), some (.int x2)], [], (zS0, R, I, J))) rfl ?_
    exact zEv_if k1 k2
theorem b_78_113 {X : zX} {d : Nat} {R : zR} {I : zI} {J : zJ} {r : zA} {o : Nat} {x1 : Int32} {x2 : Int32} {R' : zR} {I' : zI} {J' : zJ} (ho : o = 166 ∨ o = 198) (hc : zEv X d zm_80 (0, [some (.ref o), some (.int x1), none], [], (zS0, R, I, J)) (none, (zS0, R', I', J'))) (k1 : zEv X (d + 1) zm_78 (118, [some (.ref o), some (.int x1), some (.int x2)], [], (zS0, R', I', J')) r) : zEv X (d + 1) zm_78 (113, [some (.ref o), some (.int x1), some (.int x2)], [], (zS0, R, I, J)) r := by
  rcases ho with rfl | rfl
  · refine zEv_k 2 (f' := (115, [some (.ref 166), some (.int x1), some (.int x2)], [.int x1, .ref 166], (zS0, R, I, J))) rfl ?_
    exact zEv_c (fun _ => rfl) rfl hc rfl rfl k1
  · refine zEv_k 2 (f' := (115, [some (.ref 198), some (.int x1), some (.int x2)], [.int x1, .ref 198], (zS0, R, I, J))) rfl ?_
    exact zEv_c (fun _ => rfl) rfl hc rfl rfl k1
theorem b_78_118 {X : zX} {d : Nat} {R : zR} {I : zI} {J : zJ} {r : zA} {o : Nat} {x1 : Int32} {x2 : Int32} {w : Int32} {R' : zR} {I' : zI} {J' : zJ} (ho : o = 166 ∨ o = 198) (hc : zEv X d zm_79 (0, [some (.ref o), none], [], (zS0, R, I, J)) (some (.int w), (zS0, R', I', J'))) (k1 : zEv X (d + 1) zm_78 (122, [some (.ref o), some (.int x1), some (.int x2)], [.int w], (zS0, R', I', J')) r) : zEv X (d + 1) zm_78 (118, [some (.ref o), some (.int x1), some (.int x2)], [], (zS0, R, I, J)) r := by
  rcases ho with rfl | rfl
  · refine zEv_k 1 (f' := (119, [some (.ref 166), some (.int x1), some (.int x2)], [.ref 166], (zS0, R, I, J))) rfl ?_
    exact zEv_c (fun _ => rfl) rfl hc rfl rfl k1
  · refine zEv_k 1 (f' := (119, [some (.ref 198), some (.int x1), some (.int x2)], [.ref 198], (zS0, R, I, J))) rfl ?_
    exact zEv_c (fun _ => rfl) rfl hc rfl rfl k1
theorem b_78_122 {X : zX} {d : Nat} {R : zR} {I : zI} {J : zJ} {r : zA} {o : Nat} {x1 : Int32} {x2 : Int32} {s0 : Int32} (ho : o = 166 ∨ o = 198) (k1 : zEv X d zm_78 (102, [some (.ref o), some (.int s0), some (.int (x2 + 1))], [], (zS0, R, I, J)) r) : zEv X d zm_78 (122, [some (.ref o), some (.int x1), some (.int x2)], [.int s0], (zS0, R, I, J)) r := by
  rcases ho with rfl | rfl
  · refine zEv_k 3 (f' := (102, [some (.ref 166), some (.int s0), some (.int (x2 + 1))], [], (zS0, R, I, J))) rfl ?_
    exact k1
  · refine zEv_k 3 (f' := (102, [some (.ref 198), some (.int s0), some (.int (x2 + 1))], [], (zS0, R, I, J))) rfl ?_
    exact k1
theorem b_78_129 {X : zX} {d : Nat} {R : zR} {I : zI} {J : zJ} {o : Nat} {x1 : Int32} {x2 : Int32} (ho : o = 166 ∨ o = 198) : zEv X d zm_78 (129, [some (.ref o), some (.int x1), some (.int x2)], [], (zS0, R, I, J)) (some (.int 1), (zS0, R, I, J)) := by
  rcases ho with rfl | rfl
  · refine zEv_k 1 (f' := (130, [some (.ref 166), some (.int x1), some (.int x2)], [.int 1], (zS0, R, I, J))) rfl ?_
    exact zEv_r rfl
  · refine zEv_k 1 (f' := (130, [some (.ref 198), some (.int x1), some (.int x2)], [.int 1], (zS0, R, I, J))) rfl ?_
    exact zEv_r rfl
theorem b_79_0 {X : zX} {d : Nat} {R : zR} {I : zI} {J : zJ} {r : zA} {o : Nat} (ho : o = 166 ∨ o = 198) (k1 : zEv X d zm_79 (2, [some (.ref o), some (.int 0)], [], (zS0, R, I, J)) r) : zEv X d zm_79 (0, [some (.ref o), none], [], (zS0, R, I, J)) r := by
  rcases ho with rfl | rfl
  · refine zEv_k 2 (f' := (2, [some (.ref 166), some (.int 0)], [], (zS0, R, I, J))) rfl ?_
    exact k1
  · refine zEv_k 2 (f' := (2, [some (.ref 198), some (.int 0)], [], (zS0, R, I, J))) rfl ?_
    exact k1
theorem b_79_2 {X : zX} {d : Nat} {R : zR} {I : zI} {J : zJ} {r : zA} {o : Nat} {cr : Nat} {x1 : Int32} (ho : (o = 166 ∧ cr = 7) ∨ (o = 166 ∧ cr = 22) ∨ (o = 198 ∧ cr = 7) ∨ (o = 198 ∧ cr = 22)) (hcr : R o 10 = some cr) (k1 : (I cr 2) ≤ x1 → zEv X d zm_79 (47, [some (.ref o), some (.int x1)], [], (zS0, R, I, J)) r) (k2 : ¬ ((I cr 2) ≤ x1) → zEv X d zm_79 (13, [some (.ref o), some (.int x1)], [], (zS0, R, I, J)) r) : zEv X d zm_79 (2, [some (.ref o), some (.int x1)], [], (zS0, R, I, J)) r := by
  rcases ho with ⟨rfl, rfl⟩ | ⟨rfl, rfl⟩ | ⟨rfl, rfl⟩ | ⟨rfl, rfl⟩
  · refine zEv_k 2 (f' := (4, [some (.ref 166), some (.int x1)], [.ref 166, .int x1], (zS0, R, I, J))) rfl ?_
    refine zEv_gr rfl rfl rfl (by decide) hcr ?_
    refine zEv_k 2 (f' := (if (I 7 2) ≤ x1 then 47 else 13, [some (.ref 166), some (.int x1)], [], (zS0, R, I, J))) rfl ?_
    exact zEv_if k1 k2
  · refine zEv_k 2 (f' := (4, [some (.ref 166), some (.int x1)], [.ref 166, .int x1], (zS0, R, I, J))) rfl ?_
    refine zEv_gr rfl rfl rfl (by decide) hcr ?_
    refine zEv_k 2 (f' := (if (I 22 2) ≤ x1 then 47 else 13, [some (.ref 166), some (.int x1)], [], (zS0, R, I, J))) rfl ?_
    exact zEv_if k1 k2
  · refine zEv_k 2 (f' := (4, [some (.ref 198), some (.int x1)], [.ref 198, .int x1], (zS0, R, I, J))) rfl ?_
    refine zEv_gr rfl rfl rfl (by decide) hcr ?_
    refine zEv_k 2 (f' := (if (I 7 2) ≤ x1 then 47 else 13, [some (.ref 198), some (.int x1)], [], (zS0, R, I, J))) rfl ?_
    exact zEv_if k1 k2
  · refine zEv_k 2 (f' := (4, [some (.ref 198), some (.int x1)], [.ref 198, .int x1], (zS0, R, I, J))) rfl ?_
    refine zEv_gr rfl rfl rfl (by decide) hcr ?_
    refine zEv_k 2 (f' := (if (I 22 2) ≤ x1 then 47 else 13, [some (.ref 198), some (.int x1)], [], (zS0, R, I, J))) rfl ?_
    exact zEv_if k1 k2
theorem b_79_13 {X : zX} {d : Nat} {R : zR} {I : zI} {J : zJ} {r : zA} {o : Nat} {x1 : Int32} (hR : zRok R) (ho : o = 166 ∨ o = 198) (h18 : zin x1 7) (h24 : zin x1 7) (k1 : (I (o + 11) (x1).toNatClampNeg) ≤ (I (o + 12) (x1).toNatClampNeg) → zEv X d zm_79 (41, [some (.ref o), some (.int x1)], [], (zS0, R, I, J)) r) (k2 : ¬ ((I (o + 11) (x1).toNatClampNeg) ≤ (I (o + 12) (x1).toNatClampNeg)) → zEv X d zm_79 (28, [some (.ref o), some (.int x1)], [], (zS0, R, I, J)) r) : zEv X d zm_79 (13, [some (.ref o), some (.int x1)], [], (zS0, R, I, J)) r := by
  rcases ho with rfl | rfl
  · refine zEv_k 1 (f' := (14, [some (.ref 166), some (.int x1)], [.ref 166], (zS0, R, I, J))) rfl ?_
    refine zEv_gr rfl rfl rfl (by decide) (hR (166) 17 (166 + 11) rfl) ?_
    refine zEv_k 1 (f' := (18, [some (.ref 166), some (.int x1)], [.int x1, .ref (166 + 11)], (zS0, R, I, J))) rfl ?_
    refine zEv_ial rfl rfl (by decide) h18 ?_
    refine zEv_k 1 (f' := (20, [some (.ref 166), some (.int x1)], [.ref 166, .int (I (166 + 11) (x1).toNatClampNeg)], (zS0, R, I, J))) rfl ?_
    refine zEv_gr rfl rfl rfl (by decide) (hR (166) 18 (166 + 12) rfl) ?_
    refine zEv_k 1 (f' := (24, [some (.ref 166), some (.int x1)], [.int x1, .ref (166 + 12), .int (I (166 + 11) (x1).toNatClampNeg)], (zS0, R, I, J))) rfl ?_
    refine zEv_ial rfl rfl (by decide) h24 ?_
    refine zEv_k 1 (f' := (if (I (166 + 11) (x1).toNatClampNeg) ≤ (I (166 + 12) (x1).toNatClampNeg) then 41 else 28, [some (.ref 166), some (.int x1)], [], (zS0, R, I, J))) rfl ?_
    exact zEv_if k1 k2
  · refine zEv_k 1 (f' := (14, [some (.ref 198), some (.int x1)], [.ref 198], (zS0, R, I, J))) rfl ?_
    refine zEv_gr rfl rfl rfl (by decide) (hR (198) 17 (198 + 11) rfl) ?_
    refine zEv_k 1 (f' := (18, [some (.ref 198), some (.int x1)], [.int x1, .ref (198 + 11)], (zS0, R, I, J))) rfl ?_
    refine zEv_ial rfl rfl (by decide) h18 ?_
    refine zEv_k 1 (f' := (20, [some (.ref 198), some (.int x1)], [.ref 198, .int (I (198 + 11) (x1).toNatClampNeg)], (zS0, R, I, J))) rfl ?_
    refine zEv_gr rfl rfl rfl (by decide) (hR (198) 18 (198 + 12) rfl) ?_
    refine zEv_k 1 (f' := (24, [some (.ref 198), some (.int x1)], [.int x1, .ref (198 + 12), .int (I (198 + 11) (x1).toNatClampNeg)], (zS0, R, I, J))) rfl ?_
    refine zEv_ial rfl rfl (by decide) h24 ?_
    refine zEv_k 1 (f' := (if (I (198 + 11) (x1).toNatClampNeg) ≤ (I (198 + 12) (x1).toNatClampNeg) then 41 else 28, [some (.ref 198), some (.int x1)], [], (zS0, R, I, J))) rfl ?_
    exact zEv_if k1 k2
theorem b_79_28 {X : zX} {d : Nat} {R : zR} {I : zI} {J : zJ} {r : zA} {o : Nat} {x1 : Int32} (ho : o = 166 ∨ o = 198) (k1 : ¬ (zf_cin (I o 2) x1) = 0 → zEv X (d + 1) zm_79 (41, [some (.ref o), some (.int x1)], [], (zS0, R, I, J)) r) (k2 : ¬ (¬ (zf_cin (I o 2) x1) = 0) → zEv X (d + 1) zm_79 (39, [some (.ref o), some (.int x1)], [], (zS0, R, I, J)) r) : zEv X (d + 1) zm_79 (28, [some (.ref o), some (.int x1)], [], (zS0, R, I, J)) r := by
  rcases ho with rfl | rfl
  · refine zEv_k 3 (f' := (33, [some (.ref 166), some (.int x1)], [.int x1, .int (I 166 2)], (zS0, R, I, J))) rfl ?_
    refine zEv_c (fun _ => rfl) rfl ev_zf_cin rfl rfl ?_
    refine zEv_k 1 (f' := (if ¬ (zf_cin (I 166 2) x1) = 0 then 41 else 39, [some (.ref 166), some (.int x1)], [], (zS0, R, I, J))) rfl ?_
    exact zEv_if k1 k2
  · refine zEv_k 3 (f' := (33, [some (.ref 198), some (.int x1)], [.int x1, .int (I 198 2)], (zS0, R, I, J))) rfl ?_
    refine zEv_c (fun _ => rfl) rfl ev_zf_cin rfl rfl ?_
    refine zEv_k 1 (f' := (if ¬ (zf_cin (I 198 2) x1) = 0 then 41 else 39, [some (.ref 198), some (.int x1)], [], (zS0, R, I, J))) rfl ?_
    exact zEv_if k1 k2
theorem b_79_39 {X : zX} {d : Nat} {R : zR} {I : zI} {J : zJ} {o : Nat} {x1 : Int32} (ho : o = 166 ∨ o = 198) : zEv X d zm_79 (39, [some (.ref o), some (.int x1)], [], (zS0, R, I, J)) (some (.int x1), (zS0, R, I, J)) := by
  rcases ho with rfl | rfl
  · refine zEv_k 1 (f' := (40, [some (.ref 166), some (.int x1)], [.int x1], (zS0, R, I, J))) rfl ?_
    exact zEv_r rfl
  · refine zEv_k 1 (f' := (40, [some (.ref 198), some (.int x1)], [.int x1], (zS0, R, I, J))) rfl ?_
    exact zEv_r rfl
theorem b_79_41 {X : zX} {d : Nat} {R : zR} {I : zI} {J : zJ} {r : zA} {o : Nat} {x1 : Int32} (ho : o = 166 ∨ o = 198) (k1 : zEv X d zm_79 (2, [some (.ref o), some (.int (x1 + 1))], [], (zS0, R, I, J)) r) : zEv X d zm_79 (41, [some (.ref o), some (.int x1)], [], (zS0, R, I, J)) r := by
  rcases ho with rfl | rfl
  · refine zEv_k 2 (f' := (2, [some (.ref 166), some (.int (x1 + 1))], [], (zS0, R, I, J))) rfl ?_
    exact k1
  · refine zEv_k 2 (f' := (2, [some (.ref 198), some (.int (x1 + 1))], [], (zS0, R, I, J))) rfl ?_
    exact k1
theorem b_79_47 {X : zX} {d : Nat} {R : zR} {I : zI} {J : zJ} {o : Nat} {x1 : Int32} (ho : o = 166 ∨ o = 198) : zEv X d zm_79 (47, [some (.ref o), some (.int x1)], [], (zS0, R, I, J)) (some (.int (-1)), (zS0, R, I, J)) := by
  rcases ho with rfl | rfl
  · refine zEv_k 1 (f' := (48, [some (.ref 166), some (.int x1)], [.int (-1)], (zS0, R, I, J))) rfl ?_
    exact zEv_r rfl
  · refine zEv_k 1 (f' := (48, [some (.ref 198), some (.int x1)], [.int (-1)], (zS0, R, I, J))) rfl ?_
    exact zEv_r rfl
theorem b_80_0 {X : zX} {d : Nat} {R : zR} {I : zI} {J : zJ} {r : zA} {o : Nat} {x1 : Int32} (hR : zRok R) (ho : o = 166 ∨ o = 198) (h31 : zin ((zu (zu I o 2 ((I o 2) ||| ((1 : Int32) <<< (x1 &&& 31)))) o 1 (((zu I o 2 ((I o 2) ||| ((1 : Int32) <<< (x1 &&& 31)))) o 1) + 1)) o 0) 51) (h34 : zin ((zu (zu I o 2 ((I o 2) ||| ((1 : Int32) <<< (x1 &&& 31)))) o 1 (((zu I o 2 ((I o 2) ||| ((1 : Int32) <<< (x1 &&& 31)))) o 1) + 1)) o 0) 51) (h45 : zin x1 7) (k1 : zEv X d zm_80 (52, [some (.ref o), some (.int x1), some (.int 0)], [], (zS0, R, zu (zu (zu (zu I o 2 ((I o 2) ||| ((1 : Int32) <<< (x1 &&& 31)))) o 1 (((zu I o 2 ((I o 2) ||| ((1 : Int32) <<< (x1 &&& 31)))) o 1) + 1)) (o + 1) ((zu (zu I o 2 ((I o 2) ||| ((1 : Int32) <<< (x1 &&& 31)))) o 1 (((zu I o 2 ((I o 2) ||| ((1 : Int32) <<< (x1 &&& 31)))) o 1) + 1)) o 0).toNatClampNeg ((I (o + 1) ((zu (zu I o 2 ((I o 2) ||| ((1 : Int32) <<< (x1 &&& 31)))) o 1 (((zu I o 2 ((I o 2) ||| ((1 : Int32) <<< (x1 &&& 31)))) o 1) + 1)) o 0).toNatClampNeg) + 1)) o 7 (((zu (zu I o 2 ((I o 2) ||| ((1 : Int32) <<< (x1 &&& 31)))) o 1 (((zu I o 2 ((I o 2) ||| ((1 : Int32) <<< (x1 &&& 31)))) o 1) + 1)) o 7) + (I (o + 10) (x1).toNatClampNeg)), J)) r) : zEv X d zm_80 (0, [some (.ref o), some (.int x1), none], [], (zS0, R, I, J)) r := by
  rcases ho with rfl | rfl
  · refine zEv_k 9 (f' := (13, [some (.ref 166), some (.int x1), none], [.ref 166], (zS0, R, zu I 166 2 ((I 166 2) ||| ((1 : Int32) <<< (x1 &&& 31))), J))) rfl ?_
    refine zEv_k 6 (f' := (23, [some (.ref 166), some (.int x1), none], [.ref 166], (zS0, R, zu (zu I 166 2 ((I 166 2) ||| ((1 : Int32) <<< (x1 &&& 31)))) 166 1 (((zu I 166 2 ((I 166 2) ||| ((1 : Int32) <<< (x1 &&& 31)))) 166 1) + 1), J))) rfl ?_
    refine zEv_gr rfl rfl rfl (by decide) (hR (166) 5 (166 + 1) rfl) ?_
    refine zEv_k 3 (f' := (31, [some (.ref 166), some (.int x1), none], [.int ((zu (zu I 166 2 ((I 166 2) ||| ((1 : Int32) <<< (x1 &&& 31)))) 166 1 (((zu I 166 2 ((I 166 2) ||| ((1 : Int32) <<< (x1 &&& 31)))) 166 1) + 1)) 166 0), .ref (166 + 1), .int ((zu (zu I 166 2 ((I 166 2) ||| ((1 : Int32) <<< (x1 &&& 31)))) 166 1 (((zu I 166 2 ((I 166 2) ||| ((1 : Int32) <<< (x1 &&& 31)))) 166 1) + 1)) 166 0), .ref (166 + 1)], (zS0, R, zu (zu I 166 2 ((I 166 2) ||| ((1 : Int32) <<< (x1 &&& 31)))) 166 1 (((zu I 166 2 ((I 166 2) ||| ((1 : Int32) <<< (x1 &&& 31)))) 166 1) + 1), J))) rfl ?_
    refine zEv_ial rfl rfl (by decide) h31 ?_
    refine zEv_k 2 (f' := (34, [some (.ref 166), some (.int x1), none], [.int ((I (166 + 1) ((zu (zu I 166 2 ((I 166 2) ||| ((1 : Int32) <<< (x1 &&& 31)))) 166 1 (((zu I 166 2 ((I 166 2) ||| ((1 : Int32) <<< (x1 &&& 31)))) 166 1) + 1)) 166 0).toNatClampNeg) + 1), .int ((zu (zu I 166 2 ((I 166 2) ||| ((1 : Int32) <<< (x1 &&& 31)))) 166 1 (((zu I 166 2 ((I 166 2) ||| ((1 : Int32) <<< (x1 &&& 31)))) 166 1) + 1)) 166 0), .ref (166 + 1)], (zS0, R, zu (zu I 166 2 ((I 166 2) ||| ((1 : Int32) <<< (x1 &&& 31)))) 166 1 (((zu I 166 2 ((I 166 2) ||| ((1 : Int32) <<< (x1 &&& 31)))) 166 1) + 1), J))) rfl ?_
    refine zEv_ias rfl rfl (by decide) h34 ?_
    refine zEv_k 4 (f' := (41, [some (.ref 166), some (.int x1), none], [.ref 166, .int ((zu (zu I 166 2 ((I 166 2) ||| ((1 : Int32) <<< (x1 &&& 31)))) 166 1 (((zu I 166 2 ((I 166 2) ||| ((1 : Int32) <<< (x1 &&& 31)))) 166 1) + 1)) 166 7), .ref 166], (zS0, R, zu (zu (zu I 166 2 ((I 166 2) ||| ((1 : Int32) <<< (x1 &&& 31)))) 166 1 (((zu I 166 2 ((I 166 2) ||| ((1 : Int32) <<< (x1 &&& 31)))) 166 1) + 1)) (166 + 1) ((zu (zu I 166 2 ((I 166 2) ||| ((1 : Int32) <<< (x1 &&& 31)))) 166 1 (((zu I 166 2 ((I 166 2) ||| ((1 : Int32) <<< (x1 &&& 31)))) 166 1) + 1)) 166 0).toNatClampNeg ((I (166 + 1) ((zu (zu I 166 2 ((I 166 2) ||| ((1 : Int32) <<< (x1 &&& 31)))) 166 1 (((zu I 166 2 ((I 166 2) ||| ((1 : Int32) <<< (x1 &&& 31)))) 166 1) + 1)) 166 0).toNatClampNeg) + 1), J))) rfl ?_
    refine zEv_gr rfl rfl rfl (by decide) (hR (166) 16 (166 + 10) rfl) ?_
    refine zEv_k 1 (f' := (45, [some (.ref 166), some (.int x1), none], [.int x1, .ref (166 + 10), .int ((zu (zu I 166 2 ((I 166 2) ||| ((1 : Int32) <<< (x1 &&& 31)))) 166 1 (((zu I 166 2 ((I 166 2) ||| ((1 : Int32) <<< (x1 &&& 31)))) 166 1) + 1)) 166 7), .ref 166], (zS0, R, zu (zu (zu I 166 2 ((I 166 2) ||| ((1 : Int32) <<< (x1 &&& 31)))) 166 1 (((zu I 166 2 ((I 166 2) ||| ((1 : Int32) <<< (x1 &&& 31)))) 166 1) + 1)) (166 + 1) ((zu (zu I 166 2 ((I 166 2) ||| ((1 : Int32) <<< (x1 &&& 31)))) 166 1 (((zu I 166 2 ((I 166 2) ||| ((1 : Int32) <<< (x1 &&& 31)))) 166 1) + 1)) 166 0).toNatClampNeg ((I (166 + 1) ((zu (zu I 166 2 ((I 166 2) ||| ((1 : Int32) <<< (x1 &&& 31)))) 166 1 (((zu I 166 2 ((I 166 2) ||| ((1 : Int32) <<< (x1 &&& 31)))) 166 1) + 1)) 166 0).toNatClampNeg) + 1), J))) rfl ?_
    refine zEv_ial rfl rfl (by decide) h45 ?_
    refine zEv_k 4 (f' := (52, [some (.ref 166), some (.int x1), some (.int 0)], [], (zS0, R, zu (zu (zu (zu I 166 2 ((I 166 2) ||| ((1 : Int32) <<< (x1 &&& 31)))) 166 1 (((zu I 166 2 ((I 166 2) ||| ((1 : Int32) <<< (x1 &&& 31)))) 166 1) + 1)) (166 + 1) ((zu (zu I 166 2 ((I 166 2) ||| ((1 : Int32) <<< (x1 &&& 31)))) 166 1 (((zu I 166 2 ((I 166 2) ||| ((1 : Int32) <<< (x1 &&& 31)))) 166 1) + 1)) 166 0).toNatClampNeg ((I (166 + 1) ((zu (zu I 166 2 ((I 166 2) ||| ((1 : Int32) <<< (x1 &&& 31)))) 166 1 (((zu I 166 2 ((I 166 2) ||| ((1 : Int32) <<< (x1 &&& 31)))) 166 1) + 1)) 166 0).toNatClampNeg) + 1)) 166 7 (((zu (zu I 166 2 ((I 166 2) ||| ((1 : Int32) <<< (x1 &&& 31)))) 166 1 (((zu I 166 2 ((I 166 2) ||| ((1 : Int32) <<< (x1 &&& 31)))) 166 1) + 1)) 166 7) + (I (166 + 10) (x1).toNatClampNeg)), J))) rfl ?_
    exact k1
  · refine zEv_k 9 (f' := (13, [some (.ref 198), some (.int x1), none], [.ref 198], (zS0, R, zu I 198 2 ((I 198 2) ||| ((1 : Int32) <<< (x1 &&& 31))), J))) rfl ?_
    refine zEv_k 6 (f' := (23, [some (.ref 198), some (.int x1), none], [.ref 198], (zS0, R, zu (zu I 198 2 ((I 198 2) ||| ((1 : Int32) <<< (x1 &&& 31)))) 198 1 (((zu I 198 2 ((I 198 2) ||| ((1 : Int32) <<< (x1 &&& 31)))) 198 1) + 1), J))) rfl ?_
    refine zEv_gr rfl rfl rfl (by decide) (hR (198) 5 (198 + 1) rfl) ?_
    refine zEv_k 3 (f' := (31, [some (.ref 198), some (.int x1), none], [.int ((zu (zu I 198 2 ((I 198 2) ||| ((1 : Int32) <<< (x1 &&& 31)))) 198 1 (((zu I 198 2 ((I 198 2) ||| ((1 : Int32) <<< (x1 &&& 31)))) 198 1) + 1)) 198 0), .ref (198 + 1), .int ((zu (zu I 198 2 ((I 198 2) ||| ((1 : Int32) <<< (x1 &&& 31)))) 198 1 (((zu I 198 2 ((I 198 2) ||| ((1 : Int32) <<< (x1 &&& 31)))) 198 1) + 1)) 198 0), .ref (198 + 1)], (zS0, R, zu (zu I 198 2 ((I 198 2) ||| ((1 : Int32) <<< (x1 &&& 31)))) 198 1 (((zu I 198 2 ((I 198 2) ||| ((1 : Int32) <<< (x1 &&& 31)))) 198 1) + 1), J))) rfl ?_
    refine zEv_ial rfl rfl (by decide) h31 ?_
    refine zEv_k 2 (f' := (34, [some (.ref 198), some (.int x1), none], [.int ((I (198 + 1) ((zu (zu I 198 2 ((I 198 2) ||| ((1 : Int32) <<< (x1 &&& 31)))) 198 1 (((zu I 198 2 ((I 198 2) ||| ((1 : Int32) <<< (x1 &&& 31)))) 198 1) + 1)) 198 0).toNatClampNeg) + 1), .int ((zu (zu I 198 2 ((I 198 2) ||| ((1 : Int32) <<< (x1 &&& 31)))) 198 1 (((zu I 198 2 ((I 198 2) ||| ((1 : Int32) <<< (x1 &&& 31)))) 198 1) + 1)) 198 0), .ref (198 + 1)], (zS0, R, zu (zu I 198 2 ((I 198 2) ||| ((1 : Int32) <<< (x1 &&& 31)))) 198 1 (((zu I 198 2 ((I 198 2) ||| ((1 : Int32) <<< (x1 &&& 31)))) 198 1) + 1), J))) rfl ?_
    refine zEv_ias rfl rfl (by decide) h34 ?_
    refine zEv_k 4 (f' := (41, [some (.ref 198), some (.int x1), none], [.ref 198, .int ((zu (zu I 198 2 ((I 198 2) ||| ((1 : Int32) <<< (x1 &&& 31)))) 198 1 (((zu I 198 2 ((I 198 2) ||| ((1 : Int32) <<< (x1 &&& 31)))) 198 1) + 1)) 198 7), .ref 198], (zS0, R, zu (zu (zu I 198 2 ((I 198 2) ||| ((1 : Int32) <<< (x1 &&& 31)))) 198 1 (((zu I 198 2 ((I 198 2) ||| ((1 : Int32) <<< (x1 &&& 31)))) 198 1) + 1)) (198 + 1) ((zu (zu I 198 2 ((I 198 2) ||| ((1 : Int32) <<< (x1 &&& 31)))) 198 1 (((zu I 198 2 ((I 198 2) ||| ((1 : Int32) <<< (x1 &&& 31)))) 198 1) + 1)) 198 0).toNatClampNeg ((I (198 + 1) ((zu (zu I 198 2 ((I 198 2) ||| ((1 : Int32) <<< (x1 &&& 31)))) 198 1 (((zu I 198 2 ((I 198 2) ||| ((1 : Int32) <<< (x1 &&& 31)))) 198 1) + 1)) 198 0).toNatClampNeg) + 1), J))) rfl ?_
    refine zEv_gr rfl rfl rfl (by decide) (hR (198) 16 (198 + 10) rfl) ?_
    refine zEv_k 1 (f' := (45, [some (.ref 198), some (.int x1), none], [.int x1, .ref (198 + 10), .int ((zu (zu I 198 2 ((I 198 2) ||| ((1 : Int32) <<< (x1 &&& 31)))) 198 1 (((zu I 198 2 ((I 198 2) ||| ((1 : Int32) <<< (x1 &&& 31)))) 198 1) + 1)) 198 7), .ref 198], (zS0, R, zu (zu (zu I 198 2 ((I 198 2) ||| ((1 : Int32) <<< (x1 &&& 31)))) 198 1 (((zu I 198 2 ((I 198 2) ||| ((1 : Int32) <<< (x1 &&& 31)))) 198 1) + 1)) (198 + 1) ((zu (zu I 198 2 ((I 198 2) ||| ((1 : Int32) <<< (x1 &&& 31)))) 198 1 (((zu I 198 2 ((I 198 2) ||| ((1 : Int32) <<< (x1 &&& 31)))) 198 1) + 1)) 198 0).toNatClampNeg ((I (198 + 1) ((zu (zu I 198 2 ((I 198 2) ||| ((1 : Int32) <<< (x1 &&& 31)))) 198 1 (((zu I 198 2 ((I 198 2) ||| ((1 : Int32) <<< (x1 &&& 31)))) 198 1) + 1)) 198 0).toNatClampNeg) + 1), J))) rfl ?_
    refine zEv_ial rfl rfl (by decide) h45 ?_
    refine zEv_k 4 (f' := (52, [some (.ref 198), some (.int x1), some (.int 0)], [], (zS0, R, zu (zu (zu (zu I 198 2 ((I 198 2) ||| ((1 : Int32) <<< (x1 &&& 31)))) 198 1 (((zu I 198 2 ((I 198 2) ||| ((1 : Int32) <<< (x1 &&& 31)))) 198 1) + 1)) (198 + 1) ((zu (zu I 198 2 ((I 198 2) ||| ((1 : Int32) <<< (x1 &&& 31)))) 198 1 (((zu I 198 2 ((I 198 2) ||| ((1 : Int32) <<< (x1 &&& 31)))) 198 1) + 1)) 198 0).toNatClampNeg ((I (198 + 1) ((zu (zu I 198 2 ((I 198 2) ||| ((1 : Int32) <<< (x1 &&& 31)))) 198 1 (((zu I 198 2 ((I 198 2) ||| ((1 : Int32) <<< (x1 &&& 31)))) 198 1) + 1)) 198 0).toNatClampNeg) + 1)) 198 7 (((zu (zu I 198 2 ((I 198 2) ||| ((1 : Int32) <<< (x1 &&& 31)))) 198 1 (((zu I 198 2 ((I 198 2) ||| ((1 : Int32) <<< (x1 &&& 31)))) 198 1) + 1)) 198 7) + (I (198 + 10) (x1).toNatClampNeg)), J))) rfl ?_
    exact k1
theorem b_80_52 {X : zX} {d : Nat} {R : zR} {I : zI} {J : zJ} {r : zA} {o : Nat} {cr : Nat} {x1 : Int32} {x2 : Int32} (ho : (o = 166 ∧ cr = 7) ∨ (o = 166 ∧ cr = 22) ∨ (o = 198 ∧ cr = 7) ∨ (o = 198 ∧ cr = 22)) (hcr : R o 10 = some cr) (k1 : (I cr 2) ≤ x2 → zEv X d zm_80 (116, [some (.ref o), some (.int x1), some (.int x2)], [], (zS0, R, I, J)) r) (k2 : ¬ ((I cr 2) ≤ x2) → zEv X d zm_80 (63, [some (.ref o), some (.int x1), some (.int x2)], [], (zS0, R, I, J)) r) : zEv X d zm_80 (52, [some (.ref o), some (.int x1), some (.int x2)], [], (zS0, R, I, J)) r := by
  rcases ho with ⟨rfl, rfl⟩ | ⟨rfl, rfl⟩ | ⟨rfl, rfl⟩ | ⟨rfl, rfl⟩
  · refine zEv_k 2 (f' := (54, [some (.ref 166), some (.int x1), some (.int x2)], [.ref 166, .int x2], (zS0, R, I, J))) rfl ?_
    refine zEv_gr rfl rfl rfl (by decide) hcr ?_
    refine zEv_k 2 (f' := (if (I 7 2) ≤ x2 then 116 else 63, [some (.ref 166), some (.int x1), some (.int x2)], [], (zS0, R, I, J))) rfl ?_
    exact zEv_if k1 k2
  · refine zEv_k 2 (f' := (54, [some (.ref 166), some (.int x1), some (.int x2)], [.ref 166, .int x2], (zS0, R, I, J))) rfl ?_
    refine zEv_gr rfl rfl rfl (by decide) hcr ?_
    refine zEv_k 2 (f' := (if (I 22 2) ≤ x2 then 116 else 63, [some (.ref 166), some (.int x1), some (.int x2)], [], (zS0, R, I, J))) rfl ?_
    exact zEv_if k1 k2
  · refine zEv_k 2 (f' := (54, [some (.ref 198), some (.int x1), some (.int x2)], [.ref 198, .int x2], (zS0, R, I, J))) rfl ?_
    refine zEv_gr rfl rfl rfl (by decide) hcr ?_
    refine zEv_k 2 (f' := (if (I 7 2) ≤ x2 then 116 else 63, [some (.ref 198), some (.int x1), some (.int x2)], [], (zS0, R, I, J))) rfl ?_
    exact zEv_if k1 k2
  · refine zEv_k 2 (f' := (54, [some (.ref 198), some (.int x1), some (.int x2)], [.ref 198, .int x2], (zS0, R, I, J))) rfl ?_
    refine zEv_gr rfl rfl rfl (by decide) hcr ?_
    refine zEv_k 2 (f' := (if (I 22 2) ≤ x2 then 116 else 63, [some (.ref 198), some (.int x1), some (.int x2)], [], (zS0, R, I, J))) rfl ?_
    exact zEv_if k1 k2
theorem b_80_63 {X : zX} {d : Nat} {R : zR} {I : zI} {J : zJ} {r : zA} {o : Nat} {x1 : Int32} {x2 : Int32} (ho : o = 166 ∨ o = 198) (k1 : ¬ (zf_cin (I o 2) x2) = 0 → zEv X (d + 1) zm_80 (110, [some (.ref o), some (.int x1), some (.int x2)], [], (zS0, R, I, J)) r) (k2 : ¬ (¬ (zf_cin (I o 2) x2) = 0) → zEv X (d + 1) zm_80 (74, [some (.ref o), some (.int x1), some (.int x2)], [], (zS0, R, I, J)) r) : zEv X (d + 1) zm_80 (63, [some (.ref o), some (.int x1), some (.int x2)], [], (zS0, R, I, J)) r := by
  rcases ho with rfl | rfl
  · refine zEv_k 3 (f' := (68, [some (.ref 166), some (.int x1), some (.int x2)], [.int x2, .int (I 166 2)], (zS0, R, I, J))) rfl ?_
    refine zEv_c (fun _ => rfl) rfl ev_zf_cin rfl rfl ?_
    refine zEv_k 1 (f' := (if ¬ (zf_cin (I 166 2) x2) = 0 then 110 else 74, [some (.ref 166), some (.int x1), some (.int x2)], [], (zS0, R, I, J))) rfl ?_
    exact zEv_if k1 k2
  · refine zEv_k 3 (f' := (68, [some (.ref 198), some (.int x1), some (.int x2)], [.int x2, .int (I 198 2)], (zS0, R, I, J))) rfl ?_
    refine zEv_c (fun _ => rfl) rfl ev_zf_cin rfl rfl ?_
    refine zEv_k 1 (f' := (if ¬ (zf_cin (I 198 2) x2) = 0 then 110 else 74, [some (.ref 198), some (.int x1), some (.int x2)], [], (zS0, R, I, J))) rfl ?_
    exact zEv_if k1 k2
theorem b_80_74 {X : zX} {d : Nat} {R : zR} {I : zI} {J : zJ} {r : zA} {o : Nat} {x1 : Int32} {x2 : Int32} (hR : zRok R) (ho : o = 166 ∨ o = 198) (h79 : zin x2 7) (h85 : zin x1 7) (k1 : (I o 3) < (if 0 ≤ ((I (o + 13) (x2).toNatClampNeg) - (I (o + 13) (x1).toNatClampNeg)) then ((I (o + 13) (x2).toNatClampNeg) - (I (o + 13) (x1).toNatClampNeg)) else 0 - ((I (o + 13) (x2).toNatClampNeg) - (I (o + 13) (x1).toNatClampNeg))) → zEv X d zm_80 (110, [some (.ref o), some (.int x1), some (.int x2)], [], (zS0, R, I, J)) r) (k2 : ¬ ((I o 3) < (if 0 ≤ ((I (o + 13) (x2).toNatClampNeg) - (I (o + 13) (x1).toNatClampNeg)) then ((I (o + 13) (x2).toNatClampNeg) - (I (o + 13) (x1).toNatClampNeg)) else 0 - ((I (o + 13) (x2).toNatClampNeg) - (I (o + 13) (x1).toNatClampNeg)))) → zEv X d zm_80 (97, [some (.ref o), some (.int x1), some (.int x2)], [], (zS0, R, I, J)) r) : zEv X d zm_80 (74, [some (.ref o), some (.int x1), some (.int x2)], [], (zS0, R, I, J)) r := by
  rcases ho with rfl | rfl
  · refine zEv_k 1 (f' := (75, [some (.ref 166), some (.int x1), some (.int x2)], [.ref 166], (zS0, R, I, J))) rfl ?_
    refine zEv_gr rfl rfl rfl (by decide) (hR (166) 19 (166 + 13) rfl) ?_
    refine zEv_k 1 (f' := (79, [some (.ref 166), some (.int x1), some (.int x2)], [.int x2, .ref (166 + 13)], (zS0, R, I, J))) rfl ?_
    refine zEv_ial rfl rfl (by decide) h79 ?_
    refine zEv_k 1 (f' := (81, [some (.ref 166), some (.int x1), some (.int x2)], [.ref 166, .int (I (166 + 13) (x2).toNatClampNeg)], (zS0, R, I, J))) rfl ?_
    refine zEv_gr rfl rfl rfl (by decide) (hR (166) 19 (166 + 13) rfl) ?_
    refine zEv_k 1 (f' := (85, [some (.ref 166), some (.int x1), some (.int x2)], [.int x1, .ref (166 + 13), .int (I (166 + 13) (x2).toNatClampNeg)], (zS0, R, I, J))) rfl ?_
    refine zEv_ial rfl rfl (by decide) h85 ?_
    refine zEv_k 5 (f' := (if (I 166 3) < (if 0 ≤ ((I (166 + 13) (x2).toNatClampNeg) - (I (166 + 13) (x1).toNatClampNeg)) then ((I (166 + 13) (x2).toNatClampNeg) - (I (166 + 13) (x1).toNatClampNeg)) else 0 - ((I (166 + 13) (x2).toNatClampNeg) - (I (166 + 13) (x1).toNatClampNeg))) then 110 else 97, [some (.ref 166), some (.int x1), some (.int x2)], [], (zS0, R, I, J))) rfl ?_
    exact zEv_if k1 k2
  · refine zEv_k 1 (f' := (75, [some (.ref 198), some (.int x1), some (.int x2)], [.ref 198], (zS0, R, I, J))) rfl ?_
    refine zEv_gr rfl rfl rfl (by decide) (hR (198) 19 (198 + 13) rfl) ?_
    refine zEv_k 1 (f' := (79, [some (.ref 198), some (.int x1), some (.int x2)], [.int x2, .ref (198 + 13)], (zS0, R, I, J))) rfl ?_
    refine zEv_ial rfl rfl (by decide) h79 ?_
    refine zEv_k 1 (f' := (81, [some (.ref 198), some (.int x1), some (.int x2)], [.ref 198, .int (I (198 + 13) (x2).toNatClampNeg)], (zS0, R, I, J))) rfl ?_
    refine zEv_gr rfl rfl rfl (by decide) (hR (198) 19 (198 + 13) rfl) ?_
    refine zEv_k 1 (f' := (85, [some (.ref 198), some (.int x1), some (.int x2)], [.int x1, .ref (198 + 13), .int (I (198 + 13) (x2).toNatClampNeg)], (zS0, R, I, J))) rfl ?_
    refine zEv_ial rfl rfl (by decide) h85 ?_
    refine zEv_k 5 (f' := (if (I 198 3) < (if 0 ≤ ((I (198 + 13) (x2).toNatClampNeg) - (I (198 + 13) (x1).toNatClampNeg)) then ((I (198 + 13) (x2).toNatClampNeg) - (I (198 + 13) (x1).toNatClampNeg)) else 0 - ((I (198 + 13) (x2).toNatClampNeg) - (I (198 + 13) (x1).toNatClampNeg))) then 110 else 97, [some (.ref 198), some (.int x1), some (.int x2)], [], (zS0, R, I, J))) rfl ?_
    exact zEv_if k1 k2
theorem b_80_97 {X : zX} {d : Nat} {R : zR} {I : zI} {J : zJ} {r : zA} {o : Nat} {x1 : Int32} {x2 : Int32} (hR : zRok R) (ho : o = 166 ∨ o = 198) (h103 : zin x2 7) (h109 : zin x2 7) (k1 : zEv X d zm_80 (110, [some (.ref o), some (.int x1), some (.int x2)], [], (zS0, R, zu I (o + 11) (x2).toNatClampNeg ((I (o + 11) (x2).toNatClampNeg) + (I o 4)), J)) r) : zEv X d zm_80 (97, [some (.ref o), some (.int x1), some (.int x2)], [], (zS0, R, I, J)) r := by
  rcases ho with rfl | rfl
  · refine zEv_k 1 (f' := (98, [some (.ref 166), some (.int x1), some (.int x2)], [.ref 166], (zS0, R, I, J))) rfl ?_
    refine zEv_gr rfl rfl rfl (by decide) (hR (166) 17 (166 + 11) rfl) ?_
    refine zEv_k 2 (f' := (103, [some (.ref 166), some (.int x1), some (.int x2)], [.int x2, .ref (166 + 11), .int x2, .ref (166 + 11)], (zS0, R, I, J))) rfl ?_
    refine zEv_ial rfl rfl (by decide) h103 ?_
    refine zEv_k 3 (f' := (109, [some (.ref 166), some (.int x1), some (.int x2)], [.int ((I (166 + 11) (x2).toNatClampNeg) + (I 166 4)), .int x2, .ref (166 + 11)], (zS0, R, I, J))) rfl ?_
    refine zEv_ias rfl rfl (by decide) h109 ?_
    exact k1
  · refine zEv_k 1 (f' := (98, [some (.ref 198), some (.int x1), some (.int x2)], [.ref 198], (zS0, R, I, J))) rfl ?_
    refine zEv_gr rfl rfl rfl (by decide) (hR (198) 17 (198 + 11) rfl) ?_
    refine zEv_k 2 (f' := (103, [some (.ref 198), some (.int x1), some (.int x2)], [.int x2, .ref (198 + 11), .int x2, .ref (198 + 11)], (zS0, R, I, J))) rfl ?_
    refine zEv_ial rfl rfl (by decide) h103 ?_
    refine zEv_k 3 (f' := (109, [some (.ref 198), some (.int x1), some (.int x2)], [.int ((I (198 + 11) (x2).toNatClampNeg) + (I 198 4)), .int x2, .ref (198 + 11)], (zS0, R, I, J))) rfl ?_
    refine zEv_ias rfl rfl (by decide) h109 ?_
    exact k1
theorem b_80_110 {X : zX} {d : Nat} {R : zR} {I : zI} {J : zJ} {r : zA} {o : Nat} {x1 : Int32} {x2 : Int32} (ho : o = 166 ∨ o = 198) (k1 : zEv X d zm_80 (52, [some (.ref o), some (.int x1), some (.int (x2 + 1))], [], (zS0, R, I, J)) r) : zEv X d zm_80 (110, [some (.ref o), some (.int x1), some (.int x2)], [], (zS0, R, I, J)) r := by
  rcases ho with rfl | rfl
  · refine zEv_k 2 (f' := (52, [some (.ref 166), some (.int x1), some (.int (x2 + 1))], [], (zS0, R, I, J))) rfl ?_
    exact k1
  · refine zEv_k 2 (f' := (52, [some (.ref 198), some (.int x1), some (.int (x2 + 1))], [], (zS0, R, I, J))) rfl ?_
    exact k1
theorem b_80_116 {X : zX} {d : Nat} {R : zR} {I : zI} {J : zJ} {o : Nat} {x1 : Int32} {x2 : Int32} (ho : o = 166 ∨ o = 198) : zEv X d zm_80 (116, [some (.ref o), some (.int x1), some (.int x2)], [], (zS0, R, I, J)) (none, (zS0, R, I, J)) := by
  rcases ho with rfl | rfl
  · exact zEv_r rfl
  · exact zEv_r rfl
theorem b_81_0 {X : zX} {d : Nat} {R : zR} {I : zI} {J : zJ} {r : zA} {o : Nat} {x1 : Int32} (ho : o = 166 ∨ o = 198) (k1 : (zf_cin ((zu I o 2 ((I o 2) ||| ((1 : Int32) <<< (x1 &&& 31)))) o 13) x1) = 0 → zEv X (d + 1) zm_81 (34, [some (.ref o), some (.int x1)], [], (zS0, R, zu I o 2 ((I o 2) ||| ((1 : Int32) <<< (x1 &&& 31))), J)) r) (k2 : ¬ ((zf_cin ((zu I o 2 ((I o 2) ||| ((1 : Int32) <<< (x1 &&& 31)))) o 13) x1) = 0) → zEv X (d + 1) zm_81 (23, [some (.ref o), some (.int x1)], [], (zS0, R, zu I o 2 ((I o 2) ||| ((1 : Int32) <<< (x1 &&& 31))), J)) r) : zEv X (d + 1) zm_81 (0, [some (.ref o), some (.int x1)], [], (zS0, R, I, J)) r := by
  rcases ho with rfl | rfl
  · refine zEv_k 9 (f' := (13, [some (.ref 166), some (.int x1)], [.ref 166], (zS0, R, zu I 166 2 ((I 166 2) ||| ((1 : Int32) <<< (x1 &&& 31))), J))) rfl ?_
    refine zEv_k 2 (f' := (17, [some (.ref 166), some (.int x1)], [.int x1, .int ((zu I 166 2 ((I 166 2) ||| ((1 : Int32) <<< (x1 &&& 31)))) 166 13)], (zS0, R, zu I 166 2 ((I 166 2) ||| ((1 : Int32) <<< (x1 &&& 31))), J))) rfl ?_
    refine zEv_c (fun _ => rfl) rfl ev_zf_cin rfl rfl ?_
    refine zEv_k 1 (f' := (if (zf_cin ((zu I 166 2 ((I 166 2) ||| ((1 : Int32) <<< (x1 &&& 31)))) 166 13) x1) = 0 then 34 else 23, [some (.ref 166), some (.int x1)], [], (zS0, R, zu I 166 2 ((I 166 2) ||| ((1 : Int32) <<< (x1 &&& 31))), J))) rfl ?_
    exact zEv_if k1 k2
  · refine zEv_k 9 (f' := (13, [some (.ref 198), some (.int x1)], [.ref 198], (zS0, R, zu I 198 2 ((I 198 2) ||| ((1 : Int32) <<< (x1 &&& 31))), J))) rfl ?_
    refine zEv_k 2 (f' := (17, [some (.ref 198), some (.int x1)], [.int x1, .int ((zu I 198 2 ((I 198 2) ||| ((1 : Int32) <<< (x1 &&& 31)))) 198 13)], (zS0, R, zu I 198 2 ((I 198 2) ||| ((1 : Int32) <<< (x1 &&& 31))), J))) rfl ?_
    refine zEv_c (fun _ => rfl) rfl ev_zf_cin rfl rfl ?_
    refine zEv_k 1 (f' := (if (zf_cin ((zu I 198 2 ((I 198 2) ||| ((1 : Int32) <<< (x1 &&& 31)))) 198 13) x1) = 0 then 34 else 23, [some (.ref 198), some (.int x1)], [], (zS0, R, zu I 198 2 ((I 198 2) ||| ((1 : Int32) <<< (x1 &&& 31))), J))) rfl ?_
    exact zEv_if k1 k2
theorem b_81_23 {X : zX} {d : Nat} {R : zR} {I : zI} {J : zJ} {o : Nat} {x1 : Int32} (ho : o = 166 ∨ o = 198) : zEv X d zm_81 (23, [some (.ref o), some (.int x1)], [], (zS0, R, I, J)) (none, (zS0, R, zu I o 8 ((I o 8) + 1), J)) := by
  rcases ho with rfl | rfl
  · refine zEv_k 6 (f' := (33, [some (.ref 166), some (.int x1)], [], (zS0, R, zu I 166 8 ((I 166 8) + 1), J))) rfl ?_
    exact zEv_r rfl
  · refine zEv_k 6 (f' := (33, [some (.ref 198), some (.int x1)], [], (zS0, R, zu I 198 8 ((I 198 8) + 1), J))) rfl ?_
    exact zEv_r rfl
theorem b_81_34 {X : zX} {d : Nat} {R : zR} {I : zI} {J : zJ} {r : zA} {o : Nat} {x1 : Int32} (hR : zRok R) (ho : o = 166 ∨ o = 198) (h44 : zin x1 7) (h54 : zin x1 7) (k1 : ((zu I o 11 ((I o 11) + (I (o + 10) (x1).toNatClampNeg))) o 14) < (I (o + 10) (x1).toNatClampNeg) → zEv X d zm_81 (83, [some (.ref o), some (.int x1)], [], (zS0, R, zu I o 11 ((I o 11) + (I (o + 10) (x1).toNatClampNeg)), J)) r) (k2 : ¬ (((zu I o 11 ((I o 11) + (I (o + 10) (x1).toNatClampNeg))) o 14) < (I (o + 10) (x1).toNatClampNeg)) → zEv X d zm_81 (62, [some (.ref o), some (.int x1)], [], (zS0, R, zu I o 11 ((I o 11) + (I (o + 10) (x1).toNatClampNeg)), J)) r) : zEv X d zm_81 (34, [some (.ref o), some (.int x1)], [], (zS0, R, I, J)) r := by
  rcases ho with rfl | rfl
  · refine zEv_k 4 (f' := (40, [some (.ref 166), some (.int x1)], [.ref 166, .int (I 166 11), .ref 166], (zS0, R, I, J))) rfl ?_
    refine zEv_gr rfl rfl rfl (by decide) (hR (166) 16 (166 + 10) rfl) ?_
    refine zEv_k 1 (f' := (44, [some (.ref 166), some (.int x1)], [.int x1, .ref (166 + 10), .int (I 166 11), .ref 166], (zS0, R, I, J))) rfl ?_
    refine zEv_ial rfl rfl (by decide) h44 ?_
    refine zEv_k 3 (f' := (50, [some (.ref 166), some (.int x1)], [.ref 166], (zS0, R, zu I 166 11 ((I 166 11) + (I (166 + 10) (x1).toNatClampNeg)), J))) rfl ?_
    refine zEv_gr rfl rfl rfl (by decide) (hR (166) 16 (166 + 10) rfl) ?_
    refine zEv_k 1 (f' := (54, [some (.ref 166), some (.int x1)], [.int x1, .ref (166 + 10)], (zS0, R, zu I 166 11 ((I 166 11) + (I (166 + 10) (x1).toNatClampNeg)), J))) rfl ?_
    refine zEv_ial rfl rfl (by decide) h54 ?_
    refine zEv_k 3 (f' := (if ((zu I 166 11 ((I 166 11) + (I (166 + 10) (x1).toNatClampNeg))) 166 14) < (I (166 + 10) (x1).toNatClampNeg) then 83 else 62, [some (.ref 166), some (.int x1)], [], (zS0, R, zu I 166 11 ((I 166 11) + (I (166 + 10) (x1).toNatClampNeg)), J))) rfl ?_
    exact zEv_if k1 k2
  · refine zEv_k 4 (f' := (40, [some (.ref 198), some (.int x1)], [.ref 198, .int (I 198 11), .ref 198], (zS0, R, I, J))) rfl ?_
    refine zEv_gr rfl rfl rfl (by decide) (hR (198) 16 (198 + 10) rfl) ?_
    refine zEv_k 1 (f' := (44, [some (.ref 198), some (.int x1)], [.int x1, .ref (198 + 10), .int (I 198 11), .ref 198], (zS0, R, I, J))) rfl ?_
    refine zEv_ial rfl rfl (by decide) h44 ?_
    refine zEv_k 3 (f' := (50, [some (.ref 198), some (.int x1)], [.ref 198], (zS0, R, zu I 198 11 ((I 198 11) + (I (198 + 10) (x1).toNatClampNeg)), J))) rfl ?_
    refine zEv_gr rfl rfl rfl (by decide) (hR (198) 16 (198 + 10) rfl) ?_
    refine zEv_k 1 (f' := (54, [some (.ref 198), some (.int x1)], [.int x1, .ref (198 + 10)], (zS0, R, zu I 198 11 ((I 198 11) + (I (198 + 10) (x1).toNatClampNeg)), J))) rfl ?_
    refine zEv_ial rfl rfl (by decide) h54 ?_
    refine zEv_k 3 (f' := (if ((zu I 198 11 ((I 198 11) + (I (198 + 10) (x1).toNatClampNeg))) 198 14) < (I (198 + 10) (x1).toNatClampNeg) then 83 else 62, [some (.ref 198), some (.int x1)], [], (zS0, R, zu I 198 11 ((I 198 11) + (I (198 + 10) (x1).toNatClampNeg)), J))) rfl ?_
    exact zEv_if k1 k2
theorem b_81_62 {X : zX} {d : Nat} {R : zR} {I : zI} {J : zJ} {r : zA} {o : Nat} {x1 : Int32} (hR : zRok R) (ho : o = 166 ∨ o = 198) (h67 : zin x1 7) (k1 : ¬ (I (o + 10) (x1).toNatClampNeg) = (I o 14) → zEv X d zm_81 (98, [some (.ref o), some (.int x1)], [], (zS0, R, I, J)) r) (k2 : ¬ (¬ (I (o + 10) (x1).toNatClampNeg) = (I o 14)) → zEv X d zm_81 (75, [some (.ref o), some (.int x1)], [], (zS0, R, I, J)) r) : zEv X d zm_81 (62, [some (.ref o), some (.int x1)], [], (zS0, R, I, J)) r := by
  rcases ho with rfl | rfl
  · refine zEv_k 1 (f' := (63, [some (.ref 166), some (.int x1)], [.ref 166], (zS0, R, I, J))) rfl ?_
    refine zEv_gr rfl rfl rfl (by decide) (hR (166) 16 (166 + 10) rfl) ?_
    refine zEv_k 1 (f' := (67, [some (.ref 166), some (.int x1)], [.int x1, .ref (166 + 10)], (zS0, R, I, J))) rfl ?_
    refine zEv_ial rfl rfl (by decide) h67 ?_
    refine zEv_k 3 (f' := (if ¬ (I (166 + 10) (x1).toNatClampNeg) = (I 166 14) then 98 else 75, [some (.ref 166), some (.int x1)], [], (zS0, R, I, J))) rfl ?_
    exact zEv_if k1 k2
  · refine zEv_k 1 (f' := (63, [some (.ref 198), some (.int x1)], [.ref 198], (zS0, R, I, J))) rfl ?_
    refine zEv_gr rfl rfl rfl (by decide) (hR (198) 16 (198 + 10) rfl) ?_
    refine zEv_k 1 (f' := (67, [some (.ref 198), some (.int x1)], [.int x1, .ref (198 + 10)], (zS0, R, I, J))) rfl ?_
    refine zEv_ial rfl rfl (by decide) h67 ?_
    refine zEv_k 3 (f' := (if ¬ (I (198 + 10) (x1).toNatClampNeg) = (I 198 14) then 98 else 75, [some (.ref 198), some (.int x1)], [], (zS0, R, I, J))) rfl ?_
    exact zEv_if k1 k2
theorem b_81_75 {X : zX} {d : Nat} {R : zR} {I : zI} {J : zJ} {r : zA} {o : Nat} {x1 : Int32} (ho : o = 166 ∨ o = 198) (k1 : (I o 6) ≤ x1 → zEv X d zm_81 (98, [some (.ref o), some (.int x1)], [], (zS0, R, I, J)) r) (k2 : ¬ ((I o 6) ≤ x1) → zEv X d zm_81 (83, [some (.ref o), some (.int x1)], [], (zS0, R, I, J)) r) : zEv X d zm_81 (75, [some (.ref o), some (.int x1)], [], (zS0, R, I, J)) r := by
  rcases ho with rfl | rfl
  · refine zEv_k 4 (f' := (if (I 166 6) ≤ x1 then 98 else 83, [some (.ref 166), some (.int x1)], [], (zS0, R, I, J))) rfl ?_
    exact zEv_if k1 k2
  · refine zEv_k 4 (f' := (if (I 198 6) ≤ x1 then 98 else 83, [some (.ref 198), some (.int x1)], [], (zS0, R, I, J))) rfl ?_
    exact zEv_if k1 k2
theorem b_81_83 {X : zX} {d : Nat} {R : zR} {I : zI} {J : zJ} {r : zA} {o : Nat} {x1 : Int32} (hR : zRok R) (ho : o = 166 ∨ o = 198) (h94 : zin x1 7) (k1 : zEv X d zm_81 (98, [some (.ref o), some (.int x1)], [], (zS0, R, zu (zu I o 6 x1) o 14 (I (o + 10) (x1).toNatClampNeg), J)) r) : zEv X d zm_81 (83, [some (.ref o), some (.int x1)], [], (zS0, R, I, J)) r := by
  rcases ho with rfl | rfl
  · refine zEv_k 5 (f' := (90, [some (.ref 166), some (.int x1)], [.ref 166, .ref 166], (zS0, R, zu I 166 6 x1, J))) rfl ?_
    refine zEv_gr rfl rfl rfl (by decide) (hR (166) 16 (166 + 10) rfl) ?_
    refine zEv_k 1 (f' := (94, [some (.ref 166), some (.int x1)], [.int x1, .ref (166 + 10), .ref 166], (zS0, R, zu I 166 6 x1, J))) rfl ?_
    refine zEv_ial rfl rfl (by decide) h94 ?_
    refine zEv_k 1 (f' := (98, [some (.ref 166), some (.int x1)], [], (zS0, R, zu (zu I 166 6 x1) 166 14 (I (166 + 10) (x1).toNatClampNeg), J))) rfl ?_
    exact k1
  · refine zEv_k 5 (f' := (90, [some (.ref 198), some (.int x1)], [.ref 198, .ref 198], (zS0, R, zu I 198 6 x1, J))) rfl ?_
    refine zEv_gr rfl rfl rfl (by decide) (hR (198) 16 (198 + 10) rfl) ?_
    refine zEv_k 1 (f' := (94, [some (.ref 198), some (.int x1)], [.int x1, .ref (198 + 10), .ref 198], (zS0, R, zu I 198 6 x1, J))) rfl ?_
    refine zEv_ial rfl rfl (by decide) h94 ?_
    refine zEv_k 1 (f' := (98, [some (.ref 198), some (.int x1)], [], (zS0, R, zu (zu I 198 6 x1) 198 14 (I (198 + 10) (x1).toNatClampNeg), J))) rfl ?_
    exact k1
theorem b_81_98 {X : zX} {d : Nat} {R : zR} {I : zI} {J : zJ} {o : Nat} {x1 : Int32} (ho : o = 166 ∨ o = 198) : zEv X d zm_81 (98, [some (.ref o), some (.int x1)], [], (zS0, R, I, J)) (none, (zS0, R, I, J)) := by
  rcases ho with rfl | rfl
  · exact zEv_r rfl
  · exact zEv_r rfl
theorem b_82_0 {X : zX} {d : Nat} {R : zR} {I : zI} {J : zJ} {r : zA} {o : Nat} {x1 : Int32} (ho : o = 166 ∨ o = 198) (k1 : (zf_cin (I o 12) x1) = 0 → zEv X (d + 1) zm_82 (13, [some (.ref o), some (.int x1)], [], (zS0, R, I, J)) r) (k2 : ¬ ((zf_cin (I o 12) x1) = 0) → zEv X (d + 1) zm_82 (11, [some (.ref o), some (.int x1)], [], (zS0, R, I, J)) r) : zEv X (d + 1) zm_82 (0, [some (.ref o), some (.int x1)], [], (zS0, R, I, J)) r := by
  rcases ho with rfl | rfl
  · refine zEv_k 3 (f' := (5, [some (.ref 166), some (.int x1)], [.int x1, .int (I 166 12)], (zS0, R, I, J))) rfl ?_
    refine zEv_c (fun _ => rfl) rfl ev_zf_cin rfl rfl ?_
    refine zEv_k 1 (f' := (if (zf_cin (I 166 12) x1) = 0 then 13 else 11, [some (.ref 166), some (.int x1)], [], (zS0, R, I, J))) rfl ?_
    exact zEv_if k1 k2
  · refine zEv_k 3 (f' := (5, [some (.ref 198), some (.int x1)], [.int x1, .int (I 198 12)], (zS0, R, I, J))) rfl ?_
    refine zEv_c (fun _ => rfl) rfl ev_zf_cin rfl rfl ?_
    refine zEv_k 1 (f' := (if (zf_cin (I 198 12) x1) = 0 then 13 else 11, [some (.ref 198), some (.int x1)], [], (zS0, R, I, J))) rfl ?_
    exact zEv_if k1 k2
theorem b_82_11 {X : zX} {d : Nat} {R : zR} {I : zI} {J : zJ} {o : Nat} {x1 : Int32} (ho : o = 166 ∨ o = 198) : zEv X d zm_82 (11, [some (.ref o), some (.int x1)], [], (zS0, R, I, J)) (some (.int 0), (zS0, R, I, J)) := by
  rcases ho with rfl | rfl
  · refine zEv_k 1 (f' := (12, [some (.ref 166), some (.int x1)], [.int 0], (zS0, R, I, J))) rfl ?_
    exact zEv_r rfl
  · refine zEv_k 1 (f' := (12, [some (.ref 198), some (.int x1)], [.int 0], (zS0, R, I, J))) rfl ?_
    exact zEv_r rfl
theorem b_82_13 {X : zX} {d : Nat} {R : zR} {I : zI} {J : zJ} {o : Nat} {x1 : Int32} (hR : zRok R) (ho : o = 166 ∨ o = 198) (h31 : zin x1 7) (h34 : zin x1 7) : zEv X d zm_82 (13, [some (.ref o), some (.int x1)], [], (zS0, R, I, J)) (some (.int 1), (zS0, R, zu (zu I o 12 ((I o 12) ||| ((1 : Int32) <<< (x1 &&& 31)))) (o + 12) (x1).toNatClampNeg ((I (o + 12) (x1).toNatClampNeg) + 5), J)) := by
  rcases ho with rfl | rfl
  · refine zEv_k 9 (f' := (26, [some (.ref 166), some (.int x1)], [.ref 166], (zS0, R, zu I 166 12 ((I 166 12) ||| ((1 : Int32) <<< (x1 &&& 31))), J))) rfl ?_
    refine zEv_gr rfl rfl rfl (by decide) (hR (166) 18 (166 + 12) rfl) ?_
    refine zEv_k 2 (f' := (31, [some (.ref 166), some (.int x1)], [.int x1, .ref (166 + 12), .int x1, .ref (166 + 12)], (zS0, R, zu I 166 12 ((I 166 12) ||| ((1 : Int32) <<< (x1 &&& 31))), J))) rfl ?_
    refine zEv_ial rfl rfl (by decide) h31 ?_
    refine zEv_k 2 (f' := (34, [some (.ref 166), some (.int x1)], [.int ((I (166 + 12) (x1).toNatClampNeg) + 5), .int x1, .ref (166 + 12)], (zS0, R, zu I 166 12 ((I 166 12) ||| ((1 : Int32) <<< (x1 &&& 31))), J))) rfl ?_
    refine zEv_ias rfl rfl (by decide) h34 ?_
    refine zEv_k 1 (f' := (36, [some (.ref 166), some (.int x1)], [.int 1], (zS0, R, zu (zu I 166 12 ((I 166 12) ||| ((1 : Int32) <<< (x1 &&& 31)))) (166 + 12) (x1).toNatClampNeg ((I (166 + 12) (x1).toNatClampNeg) + 5), J))) rfl ?_
    exact zEv_r rfl
  · refine zEv_k 9 (f' := (26, [some (.ref 198), some (.int x1)], [.ref 198], (zS0, R, zu I 198 12 ((I 198 12) ||| ((1 : Int32) <<< (x1 &&& 31))), J))) rfl ?_
    refine zEv_gr rfl rfl rfl (by decide) (hR (198) 18 (198 + 12) rfl) ?_
    refine zEv_k 2 (f' := (31, [some (.ref 198), some (.int x1)], [.int x1, .ref (198 + 12), .int x1, .ref (198 + 12)], (zS0, R, zu I 198 12 ((I 198 12) ||| ((1 : Int32) <<< (x1 &&& 31))), J))) rfl ?_
    refine zEv_ial rfl rfl (by decide) h31 ?_
    refine zEv_k 2 (f' := (34, [some (.ref 198), some (.int x1)], [.int ((I (198 + 12) (x1).toNatClampNeg) + 5), .int x1, .ref (198 + 12)], (zS0, R, zu I 198 12 ((I 198 12) ||| ((1 : Int32) <<< (x1 &&& 31))), J))) rfl ?_
    refine zEv_ias rfl rfl (by decide) h34 ?_
    refine zEv_k 1 (f' := (36, [some (.ref 198), some (.int x1)], [.int 1], (zS0, R, zu (zu I 198 12 ((I 198 12) ||| ((1 : Int32) <<< (x1 &&& 31)))) (198 + 12) (x1).toNatClampNeg ((I (198 + 12) (x1).toNatClampNeg) + 5), J))) rfl ?_
    exact zEv_r rfl
theorem b_83_0 {X : zX} {d : Nat} {R : zR} {I : zI} {J : zJ} {r : zA} {o : Nat} {x1 : Int32} (ho : o = 166 ∨ o = 198) (k1 : (zf_cin (I o 13) x1) = 0 → zEv X (d + 1) zm_83 (13, [some (.ref o), some (.int x1)], [], (zS0, R, I, J)) r) (k2 : ¬ ((zf_cin (I o 13) x1) = 0) → zEv X (d + 1) zm_83 (11, [some (.ref o), some (.int x1)], [], (zS0, R, I, J)) r) : zEv X (d + 1) zm_83 (0, [some (.ref o), some (.int x1)], [], (zS0, R, I, J)) r := by
  rcases ho with rfl | rfl
  · refine zEv_k 3 (f' := (5, [some (.ref 166), some (.int x1)], [.int x1, .int (I 166 13)], (zS0, R, I, J))) rfl ?_
    refine zEv_c (fun _ => rfl) rfl ev_zf_cin rfl rfl ?_
    refine zEv_k 1 (f' := (if (zf_cin (I 166 13) x1) = 0 then 13 else 11, [some (.ref 166), some (.int x1)], [], (zS0, R, I, J))) rfl ?_
    exact zEv_if k1 k2
  · refine zEv_k 3 (f' := (5, [some (.ref 198), some (.int x1)], [.int x1, .int (I 198 13)], (zS0, R, I, J))) rfl ?_
    refine zEv_c (fun _ => rfl) rfl ev_zf_cin rfl rfl ?_
    refine zEv_k 1 (f' := (if (zf_cin (I 198 13) x1) = 0 then 13 else 11, [some (.ref 198), some (.int x1)], [], (zS0, R, I, J))) rfl ?_
    exact zEv_if k1 k2
theorem b_83_11 {X : zX} {d : Nat} {R : zR} {I : zI} {J : zJ} {o : Nat} {x1 : Int32} (ho : o = 166 ∨ o = 198) : zEv X d zm_83 (11, [some (.ref o), some (.int x1)], [], (zS0, R, I, J)) (some (.int 0), (zS0, R, I, J)) := by
  rcases ho with rfl | rfl
  · refine zEv_k 1 (f' := (12, [some (.ref 166), some (.int x1)], [.int 0], (zS0, R, I, J))) rfl ?_
    exact zEv_r rfl
  · refine zEv_k 1 (f' := (12, [some (.ref 198), some (.int x1)], [.int 0], (zS0, R, I, J))) rfl ?_
    exact zEv_r rfl
theorem b_83_13 {X : zX} {d : Nat} {R : zR} {I : zI} {J : zJ} {o : Nat} {x1 : Int32} (ho : o = 166 ∨ o = 198) : zEv X d zm_83 (13, [some (.ref o), some (.int x1)], [], (zS0, R, I, J)) (some (.int 1), (zS0, R, zu I o 13 ((I o 13) ||| ((1 : Int32) <<< (x1 &&& 31))), J)) := by
  rcases ho with rfl | rfl
  · refine zEv_k 9 (f' := (26, [some (.ref 166), some (.int x1)], [.int 1], (zS0, R, zu I 166 13 ((I 166 13) ||| ((1 : Int32) <<< (x1 &&& 31))), J))) rfl ?_
    exact zEv_r rfl
  · refine zEv_k 9 (f' := (26, [some (.ref 198), some (.int x1)], [.int 1], (zS0, R, zu I 198 13 ((I 198 13) ||| ((1 : Int32) <<< (x1 &&& 31))), J))) rfl ?_
    exact zEv_r rfl
theorem b_84_0 {X : zX} {d : Nat} {R : zR} {I : zI} {J : zJ} {r : zA} {o : Nat} {x1 : Int32} {x2 : Int32} (hR : zRok R) (ho : o = 166 ∨ o = 198) (h5 : zin x1 7) (k1 : ¬ (I (o + 13) (x1).toNatClampNeg) = x2 → zEv X d zm_84 (12, [some (.ref o), some (.int x1), some (.int x2)], [], (zS0, R, I, J)) r) (k2 : ¬ (¬ (I (o + 13) (x1).toNatClampNeg) = x2) → zEv X d zm_84 (10, [some (.ref o), some (.int x1), some (.int x2)], [], (zS0, R, I, J)) r) : zEv X d zm_84 (0, [some (.ref o), some (.int x1), some (.int x2)], [], (zS0, R, I, J)) r := by
  rcases ho with rfl | rfl
  · refine zEv_k 1 (f' := (1, [some (.ref 166), some (.int x1), some (.int x2)], [.ref 166], (zS0, R, I, J))) rfl ?_
    refine zEv_gr rfl rfl rfl (by decide) (hR (166) 19 (166 + 13) rfl) ?_
    refine zEv_k 1 (f' := (5, [some (.ref 166), some (.int x1), some (.int x2)], [.int x1, .ref (166 + 13)], (zS0, R, I, J))) rfl ?_
    refine zEv_ial rfl rfl (by decide) h5 ?_
    refine zEv_k 2 (f' := (if ¬ (I (166 + 13) (x1).toNatClampNeg) = x2 then 12 else 10, [some (.ref 166), some (.int x1), some (.int x2)], [], (zS0, R, I, J))) rfl ?_
    exact zEv_if k1 k2
  · refine zEv_k 1 (f' := (1, [some (.ref 198), some (.int x1), some (.int x2)], [.ref 198], (zS0, R, I, J))) rfl ?_
    refine zEv_gr rfl rfl rfl (by decide) (hR (198) 19 (198 + 13) rfl) ?_
    refine zEv_k 1 (f' := (5, [some (.ref 198), some (.int x1), some (.int x2)], [.int x1, .ref (198 + 13)], (zS0, R, I, J))) rfl ?_
    refine zEv_ial rfl rfl (by decide) h5 ?_
    refine zEv_k 2 (f' := (if ¬ (I (198 + 13) (x1).toNatClampNeg) = x2 then 12 else 10, [some (.ref 198), some (.int x1), some (.int x2)], [], (zS0, R, I, J))) rfl ?_
    exact zEv_if k1 k2
theorem b_84_10 {X : zX} {d : Nat} {R : zR} {I : zI} {J : zJ} {o : Nat} {x1 : Int32} {x2 : Int32} (ho : o = 166 ∨ o = 198) : zEv X d zm_84 (10, [some (.ref o), some (.int x1), some (.int x2)], [], (zS0, R, I, J)) (some (.int 0), (zS0, R, I, J)) := by
  rcases ho with rfl | rfl
  · refine zEv_k 1 (f' := (11, [some (.ref 166), some (.int x1), some (.int x2)], [.int 0], (zS0, R, I, J))) rfl ?_
    exact zEv_r rfl
  · refine zEv_k 1 (f' := (11, [some (.ref 198), some (.int x1), some (.int x2)], [.int 0], (zS0, R, I, J))) rfl ?_
    exact zEv_r rfl
theorem b_84_12 {X : zX} {d : Nat} {R : zR} {I : zI} {J : zJ} {o : Nat} {x1 : Int32} {x2 : Int32} (hR : zRok R) (ho : o = 166 ∨ o = 198) (h18 : zin x1 7) : zEv X d zm_84 (12, [some (.ref o), some (.int x1), some (.int x2)], [], (zS0, R, I, J)) (some (.int 1), (zS0, R, zu (zu I (o + 13) (x1).toNatClampNeg x2) o 9 ((I o 9) + 1), J)) := by
  rcases ho with rfl | rfl
  · refine zEv_k 1 (f' := (13, [some (.ref 166), some (.int x1), some (.int x2)], [.ref 166], (zS0, R, I, J))) rfl ?_
    refine zEv_gr rfl rfl rfl (by decide) (hR (166) 19 (166 + 13) rfl) ?_
    refine zEv_k 2 (f' := (18, [some (.ref 166), some (.int x1), some (.int x2)], [.int x2, .int x1, .ref (166 + 13)], (zS0, R, I, J))) rfl ?_
    refine zEv_ias rfl rfl (by decide) h18 ?_
    refine zEv_k 7 (f' := (30, [some (.ref 166), some (.int x1), some (.int x2)], [.int 1], (zS0, R, zu (zu I (166 + 13) (x1).toNatClampNeg x2) 166 9 ((I 166 9) + 1), J))) rfl ?_
    exact zEv_r rfl
  · refine zEv_k 1 (f' := (13, [some (.ref 198), some (.int x1), some (.int x2)], [.ref 198], (zS0, R, I, J))) rfl ?_
    refine zEv_gr rfl rfl rfl (by decide) (hR (198) 19 (198 + 13) rfl) ?_
    refine zEv_k 2 (f' := (18, [some (.ref 198), some (.int x1), some (.int x2)], [.int x2, .int x1, .ref (198 + 13)], (zS0, R, I, J))) rfl ?_
    refine zEv_ias rfl rfl (by decide) h18 ?_
    refine zEv_k 7 (f' := (30, [some (.ref 198), some (.int x1), some (.int x2)], [.int 1], (zS0, R, zu (zu I (198 + 13) (x1).toNatClampNeg x2) 198 9 ((I 198 9) + 1), J))) rfl ?_
    exact zEv_r rfl
theorem b_85_0 {X : zX} {d : Nat} {R : zR} {I : zI} {J : zJ} {r : zA} {o : Nat} {x1 : Int32} (ho : o = 166 ∨ o = 198) (k1 : x1 ≤ 0 → zEv X d zm_85 (31, [some (.ref o), some (.int x1)], [], (zS0, R, zu I o 15 (((I o 15) * 1103515245) + 12345), J)) r) (k2 : ¬ (x1 ≤ 0) → zEv X d zm_85 (19, [some (.ref o), some (.int x1)], [], (zS0, R, zu I o 15 (((I o 15) * 1103515245) + 12345), J)) r) : zEv X d zm_85 (0, [some (.ref o), some (.int x1)], [], (zS0, R, I, J)) r := by
  rcases ho with rfl | rfl
  · refine zEv_k 9 (f' := (16, [some (.ref 166), some (.int x1)], [.int x1], (zS0, R, zu I 166 15 (((I 166 15) * 1103515245) + 12345), J))) rfl ?_
    refine zEv_k 1 (f' := (if x1 ≤ 0 then 31 else 19, [some (.ref 166), some (.int x1)], [], (zS0, R, zu I 166 15 (((I 166 15) * 1103515245) + 12345), J))) rfl ?_
    exact zEv_if k1 k2
  · refine zEv_k 9 (f' := (16, [some (.ref 198), some (.int x1)], [.int x1], (zS0, R, zu I 198 15 (((I 198 15) * 1103515245) + 12345), J))) rfl ?_
    refine zEv_k 1 (f' := (if x1 ≤ 0 then 31 else 19, [some (.ref 198), some (.int x1)], [], (zS0, R, zu I 198 15 (((I 198 15) * 1103515245) + 12345), J))) rfl ?_
    exact zEv_if k1 k2
theorem b_85_19 {X : zX} {d : Nat} {R : zR} {I : zI} {J : zJ} {o : Nat} {x1 : Int32} (ho : o = 166 ∨ o = 198) (h27 : ¬ x1 = 0) : zEv X d zm_85 (19, [some (.ref o), some (.int x1)], [], (zS0, R, I, J)) (some (.int (((Int32.toUInt32 (I o 15) >>> (Int32.toUInt32 16 &&& Int32.toUInt32 31)).toInt32) - ((Int32.toUInt32 (I o 15) >>> (Int32.toUInt32 16 &&& Int32.toUInt32 31)).toInt32) / x1 * x1)), (zS0, R, I, J)) := by
  rcases ho with rfl | rfl
  · refine zEv_k 5 (f' := (27, [some (.ref 166), some (.int x1)], [.int x1, .int ((Int32.toUInt32 (I 166 15) >>> (Int32.toUInt32 16 &&& Int32.toUInt32 31)).toInt32)], (zS0, R, I, J))) rfl ?_
    refine zEv_rem rfl h27 ?_
    refine zEv_k 1 (f' := (32, [some (.ref 166), some (.int x1)], [.int (((Int32.toUInt32 (I 166 15) >>> (Int32.toUInt32 16 &&& Int32.toUInt32 31)).toInt32) - ((Int32.toUInt32 (I 166 15) >>> (Int32.toUInt32 16 &&& Int32.toUInt32 31)).toInt32) / x1 * x1)], (zS0, R, I, J))) rfl ?_
    exact zEv_r rfl
  · refine zEv_k 5 (f' := (27, [some (.ref 198), some (.int x1)], [.int x1, .int ((Int32.toUInt32 (I 198 15) >>> (Int32.toUInt32 16 &&& Int32.toUInt32 31)).toInt32)], (zS0, R, I, J))) rfl ?_
    refine zEv_rem rfl h27 ?_
    refine zEv_k 1 (f' := (32, [some (.ref 198), some (.int x1)], [.int (((Int32.toUInt32 (I 198 15) >>> (Int32.toUInt32 16 &&& Int32.toUInt32 31)).toInt32) - ((Int32.toUInt32 (I 198 15) >>> (Int32.toUInt32 16 &&& Int32.toUInt32 31)).toInt32) / x1 * x1)], (zS0, R, I, J))) rfl ?_
    exact zEv_r rfl
theorem b_85_31 {X : zX} {d : Nat} {R : zR} {I : zI} {J : zJ} {o : Nat} {x1 : Int32} (ho : o = 166 ∨ o = 198) : zEv X d zm_85 (31, [some (.ref o), some (.int x1)], [], (zS0, R, I, J)) (some (.int 0), (zS0, R, I, J)) := by
  rcases ho with rfl | rfl
  · refine zEv_k 1 (f' := (32, [some (.ref 166), some (.int x1)], [.int 0], (zS0, R, I, J))) rfl ?_
    exact zEv_r rfl
  · refine zEv_k 1 (f' := (32, [some (.ref 198), some (.int x1)], [.int 0], (zS0, R, I, J))) rfl ?_
    exact zEv_r rfl
theorem b_86_0 {X : zX} {d : Nat} {R : zR} {I : zI} {J : zJ} {r : zA} {x0 : Int32} (k0 : x0 = 4 → zEv X d zm_86 (40, [some (.int x0)], [], (zS0, R, I, J)) r) (k1 : x0 = 5 → zEv X d zm_86 (40, [some (.int x0)], [], (zS0, R, I, J)) r) (k2 : x0 = 6 → zEv X d zm_86 (42, [some (.int x0)], [], (zS0, R, I, J)) r) (k3 : x0 = 7 → zEv X d zm_86 (44, [some (.int x0)], [], (zS0, R, I, J)) r) (k4 : x0 = 8 → zEv X d zm_86 (46, [some (.int x0)], [], (zS0, R, I, J)) r) (k5 : x0 = 9 → zEv X d zm_86 (46, [some (.int x0)], [], (zS0, R, I, J)) r) (kd : ¬ (4 ≤ (x0 : Int32).toInt ∧ (x0 : Int32).toInt ≤ 9) → zEv X d zm_86 (48, [some (.int x0)], [], (zS0, R, I, J)) r) : zEv X d zm_86 (0, [some (.int x0)], [], (zS0, R, I, J)) r := by
  refine zEv_k 1 (f' := (1, [some (.int x0)], [.int x0], (zS0, R, I, J))) rfl ?_
  refine zEv_ts rfl (by decide) (by decide) (by decide) (fun hh => ?_) (fun j hj hh => ?_)
  · exact kd (by omega)
  · rcases (by have hj2 : j < 6 := hj; omega : j = 0 ∨ j = 1 ∨ j = 2 ∨ j = 3 ∨ j = 4 ∨ j = 5) with rfl | rfl | rfl | rfl | rfl | rfl
    · exact k0 (zeqI hh (by decide))
    · exact k1 (zeqI hh (by decide))
    · exact k2 (zeqI hh (by decide))
    · exact k3 (zeqI hh (by decide))
    · exact k4 (zeqI hh (by decide))
    · exact k5 (zeqI hh (by decide))
theorem b_86_40 {X : zX} {d : Nat} {R : zR} {I : zI} {J : zJ} {x0 : Int32} : zEv X d zm_86 (40, [some (.int x0)], [], (zS0, R, I, J)) (some (.int 1), (zS0, R, I, J)) := by
  refine zEv_k 1 (f' := (41, [some (.int x0)], [.int 1], (zS0, R, I, J))) rfl ?_
  exact zEv_r rfl
theorem b_86_42 {X : zX} {d : Nat} {R : zR} {I : zI} {J : zJ} {x0 : Int32} : zEv X d zm_86 (42, [some (.int x0)], [], (zS0, R, I, J)) (some (.int 2), (zS0, R, I, J)) := by
  refine zEv_k 1 (f' := (43, [some (.int x0)], [.int 2], (zS0, R, I, J))) rfl ?_
  exact zEv_r rfl
theorem b_86_44 {X : zX} {d : Nat} {R : zR} {I : zI} {J : zJ} {x0 : Int32} : zEv X d zm_86 (44, [some (.int x0)], [], (zS0, R, I, J)) (some (.int 3), (zS0, R, I, J)) := by
  refine zEv_k 1 (f' := (45, [some (.int x0)], [.int 3], (zS0, R, I, J))) rfl ?_
  exact zEv_r rfl
theorem b_86_46 {X : zX} {d : Nat} {R : zR} {I : zI} {J : zJ} {x0 : Int32} : zEv X d zm_86 (46, [some (.int x0)], [], (zS0, R, I, J)) (some (.int 4), (zS0, R, I, J)) := by
  refine zEv_k 1 (f' := (47, [some (.int x0)], [.int 4], (zS0, R, I, J))) rfl ?_
  exact zEv_r rfl
theorem b_86_48 {X : zX} {d : Nat} {R : zR} {I : zI} {J : zJ} {x0 : Int32} : zEv X d zm_86 (48, [some (.int x0)], [], (zS0, R, I, J)) (some (.int 0), (zS0, R, I, J)) := by
  refine zEv_k 1 (f' := (49, [some (.int x0)], [.int 0], (zS0, R, I, J))) rfl ?_
  exact zEv_r rfl
