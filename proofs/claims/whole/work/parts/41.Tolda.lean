theorem b_88_0 {X : zX} {d : Nat} {R : zR} {I : zI} {J : zJ} {r : zA} {x1 : Int32} (k1 : zEv X d zm_88 (3, [some (.ref 1), some (.int x1), some (.int 24)], [], (zS0, R, I, J)) r) : zEv X d zm_88 (0, [some (.ref 1), some (.int x1), none], [], (zS0, R, I, J)) r := by
  refine zEv_k 2 (f' := (3, [some (.ref 1), some (.int x1), some (.int 24)], [], (zS0, R, I, J))) rfl ?_
  exact k1
theorem b_88_3 {X : zX} {d : Nat} {R : zR} {I : zI} {J : zJ} {r : zA} {x1 : Int32} {x2 : Int32} (k1 : x2 < 0 → zEv X d zm_88 (46, [some (.ref 1), some (.int x1), some (.int x2)], [], (zS0, R, I, J)) r) (k2 : ¬ (x2 < 0) → zEv X d zm_88 (7, [some (.ref 1), some (.int x1), some (.int x2)], [], (zS0, R, I, J)) r) : zEv X d zm_88 (3, [some (.ref 1), some (.int x1), some (.int x2)], [], (zS0, R, I, J)) r := by
  refine zEv_k 2 (f' := (if x2 < 0 then 46 else 7, [some (.ref 1), some (.int x1), some (.int x2)], [], (zS0, R, I, J))) rfl ?_
  exact zEv_if k1 k2
theorem b_88_7 {X : zX} {d : Nat} {R : zR} {I : zI} {J : zJ} {r : zA} {x1 : Int32} {x2 : Int32} (k1 : 600 ≤ (I 1 1) → zEv X d zm_88 (46, [some (.ref 1), some (.int x1), some (.int x2)], [], (zS0, R, I, J)) r) (k2 : ¬ (600 ≤ (I 1 1)) → zEv X d zm_88 (17, [some (.ref 1), some (.int x1), some (.int x2)], [], (zS0, R, I, J)) r) : zEv X d zm_88 (7, [some (.ref 1), some (.int x1), some (.int x2)], [], (zS0, R, I, J)) r := by
  refine zEv_k 4 (f' := (if 600 ≤ (I 1 1) then 46 else 17, [some (.ref 1), some (.int x1), some (.int x2)], [], (zS0, R, I, J))) rfl ?_
  exact zEv_if k1 k2
theorem b_88_17 {X : zX} {d : Nat} {R : zR} {I : zI} {J : zJ} {r : zA} {x1 : Int32} {x2 : Int32} (hR : zRok R) (h29 : zin (I 1 1) 600) (k1 : zEv X d zm_88 (3, [some (.ref 1), some (.int x1), some (.int (x2 + (-8)))], [], (zS0, R, zu (zu I 2 (I 1 1).toNatClampNeg (Int32.toInt8 ((Int32.toInt8 (x1 >>> (x2 &&& 31))).toInt32)).toInt32) 1 1 ((I 1 1) + 1), J)) r) : zEv X d zm_88 (17, [some (.ref 1), some (.int x1), some (.int x2)], [], (zS0, R, I, J)) r := by
  refine zEv_k 1 (f' := (18, [some (.ref 1), some (.int x1), some (.int x2)], [.ref 1], (zS0, R, I, J))) rfl ?_
  refine zEv_gr rfl rfl rfl (by decide) (hR (1) 0 (2) rfl) ?_
  refine zEv_k 6 (f' := (29, [some (.ref 1), some (.int x1), some (.int x2)], [.int ((Int32.toInt8 (x1 >>> (x2 &&& 31))).toInt32), .int (I 1 1), .ref 2], (zS0, R, I, J))) rfl ?_
  refine zEv_bas rfl rfl (by decide) h29 ?_
  refine zEv_k 8 (f' := (3, [some (.ref 1), some (.int x1), some (.int (x2 + (-8)))], [], (zS0, R, zu (zu I 2 (I 1 1).toNatClampNeg (Int32.toInt8 ((Int32.toInt8 (x1 >>> (x2 &&& 31))).toInt32)).toInt32) 1 1 ((I 1 1) + 1), J))) rfl ?_
  exact k1
theorem b_88_46 {X : zX} {d : Nat} {R : zR} {I : zI} {J : zJ} {x1 : Int32} {x2 : Int32} : zEv X d zm_88 (46, [some (.ref 1), some (.int x1), some (.int x2)], [], (zS0, R, I, J)) (none, (zS0, R, I, J)) := by
  exact zEv_r rfl
theorem b_89_0 {X : zX} {d : Nat} {R : zR} {I : zI} {J : zJ} {r : zA} {x1 : Int32} (k1 : x1 < 0 → zEv X d zm_89 (23, [some (.ref 1), some (.int x1)], [], (zS0, R, I, J)) r) (k2 : ¬ (x1 < 0) → zEv X d zm_89 (4, [some (.ref 1), some (.int x1)], [], (zS0, R, I, J)) r) : zEv X d zm_89 (0, [some (.ref 1), some (.int x1)], [], (zS0, R, I, J)) r := by
  refine zEv_k 2 (f' := (if x1 < 0 then 23 else 4, [some (.ref 1), some (.int x1)], [], (zS0, R, I, J))) rfl ?_
  exact zEv_if k1 k2
theorem b_89_4 {X : zX} {d : Nat} {R : zR} {I : zI} {J : zJ} {r : zA} {x1 : Int32} (hR : zRok R) (k1 : (I 3 (0 : Int32).toNatClampNeg) ≤ x1 → zEv X d zm_89 (23, [some (.ref 1), some (.int x1)], [], (zS0, R, I, J)) r) (k2 : ¬ ((I 3 (0 : Int32).toNatClampNeg) ≤ x1) → zEv X d zm_89 (14, [some (.ref 1), some (.int x1)], [], (zS0, R, I, J)) r) : zEv X d zm_89 (4, [some (.ref 1), some (.int x1)], [], (zS0, R, I, J)) r := by
  refine zEv_k 2 (f' := (6, [some (.ref 1), some (.int x1)], [.ref 1, .int x1], (zS0, R, I, J))) rfl ?_
  refine zEv_gr rfl rfl rfl (by decide) (hR (1) 4 (3) rfl) ?_
  refine zEv_k 1 (f' := (10, [some (.ref 1), some (.int x1)], [.int 0, .ref 3, .int x1], (zS0, R, I, J))) rfl ?_
  refine zEv_ial rfl rfl (by decide) (by unfold zin; decide) ?_
  refine zEv_k 1 (f' := (if (I 3 (0 : Int32).toNatClampNeg) ≤ x1 then 23 else 14, [some (.ref 1), some (.int x1)], [], (zS0, R, I, J))) rfl ?_
  exact zEv_if k1 k2
theorem b_89_14 {X : zX} {d : Nat} {R : zR} {I : zI} {J : zJ} {c : Nat} {x1 : Int32} (hR : zRok R) (ho : c = 7 ∨ c = 22) (h19 : zin x1 2) (w19 : (x1 = 0 ∧ c = 7) ∨ (x1 = 1 ∧ c = 22)) : zEv X d zm_89 (14, [some (.ref 1), some (.int x1)], [], (zS0, R, I, J)) (some (.ref c), (zS0, R, I, J)) := by
  rcases ho with rfl | rfl
  · refine zEv_k 1 (f' := (15, [some (.ref 1), some (.int x1)], [.ref 1], (zS0, R, I, J))) rfl ?_
    refine zEv_gr rfl rfl rfl (by decide) (hR (1) 5 (4) rfl) ?_
    refine zEv_k 1 (f' := (19, [some (.ref 1), some (.int x1)], [.int x1, .ref 4], (zS0, R, I, J))) rfl ?_
    refine zEv_aal (b := 7) rfl rfl (by decide) h19 (by rcases w19 with ⟨e1, e2⟩ | ⟨e1, e2⟩ <;> first | exact absurd e2 (by decide) | (rw [e1]; exact hR (4) _ (7) rfl)) ?_
    refine zEv_k 1 (f' := (24, [some (.ref 1), some (.int x1)], [.ref 7], (zS0, R, I, J))) rfl ?_
    exact zEv_r rfl
  · refine zEv_k 1 (f' := (15, [some (.ref 1), some (.int x1)], [.ref 1], (zS0, R, I, J))) rfl ?_
    refine zEv_gr rfl rfl rfl (by decide) (hR (1) 5 (4) rfl) ?_
    refine zEv_k 1 (f' := (19, [some (.ref 1), some (.int x1)], [.int x1, .ref 4], (zS0, R, I, J))) rfl ?_
    refine zEv_aal (b := 22) rfl rfl (by decide) h19 (by rcases w19 with ⟨e1, e2⟩ | ⟨e1, e2⟩ <;> first | exact absurd e2 (by decide) | (rw [e1]; exact hR (4) _ (22) rfl)) ?_
    refine zEv_k 1 (f' := (24, [some (.ref 1), some (.int x1)], [.ref 22], (zS0, R, I, J))) rfl ?_
    exact zEv_r rfl
theorem b_89_23 {X : zX} {d : Nat} {R : zR} {I : zI} {J : zJ} {x1 : Int32} : zEv X d zm_89 (23, [some (.ref 1), some (.int x1)], [], (zS0, R, I, J)) (some (.null), (zS0, R, I, J)) := by
  refine zEv_k 1 (f' := (24, [some (.ref 1), some (.int x1)], [.null], (zS0, R, I, J))) rfl ?_
  exact zEv_r rfl
theorem b_90_0 {X : zX} {d : Nat} {R : zR} {I : zI} {J : zJ} {r : zA} {x1 : Int32} (k1 : x1 < 0 → zEv X d zm_90 (23, [some (.ref 1), some (.int x1)], [], (zS0, R, I, J)) r) (k2 : ¬ (x1 < 0) → zEv X d zm_90 (4, [some (.ref 1), some (.int x1)], [], (zS0, R, I, J)) r) : zEv X d zm_90 (0, [some (.ref 1), some (.int x1)], [], (zS0, R, I, J)) r := by
  refine zEv_k 2 (f' := (if x1 < 0 then 23 else 4, [some (.ref 1), some (.int x1)], [], (zS0, R, I, J))) rfl ?_
  exact zEv_if k1 k2
theorem b_90_4 {X : zX} {d : Nat} {R : zR} {I : zI} {J : zJ} {r : zA} {x1 : Int32} (hR : zRok R) (k1 : (I 3 (1 : Int32).toNatClampNeg) ≤ x1 → zEv X d zm_90 (23, [some (.ref 1), some (.int x1)], [], (zS0, R, I, J)) r) (k2 : ¬ ((I 3 (1 : Int32).toNatClampNeg) ≤ x1) → zEv X d zm_90 (14, [some (.ref 1), some (.int x1)], [], (zS0, R, I, J)) r) : zEv X d zm_90 (4, [some (.ref 1), some (.int x1)], [], (zS0, R, I, J)) r := by
  refine zEv_k 2 (f' := (6, [some (.ref 1), some (.int x1)], [.ref 1, .int x1], (zS0, R, I, J))) rfl ?_
  refine zEv_gr rfl rfl rfl (by decide) (hR (1) 4 (3) rfl) ?_
  refine zEv_k 1 (f' := (10, [some (.ref 1), some (.int x1)], [.int 1, .ref 3, .int x1], (zS0, R, I, J))) rfl ?_
  refine zEv_ial rfl rfl (by decide) (by unfold zin; decide) ?_
  refine zEv_k 1 (f' := (if (I 3 (1 : Int32).toNatClampNeg) ≤ x1 then 23 else 14, [some (.ref 1), some (.int x1)], [], (zS0, R, I, J))) rfl ?_
  exact zEv_if k1 k2
theorem b_90_14 {X : zX} {d : Nat} {R : zR} {I : zI} {J : zJ} {e : Nat} {x1 : Int32} (hR : zRok R) (ho : e = 15 ∨ e = 30) (h19 : zin x1 2) (w19 : (x1 = 0 ∧ e = 15) ∨ (x1 = 1 ∧ e = 30)) : zEv X d zm_90 (14, [some (.ref 1), some (.int x1)], [], (zS0, R, I, J)) (some (.ref e), (zS0, R, I, J)) := by
  rcases ho with rfl | rfl
  · refine zEv_k 1 (f' := (15, [some (.ref 1), some (.int x1)], [.ref 1], (zS0, R, I, J))) rfl ?_
    refine zEv_gr rfl rfl rfl (by decide) (hR (1) 6 (5) rfl) ?_
    refine zEv_k 1 (f' := (19, [some (.ref 1), some (.int x1)], [.int x1, .ref 5], (zS0, R, I, J))) rfl ?_
    refine zEv_aal (b := 15) rfl rfl (by decide) h19 (by rcases w19 with ⟨e1, e2⟩ | ⟨e1, e2⟩ <;> first | exact absurd e2 (by decide) | (rw [e1]; exact hR (5) _ (15) rfl)) ?_
    refine zEv_k 1 (f' := (24, [some (.ref 1), some (.int x1)], [.ref 15], (zS0, R, I, J))) rfl ?_
    exact zEv_r rfl
  · refine zEv_k 1 (f' := (15, [some (.ref 1), some (.int x1)], [.ref 1], (zS0, R, I, J))) rfl ?_
    refine zEv_gr rfl rfl rfl (by decide) (hR (1) 6 (5) rfl) ?_
    refine zEv_k 1 (f' := (19, [some (.ref 1), some (.int x1)], [.int x1, .ref 5], (zS0, R, I, J))) rfl ?_
    refine zEv_aal (b := 30) rfl rfl (by decide) h19 (by rcases w19 with ⟨e1, e2⟩ | ⟨e1, e2⟩ <;> first | exact absurd e2 (by decide) | (rw [e1]; exact hR (5) _ (30) rfl)) ?_
    refine zEv_k 1 (f' := (24, [some (.ref 1), some (.int x1)], [.ref 30], (zS0, R, I, J))) rfl ?_
    exact zEv_r rfl
theorem b_90_23 {X : zX} {d : Nat} {R : zR} {I : zI} {J : zJ} {x1 : Int32} : zEv X d zm_90 (23, [some (.ref 1), some (.int x1)], [], (zS0, R, I, J)) (some (.null), (zS0, R, I, J)) := by
  refine zEv_k 1 (f' := (24, [some (.ref 1), some (.int x1)], [.null], (zS0, R, I, J))) rfl ?_
  exact zEv_r rfl
theorem b_91_0 {X : zX} {d : Nat} {R : zR} {I : zI} {J : zJ} {r : zA} {x1 : Int32} (k1 : x1 < 0 → zEv X d zm_91 (23, [some (.ref 1), some (.int x1)], [], (zS0, R, I, J)) r) (k2 : ¬ (x1 < 0) → zEv X d zm_91 (4, [some (.ref 1), some (.int x1)], [], (zS0, R, I, J)) r) : zEv X d zm_91 (0, [some (.ref 1), some (.int x1)], [], (zS0, R, I, J)) r := by
  refine zEv_k 2 (f' := (if x1 < 0 then 23 else 4, [some (.ref 1), some (.int x1)], [], (zS0, R, I, J))) rfl ?_
  exact zEv_if k1 k2
theorem b_91_4 {X : zX} {d : Nat} {R : zR} {I : zI} {J : zJ} {r : zA} {x1 : Int32} (hR : zRok R) (k1 : (I 3 (2 : Int32).toNatClampNeg) ≤ x1 → zEv X d zm_91 (23, [some (.ref 1), some (.int x1)], [], (zS0, R, I, J)) r) (k2 : ¬ ((I 3 (2 : Int32).toNatClampNeg) ≤ x1) → zEv X d zm_91 (14, [some (.ref 1), some (.int x1)], [], (zS0, R, I, J)) r) : zEv X d zm_91 (4, [some (.ref 1), some (.int x1)], [], (zS0, R, I, J)) r := by
  refine zEv_k 2 (f' := (6, [some (.ref 1), some (.int x1)], [.ref 1, .int x1], (zS0, R, I, J))) rfl ?_
  refine zEv_gr rfl rfl rfl (by decide) (hR (1) 4 (3) rfl) ?_
  refine zEv_k 1 (f' := (10, [some (.ref 1), some (.int x1)], [.int 2, .ref 3, .int x1], (zS0, R, I, J))) rfl ?_
  refine zEv_ial rfl rfl (by decide) (by unfold zin; decide) ?_
  refine zEv_k 1 (f' := (if (I 3 (2 : Int32).toNatClampNeg) ≤ x1 then 23 else 14, [some (.ref 1), some (.int x1)], [], (zS0, R, I, J))) rfl ?_
  exact zEv_if k1 k2
theorem b_91_14 {X : zX} {d : Nat} {R : zR} {I : zI} {J : zJ} {g : Nat} {x1 : Int32} (hR : zRok R) (ho : g = 19 ∨ g = 34) (h19 : zin x1 2) (w19 : (x1 = 0 ∧ g = 19) ∨ (x1 = 1 ∧ g = 34)) : zEv X d zm_91 (14, [some (.ref 1), some (.int x1)], [], (zS0, R, I, J)) (some (.ref g), (zS0, R, I, J)) := by
  rcases ho with rfl | rfl
  · refine zEv_k 1 (f' := (15, [some (.ref 1), some (.int x1)], [.ref 1], (zS0, R, I, J))) rfl ?_
    refine zEv_gr rfl rfl rfl (by decide) (hR (1) 7 (6) rfl) ?_
    refine zEv_k 1 (f' := (19, [some (.ref 1), some (.int x1)], [.int x1, .ref 6], (zS0, R, I, J))) rfl ?_
    refine zEv_aal (b := 19) rfl rfl (by decide) h19 (by rcases w19 with ⟨e1, e2⟩ | ⟨e1, e2⟩ <;> first | exact absurd e2 (by decide) | (rw [e1]; exact hR (6) _ (19) rfl)) ?_
    refine zEv_k 1 (f' := (24, [some (.ref 1), some (.int x1)], [.ref 19], (zS0, R, I, J))) rfl ?_
    exact zEv_r rfl
  · refine zEv_k 1 (f' := (15, [some (.ref 1), some (.int x1)], [.ref 1], (zS0, R, I, J))) rfl ?_
    refine zEv_gr rfl rfl rfl (by decide) (hR (1) 7 (6) rfl) ?_
    refine zEv_k 1 (f' := (19, [some (.ref 1), some (.int x1)], [.int x1, .ref 6], (zS0, R, I, J))) rfl ?_
    refine zEv_aal (b := 34) rfl rfl (by decide) h19 (by rcases w19 with ⟨e1, e2⟩ | ⟨e1, e2⟩ <;> first | exact absurd e2 (by decide) | (rw [e1]; exact hR (6) _ (34) rfl)) ?_
    refine zEv_k 1 (f' := (24, [some (.ref 1), some (.int x1)], [.ref 34], (zS0, R, I, J))) rfl ?_
    exact zEv_r rfl
theorem b_91_23 {X : zX} {d : Nat} {R : zR} {I : zI} {J : zJ} {x1 : Int32} : zEv X d zm_91 (23, [some (.ref 1), some (.int x1)], [], (zS0, R, I, J)) (some (.null), (zS0, R, I, J)) := by
  refine zEv_k 1 (f' := (24, [some (.ref 1), some (.int x1)], [.null], (zS0, R, I, J))) rfl ?_
  exact zEv_r rfl
theorem b_92_0 {X : zX} {d : Nat} {R : zR} {I : zI} {J : zJ} {r : zA} {x2 : Int32} {x3 : Int32} (k1 : x3 < 0 → zEv X d zm_92 (9, [some (.ref 1), some (.ref 147), some (.int x2), some (.int x3)], [], (zS0, R, I, J)) r) (k2 : ¬ (x3 < 0) → zEv X d zm_92 (4, [some (.ref 1), some (.ref 147), some (.int x2), some (.int x3)], [], (zS0, R, I, J)) r) : zEv X d zm_92 (0, [some (.ref 1), some (.ref 147), some (.int x2), some (.int x3)], [], (zS0, R, I, J)) r := by
  refine zEv_k 2 (f' := (if x3 < 0 then 9 else 4, [some (.ref 1), some (.ref 147), some (.int x2), some (.int x3)], [], (zS0, R, I, J))) rfl ?_
  exact zEv_if k1 k2
theorem b_92_4 {X : zX} {d : Nat} {R : zR} {I : zI} {J : zJ} {r : zA} {x2 : Int32} {x3 : Int32} (k1 : x3 < 2 → zEv X d zm_92 (10, [some (.ref 1), some (.ref 147), some (.int x2), some (.int x3)], [], (zS0, R, I, J)) r) (k2 : ¬ (x3 < 2) → zEv X d zm_92 (9, [some (.ref 1), some (.ref 147), some (.int x2), some (.int x3)], [], (zS0, R, I, J)) r) : zEv X d zm_92 (4, [some (.ref 1), some (.ref 147), some (.int x2), some (.int x3)], [], (zS0, R, I, J)) r := by
  refine zEv_k 3 (f' := (if x3 < 2 then 10 else 9, [some (.ref 1), some (.ref 147), some (.int x2), some (.int x3)], [], (zS0, R, I, J))) rfl ?_
  exact zEv_if k1 k2
theorem b_92_9 {X : zX} {d : Nat} {R : zR} {I : zI} {J : zJ} {x2 : Int32} {x3 : Int32} : zEv X d zm_92 (9, [some (.ref 1), some (.ref 147), some (.int x2), some (.int x3)], [], (zS0, R, I, J)) (none, (zS0, R, I, J)) := by
  exact zEv_r rfl
theorem b_92_10 {X : zX} {d : Nat} {R : zR} {I : zI} {J : zJ} {r : zA} {x2 : Int32} {x3 : Int32} (k0 : x2 = 0 → zEv X d zm_92 (36, [some (.ref 1), some (.ref 147), some (.int x2), some (.int x3)], [], (zS0, R, I, J)) r) (k1 : x2 = 1 → zEv X d zm_92 (52, [some (.ref 1), some (.ref 147), some (.int x2), some (.int x3)], [], (zS0, R, I, J)) r) (k2 : x2 = 2 → zEv X d zm_92 (68, [some (.ref 1), some (.ref 147), some (.int x2), some (.int x3)], [], (zS0, R, I, J)) r) (kd : ¬ (0 ≤ (x2 : Int32).toInt ∧ (x2 : Int32).toInt ≤ 2) → zEv X d zm_92 (84, [some (.ref 1), some (.ref 147), some (.int x2), some (.int x3)], [], (zS0, R, I, J)) r) : zEv X d zm_92 (10, [some (.ref 1), some (.ref 147), some (.int x2), some (.int x3)], [], (zS0, R, I, J)) r := by
  refine zEv_k 1 (f' := (11, [some (.ref 1), some (.ref 147), some (.int x2), some (.int x3)], [.int x2], (zS0, R, I, J))) rfl ?_
  refine zEv_ts rfl (by decide) (by decide) (by decide) (fun hh => ?_) (fun j hj hh => ?_)
  · exact kd (by omega)
  · rcases (by have hj2 : j < 3 := hj; omega : j = 0 ∨ j = 1 ∨ j = 2) with rfl | rfl | rfl
    · exact k0 (zeqI hh (by decide))
    · exact k1 (zeqI hh (by decide))
    · exact k2 (zeqI hh (by decide))
theorem b_92_36 {X : zX} {d : Nat} {R : zR} {I : zI} {J : zJ} {r : zA} {c : Nat} {x2 : Int32} {x3 : Int32} {R' : zR} {I' : zI} {J' : zJ} (hR : zRok R) (ho : c = 7 ∨ c = 22) (h41 : zin x3 2) (w41 : (x3 = 0 ∧ c = 7) ∨ (x3 = 1 ∧ c = 22)) (hc : zEv X d zm_2 (0, [some (.ref c), some (.ref 148)], [], (zS0, R, I, J)) (none, (zS0, R', I', J'))) (k1 : zEv X (d + 1) zm_92 (49, [some (.ref 1), some (.ref 147), some (.int x2), some (.int x3)], [], (zS0, R', I', J')) r) : zEv X (d + 1) zm_92 (36, [some (.ref 1), some (.ref 147), some (.int x2), some (.int x3)], [], (zS0, R, I, J)) r := by
  rcases ho with rfl | rfl
  · refine zEv_k 1 (f' := (37, [some (.ref 1), some (.ref 147), some (.int x2), some (.int x3)], [.ref 1], (zS0, R, I, J))) rfl ?_
    refine zEv_gr rfl rfl rfl (by decide) (hR (1) 5 (4) rfl) ?_
    refine zEv_k 1 (f' := (41, [some (.ref 1), some (.ref 147), some (.int x2), some (.int x3)], [.int x3, .ref 4], (zS0, R, I, J))) rfl ?_
    refine zEv_aal (b := 7) rfl rfl (by decide) h41 (by rcases w41 with ⟨e1, e2⟩ | ⟨e1, e2⟩ <;> first | exact absurd e2 (by decide) | (rw [e1]; exact hR (4) _ (7) rfl)) ?_
    refine zEv_k 1 (f' := (43, [some (.ref 1), some (.ref 147), some (.int x2), some (.int x3)], [.ref 147, .ref 7], (zS0, R, I, J))) rfl ?_
    refine zEv_gr rfl rfl rfl (by decide) (hR (147) 0 (148) rfl) ?_
    exact zEv_c (fun _ => rfl) rfl hc rfl rfl k1
  · refine zEv_k 1 (f' := (37, [some (.ref 1), some (.ref 147), some (.int x2), some (.int x3)], [.ref 1], (zS0, R, I, J))) rfl ?_
    refine zEv_gr rfl rfl rfl (by decide) (hR (1) 5 (4) rfl) ?_
    refine zEv_k 1 (f' := (41, [some (.ref 1), some (.ref 147), some (.int x2), some (.int x3)], [.int x3, .ref 4], (zS0, R, I, J))) rfl ?_
    refine zEv_aal (b := 22) rfl rfl (by decide) h41 (by rcases w41 with ⟨e1, e2⟩ | ⟨e1, e2⟩ <;> first | exact absurd e2 (by decide) | (rw [e1]; exact hR (4) _ (22) rfl)) ?_
    refine zEv_k 1 (f' := (43, [some (.ref 1), some (.ref 147), some (.int x2), some (.int x3)], [.ref 147, .ref 22], (zS0, R, I, J))) rfl ?_
    refine zEv_gr rfl rfl rfl (by decide) (hR (147) 0 (148) rfl) ?_
    exact zEv_c (fun _ => rfl) rfl hc rfl rfl k1
theorem b_92_49 {X : zX} {d : Nat} {R : zR} {I : zI} {J : zJ} {r : zA} {x2 : Int32} {x3 : Int32} (k1 : zEv X d zm_92 (85, [some (.ref 1), some (.ref 147), some (.int x2), some (.int x3)], [], (zS0, R, I, J)) r) : zEv X d zm_92 (49, [some (.ref 1), some (.ref 147), some (.int x2), some (.int x3)], [], (zS0, R, I, J)) r := by
  refine zEv_k 1 (f' := (85, [some (.ref 1), some (.ref 147), some (.int x2), some (.int x3)], [], (zS0, R, I, J))) rfl ?_
  exact k1
theorem b_92_52 {X : zX} {d : Nat} {R : zR} {I : zI} {J : zJ} {r : zA} {e : Nat} {x2 : Int32} {x3 : Int32} {R' : zR} {I' : zI} {J' : zJ} (hR : zRok R) (ho : e = 15 ∨ e = 30) (h57 : zin x3 2) (w57 : (x3 = 0 ∧ e = 15) ∨ (x3 = 1 ∧ e = 30)) (hc : zEv X d zm_11 (0, [some (.ref e), some (.ref 156)], [], (zS0, R, I, J)) (none, (zS0, R', I', J'))) (k1 : zEv X (d + 1) zm_92 (65, [some (.ref 1), some (.ref 147), some (.int x2), some (.int x3)], [], (zS0, R', I', J')) r) : zEv X (d + 1) zm_92 (52, [some (.ref 1), some (.ref 147), some (.int x2), some (.int x3)], [], (zS0, R, I, J)) r := by
  rcases ho with rfl | rfl
  · refine zEv_k 1 (f' := (53, [some (.ref 1), some (.ref 147), some (.int x2), some (.int x3)], [.ref 1], (zS0, R, I, J))) rfl ?_
    refine zEv_gr rfl rfl rfl (by decide) (hR (1) 6 (5) rfl) ?_
    refine zEv_k 1 (f' := (57, [some (.ref 1), some (.ref 147), some (.int x2), some (.int x3)], [.int x3, .ref 5], (zS0, R, I, J))) rfl ?_
    refine zEv_aal (b := 15) rfl rfl (by decide) h57 (by rcases w57 with ⟨e1, e2⟩ | ⟨e1, e2⟩ <;> first | exact absurd e2 (by decide) | (rw [e1]; exact hR (5) _ (15) rfl)) ?_
    refine zEv_k 1 (f' := (59, [some (.ref 1), some (.ref 147), some (.int x2), some (.int x3)], [.ref 147, .ref 15], (zS0, R, I, J))) rfl ?_
    refine zEv_gr rfl rfl rfl (by decide) (hR (147) 1 (156) rfl) ?_
    exact zEv_c (fun _ => rfl) rfl hc rfl rfl k1
  · refine zEv_k 1 (f' := (53, [some (.ref 1), some (.ref 147), some (.int x2), some (.int x3)], [.ref 1], (zS0, R, I, J))) rfl ?_
    refine zEv_gr rfl rfl rfl (by decide) (hR (1) 6 (5) rfl) ?_
    refine zEv_k 1 (f' := (57, [some (.ref 1), some (.ref 147), some (.int x2), some (.int x3)], [.int x3, .ref 5], (zS0, R, I, J))) rfl ?_
    refine zEv_aal (b := 30) rfl rfl (by decide) h57 (by rcases w57 with ⟨e1, e2⟩ | ⟨e1, e2⟩ <;> first | exact absurd e2 (by decide) | (rw [e1]; exact hR (5) _ (30) rfl)) ?_
    refine zEv_k 1 (f' := (59, [some (.ref 1), some (.ref 147), some (.int x2), some (.int x3)], [.ref 147, .ref 30], (zS0, R, I, J))) rfl ?_
    refine zEv_gr rfl rfl rfl (by decide) (hR (147) 1 (156) rfl) ?_
    exact zEv_c (fun _ => rfl) rfl hc rfl rfl k1
theorem b_92_65 {X : zX} {d : Nat} {R : zR} {I : zI} {J : zJ} {r : zA} {x2 : Int32} {x3 : Int32} (k1 : zEv X d zm_92 (85, [some (.ref 1), some (.ref 147), some (.int x2), some (.int x3)], [], (zS0, R, I, J)) r) : zEv X d zm_92 (65, [some (.ref 1), some (.ref 147), some (.int x2), some (.int x3)], [], (zS0, R, I, J)) r := by
  refine zEv_k 1 (f' := (85, [some (.ref 1), some (.ref 147), some (.int x2), some (.int x3)], [], (zS0, R, I, J))) rfl ?_
  exact k1
theorem b_92_68 {X : zX} {d : Nat} {R : zR} {I : zI} {J : zJ} {r : zA} {g : Nat} {x2 : Int32} {x3 : Int32} {R' : zR} {I' : zI} {J' : zJ} (hR : zRok R) (ho : g = 19 ∨ g = 34) (h73 : zin x3 2) (w73 : (x3 = 0 ∧ g = 19) ∨ (x3 = 1 ∧ g = 34)) (hc : zEv X d zm_36 (0, [some (.ref g), some (.ref 160)], [], (zS0, R, I, J)) (none, (zS0, R', I', J'))) (k1 : zEv X (d + 1) zm_92 (81, [some (.ref 1), some (.ref 147), some (.int x2), some (.int x3)], [], (zS0, R', I', J')) r) : zEv X (d + 1) zm_92 (68, [some (.ref 1), some (.ref 147), some (.int x2), some (.int x3)], [], (zS0, R, I, J)) r := by
  rcases ho with rfl | rfl
  · refine zEv_k 1 (f' := (69, [some (.ref 1), some (.ref 147), some (.int x2), some (.int x3)], [.ref 1], (zS0, R, I, J))) rfl ?_
    refine zEv_gr rfl rfl rfl (by decide) (hR (1) 7 (6) rfl) ?_
    refine zEv_k 1 (f' := (73, [some (.ref 1), some (.ref 147), some (.int x2), some (.int x3)], [.int x3, .ref 6], (zS0, R, I, J))) rfl ?_
    refine zEv_aal (b := 19) rfl rfl (by decide) h73 (by rcases w73 with ⟨e1, e2⟩ | ⟨e1, e2⟩ <;> first | exact absurd e2 (by decide) | (rw [e1]; exact hR (6) _ (19) rfl)) ?_
    refine zEv_k 1 (f' := (75, [some (.ref 1), some (.ref 147), some (.int x2), some (.int x3)], [.ref 147, .ref 19], (zS0, R, I, J))) rfl ?_
    refine zEv_gr rfl rfl rfl (by decide) (hR (147) 2 (160) rfl) ?_
    exact zEv_c (fun _ => rfl) rfl hc rfl rfl k1
  · refine zEv_k 1 (f' := (69, [some (.ref 1), some (.ref 147), some (.int x2), some (.int x3)], [.ref 1], (zS0, R, I, J))) rfl ?_
    refine zEv_gr rfl rfl rfl (by decide) (hR (1) 7 (6) rfl) ?_
    refine zEv_k 1 (f' := (73, [some (.ref 1), some (.ref 147), some (.int x2), some (.int x3)], [.int x3, .ref 6], (zS0, R, I, J))) rfl ?_
    refine zEv_aal (b := 34) rfl rfl (by decide) h73 (by rcases w73 with ⟨e1, e2⟩ | ⟨e1, e2⟩ <;> first | exact absurd e2 (by decide) | (rw [e1]; exact hR (6) _ (34) rfl)) ?_
    refine zEv_k 1 (f' := (75, [some (.ref 1), some (.ref 147), some (.int x2), some (.int x3)], [.ref 147, .ref 34], (zS0, R, I, J))) rfl ?_
    refine zEv_gr rfl rfl rfl (by decide) (hR (147) 2 (160) rfl) ?_
    exact zEv_c (fun _ => rfl) rfl hc rfl rfl k1
theorem b_92_81 {X : zX} {d : Nat} {R : zR} {I : zI} {J : zJ} {r : zA} {x2 : Int32} {x3 : Int32} (k1 : zEv X d zm_92 (85, [some (.ref 1), some (.ref 147), some (.int x2), some (.int x3)], [], (zS0, R, I, J)) r) : zEv X d zm_92 (81, [some (.ref 1), some (.ref 147), some (.int x2), some (.int x3)], [], (zS0, R, I, J)) r := by
  refine zEv_k 1 (f' := (85, [some (.ref 1), some (.ref 147), some (.int x2), some (.int x3)], [], (zS0, R, I, J))) rfl ?_
  exact k1
theorem b_92_84 {X : zX} {d : Nat} {R : zR} {I : zI} {J : zJ} {x2 : Int32} {x3 : Int32} : zEv X d zm_92 (84, [some (.ref 1), some (.ref 147), some (.int x2), some (.int x3)], [], (zS0, R, I, J)) (none, (zS0, R, I, J)) := by
  exact zEv_r rfl
theorem b_92_85 {X : zX} {d : Nat} {R : zR} {I : zI} {J : zJ} {x2 : Int32} {x3 : Int32} (hR : zRok R) (h95 : zin x2 3) (h102 : zin x2 3) : zEv X d zm_92 (85, [some (.ref 1), some (.ref 147), some (.int x2), some (.int x3)], [], (zS0, R, I, J)) (none, (zS0, R, zu I 3 (x2).toNatClampNeg (if (I 3 (x2).toNatClampNeg) < (x3 + 1) then (x3 + 1) else (I 3 (x2).toNatClampNeg)), J)) := by
  refine zEv_k 1 (f' := (86, [some (.ref 1), some (.ref 147), some (.int x2), some (.int x3)], [.ref 1], (zS0, R, I, J))) rfl ?_
  refine zEv_gr rfl rfl rfl (by decide) (hR (1) 4 (3) rfl) ?_
  refine zEv_k 2 (f' := (91, [some (.ref 1), some (.ref 147), some (.int x2), some (.int x3)], [.ref 1, .int x2, .ref 3], (zS0, R, I, J))) rfl ?_
  refine zEv_gr rfl rfl rfl (by decide) (hR (1) 4 (3) rfl) ?_
  refine zEv_k 1 (f' := (95, [some (.ref 1), some (.ref 147), some (.int x2), some (.int x3)], [.int x2, .ref 3, .int x2, .ref 3], (zS0, R, I, J))) rfl ?_
  refine zEv_ial rfl rfl (by decide) h95 ?_
  refine zEv_k 4 (f' := (102, [some (.ref 1), some (.ref 147), some (.int x2), some (.int x3)], [.int (if (I 3 (x2).toNatClampNeg) < (x3 + 1) then (x3 + 1) else (I 3 (x2).toNatClampNeg)), .int x2, .ref 3], (zS0, R, I, J))) rfl ?_
  refine zEv_ias rfl rfl (by decide) h102 ?_
  exact zEv_r rfl
theorem b_93_0 {X : zX} {d : Nat} {R : zR} {I : zI} {J : zJ} {r : zA} {o : Nat} {q : Nat} (hR : zRok R) (ho : (o = 1 ∧ q = 38) ∨ (o = 1 ∧ q = 74) ∨ (o = 1 ∧ q = 110) ∨ (o = 38 ∧ q = 1) ∨ (o = 74 ∧ q = 1) ∨ (o = 110 ∧ q = 1)) (k1 : zEv X d zm_93 (56, [some (.ref o), some (.ref q), some (.int 0)], [], (zS0, R, zrow (zu (zu (zu (zrow I (o + 1) (va_cpy (I (q + 1)) (I (o + 1)) (0 : Int32).toNatClampNeg (0 : Int32).toNatClampNeg (600 : Int32).toNatClampNeg)) o 1 (I q 1)) o 2 (I q 2)) o 3 (I q 3)) (o + 2) (va_cpy (I (q + 2)) (I (o + 2)) (0 : Int32).toNatClampNeg (0 : Int32).toNatClampNeg (3 : Int32).toNatClampNeg), J)) r) : zEv X d zm_93 (0, [some (.ref o), some (.ref q), none], [], (zS0, R, I, J)) r := by
  rcases ho with ⟨rfl, rfl⟩ | ⟨rfl, rfl⟩ | ⟨rfl, rfl⟩ | ⟨rfl, rfl⟩ | ⟨rfl, rfl⟩ | ⟨rfl, rfl⟩
  · refine zEv_k 1 (f' := (1, [some (.ref 1), some (.ref 38), none], [.ref 38], (zS0, R, I, J))) rfl ?_
    refine zEv_gr rfl rfl rfl (by decide) (hR (38) 0 (38 + 1) rfl) ?_
    refine zEv_k 2 (f' := (6, [some (.ref 1), some (.ref 38), none], [.ref 1, .int 0, .ref (38 + 1)], (zS0, R, I, J))) rfl ?_
    refine zEv_gr rfl rfl rfl (by decide) (hR (1) 0 (1 + 1) rfl) ?_
    refine zEv_k 2 (f' := (13, [some (.ref 1), some (.ref 38), none], [.int 600, .int 0, .ref (1 + 1), .int 0, .ref (38 + 1)], (zS0, R, I, J))) rfl ?_
    refine zEv_cp rfl rfl rfl (by decide) (by decide) (by decide) (by unfold zcpok; decide) (by decide) ?_
    refine zEv_k 9 (f' := (33, [some (.ref 1), some (.ref 38), none], [.ref 1], (zS0, R, zu (zu (zrow I (1 + 1) (va_cpy (I (38 + 1)) (I (1 + 1)) (0 : Int32).toNatClampNeg (0 : Int32).toNatClampNeg (600 : Int32).toNatClampNeg)) 1 1 (I 38 1)) 1 2 (I 38 2), J))) rfl ?_
    refine zEv_k 4 (f' := (41, [some (.ref 1), some (.ref 38), none], [.ref 38], (zS0, R, zu (zu (zu (zrow I (1 + 1) (va_cpy (I (38 + 1)) (I (1 + 1)) (0 : Int32).toNatClampNeg (0 : Int32).toNatClampNeg (600 : Int32).toNatClampNeg)) 1 1 (I 38 1)) 1 2 (I 38 2)) 1 3 (I 38 3), J))) rfl ?_
    refine zEv_gr rfl rfl rfl (by decide) (hR (38) 4 (38 + 2) rfl) ?_
    refine zEv_k 2 (f' := (46, [some (.ref 1), some (.ref 38), none], [.ref 1, .int 0, .ref (38 + 2)], (zS0, R, zu (zu (zu (zrow I (1 + 1) (va_cpy (I (38 + 1)) (I (1 + 1)) (0 : Int32).toNatClampNeg (0 : Int32).toNatClampNeg (600 : Int32).toNatClampNeg)) 1 1 (I 38 1)) 1 2 (I 38 2)) 1 3 (I 38 3), J))) rfl ?_
    refine zEv_gr rfl rfl rfl (by decide) (hR (1) 4 (1 + 2) rfl) ?_
    refine zEv_k 2 (f' := (51, [some (.ref 1), some (.ref 38), none], [.int 3, .int 0, .ref (1 + 2), .int 0, .ref (38 + 2)], (zS0, R, zu (zu (zu (zrow I (1 + 1) (va_cpy (I (38 + 1)) (I (1 + 1)) (0 : Int32).toNatClampNeg (0 : Int32).toNatClampNeg (600 : Int32).toNatClampNeg)) 1 1 (I 38 1)) 1 2 (I 38 2)) 1 3 (I 38 3), J))) rfl ?_
    refine zEv_cp rfl rfl rfl (by decide) (by decide) (by decide) (by unfold zcpok; decide) (by decide) ?_
    refine zEv_k 2 (f' := (56, [some (.ref 1), some (.ref 38), some (.int 0)], [], (zS0, R, zrow (zu (zu (zu (zrow I (1 + 1) (va_cpy (I (38 + 1)) (I (1 + 1)) (0 : Int32).toNatClampNeg (0 : Int32).toNatClampNeg (600 : Int32).toNatClampNeg)) 1 1 (I 38 1)) 1 2 (I 38 2)) 1 3 (I 38 3)) (1 + 2) (va_cpy (I (38 + 2)) (I (1 + 2)) (0 : Int32).toNatClampNeg (0 : Int32).toNatClampNeg (3 : Int32).toNatClampNeg), J))) rfl ?_
    exact k1
  · refine zEv_k 1 (f' := (1, [some (.ref 1), some (.ref 74), none], [.ref 74], (zS0, R, I, J))) rfl ?_
    refine zEv_gr rfl rfl rfl (by decide) (hR (74) 0 (74 + 1) rfl) ?_
    refine zEv_k 2 (f' := (6, [some (.ref 1), some (.ref 74), none], [.ref 1, .int 0, .ref (74 + 1)], (zS0, R, I, J))) rfl ?_
    refine zEv_gr rfl rfl rfl (by decide) (hR (1) 0 (1 + 1) rfl) ?_
    refine zEv_k 2 (f' := (13, [some (.ref 1), some (.ref 74), none], [.int 600, .int 0, .ref (1 + 1), .int 0, .ref (74 + 1)], (zS0, R, I, J))) rfl ?_
    refine zEv_cp rfl rfl rfl (by decide) (by decide) (by decide) (by unfold zcpok; decide) (by decide) ?_
    refine zEv_k 9 (f' := (33, [some (.ref 1), some (.ref 74), none], [.ref 1], (zS0, R, zu (zu (zrow I (1 + 1) (va_cpy (I (74 + 1)) (I (1 + 1)) (0 : Int32).toNatClampNeg (0 : Int32).toNatClampNeg (600 : Int32).toNatClampNeg)) 1 1 (I 74 1)) 1 2 (I 74 2), J))) rfl ?_
    refine zEv_k 4 (f' := (41, [some (.ref 1), some (.ref 74), none], [.ref 74], (zS0, R, zu (zu (zu (zrow I (1 + 1) (va_cpy (I (74 + 1)) (I (1 + 1)) (0 : Int32).toNatClampNeg (0 : Int32).toNatClampNeg (600 : Int32).toNatClampNeg)) 1 1 (I 74 1)) 1 2 (I 74 2)) 1 3 (I 74 3), J))) rfl ?_
    refine zEv_gr rfl rfl rfl (by decide) (hR (74) 4 (74 + 2) rfl) ?_
    refine zEv_k 2 (f' := (46, [some (.ref 1), some (.ref 74), none], [.ref 1, .int 0, .ref (74 + 2)], (zS0, R, zu (zu (zu (zrow I (1 + 1) (va_cpy (I (74 + 1)) (I (1 + 1)) (0 : Int32).toNatClampNeg (0 : Int32).toNatClampNeg (600 : Int32).toNatClampNeg)) 1 1 (I 74 1)) 1 2 (I 74 2)) 1 3 (I 74 3), J))) rfl ?_
    refine zEv_gr rfl rfl rfl (by decide) (hR (1) 4 (1 + 2) rfl) ?_
    refine zEv_k 2 (f' := (51, [some (.ref 1), some (.ref 74), none], [.int 3, .int 0, .ref (1 + 2), .int 0, .ref (74 + 2)], (zS0, R, zu (zu (zu (zrow I (1 + 1) (va_cpy (I (74 + 1)) (I (1 + 1)) (0 : Int32).toNatClampNeg (0 : Int32).toNatClampNeg (600 : Int32).toNatClampNeg)) 1 1 (I 74 1)) 1 2 (I 74 2)) 1 3 (I 74 3), J))) rfl ?_
    refine zEv_cp rfl rfl rfl (by decide) (by decide) (by decide) (by unfold zcpok; decide) (by decide) ?_
    refine zEv_k 2 (f' := (56, [some (.ref 1), some (.ref 74), some (.int 0)], [], (zS0, R, zrow (zu (zu (zu (zrow I (1 + 1) (va_cpy (I (74 + 1)) (I (1 + 1)) (0 : Int32).toNatClampNeg (0 : Int32).toNatClampNeg (600 : Int32).toNatClampNeg)) 1 1 (I 74 1)) 1 2 (I 74 2)) 1 3 (I 74 3)) (1 + 2) (va_cpy (I (74 + 2)) (I (1 + 2)) (0 : Int32).toNatClampNeg (0 : Int32).toNatClampNeg (3 : Int32).toNatClampNeg), J))) rfl ?_
    exact k1
  · refine zEv_k 1 (f' := (1, [some (.ref 1), some (.ref 110), none], [.ref 110], (zS0, R, I, J))) rfl ?_
    refine zEv_gr rfl rfl rfl (by decide) (hR (110) 0 (110 + 1) rfl) ?_
    refine zEv_k 2 (f' := (6, [some (.ref 1), some (.ref 110), none], [.ref 1, .int 0, .ref (110 + 1)], (zS0, R, I, J))) rfl ?_
    refine zEv_gr rfl rfl rfl (by decide) (hR (1) 0 (1 + 1) rfl) ?_
    refine zEv_k 2 (f' := (13, [some (.ref 1), some (.ref 110), none], [.int 600, .int 0, .ref (1 + 1), .int 0, .ref (110 + 1)], (zS0, R, I, J))) rfl ?_
    refine zEv_cp rfl rfl rfl (by decide) (by decide) (by decide) (by unfold zcpok; decide) (by decide) ?_
    refine zEv_k 9 (f' := (33, [some (.ref 1), some (.ref 110), none], [.ref 1], (zS0, R, zu (zu (zrow I (1 + 1) (va_cpy (I (110 + 1)) (I (1 + 1)) (0 : Int32).toNatClampNeg (0 : Int32).toNatClampNeg (600 : Int32).toNatClampNeg)) 1 1 (I 110 1)) 1 2 (I 110 2), J))) rfl ?_
    refine zEv_k 4 (f' := (41, [some (.ref 1), some (.ref 110), none], [.ref 110], (zS0, R, zu (zu (zu (zrow I (1 + 1) (va_cpy (I (110 + 1)) (I (1 + 1)) (0 : Int32).toNatClampNeg (0 : Int32).toNatClampNeg (600 : Int32).toNatClampNeg)) 1 1 (I 110 1)) 1 2 (I 110 2)) 1 3 (I 110 3), J))) rfl ?_
    refine zEv_gr rfl rfl rfl (by decide) (hR (110) 4 (110 + 2) rfl) ?_
    refine zEv_k 2 (f' := (46, [some (.ref 1), some (.ref 110), none], [.ref 1, .int 0, .ref (110 + 2)], (zS0, R, zu (zu (zu (zrow I (1 + 1) (va_cpy (I (110 + 1)) (I (1 + 1)) (0 : Int32).toNatClampNeg (0 : Int32).toNatClampNeg (600 : Int32).toNatClampNeg)) 1 1 (I 110 1)) 1 2 (I 110 2)) 1 3 (I 110 3), J))) rfl ?_
    refine zEv_gr rfl rfl rfl (by decide) (hR (1) 4 (1 + 2) rfl) ?_
    refine zEv_k 2 (f' := (51, [some (.ref 1), some (.ref 110), none], [.int 3, .int 0, .ref (1 + 2), .int 0, .ref (110 + 2)], (zS0, R, zu (zu (zu (zrow I (1 + 1) (va_cpy (I (110 + 1)) (I (1 + 1)) (0 : Int32).toNatClampNeg (0 : Int32).toNatClampNeg (600 : Int32).toNatClampNeg)) 1 1 (I 110 1)) 1 2 (I 110 2)) 1 3 (I 110 3), J))) rfl ?_
    refine zEv_cp rfl rfl rfl (by decide) (by decide) (by decide) (by unfold zcpok; decide) (by decide) ?_
    refine zEv_k 2 (f' := (56, [some (.ref 1), some (.ref 110), some (.int 0)], [], (zS0, R, zrow (zu (zu (zu (zrow I (1 + 1) (va_cpy (I (110 + 1)) (I (1 + 1)) (0 : Int32).toNatClampNeg (0 : Int32).toNatClampNeg (600 : Int32).toNatClampNeg)) 1 1 (I 110 1)) 1 2 (I 110 2)) 1 3 (I 110 3)) (1 + 2) (va_cpy (I (110 + 2)) (I (1 + 2)) (0 : Int32).toNatClampNeg (0 : Int32).toNatClampNeg (3 : Int32).toNatClampNeg), J))) rfl ?_
    exact k1
  · refine zEv_k 1 (f' := (1, [some (.ref 38), some (.ref 1), none], [.ref 1], (zS0, R, I, J))) rfl ?_
    refine zEv_gr rfl rfl rfl (by decide) (hR (1) 0 (1 + 1) rfl) ?_
    refine zEv_k 2 (f' := (6, [some (.ref 38), some (.ref 1), none], [.ref 38, .int 0, .ref (1 + 1)], (zS0, R, I, J))) rfl ?_
    refine zEv_gr rfl rfl rfl (by decide) (hR (38) 0 (38 + 1) rfl) ?_
    refine zEv_k 2 (f' := (13, [some (.ref 38), some (.ref 1), none], [.int 600, .int 0, .ref (38 + 1), .int 0, .ref (1 + 1)], (zS0, R, I, J))) rfl ?_
    refine zEv_cp rfl rfl rfl (by decide) (by decide) (by decide) (by unfold zcpok; decide) (by decide) ?_
    refine zEv_k 9 (f' := (33, [some (.ref 38), some (.ref 1), none], [.ref 38], (zS0, R, zu (zu (zrow I (38 + 1) (va_cpy (I (1 + 1)) (I (38 + 1)) (0 : Int32).toNatClampNeg (0 : Int32).toNatClampNeg (600 : Int32).toNatClampNeg)) 38 1 (I 1 1)) 38 2 (I 1 2), J))) rfl ?_
    refine zEv_k 4 (f' := (41, [some (.ref 38), some (.ref 1), none], [.ref 1], (zS0, R, zu (zu (zu (zrow I (38 + 1) (va_cpy (I (1 + 1)) (I (38 + 1)) (0 : Int32).toNatClampNeg (0 : Int32).toNatClampNeg (600 : Int32).toNatClampNeg)) 38 1 (I 1 1)) 38 2 (I 1 2)) 38 3 (I 1 3), J))) rfl ?_
    refine zEv_gr rfl rfl rfl (by decide) (hR (1) 4 (1 + 2) rfl) ?_
    refine zEv_k 2 (f' := (46, [some (.ref 38), some (.ref 1), none], [.ref 38, .int 0, .ref (1 + 2)], (zS0, R, zu (zu (zu (zrow I (38 + 1) (va_cpy (I (1 + 1)) (I (38 + 1)) (0 : Int32).toNatClampNeg (0 : Int32).toNatClampNeg (600 : Int32).toNatClampNeg)) 38 1 (I 1 1)) 38 2 (I 1 2)) 38 3 (I 1 3), J))) rfl ?_
    refine zEv_gr rfl rfl rfl (by decide) (hR (38) 4 (38 + 2) rfl) ?_
    refine zEv_k 2 (f' := (51, [some (.ref 38), some (.ref 1), none], [.int 3, .int 0, .ref (38 + 2), .int 0, .ref (1 + 2)], (zS0, R, zu (zu (zu (zrow I (38 + 1) (va_cpy (I (1 + 1)) (I (38 + 1)) (0 : Int32).toNatClampNeg (0 : Int32).toNatClampNeg (600 : Int32).toNatClampNeg)) 38 1 (I 1 1)) 38 2 (I 1 2)) 38 3 (I 1 3), J))) rfl ?_
    refine zEv_cp rfl rfl rfl (by decide) (by decide) (by decide) (by unfold zcpok; decide) (by decide) ?_
    refine zEv_k 2 (f' := (56, [some (.ref 38), some (.ref 1), some (.int 0)], [], (zS0, R, zrow (zu (zu (zu (zrow I (38 + 1) (va_cpy (I (1 + 1)) (I (38 + 1)) (0 : Int32).toNatClampNeg (0 : Int32).toNatClampNeg (600 : Int32).toNatClampNeg)) 38 1 (I 1 1)) 38 2 (I 1 2)) 38 3 (I 1 3)) (38 + 2) (va_cpy (I (1 + 2)) (I (38 + 2)) (0 : Int32).toNatClampNeg (0 : Int32).toNatClampNeg (3 : Int32).toNatClampNeg), J))) rfl ?_
    exact k1
  · refine zEv_k 1 (f' := (1, [some (.ref 74), some (.ref 1), none], [.ref 1], (zS0, R, I, J))) rfl ?_
    refine zEv_gr rfl rfl rfl (by decide) (hR (1) 0 (1 + 1) rfl) ?_
    refine zEv_k 2 (f' := (6, [some (.ref 74), some (.ref 1), none], [.ref 74, .int 0, .ref (1 + 1)], (zS0, R, I, J))) rfl ?_
    refine zEv_gr rfl rfl rfl (by decide) (hR (74) 0 (74 + 1) rfl) ?_
    refine zEv_k 2 (f' := (13, [some (.ref 74), some (.ref 1), none], [.int 600, .int 0, .ref (74 + 1), .int 0, .ref (1 + 1)], (zS0, R, I, J))) rfl ?_
    refine zEv_cp rfl rfl rfl (by decide) (by decide) (by decide) (by unfold zcpok; decide) (by decide) ?_
    refine zEv_k 9 (f' := (33, [some (.ref 74), some (.ref 1), none], [.ref 74], (zS0, R, zu (zu (zrow I (74 + 1) (va_cpy (I (1 + 1)) (I (74 + 1)) (0 : Int32).toNatClampNeg (0 : Int32).toNatClampNeg (600 : Int32).toNatClampNeg)) 74 1 (I 1 1)) 74 2 (I 1 2), J))) rfl ?_
    refine zEv_k 4 (f' := (41, [some (.ref 74), some (.ref 1), none], [.ref 1], (zS0, R, zu (zu (zu (zrow I (74 + 1) (va_cpy (I (1 + 1)) (I (74 + 1)) (0 : Int32).toNatClampNeg (0 : Int32).toNatClampNeg (600 : Int32).toNatClampNeg)) 74 1 (I 1 1)) 74 2 (I 1 2)) 74 3 (I 1 3), J))) rfl ?_
    refine zEv_gr rfl rfl rfl (by decide) (hR (1) 4 (1 + 2) rfl) ?_
    refine zEv_k 2 (f' := (46, [some (.ref 74), some (.ref 1), none], [.ref 74, .int 0, .ref (1 + 2)], (zS0, R, zu (zu (zu (zrow I (74 + 1) (va_cpy (I (1 + 1)) (I (74 + 1)) (0 : Int32).toNatClampNeg (0 : Int32).toNatClampNeg (600 : Int32).toNatClampNeg)) 74 1 (I 1 1)) 74 2 (I 1 2)) 74 3 (I 1 3), J))) rfl ?_
    refine zEv_gr rfl rfl rfl (by decide) (hR (74) 4 (74 + 2) rfl) ?_
    refine zEv_k 2 (f' := (51, [some (.ref 74), some (.ref 1), none], [.int 3, .int 0, .ref (74 + 2), .int 0, .ref (1 + 2)], (zS0, R, zu (zu (zu (zrow I (74 + 1) (va_cpy (I (1 + 1)) (I (74 + 1)) (0 : Int32).toNatClampNeg (0 : Int32).toNatClampNeg (600 : Int32).toNatClampNeg)) 74 1 (I 1 1)) 74 2 (I 1 2)) 74 3 (I 1 3), J))) rfl ?_
    refine zEv_cp rfl rfl rfl (by decide) (by decide) (by decide) (by unfold zcpok; decide) (by decide) ?_
    refine zEv_k 2 (f' := (56, [some (.ref 74), some (.ref 1), some (.int 0)], [], (zS0, R, zrow (zu (zu (zu (zrow I (74 + 1) (va_cpy (I (1 + 1)) (I (74 + 1)) (0 : Int32).toNatClampNeg (0 : Int32).toNatClampNeg (600 : Int32).toNatClampNeg)) 74 1 (I 1 1)) 74 2 (I 1 2)) 74 3 (I 1 3)) (74 + 2) (va_cpy (I (1 + 2)) (I (74 + 2)) (0 : Int32).toNatClampNeg (0 : Int32).toNatClampNeg (3 : Int32).toNatClampNeg), J))) rfl ?_
    exact k1
  · refine zEv_k 1 (f' := (1, [some (.ref 110), some (.ref 1), none], [.ref 1], (zS0, R, I, J))) rfl ?_
    refine zEv_gr rfl rfl rfl (by decide) (hR (1) 0 (1 + 1) rfl) ?_
    refine zEv_k 2 (f' := (6, [some (.ref 110), some (.ref 1), none], [.ref 110, .int 0, .ref (1 + 1)], (zS0, R, I, J))) rfl ?_
    refine zEv_gr rfl rfl rfl (by decide) (hR (110) 0 (110 + 1) rfl) ?_
    refine zEv_k 2 (f' := (13, [some (.ref 110), some (.ref 1), none], [.int 600, .int 0, .ref (110 + 1), .int 0, .ref (1 + 1)], (zS0, R, I, J))) rfl ?_
    refine zEv_cp rfl rfl rfl (by decide) (by decide) (by decide) (by unfold zcpok; decide) (by decide) ?_
    refine zEv_k 9 (f' := (33, [some (.ref 110), some (.ref 1), none], [.ref 110], (zS0, R, zu (zu (zrow I (110 + 1) (va_cpy (I (1 + 1)) (I (110 + 1)) (0 : Int32).toNatClampNeg (0 : Int32).toNatClampNeg (600 : Int32).toNatClampNeg)) 110 1 (I 1 1)) 110 2 (I 1 2), J))) rfl ?_
    refine zEv_k 4 (f' := (41, [some (.ref 110), some (.ref 1), none], [.ref 1], (zS0, R, zu (zu (zu (zrow I (110 + 1) (va_cpy (I (1 + 1)) (I (110 + 1)) (0 : Int32).toNatClampNeg (0 : Int32).toNatClampNeg (600 : Int32).toNatClampNeg)) 110 1 (I 1 1)) 110 2 (I 1 2)) 110 3 (I 1 3), J))) rfl ?_
    refine zEv_gr rfl rfl rfl (by decide) (hR (1) 4 (1 + 2) rfl) ?_
    refine zEv_k 2 (f' := (46, [some (.ref 110), some (.ref 1), none], [.ref 110, .int 0, .ref (1 + 2)], (zS0, R, zu (zu (zu (zrow I (110 + 1) (va_cpy (I (1 + 1)) (I (110 + 1)) (0 : Int32).toNatClampNeg (0 : Int32).toNatClampNeg (600 : Int32).toNatClampNeg)) 110 1 (I 1 1)) 110 2 (I 1 2)) 110 3 (I 1 3), J))) rfl ?_
    refine zEv_gr rfl rfl rfl (by decide) (hR (110) 4 (110 + 2) rfl) ?_
    refine zEv_k 2 (f' := (51, [some (.ref 110), some (.ref 1), none], [.int 3, .int 0, .ref (110 + 2), .int 0, .ref (1 + 2)], (zS0, R, zu (zu (zu (zrow I (110 + 1) (va_cpy (I (1 + 1)) (I (110 + 1)) (0 : Int32).toNatClampNeg (0 : Int32).toNatClampNeg (600 : Int32).toNatClampNeg)) 110 1 (I 1 1)) 110 2 (I 1 2)) 110 3 (I 1 3), J))) rfl ?_
    refine zEv_cp rfl rfl rfl (by decide) (by decide) (by decide) (by unfold zcpok; decide) (by decide) ?_
    refine zEv_k 2 (f' := (56, [some (.ref 110), some (.ref 1), some (.int 0)], [], (zS0, R, zrow (zu (zu (zu (zrow I (110 + 1) (va_cpy (I (1 + 1)) (I (110 + 1)) (0 : Int32).toNatClampNeg (0 : Int32).toNatClampNeg (600 : Int32).toNatClampNeg)) 110 1 (I 1 1)) 110 2 (I 1 2)) 110 3 (I 1 3)) (110 + 2) (va_cpy (I (1 + 2)) (I (110 + 2)) (0 : Int32).toNatClampNeg (0 : Int32).toNatClampNeg (3 : Int32).toNatClampNeg), J))) rfl ?_
    exact k1
theorem b_93_56 {X : zX} {d : Nat} {R : zR} {I : zI} {J : zJ} {r : zA} {o : Nat} {q : Nat} {x2 : Int32} (ho : (o = 1 ∧ q = 38) ∨ (o = 1 ∧ q = 74) ∨ (o = 1 ∧ q = 110) ∨ (o = 38 ∧ q = 1) ∨ (o = 74 ∧ q = 1) ∨ (o = 110 ∧ q = 1)) (k1 : 2 ≤ x2 → zEv X d zm_93 (112, [some (.ref o), some (.ref q), some (.int x2)], [], (zS0, R, I, J)) r) (k2 : ¬ (2 ≤ x2) → zEv X d zm_93 (61, [some (.ref o), some (.ref q), some (.int x2)], [], (zS0, R, I, J)) r) : zEv X d zm_93 (56, [some (.ref o), some (.ref q), some (.int x2)], [], (zS0, R, I, J)) r := by
  rcases ho with ⟨rfl, rfl⟩ | ⟨rfl, rfl⟩ | ⟨rfl, rfl⟩ | ⟨rfl, rfl⟩ | ⟨rfl, rfl⟩ | ⟨rfl, rfl⟩
  · refine zEv_k 3 (f' := (if 2 ≤ x2 then 112 else 61, [some (.ref 1), some (.ref 38), some (.int x2)], [], (zS0, R, I, J))) rfl ?_
    exact zEv_if k1 k2
  · refine zEv_k 3 (f' := (if 2 ≤ x2 then 112 else 61, [some (.ref 1), some (.ref 74), some (.int x2)], [], (zS0, R, I, J))) rfl ?_
    exact zEv_if k1 k2
  · refine zEv_k 3 (f' := (if 2 ≤ x2 then 112 else 61, [some (.ref 1), some (.ref 110), some (.int x2)], [], (zS0, R, I, J))) rfl ?_
    exact zEv_if k1 k2
  · refine zEv_k 3 (f' := (if 2 ≤ x2 then 112 else 61, [some (.ref 38), some (.ref 1), some (.int x2)], [], (zS0, R, I, J))) rfl ?_
    exact zEv_if k1 k2
  · refine zEv_k 3 (f' := (if 2 ≤ x2 then 112 else 61, [some (.ref 74), some (.ref 1), some (.int x2)], [], (zS0, R, I, J))) rfl ?_
    exact zEv_if k1 k2
  · refine zEv_k 3 (f' := (if 2 ≤ x2 then 112 else 61, [some (.ref 110), some (.ref 1), some (.int x2)], [], (zS0, R, I, J))) rfl ?_
    exact zEv_if k1 k2
theorem b_93_112 {X : zX} {d : Nat} {R : zR} {I : zI} {J : zJ} {o : Nat} {q : Nat} {x2 : Int32} (ho : (o = 1 ∧ q = 38) ∨ (o = 1 ∧ q = 74) ∨ (o = 1 ∧ q = 110) ∨ (o = 38 ∧ q = 1) ∨ (o = 74 ∧ q = 1) ∨ (o = 110 ∧ q = 1)) : zEv X d zm_93 (112, [some (.ref o), some (.ref q), some (.int x2)], [], (zS0, R, I, J)) (none, (zS0, R, I, J)) := by
  rcases ho with ⟨rfl, rfl⟩ | ⟨rfl, rfl⟩ | ⟨rfl, rfl⟩ | ⟨rfl, rfl⟩ | ⟨rfl, rfl⟩ | ⟨rfl, rfl⟩
  · exact zEv_r rfl
  · exact zEv_r rfl
  · exact zEv_r rfl
  · exact zEv_r rfl
  · exact zEv_r rfl
  · exact zEv_r rfl
