def zcpok (sp dp n : Int32) (n0 n1 : Nat) : Prop := ¬ sp < 0 ∧ ¬ dp < 0 ∧ ¬ n < 0 ∧ sp.toNatClampNeg + n.toNatClampNeg ≤ n0 ∧ dp.toNatClampNeg + n.toNatClampNeg ≤ n1
theorem zEv_cp {X : zX} {d : Nat} {M : zM} {pc : Nat} {L : zL} {st : List Value} {S : zS} {R : zR} {I : zI} {J : zJ} {r : zA} {idx : Nat} {c : Int32} {cl : Int64} {k a b n0 n1 : Nat} {ty : FieldType} {sp dp n : Int32} (ho : M.2.2.2.2.2.2.2[pc]? = some (some (.invokestatic idx, c, cl, 5, k))) (ha : S[a]? = some (.inl (ty, n0))) (hb : S[b]? = some (.inl (ty, n1))) (ht : ty = .int ∨ ty = .byte) (ha2 : a < zro) (hb2 : b < zro) (h : zcpok sp dp n n0 n1) (hc : zcat st ≤ 8)
    (kk : zEv X d M (pc + 3, L, st, (S, R, zrow I b (va_cpy (I a) (I b) sp.toNatClampNeg dp.toNatClampNeg n.toNatClampNeg), J)) r) : zEv X d M (pc, L, .int n :: .int dp :: .ref b :: .int sp :: .ref a :: st, (S, R, I, J)) r := by
  refine zEv_1 ?_ kk
  obtain ⟨h1, h2, h3, h4, h5⟩ := h
  unfold zstep
  dsimp only
  rw [ho]
  dsimp only
  rw [if_neg (by decide), if_neg (by decide), if_neg (by decide), if_neg (by decide), if_pos rfl, ha, hb]
  dsimp only
  rw [if_pos ⟨rfl, ht, ha2, hb2, h1, h2, h3, h4, h5, hc⟩]
  rfl
theorem zRok_u {R : zR} {o k : Nat} {v : Option Nat} (hR : zRok R) (h0 : zR0 o k = none) : zRok (zu R o k v) := by
  intro a j b h
  unfold zu
  rw [if_neg]
  · exact hR a j b h
  · rintro ⟨rfl, rfl⟩
    rw [h0] at h; cases h
