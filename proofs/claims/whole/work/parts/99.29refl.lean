/-! LAYING: the reference's answer -/
section REFL
variable {h : zK} {k : Nat} {c : wC}
theorem qM_layBody_ev (ok : wCok c) (M : yM h k c (c.2.2.2 5)) (x2 : Int32) (hx : x2 = -1 ∨ ∃ s, s < c.1 ∧ x2 = nI s) : ∃ b r h', b ≤ 7 ∧ yBst c b r ∧ ((qM_sortPlaces h).bind fun p5 => (zloop (qM_laying_b40 x2) zfu (1000000, 1, p5)).bind fun t15 => if ¬ x2 = (-1) then (zix x2 7).bind fun j18 => some (gI t15.2 230 j18, t15.2) else some (t15.1, t15.2)) = some (if x2 = -1 then nI b else nI (r x2.toNatClampNeg), h') := by
  have n7 := ok.1
  obtain ⟨h1, A, e1, M1, pm, rise⟩ := qM_sortPlaces_ev ok M
  obtain ⟨b, h2, r, e2, b7, B, rw'⟩ := qM_layAll_ev ok M1 pm rise x2
  refine ⟨b, r, h2, b7, B, ?_⟩
  rw [e1, Option.bind_some, e2, Option.bind_some]
  dsimp only
  rcases hx with hx | ⟨s, hs, rfl⟩
  · rw [if_neg (fun z => z hx), if_pos hx]
  · rw [if_pos (nI_nm1 (by omega)), if_neg (nI_nm1 (by omega)), zix_nI (by omega) (by omega), Option.bind_some, rw' s hs, nI_clamp (by omega)]
end REFL
