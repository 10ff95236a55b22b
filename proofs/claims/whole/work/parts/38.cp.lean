def zcpb (sp dp n : Int32) (n0 n1 : Nat) : Bool := decide (¬ sp < 0 ∧ ¬ dp < 0 ∧ ¬ n < 0 ∧ sp.toNatClampNeg + n.toNatClampNeg ≤ n0 ∧ dp.toNatClampNeg + n.toNatClampNeg ≤ n1)
theorem zcpb_ok {sp dp n : Int32} {n0 n1 : Nat} (h : zcpb sp dp n n0 n1 = true) : zcpok sp dp n n0 n1 := by
  unfold zcpb at h
  have h2 := of_decide_eq_true h
  exact h2
