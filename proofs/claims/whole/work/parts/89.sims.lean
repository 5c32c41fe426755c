/-! each call alike (what is not shown yet) -/
theorem sim_init (L : Nat) (xs : Nat → Int32) : ∃ (r μi : xM), fX_init 2 (xnew (xM0 L xs) (10, 10) (0, 0) 0 10) = some r ∧ xS r = 293 ∧ fM_init 293 (xnew r (19, 65) (0, 0) 0 65) = some μi ∧ Sim L xs μi := by
  sorry
