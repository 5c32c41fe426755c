/-! each call alike (what is not shown yet) -/
theorem sim_ask {L : Nat} {xs : Nat → Int32} {μ : xM}  (hS : Sim L xs μ) : SimR L xs (fX_ask 2 μ) (fun μ => fM_ask 293 μ) := by
  sorry
theorem sim_view {L : Nat} {xs : Nat → Int32} {μ : xM}  (hS : Sim L xs μ) : SimR L xs (fX_view 2 μ) (fun μ => fM_view 293 μ) := by
  sorry
theorem sim_steps {L : Nat} {xs : Nat → Int32} {μ : xM} (a1 : Int32) (a2 : Int32) (hS : Sim L xs μ) : SimR L xs (fX_steps 2 a1 a2 μ) (fun μ => fM_steps 293 a1 a2 μ) := by
  sorry
theorem sim_end {L : Nat} {xs : Nat → Int32} {μ : xM} (a1 : Int32) (a2 : Int32) (hS : Sim L xs μ) : SimR L xs (fX_end 2 a1 a2 μ) (fun μ => fM_end 293 a1 a2 μ) := by
  sorry
theorem sim_within {L : Nat} {xs : Nat → Int32} {μ : xM} (a1 : Int32) (a2 : Int32) (hS : Sim L xs μ) : SimR L xs (fX_within 2 a1 a2 μ) (fun μ => fM_within 293 a1 a2 μ) := by
  sorry
theorem sim_same {L : Nat} {xs : Nat → Int32} {μ : xM} (a1 : Int32) (a2 : Int32) (hS : Sim L xs μ) : SimR L xs (fX_same 2 a1 a2 μ) (fun μ => fM_same 293 a1 a2 μ) := by
  sorry
theorem sim_shows {L : Nat} {xs : Nat → Int32} {μ : xM} (a1 : Int32) (hS : Sim L xs μ) : SimR L xs (fX_shows 2 a1 μ) (fun μ => fM_shows 293 a1 μ) := by
  sorry
theorem sim_show {L : Nat} {xs : Nat → Int32} {μ : xM} (a1 : Int32) (a2 : Int32) (hS : Sim L xs μ) : SimR L xs (fX_show 2 a1 a2 μ) (fun μ => fM_show 293 a1 a2 μ) := by
  sorry
theorem sim_cover {L : Nat} {xs : Nat → Int32} {μ : xM} (a1 : Int32) (a2 : Int32) (hS : Sim L xs μ) : SimR L xs (fX_cover 2 a1 a2 μ) (fun μ => fM_cover 293 a1 a2 μ) := by
  sorry
theorem sim_covers {L : Nat} {xs : Nat → Int32} {μ : xM} (a1 : Int32) (a2 : Int32) (hS : Sim L xs μ) : SimR L xs (fX_covers 2 a1 a2 μ) (fun μ => fM_covers 293 a1 a2 μ) := by
  sorry
theorem sim_may {L : Nat} {xs : Nat → Int32} {μ : xM} (a1 : Int32) (a2 : Int32) (hS : Sim L xs μ) : SimR L xs (fX_may 2 a1 a2 μ) (fun μ => fM_may 293 a1 a2 μ) := by
  sorry
theorem sim_worlds {L : Nat} {xs : Nat → Int32} {μ : xM}  (hS : Sim L xs μ) : SimR L xs (fX_worlds 2 μ) (fun μ => (fM_worlds 293 μ).map (fun r => (r, μ))) := by
  sorry
theorem sim_sure {L : Nat} {xs : Nat → Int32} {μ : xM} (a1 : Int32) (a2 : Int32) (hS : Sim L xs μ) : SimR L xs (fX_sure 2 a1 a2 μ) (fun μ => fM_sure 293 a1 a2 μ) := by
  sorry
theorem sim_besides {L : Nat} {xs : Nat → Int32} {μ : xM} (a1 : Int32) (hS : Sim L xs μ) : SimR L xs (fX_besides 2 a1 μ) (fun μ => fM_besides 293 a1 μ) := by
  sorry
theorem sim_cost {L : Nat} {xs : Nat → Int32} {μ : xM} (a1 : Int32) (hS : Sim L xs μ) : SimR L xs (fX_cost 2 a1 μ) (fun μ => fM_cost 293 a1 μ) := by
  sorry
theorem sim_which {L : Nat} {xs : Nat → Int32} {μ : xM} (a1 : Int32) (hS : Sim L xs μ) : SimR L xs (fX_which 2 a1 μ) (fun μ => fM_which 293 a1 μ) := by
  sorry
theorem sim_latest {L : Nat} {xs : Nat → Int32} {μ : xM} (a1 : Int32) (hS : Sim L xs μ) : SimR L xs (fX_latest 2 a1 μ) (fun μ => fM_latest 293 a1 μ) := by
  sorry
theorem sim_plan {L : Nat} {xs : Nat → Int32} {μ : xM} (a1 : Int32) (hS : Sim L xs μ) : SimR L xs (fX_plan 2 a1 μ) (fun μ => fM_plan 293 a1 μ) := by
  sorry
theorem sim_image {L : Nat} {xs : Nat → Int32} {μ : xM}  (hS : Sim L xs μ) : SimR L xs (fX_image 2 μ) (fun μ => fM_image 293 μ) := by
  sorry
theorem sim_restore {L : Nat} {xs : Nat → Int32} {μ : xM}  (hS : Sim L xs μ) : SimR L xs (fX_restore 2 μ) (fun μ => fM_restore 293 μ) := by
  sorry
theorem sim_init (L : Nat) (xs : Nat → Int32) : ∃ (r μi : xM), fX_init 2 (xnew (xM0 L xs) (10, 10) (0, 0) 0 10) = some r ∧ xS r = 293 ∧ fM_init 293 (xnew r (19, 65) (0, 0) 0 65) = some μi ∧ Sim L xs μi := by
  sorry
