/-! the law: each case of its switch, its loop, its answer -/
theorem scr_ld {L : Nat} {xs : Nat → Int32} {μ : xM} {i : Int32} {n : Nat} (h : Scr L xs μ) (hv : i = nI n) (hn : n < L) (hL : L ≤ 2048) : ldA μ 0 i = some (xs n) := by
  subst hv
  unfold ldA
  rw [h.1, nI_clamp (by omega), if_pos ⟨rfl, fun q => by rcases q with q | q; exact nI_pos (by omega) q; exact absurd hn (Nat.not_lt.mpr q)⟩, h.2 n hn]
theorem bz (P : Prop) [Decidable P] {α : Type} {f : Int32 → α} : (if P then f (xc 0) else f (xc 1)) = f (if P then xc 0 else xc 1) := by
  by_cases h : P
  · rw [if_pos h, if_pos h]
  · rw [if_neg h, if_neg h]
theorem bz_or (P : Prop) [Decidable P] : (if P then xc 0 else xc 1) = xc 0 ∨ (if P then xc 0 else xc 1) = xc 1 := by
  by_cases h : P
  · rw [if_pos h]; exact Or.inl rfl
  · rw [if_neg h]; exact Or.inr rfl
theorem lw_in {L q : Nat} {xs : Nat → Int32} {μ : xM} {v3 : Int32} (hS : Sim L xs μ) (l1 : ∀ μ, Scr L xs μ → ldA μ 0 (v3 + (xc 1)) = some (xs (4 * q + 1))) (l2 : ∀ μ, Scr L xs μ → ldA μ 0 (v3 + (xc 2)) = some (xs (4 * q + 2))) (l3 : ∀ μ, Scr L xs μ → ldA μ 0 (v3 + (xc 3)) = some (xs (4 * q + 3))) : ∃ μ2, Sim L xs μ2 ∧ ((ldA μ 0 (v3 + (xc 1))).bind fun x19 => (ldA μ 0 (v3 + (xc 2))).bind fun x20 => (ldA μ 0 (v3 + (xc 3))).bind fun x21 => (fX_in 2 x19 x20 x21 μ).bind fun r22 => (ldA r22.2 0 (v3 + (xc 1))).bind fun x23 => (ldA r22.2 0 (v3 + (xc 2))).bind fun x24 => (ldA r22.2 0 (v3 + (xc 3))).bind fun x25 => (fM_in 293 x23 x24 x25 r22.2).bind fun r26 => if r22.1 = r26.1 then (fLaw_law_1284 0 2 293 v3 r26.2) else ((fLaw_law_233 r26.2).map (fun o => .inr o))) = some (.inl (v3 + xc 4, μ2)) := by
  have hs := hS.scr
  obtain ⟨r, μ1, μ2, h1, hs1, h2, h3⟩ := sim_in (xs (4 * q + 1)) (xs (4 * q + 2)) (xs (4 * q + 3)) hS
  refine ⟨μ2, h3, ?_⟩
  dsimp only at h2
  simp only [l1 _ hs, l2 _ hs, l3 _ hs, Option.bind_some, h1, l1 _ hs1, l2 _ hs1, l3 _ hs1, h2, if_true]
  rfl
theorem lw_out {L q : Nat} {xs : Nat → Int32} {μ : xM} {v3 : Int32} (hS : Sim L xs μ) (l1 : ∀ μ, Scr L xs μ → ldA μ 0 (v3 + (xc 1)) = some (xs (4 * q + 1))) (l2 : ∀ μ, Scr L xs μ → ldA μ 0 (v3 + (xc 2)) = some (xs (4 * q + 2))) (l3 : ∀ μ, Scr L xs μ → ldA μ 0 (v3 + (xc 3)) = some (xs (4 * q + 3))) : ∃ μ2, Sim L xs μ2 ∧ ((ldA μ 0 (v3 + (xc 1))).bind fun x27 => (ldA μ 0 (v3 + (xc 2))).bind fun x28 => (ldA μ 0 (v3 + (xc 3))).bind fun x29 => (fX_out 2 x27 x28 x29 μ).bind fun r30 => (ldA r30.2 0 (v3 + (xc 1))).bind fun x31 => (ldA r30.2 0 (v3 + (xc 2))).bind fun x32 => (ldA r30.2 0 (v3 + (xc 3))).bind fun x33 => (fM_out 293 x31 x32 x33 r30.2).bind fun r34 => if r30.1 = r34.1 then (fLaw_law_1284 0 2 293 v3 r34.2) else ((fLaw_law_276 r34.2).map (fun o => .inr o))) = some (.inl (v3 + xc 4, μ2)) := by
  have hs := hS.scr
  obtain ⟨r, μ1, μ2, h1, hs1, h2, h3⟩ := sim_out (xs (4 * q + 1)) (xs (4 * q + 2)) (xs (4 * q + 3)) hS
  refine ⟨μ2, h3, ?_⟩
  dsimp only at h2
  simp only [l1 _ hs, l2 _ hs, l3 _ hs, Option.bind_some, h1, l1 _ hs1, l2 _ hs1, l3 _ hs1, h2, if_true]
  rfl
theorem lw_undo {L q : Nat} {xs : Nat → Int32} {μ : xM} {v3 : Int32} (hS : Sim L xs μ) (l1 : ∀ μ, Scr L xs μ → ldA μ 0 (v3 + (xc 1)) = some (xs (4 * q + 1))) (l2 : ∀ μ, Scr L xs μ → ldA μ 0 (v3 + (xc 2)) = some (xs (4 * q + 2))) (l3 : ∀ μ, Scr L xs μ → ldA μ 0 (v3 + (xc 3)) = some (xs (4 * q + 3))) : ∃ μ2, Sim L xs μ2 ∧ ((fX_undo 2 μ).bind fun r35 => (fM_undo 293 r35.2).bind fun r36 => if r35.1 = r36.1 then (fLaw_law_1284 0 2 293 v3 r36.2) else ((fLaw_law_289 r36.2).map (fun o => .inr o))) = some (.inl (v3 + xc 4, μ2)) := by
  have hs := hS.scr
  obtain ⟨r, μ1, μ2, h1, hs1, h2, h3⟩ := sim_undo  hS
  refine ⟨μ2, h3, ?_⟩
  dsimp only at h2
  simp only [l1 _ hs, l2 _ hs, l3 _ hs, Option.bind_some, h1, l1 _ hs1, l2 _ hs1, l3 _ hs1, h2, if_true]
  rfl
theorem lw_key {L q : Nat} {xs : Nat → Int32} {μ : xM} {v3 : Int32} (hS : Sim L xs μ) (l1 : ∀ μ, Scr L xs μ → ldA μ 0 (v3 + (xc 1)) = some (xs (4 * q + 1))) (l2 : ∀ μ, Scr L xs μ → ldA μ 0 (v3 + (xc 2)) = some (xs (4 * q + 2))) (l3 : ∀ μ, Scr L xs μ → ldA μ 0 (v3 + (xc 3)) = some (xs (4 * q + 3))) : ∃ μ2, Sim L xs μ2 ∧ ((ldA μ 0 (v3 + (xc 1))).bind fun x37 => (ldA μ 0 (v3 + (xc 2))).bind fun x38 => if x38 = 0 then (fLaw_law_310 0 2 293 v3 (xc 0) x37 2 μ) else (fLaw_law_310 0 2 293 v3 (xc 1) x37 2 μ)) = some (.inl (v3 + xc 4, μ2)) := by
  have hs := hS.scr
  obtain ⟨r, μ1, μ2, h1, hs1, h2, h3⟩ := sim_key (xs (4 * q + 1)) (if xs (4 * q + 2) = 0 then xc 0 else xc 1) (bz_or _) hS
  refine ⟨μ2, h3, ?_⟩
  dsimp only at h2
  by_cases hz : xs (4 * q + 2) = 0
  · rw [if_pos hz] at h1 h2
    simp only [l1 _ hs, l2 _ hs, l3 _ hs, Option.bind_some, hz, if_true, if_false, fLaw_law_310, fLaw_law_332, h1, l1 _ hs1, l2 _ hs1, l3 _ hs1, h2]
    rfl
  · rw [if_neg hz] at h1 h2
    simp only [l1 _ hs, l2 _ hs, l3 _ hs, Option.bind_some, hz, if_true, if_false, fLaw_law_310, fLaw_law_332, h1, l1 _ hs1, l2 _ hs1, l3 _ hs1, h2]
    rfl
theorem lw_rows {L q : Nat} {xs : Nat → Int32} {μ : xM} {v3 : Int32} (hS : Sim L xs μ) (l1 : ∀ μ, Scr L xs μ → ldA μ 0 (v3 + (xc 1)) = some (xs (4 * q + 1))) (l2 : ∀ μ, Scr L xs μ → ldA μ 0 (v3 + (xc 2)) = some (xs (4 * q + 2))) (l3 : ∀ μ, Scr L xs μ → ldA μ 0 (v3 + (xc 3)) = some (xs (4 * q + 3))) : ∃ μ2, Sim L xs μ2 ∧ ((ldA μ 0 (v3 + (xc 1))).bind fun x39 => (fX_rows 2 x39 μ).bind fun r40 => (ldA r40.2 0 (v3 + (xc 1))).bind fun x41 => (fM_rows 293 x41 r40.2).bind fun r42 => if r40.1 = r42.1 then (fLaw_law_1284 0 2 293 v3 r42.2) else ((fLaw_law_361 r42.2).map (fun o => .inr o))) = some (.inl (v3 + xc 4, μ2)) := by
  have hs := hS.scr
  obtain ⟨r, μ1, μ2, h1, hs1, h2, h3⟩ := sim_rows (xs (4 * q + 1)) hS
  refine ⟨μ2, h3, ?_⟩
  dsimp only at h2
  simp only [l1 _ hs, l2 _ hs, l3 _ hs, Option.bind_some, h1, l1 _ hs1, l2 _ hs1, l3 _ hs1, h2, if_true]
  rfl
theorem lw_put {L q : Nat} {xs : Nat → Int32} {μ : xM} {v3 : Int32} (hS : Sim L xs μ) (l1 : ∀ μ, Scr L xs μ → ldA μ 0 (v3 + (xc 1)) = some (xs (4 * q + 1))) (l2 : ∀ μ, Scr L xs μ → ldA μ 0 (v3 + (xc 2)) = some (xs (4 * q + 2))) (l3 : ∀ μ, Scr L xs μ → ldA μ 0 (v3 + (xc 3)) = some (xs (4 * q + 3))) : ∃ μ2, Sim L xs μ2 ∧ ((ldA μ 0 (v3 + (xc 1))).bind fun x43 => (fX_put 2 x43 μ).bind fun r44 => (ldA r44.2 0 (v3 + (xc 1))).bind fun x45 => (fM_put 293 x45 r44.2).bind fun r46 => if r44.1 = r46.1 then (fLaw_law_1284 0 2 293 v3 r46.2) else ((fLaw_law_384 r46.2).map (fun o => .inr o))) = some (.inl (v3 + xc 4, μ2)) := by
  have hs := hS.scr
  obtain ⟨r, μ1, μ2, h1, hs1, h2, h3⟩ := sim_put (xs (4 * q + 1)) hS
  refine ⟨μ2, h3, ?_⟩
  dsimp only at h2
  simp only [l1 _ hs, l2 _ hs, l3 _ hs, Option.bind_some, h1, l1 _ hs1, l2 _ hs1, l3 _ hs1, h2, if_true]
  rfl
theorem lw_read {L q : Nat} {xs : Nat → Int32} {μ : xM} {v3 : Int32} (hS : Sim L xs μ) (l1 : ∀ μ, Scr L xs μ → ldA μ 0 (v3 + (xc 1)) = some (xs (4 * q + 1))) (l2 : ∀ μ, Scr L xs μ → ldA μ 0 (v3 + (xc 2)) = some (xs (4 * q + 2))) (l3 : ∀ μ, Scr L xs μ → ldA μ 0 (v3 + (xc 3)) = some (xs (4 * q + 3))) : ∃ μ2, Sim L xs μ2 ∧ ((fX_read 2 μ).bind fun r47 => (fM_read 293 r47.2).bind fun r48 => if r47.1 = r48.1 then (fLaw_law_1284 0 2 293 v3 r48.2) else ((fLaw_law_397 r48.2).map (fun o => .inr o))) = some (.inl (v3 + xc 4, μ2)) := by
  have hs := hS.scr
  obtain ⟨r, μ1, μ2, h1, hs1, h2, h3⟩ := sim_read  hS
  refine ⟨μ2, h3, ?_⟩
  dsimp only at h2
  simp only [l1 _ hs, l2 _ hs, l3 _ hs, Option.bind_some, h1, l1 _ hs1, l2 _ hs1, l3 _ hs1, h2, if_true]
  rfl
theorem lw_feed {L q : Nat} {xs : Nat → Int32} {μ : xM} {v3 : Int32} (hS : Sim L xs μ) (l1 : ∀ μ, Scr L xs μ → ldA μ 0 (v3 + (xc 1)) = some (xs (4 * q + 1))) (l2 : ∀ μ, Scr L xs μ → ldA μ 0 (v3 + (xc 2)) = some (xs (4 * q + 2))) (l3 : ∀ μ, Scr L xs μ → ldA μ 0 (v3 + (xc 3)) = some (xs (4 * q + 3))) : ∃ μ2, Sim L xs μ2 ∧ ((ldA μ 0 (v3 + (xc 1))).bind fun x49 => (ldA μ 0 (v3 + (xc 2))).bind fun x50 => (ldA μ 0 (v3 + (xc 3))).bind fun x51 => (fX_feed 2 x49 (((Int32.toInt64 x50) <<< (Int32.toInt64 (xc 32) &&& 63)) ||| ((Int32.toInt64 x51) &&& (Int64.ofNat 4294967295))) μ).bind fun r52 => (ldA r52.2 0 (v3 + (xc 1))).bind fun x53 => (ldA r52.2 0 (v3 + (xc 2))).bind fun x54 => (ldA r52.2 0 (v3 + (xc 3))).bind fun x55 => (fM_feed 293 x53 (((Int32.toInt64 x54) <<< (Int32.toInt64 (xc 32) &&& 63)) ||| ((Int32.toInt64 x55) &&& (Int64.ofNat 4294967295))) r52.2).bind fun r56 => if r52.1 = r56.1 then (fLaw_law_1284 0 2 293 v3 r56.2) else ((fLaw_law_460 r56.2).map (fun o => .inr o))) = some (.inl (v3 + xc 4, μ2)) := by
  have hs := hS.scr
  obtain ⟨r, μ1, μ2, h1, hs1, h2, h3⟩ := sim_feed (xs (4 * q + 1)) (((Int32.toInt64 (xs (4 * q + 2))) <<< (Int32.toInt64 (xc 32) &&& 63)) ||| ((Int32.toInt64 (xs (4 * q + 3))) &&& (Int64.ofNat 4294967295))) hS
  refine ⟨μ2, h3, ?_⟩
  dsimp only at h2
  simp only [l1 _ hs, l2 _ hs, l3 _ hs, Option.bind_some, h1, l1 _ hs1, l2 _ hs1, l3 _ hs1, h2, if_true]
  rfl
theorem lw_ask {L q : Nat} {xs : Nat → Int32} {μ : xM} {v3 : Int32} (hS : Sim L xs μ) (l1 : ∀ μ, Scr L xs μ → ldA μ 0 (v3 + (xc 1)) = some (xs (4 * q + 1))) (l2 : ∀ μ, Scr L xs μ → ldA μ 0 (v3 + (xc 2)) = some (xs (4 * q + 2))) (l3 : ∀ μ, Scr L xs μ → ldA μ 0 (v3 + (xc 3)) = some (xs (4 * q + 3))) : ∃ μ2, Sim L xs μ2 ∧ ((fX_ask 2 μ).bind fun r57 => (fM_ask 293 r57.2).bind fun r58 => if r57.1 = r58.1 then (fLaw_law_1284 0 2 293 v3 r58.2) else ((fLaw_law_473 r58.2).map (fun o => .inr o))) = some (.inl (v3 + xc 4, μ2)) := by
  have hs := hS.scr
  obtain ⟨r, μ1, μ2, h1, hs1, h2, h3⟩ := sim_ask  hS
  refine ⟨μ2, h3, ?_⟩
  dsimp only at h2
  simp only [l1 _ hs, l2 _ hs, l3 _ hs, Option.bind_some, h1, l1 _ hs1, l2 _ hs1, l3 _ hs1, h2, if_true]
  rfl
theorem lw_view {L q : Nat} {xs : Nat → Int32} {μ : xM} {v3 : Int32} (hS : Sim L xs μ) (l1 : ∀ μ, Scr L xs μ → ldA μ 0 (v3 + (xc 1)) = some (xs (4 * q + 1))) (l2 : ∀ μ, Scr L xs μ → ldA μ 0 (v3 + (xc 2)) = some (xs (4 * q + 2))) (l3 : ∀ μ, Scr L xs μ → ldA μ 0 (v3 + (xc 3)) = some (xs (4 * q + 3))) : ∃ μ2, Sim L xs μ2 ∧ ((fX_view 2 μ).bind fun r59 => (fM_view 293 r59.2).bind fun r60 => if r59.1 = r60.1 then (fLaw_law_1284 0 2 293 v3 r60.2) else ((fLaw_law_486 r60.2).map (fun o => .inr o))) = some (.inl (v3 + xc 4, μ2)) := by
  have hs := hS.scr
  obtain ⟨r, μ1, μ2, h1, hs1, h2, h3⟩ := sim_view  hS
  refine ⟨μ2, h3, ?_⟩
  dsimp only at h2
  simp only [l1 _ hs, l2 _ hs, l3 _ hs, Option.bind_some, h1, l1 _ hs1, l2 _ hs1, l3 _ hs1, h2, if_true]
  rfl
theorem lw_answer {L q : Nat} {xs : Nat → Int32} {μ : xM} {v3 : Int32} (hS : Sim L xs μ) (l1 : ∀ μ, Scr L xs μ → ldA μ 0 (v3 + (xc 1)) = some (xs (4 * q + 1))) (l2 : ∀ μ, Scr L xs μ → ldA μ 0 (v3 + (xc 2)) = some (xs (4 * q + 2))) (l3 : ∀ μ, Scr L xs μ → ldA μ 0 (v3 + (xc 3)) = some (xs (4 * q + 3))) : ∃ μ2, Sim L xs μ2 ∧ ((ldA μ 0 (v3 + (xc 1))).bind fun x61 => (ldA μ 0 (v3 + (xc 2))).bind fun x62 => if x62 = 0 then (fLaw_law_507 0 2 293 v3 (xc 0) x61 2 μ) else (fLaw_law_507 0 2 293 v3 (xc 1) x61 2 μ)) = some (.inl (v3 + xc 4, μ2)) := by
  have hs := hS.scr
  obtain ⟨r, μ1, μ2, h1, hs1, h2, h3⟩ := sim_answer (xs (4 * q + 1)) (if xs (4 * q + 2) = 0 then xc 0 else xc 1) (bz_or _) hS
  refine ⟨μ2, h3, ?_⟩
  dsimp only at h2
  by_cases hz : xs (4 * q + 2) = 0
  · rw [if_pos hz] at h1 h2
    simp only [l1 _ hs, l2 _ hs, l3 _ hs, Option.bind_some, hz, if_true, if_false, fLaw_law_507, fLaw_law_529, h1, l1 _ hs1, l2 _ hs1, l3 _ hs1, h2]
    rfl
  · rw [if_neg hz] at h1 h2
    simp only [l1 _ hs, l2 _ hs, l3 _ hs, Option.bind_some, hz, if_true, if_false, fLaw_law_507, fLaw_law_529, h1, l1 _ hs1, l2 _ hs1, l3 _ hs1, h2]
    rfl
theorem lw_steps {L q : Nat} {xs : Nat → Int32} {μ : xM} {v3 : Int32} (hS : Sim L xs μ) (l1 : ∀ μ, Scr L xs μ → ldA μ 0 (v3 + (xc 1)) = some (xs (4 * q + 1))) (l2 : ∀ μ, Scr L xs μ → ldA μ 0 (v3 + (xc 2)) = some (xs (4 * q + 2))) (l3 : ∀ μ, Scr L xs μ → ldA μ 0 (v3 + (xc 3)) = some (xs (4 * q + 3))) : ∃ μ2, Sim L xs μ2 ∧ ((ldA μ 0 (v3 + (xc 1))).bind fun x63 => (ldA μ 0 (v3 + (xc 2))).bind fun x64 => (fX_steps 2 x63 x64 μ).bind fun r65 => (ldA r65.2 0 (v3 + (xc 1))).bind fun x66 => (ldA r65.2 0 (v3 + (xc 2))).bind fun x67 => (fM_steps 293 x66 x67 r65.2).bind fun r68 => if r65.1 = r68.1 then (fLaw_law_1284 0 2 293 v3 r68.2) else ((fLaw_law_568 r68.2).map (fun o => .inr o))) = some (.inl (v3 + xc 4, μ2)) := by
  have hs := hS.scr
  obtain ⟨r, μ1, μ2, h1, hs1, h2, h3⟩ := sim_steps (xs (4 * q + 1)) (xs (4 * q + 2)) hS
  refine ⟨μ2, h3, ?_⟩
  dsimp only at h2
  simp only [l1 _ hs, l2 _ hs, l3 _ hs, Option.bind_some, h1, l1 _ hs1, l2 _ hs1, l3 _ hs1, h2, if_true]
  rfl
theorem lw_end {L q : Nat} {xs : Nat → Int32} {μ : xM} {v3 : Int32} (hS : Sim L xs μ) (l1 : ∀ μ, Scr L xs μ → ldA μ 0 (v3 + (xc 1)) = some (xs (4 * q + 1))) (l2 : ∀ μ, Scr L xs μ → ldA μ 0 (v3 + (xc 2)) = some (xs (4 * q + 2))) (l3 : ∀ μ, Scr L xs μ → ldA μ 0 (v3 + (xc 3)) = some (xs (4 * q + 3))) : ∃ μ2, Sim L xs μ2 ∧ ((ldA μ 0 (v3 + (xc 1))).bind fun x69 => (ldA μ 0 (v3 + (xc 2))).bind fun x70 => (fX_end 2 x69 x70 μ).bind fun r71 => (ldA r71.2 0 (v3 + (xc 1))).bind fun x72 => (ldA r71.2 0 (v3 + (xc 2))).bind fun x73 => (fM_end 293 x72 x73 r71.2).bind fun r74 => if r71.1 = r74.1 then (fLaw_law_1284 0 2 293 v3 r74.2) else ((fLaw_law_601 r74.2).map (fun o => .inr o))) = some (.inl (v3 + xc 4, μ2)) := by
  have hs := hS.scr
  obtain ⟨r, μ1, μ2, h1, hs1, h2, h3⟩ := sim_end (xs (4 * q + 1)) (xs (4 * q + 2)) hS
  refine ⟨μ2, h3, ?_⟩
  dsimp only at h2
  simp only [l1 _ hs, l2 _ hs, l3 _ hs, Option.bind_some, h1, l1 _ hs1, l2 _ hs1, l3 _ hs1, h2, if_true]
  rfl
theorem lw_within {L q : Nat} {xs : Nat → Int32} {μ : xM} {v3 : Int32} (hS : Sim L xs μ) (l1 : ∀ μ, Scr L xs μ → ldA μ 0 (v3 + (xc 1)) = some (xs (4 * q + 1))) (l2 : ∀ μ, Scr L xs μ → ldA μ 0 (v3 + (xc 2)) = some (xs (4 * q + 2))) (l3 : ∀ μ, Scr L xs μ → ldA μ 0 (v3 + (xc 3)) = some (xs (4 * q + 3))) : ∃ μ2, Sim L xs μ2 ∧ ((ldA μ 0 (v3 + (xc 1))).bind fun x75 => (ldA μ 0 (v3 + (xc 2))).bind fun x76 => (fX_within 2 x75 x76 μ).bind fun r77 => (ldA r77.2 0 (v3 + (xc 1))).bind fun x78 => (ldA r77.2 0 (v3 + (xc 2))).bind fun x79 => (fM_within 293 x78 x79 r77.2).bind fun r80 => if r77.1 = r80.1 then (fLaw_law_1284 0 2 293 v3 r80.2) else ((fLaw_law_634 r80.2).map (fun o => .inr o))) = some (.inl (v3 + xc 4, μ2)) := by
  have hs := hS.scr
  obtain ⟨r, μ1, μ2, h1, hs1, h2, h3⟩ := sim_within (xs (4 * q + 1)) (xs (4 * q + 2)) hS
  refine ⟨μ2, h3, ?_⟩
  dsimp only at h2
  simp only [l1 _ hs, l2 _ hs, l3 _ hs, Option.bind_some, h1, l1 _ hs1, l2 _ hs1, l3 _ hs1, h2, if_true]
  rfl
theorem lw_same {L q : Nat} {xs : Nat → Int32} {μ : xM} {v3 : Int32} (hS : Sim L xs μ) (l1 : ∀ μ, Scr L xs μ → ldA μ 0 (v3 + (xc 1)) = some (xs (4 * q + 1))) (l2 : ∀ μ, Scr L xs μ → ldA μ 0 (v3 + (xc 2)) = some (xs (4 * q + 2))) (l3 : ∀ μ, Scr L xs μ → ldA μ 0 (v3 + (xc 3)) = some (xs (4 * q + 3))) : ∃ μ2, Sim L xs μ2 ∧ ((ldA μ 0 (v3 + (xc 1))).bind fun x81 => (ldA μ 0 (v3 + (xc 2))).bind fun x82 => (fX_same 2 x81 x82 μ).bind fun r83 => (ldA r83.2 0 (v3 + (xc 1))).bind fun x84 => (ldA r83.2 0 (v3 + (xc 2))).bind fun x85 => (fM_same 293 x84 x85 r83.2).bind fun r86 => if r83.1 = r86.1 then (fLaw_law_1284 0 2 293 v3 r86.2) else ((fLaw_law_667 r86.2).map (fun o => .inr o))) = some (.inl (v3 + xc 4, μ2)) := by
  have hs := hS.scr
  obtain ⟨r, μ1, μ2, h1, hs1, h2, h3⟩ := sim_same (xs (4 * q + 1)) (xs (4 * q + 2)) hS
  refine ⟨μ2, h3, ?_⟩
  dsimp only at h2
  simp only [l1 _ hs, l2 _ hs, l3 _ hs, Option.bind_some, h1, l1 _ hs1, l2 _ hs1, l3 _ hs1, h2, if_true]
  rfl
theorem lw_shows {L q : Nat} {xs : Nat → Int32} {μ : xM} {v3 : Int32} (hS : Sim L xs μ) (l1 : ∀ μ, Scr L xs μ → ldA μ 0 (v3 + (xc 1)) = some (xs (4 * q + 1))) (l2 : ∀ μ, Scr L xs μ → ldA μ 0 (v3 + (xc 2)) = some (xs (4 * q + 2))) (l3 : ∀ μ, Scr L xs μ → ldA μ 0 (v3 + (xc 3)) = some (xs (4 * q + 3))) : ∃ μ2, Sim L xs μ2 ∧ ((ldA μ 0 (v3 + (xc 1))).bind fun x87 => (fX_shows 2 x87 μ).bind fun r88 => (ldA r88.2 0 (v3 + (xc 1))).bind fun x89 => (fM_shows 293 x89 r88.2).bind fun r90 => if r88.1 = r90.1 then (fLaw_law_1284 0 2 293 v3 r90.2) else ((fLaw_law_690 r90.2).map (fun o => .inr o))) = some (.inl (v3 + xc 4, μ2)) := by
  have hs := hS.scr
  obtain ⟨r, μ1, μ2, h1, hs1, h2, h3⟩ := sim_shows (xs (4 * q + 1)) hS
  refine ⟨μ2, h3, ?_⟩
  dsimp only at h2
  simp only [l1 _ hs, l2 _ hs, l3 _ hs, Option.bind_some, h1, l1 _ hs1, l2 _ hs1, l3 _ hs1, h2, if_true]
  rfl
theorem lw_show {L q : Nat} {xs : Nat → Int32} {μ : xM} {v3 : Int32} (hS : Sim L xs μ) (l1 : ∀ μ, Scr L xs μ → ldA μ 0 (v3 + (xc 1)) = some (xs (4 * q + 1))) (l2 : ∀ μ, Scr L xs μ → ldA μ 0 (v3 + (xc 2)) = some (xs (4 * q + 2))) (l3 : ∀ μ, Scr L xs μ → ldA μ 0 (v3 + (xc 3)) = some (xs (4 * q + 3))) : ∃ μ2, Sim L xs μ2 ∧ ((ldA μ 0 (v3 + (xc 1))).bind fun x91 => (ldA μ 0 (v3 + (xc 2))).bind fun x92 => (fX_show 2 x91 x92 μ).bind fun r93 => (ldA r93.2 0 (v3 + (xc 1))).bind fun x94 => (ldA r93.2 0 (v3 + (xc 2))).bind fun x95 => (fM_show 293 x94 x95 r93.2).bind fun r96 => if r93.1 = r96.1 then (fLaw_law_1284 0 2 293 v3 r96.2) else ((fLaw_law_723 r96.2).map (fun o => .inr o))) = some (.inl (v3 + xc 4, μ2)) := by
  have hs := hS.scr
  obtain ⟨r, μ1, μ2, h1, hs1, h2, h3⟩ := sim_show (xs (4 * q + 1)) (xs (4 * q + 2)) hS
  refine ⟨μ2, h3, ?_⟩
  dsimp only at h2
  simp only [l1 _ hs, l2 _ hs, l3 _ hs, Option.bind_some, h1, l1 _ hs1, l2 _ hs1, l3 _ hs1, h2, if_true]
  rfl
theorem lw_cover {L q : Nat} {xs : Nat → Int32} {μ : xM} {v3 : Int32} (hS : Sim L xs μ) (l1 : ∀ μ, Scr L xs μ → ldA μ 0 (v3 + (xc 1)) = some (xs (4 * q + 1))) (l2 : ∀ μ, Scr L xs μ → ldA μ 0 (v3 + (xc 2)) = some (xs (4 * q + 2))) (l3 : ∀ μ, Scr L xs μ → ldA μ 0 (v3 + (xc 3)) = some (xs (4 * q + 3))) : ∃ μ2, Sim L xs μ2 ∧ ((ldA μ 0 (v3 + (xc 1))).bind fun x97 => (ldA μ 0 (v3 + (xc 2))).bind fun x98 => (fX_cover 2 x97 x98 μ).bind fun r99 => (ldA r99.2 0 (v3 + (xc 1))).bind fun x100 => (ldA r99.2 0 (v3 + (xc 2))).bind fun x101 => (fM_cover 293 x100 x101 r99.2).bind fun r102 => if r99.1 = r102.1 then (fLaw_law_1284 0 2 293 v3 r102.2) else ((fLaw_law_756 r102.2).map (fun o => .inr o))) = some (.inl (v3 + xc 4, μ2)) := by
  have hs := hS.scr
  obtain ⟨r, μ1, μ2, h1, hs1, h2, h3⟩ := sim_cover (xs (4 * q + 1)) (xs (4 * q + 2)) hS
  refine ⟨μ2, h3, ?_⟩
  dsimp only at h2
  simp only [l1 _ hs, l2 _ hs, l3 _ hs, Option.bind_some, h1, l1 _ hs1, l2 _ hs1, l3 _ hs1, h2, if_true]
  rfl
theorem lw_covers {L q : Nat} {xs : Nat → Int32} {μ : xM} {v3 : Int32} (hS : Sim L xs μ) (l1 : ∀ μ, Scr L xs μ → ldA μ 0 (v3 + (xc 1)) = some (xs (4 * q + 1))) (l2 : ∀ μ, Scr L xs μ → ldA μ 0 (v3 + (xc 2)) = some (xs (4 * q + 2))) (l3 : ∀ μ, Scr L xs μ → ldA μ 0 (v3 + (xc 3)) = some (xs (4 * q + 3))) : ∃ μ2, Sim L xs μ2 ∧ ((ldA μ 0 (v3 + (xc 1))).bind fun x103 => (ldA μ 0 (v3 + (xc 2))).bind fun x104 => (fX_covers 2 x103 x104 μ).bind fun r105 => (ldA r105.2 0 (v3 + (xc 1))).bind fun x106 => (ldA r105.2 0 (v3 + (xc 2))).bind fun x107 => (fM_covers 293 x106 x107 r105.2).bind fun r108 => if r105.1 = r108.1 then (fLaw_law_1284 0 2 293 v3 r108.2) else ((fLaw_law_789 r108.2).map (fun o => .inr o))) = some (.inl (v3 + xc 4, μ2)) := by
  have hs := hS.scr
  obtain ⟨r, μ1, μ2, h1, hs1, h2, h3⟩ := sim_covers (xs (4 * q + 1)) (xs (4 * q + 2)) hS
  refine ⟨μ2, h3, ?_⟩
  dsimp only at h2
  simp only [l1 _ hs, l2 _ hs, l3 _ hs, Option.bind_some, h1, l1 _ hs1, l2 _ hs1, l3 _ hs1, h2, if_true]
  rfl
theorem lw_may {L q : Nat} {xs : Nat → Int32} {μ : xM} {v3 : Int32} (hS : Sim L xs μ) (l1 : ∀ μ, Scr L xs μ → ldA μ 0 (v3 + (xc 1)) = some (xs (4 * q + 1))) (l2 : ∀ μ, Scr L xs μ → ldA μ 0 (v3 + (xc 2)) = some (xs (4 * q + 2))) (l3 : ∀ μ, Scr L xs μ → ldA μ 0 (v3 + (xc 3)) = some (xs (4 * q + 3))) : ∃ μ2, Sim L xs μ2 ∧ ((ldA μ 0 (v3 + (xc 1))).bind fun x109 => (ldA μ 0 (v3 + (xc 2))).bind fun x110 => (fX_may 2 x109 x110 μ).bind fun r111 => (ldA r111.2 0 (v3 + (xc 1))).bind fun x112 => (ldA r111.2 0 (v3 + (xc 2))).bind fun x113 => (fM_may 293 x112 x113 r111.2).bind fun r114 => if r111.1 = r114.1 then (fLaw_law_1284 0 2 293 v3 r114.2) else ((fLaw_law_822 r114.2).map (fun o => .inr o))) = some (.inl (v3 + xc 4, μ2)) := by
  have hs := hS.scr
  obtain ⟨r, μ1, μ2, h1, hs1, h2, h3⟩ := sim_may (xs (4 * q + 1)) (xs (4 * q + 2)) hS
  refine ⟨μ2, h3, ?_⟩
  dsimp only at h2
  simp only [l1 _ hs, l2 _ hs, l3 _ hs, Option.bind_some, h1, l1 _ hs1, l2 _ hs1, l3 _ hs1, h2, if_true]
  rfl
theorem lw_keep {L q : Nat} {xs : Nat → Int32} {μ : xM} {v3 : Int32} (hS : Sim L xs μ) (l1 : ∀ μ, Scr L xs μ → ldA μ 0 (v3 + (xc 1)) = some (xs (4 * q + 1))) (l2 : ∀ μ, Scr L xs μ → ldA μ 0 (v3 + (xc 2)) = some (xs (4 * q + 2))) (l3 : ∀ μ, Scr L xs μ → ldA μ 0 (v3 + (xc 3)) = some (xs (4 * q + 3))) : ∃ μ2, Sim L xs μ2 ∧ ((ldA μ 0 (v3 + (xc 1))).bind fun x115 => (ldA μ 0 (v3 + (xc 2))).bind fun x116 => if x116 = 0 then (fLaw_law_843 0 2 293 v3 (xc 0) x115 2 μ) else (fLaw_law_843 0 2 293 v3 (xc 1) x115 2 μ)) = some (.inl (v3 + xc 4, μ2)) := by
  have hs := hS.scr
  obtain ⟨r, μ1, μ2, h1, hs1, h2, h3⟩ := sim_keep (xs (4 * q + 1)) (if xs (4 * q + 2) = 0 then xc 0 else xc 1) (bz_or _) hS
  refine ⟨μ2, h3, ?_⟩
  dsimp only at h2
  by_cases hz : xs (4 * q + 2) = 0
  · rw [if_pos hz] at h1 h2
    simp only [l1 _ hs, l2 _ hs, l3 _ hs, Option.bind_some, hz, if_true, if_false, fLaw_law_843, fLaw_law_865, h1, l1 _ hs1, l2 _ hs1, l3 _ hs1, h2]
    rfl
  · rw [if_neg hz] at h1 h2
    simp only [l1 _ hs, l2 _ hs, l3 _ hs, Option.bind_some, hz, if_true, if_false, fLaw_law_843, fLaw_law_865, h1, l1 _ hs1, l2 _ hs1, l3 _ hs1, h2]
    rfl
theorem lw_worlds {L q : Nat} {xs : Nat → Int32} {μ : xM} {v3 : Int32} (hS : Sim L xs μ) (l1 : ∀ μ, Scr L xs μ → ldA μ 0 (v3 + (xc 1)) = some (xs (4 * q + 1))) (l2 : ∀ μ, Scr L xs μ → ldA μ 0 (v3 + (xc 2)) = some (xs (4 * q + 2))) (l3 : ∀ μ, Scr L xs μ → ldA μ 0 (v3 + (xc 3)) = some (xs (4 * q + 3))) : ∃ μ2, Sim L xs μ2 ∧ ((fX_worlds 2 μ).bind fun r117 => (fM_worlds 293 r117.2).bind fun r118 => if r117.1 = r118 then (fLaw_law_1284 0 2 293 v3 r117.2) else ((fLaw_law_884 r117.2).map (fun o => .inr o))) = some (.inl (v3 + xc 4, μ2)) := by
  have hs := hS.scr
  obtain ⟨r, μ1, μ2, h1, hs1, h2, h3⟩ := sim_worlds  hS
  refine ⟨μ2, h3, ?_⟩
  obtain ⟨r2, h5, h4⟩ := Option.map_eq_some_iff.mp h2
  cases h4
  simp only [l1 _ hs, l2 _ hs, l3 _ hs, Option.bind_some, h1, l1 _ hs1, l2 _ hs1, l3 _ hs1, h5, if_true]
  rfl
theorem lw_sure {L q : Nat} {xs : Nat → Int32} {μ : xM} {v3 : Int32} (hS : Sim L xs μ) (l1 : ∀ μ, Scr L xs μ → ldA μ 0 (v3 + (xc 1)) = some (xs (4 * q + 1))) (l2 : ∀ μ, Scr L xs μ → ldA μ 0 (v3 + (xc 2)) = some (xs (4 * q + 2))) (l3 : ∀ μ, Scr L xs μ → ldA μ 0 (v3 + (xc 3)) = some (xs (4 * q + 3))) : ∃ μ2, Sim L xs μ2 ∧ ((ldA μ 0 (v3 + (xc 1))).bind fun x119 => (ldA μ 0 (v3 + (xc 2))).bind fun x120 => (fX_sure 2 x119 x120 μ).bind fun r121 => (ldA r121.2 0 (v3 + (xc 1))).bind fun x122 => (ldA r121.2 0 (v3 + (xc 2))).bind fun x123 => (fM_sure 293 x122 x123 r121.2).bind fun r124 => if r121.1 = r124.1 then (fLaw_law_1284 0 2 293 v3 r124.2) else ((fLaw_law_917 r124.2).map (fun o => .inr o))) = some (.inl (v3 + xc 4, μ2)) := by
  have hs := hS.scr
  obtain ⟨r, μ1, μ2, h1, hs1, h2, h3⟩ := sim_sure (xs (4 * q + 1)) (xs (4 * q + 2)) hS
  refine ⟨μ2, h3, ?_⟩
  dsimp only at h2
  simp only [l1 _ hs, l2 _ hs, l3 _ hs, Option.bind_some, h1, l1 _ hs1, l2 _ hs1, l3 _ hs1, h2, if_true]
  rfl
theorem lw_besides {L q : Nat} {xs : Nat → Int32} {μ : xM} {v3 : Int32} (hS : Sim L xs μ) (l1 : ∀ μ, Scr L xs μ → ldA μ 0 (v3 + (xc 1)) = some (xs (4 * q + 1))) (l2 : ∀ μ, Scr L xs μ → ldA μ 0 (v3 + (xc 2)) = some (xs (4 * q + 2))) (l3 : ∀ μ, Scr L xs μ → ldA μ 0 (v3 + (xc 3)) = some (xs (4 * q + 3))) : ∃ μ2, Sim L xs μ2 ∧ ((ldA μ 0 (v3 + (xc 1))).bind fun x125 => (fX_besides 2 x125 μ).bind fun r126 => (ldA r126.2 0 (v3 + (xc 1))).bind fun x127 => (fM_besides 293 x127 r126.2).bind fun r128 => if r126.1 = r128.1 then (fLaw_law_1284 0 2 293 v3 r128.2) else ((fLaw_law_940 r128.2).map (fun o => .inr o))) = some (.inl (v3 + xc 4, μ2)) := by
  have hs := hS.scr
  obtain ⟨r, μ1, μ2, h1, hs1, h2, h3⟩ := sim_besides (xs (4 * q + 1)) hS
  refine ⟨μ2, h3, ?_⟩
  dsimp only at h2
  simp only [l1 _ hs, l2 _ hs, l3 _ hs, Option.bind_some, h1, l1 _ hs1, l2 _ hs1, l3 _ hs1, h2, if_true]
  rfl
theorem lw_weight {L q : Nat} {xs : Nat → Int32} {μ : xM} {v3 : Int32} (hS : Sim L xs μ) (l1 : ∀ μ, Scr L xs μ → ldA μ 0 (v3 + (xc 1)) = some (xs (4 * q + 1))) (l2 : ∀ μ, Scr L xs μ → ldA μ 0 (v3 + (xc 2)) = some (xs (4 * q + 2))) (l3 : ∀ μ, Scr L xs μ → ldA μ 0 (v3 + (xc 3)) = some (xs (4 * q + 3))) : ∃ μ2, Sim L xs μ2 ∧ ((ldA μ 0 (v3 + (xc 1))).bind fun x129 => (ldA μ 0 (v3 + (xc 2))).bind fun x130 => (fX_weight 2 x129 x130 μ).bind fun r131 => (ldA r131.2 0 (v3 + (xc 1))).bind fun x132 => (ldA r131.2 0 (v3 + (xc 2))).bind fun x133 => (fM_weight 293 x132 x133 r131.2).bind fun r134 => if r131.1 = r134.1 then (fLaw_law_1284 0 2 293 v3 r134.2) else ((fLaw_law_973 r134.2).map (fun o => .inr o))) = some (.inl (v3 + xc 4, μ2)) := by
  have hs := hS.scr
  obtain ⟨r, μ1, μ2, h1, hs1, h2, h3⟩ := sim_weight (xs (4 * q + 1)) (xs (4 * q + 2)) hS
  refine ⟨μ2, h3, ?_⟩
  dsimp only at h2
  simp only [l1 _ hs, l2 _ hs, l3 _ hs, Option.bind_some, h1, l1 _ hs1, l2 _ hs1, l3 _ hs1, h2, if_true]
  rfl
theorem lw_size {L q : Nat} {xs : Nat → Int32} {μ : xM} {v3 : Int32} (hS : Sim L xs μ) (l1 : ∀ μ, Scr L xs μ → ldA μ 0 (v3 + (xc 1)) = some (xs (4 * q + 1))) (l2 : ∀ μ, Scr L xs μ → ldA μ 0 (v3 + (xc 2)) = some (xs (4 * q + 2))) (l3 : ∀ μ, Scr L xs μ → ldA μ 0 (v3 + (xc 3)) = some (xs (4 * q + 3))) : ∃ μ2, Sim L xs μ2 ∧ ((ldA μ 0 (v3 + (xc 1))).bind fun x135 => (ldA μ 0 (v3 + (xc 2))).bind fun x136 => (ldA μ 0 (v3 + (xc 3))).bind fun x137 => (fX_size 2 x135 x136 x137 μ).bind fun r138 => (ldA r138.2 0 (v3 + (xc 1))).bind fun x139 => (ldA r138.2 0 (v3 + (xc 2))).bind fun x140 => (ldA r138.2 0 (v3 + (xc 3))).bind fun x141 => (fM_size 293 x139 x140 x141 r138.2).bind fun r142 => if r138.1 = r142.1 then (fLaw_law_1284 0 2 293 v3 r142.2) else ((fLaw_law_1016 r142.2).map (fun o => .inr o))) = some (.inl (v3 + xc 4, μ2)) := by
  have hs := hS.scr
  obtain ⟨r, μ1, μ2, h1, hs1, h2, h3⟩ := sim_size (xs (4 * q + 1)) (xs (4 * q + 2)) (xs (4 * q + 3)) hS
  refine ⟨μ2, h3, ?_⟩
  dsimp only at h2
  simp only [l1 _ hs, l2 _ hs, l3 _ hs, Option.bind_some, h1, l1 _ hs1, l2 _ hs1, l3 _ hs1, h2, if_true]
  rfl
theorem lw_set {L q : Nat} {xs : Nat → Int32} {μ : xM} {v3 : Int32} (hS : Sim L xs μ) (l1 : ∀ μ, Scr L xs μ → ldA μ 0 (v3 + (xc 1)) = some (xs (4 * q + 1))) (l2 : ∀ μ, Scr L xs μ → ldA μ 0 (v3 + (xc 2)) = some (xs (4 * q + 2))) (l3 : ∀ μ, Scr L xs μ → ldA μ 0 (v3 + (xc 3)) = some (xs (4 * q + 3))) : ∃ μ2, Sim L xs μ2 ∧ ((ldA μ 0 (v3 + (xc 1))).bind fun x143 => (ldA μ 0 (v3 + (xc 2))).bind fun x144 => (fX_set 2 x143 x144 μ).bind fun r145 => (ldA r145.2 0 (v3 + (xc 1))).bind fun x146 => (ldA r145.2 0 (v3 + (xc 2))).bind fun x147 => (fM_set 293 x146 x147 r145.2).bind fun r148 => if r145.1 = r148.1 then (fLaw_law_1284 0 2 293 v3 r148.2) else ((fLaw_law_1049 r148.2).map (fun o => .inr o))) = some (.inl (v3 + xc 4, μ2)) := by
  have hs := hS.scr
  obtain ⟨r, μ1, μ2, h1, hs1, h2, h3⟩ := sim_set (xs (4 * q + 1)) (xs (4 * q + 2)) hS
  refine ⟨μ2, h3, ?_⟩
  dsimp only at h2
  simp only [l1 _ hs, l2 _ hs, l3 _ hs, Option.bind_some, h1, l1 _ hs1, l2 _ hs1, l3 _ hs1, h2, if_true]
  rfl
theorem lw_cost {L q : Nat} {xs : Nat → Int32} {μ : xM} {v3 : Int32} (hS : Sim L xs μ) (l1 : ∀ μ, Scr L xs μ → ldA μ 0 (v3 + (xc 1)) = some (xs (4 * q + 1))) (l2 : ∀ μ, Scr L xs μ → ldA μ 0 (v3 + (xc 2)) = some (xs (4 * q + 2))) (l3 : ∀ μ, Scr L xs μ → ldA μ 0 (v3 + (xc 3)) = some (xs (4 * q + 3))) : ∃ μ2, Sim L xs μ2 ∧ ((ldA μ 0 (v3 + (xc 1))).bind fun x149 => (fX_cost 2 x149 μ).bind fun r150 => (ldA r150.2 0 (v3 + (xc 1))).bind fun x151 => (fM_cost 293 x151 r150.2).bind fun r152 => if r150.1 = r152.1 then (fLaw_law_1284 0 2 293 v3 r152.2) else ((fLaw_law_1072 r152.2).map (fun o => .inr o))) = some (.inl (v3 + xc 4, μ2)) := by
  have hs := hS.scr
  obtain ⟨r, μ1, μ2, h1, hs1, h2, h3⟩ := sim_cost (xs (4 * q + 1)) hS
  refine ⟨μ2, h3, ?_⟩
  dsimp only at h2
  simp only [l1 _ hs, l2 _ hs, l3 _ hs, Option.bind_some, h1, l1 _ hs1, l2 _ hs1, l3 _ hs1, h2, if_true]
  rfl
theorem lw_which {L q : Nat} {xs : Nat → Int32} {μ : xM} {v3 : Int32} (hS : Sim L xs μ) (l1 : ∀ μ, Scr L xs μ → ldA μ 0 (v3 + (xc 1)) = some (xs (4 * q + 1))) (l2 : ∀ μ, Scr L xs μ → ldA μ 0 (v3 + (xc 2)) = some (xs (4 * q + 2))) (l3 : ∀ μ, Scr L xs μ → ldA μ 0 (v3 + (xc 3)) = some (xs (4 * q + 3))) : ∃ μ2, Sim L xs μ2 ∧ ((ldA μ 0 (v3 + (xc 1))).bind fun x153 => (fX_which 2 x153 μ).bind fun r154 => (ldA r154.2 0 (v3 + (xc 1))).bind fun x155 => (fM_which 293 x155 r154.2).bind fun r156 => if r154.1 = r156.1 then (fLaw_law_1284 0 2 293 v3 r156.2) else ((fLaw_law_1095 r156.2).map (fun o => .inr o))) = some (.inl (v3 + xc 4, μ2)) := by
  have hs := hS.scr
  obtain ⟨r, μ1, μ2, h1, hs1, h2, h3⟩ := sim_which (xs (4 * q + 1)) hS
  refine ⟨μ2, h3, ?_⟩
  dsimp only at h2
  simp only [l1 _ hs, l2 _ hs, l3 _ hs, Option.bind_some, h1, l1 _ hs1, l2 _ hs1, l3 _ hs1, h2, if_true]
  rfl
theorem lw_hours {L q : Nat} {xs : Nat → Int32} {μ : xM} {v3 : Int32} (hS : Sim L xs μ) (l1 : ∀ μ, Scr L xs μ → ldA μ 0 (v3 + (xc 1)) = some (xs (4 * q + 1))) (l2 : ∀ μ, Scr L xs μ → ldA μ 0 (v3 + (xc 2)) = some (xs (4 * q + 2))) (l3 : ∀ μ, Scr L xs μ → ldA μ 0 (v3 + (xc 3)) = some (xs (4 * q + 3))) : ∃ μ2, Sim L xs μ2 ∧ ((ldA μ 0 (v3 + (xc 1))).bind fun x157 => (ldA μ 0 (v3 + (xc 2))).bind fun x158 => (ldA μ 0 (v3 + (xc 3))).bind fun x159 => (fX_hours 2 x157 x158 x159 μ).bind fun r160 => (ldA r160.2 0 (v3 + (xc 1))).bind fun x161 => (ldA r160.2 0 (v3 + (xc 2))).bind fun x162 => (ldA r160.2 0 (v3 + (xc 3))).bind fun x163 => (fM_hours 293 x161 x162 x163 r160.2).bind fun r164 => if r160.1 = r164.1 then (fLaw_law_1284 0 2 293 v3 r164.2) else ((fLaw_law_1138 r164.2).map (fun o => .inr o))) = some (.inl (v3 + xc 4, μ2)) := by
  have hs := hS.scr
  obtain ⟨r, μ1, μ2, h1, hs1, h2, h3⟩ := sim_hours (xs (4 * q + 1)) (xs (4 * q + 2)) (xs (4 * q + 3)) hS
  refine ⟨μ2, h3, ?_⟩
  dsimp only at h2
  simp only [l1 _ hs, l2 _ hs, l3 _ hs, Option.bind_some, h1, l1 _ hs1, l2 _ hs1, l3 _ hs1, h2, if_true]
  rfl
theorem lw_latest {L q : Nat} {xs : Nat → Int32} {μ : xM} {v3 : Int32} (hS : Sim L xs μ) (l1 : ∀ μ, Scr L xs μ → ldA μ 0 (v3 + (xc 1)) = some (xs (4 * q + 1))) (l2 : ∀ μ, Scr L xs μ → ldA μ 0 (v3 + (xc 2)) = some (xs (4 * q + 2))) (l3 : ∀ μ, Scr L xs μ → ldA μ 0 (v3 + (xc 3)) = some (xs (4 * q + 3))) : ∃ μ2, Sim L xs μ2 ∧ ((ldA μ 0 (v3 + (xc 1))).bind fun x165 => (fX_latest 2 x165 μ).bind fun r166 => (ldA r166.2 0 (v3 + (xc 1))).bind fun x167 => (fM_latest 293 x167 r166.2).bind fun r168 => if r166.1 = r168.1 then (fLaw_law_1284 0 2 293 v3 r168.2) else ((fLaw_law_1161 r168.2).map (fun o => .inr o))) = some (.inl (v3 + xc 4, μ2)) := by
  have hs := hS.scr
  obtain ⟨r, μ1, μ2, h1, hs1, h2, h3⟩ := sim_latest (xs (4 * q + 1)) hS
  refine ⟨μ2, h3, ?_⟩
  dsimp only at h2
  simp only [l1 _ hs, l2 _ hs, l3 _ hs, Option.bind_some, h1, l1 _ hs1, l2 _ hs1, l3 _ hs1, h2, if_true]
  rfl
theorem lw_given {L q : Nat} {xs : Nat → Int32} {μ : xM} {v3 : Int32} (hS : Sim L xs μ) (l1 : ∀ μ, Scr L xs μ → ldA μ 0 (v3 + (xc 1)) = some (xs (4 * q + 1))) (l2 : ∀ μ, Scr L xs μ → ldA μ 0 (v3 + (xc 2)) = some (xs (4 * q + 2))) (l3 : ∀ μ, Scr L xs μ → ldA μ 0 (v3 + (xc 3)) = some (xs (4 * q + 3))) : ∃ μ2, Sim L xs μ2 ∧ ((ldA μ 0 (v3 + (xc 1))).bind fun x169 => (ldA μ 0 (v3 + (xc 2))).bind fun x170 => if x170 = 0 then (fLaw_law_1182 0 2 293 v3 (xc 0) x169 2 μ) else (fLaw_law_1182 0 2 293 v3 (xc 1) x169 2 μ)) = some (.inl (v3 + xc 4, μ2)) := by
  have hs := hS.scr
  obtain ⟨r, μ1, μ2, h1, hs1, h2, h3⟩ := sim_given (xs (4 * q + 1)) (if xs (4 * q + 2) = 0 then xc 0 else xc 1) (bz_or _) hS
  refine ⟨μ2, h3, ?_⟩
  dsimp only at h2
  by_cases hz : xs (4 * q + 2) = 0
  · rw [if_pos hz] at h1 h2
    simp only [l1 _ hs, l2 _ hs, l3 _ hs, Option.bind_some, hz, if_true, if_false, fLaw_law_1182, fLaw_law_1204, h1, l1 _ hs1, l2 _ hs1, l3 _ hs1, h2]
    rfl
  · rw [if_neg hz] at h1 h2
    simp only [l1 _ hs, l2 _ hs, l3 _ hs, Option.bind_some, hz, if_true, if_false, fLaw_law_1182, fLaw_law_1204, h1, l1 _ hs1, l2 _ hs1, l3 _ hs1, h2]
    rfl
theorem lw_plan {L q : Nat} {xs : Nat → Int32} {μ : xM} {v3 : Int32} (hS : Sim L xs μ) (l1 : ∀ μ, Scr L xs μ → ldA μ 0 (v3 + (xc 1)) = some (xs (4 * q + 1))) (l2 : ∀ μ, Scr L xs μ → ldA μ 0 (v3 + (xc 2)) = some (xs (4 * q + 2))) (l3 : ∀ μ, Scr L xs μ → ldA μ 0 (v3 + (xc 3)) = some (xs (4 * q + 3))) : ∃ μ2, Sim L xs μ2 ∧ ((ldA μ 0 (v3 + (xc 1))).bind fun x171 => (fX_plan 2 x171 μ).bind fun r172 => (ldA r172.2 0 (v3 + (xc 1))).bind fun x173 => (fM_plan 293 x173 r172.2).bind fun r174 => if r172.1 = r174.1 then (fLaw_law_1284 0 2 293 v3 r174.2) else ((fLaw_law_1233 r174.2).map (fun o => .inr o))) = some (.inl (v3 + xc 4, μ2)) := by
  have hs := hS.scr
  obtain ⟨r, μ1, μ2, h1, hs1, h2, h3⟩ := sim_plan (xs (4 * q + 1)) hS
  refine ⟨μ2, h3, ?_⟩
  dsimp only at h2
  simp only [l1 _ hs, l2 _ hs, l3 _ hs, Option.bind_some, h1, l1 _ hs1, l2 _ hs1, l3 _ hs1, h2, if_true]
  rfl
theorem lw_image {L q : Nat} {xs : Nat → Int32} {μ : xM} {v3 : Int32} (hS : Sim L xs μ) (l1 : ∀ μ, Scr L xs μ → ldA μ 0 (v3 + (xc 1)) = some (xs (4 * q + 1))) (l2 : ∀ μ, Scr L xs μ → ldA μ 0 (v3 + (xc 2)) = some (xs (4 * q + 2))) (l3 : ∀ μ, Scr L xs μ → ldA μ 0 (v3 + (xc 3)) = some (xs (4 * q + 3))) : ∃ μ2, Sim L xs μ2 ∧ ((fX_image 2 μ).bind fun r175 => (fM_image 293 r175.2).bind fun r176 => if r175.1 = r176.1 then (fLaw_law_1284 0 2 293 v3 r176.2) else ((fLaw_law_1246 r176.2).map (fun o => .inr o))) = some (.inl (v3 + xc 4, μ2)) := by
  have hs := hS.scr
  obtain ⟨r, μ1, μ2, h1, hs1, h2, h3⟩ := sim_image  hS
  refine ⟨μ2, h3, ?_⟩
  dsimp only at h2
  simp only [l1 _ hs, l2 _ hs, l3 _ hs, Option.bind_some, h1, l1 _ hs1, l2 _ hs1, l3 _ hs1, h2, if_true]
  rfl
theorem lw_restore {L q : Nat} {xs : Nat → Int32} {μ : xM} {v3 : Int32} (hS : Sim L xs μ) (l1 : ∀ μ, Scr L xs μ → ldA μ 0 (v3 + (xc 1)) = some (xs (4 * q + 1))) (l2 : ∀ μ, Scr L xs μ → ldA μ 0 (v3 + (xc 2)) = some (xs (4 * q + 2))) (l3 : ∀ μ, Scr L xs μ → ldA μ 0 (v3 + (xc 3)) = some (xs (4 * q + 3))) : ∃ μ2, Sim L xs μ2 ∧ ((fX_restore 2 μ).bind fun r177 => (fM_restore 293 r177.2).bind fun r178 => if r177.1 = r178.1 then (fLaw_law_1284 0 2 293 v3 r178.2) else ((fLaw_law_1259 r178.2).map (fun o => .inr o))) = some (.inl (v3 + xc 4, μ2)) := by
  have hs := hS.scr
  obtain ⟨r, μ1, μ2, h1, hs1, h2, h3⟩ := sim_restore  hS
  refine ⟨μ2, h3, ?_⟩
  dsimp only at h2
  simp only [l1 _ hs, l2 _ hs, l3 _ hs, Option.bind_some, h1, l1 _ hs1, l2 _ hs1, l3 _ hs1, h2, if_true]
  rfl
theorem lw_count {L q : Nat} {xs : Nat → Int32} {μ : xM} {v3 : Int32} (hS : Sim L xs μ) (l1 : ∀ μ, Scr L xs μ → ldA μ 0 (v3 + (xc 1)) = some (xs (4 * q + 1))) (l2 : ∀ μ, Scr L xs μ → ldA μ 0 (v3 + (xc 2)) = some (xs (4 * q + 2))) (l3 : ∀ μ, Scr L xs μ → ldA μ 0 (v3 + (xc 3)) = some (xs (4 * q + 3))) : ∃ μ2, Sim L xs μ2 ∧ ((ldA μ 0 (v3 + (xc 1))).bind fun x179 => (fX_count 2 x179 μ).bind fun r180 => (ldA μ 0 (v3 + (xc 1))).bind fun x181 => (fM_count 293 x181 μ).bind fun r182 => if r180 = r182 then (fLaw_law_1284 0 2 293 v3 μ) else ((fLaw_law_1282 μ).map (fun o => .inr o))) = some (.inl (v3 + xc 4, μ2)) := by
  have hs := hS.scr
  obtain ⟨r, h1, h2⟩ := sim_count (xs (4 * q + 1)) hS
  refine ⟨μ, hS, ?_⟩
  simp only [l1 _ hs, l2 _ hs, l3 _ hs, Option.bind_some, h1, h2, if_true]
  rfl
theorem xc63 (x : Int32) : ∃ j : Nat, j < 64 ∧ (x &&& (xc 63)) = nI j := pk_andE x 6 (by decide)
theorem lw_body {L q : Nat} {xs : Nat → Int32} {μ : xM} (hL : L ≤ 2048) (hq : 4 * q + 4 ≤ L) (hS : Sim L xs μ) : ∃ μ2, Sim L xs μ2 ∧ fLaw_law_L18 0 2 293 (nI (4 * q)) μ = some (.inl (nI (4 * (q + 1)), μ2)) := by
  have ev : ∀ k : Nat, nI (4 * q) + xc k = nI (4 * q + k) := fun k => by
    show nI (4 * q) + Int32.ofInt (k : Int) = _
    rw [show Int32.ofInt (k : Int) = nI k from rfl, nI_add]
  have l1 : ∀ μ, Scr L xs μ → ldA μ 0 (nI (4 * q) + (xc 1)) = some (xs (4 * q + 1)) := fun μ h => scr_ld h (ev 1) (by omega) hL
  have l2 : ∀ μ, Scr L xs μ → ldA μ 0 (nI (4 * q) + (xc 2)) = some (xs (4 * q + 2)) := fun μ h => scr_ld h (ev 2) (by omega) hL
  have l3 : ∀ μ, Scr L xs μ → ldA μ 0 (nI (4 * q) + (xc 3)) = some (xs (4 * q + 3)) := fun μ h => scr_ld h (ev 3) (by omega) hL
  have e4 : nI (4 * (q + 1)) = nI (4 * q) + xc 4 := by rw [show (xc 4) = xc ((4 : Nat) : Int) from rfl, ev 4]; rfl
  rw [e4]
  unfold fLaw_law_L18
  have hal : alen μ 0 = some (nI L) := by
    unfold alen
    rw [hS.scr.1]
    rfl
  have hlt : ¬ (nI L - xc 4) < nI (4 * q) := by
    rw [show xc 4 = nI 4 from rfl, pk_sub (by omega)]
    exact nI_nlt (by omega) (by omega)
  obtain ⟨j, hj, hx⟩ := xc63 (xs (4 * q))
  have hne : ∀ k : Nat, k < 64 → ¬ j = k → ¬ nI j = xc k := fun k hk h q => h ((nI_eq (by omega) (by omega)).mp (q.trans (show xc k = nI k from rfl)))
  rw [hal]
  simp only [Option.bind_some]
  rw [if_neg hlt, scr_ld hS.scr rfl (by omega) hL]
  simp only [Option.bind_some]
  rw [hx]
  by_cases hj2 : 35 < j
  · rw [if_pos (Or.inr (by rw [nI_toInt (by omega)]; omega))]
    exact ⟨μ, hS, rfl⟩
  rw [if_neg (by rw [nI_toInt (by omega)]; omega)]
  by_cases q0 : j = 0
  · rw [if_pos (by rw [q0]; rfl)]
    exact lw_in hS l1 l2 l3
  rw [if_neg (show ¬ nI j = xc 0 from hne 0 (by omega) q0)]
  by_cases q1 : j = 1
  · rw [if_pos (by rw [q1]; rfl)]
    exact lw_out hS l1 l2 l3
  rw [if_neg (show ¬ nI j = xc 1 from hne 1 (by omega) q1)]
  by_cases q2 : j = 2
  · rw [if_pos (by rw [q2]; rfl)]
    exact lw_undo hS l1 l2 l3
  rw [if_neg (show ¬ nI j = xc 2 from hne 2 (by omega) q2)]
  by_cases q3 : j = 3
  · rw [if_pos (by rw [q3]; rfl)]
    exact lw_key hS l1 l2 l3
  rw [if_neg (show ¬ nI j = xc 3 from hne 3 (by omega) q3)]
  by_cases q4 : j = 4
  · rw [if_pos (by rw [q4]; rfl)]
    exact lw_rows hS l1 l2 l3
  rw [if_neg (show ¬ nI j = xc 4 from hne 4 (by omega) q4)]
  by_cases q5 : j = 5
  · rw [if_pos (by rw [q5]; rfl)]
    exact lw_put hS l1 l2 l3
  rw [if_neg (show ¬ nI j = xc 5 from hne 5 (by omega) q5)]
  by_cases q6 : j = 6
  · rw [if_pos (by rw [q6]; rfl)]
    exact lw_read hS l1 l2 l3
  rw [if_neg (show ¬ nI j = xc 6 from hne 6 (by omega) q6)]
  by_cases q7 : j = 7
  · rw [if_pos (by rw [q7]; rfl)]
    exact lw_feed hS l1 l2 l3
  rw [if_neg (show ¬ nI j = xc 7 from hne 7 (by omega) q7)]
  by_cases q8 : j = 8
  · rw [if_pos (by rw [q8]; rfl)]
    exact lw_ask hS l1 l2 l3
  rw [if_neg (show ¬ nI j = xc 8 from hne 8 (by omega) q8)]
  by_cases q9 : j = 9
  · rw [if_pos (by rw [q9]; rfl)]
    exact lw_view hS l1 l2 l3
  rw [if_neg (show ¬ nI j = xc 9 from hne 9 (by omega) q9)]
  by_cases q10 : j = 10
  · rw [if_pos (by rw [q10]; rfl)]
    exact lw_answer hS l1 l2 l3
  rw [if_neg (show ¬ nI j = xc 10 from hne 10 (by omega) q10)]
  by_cases q11 : j = 11
  · rw [if_pos (by rw [q11]; rfl)]
    exact lw_steps hS l1 l2 l3
  rw [if_neg (show ¬ nI j = xc 11 from hne 11 (by omega) q11)]
  by_cases q12 : j = 12
  · rw [if_pos (by rw [q12]; rfl)]
    exact lw_end hS l1 l2 l3
  rw [if_neg (show ¬ nI j = xc 12 from hne 12 (by omega) q12)]
  by_cases q13 : j = 13
  · rw [if_pos (by rw [q13]; rfl)]
    exact lw_within hS l1 l2 l3
  rw [if_neg (show ¬ nI j = xc 13 from hne 13 (by omega) q13)]
  by_cases q14 : j = 14
  · rw [if_pos (by rw [q14]; rfl)]
    exact lw_same hS l1 l2 l3
  rw [if_neg (show ¬ nI j = xc 14 from hne 14 (by omega) q14)]
  by_cases q15 : j = 15
  · rw [if_pos (by rw [q15]; rfl)]
    exact lw_shows hS l1 l2 l3
  rw [if_neg (show ¬ nI j = xc 15 from hne 15 (by omega) q15)]
  by_cases q16 : j = 16
  · rw [if_pos (by rw [q16]; rfl)]
    exact lw_show hS l1 l2 l3
  rw [if_neg (show ¬ nI j = xc 16 from hne 16 (by omega) q16)]
  by_cases q17 : j = 17
  · rw [if_pos (by rw [q17]; rfl)]
    exact lw_cover hS l1 l2 l3
  rw [if_neg (show ¬ nI j = xc 17 from hne 17 (by omega) q17)]
  by_cases q18 : j = 18
  · rw [if_pos (by rw [q18]; rfl)]
    exact lw_covers hS l1 l2 l3
  rw [if_neg (show ¬ nI j = xc 18 from hne 18 (by omega) q18)]
  by_cases q19 : j = 19
  · rw [if_pos (by rw [q19]; rfl)]
    exact lw_may hS l1 l2 l3
  rw [if_neg (show ¬ nI j = xc 19 from hne 19 (by omega) q19)]
  by_cases q20 : j = 20
  · rw [if_pos (by rw [q20]; rfl)]
    exact lw_keep hS l1 l2 l3
  rw [if_neg (show ¬ nI j = xc 20 from hne 20 (by omega) q20)]
  by_cases q21 : j = 21
  · rw [if_pos (by rw [q21]; rfl)]
    exact lw_worlds hS l1 l2 l3
  rw [if_neg (show ¬ nI j = xc 21 from hne 21 (by omega) q21)]
  by_cases q22 : j = 22
  · rw [if_pos (by rw [q22]; rfl)]
    exact lw_sure hS l1 l2 l3
  rw [if_neg (show ¬ nI j = xc 22 from hne 22 (by omega) q22)]
  by_cases q23 : j = 23
  · rw [if_pos (by rw [q23]; rfl)]
    exact lw_besides hS l1 l2 l3
  rw [if_neg (show ¬ nI j = xc 23 from hne 23 (by omega) q23)]
  by_cases q24 : j = 24
  · rw [if_pos (by rw [q24]; rfl)]
    exact lw_weight hS l1 l2 l3
  rw [if_neg (show ¬ nI j = xc 24 from hne 24 (by omega) q24)]
  by_cases q25 : j = 25
  · rw [if_pos (by rw [q25]; rfl)]
    exact lw_size hS l1 l2 l3
  rw [if_neg (show ¬ nI j = xc 25 from hne 25 (by omega) q25)]
  by_cases q26 : j = 26
  · rw [if_pos (by rw [q26]; rfl)]
    exact lw_set hS l1 l2 l3
  rw [if_neg (show ¬ nI j = xc 26 from hne 26 (by omega) q26)]
  by_cases q27 : j = 27
  · rw [if_pos (by rw [q27]; rfl)]
    exact lw_cost hS l1 l2 l3
  rw [if_neg (show ¬ nI j = xc 27 from hne 27 (by omega) q27)]
  by_cases q28 : j = 28
  · rw [if_pos (by rw [q28]; rfl)]
    exact lw_which hS l1 l2 l3
  rw [if_neg (show ¬ nI j = xc 28 from hne 28 (by omega) q28)]
  by_cases q29 : j = 29
  · rw [if_pos (by rw [q29]; rfl)]
    exact lw_hours hS l1 l2 l3
  rw [if_neg (show ¬ nI j = xc 29 from hne 29 (by omega) q29)]
  by_cases q30 : j = 30
  · rw [if_pos (by rw [q30]; rfl)]
    exact lw_latest hS l1 l2 l3
  rw [if_neg (show ¬ nI j = xc 30 from hne 30 (by omega) q30)]
  by_cases q31 : j = 31
  · rw [if_pos (by rw [q31]; rfl)]
    exact lw_given hS l1 l2 l3
  rw [if_neg (show ¬ nI j = xc 31 from hne 31 (by omega) q31)]
  by_cases q32 : j = 32
  · rw [if_pos (by rw [q32]; rfl)]
    exact lw_plan hS l1 l2 l3
  rw [if_neg (show ¬ nI j = xc 32 from hne 32 (by omega) q32)]
  by_cases q33 : j = 33
  · rw [if_pos (by rw [q33]; rfl)]
    exact lw_image hS l1 l2 l3
  rw [if_neg (show ¬ nI j = xc 33 from hne 33 (by omega) q33)]
  by_cases q34 : j = 34
  · rw [if_pos (by rw [q34]; rfl)]
    exact lw_restore hS l1 l2 l3
  rw [if_neg (show ¬ nI j = xc 34 from hne 34 (by omega) q34)]
  by_cases q35 : j = 35
  · rw [if_pos (by rw [q35]; rfl)]
    exact lw_count hS l1 l2 l3
  rw [if_neg (show ¬ nI j = xc 35 from hne 35 (by omega) q35)]
  omega
theorem lw_fin {L : Nat} {xs : Nat → Int32} {μ : xM} (q : Nat) (hL : L ≤ 2048) (hq : L < 4 * q + 4) (hq2 : 4 * q ≤ L + 3) (hS : Sim L xs μ) : fLaw_law_L18 0 2 293 (nI (4 * q)) μ = some (.inr (xc 1, μ)) := by
  unfold fLaw_law_L18
  have hal : alen μ 0 = some (nI L) := by
    unfold alen
    rw [hS.scr.1]
    rfl
  have hlt : (nI L - xc 4) < nI (4 * q) := by
    rw [show xc 4 = nI 4 from rfl, Int32.lt_iff_toInt_lt, pk_sub_toInt (by omega) (by omega), nI_toInt (by omega)]
    omega
  rw [hal]
  simp only [Option.bind_some]
  rw [if_pos hlt]
  rfl
theorem lw_loop {L : Nat} {xs : Nat → Int32} (hL : L ≤ 2048) : ∀ (k q : Nat) (μ : xM), L < 4 * (q + k) + 4 → 4 * q ≤ L + 3 → Sim L xs μ → ∃ (n : Nat) (μf : xM), Sim L xs μf ∧ xit (fun s : Int32 × xM => fLaw_law_L18 0 2 293 s.1 s.2) n (nI (4 * q), μ) = some (xc 1, μf)
  | 0, q, μ, h1, h2, hS => ⟨1, μ, hS, by
      unfold xit
      dsimp only
      rw [lw_fin q hL (by omega) h2 hS]⟩
  | k + 1, q, μ, h1, h2, hS => by
    by_cases h : 4 * q + 4 ≤ L
    · obtain ⟨μ2, hS2, hb⟩ := lw_body hL h hS
      obtain ⟨n, μf, hSf, hn⟩ := lw_loop hL k (q + 1) μ2 (by omega) (by omega) hS2
      refine ⟨n + 1, μf, hSf, ?_⟩
      unfold xit
      dsimp only
      rw [hb]
      exact hn
    · refine ⟨1, μ, hS, ?_⟩
      unfold xit
      dsimp only
      rw [lw_fin q hL (by omega) h2 hS]
theorem xgoal : xGoal := by
  intro L xs hL
  obtain ⟨r, μi, h1, e1, h2, hS⟩ := sim_init L xs
  obtain ⟨n, μf, hSf, hn⟩ := lw_loop hL L 0 μi (by omega) (by omega) hS
  have hl : fLaw_law 0 (xM0 L xs) = some (xc 1, μf) := by
    unfold fLaw_law fLaw_law_0
    simp only [Option.bind_some]
    rw [show xS (xM0 L xs) = 2 from rfl, h1]
    simp only [Option.bind_some]
    rw [e1, h2]
    simp only [Option.bind_some]
    exact xwh_iff.mpr ⟨n, hn⟩
  obtain ⟨k, hk⟩ := fLaw_law_ok (d := 0) hl
  refine ⟨k, _, μf, ?_, hk, ?_, ?_⟩
  · decide
  · show μf.1.1 ≤ _
    rw [hSf.sh.1]
    decide
  · show μf.1.2 ≤ _
    rw [hSf.sh.1]
    decide
