section WORLDSS
variable {μ : xM}
theorem xmany_ok (hh : Sh μ) : xwh (fun s : Int32 × Int32 => fW_howMany_L9 193 s.1 s.2 μ) (xc 0, xc 0) = some (nI (cntB (fun w => lb (xL μ 194 (w / 64)) (w % 64)) 4096), μ) := by
  refine xwh_for (fun i => (nI (cntB (fun w => lb (xL μ 194 (w / 64)) (w % 64)) (64 * i)), nI i)) 64 _ (fun i hi => ?_) ?_ 64 0 (by omega)
  · have c0 : ¬ xc 64 ≤ nI i := nI_ge (b := 64) hi (by decide)
    have l1 : ldAL μ 194 (nI i) = some (xL μ 194 i) := ldAL_k (kw hh (by omega)) hi (by decide)
    have e : cntB (fun w => lb (xL μ 194 (w / 64)) (w % 64)) (64 * (i + 1)) = cntB (fun w => lb (xL μ 194 (w / 64)) (w % 64)) (64 * i) + cntB (fun j => lb (xL μ 194 i) j) 64 := by
      rw [show 64 * (i + 1) = 64 * i + 64 by omega, cntB_add]
      congr 1
      exact cntB_congr 64 (fun j hj => by rw [show (64 * i + j) / 64 = i by omega, show (64 * i + j) % 64 = j by omega])
    dsimp only
    rw [e]
    simp only [fW_howMany_L9, c0, if_false, g193_0 hh, Option.bind_some, l1, bitcL_ok, nI_add, inc1]
  · dsimp only
    simp only [fW_howMany_L9, show (xc 64 ≤ nI 64) = True from by decide, if_true, fW_howMany_33, Option.map_some]
theorem mmany_ok {A V : Nat → xPic} {na nv K kb : Nat} {kp : Nat → Int32} (h : MSide μ A V na nv K) (hk : KpM μ nv kb kp) {p : Nat → Bool} (hp : ∀ w, w < 4096 → (p w = true ↔ IsW V nv K kb kp w)) : fM_worlds 293 μ = some (nI (cntB p 4096)) := by
  have hh := h.1
  unfold fM_worlds fM_worlds_0
  rw [gd293 hh]
  refine xwh_for (fun i => (nI (cntB p i), nI i)) 4096 _ (fun i hi => ?_) ?_ 4096 0 (by omega)
  · have c0 : ¬ xc 4096 ≤ nI i := nI_ge (b := 4096) hi (by decide)
    obtain ⟨r, w1, w2⟩ := isWorld_ok h hk hi
    have e : cntB p (i + 1) = cntB p i + (if p i = true then 1 else 0) := rfl
    dsimp only
    rw [e]
    rcases w2 with ⟨rfl, w2⟩ | ⟨rfl, w2⟩
    · rw [if_pos ((hp i hi).mpr w2)]
      simp only [fM_worlds_L4, c0, if_false, w1, Option.bind_some, xc1F, fM_worlds_25, inc1]
    · rw [if_neg (fun z => w2 ((hp i hi).mp z))]
      simp only [fM_worlds_L4, c0, if_false, w1, Option.bind_some, xc0T, if_true, fM_worlds_25, inc1]
      rw [show xc 0 = nI 0 from rfl, nI_add]
  · dsimp only
    simp only [fM_worlds_L4, show (xc 4096 ≤ nI 4096) = True from by decide, if_true, fM_worlds_33, Option.map_some]
variable {L : Nat} {xs : Nat → Int32}
theorem sim_worlds (hS : Sim L xs μ) : SimR L xs (fX_worlds 2 μ) (fun μ => (fM_worlds 293 μ).map (fun r => (r, μ))) := by
  obtain ⟨A, V, na, nv, T, K, kb, gb, hA⟩ := simA_iff.mp hS
  have hh := hS.sh
  obtain ⟨μ1, a1, a2, a3⟩ := findOpen_ok hA.obase
  have s1 := hA.scr (a2.mono (fun b k q => WO_scr q))
  have h1 := s1.sh
  have kpe : (fun v => xI μ1 6 v) = fun v => xI μ 6 v := funext (fun v => a2.I (by unfold WO; omega))
  have mm := mmany_ok s1.mside s1.kpm (p := fun w => lb (xL μ1 194 (w / 64)) (w % 64)) (fun w hw => by rw [kpe]; exact a3 w hw)
  refine sim_ans (r := nI (cntB (fun w => lb (xL μ1 194 (w / 64)) (w % 64)) 4096)) (μ2 := μ1) s1.sim ?_ ?_ (Fr.refl μ1)
  · simp only [fX_worlds, fX_worlds_0, gd2 hh, g2_8 hh, g2_0 hh, Option.bind_some, fW_howMany, fW_howMany_0, gd193 hh, a1, xmany_ok h1]
  · rw [mm]
    rfl
end WORLDSS
