/-! which, latest -/
section WHICH
variable {L : Nat} {xs : Nat → Int32} {μ : xM} {A V : Nat → xPic} {na nv T K kb gb : Nat}
/-- the better of a set and another one -/
def nextB (c sz : Nat → Int32) (room : Int32) (b u : Nat) : Nat := if sz u ≤ room then (if c u < c b then u else if c u = c b then (if onesN 12 u < onesN 12 b then u else b) else b) else b
def bestB (c sz : Nat → Int32) (room : Int32) : Nat → Nat
  | 0 => 0
  | k + 1 => nextB c sz room (bestB c sz room k) (k + 1)
theorem bestB_lt (c sz : Nat → Int32) (room : Int32) : ∀ k, bestB c sz room k ≤ k
  | 0 => Nat.le_refl _
  | k + 1 => by
    have := bestB_lt c sz room k
    show nextB c sz room (bestB c sz room k) (k + 1) ≤ k + 1
    unfold nextB
    split
    · split
      · exact Nat.le_refl _
      · split
        · split <;> omega
        · omega
    · omega
theorem xcheap_ok (hS : SimA L xs μ A V na nv T K kb gb) : fX_cheapestViews 2 μ = some (nI (bestB (fun u => costV μ u (fun j => lb (xL μ (213 + 8 * j) 5) u) (sumV (fun v => xI μ 9 v) u 6) na) (fun u => sumV (fun v => xI μ 8 v) u 6) (xI μ 3 6) (2 ^ nv - 1))) := by
  have hh := hS.sh
  have n6 := hS.nv6
  have p64 : 2 ^ nv ≤ 64 := Nat.pow_le_pow_right (n := 2) (by decide) n6
  have p1 : 1 ≤ 2 ^ nv := Nat.one_le_two_pow
  have e3 : xI μ 3 3 = nI nv := hS.all.2.1.2.2.2.1
  have xc0c := xcost_ok hS (u := 0) (by decide)
  have xcc : ∀ u, u < 64 → fX_costOf 2 (nI u) μ = some (costV μ u (fun j => lb (xL μ (213 + 8 * j) 5) u) (sumV (fun v => xI μ 9 v) u 6) na) := fun u hu => xcost_ok hS hu
  have sz : ∀ u, u < 64 → fH_sumOver 3 8 (nI u) μ = some (sumV (fun v => xI μ 8 v) u 6) := fun u hu => xsum_ok hh (kd8 hh) hu
  generalize hc : (fun u => costV μ u (fun j => lb (xL μ (213 + 8 * j) 5) u) (sumV (fun v => xI μ 9 v) u 6) na) = c
  generalize hz : (fun u => sumV (fun v => xI μ 8 v) u 6) = z
  have xcc' : ∀ u, u < 64 → fX_costOf 2 (nI u) μ = some (c u) := fun u hu => by rw [← hc]; exact xcc u hu
  have sz' : ∀ u, u < 64 → fH_sumOver 3 8 (nI u) μ = some (z u) := fun u hu => by rw [← hz]; exact sz u hu
  have ev : fX_cheapestViews 2 μ = xwh (fun s : Int32 × Int32 × Int32 => fX_cheapestViews_L10 2 s.1 s.2.1 s.2.2 μ) (nI 0, c 0, nI 1) := by
    have := xcc' 0 (by decide)
    simp only [fX_cheapestViews, fX_cheapestViews_0, gd2 hh, show xc 0 = nI 0 from rfl, this, Option.bind_some]
    rfl
  rw [ev]
  refine xwh_for (fun k => (nI (bestB c z (xI μ 3 6) k), c (bestB c z (xI μ 3 6) k), nI (1 + k))) (2 ^ nv - 1) _ (fun k hk => ?_) ?_ (2 ^ nv - 1) 0 (by omega)
  · have bl := bestB_lt c z (xI μ 3 6) k
    have c0 : ¬ nI (2 ^ nv) ≤ nI (1 + k) := nI_ge (by omega) (by omega)
    have e1 : 1 + k = k + 1 := by omega
    have bc1 := bitc_ok (n := k + 1) (by omega) μ
    have bc2 := bitc_ok (n := bestB c z (xI μ 3 6) k) (by omega) μ
    have o1 := onesN_le 12 (k + 1)
    have o2 := onesN_le 12 (bestB c z (xI μ 3 6) k)
    have i2 : k + 1 + 1 = 1 + (k + 1) := by omega
    dsimp only
    show _ = some (Sum.inl (nI (nextB c z (xI μ 3 6) (bestB c z (xI μ 3 6) k) (k + 1)), c (nextB c z (xI μ 3 6) (bestB c z (xI μ 3 6) k) (k + 1)), nI (1 + (k + 1))))
    rw [e1] at c0 ⊢
    unfold nextB
    by_cases q1 : z (k + 1) ≤ xI μ 3 6
    · rw [if_pos q1]
      by_cases q2 : c (k + 1) < c (bestB c z (xI μ 3 6) k)
      · rw [if_pos q2]
        by_cases q4 : nI (onesN 12 (bestB c z (xI μ 3 6) k)) ≤ nI (onesN 12 (k + 1))
        · simp only [fX_cheapestViews_L10, g2_0 hh, f3 hh, e3, Option.bind_some, nI_bit (show nv < 32 by omega), c0, if_false, g3_12 hh, sz' (k + 1) (by omega), q1, if_true, xcc' (k + 1) (by omega), bc1, bc2, q4, fX_cheapestViews_74, q2, fX_cheapestViews_93, fX_cheapestViews_98, inc1, i2]
        · simp only [fX_cheapestViews_L10, g2_0 hh, f3 hh, e3, Option.bind_some, nI_bit (show nv < 32 by omega), c0, if_false, g3_12 hh, sz' (k + 1) (by omega), q1, if_true, xcc' (k + 1) (by omega), bc1, bc2, q4, fX_cheapestViews_74, q2, fX_cheapestViews_93, fX_cheapestViews_98, inc1, i2]
      · rw [if_neg q2]
        by_cases q3 : c (k + 1) = c (bestB c z (xI μ 3 6) k)
        · rw [if_pos q3]
          by_cases q4 : onesN 12 (k + 1) < onesN 12 (bestB c z (xI μ 3 6) k)
          · have q4' : ¬ nI (onesN 12 (bestB c z (xI μ 3 6) k)) ≤ nI (onesN 12 (k + 1)) := nI_ge q4 (by omega)
            rw [if_pos q4]
            simp only [fX_cheapestViews_L10, g2_0 hh, f3 hh, e3, Option.bind_some, nI_bit (show nv < 32 by omega), c0, if_false, g3_12 hh, sz' (k + 1) (by omega), q1, if_true, xcc' (k + 1) (by omega), bc1, bc2, q4', fX_cheapestViews_74, q2, eq_true q3, xc1F, fX_cheapestViews_93, fX_cheapestViews_98, inc1, i2]
          · have q4' : nI (onesN 12 (bestB c z (xI μ 3 6) k)) ≤ nI (onesN 12 (k + 1)) := nI_le (by omega) (by omega)
            rw [if_neg q4]
            simp only [fX_cheapestViews_L10, g2_0 hh, f3 hh, e3, Option.bind_some, nI_bit (show nv < 32 by omega), c0, if_false, g3_12 hh, sz' (k + 1) (by omega), q1, if_true, xcc' (k + 1) (by omega), bc1, bc2, q4', fX_cheapestViews_74, q2, eq_true q3, xc0T, fX_cheapestViews_93, fX_cheapestViews_98, inc1, i2]
        · rw [if_neg q3]
          by_cases q4 : nI (onesN 12 (bestB c z (xI μ 3 6) k)) ≤ nI (onesN 12 (k + 1))
          · simp only [fX_cheapestViews_L10, g2_0 hh, f3 hh, e3, Option.bind_some, nI_bit (show nv < 32 by omega), c0, if_false, g3_12 hh, sz' (k + 1) (by omega), q1, if_true, xcc' (k + 1) (by omega), bc1, bc2, q4, fX_cheapestViews_74, q2, eq_false q3, fX_cheapestViews_98, inc1, i2]
          · simp only [fX_cheapestViews_L10, g2_0 hh, f3 hh, e3, Option.bind_some, nI_bit (show nv < 32 by omega), c0, if_false, g3_12 hh, sz' (k + 1) (by omega), q1, if_true, xcc' (k + 1) (by omega), bc1, bc2, q4, fX_cheapestViews_74, q2, eq_false q3, fX_cheapestViews_98, inc1, i2]
    · rw [if_neg q1]
      simp only [fX_cheapestViews_L10, g2_0 hh, f3 hh, e3, Option.bind_some, nI_bit (show nv < 32 by omega), c0, if_false, g3_12 hh, sz' (k + 1) (by omega), q1, fX_cheapestViews_98, inc1, i2]
  · have e1 : 1 + (2 ^ nv - 1) = 2 ^ nv := by omega
    dsimp only
    rw [e1]
    simp only [fX_cheapestViews_L10, g2_0 hh, f3 hh, e3, Option.bind_some, nI_bit (show nv < 32 by omega), Int32.le_refl, if_true, fX_cheapestViews_104, Option.map_some]
theorem msize_ok (hS : SimA L xs μ A V na nv T K kb gb) {μ2 : xM} (f : Fr WFD μ μ2) {u : Nat} (hu : u < 2 ^ nv) : fM_sizeOf 293 (nI u) μ2 = some (sumV (fun v => xI μ 8 v) u 6) := by
  have h2 := f.sh hS.sh
  have n6 := hS.nv6
  have all := hS.all
  have p64 : 2 ^ nv ≤ 64 := Nat.pow_le_pow_right (n := 2) (by decide) n6
  have e9 : xI μ2 293 9 = nI nv := (f.I (by unfold WFD WFC; omega)).trans all.2.2.1.2.1
  have siz : ∀ v, v < nv → xI μ2 307 v = xI μ 8 v := fun v hv => (f.I (by unfold WFD WFC; omega)).trans (all.2.2.2.2.2.1 v hv).1
  have es : sumV (fun v => xI μ 8 v) u 6 = sumV (fun v => xI μ 8 v) u nv := by
    have := sumV_more (fun v => xI μ 8 v) hu (6 - nv)
    rw [show nv + (6 - nv) = 6 by omega] at this
    exact this
  unfold fM_sizeOf fM_sizeOf_0
  rw [gd293 h2, es]
  refine xwh_for (fun v => (sumV (fun v => xI μ 8 v) u v, nI v)) nv _ (fun v hv => ?_) ?_ nv 0 (by omega)
  · have c0 : ¬ nI nv ≤ nI v := nI_ge hv (by omega)
    dsimp only
    simp only [fM_sizeOf_L4, f293 h2, e9, Option.bind_some, c0, if_false, g293_18 h2, la307 h2 (show v < 6 by omega), siz v hv, bit_mul (show u < 2 ^ 31 by omega) (show v < 32 by omega), inc1]
    rfl
  · dsimp only
    simp only [fM_sizeOf_L4, f293 h2, e9, Option.bind_some, Int32.le_refl, if_true, fM_sizeOf_33, Option.map_some]
theorem mwhich_ok (hS : SimA L xs μ A V na nv T K kb gb) (th : ∀ j, j < na → (pShows (pEnd K (A j)) V nv).length ≤ 12 ∧ ThroughOK μ (213 + 8 * j) K nv V (A j)) {μ2 : xM} (f : Fr WFD μ μ2) (tab : CovTab μ2 V A nv K na) {v1 : Int32} {r : Int32 × xM} (hr : fM_which_122 293 v1 (nI (bestB (fun u => costV μ u (fun j => lb (xL μ (213 + 8 * j) 5) u) (sumV (fun v => xI μ 9 v) u 6) na) (fun u => sumV (fun v => xI μ 8 v) u 6) (xI μ 3 6) (2 ^ nv - 1))) μ2 = some r) : xwh (fun s : Int32 × Int32 => fM_which_L35 293 v1 s.1 s.2 μ2) (xc (-1), xc 0) = some r := by
  have h2 := f.sh hS.sh
  have n6 := hS.nv6
  have all := hS.all
  have p64 : 2 ^ nv ≤ 64 := Nat.pow_le_pow_right (n := 2) (by decide) n6
  have p1 : 1 ≤ 2 ^ nv := Nat.one_le_two_pow
  have e9 : xI μ2 293 9 = nI nv := (f.I (by unfold WFD WFC; omega)).trans all.2.2.1.2.1
  have e23 : xI μ2 293 23 = xI μ 3 6 := (f.I (by unfold WFD WFC; omega)).trans all.2.2.1.2.2.1
  have room0 : 0 ≤ xI μ 3 6 := all.2.2.1.2.2.2.2
  have mcc : ∀ u, u < 2 ^ nv → fM_costOf 293 (nI u) μ2 = some (costV μ u (fun j => lb (xL μ (213 + 8 * j) 5) u) (sumV (fun v => xI μ 9 v) u 6) na) := fun u hu => mcost_ok hS th f tab hu
  have sz : ∀ u, u < 2 ^ nv → fM_sizeOf 293 (nI u) μ2 = some (sumV (fun v => xI μ 8 v) u 6) := fun u hu => msize_ok hS f hu
  have z0 : sumV (fun v => xI μ 8 v) 0 6 = 0 := by
    have : ∀ n, sumV (fun v => xI μ 8 v) 0 n = 0 := fun n => by
      induction n with
      | zero => rfl
      | succ n ih => rw [sumV_suc, ih, Nat.zero_testBit, if_neg (by decide), Int32.add_zero]
    exact this 6
  generalize hc : (fun u => costV μ u (fun j => lb (xL μ (213 + 8 * j) 5) u) (sumV (fun v => xI μ 9 v) u 6) na) = c at hr
  generalize hz : (fun u => sumV (fun v => xI μ 8 v) u 6) = z at hr
  have mcc' : ∀ u, u < 2 ^ nv → fM_costOf 293 (nI u) μ2 = some (c u) := fun u hu => by rw [← hc]; exact mcc u hu
  have sz' : ∀ u, u < 2 ^ nv → fM_sizeOf 293 (nI u) μ2 = some (z u) := fun u hu => by rw [← hz]; exact sz u hu
  have z0' : z 0 = 0 := by rw [← hz]; exact z0
  have first : fM_which_L35 293 v1 (xc (-1)) (xc 0) μ2 = some (.inl (nI (bestB c z (xI μ 3 6) 0), nI 1)) := by
    have c0 : ¬ nI (2 ^ nv) ≤ xc 0 := nI_ge (a := 0) (by omega) (by omega)
    have s0 : fM_sizeOf 293 (xc 0) μ2 = some 0 := by have := sz' 0 (by omega); rw [z0'] at this; exact this
    have c1 : ¬ xI μ 3 6 < 0 := Int32.not_lt.mpr room0
    simp only [fM_which_L35, f293 h2, e9, Option.bind_some, nI_bit (show nv < 32 by omega), c0, if_false, s0, e23, c1, show (xc (-1) < 0) = True from by decide, if_true, fM_which_98, fM_which_103, xc1F, fM_which_115, fM_which_116]
    rfl
  refine xwh_go first ?_
  refine xwh_for (fun k => (nI (bestB c z (xI μ 3 6) k), nI (1 + k))) (2 ^ nv - 1) _ (fun k hk => ?_) ?_ (2 ^ nv - 1) 0 (by omega)
  · have bl := bestB_lt c z (xI μ 3 6) k
    have c0 : ¬ nI (2 ^ nv) ≤ nI (1 + k) := nI_ge (by omega) (by omega)
    have e1 : 1 + k = k + 1 := by omega
    have on1 := ones_ok (f := 12) (n := k + 1) (by omega) (by decide) μ2
    have on2 := ones_ok (f := 12) (n := bestB c z (xI μ 3 6) k) (by omega) (by decide) μ2
    have o1 := onesN_le 12 (k + 1)
    have o2 := onesN_le 12 (bestB c z (xI μ 3 6) k)
    have i2 : k + 1 + 1 = 1 + (k + 1) := by omega
    have bp : ¬ nI (bestB c z (xI μ 3 6) k) < 0 := nI_pos (by omega)
    dsimp only
    show _ = some (Sum.inl (nI (nextB c z (xI μ 3 6) (bestB c z (xI μ 3 6) k) (k + 1)), nI (1 + (k + 1))))
    rw [e1] at c0 ⊢
    unfold nextB
    by_cases q1 : z (k + 1) ≤ xI μ 3 6
    · have q1' : ¬ xI μ 3 6 < z (k + 1) := Int32.not_lt.mpr q1
      rw [if_pos q1]
      by_cases q2 : c (k + 1) < c (bestB c z (xI μ 3 6) k)
      · rw [if_pos q2]
        simp only [fM_which_L35, f293 h2, e9, Option.bind_some, nI_bit (show nv < 32 by omega), c0, if_false, sz' (k + 1) (by omega), e23, q1', bp, mcc' (k + 1) (by omega), mcc' (bestB c z (xI μ 3 6) k) (by omega), q2, if_true, fM_which_98, fM_which_103, xc1F, fM_which_115, fM_which_116, inc1, i2]
      · rw [if_neg q2]
        by_cases q3 : c (k + 1) = c (bestB c z (xI μ 3 6) k)
        · rw [if_pos q3]
          by_cases q4 : onesN 12 (k + 1) < onesN 12 (bestB c z (xI μ 3 6) k)
          · have q4' : ¬ nI (onesN 12 (bestB c z (xI μ 3 6) k)) ≤ nI (onesN 12 (k + 1)) := nI_ge q4 (by omega)
            rw [if_pos q4]
            simp only [fM_which_L35, f293 h2, e9, Option.bind_some, nI_bit (show nv < 32 by omega), c0, if_false, sz' (k + 1) (by omega), e23, q1', bp, mcc' (k + 1) (by omega), mcc' (bestB c z (xI μ 3 6) k) (by omega), q2, eq_true q3, if_true, on1, on2, q4', fM_which_98, fM_which_103, xc1F, fM_which_115, fM_which_116, inc1, i2]
          · have q4' : nI (onesN 12 (bestB c z (xI μ 3 6) k)) ≤ nI (onesN 12 (k + 1)) := nI_le (by omega) (by omega)
            rw [if_neg q4]
            simp only [fM_which_L35, f293 h2, e9, Option.bind_some, nI_bit (show nv < 32 by omega), c0, if_false, sz' (k + 1) (by omega), e23, q1', bp, mcc' (k + 1) (by omega), mcc' (bestB c z (xI μ 3 6) k) (by omega), q2, eq_true q3, if_true, on1, on2, q4', fM_which_102, fM_which_103, xc0T, fM_which_115, fM_which_116, inc1, i2]
        · rw [if_neg q3]
          simp only [fM_which_L35, f293 h2, e9, Option.bind_some, nI_bit (show nv < 32 by omega), c0, if_false, sz' (k + 1) (by omega), e23, q1', bp, mcc' (k + 1) (by omega), mcc' (bestB c z (xI μ 3 6) k) (by omega), q2, eq_false q3, fM_which_102, fM_which_103, xc0T, if_true, fM_which_115, fM_which_116, inc1, i2]
    · have q1' : xI μ 3 6 < z (k + 1) := Int32.not_le.mp q1
      rw [if_neg q1]
      simp only [fM_which_L35, f293 h2, e9, Option.bind_some, nI_bit (show nv < 32 by omega), c0, if_false, sz' (k + 1) (by omega), e23, q1', if_true, fM_which_116, inc1, i2]
  · have e1 : 1 + (2 ^ nv - 1) = 2 ^ nv := by omega
    dsimp only
    rw [e1]
    simp only [fM_which_L35, f293 h2, e9, Option.bind_some, nI_bit (show nv < 32 by omega), Int32.le_refl, if_true, hr, Option.map_some]
theorem sim_which (a1 : Int32) (hS : Sim L xs μ) : SimR L xs (fX_which 2 a1 μ) (fun μ => fM_which 293 a1 μ) := by
  obtain ⟨A, V, na, nv, T, K, kb, gb, hA⟩ := simA_iff.mp hS
  have hh := hS.sh
  have n6 := hA.nv6
  have p64 : 2 ^ nv ≤ 64 := Nat.pow_le_pow_right (n := 2) (by decide) n6
  have p1 : 1 ≤ 2 ^ nv := Nat.one_le_two_pow
  have ii : ∀ z, fM_isIn (Int32.toInt64 a1) (Int64.ofNat 0) (Int64.ofNat 1) z = some (if a1 < nI 0 ∨ nI 1 < a1 then xc 0 else xc 1) := fun z => isIn_n a1 0 1 (by decide) (by decide) z
  by_cases q2 : a1 < nI 0 ∨ nI 1 < a1
  · refine sim_refuse 2 hS (by decide) (by decide) ?_ (fun μ1 h1 h2 => ?_)
    · by_cases z : a1 < 0
      · simp only [fX_which, fX_which_0, gd2 hh, z, if_true, fX_which_9, bind_eta]
        rfl
      · have z2 : ¬ a1 ≤ xc 1 := Int32.not_le.mpr (q2.resolve_left z)
        simp only [fX_which, fX_which_0, gd2 hh, z, z2, if_false, fX_which_9, bind_eta]
        rfl
    · simp only [fM_which, fM_which_0, gd293 h1, ii, q2, if_true, Option.bind_some, xc0T, bind_eta]
      rfl
  · have z1 : ¬ a1 < 0 := fun z => q2 (Or.inl z)
    have z2 : a1 ≤ xc 1 := Int32.not_lt.mp (fun z => q2 (Or.inr z))
    have im : ∀ z, fM_isIn (Int32.toInt64 a1) (Int64.ofNat 0) (Int64.ofNat 1) z = some (xc 1) := fun z => by rw [ii, if_neg q2]
    obtain ⟨r, μ1, s1, s2, s3⟩ := xknow_ok hA
    have h1 := s2.sh
    rcases s3 with ⟨rfl, j, hj, q⟩ | ⟨rfl, th⟩
    · refine sim_refuse2 5 s2.sim (by decide) (by decide) ?_ (fun μ2 h1' h2' => ?_)
      · simp only [fX_which, fX_which_0, gd2 hh, z1, z2, if_true, Option.bind_some, if_false, s1, xc0T, bind_eta]
        rfl
      · obtain ⟨r, μ3, m1, m2, m3⟩ := mknow_ok (s2.mside.eq h1' h2')
        rcases m3 with ⟨m3, _⟩ | ⟨_, m3, _⟩
        · refine ⟨μ3, m2.mono (fun a k q => WFD_scr q), ?_⟩
          simp only [fM_which, fM_which_0, gd293 h1', im, Option.bind_some, xc1F, if_false, m1, m3, xc0T, if_true, bind_eta]
          rfl
        · exact absurd q (by have := m3 j hj; omega)
    · obtain ⟨r, μ3, m1, m2, m3⟩ := mknow_ok s2.mside
      rcases m3 with ⟨_, j, hj, m3⟩ | ⟨m3, _, tab⟩
      · exact absurd m3 (by have := (th j hj).1; omega)
      · have xe := xcheap_ok s2
        have me := @mwhich_ok _ _ _ _ _ _ _ _ _ _ _ s2 th _ m2 tab a1
        have bl := bestB_lt (fun u => costV μ1 u (fun j => lb (xL μ1 (213 + 8 * j) 5) u) (sumV (fun v => xI μ1 9 v) u 6) na) (fun u => sumV (fun v => xI μ1 8 v) u 6) (xI μ1 3 6) (2 ^ nv - 1)
        generalize bestB (fun u => costV μ1 u (fun j => lb (xL μ1 (213 + 8 * j) 5) u) (sumV (fun v => xI μ1 9 v) u 6) na) (fun u => sumV (fun v => xI μ1 8 v) u 6) (xI μ1 3 6) (2 ^ nv - 1) = b at xe me bl
        have xcb := xcost_ok s2 (u := b) (by omega)
        have mcb := mcost_ok s2 th m2 tab (u := b) (by omega)
        have fm : ∀ v, fM_which_122 293 a1 (nI b) μ3 = some (v, μ3) → fM_which 293 a1 μ1 = some (v, μ3) := fun v hv => by
          simp only [fM_which, fM_which_0, gd293 h1, im, Option.bind_some, xc1F, if_false, m1, m3]
          exact me hv
        by_cases e : a1 = 0
        · refine sim_ans (r := nI b) (μ2 := μ3) s2.sim ?_ (fm _ ?_) (m2.mono (fun a k q => WFD_scr q))
          · simp only [fX_which, fX_which_0, gd2 hh, z1, z2, if_true, Option.bind_some, if_false, s1, xc1F, xe, eq_true e]
          · simp only [fM_which_122, eq_true e, if_true]
        · refine sim_ans (r := costV μ1 b (fun j => lb (xL μ1 (213 + 8 * j) 5) b) (sumV (fun v => xI μ1 9 v) b 6) na) (μ2 := μ3) s2.sim ?_ (fm _ ?_) (m2.mono (fun a k q => WFD_scr q))
          · simp only [fX_which, fX_which_0, gd2 hh, z1, z2, if_true, Option.bind_some, if_false, s1, xc1F, xe, eq_false e, xcb]
          · simp only [fM_which_122, eq_false e, if_false, mcb, Option.bind_some]
end WHICH
