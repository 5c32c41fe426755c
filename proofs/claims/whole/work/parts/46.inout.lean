/-! in, out, undo, rows -/
theorem SC2.of {μ : xM} (h : SimC μ) : ∃ c, SC2 μ μ c := h
theorem SC2.fr {μc μm μc' μm' : xM} {c : Nat} (h : SC2 μc μm c) (e1 : ∀ a k, a = 185 ∨ a = 186 → xI μc' a k = xI μc a k) (e2 : ∀ a k, a = 296 ∨ a = 293 ∧ k = 3 → xI μm' a k = xI μm a k) : SC2 μc' μm' c := by
  obtain ⟨h1, h2, h3, h4⟩ := h
  refine ⟨h1, (e1 _ _ (Or.inl rfl)).trans h2, (e2 _ _ (Or.inr ⟨rfl, rfl⟩)).trans h3, fun j hj => ?_⟩
  rw [e1 _ _ (Or.inr rfl), e2 _ _ (Or.inl rfl)]
  exact h4 j hj
theorem sim_in {L : Nat} {xs : Nat → Int32} {μ : xM} (a1 : Int32) (a2 : Int32) (a3 : Int32) (hS : Sim L xs μ) : SimR L xs (fX_in 2 a1 a2 a3 μ) (fun μ => fM_in 293 a1 a2 a3 μ) := by
  have hh := hS.sh
  obtain ⟨o', A, V, na, nv, T, K, kb, gb, ⟨hB, hs, hm, ht, hk, hz, hg, hzz, hw, hp⟩, hP, hC, hBk, hT, hF, hI, hSS⟩ := sim_all.mp hS
  obtain ⟨c, hc⟩ := SC2.of hC
  have c3 := hc.2.2.1
  have hT3 := hB.2.2.1
  have hK3 := hB.2.2.2.1
  rcases wrong_or a1 a2 a3 with ⟨k, k1, k2, w1, w2⟩ | ⟨t, x, y, htt, hx, hy, rfl, rfl, rfl, w1, w2⟩
  · have n0 : ¬ xc (-(k : Int)) = 0 ∧ ¬ 0 ≤ xc (-(k : Int)) := by
      obtain rfl | rfl | rfl | rfl | rfl | rfl : k = 1 ∨ k = 2 ∨ k = 3 ∨ k = 4 ∨ k = 5 ∨ k = 6 := by omega
      all_goals exact ⟨by decide, by decide⟩
    refine sim_refuse k hS k1 k2 ?_ (fun μ1 h1 h2 => ?_)
    · unfold fX_in fX_in_0
      simp only [gd2 hh, w1, Option.bind_some, n0.1, if_false, bind_eta]
    · unfold fM_in fM_in_0 fM_in_26
      simp only [gd293 h1, w2 _ h1, Option.bind_some, n0.2, if_false, bind_eta]
  · by_cases q : T.testBit (4 * t + (2 * x + y)) = true
    · refine ⟨xc 0, μ, μ, ?_, o'.2.1, ?_, hS⟩
      · unfold fX_in fX_in_0
        simp only [gd2 hh, w1, Option.bind_some, xc0T, if_true, rowBit_ok, g2_0 hh, hasRow_ok hh hs.1 hT3 (show 4 * t + (2 * x + y) < 32 by omega), q, xc1F, if_false]
      · unfold fM_in fM_in_0 fM_in_26
        simp only [gd293 hh, w2 _ hh, Option.bind_some, show (0 ≤ xc 0) = True from by decide, if_true, bring_old hh (ht t htt).1 htt hx hy q]
    · by_cases q2 : K.testBit t = true ∧ (T / 16 ^ t % 16).testBit ((2 * x + y) ^^^ 1) = true
      · refine sim_refuse 3 hS (by decide) (by decide) ?_ (fun μ1 h1 h2 => ?_)
        · unfold fX_in fX_in_0
          simp only [gd2 hh, w1, Option.bind_some, xc0T, if_true, rowBit_ok, g2_0 hh, hasRow_ok hh hs.1 hT3 (show 4 * t + (2 * x + y) < 32 by omega), q, if_false, Bool.false_eq_true, breaks_ok hh hs.1 hs.2.1 hT3 hK3 htt (show 2 * x + y < 4 by omega), q2, and_self, xc1F, bind_eta]
          rfl
        · unfold fM_in fM_in_0 fM_in_26
          simp only [gd293 h1, w2 _ h1, Option.bind_some, show (0 ≤ xc 0) = True from by decide, if_true, bring_key h1 ((h2 _ _ (by decide)).trans (ht t htt).1) ((h2 _ _ (by decide)).trans (ht t htt).2) hB.2.2.2.2.2.2 htt hx hy q q2.1 q2.2, show (0 ≤ xc (-3)) = False from by decide, if_false, bind_eta]
          rfl
      · obtain ⟨μ1, r1, r2, f1, r3, r4⟩ := cl_turn (r := 4 * t + (2 * x + y)) hh hs.1 hc.2.1 hc.1 (by omega)
        have h1 := f1.sh hh
        obtain ⟨μ2, s1, f2, s2, s3⟩ := bring_new (μ := μ1) h1 ((f1.I (by unfold WC; omega)).trans (ht t htt).1) ((f1.I (by unfold WC; omega)).trans (ht t htt).2) ((f1.I (by unfold WC; omega)).trans c3) hc.1 hB.2.2.2.2.2.2 htt hx hy q q2
        have q' : ¬ (T / 16 ^ t % 16).testBit (2 * x + y) = true := by rw [tb16 T t _ (by omega)]; exact q
        have rp := r_parts t (2 * x + y) (by omega)
        refine ⟨xc 1, μ1, μ2, ?_, f1.scr o'.2.1 (fun k => by unfold WC; omega), ?_, ?_⟩
        · unfold fX_in fX_in_0 fX_bringIn fX_bringIn_0
          simp only [gd2 hh, w1, Option.bind_some, xc0T, if_true, rowBit_ok, g2_0 hh, hasRow_ok hh hs.1 hT3 (show 4 * t + (2 * x + y) < 32 by omega), q, if_false, Bool.false_eq_true, breaks_ok hh hs.1 hs.2.1 hT3 hK3 htt (show 2 * x + y < 4 by omega), q2, r1, g2_5 (show Sh (xsI μ 3 0 (nI (T ^^^ 2 ^ (4 * t + (2 * x + y))))) from hh), r2]
        · unfold fM_in fM_in_0 fM_in_26
          simp only [gd293 h1, w2 _ h1, Option.bind_some, show (0 ≤ xc 0) = True from by decide, if_true, s1, show (0 ≤ xc 1) = True from by decide]
        · have g := noted_sc2 (μc := μ) (μm := μ1) (μc1 := μ1) (μm1 := μ2) (c := c) (r := 4 * t + (2 * x + y)) (f := 1) (hc.fr (fun _ _ _ => rfl) (fun a k q => f1.I (by unfold WC; omega))) (by omega) (by decide) r4 (by rw [rp.1, rp.2]; exact s3)
          refine turned_sim o' hB hs hm ht hk hz hg hzz hw hp hP hBk hT hF hI hSS (W := fun a k => WC a k ∨ WM a k) ((f1.mono (fun _ _ q => Or.inl q)).trans (f2.mono (fun _ _ q => Or.inr q))) (fun _ _ q => q) htt (show 2 * x + y < 4 by omega) (fun kk => ?_) ((f2.I (by unfold WM; omega)).trans r3) (fun i => ?_) (g.fr (fun a k q => f2.I (by unfold WM; omega)) (fun _ _ _ => rfl))
          · exact (keyed_add (t16_lt T t) (by omega) (keyOK_iff.mp hB.2.2.2.2.2.2 t htt kk) q').mpr (fun w => q2 ⟨kk, w⟩)
          · rw [s2 i, f1.I (by unfold WC; omega)]
theorem sim_out {L : Nat} {xs : Nat → Int32} {μ : xM} (a1 : Int32) (a2 : Int32) (a3 : Int32) (hS : Sim L xs μ) : SimR L xs (fX_out 2 a1 a2 a3 μ) (fun μ => fM_out 293 a1 a2 a3 μ) := by
  have hh := hS.sh
  obtain ⟨o', A, V, na, nv, T, K, kb, gb, ⟨hB, hs, hm, ht, hk, hz, hg, hzz, hw, hp⟩, hP, hC, hBk, hT, hF, hI, hSS⟩ := sim_all.mp hS
  obtain ⟨c, hc⟩ := SC2.of hC
  have c3 := hc.2.2.1
  have hT3 := hB.2.2.1
  rcases wrong_or a1 a2 a3 with ⟨k, k1, k2, w1, w2⟩ | ⟨t, x, y, htt, hx, hy, rfl, rfl, rfl, w1, w2⟩
  · have n0 : ¬ xc (-(k : Int)) = 0 ∧ ¬ 0 ≤ xc (-(k : Int)) := by
      obtain rfl | rfl | rfl | rfl | rfl | rfl : k = 1 ∨ k = 2 ∨ k = 3 ∨ k = 4 ∨ k = 5 ∨ k = 6 := by omega
      all_goals exact ⟨by decide, by decide⟩
    refine sim_refuse k hS k1 k2 ?_ (fun μ1 h1 h2 => ?_)
    · unfold fX_out fX_out_0
      simp only [gd2 hh, w1, Option.bind_some, n0.1, if_false, bind_eta]
    · unfold fM_out fM_out_0
      simp only [gd293 h1, w2 _ h1, Option.bind_some, n0.2, if_false, bind_eta]
  · have hw16 := t16_lt T t
    have hb4 : 2 * x + y < 4 := by omega
    by_cases q : T.testBit (4 * t + (2 * x + y)) = true
    · have q' : (T / 16 ^ t % 16).testBit (2 * x + y) = true := by rw [tb16 T t _ hb4]; exact q
      obtain ⟨μ1, r1, r2, f1, r3, r4⟩ := cl_turn (r := 4 * t + (2 * x + y)) hh hs.1 hc.2.1 hc.1 (by omega)
      have h1 := f1.sh hh
      obtain ⟨μ2, s0, s1, f2, s2, s3⟩ := m_set (μ := μ1) (t := t) (f := 0) (b := 2 * x + y) (v := nI (T / 16 ^ t % 16 ^^^ 2 ^ (2 * x + y))) h1 ((f1.I (by unfold WC; omega)).trans c3) hc.1 htt
      have e294 : xI μ1 294 t = nI (T / 16 ^ t % 16) := (f1.I (by unfold WC; omega)).trans (ht t htt).1
      have rp := r_parts t (2 * x + y) hb4
      have en : ((xc 10) * nI t) + ((xc 2) * nI x) + nI y = nI (100 * 0 + 10 * t + (2 * x + y)) := by
        rw [show xc 10 = nI 10 from rfl, show xc 2 = nI 2 from rfl, pk_mul, pk_mul, nI_add, nI_add]
        congr 1
        omega
      refine ⟨xc 1, μ1, μ2, ?_, f1.scr o'.2.1 (fun k => by unfold WC; omega), ?_, ?_⟩
      · unfold fX_out fX_out_0
        simp only [gd2 hh, w1, Option.bind_some, xc0T, if_true, rowBit_ok, g2_0 hh, hasRow_ok hh hs.1 hT3 (show 4 * t + (2 * x + y) < 32 by omega), q, xc1F, if_false, r1, g2_5 (show Sh (xsI μ 3 0 (nI (T ^^^ 2 ^ (4 * t + (2 * x + y))))) from hh), r2]
      · unfold fM_out fM_out_0
        dsimp only
        rw [gd293 h1, w2 _ h1, Option.bind_some, if_pos (by decide), g293_0 h1, Option.bind_some, la294 h1 htt, Option.bind_some, bit_xy x y hx hy, e294, if_neg (fun w => (w_bit _ hw16 _ hb4).mp w q'), Option.bind_some, la294 h1 htt, Option.bind_some, e294, w_and _ hw16 _ hb4 q', s0, Option.bind_some, en, s1, Option.bind_some]
      · have g := noted_sc2 (μc := μ) (μm := μ1) (μc1 := μ1) (μm1 := μ2) (c := c) (r := 4 * t + (2 * x + y)) (f := 0) (hc.fr (fun _ _ _ => rfl) (fun a k q => f1.I (by unfold WC; omega))) (by omega) (by decide) r4 (by rw [rp.1, rp.2]; exact s3)
        refine turned_sim o' hB hs hm ht hk hz hg hzz hw hp hP hBk hT hF hI hSS (W := fun a k => WC a k ∨ WM a k) ((f1.mono (fun _ _ q => Or.inl q)).trans (f2.mono (fun _ _ q => Or.inr q))) (fun _ _ q => q) htt hb4 (fun kk => ?_) ((f2.I (by unfold WM; omega)).trans r3) (fun i => ?_) (g.fr (fun a k q => f2.I (by unfold WM; omega)) (fun _ _ _ => rfl))
        · exact keyed_sub hw16 hb4 (keyOK_iff.mp hB.2.2.2.2.2.2 t htt kk) q'
        · rw [s2 i, f1.I (by unfold WC; omega)]
    · refine ⟨xc 0, μ, μ, ?_, o'.2.1, ?_, hS⟩
      · unfold fX_out fX_out_0
        simp only [gd2 hh, w1, Option.bind_some, xc0T, if_true, rowBit_ok, g2_0 hh, hasRow_ok hh hs.1 hT3 (show 4 * t + (2 * x + y) < 32 by omega), q, if_false, Bool.false_eq_true]
      · have q' : ¬ (T / 16 ^ t % 16).testBit (2 * x + y) = true := by rw [tb16 T t _ hb4]; exact q
        unfold fM_out fM_out_0
        dsimp only
        rw [gd293 hh, w2 _ hh, Option.bind_some, if_pos (by decide), g293_0 hh, Option.bind_some, la294 hh htt, Option.bind_some, bit_xy x y hx hy, (ht t htt).1, if_pos ((w_bit _ hw16 _ hb4).mpr q')]
theorem sim_rows {L : Nat} {xs : Nat → Int32} {μ : xM} (a1 : Int32) (hS : Sim L xs μ) : SimR L xs (fX_rows 2 a1 μ) (fun μ => fM_rows 293 a1 μ) := by
  have hh := hS.sh
  obtain ⟨o', A, V, na, nv, T, K, kb, gb, ⟨hB, hs, hm, ht, hk, hz, hg, hzz, hw, hp⟩, hP, hC, hBk, hT, hF, hI, hSS⟩ := sim_all.mp hS
  have hT3 := hB.2.2.1
  have ii : ∀ μ1, fM_isIn (Int32.toInt64 a1) (Int64.ofNat 0) (Int64.ofNat 2) μ1 = some (if a1 < nI 0 ∨ nI 2 < a1 then xc 0 else xc 1) := fun μ1 => isIn_n a1 0 2 (by decide) (by decide) μ1
  have e2 : nI 2 < a1 ↔ xc 3 ≤ a1 := by rw [lt_toInt, le_toInt, nI_toInt (by decide), show (xc 3).toInt = 3 from rfl]; omega
  rcases off_or 3 (by decide) a1 with q | ⟨t, htt, rfl⟩
  · have q' : a1 < nI 0 ∨ nI 2 < a1 := q.imp id e2.mpr
    refine sim_refuse 1 hS (by decide) (by decide) ?_ (fun μ1 h1 h2 => ?_)
    · unfold fX_rows fX_rows_0 fX_isTable fX_isTable_0 fX_isTable_13
      rcases q with q | q
      · simp only [gd2 hh, q, if_true, Option.bind_some, xc0T, bind_eta]
        rfl
      · by_cases q0 : a1 < 0
        · simp only [gd2 hh, q0, if_true, Option.bind_some, xc0T, bind_eta]
          rfl
        · simp only [gd2 hh, q0, show xc 3 ≤ a1 from q, if_true, if_false, Option.bind_some, xc0T, bind_eta]
          rfl
    · unfold fM_rows fM_rows_0
      simp only [gd293 h1, ii, if_pos q', Option.bind_some, xc0T, if_true, bind_eta]
      rfl
  · have c1 : ¬ nI t < 0 := nI_pos (by omega)
    have c2 : ¬ xc 3 ≤ nI t := show ¬ nI 3 ≤ nI t from nI_ge htt (by decide)
    have c3 : ¬ (nI t < nI 0 ∨ nI 2 < nI t) := fun q => q.elim c1 (fun q => c2 (e2.mp q))
    refine ⟨nI (T / 16 ^ t % 16), μ, μ, ?_, o'.2.1, ?_, hS⟩
    · have e : (nI T >>> (((xc 4) * nI t) &&& 31)) &&& xc 15 = nI (T / 16 ^ t % 16) := by
        rw [show xc 4 = nI 4 from rfl, pk_mul, nI_shr (by omega) (by omega), pk_andN (Nat.lt_of_le_of_lt (Nat.div_le_self _ _) (by omega)) 4 (by decide), show (16 : Nat) ^ t = 2 ^ (4 * t) from by rw [Nat.pow_mul]]
      unfold fX_rows fX_rows_0 fX_isTable fX_isTable_0 fH_rowsOf fH_rowsOf_0
      simp only [gd2 hh, c1, c2, if_false, Option.bind_some, xc1F, g2_0 hh, gd3 hh, f3 hh, hs.1, e]
    · unfold fM_rows fM_rows_0
      simp only [gd293 hh, ii, if_neg c3, Option.bind_some, xc1F, if_false, g293_0 hh, la294 hh htt, (ht t htt).1]
