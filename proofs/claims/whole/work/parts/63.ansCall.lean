/-! answer -/
theorem sim_answer {L : Nat} {xs : Nat → Int32} {μ : xM} (a1 : Int32) (a2 : Int32) (hb2 : a2 = xc 0 ∨ a2 = xc 1) (hS : Sim L xs μ) : SimR L xs (fX_answer 2 a1 a2 μ) (fun μ => fM_answer 293 a1 a2 μ) := by
  have hh := hS.sh
  obtain ⟨o', A, V, na, nv, T, K, kb, gb, ⟨hB, hs, hm, ht, hk, hz, hg, hzz, hw, hp⟩, hP, hC, hBk, hT, hF, hI, hSS⟩ := sim_all.mp hS
  have hn := hB.1
  have hv := hB.2.1
  have hT3 := hB.2.2.1
  have wn := world_now hh ht hT3
  rcases hb2 with rfl | rfl
  · rcases off_or na (by omega) a1 with q | ⟨j, hj, rfl⟩
    · refine sim_refuse 1 hS (by decide) (by decide) ?_ (fun μ1 h1 h2 => ?_)
      · unfold fX_answer fX_answer_0 fX_answer_23
        rw [gd2 hh, if_pos xc_0_0, xask_no hh hs.2.2.1 q, Option.bind_some, if_pos xc_0_0, bind_eta]
        rfl
      · unfold fM_answer fM_answer_0 fM_answer_23
        rw [gd293 h1, if_pos xc_0_0, mask_no h1 ((h2 _ _ (by decide)).trans hm.1) (by omega) q, Option.bind_some, if_pos xc_0_0, bind_eta]
        rfl
    · have hj' : j < 10 := by omega
      have hwf := (hP.1 j hj).2
      refine ⟨nI (pAns (A j) T), μ, μ, ?_, o'.2.1, ?_, hS⟩
      · unfold fX_answer fX_answer_0 fX_answer_29 fX_answer_54
        rw [gd2 hh, if_pos xc_0_0, xask_yes hh hs.2.2.1 (by omega) hj, Option.bind_some, if_neg xc_1_0, if_pos xc_0_0, g2_0 hh, Option.bind_some, g3_8 hh, Option.bind_some, ar_ask hh hj', Option.bind_some, Option.bind_some, f3 hh, Option.bind_some, hs.1, xans_ok (pic_ask hh j hj') (hp.1 j hj) hwf.2.1 hwf hT3, Option.bind_some]
      · unfold fM_answer fM_answer_0 fM_answer_29 fM_answer_42
        dsimp only
        rw [gd293 hh, if_pos xc_0_0, mask_yes hh hm.1 (by omega) hj, Option.bind_some, if_neg xc_1_0, if_pos xc_0_0, wn, Option.bind_some, mans_ok hh (hP.1 j hj).1 (by omega) hwf hT3, Option.bind_some]
  · rcases off_or nv (by omega) a1 with q | ⟨j, hj, rfl⟩
    · refine sim_refuse 1 hS (by decide) (by decide) ?_ (fun μ1 h1 h2 => ?_)
      · unfold fX_answer fX_answer_0 fX_answer_23
        rw [gd2 hh, if_neg xc_1_0, xview_no hh hs.2.2.2.1 q, Option.bind_some, if_pos xc_0_0, bind_eta]
        rfl
      · unfold fM_answer fM_answer_0 fM_answer_23
        rw [gd293 h1, if_neg xc_1_0, mview_no h1 ((h2 _ _ (by decide)).trans hm.2.1) (by omega) q, Option.bind_some, if_pos xc_0_0, bind_eta]
        rfl
    · have hj' : j < 6 := by omega
      have hwf := (hP.2 j hj).2
      refine ⟨nI (pAns (V j) T), μ, μ, ?_, o'.2.1, ?_, hS⟩
      · unfold fX_answer fX_answer_0 fX_answer_29 fX_answer_54
        rw [gd2 hh, if_neg xc_1_0, xview_yes hh hs.2.2.2.1 (by omega) hj, Option.bind_some, if_neg xc_1_0, if_neg xc_1_0, g2_0 hh, Option.bind_some, g3_9 hh, Option.bind_some, ar_view hh hj', Option.bind_some, Option.bind_some, f3 hh, Option.bind_some, hs.1, xans_ok (pic_view hh j hj') (hp.2.1 j hj) hwf.2.1 hwf hT3, Option.bind_some]
      · unfold fM_answer fM_answer_0 fM_answer_29 fM_answer_42
        dsimp only
        rw [gd293 hh, if_neg xc_1_0, mview_yes hh hm.2.1 (by omega) hj, Option.bind_some, if_neg xc_1_0, if_neg xc_1_0, wn, Option.bind_some, show xc 10 + nI j = nI (10 + j) from nI_add 10 j, mans_ok hh (hP.2 j hj).1 (by omega) hwf hT3, Option.bind_some]
