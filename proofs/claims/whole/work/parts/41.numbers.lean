/-! the calls that only set numbers: size, hours, set -/
theorem sim_re {L : Nat} {xs : Nat → Int32} {μ μ' : xM} {A V : Nat → xPic} {na nv K T' kb' gb' : Nat} (f : Fr WH μ μ') (o' : SimO L xs μ) (hP : SimP μ A V na nv) (hC : SimC μ) (hBk : SimB μ) (hT : SimT μ) (hF : SimF μ) (hI : SimI μ A V na nv) (hS : SimS μ A V na nv K) (hp : HP μ A V na nv)
    (b1 : HB na nv T' K kb' gb') (b2 : HS μ' na nv T' K kb' gb') (b3 : HM μ' na nv) (b4 : HT μ' T' K) (b5 : HKp μ' nv kb') (b6 : HSz μ' nv) (b7 : HG μ' nv gb') (b8 : HZ μ' nv) (b9 : HW μ' na) : Sim L xs μ' := by
  have hn := b1.1
  have hv := b1.2.1
  exact sim_all.mpr ⟨o'.fr f (fun a k q => by unfold WH FMo; omega), A, V, na, nv, T', K, kb', gb', ⟨b1, b2, b3, b4, b5, b6, b7, b8, b9, hp.fr f hn hv (fun a k q r => by unfold WH FMo; omega)⟩, hP.fr f (fun a k q => by unfold FP at q; unfold WH FMo; omega), hC.fr f (fun a k q => by unfold FC at q; unfold WH FMo; omega), hBk.fr f (fun a k q => by unfold FB at q; unfold WH FMo; omega), hT.fr f (fun a k q => by unfold FT at q; unfold WH FMo; omega), hF.fr f (fun a k q => by unfold FF at q; unfold WH FMo; omega), hI.fr f (fun a k q => by unfold FI at q; unfold WH FMo; omega), hS.fr f hn (fun a k q => by unfold FS at q; unfold WH FMo; omega)⟩
theorem sim_size {L : Nat} {xs : Nat → Int32} {μ : xM} (a1 : Int32) (a2 : Int32) (a3 : Int32) (hS : Sim L xs μ) : SimR L xs (fX_size 2 a1 a2 a3 μ) (fun μ => fM_size 293 a1 a2 a3 μ) := by
  have hh := hS.sh
  obtain ⟨o', A, V, na, nv, T, K, kb, gb, ⟨hB, hs, hm, ht, hk, hz, hg, hzz, hw, hp⟩, hP, hC, hBk, hT, hF, hI, hSS⟩ := sim_all.mp hS
  have hn := hB.1
  have hv := hB.2.1
  rcases off_or nv (by omega) a1 with q | ⟨j, hj, rfl⟩
  · refine sim_refuse 1 hS (by decide) (by decide) ?_ (fun μ1 h1 h2 => ?_)
    · unfold fX_size fX_size_0 fX_size_22 fX_size_41
      simp only [gd2 hh, xview_no hh hs.2.2.2.1 q, Option.bind_some, xc0T, xc1F, if_true, if_false, bind_eta]
      rfl
    · unfold fM_size fM_size_0 fM_size_22 fM_size_41
      simp only [gd293 h1, mview_no h1 ((h2 _ _ (by decide)).trans hm.2.1) (by omega) q, Option.bind_some, xc0T, xc1F, if_true, if_false, bind_eta]
      rfl
  have hj' : j < 6 := by omega
  have e1 := xview_yes hh hs.2.2.2.1 (by omega) hj
  have e2 : ∀ μ1, Sh μ1 → (∀ a j, 293 ≤ a → xI μ1 a j = xI μ a j) → fM_isView 293 (nI j) μ1 = some (xc 1) := fun μ1 h1 h2 => mview_yes h1 ((h2 _ _ (by decide)).trans hm.2.1) (by omega) hj
  by_cases q1 : a2 < 0
  · refine sim_refuse 4 hS (by decide) (by decide) ?_ (fun μ1 h1 h2 => ?_)
    · unfold fX_size fX_size_0 fX_size_22 fX_size_41
      simp only [gd2 hh, e1, Option.bind_some, xc0T, xc1F, if_true, if_false, q1, bind_eta]
      rfl
    · unfold fM_size fM_size_0 fM_size_22 fM_size_41
      simp only [gd293 h1, e2 _ h1 h2, Option.bind_some, xc0T, xc1F, if_true, if_false, q1, bind_eta]
      rfl
  by_cases q2 : 0 ≤ a3
  rotate_left
  · refine sim_refuse 4 hS (by decide) (by decide) ?_ (fun μ1 h1 h2 => ?_)
    · unfold fX_size fX_size_0 fX_size_22 fX_size_41
      simp only [gd2 hh, e1, Option.bind_some, xc0T, xc1F, if_true, if_false, q1, q2, bind_eta]
      rfl
    · unfold fM_size fM_size_0 fM_size_22 fM_size_41
      simp only [gd293 h1, e2 _ h1 h2, Option.bind_some, xc0T, xc1F, if_true, if_false, q1, q2, bind_eta]
      rfl
  by_cases q3 : xc 99 < a2
  · refine sim_refuse 6 hS (by decide) (by decide) ?_ (fun μ1 h1 h2 => ?_)
    · unfold fX_size fX_size_0 fX_size_22 fX_size_41
      simp only [gd2 hh, e1, Option.bind_some, xc0T, xc1F, if_true, if_false, q1, q2, q3, bind_eta]
      rfl
    · unfold fM_size fM_size_0 fM_size_22 fM_size_41
      simp only [gd293 h1, e2 _ h1 h2, Option.bind_some, xc0T, xc1F, if_true, if_false, q1, q2, q3, bind_eta]
      rfl
  by_cases q4 : a3 ≤ xc 99
  rotate_left
  · refine sim_refuse 6 hS (by decide) (by decide) ?_ (fun μ1 h1 h2 => ?_)
    · unfold fX_size fX_size_0 fX_size_22 fX_size_41
      simp only [gd2 hh, e1, Option.bind_some, xc0T, xc1F, if_true, if_false, q1, q2, q3, q4, bind_eta]
      rfl
    · unfold fM_size fM_size_0 fM_size_22 fM_size_41
      simp only [gd293 h1, e2 _ h1 h2, Option.bind_some, xc0T, xc1F, if_true, if_false, q1, q2, q3, q4, bind_eta]
      rfl
  refine ⟨xc 1, xsI (xsI μ 8 j a2) 9 j a3, xsI (xsI (xsI (xsI μ 8 j a2) 9 j a3) 307 j a2) 308 j a3, ?_, o'.2.1, ?_, ?_⟩
  · have h1 : Sh (xsI μ 8 j a2) := hh
    unfold fX_size fX_size_0 fX_size_22 fX_size_41
    simp only [gd2 hh, e1, Option.bind_some, xc0T, xc1F, if_true, if_false, q1, q2, q3, q4, g2_0 hh, g2_0 h1, g3_12 hh, g3_13 h1, sa8 hh _ hj', sa9 h1 _ hj']
  · have h1 : Sh (xsI (xsI μ 8 j a2) 9 j a3) := hh
    have h3 : Sh (xsI (xsI (xsI μ 8 j a2) 9 j a3) 307 j a2) := hh
    unfold fM_size fM_size_0 fM_size_22 fM_size_41
    simp only [gd293 h1, e2 _ h1 (fun a j q => by rw [xI_ne (by omega), xI_ne (by omega)]), Option.bind_some, xc0T, xc1F, if_true, if_false, q1, q2, q3, q4, g293_18 h1, g293_19 h3, sa307 h1 _ hj', sa308 h3 _ hj']
  · have f : Fr (fun a k => k = j ∧ (a = 8 ∨ a = 9 ∨ a = 307 ∨ a = 308)) μ (xsI (xsI (xsI (xsI μ 8 j a2) 9 j a3) 307 j a2) 308 j a3) := ((((Fr.refl μ).s _ (by omega)).s _ (by omega)).s _ (by omega)).s _ (by omega)
    refine sim_re (f.mono (fun a k q => by unfold WH FMo; omega)) o' hP hC hBk hT hF hI hSS hp hB (hs.fr f (fun k _ => by omega)) (hm.fr f (fun a k _ => by omega)) (ht.fr f (fun k _ => by omega)) (hk.fr f (fun k _ => by omega)) (fun v hv => ?_) (hg.fr f (fun k _ => by omega)) (hzz.fr f (fun a k _ _ _ _ => by omega)) (hw.fr f (fun k _ => by omega) hn)
    have g := hz v hv
    by_cases e : v = j
    · subst e
      simp (disch := omega) only [xI_eq, xI_ne]
      exact ⟨trivial, trivial, g.2.2.1, g.2.2.2⟩
    · simp (disch := omega) only [xI_ne]
      exact g
theorem sim_hours {L : Nat} {xs : Nat → Int32} {μ : xM} (a1 : Int32) (a2 : Int32) (a3 : Int32) (hS : Sim L xs μ) : SimR L xs (fX_hours 2 a1 a2 a3 μ) (fun μ => fM_hours 293 a1 a2 a3 μ) := by
  have hh := hS.sh
  obtain ⟨o', A, V, na, nv, T, K, kb, gb, ⟨hB, hs, hm, ht, hk, hz, hg, hzz, hw, hp⟩, hP, hC, hBk, hT, hF, hI, hSS⟩ := sim_all.mp hS
  have hn := hB.1
  have hv := hB.2.1
  rcases off_or nv (by omega) a1 with q | ⟨j, hj, rfl⟩
  · refine sim_refuse 1 hS (by decide) (by decide) ?_ (fun μ1 h1 h2 => ?_)
    · unfold fX_hours fX_hours_0 fX_hours_22 fX_hours_41
      simp only [gd2 hh, xview_no hh hs.2.2.2.1 q, Option.bind_some, xc0T, xc1F, if_true, if_false, bind_eta]
      rfl
    · unfold fM_hours fM_hours_0 fM_hours_22 fM_hours_41
      simp only [gd293 h1, mview_no h1 ((h2 _ _ (by decide)).trans hm.2.1) (by omega) q, Option.bind_some, xc0T, xc1F, if_true, if_false, bind_eta]
      rfl
  have hj' : j < 6 := by omega
  have e1 := xview_yes hh hs.2.2.2.1 (by omega) hj
  have e2 : ∀ μ1, Sh μ1 → (∀ a j, 293 ≤ a → xI μ1 a j = xI μ a j) → fM_isView 293 (nI j) μ1 = some (xc 1) := fun μ1 h1 h2 => mview_yes h1 ((h2 _ _ (by decide)).trans hm.2.1) (by omega) hj
  by_cases q1 : a2 < 0
  · refine sim_refuse 4 hS (by decide) (by decide) ?_ (fun μ1 h1 h2 => ?_)
    · unfold fX_hours fX_hours_0 fX_hours_22 fX_hours_41
      simp only [gd2 hh, e1, Option.bind_some, xc0T, xc1F, if_true, if_false, q1, bind_eta]
      rfl
    · unfold fM_hours fM_hours_0 fM_hours_22 fM_hours_41
      simp only [gd293 h1, e2 _ h1 h2, Option.bind_some, xc0T, xc1F, if_true, if_false, q1, bind_eta]
      rfl
  by_cases q2 : 0 ≤ a3
  rotate_left
  · refine sim_refuse 4 hS (by decide) (by decide) ?_ (fun μ1 h1 h2 => ?_)
    · unfold fX_hours fX_hours_0 fX_hours_22 fX_hours_41
      simp only [gd2 hh, e1, Option.bind_some, xc0T, xc1F, if_true, if_false, q1, q2, bind_eta]
      rfl
    · unfold fM_hours fM_hours_0 fM_hours_22 fM_hours_41
      simp only [gd293 h1, e2 _ h1 h2, Option.bind_some, xc0T, xc1F, if_true, if_false, q1, q2, bind_eta]
      rfl
  by_cases q3 : xc 99 < a2
  · refine sim_refuse 6 hS (by decide) (by decide) ?_ (fun μ1 h1 h2 => ?_)
    · unfold fX_hours fX_hours_0 fX_hours_22 fX_hours_41
      simp only [gd2 hh, e1, Option.bind_some, xc0T, xc1F, if_true, if_false, q1, q2, q3, bind_eta]
      rfl
    · unfold fM_hours fM_hours_0 fM_hours_22 fM_hours_41
      simp only [gd293 h1, e2 _ h1 h2, Option.bind_some, xc0T, xc1F, if_true, if_false, q1, q2, q3, bind_eta]
      rfl
  by_cases q4 : a3 ≤ xc 99
  rotate_left
  · refine sim_refuse 6 hS (by decide) (by decide) ?_ (fun μ1 h1 h2 => ?_)
    · unfold fX_hours fX_hours_0 fX_hours_22 fX_hours_41
      simp only [gd2 hh, e1, Option.bind_some, xc0T, xc1F, if_true, if_false, q1, q2, q3, q4, bind_eta]
      rfl
    · unfold fM_hours fM_hours_0 fM_hours_22 fM_hours_41
      simp only [gd293 h1, e2 _ h1 h2, Option.bind_some, xc0T, xc1F, if_true, if_false, q1, q2, q3, q4, bind_eta]
      rfl
  by_cases q5 : a2 ≤ a3
  rotate_left
  · refine sim_refuse 3 hS (by decide) (by decide) ?_ (fun μ1 h1 h2 => ?_)
    · unfold fX_hours fX_hours_0 fX_hours_22 fX_hours_41
      simp only [gd2 hh, e1, Option.bind_some, xc0T, xc1F, if_true, if_false, q1, q2, q3, q4, q5, bind_eta]
      rfl
    · unfold fM_hours fM_hours_0 fM_hours_22 fM_hours_41
      simp only [gd293 h1, e2 _ h1 h2, Option.bind_some, xc0T, xc1F, if_true, if_false, q1, q2, q3, q4, q5, bind_eta]
      rfl
  refine ⟨xc 1, xsI (xsI μ 10 j a2) 11 j a3, xsI (xsI (xsI (xsI μ 10 j a2) 11 j a3) 309 j a2) 310 j a3, ?_, o'.2.1, ?_, ?_⟩
  · have h1 : Sh (xsI μ 10 j a2) := hh
    unfold fX_hours fX_hours_0 fX_hours_22 fX_hours_41
    simp only [gd2 hh, e1, Option.bind_some, xc0T, xc1F, if_true, if_false, q1, q2, q3, q4, q5, g2_0 hh, g2_0 h1, g3_14 hh, g3_15 h1, sa10 hh _ hj', sa11 h1 _ hj']
  · have h1 : Sh (xsI (xsI μ 10 j a2) 11 j a3) := hh
    have h3 : Sh (xsI (xsI (xsI μ 10 j a2) 11 j a3) 309 j a2) := hh
    unfold fM_hours fM_hours_0 fM_hours_22 fM_hours_41
    simp only [gd293 h1, e2 _ h1 (fun a j q => by rw [xI_ne (by omega), xI_ne (by omega)]), Option.bind_some, xc0T, xc1F, if_true, if_false, q1, q2, q3, q4, q5, g293_20 h1, g293_21 h3, sa309 h1 _ hj', sa310 h3 _ hj']
  · have f : Fr (fun a k => k = j ∧ (a = 10 ∨ a = 11 ∨ a = 309 ∨ a = 310)) μ (xsI (xsI (xsI (xsI μ 10 j a2) 11 j a3) 309 j a2) 310 j a3) := ((((Fr.refl μ).s _ (by omega)).s _ (by omega)).s _ (by omega)).s _ (by omega)
    refine sim_re (f.mono (fun a k q => by unfold WH FMo; omega)) o' hP hC hBk hT hF hI hSS hp hB (hs.fr f (fun k _ => by omega)) (hm.fr f (fun a k _ => by omega)) (ht.fr f (fun k _ => by omega)) (hk.fr f (fun k _ => by omega)) (fun v hv => ?_) (hg.fr f (fun k _ => by omega)) (hzz.fr f (fun a k _ _ _ _ => by omega)) (hw.fr f (fun k _ => by omega) hn)
    have g := hz v hv
    by_cases e : v = j
    · subst e
      simp (disch := omega) only [xI_eq, xI_ne]
      exact ⟨g.1, g.2.1, trivial, trivial⟩
    · simp (disch := omega) only [xI_ne]
      exact g
theorem sim_set {L : Nat} {xs : Nat → Int32} {μ : xM} (a1 : Int32) (a2 : Int32) (hS : Sim L xs μ) : SimR L xs (fX_set 2 a1 a2 μ) (fun μ => fM_set 293 a1 a2 μ) := by
  have hh := hS.sh
  obtain ⟨o', A, V, na, nv, T, K, kb, gb, ⟨hB, hs, hm, ht, hk, hz, hg, hzz, hw, hp⟩, hP, hC, hBk, hT, hF, hI, hSS⟩ := sim_all.mp hS
  have hn := hB.1
  have hv := hB.2.1
  have ii : ∀ μ1, fM_isIn (Int32.toInt64 a1) (Int64.ofNat 0) (Int64.ofNat 1) μ1 = some (if a1 < nI 0 ∨ nI 1 < a1 then xc 0 else xc 1) := fun μ1 => isIn_n a1 0 1 (by decide) (by decide) μ1
  rcases off_or 2 (by decide) a1 with q | ⟨j, hj, e⟩
  · have q' : a1 < nI 0 ∨ nI 1 < a1 := q.imp id (fun q => by rw [lt_toInt]; rw [le_toInt] at q; rw [nI_toInt (by decide)] at q ⊢; omega)
    have q3 : ¬ a1 < 0 → ¬ a1 ≤ xc 1 := fun q1 q2 => by
      rcases q' with q' | q'
      · exact q1 q'
      · exact absurd q2 (Int32.not_le.mpr q')
    refine sim_refuse 2 hS (by decide) (by decide) ?_ (fun μ1 h1 h2 => ?_)
    · unfold fX_set fX_set_0 fX_set_9 fX_set_40 fX_set_71 fX_set_95
      by_cases q1 : a1 < 0
      · simp only [gd2 hh, Option.bind_some, xc0T, xc1F, if_true, if_false, q1, bind_eta]
        rfl
      · simp only [gd2 hh, Option.bind_some, xc0T, xc1F, if_true, if_false, q1, q3 q1, bind_eta]
        rfl
    · unfold fM_set fM_set_0 fM_set_41 fM_set_66 fM_set_80 fM_set_97
      simp only [gd293 h1, ii, if_pos q', Option.bind_some, xc0T, xc1F, if_true, if_false, bind_eta]
      rfl
  have ca0 : a1 = nI 0 → SimR L xs (fX_set 2 a1 a2 μ) (fun μ => fM_set 293 a1 a2 μ) := fun e => by
    subst e
    have i1 : ¬ nI 0 < 0 := by decide
    have i2 : nI 0 ≤ xc 1 := by decide
    have i3 : ¬ (nI 0 < nI 0 ∨ nI 1 < nI 0) := by decide
    have i4 : (nI 0 = 0) = True := by decide
    have i5 : (nI 0 = xc 1) = False := by decide
    by_cases q1 : 0 ≤ a2
    · by_cases q2 : a2 ≤ xc 999
      · refine ⟨xI μ 3 6, xsI μ 3 6 a2, xsI (xsI (xsI μ 3 6 a2) 293 23 a2) 293 24 (xI μ 293 24), ?_, o'.2.1, ?_, ?_⟩
        · unfold fX_set fX_set_0 fX_set_9 fX_set_40 fX_set_71 fX_set_95
          simp only [gd2 hh, Option.bind_some, xc0T, xc1F, if_true, if_false, i1, i2, i4, q1, q2, g2_0 hh, f3 hh, fs3 hh]
        · have h1 : Sh (xsI μ 3 6 a2) := hh
          unfold fM_set fM_set_0 fM_set_41 fM_set_66 fM_set_80 fM_set_97
          simp (disch := omega) only [gd293 h1, ii, if_neg i3, Option.bind_some, xc0T, xc1F, if_true, if_false, i4, i5, q1, q2, f293 h1, fs293 h1, xI_ne,  f293 (show Sh (xsI (xsI μ 3 6 a2) 293 23 a2) from hh), fs293 (show Sh (xsI (xsI μ 3 6 a2) 293 23 a2) from hh), hm.2.2.1]
        · have f : Fr (fun a k => a = 3 ∧ k = 6 ∨ a = 293 ∧ (k = 23 ∨ k = 24)) μ (xsI (xsI (xsI μ 3 6 a2) 293 23 a2) 293 24 (xI μ 293 24)) := (((Fr.refl μ).s _ (by omega)).s _ (by omega)).s _ (by omega)
          refine sim_re (f.mono (fun a k q => by unfold WH FMo; omega)) o' hP hC hBk hT hF hI hSS hp hB (hs.fr f (fun k _ => by omega)) ?_ (ht.fr f (fun k _ => by omega)) (hk.fr f (fun k _ => by omega)) (hz.fr f (fun a k _ _ => by omega)) (hg.fr f (fun k _ => by omega)) (hzz.fr f (fun a k _ _ _ _ => by omega)) (hw.fr f (fun k _ => by omega) hn)
          obtain ⟨g1, g2, g3, g4⟩ := hm
          unfold HM
          simp (disch := omega) only [xI_eq, xI_ne]
          exact ⟨g1, g2, trivial, g4.1, q1⟩
      · refine sim_refuse 6 hS (by decide) (by decide) ?_ (fun μ1 h1 h2 => ?_)
        · unfold fX_set fX_set_0 fX_set_9 fX_set_40 fX_set_71 fX_set_95
          simp only [gd2 hh, Option.bind_some, xc0T, xc1F, if_true, if_false, i1, i2, i4, q1, q2, bind_eta]
          rfl
        · unfold fM_set fM_set_0 fM_set_41 fM_set_66 fM_set_80 fM_set_97
          simp only [gd293 h1, ii, if_neg i3, i4, i5, q1, q2, Option.bind_some, xc0T, xc1F, if_true, if_false, bind_eta]
          rfl
    · refine sim_refuse 4 hS (by decide) (by decide) ?_ (fun μ1 h1 h2 => ?_)
      · unfold fX_set fX_set_0 fX_set_9 fX_set_40 fX_set_71 fX_set_95
        simp only [gd2 hh, Option.bind_some, xc0T, xc1F, if_true, if_false, i1, i2, i4, q1, bind_eta]
        rfl
      · unfold fM_set fM_set_0 fM_set_41 fM_set_66 fM_set_80 fM_set_97
        simp only [gd293 h1, ii, if_neg i3, i4, i5, q1, Option.bind_some, xc0T, xc1F, if_true, if_false, bind_eta]
        rfl
  have ca1 : a1 = nI 1 → SimR L xs (fX_set 2 a1 a2 μ) (fun μ => fM_set 293 a1 a2 μ) := fun e => by
    subst e
    have i1 : ¬ nI 1 < 0 := by decide
    have i2 : nI 1 ≤ xc 1 := by decide
    have i3 : ¬ (nI 1 < nI 0 ∨ nI 1 < nI 1) := by decide
    have i4 : (nI 1 = 0) = False := by decide
    have i5 : (nI 1 = xc 1) = True := by decide
    by_cases q1 : 0 ≤ a2
    · by_cases q2 : a2 ≤ xc 99
      · refine ⟨xI μ 3 7, xsI μ 3 7 a2, xsI (xsI (xsI μ 3 7 a2) 293 23 (xI μ 293 23)) 293 24 a2, ?_, o'.2.1, ?_, ?_⟩
        · unfold fX_set fX_set_0 fX_set_9 fX_set_40 fX_set_71 fX_set_95
          simp only [gd2 hh, Option.bind_some, xc0T, xc1F, if_true, if_false, i1, i2, i4, q1, q2, g2_0 hh, f3 hh, fs3 hh]
        · have h1 : Sh (xsI μ 3 7 a2) := hh
          unfold fM_set fM_set_0 fM_set_41 fM_set_66 fM_set_80 fM_set_97
          simp (disch := omega) only [gd293 h1, ii, if_neg i3, Option.bind_some, xc0T, xc1F, if_true, if_false, i4, i5, q1, q2, f293 h1, fs293 h1, xI_ne,  f293 (show Sh (xsI (xsI μ 3 7 a2) 293 23 (xI μ 293 23)) from hh), fs293 (show Sh (xsI (xsI μ 3 7 a2) 293 23 (xI μ 293 23)) from hh), hm.2.2.2]
        · have f : Fr (fun a k => a = 3 ∧ k = 7 ∨ a = 293 ∧ (k = 23 ∨ k = 24)) μ (xsI (xsI (xsI μ 3 7 a2) 293 23 (xI μ 293 23)) 293 24 a2) := (((Fr.refl μ).s _ (by omega)).s _ (by omega)).s _ (by omega)
          refine sim_re (f.mono (fun a k q => by unfold WH FMo; omega)) o' hP hC hBk hT hF hI hSS hp hB (hs.fr f (fun k _ => by omega)) ?_ (ht.fr f (fun k _ => by omega)) (hk.fr f (fun k _ => by omega)) (hz.fr f (fun a k _ _ => by omega)) (hg.fr f (fun k _ => by omega)) (hzz.fr f (fun a k _ _ _ _ => by omega)) (hw.fr f (fun k _ => by omega) hn)
          obtain ⟨g1, g2, g3, g4⟩ := hm
          unfold HM
          simp (disch := omega) only [xI_eq, xI_ne]
          exact ⟨g1, g2, g3, trivial, g4.2⟩
      · refine sim_refuse 6 hS (by decide) (by decide) ?_ (fun μ1 h1 h2 => ?_)
        · unfold fX_set fX_set_0 fX_set_9 fX_set_40 fX_set_71 fX_set_95
          simp only [gd2 hh, Option.bind_some, xc0T, xc1F, if_true, if_false, i1, i2, i4, q1, q2, bind_eta]
          rfl
        · unfold fM_set fM_set_0 fM_set_41 fM_set_66 fM_set_80 fM_set_97
          simp only [gd293 h1, ii, if_neg i3, i4, i5, q1, q2, Option.bind_some, xc0T, xc1F, if_true, if_false, bind_eta]
          rfl
    · refine sim_refuse 4 hS (by decide) (by decide) ?_ (fun μ1 h1 h2 => ?_)
      · unfold fX_set fX_set_0 fX_set_9 fX_set_40 fX_set_71 fX_set_95
        simp only [gd2 hh, Option.bind_some, xc0T, xc1F, if_true, if_false, i1, i2, i4, q1, bind_eta]
        rfl
      · unfold fM_set fM_set_0 fM_set_41 fM_set_66 fM_set_80 fM_set_97
        simp only [gd293 h1, ii, if_neg i3, i4, i5, q1, Option.bind_some, xc0T, xc1F, if_true, if_false, bind_eta]
        rfl
  rcases (show j = 0 ∨ j = 1 by omega) with r | r
  · exact ca0 (by rw [e, r])
  · exact ca1 (by rw [e, r])
