section IMAGE
variable {μ μ' : xM} {A V : Nat → xPic} {na nv T K kb gb h h' : Nat} {t t' : Nat → Int32}
theorem picsOf (H : HRel μ h t A V na nv T K kb gb) (wA : ∀ i, i < na → PicWf (A i)) (wV : ∀ i, i < nv → PicWf (V i)) : ∃ QA QV : Nat → xPic, (∀ i, i < na → QA i = A i) ∧ (∀ i, i < nv → QV i = V i) ∧ (∀ i, i < 10 → PicC μ (h + 9 + 5 * i) (QA i) ∧ (QA i).1.length ≤ 4 ∧ (QA i).2.length ≤ 3) ∧ ∀ i, i < 6 → PicC μ (h + 59 + 5 * i) (QV i) ∧ (QV i).1.length ≤ 4 ∧ (QV i).2.length ≤ 3 := by
  obtain ⟨h1, h2, h3, h4, h5, h6, h7, g0, g1, g2, g3, g4, g5, t0, t1, t2, t3, tt, tv, zv, ta, za, pa, pv, la, lv⟩ := H
  have ea : ∀ i, ∃ Q : xPic, (i < na → Q = A i) ∧ (i < 10 → PicC μ (h + 9 + 5 * i) Q ∧ Q.1.length ≤ 4 ∧ Q.2.length ≤ 3) := fun i => by
    by_cases q : i < na
    · exact ⟨A i, fun _ => rfl, fun _ => ⟨pa i q, (wA i q).2.1, (wA i q).2.2.1⟩⟩
    · by_cases q2 : i < 10
      · obtain ⟨Q, x⟩ := picL_pic (la i q2)
        exact ⟨Q, fun z => absurd z q, fun _ => x⟩
      · exact ⟨([], []), fun z => absurd z q, fun z => absurd z q2⟩
  have ev : ∀ i, ∃ Q : xPic, (i < nv → Q = V i) ∧ (i < 6 → PicC μ (h + 59 + 5 * i) Q ∧ Q.1.length ≤ 4 ∧ Q.2.length ≤ 3) := fun i => by
    by_cases q : i < nv
    · exact ⟨V i, fun _ => rfl, fun _ => ⟨pv i q, (wV i q).2.1, (wV i q).2.2.1⟩⟩
    · by_cases q2 : i < 6
      · obtain ⟨Q, x⟩ := picL_pic (lv i q2)
        exact ⟨Q, fun z => absurd z q, fun _ => x⟩
      · exact ⟨([], []), fun z => absurd z q, fun z => absurd z q2⟩
  exact ⟨fun i => (ea i).choose, fun i => (ev i).choose, fun i hi => (ea i).choose_spec.1 hi, fun i hi => (ev i).choose_spec.1 hi, fun i hi => (ea i).choose_spec.2 hi, fun i hi => (ev i).choose_spec.2 hi⟩
theorem HRel.move {QA QV : Nat → xPic} (H : HRel μ h t A V na nv T K kb gb) (qa : ∀ i, i < na → QA i = A i) (qv : ∀ i, i < nv → QV i = V i) (lA : ∀ i, i < 10 → (QA i).1.length ≤ 4 ∧ (QA i).2.length ≤ 3) (lV : ∀ i, i < 6 → (QV i).1.length ≤ 4 ∧ (QV i).2.length ≤ 3)
    (c1 : ∀ k, k < 8 → xI μ' h' k = xI μ h k) (c2 : ∀ i, i < 10 → PicC μ' (h' + 9 + 5 * i) (QA i) ∧ xI μ' (h' + 4) i = xI μ (h + 4) i) (c3 : ∀ i, i < 6 → PicC μ' (h' + 59 + 5 * i) (QV i) ∧ xI μ' (h' + 3) i = xI μ (h + 3) i ∧ xI μ' (h' + 5) i = xI μ (h + 5) i ∧ xI μ' (h' + 6) i = xI μ (h + 6) i ∧ xI μ' (h' + 7) i = xI μ (h + 7) i ∧ xI μ' (h' + 8) i = xI μ (h + 8) i)
    (et : ∀ j, j < 56 → (boolM j = false ∨ t j = nI 0 ∨ t j = nI 1) → t' j = t j) : HRel μ' h' t' A V na nv T K kb gb := by
  obtain ⟨h1, h2, h3, h4, h5, h6, h7, g0, g1, g2, g3, g4, g5, t0, t1, t2, t3, tt, tv, zv, ta, za, pa, pv, la, lv⟩ := H
  have m2 : ∀ n, nI (n % 2) = nI 0 ∨ nI (n % 2) = nI 1 := fun n => by
    obtain q | q : n % 2 = 0 ∨ n % 2 = 1 := by omega
    · rw [q]; exact Or.inl rfl
    · rw [q]; exact Or.inr rfl
  have b3 : ∀ i, i < 3 → boolM (4 + 2 * i) = false := by decide
  have b6 : ∀ v, v < 6 → boolM (10 + 6 * v) = false ∧ boolM (11 + 6 * v) = false ∧ boolM (12 + 6 * v) = false ∧ boolM (13 + 6 * v) = false ∧ boolM (14 + 6 * v) = false := by decide +kernel
  have b10 : ∀ a, a < 10 → boolM (46 + a) = false := by decide
  refine ⟨h1, h2, h3, h4, h5, h6, h7, (c1 0 (by omega)).trans g0, (c1 1 (by omega)).trans g1, (c1 2 (by omega)).trans g2, (c1 3 (by omega)).trans g3, (c1 4 (by omega)).trans g4, (c1 5 (by omega)).trans g5, (et 0 (by omega) (Or.inl (by decide))).trans t0, (et 1 (by omega) (Or.inl (by decide))).trans t1, ?_, ⟨?_, ?_⟩, fun i hi => ⟨?_, ?_⟩, fun v hv => ?_, fun v hv hv6 => ?_, fun a ha => ?_, fun a ha ha10 => ?_, fun i hi => ?_, fun i hi => ?_, fun i hi => ?_, fun i hi => ?_⟩
  · rw [et 2 (by omega) (Or.inl (by decide)), c1 6 (by omega)]; exact t2
  · rw [et 3 (by omega) (Or.inl (by decide)), c1 7 (by omega)]; exact t3.1
  · rw [c1 6 (by omega)]; exact t3.2
  · rw [et _ (by omega) (Or.inl (b3 i hi))]; exact (tt i hi).1
  · rw [et _ (by omega) (Or.inr (by rw [(tt i hi).2]; exact m2 _))]; exact (tt i hi).2
  · obtain ⟨v1, v2, v3, v4, v5, v6, v7⟩ := tv v hv
    obtain ⟨x1, x2, x3, x4, x5⟩ := b6 v (by omega)
    obtain ⟨_, y1, y2, y3, y4, y5⟩ := c3 v (by omega)
    rw [et (10 + 6 * v) (by omega) (Or.inl x1), et (11 + 6 * v) (by omega) (Or.inl x2), et (12 + 6 * v) (by omega) (Or.inl x3), et (13 + 6 * v) (by omega) (Or.inl x4), et (14 + 6 * v) (by omega) (Or.inl x5), et (15 + 6 * v) (by omega) (Or.inr (by rw [v7]; exact m2 _)), y1, y2, y3, y4, y5]
    exact ⟨v1, v2, v3, v4, v5, v6, v7⟩
  · obtain ⟨_, y1, y2, y3, y4, y5⟩ := c3 v hv6
    rw [y2, y3, y4, y5]
    exact zv v hv hv6
  · rw [et _ (by omega) (Or.inl (b10 a (by omega))), (c2 a (by omega)).2]; exact ta a ha
  · rw [(c2 a ha10).2]; exact za a ha ha10
  · rw [← qa i hi]; exact (c2 i (by omega)).1
  · rw [← qv i hi]; exact (c3 i (by omega)).1
  · obtain ⟨x, y⟩ := lA i hi
    exact ⟨_, _, x, y, (c2 i hi).1.1, (c2 i hi).1.2.1⟩
  · obtain ⟨x, y⟩ := lV i hi
    exact ⟨_, _, x, y, (c3 i hi).1.1, (c3 i hi).1.2.1⟩
theorem nz_same {x : Int32} (h : x = nI 0 ∨ x = nI 1) : nz x = x ∧ on1 x = x := by
  rcases h with rfl | rfl
  · exact ⟨by decide, by decide⟩
  · exact ⟨by decide, by decide⟩
variable {L : Nat} {xs : Nat → Int32}
theorem sim_image (hS : Sim L xs μ) : SimR L xs (fX_image 2 μ) (fun μ => fM_image 293 μ) := by
  obtain ⟨A, V, na, nv, T, K, kb, gb, hA⟩ := simA_iff.mp hS
  have hh := hS.sh
  have hn := hA.na10
  obtain ⟨hO, hH, hP, hC, hB, hT, hF, hI, hSS⟩ := hA
  obtain ⟨QA, QV, qa, qv, pA, pV⟩ := picsOf hH (fun i hi => (hP.1 i hi).2) (fun i hi => (hP.2 i hi).2)
  obtain ⟨μ1, x1, f1, k1, k2, k3⟩ := copyH_ok (d := 92) (s := 3) hh (Or.inr ⟨rfl, rfl⟩) pA pV
  have h1 := f1.sh hh
  have s1 : Sh (xsI μ1 2 2 (xc 1)) := h1
  have s2 : Sh (xsI (xsI μ1 2 2 (xc 1)) 293 61 (xc 1)) := h1
  have s3 : Sh (xsI (xsI (xsI μ1 2 2 (xc 1)) 293 61 (xc 1)) 293 64 (xc 1)) := h1
  obtain ⟨μ2, m1, D⟩ := moveAll_ok (out := true) s3 (xI_eq _ _ _ _)
  have fa : Fr (fun a k => 92 ≤ a ∧ a < 181 ∨ a = 2 ∧ k = 2 ∨ a = 293 ∧ (k = 61 ∨ k = 64)) μ (xsI (xsI (xsI μ1 2 2 (xc 1)) 293 61 (xc 1)) 293 64 (xc 1)) := (((f1.mono (fun a k q => by omega)).s _ (by omega)).s _ (by omega)).s _ (by omega)
  have fb := D.2.1
  have h2 := D.sh
  have F : Fr (fun a k => 92 ≤ a ∧ a < 181 ∨ a = 2 ∧ k = 2 ∨ a = 293 ∧ (k = 61 ∨ k = 64) ∨ WMv a k) μ μ2 := (fa.mono (fun a k q => by omega)).trans (fb.mono (fun a k q => Or.inr (Or.inr (Or.inr q))))
  have vm : ∀ j, vM (xsI (xsI (xsI μ1 2 2 (xc 1)) 293 61 (xc 1)) 293 64 (xc 1)) j = vM μ j := fun j => vM_fr (fun a k q => fa.I (by unfold FMo at q; omega)) j
  have e61 : xI μ2 293 61 = 1 := by rw [fb.I (by unfold WMv; omega), xI_ne (by omega), xI_eq]; rfl
  have e22 : xI μ2 2 2 = 1 := by rw [fb.I (by unfold WMv; omega), xI_ne (by omega), xI_ne (by omega), xI_eq]; rfl
  have sl : ∀ j, j < 56 → (boolM j = false ∨ vM μ j = nI 0 ∨ vM μ j = nI 1) → vM μ2 j = vM μ j ∧ xI μ2 332 j = vM μ j := fun j hj q => by
    have a := D.2.2.2.2.1 j hj
    have b := D.2.2.2.2.2 j hj
    rw [if_pos hj] at a b
    rw [← vM_loc] at a
    rw [a, b]
    unfold sM cM
    rw [vm]
    cases z : boolM j with
    | false => exact ⟨rfl, rfl⟩
    | true =>
      have := nz_same (q.resolve_left (by rw [z]; decide))
      exact ⟨this.1, this.1⟩
  have c1 : ∀ k, k < 8 → xI μ2 92 k = xI μ 3 k := fun k hk => by
    rw [fb.I (by unfold WMv; omega), xI_ne (by omega), xI_ne (by omega), xI_ne (by omega)]; exact k1 k hk
  have keep : ∀ a k, 92 ≤ a → a < 181 → xI μ2 a k = xI μ1 a k := fun a k q r => by
    rw [fb.I (by unfold WMv; omega), xI_ne (by omega), xI_ne (by omega), xI_ne (by omega)]
  have e9 : xI μ2 293 9 = nI nv := by
    have := (sl 1 (by omega) (Or.inl (by decide))).1
    exact this.trans hH.2.2.2.2.2.2.2.2.2.2.2.2.2.2.1
  have img : HRel μ2 92 (fun j => xI μ2 332 j) A V na nv T K kb gb := HRel.move hH qa qv (fun i hi => (pA i hi).2) (fun i hi => (pV i hi).2) c1 (fun i hi => ⟨(k2 i hi).1.fr (fun a k q r => keep a k (by omega) (by omega)), (keep _ _ (by omega) (by omega)).trans (k2 i hi).2⟩) (fun i hi => by
    obtain ⟨w1, w2, w3, w4, w5, w6⟩ := k3 i hi
    exact ⟨w1.fr (fun a k q r => keep a k (by omega) (by omega)), (keep _ _ (by omega) (by omega)).trans w2, (keep _ _ (by omega) (by omega)).trans w3, (keep _ _ (by omega) (by omega)).trans w4, (keep _ _ (by omega) (by omega)).trans w5, (keep _ _ (by omega) (by omega)).trans w6⟩) (fun j hj q => (sl j hj q).2)
  have hH2 : SimH μ2 A V na nv T K kb gb := HRel.move hH qa qv (fun i hi => (pA i hi).2) (fun i hi => (pV i hi).2) (fun k hk => F.I (by unfold WMv; omega)) (fun i hi => ⟨picC_fr (pA i hi).1 F (fun b k q r => by unfold WMv; omega), F.I (by unfold WMv; omega)⟩) (fun i hi => ⟨picC_fr (pV i hi).1 F (fun b k q r => by unfold WMv; omega), F.I (by unfold WMv; omega), F.I (by unfold WMv; omega), F.I (by unfold WMv; omega), F.I (by unfold WMv; omega), F.I (by unfold WMv; omega)⟩) (fun j hj q => (sl j hj q).1)
  refine ⟨nI nv, xsI μ1 2 2 (xc 1), μ2, ?_, ?_, ?_, simA_iff.mpr ⟨A, V, na, nv, T, K, kb, gb, hO.fr F (fun a k q => by unfold WMv; omega), hH2, hP.fr F (fun a k q => by unfold FP at q; unfold WMv; omega), hC.fr F (fun a k q => by unfold FC at q; unfold WMv; omega), hB.fr F (fun a k q => by unfold FB at q; unfold WMv; omega), hT.fr F (fun a k q => by unfold FT at q; unfold WMv; omega), hF.fr F (fun a k q => by unfold FF at q; unfold WMv; omega), Or.inr ⟨e22, e61, na, nv, T, K, kb, gb, Nat.le_refl _, Nat.le_refl _, img⟩, hSS.fr F hn (fun a k q => by unfold FS at q; unfold WMv; omega)⟩⟩
  · have e3 : xI (xsI μ1 2 2 (xc 1)) 92 3 = nI nv := by rw [xI_ne (by omega), k1 3 (by omega)]; exact hH.2.2.2.2.2.2.2.2.2.2.1
    simp only [fX_image, fX_image_0, gd2 hh, g2_1 hh, g2_0 hh, Option.bind_some, x1, fz2 h1 2 (show xc 1 = 0 ∨ xc 1 = 1 from Or.inr rfl), g2_1 s1, f92 s1, e3]
  · have g1 : Fr (fun a k => 92 ≤ a ∧ a < 181 ∨ a = 2) μ (xsI μ1 2 2 (xc 1)) := (f1.mono (fun a k q => by omega)).s _ (by omega)
    exact g1.scr hO.2.1 (fun k => by omega)
  · simp only [fM_image, fM_image_0, gd293 s1, fz293 s1 61 (show xc 1 = 0 ∨ xc 1 = 1 from Or.inr rfl), Option.bind_some, fz293 s2 64 (show xc 1 = 0 ∨ xc 1 = 1 from Or.inr rfl), m1, f293 h2, e9]
theorem sim_restore (hS : Sim L xs μ) : SimR L xs (fX_restore 2 μ) (fun μ => fM_restore 293 μ) := by
  obtain ⟨A, V, na, nv, T, K, kb, gb, hA⟩ := simA_iff.mp hS
  have hh := hS.sh
  have hn := hA.na10
  obtain ⟨hO, hH, hP, hC, hB, hT, hF, hI, hSS⟩ := hA
  rcases hI with ⟨i1, i2⟩ | ⟨i1, i2, na', nv', T', K', kb', gb', ln, lv, img⟩
  · refine sim_refuse 3 hS (by decide) (by decide) ?_ (fun μ1 h1 h2 => ?_)
    · simp only [fX_restore, fX_restore_0, gd2 hh, f2 hh, i1, Option.bind_some, if_true, bind_eta]
      rfl
    · simp only [fM_restore, fM_restore_0, gd293 h1, f293 h1, (h2 293 61 (by decide)).trans i2, Option.bind_some, if_true, bind_eta]
      rfl
  · obtain ⟨QA, QV, qa, qv, pA, pV⟩ := picsOf img (fun i hi => (hP.1 i (by omega)).2) (fun i hi => (hP.2 i (by omega)).2)
    obtain ⟨μ1, x1, f1, k1, k2, k3⟩ := copyH_ok (d := 3) (s := 92) hh (Or.inl ⟨rfl, rfl⟩) pA pV
    have h1 := f1.sh hh
    have s1 : Sh (xsI μ1 185 1 (xc 0)) := h1
    obtain ⟨μ2, y1, fg, y2⟩ := forgets_ok s1
    have h2 := fg.sh s1
    have s3 : Sh (xsI μ2 293 64 (xc 0)) := h2
    obtain ⟨μ3, m1, D⟩ := moveAll_ok (out := false) s3 (xI_eq _ _ _ _)
    have h3 := D.sh
    have fb := D.2.1
    have fa1 : Fr (fun a k => 3 ≤ a ∧ a < 92 ∨ a = 185 ∧ k = 1 ∨ 213 ≤ a ∧ a < 293) μ μ2 := ((f1.mono (fun a k q => by omega)).s _ (by omega)).trans (fg.mono (fun a k q => by omega))
    have fa : Fr (fun a k => 3 ≤ a ∧ a < 92 ∨ a = 185 ∧ k = 1 ∨ 213 ≤ a ∧ a < 293 ∨ a = 293 ∧ k = 64) μ (xsI μ2 293 64 (xc 0)) := (fa1.mono (fun a k q => by omega)).s _ (by omega)
    have F : Fr (fun a k => 3 ≤ a ∧ a < 92 ∨ a = 185 ∧ k = 1 ∨ 213 ≤ a ∧ a < 293 ∨ a = 293 ∧ (k = 64 ∨ k = 3) ∨ WMv a k) μ (xsI μ3 293 3 (xc 0)) := ((fa.mono (fun a k q => by omega)).trans (fb.mono (fun a k q => Or.inr (Or.inr (Or.inr (Or.inr q)))))).s _ (by omega)
    have t0 : ∀ j, xI (xsI μ2 293 64 (xc 0)) 332 j = xI μ 332 j := fun j => fa.I (by omega)
    have sl : ∀ j, j < 56 → (boolM j = false ∨ xI μ 332 j = nI 0 ∨ xI μ 332 j = nI 1) → vM (xsI μ3 293 3 (xc 0)) j = xI μ 332 j := fun j hj q => by
      have a := D.2.2.2.2.1 j hj
      rw [if_pos hj] at a
      have lj := locM_in j hj
      rw [vM_loc, xI_ne (by omega), a]
      unfold sM
      rw [t0]
      cases z : boolM j with
      | false => rfl
      | true => exact (nz_same (q.resolve_left (by rw [z]; decide))).2
    have im332 : ∀ j, j < 56 → xI (xsI μ3 293 3 (xc 0)) 332 j = xI μ 332 j := fun j hj => by
      have b := D.2.2.2.2.2 j hj
      rw [if_pos hj] at b
      rw [xI_ne (by omega), b]
      exact t0 j
    have keep : ∀ a k, 3 ≤ a → a < 92 → xI (xsI μ3 293 3 (xc 0)) a k = xI μ1 a k := fun a k q r => by
      rw [xI_ne (by omega), fb.I (by unfold WMv; omega), xI_ne (by omega), fg.I (by omega), xI_ne (by omega)]
    have e9 : xI (xsI μ3 293 3 (xc 0)) 293 9 = nI nv' := by
      have := sl 1 (by omega) (Or.inl (by decide))
      exact this.trans img.2.2.2.2.2.2.2.2.2.2.2.2.2.2.1
    have hH2 : SimH (xsI μ3 293 3 (xc 0)) A V na' nv' T' K' kb' gb' := HRel.move img qa qv (fun i hi => (pA i hi).2) (fun i hi => (pV i hi).2) (fun k hk => (keep _ _ (by omega) (by omega)).trans (k1 k hk)) (fun i hi => ⟨(k2 i hi).1.fr (fun a k q r => keep a k (by omega) (by omega)), (keep _ _ (by omega) (by omega)).trans (k2 i hi).2⟩) (fun i hi => by
      obtain ⟨w1, w2, w3, w4, w5, w6⟩ := k3 i hi
      exact ⟨w1.fr (fun a k q r => keep a k (by omega) (by omega)), (keep _ _ (by omega) (by omega)).trans w2, (keep _ _ (by omega) (by omega)).trans w3, (keep _ _ (by omega) (by omega)).trans w4, (keep _ _ (by omega) (by omega)).trans w5, (keep _ _ (by omega) (by omega)).trans w6⟩) (fun j hj q => sl j hj q)
    have sg : ∀ i, i < 10 → xI (xsI μ3 293 3 (xc 0)) (213 + 8 * i) 8 = 0 ∧ xI (xsI μ3 293 3 (xc 0)) (213 + 8 * i) 9 = 0 := fun i hi => by
      have := y2 i hi
      rw [xI_ne (by omega), xI_ne (by omega), fb.I (by unfold WMv; omega), fb.I (by unfold WMv; omega), xI_ne (by omega), xI_ne (by omega)]
      exact this
    refine ⟨nI nv', μ2, xsI μ3 293 3 (xc 0), ?_, fa1.scr hO.2.1 (fun k => by omega), ?_, simA_iff.mpr ⟨A, V, na', nv', T', K', kb', gb', hO.fr F (fun a k q => by unfold WMv; omega), hH2, ?_, ⟨0, by omega, ?_, xI_eq _ _ _ _, fun j hj => absurd hj (Nat.not_lt_zero j)⟩, hB.fr F (fun a k q => by unfold FB at q; unfold WMv; omega), hT.fr F (fun a k q => by unfold FT at q; unfold WMv; omega), hF.fr F (fun a k q => by unfold FF at q; unfold WMv; omega), Or.inr ⟨(F.I (by unfold WMv; omega)).trans i1, (F.I (by unfold WMv; omega)).trans i2, na', nv', T', K', kb', gb', Nat.le_refl _, Nat.le_refl _, HRel.fr img (fun a k q r => F.I (by unfold WMv; omega)) im332⟩, fun i hi => Or.inl (sg i (by omega))⟩⟩
    · have e3 : xI μ2 3 3 = nI nv' := by rw [fg.I (by omega), xI_ne (by omega), k1 3 (by omega)]; exact img.2.2.2.2.2.2.2.2.2.2.1
      have c1 : (xI μ 2 2 = 0) = False := by rw [i1]; exact eq_false (by decide)
      simp only [fX_restore, fX_restore_0, gd2 hh, f2 hh, c1, if_false, g2_1 hh, g2_0 hh, Option.bind_some, x1, g2_5 h1, fs185 h1, y1, g2_0 h2, f3 h2, e3]
    · have c1 : (xI μ2 293 61 = 0) = False := by rw [fa1.I (by omega), i2]; exact eq_false (by decide)
      have e9' : xI (xsI μ3 293 3 (xc 0)) 293 9 = nI nv' := e9
      have s4 : Sh (xsI μ3 293 3 (xc 0)) := h3
      simp only [fM_restore, fM_restore_0, gd293 h2, f293 h2, c1, if_false, Option.bind_some, fz293 h2 64 (show xc 0 = 0 ∨ xc 0 = 1 from Or.inl rfl), m1, fs293 h3, f293 s4, e9']
    · have P2 := hP.fr F (fun a k q => by unfold FP at q; unfold WMv; omega)
      exact ⟨fun i hi => P2.1 i (by omega), fun i hi => P2.2 i (by omega)⟩
    · rw [xI_ne (by omega), fb.I (by unfold WMv; omega), xI_ne (by omega), fg.I (by omega), xI_eq]
      rfl
end IMAGE
