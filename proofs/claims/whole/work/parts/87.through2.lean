/-! sights with covers -/
section THR2
variable {L : Nat} {xs : Nat → Int32} {μ : xM} {A V : Nat → xPic} {na nv T K kb gb : Nat}
theorem through_ok (hS : SimA L xs μ A V na nv T K kb gb) {j : Nat} (hj : j < na) (sn : SeenOK μ (213 + 8 * j) K nv V (A j)) (hl : (pShows (pEnd K (A j)) V nv).length ≤ 12) (e9 : xI μ (213 + 8 * j) 9 = 0) : ∃ μ1, fS_lookThrough (213 + 8 * j) (12 + 5 * j) 3 188 μ = some μ1 ∧ Fr (W9 (213 + 8 * j)) μ μ1 ∧ ThroughOK μ1 (213 + 8 * j) K nv V (A j) ∧ xI μ1 (213 + 8 * j) 9 = 1 := by
  have hh := hS.sh
  have hn := hS.na10
  have hj10 : j < 10 := by omega
  have hs := sight_at hh j hj10
  have h2 := hs.1
  have hc := shC hS hj hl
  have wA := hS.wfA hj
  have keep := pEnd_keep (K := K) wA.tb
  obtain ⟨p1, p2, p3, p4, p5⟩ := sn
  have p5' := p5 hl
  rw [if_neg (by omega)] at p4
  have hN : pShows (pEnd K (A j)) V nv ≠ [] → (pEnd K (A j)).2.2 = false := fun z => by
    cases q : (pEnd K (A j)).2.2 with
    | false => rfl
    | true => exact absurd (by unfold pShows; rw [if_pos q]) z
  have hN0 : (pEnd K (A j)).2.2 = true → pShows (pEnd K (A j)) V nv = [] := fun z => by unfold pShows; rw [if_pos z]
  have F0 : FoundS μ (213 + 8 * j) (pShows (pEnd K (A j)) V nv) := ⟨hl, p5'⟩
  have lE : (pEnd K (A j)).1.2.length ≤ 3 := by rw [keep.2.2]; exact wA.2.2.1
  have base : Base μ V nv K j (pShows (pEnd K (A j)) V nv) (pEnd K (A j)) (A j) := ⟨hh, hj10, hc, F0, hS.nv6, fun u hu => hS.cV hu, p1, keep.1, lE, hS.K8, hS.all.2.1.2.1, wA, hS.cA hj⟩
  unfold ThroughOK
  generalize pShows (pEnd K (A j)) V nv = sh at hl hc hN hN0 F0 base p4
  generalize pEnd K (A j) = E at p1 p2 p3 keep hN hN0 lE base ⊢
  -- what is set at first
  have k1 : IsSight (xsI μ (213 + 8 * j) 9 (xc 1)) (213 + 8 * j) := hs
  obtain ⟨μ2, c1, f2, c2⟩ := fill_ok (μ := xsI μ (213 + 8 * j) 9 (xc 1)) k1.2.2.2.2.2.2.1 (by omega) (by decide) (Int64.ofNat 0)
  have hs2 := f2.sight k1
  have hs3 : IsSight (xsL μ2 (213 + 8 * j) 5 (Int64.ofNat 0)) (213 + 8 * j) := hs2
  have hs4 : IsSight (xsI (xsL μ2 (213 + 8 * j) 5 (Int64.ofNat 0)) (213 + 8 * j) 6 (xc (-9))) (213 + 8 * j) := hs2
  obtain ⟨μ5, h5⟩ : ∃ μ5, μ5 = xsI (xsI (xsL μ2 (213 + 8 * j) 5 (Int64.ofNat 0)) (213 + 8 * j) 6 (xc (-9))) (213 + 8 * j) 7 (xc 0) := ⟨_, rfl⟩
  have f5 : Fr (W9 (213 + 8 * j)) μ μ5 := by
    rw [h5]
    exact (((((Fr.refl μ).s _ (by unfold W9; omega)).trans (f2.mono (fun a k q => by unfold W9; omega))).sL _ (by unfold W9; omega)).s _ (by unfold W9; omega)).s _ (by unfold W9; omega)
  have hs5 := f5.sight hs
  have b5 := base.fr9 f5
  have e59 : xI μ5 (213 + 8 * j) 9 = 1 := by rw [h5, xI_ne (by omega), xI_ne (by omega), xI_sL, f2.I (by omega), xI_eq]; rfl
  have z0 : ∀ u, lb (Int64.ofNat 0) u = false := fun u => by rw [lb_N, Nat.zero_testBit, Bool.and_false]
  have nt5 : NtC μ5 (213 + 8 * j) sh [] := by
    refine ⟨fun x hx => ?_, fun u hu => ?_, Or.inl ⟨rfl, ?_, ?_⟩⟩
    · rw [h5, xL_sI, xL_sI, xL_ne (by omega), c2 _ (by omega), z0]
      exact ⟨fun q => (by cases q), fun q => absurd q List.not_mem_nil⟩
    · rw [h5, xL_sI, xL_sI, xL_eq, z0]
      exact ⟨fun q => (by cases q), fun ⟨x, q, _⟩ => absurd q List.not_mem_nil⟩
    · rw [h5, xI_ne (by omega), xI_eq]
    · rw [h5, xI_eq]; rfl
  have r4 : ldFR (xsI μ (213 + 8 * j) 9 (xc 1)) (213 + 8 * j) 6 4 = some (213 + 8 * j + 7) := ldFR_k (ci := 6) k1.2.1 k1.2.2.2.2.1
  have r0 : ldFR μ5 (213 + 8 * j) 6 0 = some (213 + 8 * j + 1) := ldFR_k (ci := 6) hs5.2.1 hs5.2.2.1
  have e7 : ldF μ5 (213 + 8 * j + 1) 5 7 = some (if E.2.2 then 1 else 0) := by rw [pf hs5.2.2.2.2.2.2.2, f5.I (by unfold W9; omega), p3]
  have ev : fS_lookThrough (213 + 8 * j) (12 + 5 * j) 3 188 μ = (if E.2.2 = true then (fS_noteCover (213 + 8 * j) (xc 0) μ5).bind fun r21 => fS_lookThrough_59 (213 + 8 * j) (12 + 5 * j) 3 188 r21 else fS_lookThrough_59 (213 + 8 * j) (12 + 5 * j) 3 188 μ5) := by
    simp only [fS_lookThrough, fS_lookThrough_0, gd_k (ci := 6) hs.2.1, sf hs, e9, if_true, p4, Option.bind_some, stFZ_k (ci := 6) (v := xc 1) 9 hs.2.1 h2 (Or.inr rfl), r4, c1, stFL_k (ci := 6) 5 (Int64.ofNat 0) hs2.2.1 h2, stF_k (ci := 6) 6 (xc (-9)) hs3.2.1 h2, stF_k (ci := 6) 7 (xc 0) hs4.2.1 h2, ← h5, r0, e7]
    cases E.2.2 with
    | true => rfl
    | false => rfl
  -- all sets
  have start : ∃ μ6 C, fS_lookThrough (213 + 8 * j) (12 + 5 * j) 3 188 μ = fS_lookThrough_59 (213 + 8 * j) (12 + 5 * j) 3 188 μ6 ∧ Fr (W9 (213 + 8 * j)) μ μ6 ∧ xI μ6 (213 + 8 * j) 9 = 1 ∧ NtC μ6 (213 + 8 * j) sh C ∧ CSpec (pCov K V (A j) E sh) sh.length C 1 1 := by
    cases q : E.2.2 with
    | true =>
      have s0 := hN0 q
      have hv0 : ∀ x, x ∈ sh → x < 3072 := fun x hx => by rw [s0] at hx; exact absurd hx List.not_mem_nil
      obtain ⟨μ6, n1, n2, n3⟩ := noteCover_ok hs5 b5.2.2.2.1 hv0 nt5 (fun x hx => absurd hx List.not_mem_nil) (set := 0) (by decide)
      refine ⟨μ6, [] ++ [0], ?_, f5.trans (n2.mono (fun a k z => by unfold WN at z; unfold W9; omega)), (n2.I (by unfold WN; omega)).trans e59, n3, ?_⟩
      · rw [ev, if_pos q, show xc 0 = nI 0 from rfl, n1, Option.bind_some]
      · refine ⟨List.nodup_cons.mpr ⟨List.not_mem_nil, List.nodup_nil⟩, fun x => ?_, fun c0 C' e x hx => ?_⟩
        · rw [List.nil_append, List.mem_singleton]
          have o0 : onesN 12 0 = 0 := by decide
          constructor
          · rintro rfl
            exact ⟨Nat.two_pow_pos _, Or.inl ⟨q, rfl⟩, Or.inl (by omega)⟩
          · rintro ⟨z, _⟩
            rw [s0] at z
            have : x < 1 := z
            omega
        · rw [List.nil_append] at e hx
          obtain ⟨e1, _⟩ := List.cons.inj e
          rw [List.mem_singleton] at hx
          rw [← e1, hx]
          exact Or.inr ⟨rfl, Nat.le_refl _⟩
    | false =>
      refine ⟨μ5, [], ?_, f5, e59, nt5, List.nodup_nil, fun x => ?_, fun c0 C' e => by cases e⟩
      · rw [ev, if_neg (by rw [q]; decide)]
      · constructor
        · exact fun z => absurd z List.not_mem_nil
        · rintro ⟨z1, z2, z3⟩
          have hp := pow_le12 hl
          have o1 : 1 ≤ onesN 12 x := by
            rcases z2 with ⟨z2, _⟩ | ⟨_, z2, _⟩
            · rw [q] at z2; cases z2
            · rw [ones_pbits, pbits_wide z1 hl]; exact z2
          have : x = 0 := by omega
          subst this
          exact absurd o1 (by decide)
  obtain ⟨μ6, C, s1, s2, s3, s4, s5⟩ := start
  have b6 := base.fr9 s2
  obtain ⟨μ7, C7, t1, t2, t3, t4⟩ := sets_ok b6 hN (many := 1) (by decide) (by decide) s4 s5
  have b7 := b6.fr t2
  obtain ⟨μ8, C8, u1, u2, u3, u4⟩ := sets_ok b7 hN (many := 2) (by decide) (by decide) t3 t4
  have b8 := b7.fr u2
  obtain ⟨μ9, C9, v1, v2, v3, v4⟩ := sets_ok b8 hN (many := 3) (by decide) (by decide) u3 u4
  have b9 := b8.fr v2
  have hs9 := sight_at b9.1 j hj10
  have f69 : Fr (WT (213 + 8 * j)) μ6 μ9 := t2.trans (u2.trans v2)
  have f9 : Fr (W9 (213 + 8 * j)) μ μ9 := s2.trans (f69.mono (fun a k q => by unfold WT at q; unfold W9; omega))
  have shv : ∀ x, x ∈ sh → x < 3072 := fun x hx => by have := (hc.2 x hx).1; have := hS.nv6; omega
  have hH : ∀ i, i < 6 → xL μ9 1 i = xhold i := fun i hi => (f9.L (by unfold W9; omega)).trans (hS.1.2.2 i hi)
  obtain ⟨μ10, w1, w2, w3⟩ := clos_ok hs9 (by omega) (kd1 b9.1) hH (Q := fun u => ∃ x, x ∈ C9 ∧ vB sh x = u) v3.2.1 (fun u ⟨x, _, z⟩ => by rw [← z]; exact vB_lt shv)
  have f10 : Fr (W9 (213 + 8 * j)) μ μ10 := f9.trans (w2.mono (fun a k q => by unfold W9; omega))
  have covC : ∀ x, x ∈ C9 ↔ x < 2 ^ sh.length ∧ pCov K V (A j) E sh x := fun x => by
    rw [v4.2.1 x]
    constructor
    · rintro ⟨z1, z2, _⟩; exact ⟨z1, z2⟩
    · rintro ⟨z1, z2⟩
      refine ⟨z1, z2, ?_⟩
      rcases z2 with ⟨_, z2⟩ | ⟨_, _, z2, _⟩
      · subst z2
        have : onesN 12 0 = 0 := by decide
        omega
      · rw [ones_pbits, pbits_wide z1 hl]
        omega
  have hp := pow_le12 hl
  refine ⟨μ10, ?_, f10, ⟨hl, fun set hset => ?_, fun views hviews => ?_, ?_⟩, ?_⟩
  · rw [s1]
    unfold fS_lookThrough_59
    have stp : ∀ m μ', 1 ≤ m → m ≤ 3 → fS_lookThrough_L62 (213 + 8 * j) (12 + 5 * j) 3 188 (nI m) μ' = xwh (fun s : Int32 × xM => fS_lookThrough_L71 (213 + 8 * j) (12 + 5 * j) 3 188 (nI m) s.1 s.2) (xc 1, μ') := fun m μ' h1 h3 => by
      have c0 : ¬ xc 3 < nI m := nI_nlt (a := 3) h3 (by decide)
      simp only [fS_lookThrough_L62, c0, if_false]
    refine xwh_go (s' := (nI 2, μ7)) ((stp 1 μ6 (by decide) (by decide)).trans t1) (xwh_go (s' := (nI 3, μ8)) ((stp 2 μ7 (by decide) (by decide)).trans u1) (xwh_go (s' := (nI 4, μ9)) ((stp 3 μ8 (by decide) (by decide)).trans v1) (xwh_stop ?_)))
    simp only [fS_lookThrough_L62, show (xc 3 < nI 4) = True from by decide, if_true, w1, Option.map_some]
  · rw [w2.L (by omega)]
    show lb (xL μ9 (213 + 8 * j + 7) (set / 64)) (set % 64) = true ↔ _
    rw [v3.1 set hset, covC]
  · show lb (xL μ10 (213 + 8 * j) 5) views = true ↔ _
    rw [w3 views hviews]
    constructor
    · rintro ⟨w, ⟨x, x1, x2⟩, y⟩
      obtain ⟨z1, z2⟩ := (covC x).mp x1
      refine ⟨x, z1, z2, fun s hs' => ?_⟩
      apply y
      rw [← x2]
      exact vB_bit.mpr ⟨s, hs', rfl⟩
    · rintro ⟨x, z1, z2, z3⟩
      refine ⟨vB sh x, ⟨x, (covC x).mpr ⟨z1, z2⟩, rfl⟩, fun i hi => ?_⟩
      obtain ⟨s, h1, h2⟩ := vB_bit.mp hi
      rw [← h2]
      exact z3 s h1
  · rw [w2.I (show ¬ (213 + 8 * j = 213 + 8 * j ∧ 6 = 5) by omega), w2.I (show ¬ (213 + 8 * j = 213 + 8 * j ∧ 7 = 5) by omega)]
    rcases v3.2.2 with ⟨z1, z2, _⟩ | ⟨c0, C', z1, z2, z3⟩
    · refine Or.inl ⟨z2, fun set hset hcov => ?_⟩
      have := (covC set).mpr ⟨hset, hcov⟩
      rw [z1] at this
      exact absurd this List.not_mem_nil
    · have m0 : c0 ∈ C9 := by rw [z1]; exact List.mem_cons_self
      obtain ⟨y1, y2⟩ := (covC c0).mp m0
      refine Or.inr ⟨c0, y1, z2, y2, fun set hset hcov => ?_, C9.filter (fun x => decide (onesN 12 x = onesN 12 c0)), ?_, fun set => ?_, z3⟩
      · rw [← ones_pbits, ← ones_pbits]
        exact v4.2.2 c0 C' z1 set ((covC set).mpr ⟨hset, hcov⟩)
      · exact List.Nodup.sublist List.filter_sublist v4.1
      · rw [List.mem_filter, covC, decide_eq_true_eq, ← ones_pbits, ← ones_pbits, and_assoc]
  · rw [w2.I (by omega), f69.I (by unfold WT; omega)]
    exact s3
theorem look_sim (hS : SimA L xs μ A V na nv T K kb gb) {j : Nat} (hj : j < na) : ∃ μ1, fS_look (213 + 8 * j) (12 + 5 * j) 3 μ = some μ1 ∧ SimA L xs μ1 A V na nv T K kb gb ∧ Fr (fun a _ => 213 + 8 * j ≤ a ∧ a < 213 + 8 * j + 8) μ μ1 ∧ SeenOK μ1 (213 + 8 * j) K nv V (A j) ∧ xI μ1 (213 + 8 * j) 8 = 1 := by
  have hh := hS.sh
  have hn := hS.na10
  have hj10 : j < 10 := by omega
  obtain ⟨μ1, s1, s2⟩ := seen_ok hS hj
  have ev : fX_seen 2 (nI j) μ = (fS_look (213 + 8 * j) (12 + 5 * j) 3 μ).bind fun r7 => (ldFR r7 2 0 6).bind fun x8 => (ldAR r7 x8 (nI j)).bind fun x9 => some ((x9, r7)) := by
    simp only [fX_seen, fX_seen_0, gd2 hh, g2_6 hh, ar_sight hh hj10, g2_0 hh, g3_8 hh, ar_ask hh hj10, Option.bind_some]
  rw [ev] at s1
  cases h : fS_look (213 + 8 * j) (12 + 5 * j) 3 μ with
  | none => rw [h] at s1; cases s1
  | some r7 =>
    rw [h, Option.bind_some] at s1
    cases h1 : ldFR r7 2 0 6 with
    | none => rw [h1] at s1; cases s1
    | some x8 =>
      rw [h1, Option.bind_some] at s1
      cases h2 : ldAR r7 x8 (nI j) with
      | none => rw [h2] at s1; cases s1
      | some x9 =>
        rw [h2, Option.bind_some] at s1
        have e := (Prod.mk.inj (Option.some.inj s1)).2
        exact ⟨μ1, by rw [e], s2⟩
theorem thr_ok (hS : SimA L xs μ A V na nv T K kb gb) {j : Nat} (hj : j < na) : ∃ μ1, fX_seenThrough 2 (nI j) μ = some (213 + 8 * j, μ1) ∧ SimA L xs μ1 A V na nv T K kb gb ∧ Fr (fun a _ => 188 ≤ a ∧ a < 193 ∨ 213 + 8 * j ≤ a ∧ a < 213 + 8 * j + 8) μ μ1 ∧ SeenOK μ1 (213 + 8 * j) K nv V (A j) ∧ xI μ1 (213 + 8 * j) 8 = 1 ∧ ((pShows (pEnd K (A j)) V nv).length ≤ 12 → ThroughOK μ1 (213 + 8 * j) K nv V (A j)) := by
  have hh := hS.sh
  have hn := hS.na10
  have hj10 : j < 10 := by omega
  obtain ⟨μ1, l1, l2, l3, l4, l5⟩ := look_sim hS hj
  have h1 := l2.sh
  have hs := sight_at h1 j hj10
  have ev : ∀ μ2, fS_lookThrough (213 + 8 * j) (12 + 5 * j) 3 188 μ1 = some μ2 → Sh μ2 → fX_seenThrough 2 (nI j) μ = some (213 + 8 * j, μ2) := fun μ2 e k2 => by
    simp only [fX_seenThrough, fX_seenThrough_0, gd2 hh, g2_6 hh, ar_sight hh hj10, g2_0 hh, g3_8 hh, ar_ask hh hj10, Option.bind_some, l1, g2_6 h1, ar_sight h1 hj10, g2_0 h1, g3_8 h1, ar_ask h1 hj10, g2_7 h1, e, g2_6 k2, ar_sight k2 hj10]
  have f1 : Fr (fun a _ => 188 ≤ a ∧ a < 193 ∨ 213 + 8 * j ≤ a ∧ a < 213 + 8 * j + 8) μ μ1 := l3.mono (fun a k q => Or.inr q)
  have two : (xI μ1 (213 + 8 * j) 9 = 0) ∨ (xI μ1 (213 + 8 * j) 9 = 1 ∧ ThroughOK μ1 (213 + 8 * j) K nv V (A j)) := by
    rcases l2.2.2.2.2.2.2.2.2 j hj10 with ⟨z, _⟩ | ⟨_, _, _, z⟩
    · rw [l5] at z; exact absurd z (by decide)
    · exact z
  rcases two with e9 | ⟨e9, z⟩
  · by_cases hl : (pShows (pEnd K (A j)) V nv).length ≤ 12
    · obtain ⟨μ2, t1, t2, t3, t4⟩ := through_ok l2 hj l4 hl e9
      have h2 := t2.sh h1
      obtain ⟨o, hH, hP, hC, hB, hT, hF, hI, hSS⟩ := l2
      have sn2 : SeenOK μ2 (213 + 8 * j) K nv V (A j) := by
        obtain ⟨p1, p2, p3, p4, p5⟩ := l4
        refine ⟨p1.fr (fun b k q r => t2.I (by unfold W9; omega)), (t2.I (by unfold W9; omega)).trans p2, (t2.I (by unfold W9; omega)).trans p3, (t2.I (by unfold W9; omega)).trans p4, fun z => ⟨(t2.I (by unfold W9; omega)).trans (p5 z).1, fun i hi => (t2.I (by unfold W9; omega)).trans ((p5 z).2 i hi)⟩⟩
      have e8 : xI μ2 (213 + 8 * j) 8 = 1 := (t2.I (by unfold W9; omega)).trans l5
      refine ⟨μ2, ev μ2 t1 h2, ⟨o.fr t2 (fun a k q => by unfold W9; omega), hH.fr t2 (fun a k q => by unfold FH FMo at q; unfold W9; omega), hP.fr t2 (fun a k q => by unfold FP at q; unfold W9; omega), hC.fr t2 (fun a k q => by unfold FC at q; unfold W9; omega), hB.fr t2 (fun a k q => by unfold FB at q; unfold W9; omega), hT.fr t2 (fun a k q => by unfold FT at q; unfold W9; omega), hF.fr t2 (fun a k q => by unfold FF at q; unfold W9; omega), hI.fr t2 (fun a k q => by unfold FI at q; unfold W9; omega), fun i hi => ?_⟩, f1.trans (t2.mono (fun a k q => by unfold W9 at q; omega)), sn2, e8, fun _ => t3⟩
      by_cases e : i = j
      · subst e
        exact Or.inr ⟨hj, e8, sn2, Or.inr ⟨t4, t3⟩⟩
      · have fi : ∀ b k, 213 + 8 * i ≤ b → b < 213 + 8 * i + 8 → ¬ W9 (213 + 8 * j) b k := fun b k q r => by unfold W9; omega
        rw [t2.I (fi _ 8 (by omega) (by omega)), t2.I (fi _ 9 (by omega) (by omega))]
        rcases hSS i hi with y | ⟨y0, y1, y2, y3⟩
        · exact Or.inl y
        · refine Or.inr ⟨y0, y1, y2.fr (fun b k q r => t2.I (fi b k q (by omega))), ?_⟩
          rcases y3 with y3 | ⟨y3, y4⟩
          · exact Or.inl y3
          · exact Or.inr ⟨y3, y4.fr (fun b k q r => t2.I (fi b k q r)) (fun b k q r => t2.L (fi b k q r))⟩
    · refine ⟨μ1, ev μ1 ?_ h1, l2, f1, l4, l5, fun z => absurd z hl⟩
      have e3 : ¬ xI μ1 (213 + 8 * j) 3 = 0 := by rw [l4.2.2.2.1, if_pos (by omega)]; decide
      simp only [fS_lookThrough, fS_lookThrough_0, gd_k (ci := 6) hs.2.1, sf hs, e9, if_true, Option.bind_some, e3, if_false]
  · refine ⟨μ1, ev μ1 ?_ h1, l2, f1, l4, l5, fun _ => z⟩
    have e9' : ¬ xI μ1 (213 + 8 * j) 9 = 0 := by rw [e9]; decide
    simp only [fS_lookThrough, fS_lookThrough_0, gd_k (ci := 6) hs.2.1, sf hs, Option.bind_some, e9', if_false]
end THR2
