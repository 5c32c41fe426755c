section PLANB
/-- the first cover that has an order -/
def BestOrd (CL : List Nat) (R : Nat → Int32) (r d : Int32) : Prop := (∃ b, b ∈ CL ∧ 0 ≤ R b ∧ r = R b ∧ ∀ x, x ∈ CL → 0 ≤ R x → onesN 12 b < onesN 12 x ∨ onesN 12 b = onesN 12 x ∧ b ≤ x) ∨ ((∀ x, x ∈ CL → ¬ 0 ≤ R x) ∧ r = d)
theorem bestOrd_uni {CL : List Nat} {R R' : Nat → Int32} {r r' d : Int32} (e : ∀ x, x ∈ CL → R x = R' x ∨ (R x < 0 ∧ R' x < 0)) (h : BestOrd CL R r d) (h' : BestOrd CL R' r' d) : r = r' := by
  have pos : ∀ x, x ∈ CL → 0 ≤ R x → R x = R' x := fun x hx p => (e x hx).resolve_right (fun z => absurd z.1 (Int32.not_lt.mpr p))
  have pos' : ∀ x, x ∈ CL → 0 ≤ R' x → R x = R' x := fun x hx p => (e x hx).resolve_right (fun z => absurd z.2 (Int32.not_lt.mpr p))
  rcases h with ⟨b, h1, h2, h3, h4⟩ | ⟨h1, h2⟩
  · rcases h' with ⟨c, k1, k2, k3, k4⟩ | ⟨k1, k2⟩
    · have x := h4 c k1 (by rw [pos' c k1 k2]; exact k2)
      have y := k4 b h1 (by rw [← pos b h1 h2]; exact h2)
      have e : b = c := by omega
      rw [h3, k3, e, pos' c k1 k2]
    · exact absurd (by rw [← pos b h1 h2]; exact h2) (k1 b h1)
  · rcases h' with ⟨c, k1, k2, k3, k4⟩ | ⟨k1, k2⟩
    · exact absurd (by rw [pos' c k1 k2]; exact k2) (h1 c k1)
    · rw [h2, k2]
theorem xbest_ok {μ : xM} {s n : Nat} {gb : Nat} (h : IsSight μ s) (hn : n ≤ 12) (e2 : xI μ s 2 = nI n) {CL : List Nat} (hc : ∀ x, x < 4096 → ((x < 2 ^ n ∧ lb (xL μ (s + 7) (x / 64)) (x % 64) = true) ↔ x ∈ CL)) (hC : ∀ x, x ∈ CL → x < 2 ^ n ∧ onesN 12 x ≤ 3) {R : Nat → Int32} (hR : ∀ x, x ∈ CL → fS_orderOf s (nI x) (nI gb) μ = some (R x)) : ∃ r, fS_bestPlan s (nI gb) μ = some r ∧ BestOrd CL R r (xc (-9)) := by
  have hp := pow_le12 hn
  have p1 : 1 ≤ 2 ^ n := Nat.one_le_two_pow
  unfold fS_bestPlan fS_bestPlan_0
  rw [gd_k (ci := 6) h.2.1]
  have many : ∀ m, m ≤ 3 → (∀ x, x ∈ CL → 0 ≤ R x → m ≤ onesN 12 x) → ∃ a, xwh (fun z : Int32 => fS_bestPlan_L9 s (nI gb) (nI m) z μ) (xc 0) = some a ∧ ((∃ r, a = .inr r ∧ BestOrd CL R r (xc (-9))) ∨ (a = .inl (nI (m + 1)) ∧ ∀ x, x ∈ CL → 0 ≤ R x → m + 1 ≤ onesN 12 x)) := fun m hm h0 => by
    refine xwh_inv (body := fun z : Int32 => fS_bestPlan_L9 s (nI gb) (nI m) z μ) (fun i z => z = nI i ∧ ∀ x, x ∈ CL → 0 ≤ R x → m + 1 ≤ onesN 12 x ∨ m = onesN 12 x ∧ i ≤ x) _ (2 ^ n) ?_ ?_ (2 ^ n) 0 _ (by omega) ⟨rfl, fun x h1 h2 => by have := h0 x h1 h2; omega⟩
    · rintro i z hi ⟨rfl, I⟩
      have c0 : ¬ nI (2 ^ n) ≤ nI i := nI_ge hi (by omega)
      have bc := bitc_ok (n := i) (by omega) μ
      have o1 := onesN_le 12 i
      have ic := isCoverC_ok h hn e2 (set := i) (by omega)
      have nx : ¬ (i ∈ CL ∧ 0 ≤ R i ∧ onesN 12 i = m) → ∀ x, x ∈ CL → 0 ≤ R x → m + 1 ≤ onesN 12 x ∨ m = onesN 12 x ∧ i + 1 ≤ x := fun q x h1 h2 => by
        rcases I x h1 h2 with y | ⟨y, z⟩
        · exact Or.inl y
        · by_cases e : x = i
          · subst e; exact absurd ⟨h1, h2, y.symm⟩ q
          · exact Or.inr ⟨y, by omega⟩
      have e44 : fS_bestPlan_44 s (nI gb) (nI m) (nI i) μ = some (.inl (nI (i + 1))) := by
        simp only [fS_bestPlan_44, fS_bestPlan_46, show (xc (-9) < 0) = True from by decide, if_true, inc1]
      by_cases q1 : onesN 12 i = m
      · have q1' : nI (onesN 12 i) = nI m := by rw [q1]
        by_cases q2 : i ∈ CL
        · have icq : fS_isCover s (nI i) μ = some (xc 1) := by rw [ic, if_pos ((hc i (by omega)).mpr q2)]
          by_cases q3 : R i < 0
          · left
            refine ⟨nI (i + 1), ?_, rfl, nx (fun z => absurd q3 (Int32.not_lt.mpr z.2.1))⟩
            simp only [fS_bestPlan_L9, sf h, e2, Option.bind_some, nI_bit (show n < 32 by omega), c0, if_false, bc, eq_true q1', if_true, icq, xc1F, hR i q2, fS_bestPlan_46, q3, inc1]
          · right
            have q3' : 0 ≤ R i := Int32.not_lt.mp q3
            refine ⟨.inr (R i), ?_, Or.inl ⟨R i, rfl, Or.inl ⟨i, q2, q3', rfl, fun x h1 h2 => ?_⟩⟩⟩
            · simp only [fS_bestPlan_L9, sf h, e2, Option.bind_some, nI_bit (show n < 32 by omega), c0, if_false, bc, eq_true q1', if_true, icq, xc1F, hR i q2, fS_bestPlan_46, q3, fS_bestPlan_53, Option.map_some]
            · have := I x h1 h2
              omega
        · left
          have icq : fS_isCover s (nI i) μ = some (xc 0) := by rw [ic, if_neg (fun z => q2 ((hc i (by omega)).mp z))]
          refine ⟨nI (i + 1), ?_, rfl, nx (fun z => q2 z.1)⟩
          simp only [fS_bestPlan_L9, sf h, e2, Option.bind_some, nI_bit (show n < 32 by omega), c0, if_false, bc, eq_true q1', if_true, icq, xc0T, e44]
      · left
        have q1' : ¬ nI (onesN 12 i) = nI m := fun z => q1 (nI_inj (by omega) (by omega) z)
        refine ⟨nI (i + 1), ?_, rfl, nx (fun z => q1 z.2.2)⟩
        simp only [fS_bestPlan_L9, sf h, e2, Option.bind_some, nI_bit (show n < 32 by omega), c0, if_false, bc, eq_false q1', e44]
    · rintro z ⟨rfl, I⟩
      refine ⟨.inl (nI (m + 1)), ?_, Or.inr ⟨rfl, fun x h1 h2 => ?_⟩⟩
      · simp only [fS_bestPlan_L9, sf h, e2, Option.bind_some, nI_bit (show n < 32 by omega), Int32.le_refl, if_true, fS_bestPlan_62, Option.map_some, inc1]
      · have := I x h1 h2
        have := (hC x h1).1
        omega
  refine xwh_inv (body := fun z : Int32 => fS_bestPlan_L2 s (nI gb) z μ) (fun m z => z = nI m ∧ ∀ x, x ∈ CL → 0 ≤ R x → m ≤ onesN 12 x) _ 4 ?_ ?_ 4 0 _ (by omega) ⟨rfl, fun x _ _ => Nat.zero_le _⟩
  · rintro m z hm ⟨rfl, I⟩
    have c0 : ¬ xc 3 < nI m := nI_nlt (a := 3) (b := m) (by omega) (by decide)
    obtain ⟨a, a1, a2⟩ := many m (by omega) I
    rcases a2 with ⟨r, rfl, a3⟩ | ⟨rfl, a3⟩
    · right
      refine ⟨r, ?_, a3⟩
      simp only [fS_bestPlan_L2, c0, if_false]
      exact a1
    · left
      refine ⟨nI (m + 1), ?_, rfl, a3⟩
      simp only [fS_bestPlan_L2, c0, if_false]
      exact a1
  · rintro z ⟨rfl, I⟩
    have c0 : xc 3 < nI 4 := by decide
    refine ⟨xc (-9), ?_, Or.inr ⟨fun x h1 h2 => ?_, rfl⟩⟩
    · simp only [fS_bestPlan_L2, c0, if_true, fS_bestPlan_68, Option.map_some]
    · have := I x h1 h2
      have := (hC x h1).2
      omega
theorem mplan_ok {μ : xM} (hh : Sh μ) {CL : List Nat} (hC : CovsM μ CL) (hs : Srt CL) (hl : CL.length ≤ 299) (hb : ∀ x, x ∈ CL → x < 4096) {R : Nat → Int32} (hR : ∀ x, x ∈ CL → fM_orderOf 293 (nI x) μ = some (R x)) : ∃ r, xwh (fun z : Int32 × Int32 => fM_plan_L33 293 z.1 z.2 μ) (xc (-1), xc 0) = some (r, μ) ∧ BestOrd CL R r (xc (-9)) := by
  have goal : ∃ a, xwh (fun z : Int32 × Int32 => fM_plan_L33 293 z.1 z.2 μ) (xc (-1), xc 0) = some a ∧ a.2 = μ ∧ BestOrd CL R a.1 (xc (-9)) := by
    refine xwh_inv (body := fun z : Int32 × Int32 => fM_plan_L33 293 z.1 z.2 μ) (fun c z => z.2 = nI c ∧ ((∃ b, b ∈ CL.take c ∧ z.1 = nI b ∧ 0 ≤ R b ∧ ∀ x, x ∈ CL.take c → 0 ≤ R x → onesN 12 b < onesN 12 x ∨ onesN 12 b = onesN 12 x ∧ b ≤ x) ∨ (z.1 = xc (-1) ∧ ∀ x, x ∈ CL.take c → ¬ 0 ≤ R x))) _ CL.length ?_ ?_ CL.length 0 _ (by omega) ⟨rfl, Or.inr ⟨rfl, fun x hx => absurd hx List.not_mem_nil⟩⟩
    · rintro c ⟨b, y⟩ hc ⟨rfl, I⟩
      left
      dsimp only at I
      have c0 : ¬ nI CL.length ≤ nI c := nI_ge hc (by omega)
      have mc := getD_memD (d := 0) hc
      have hx := hb _ mc
      have tC : ldA μ 327 (nI c) = some (nI (CL.getD c 0)) := by rw [la327 hh (by omega), hC.2 c hc]
      have tk := take_succD CL c 0 hc
      have mem : ∀ x, x ∈ CL.take (c + 1) ↔ x ∈ CL.take c ∨ x = CL.getD c 0 := fun x => by rw [tk, List.mem_append, List.mem_singleton]
      have bef : ∀ x, x ∈ CL.take c → x < CL.getD c 0 := fun x hx => by
        have ap := List.take_append_drop c CL
        have hs' : (CL.take c ++ CL.drop c).Pairwise (· < ·) := by rw [ap]; exact hs
        have md : CL.getD c 0 ∈ CL.drop c := by rw [drop_succD 0 hc]; exact List.mem_cons_self
        exact (List.pairwise_append.mp hs').2.2 x hx _ md
      have on1 := ones_ok (f := 12) (n := CL.getD c 0) (by omega) (by decide) μ
      have o1 := onesN_le 12 (CL.getD c 0)
      have ev := hR _ mc
      generalize hx0 : CL.getD c 0 = x0 at *
      -- a step that keeps the best
      have keep : ∀ b', (∀ z, z ∈ CL.take c → 0 ≤ R z → True) → fM_plan_76 293 b' (nI c) μ = some (.inl (b', nI (c + 1))) := fun b' _ => by
        simp only [fM_plan_76, fM_plan_77, inc1]
      rcases I with ⟨b0, i1, rfl, i3, i4⟩ | ⟨rfl, i2⟩
      · have b0x := bef b0 i1
        have on2 := ones_ok (f := 12) (n := b0) (by omega) (by decide) μ
        have o2 := onesN_le 12 b0
        have bp : ¬ nI b0 < 0 := nI_pos (by omega)
        by_cases q1 : onesN 12 x0 < onesN 12 b0
        · have q1' : ¬ nI (onesN 12 b0) ≤ nI (onesN 12 x0) := nI_ge q1 (by omega)
          by_cases q2 : R x0 < 0
          · refine ⟨(nI b0, nI (c + 1)), ?_, rfl, Or.inl ⟨b0, (mem b0).mpr (Or.inl i1), rfl, i3, fun x hx hp => ?_⟩⟩
            · simp only [fM_plan_L33, f293 hh, hC.1, Option.bind_some, c0, if_false, g293_53 hh, tC, fM_isBetter, fM_isBetter_0, bp, on1, on2, q1', fM_isBetter_15, xc1F, ev, q2, if_true, fM_plan_76, fM_plan_77, inc1]
            · rcases (mem x).mp hx with z | z
              · exact i4 x z hp
              · rw [z] at hp; exact absurd q2 (Int32.not_lt.mpr hp)
          · refine ⟨(nI x0, nI (c + 1)), ?_, rfl, Or.inl ⟨x0, (mem x0).mpr (Or.inr rfl), rfl, Int32.not_lt.mp q2, fun x hx hp => ?_⟩⟩
            · simp only [fM_plan_L33, f293 hh, hC.1, Option.bind_some, c0, if_false, g293_53 hh, tC, fM_isBetter, fM_isBetter_0, bp, on1, on2, q1', fM_isBetter_15, xc1F, ev, q2, fM_plan_77, inc1]
            · rcases (mem x).mp hx with z | z
              · have := i4 x z hp; omega
              · subst z; omega
        · have q1' : nI (onesN 12 b0) ≤ nI (onesN 12 x0) := nI_le (by omega) (by omega)
          refine ⟨(nI b0, nI (c + 1)), ?_, rfl, Or.inl ⟨b0, (mem b0).mpr (Or.inl i1), rfl, i3, fun x hx hp => ?_⟩⟩
          · simp only [fM_plan_L33, f293 hh, hC.1, Option.bind_some, c0, if_false, g293_53 hh, tC, fM_isBetter, fM_isBetter_0, bp, on1, on2, q1', if_true, xc0T, fM_plan_76, fM_plan_77, inc1]
          · rcases (mem x).mp hx with z | z
            · exact i4 x z hp
            · subst z; omega
      · have bn : (xc (-1) < 0) = True := by decide
        by_cases q2 : R x0 < 0
        · refine ⟨(xc (-1), nI (c + 1)), ?_, rfl, Or.inr ⟨rfl, fun x hx hp => ?_⟩⟩
          · simp only [fM_plan_L33, f293 hh, hC.1, Option.bind_some, c0, if_false, g293_53 hh, tC, fM_isBetter, fM_isBetter_0, bn, if_true, fM_isBetter_15, xc1F, ev, q2, fM_plan_76, fM_plan_77, inc1]
          · rcases (mem x).mp hx with z | z
            · exact i2 x z hp
            · rw [z] at hp; exact absurd q2 (Int32.not_lt.mpr hp)
        · refine ⟨(nI x0, nI (c + 1)), ?_, rfl, Or.inl ⟨x0, (mem x0).mpr (Or.inr rfl), rfl, Int32.not_lt.mp q2, fun x hx hp => ?_⟩⟩
          · simp only [fM_plan_L33, f293 hh, hC.1, Option.bind_some, c0, if_false, g293_53 hh, tC, fM_isBetter, fM_isBetter_0, bn, if_true, fM_isBetter_15, xc1F, ev, q2, fM_plan_77, inc1]
          · rcases (mem x).mp hx with z | z
            · exact absurd hp (i2 x z)
            · subst z; omega
    · rintro ⟨b, y⟩ ⟨rfl, I⟩
      rw [List.take_length] at I
      dsimp only at I
      rcases I with ⟨b0, i1, rfl, i3, i4⟩ | ⟨rfl, i2⟩
      · have bp : (0 : Int32) ≤ nI b0 := nI_pos' (by have := hb _ i1; omega)
        refine ⟨(R b0, μ), ?_, rfl, Or.inl ⟨b0, i1, i3, rfl, i4⟩⟩
        simp only [fM_plan_L33, f293 hh, hC.1, Option.bind_some, Int32.le_refl, if_true, fM_plan_84, bp, hR b0 i1, Option.map_some]
      · have bp : ¬ (0 : Int32) ≤ xc (-1) := by decide
        refine ⟨(xc (-9), μ), ?_, rfl, Or.inr ⟨i2, rfl⟩⟩
        simp only [fM_plan_L33, f293 hh, hC.1, Option.bind_some, Int32.le_refl, if_true, fM_plan_84, bp, if_false, Option.map_some]
  obtain ⟨⟨r, μ1⟩, g1, rfl, g2⟩ := goal
  exact ⟨r, g1, g2⟩
variable {L : Nat} {xs : Nat → Int32} {μ : xM}
theorem sim_plan (a1 : Int32) (hS : Sim L xs μ) : SimR L xs (fX_plan 2 a1 μ) (fun μ => fM_plan 293 a1 μ) := by
  obtain ⟨A, V, na, nv, T, K, kb, gb, hA⟩ := simA_iff.mp hS
  have hh := hS.sh
  have hn := hA.na10
  have n6 := hA.nv6
  have all := hA.all
  rcases off_or na (by omega) a1 with q | ⟨j, hj, rfl⟩
  · refine sim_refuse 1 hS (by decide) (by decide) ?_ (fun μ1 h1 h2 => ?_)
    · simp only [fX_plan, fX_plan_0, gd2 hh, xspent_no hh all.2.1.2.2.1 q, Option.bind_some, m1F, if_false, bind_eta]
      rfl
    · simp only [fM_plan, fM_plan_0, gd293 h1, mask_no h1 ((h2 _ _ (by decide)).trans all.2.2.1.1) (by omega) q, Option.bind_some, xc0T, if_true, bind_eta]
      rfl
  · have ma : ∀ z, Sh z → xI z 293 8 = nI na → fM_isAsk 293 (nI j) z = some (xc 1) := fun z hz e => mask_yes hz e (by omega) hj
    obtain ⟨μ1, s1, s2, s3, s4, s5⟩ := xspent_ok hA hj
    have h1 := s1.sh
    have hm1 := s1.all.2.2.1.1
    by_cases q : 12 < (pShows (pEnd K (A j)) V nv).length
    · rw [if_pos q] at s5
      refine sim_refuse2 5 s1.sim (by decide) (by decide) ?_ (fun μ2 h1' h2' => ?_)
      · simp only [fX_plan, fX_plan_0, gd2 hh, s5, Option.bind_some, m5F, if_false, bind_eta]
        rfl
      · obtain ⟨r, μ3, m1, m2, m3⟩ := mCovers_ok (s1.mside.eq h1' h2') hj
        rcases m3 with ⟨m3, _⟩ | ⟨_, m3, _⟩
        · refine ⟨μ3, m2.mono (fun a k q => WFC_scr q), ?_⟩
          simp only [fM_plan, fM_plan_0, gd293 h1', ma μ2 h1' ((h2' _ _ (by decide)).trans hm1), Option.bind_some, xc1F, if_false, m1, m3, xc0T, if_true, bind_eta]
          rfl
        · exact absurd q (by omega)
    · rw [if_neg q] at s5
      have hl : (pShows (pEnd K (A j)) V nv).length ≤ 12 := by omega
      have hp := pow_le12 hl
      obtain ⟨μ2, t1, t2, t3, t4, t5, t6⟩ := thr_ok s1 hj
      have h2 := t2.sh
      have hs := sight_at h2 j (by omega)
      have th := t6 hl
      obtain ⟨r, μ3, m1, m2, m3⟩ := mCovers_ok t2.mside hj
      rcases m3 with ⟨_, m3⟩ | ⟨m3, _, qb, CL, c1, c2, c3⟩
      · exact absurd m3 q
      · subst m3
        have e35 : xI μ2 3 5 = nI gb := t2.all.2.1.2.2.2.2.2
        have gbl : gb < 2 ^ 31 := Nat.lt_of_lt_of_le t2.all.1.2.2.2.2.2.1 (Nat.pow_le_pow_right (by decide) (by omega))
        have seen := t4.2.2.2.2 hl
        have hF : FoundS μ2 (213 + 8 * j) (pShows (pEnd K (A j)) V nv) := ⟨hl, seen.1, seen.2⟩
        have hC := shC t2 hj hl
        have hg : HG μ3 nv gb := fun v hv => (m2.I (by unfold WFC; omega)).trans (t2.all.2.2.2.2.2.2.1 v hv)
        have ord : ∀ x, x ∈ CL → ∃ r r', fS_orderOf (213 + 8 * j) (nI x) (nI gb) μ2 = some r ∧ fM_orderOf 293 (nI x) μ3 = some r' ∧ (r = r' ∨ (r < 0 ∧ r' < 0)) := fun x hx => by
          have hx2 := (c2 x).mp hx
          exact order_ok hs hF hC n6 qb.1 hg gbl hx2.1 (cov3 hl hx2.1 hx2.2)
        obtain ⟨r1, x1, x2⟩ := xbest_ok (R := fun x => (fS_orderOf (213 + 8 * j) (nI x) (nI gb) μ2).getD 0) (gb := gb) hs hl seen.1 (CL := CL) (fun x hx => by
          rw [c2]
          have := th.2.1 x hx
          exact ⟨fun z => this.mp z.2, fun z => ⟨z.1, this.mpr z⟩⟩) (fun x hx => by
          have hx2 := (c2 x).mp hx
          exact ⟨hx2.1, cov3 hl hx2.1 hx2.2⟩) (fun x hx => by obtain ⟨r, r', o1, _⟩ := ord x hx; rw [o1]; rfl)
        obtain ⟨r2, y1, y2⟩ := mplan_ok (R := fun x => (fM_orderOf 293 (nI x) μ3).getD 0) qb.1.1 c3 c1 (cl_len hl c1 c2) (fun x hx => by have := ((c2 x).mp hx).1; omega) (fun x hx => by obtain ⟨r, r', _, o1, _⟩ := ord x hx; rw [o1]; rfl)
        have er : r1 = r2 := bestOrd_uni (fun x hx => by obtain ⟨r, r', o1, o2, o3⟩ := ord x hx; rw [o1, o2]; exact o3) x2 y2
        subst er
        refine sim_ans (r := r1) (μ2 := μ3) t2.sim ?_ ?_ (m2.mono (fun a k q => WFC_scr q))
        · simp only [fX_plan, fX_plan_0, gd2 hh, s5, Option.bind_some, xc0T, if_true, t1, g2_0 h2, f3 h2, e35, x1]
        · simp only [fM_plan, fM_plan_0, gd293 h2, ma μ2 h2 t2.all.2.2.1.1, Option.bind_some, xc1F, if_false, m1]
          exact y1
end PLANB
