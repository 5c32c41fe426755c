/-! cover, covers, may -/
section COVER
variable {L : Nat} {xs : Nat → Int32} {μ : xM} {A V : Nat → xPic} {na nv T K kb gb : Nat}
theorem Tells.if0 {v : Int32} {p : Prop} (h : Tells v p) : (v = 0 ↔ ¬ p) := by
  rcases h with ⟨e, h⟩ | ⟨e, h⟩
  · rw [e]; exact ⟨fun z => absurd z (by decide), fun z => absurd h z⟩
  · rw [e]; exact ⟨fun _ => h, fun _ => rfl⟩
/-- the class's word on views that hold a cover, and the reference's -/
theorem covered_iff {μ1 : xM} {s : Nat} {a : xPic} {CL : List Nat} (t : ThroughOK μ1 s K nv V a) (c2 : ∀ x, x ∈ CL ↔ x < 2 ^ (pShows (pEnd K a) V nv).length ∧ pCov K V a (pEnd K a) (pShows (pEnd K a) V nv) x) {u : Nat} (hu : u < 64) : lb (xL μ1 s 5) u = true ↔ coveredBy (pShows (pEnd K a) V nv) CL u := by
  refine (t.2.2.1 u hu).trans ?_
  unfold coveredBy pViewsIn
  constructor
  · rintro ⟨x, h1, h2, h3⟩
    refine ⟨x, (c2 x).mpr ⟨h1, h2⟩, fun i hi => ?_⟩
    obtain ⟨y, y1, y2⟩ := vB_bit.mp hi
    rw [← y2]; exact h3 y y1
  · rintro ⟨x, h1, h2⟩
    obtain ⟨z1, z2⟩ := (c2 x).mp h1
    exact ⟨x, z1, z2, fun y hy => h2 _ (vB_bit.mpr ⟨y, hy, rfl⟩)⟩
theorem xcovBy_ok {s : Nat} (h : IsSight μ s) {u : Nat} (hu : u < 64) : fS_isCoveredBy s (nI u) μ = some (if lb (xL μ s 5) u = true then xc 1 else xc 0) := by
  have l5 : ldFL μ s 6 5 = some (xL μ s 5) := ldFL_k (ci := 6) 5 h.2.1
  have um : u % 64 = u := Nat.mod_eq_of_lt hu
  have lt := lbit_test (xL μ s 5) (k := u) (by omega)
  rw [um] at lt
  by_cases q : lb (xL μ s 5) u = true
  · have c : ¬ lg_cmp ((xL μ s 5 >>> (Int32.toInt64 (nI u) &&& 63)) &&& Int64.ofNat 1) (Int64.ofNat 0) = 0 := fun z => by rw [lt, q] at z; cases z
    rw [if_pos q]
    simp only [fS_isCoveredBy, fS_isCoveredBy_0, gd_k (ci := 6) h.2.1, l5, Option.bind_some, c, if_false]
  · have c := lt.mpr (by simpa using q)
    rw [if_neg q]
    simp only [fS_isCoveredBy, fS_isCoveredBy_0, gd_k (ci := 6) h.2.1, l5, Option.bind_some, c, if_true]
theorem ush12 : ∀ n, n < 13 → (((nI n).toUInt32 &&& Int32.toUInt32 31).toBitVec % 32).toNat = n := by decide +kernel
/-- sets of views or shows -/
theorem ushr0 {v : Int32} {n : Nat} (hn : n ≤ 12) : (xshr v (nI n) = 0 ∧ ∃ u, u < 2 ^ n ∧ v = nI u) ∨ (¬ xshr v (nI n) = 0 ∧ Off (2 ^ n) v) := by
  have hp := pow_le12 hn
  have e : (xshr v (nI n)).toBitVec.toNat = v.toBitVec.toNat / 2 ^ n := pk_ushr v (nI n) n (ush12 n (by omega))
  have z : xshr v (nI n) = 0 ↔ v.toBitVec.toNat < 2 ^ n := by
    constructor
    · intro h
      rw [h] at e
      have e' : (0 : Nat) = v.toBitVec.toNat / 2 ^ n := e
      exact Nat.lt_of_div_eq_zero (Nat.two_pow_pos n) e'.symm
    · intro h
      apply Int32.toBitVec_inj.mp
      apply BitVec.eq_of_toNat_eq
      rw [e, Nat.div_eq_of_lt h]
      rfl
  rcases off_or (2 ^ n) (by omega) v with h | ⟨u, hu, rfl⟩
  · right
    refine ⟨fun w => ?_, h⟩
    have lt := z.mp w
    have ev : v = nI v.toBitVec.toNat := by
      apply Int32.toBitVec_inj.mp
      apply BitVec.eq_of_toNat_eq
      rw [pk_tn (by omega)]
    rw [ev] at h
    exact off_not (by omega) lt h
  · left
    refine ⟨z.mpr ?_, u, hu, rfl⟩
    rw [pk_tn (by omega)]
    exact hu
theorem xareViews_ok (hh : Sh μ) (e : xI μ 3 3 = nI nv) (n6 : nv ≤ 6) (v : Int32) : (fX_areViews 2 v μ = some (xc 1) ∧ ∃ u, u < 2 ^ nv ∧ v = nI u) ∨ (fX_areViews 2 v μ = some (xc 0) ∧ Off (2 ^ nv) v) := by
  rcases ushr0 (v := v) (n := nv) (by omega) with ⟨h1, h2⟩ | ⟨h1, h2⟩
  · refine Or.inl ⟨?_, h2⟩
    simp only [fX_areViews, fX_areViews_0, gd2 hh, g2_0 hh, f3 hh, e, Option.bind_some, h1, if_true]
  · refine Or.inr ⟨?_, h2⟩
    simp only [fX_areViews, fX_areViews_0, gd2 hh, g2_0 hh, f3 hh, e, Option.bind_some, h1, if_false]
theorem mareViews_ok (hh : Sh μ) (e : xI μ 293 9 = nI nv) (n6 : nv ≤ 6) (v : Int32) : (Off (2 ^ nv) v → fM_areViews 293 v μ = some (xc 0)) ∧ ∀ u, u < 2 ^ nv → v = nI u → fM_areViews 293 v μ = some (xc 1) := by
  have hp := pow_le12 (show nv ≤ 12 by omega)
  constructor
  · intro h
    have c : v < 0 ∨ nI (2 ^ nv) - xc 1 < v := h.imp id (nIm1_lt (by omega) v).mpr
    simp only [fM_areViews, fM_areViews_0, gd293 hh, f293 hh, e, Option.bind_some, nI_bit (show nv < 32 by omega), isIn_b, if_pos c]
    rfl
  · rintro u hu rfl
    have c : ¬ (nI u < 0 ∨ nI (2 ^ nv) - xc 1 < nI u) := fun z => off_not (by omega) hu (z.imp id (nIm1_lt (by omega) _).mp)
    simp only [fM_areViews, fM_areViews_0, gd293 hh, f293 hh, e, Option.bind_some, nI_bit (show nv < 32 by omega), isIn_b, if_neg c]
    rfl
/-- the least of some covers -/
def BestOf (CL : List Nat) (b : Nat) : Prop := b ∈ CL ∧ ∀ x, x ∈ CL → onesN 12 b < onesN 12 x ∨ onesN 12 b = onesN 12 x ∧ b ≤ x
theorem best_uni {CL : List Nat} {b c : Nat} (h : BestOf CL b) (k : BestOf CL c) : b = c := by
  have h1 := h.2 c k.1
  have h2 := k.2 b h.1
  omega
theorem mcount_ok (hh : Sh μ) {CL : List Nat} (hC : CovsM μ CL) (hl : CL.length ≤ 299) (hb : ∀ x, x ∈ CL → x < 4096) {v2 v3 : Int32} {b : Nat} (h3 : CL = [] ∨ (v3 = nI b ∧ b < 4096)) {r : Int32 × xM} (hx : fM_cover_142 v2 v3 (nI (CL.filter (fun x => decide (onesN 12 x = onesN 12 b))).length) μ = some r) : fM_cover_97 293 v2 v3 (xc 0) μ = some r := by
  unfold fM_cover_97
  have := xwh_inv (body := fun s : Int32 × Int32 => fM_cover_L100 293 v2 v3 s.1 s.2 μ) (fun c s => s = (nI ((CL.take c).filter (fun x => decide (onesN 12 x = onesN 12 b))).length, nI c)) (fun a => a = r) CL.length ?_ ?_ CL.length 0 (xc 0, xc 0) (by omega) rfl
  · obtain ⟨a, h1, h2⟩ := this
    rw [h1, h2]
  · rintro c s hc rfl
    left
    have c0 : ¬ nI CL.length ≤ nI c := nI_ge hc (by omega)
    obtain ⟨rfl, hb2⟩ := h3.resolve_left (fun z => by rw [z] at hc; exact absurd hc (Nat.not_lt_zero c))
    have tC : ldA μ 327 (nI c) = some (nI (CL.getD c 0)) := by rw [la327 hh (by omega), hC.2 c hc]
    have hx' := hb _ (getD_memD (d := 0) hc)
    have o1 := ones_ok (f := 12) (n := CL.getD c 0) hx' (by decide) μ
    have o2 := ones_ok (f := 12) (n := b) hb2 (by decide) μ
    have l1 := onesN_le 12 (CL.getD c 0)
    have l2 := onesN_le 12 b
    refine ⟨(nI ((CL.take (c + 1)).filter (fun x => decide (onesN 12 x = onesN 12 b))).length, nI (c + 1)), ?_, rfl⟩
    rw [take_succD CL c 0 hc, List.filter_append, List.length_append, List.filter_cons]
    by_cases q : onesN 12 (CL.getD c 0) = onesN 12 b
    · rw [if_pos (decide_eq_true q)]
      simp only [fM_cover_L100, f293 hh, hC.1, Option.bind_some, c0, if_false, g293_53 hh, tC, o1, o2, q, if_true, fM_cover_133, inc1]
      rfl
    · have q' : ¬ nI (onesN 12 (CL.getD c 0)) = nI (onesN 12 b) := fun z => q ((nI64 (by omega) (by omega)).mp z)
      rw [if_neg (by rw [decide_eq_true_eq]; exact q)]
      simp only [fM_cover_L100, f293 hh, hC.1, Option.bind_some, c0, if_false, g293_53 hh, tC, o1, o2, q', fM_cover_133, inc1, show xc 0 = nI 0 from rfl, nI_add]
      rfl
  · rintro s rfl
    refine ⟨r, ?_, rfl⟩
    rw [List.take_length]
    simp only [fM_cover_L100, f293 hh, hC.1, Option.bind_some, Int32.le_refl, if_true, hx, Option.map_some]
theorem mbest_ok (hh : Sh μ) {CL : List Nat} (hC : CovsM μ CL) (c1 : Srt CL) (hl : CL.length ≤ 299) (hb : ∀ x, x ∈ CL → x < 4096) {v2 : Int32} {r : Int32 × xM} (h0 : CL = [] → fM_cover_142 v2 (xc (-1)) (nI 0) μ = some r) (h1 : ∀ b, BestOf CL b → fM_cover_142 v2 (nI b) (nI (CL.filter (fun x => decide (onesN 12 x = onesN 12 b))).length) μ = some r) : xwh (fun s : Int32 × Int32 => fM_cover_L56 293 v2 s.1 (xc 0) s.2 μ) (xc (-1), xc 0) = some r := by
  have := xwh_inv (body := fun s : Int32 × Int32 => fM_cover_L56 293 v2 s.1 (xc 0) s.2 μ) (fun c s => s.2 = nI c ∧ ((c = 0 ∧ s.1 = xc (-1)) ∨ ∃ b, s.1 = nI b ∧ BestOf (CL.take c) b)) (fun a => a = r) CL.length ?_ ?_ CL.length 0 (xc (-1), xc 0) (by omega) ⟨rfl, Or.inl ⟨rfl, rfl⟩⟩
  · obtain ⟨a, h1, h2⟩ := this
    rw [h1, h2]
  · rintro c ⟨w, y⟩ hc ⟨rfl, hw⟩
    left
    have c0 : ¬ nI CL.length ≤ nI c := nI_ge hc (by omega)
    have tC : ldA μ 327 (nI c) = some (nI (CL.getD c 0)) := by rw [la327 hh (by omega), hC.2 c hc]
    have hx' := hb _ (getD_memD (d := 0) hc)
    have tk := take_succD CL c 0 hc
    have ml : CL.getD c 0 ∈ CL.take (c + 1) := by rw [tk]; exact List.mem_append_right _ (List.mem_singleton.mpr rfl)
    have o1 := ones_ok (f := 12) (n := CL.getD c 0) hx' (by decide) μ
    have l1 := onesN_le 12 (CL.getD c 0)
    rcases hw with ⟨hc0, hw⟩ | ⟨b, hw, hb1, hb2⟩
    · have hw' : w = xc (-1) := hw
      subst hw'
      refine ⟨(nI (CL.getD c 0), nI (c + 1)), ?_, rfl, Or.inr ⟨_, rfl, ml, fun x hx => ?_⟩⟩
      · simp only [fM_cover_L56, f293 hh, hC.1, Option.bind_some, c0, if_false, g293_53 hh, tC, fM_isBetter, fM_isBetter_0, show (xc (-1) < 0) = True from by decide, if_true, fM_isBetter_15, xc1F, fM_cover_90, inc1]
      · rw [tk, hc0, List.take_zero, List.nil_append, List.mem_singleton] at hx
        rw [hx, hc0]
        exact Or.inr ⟨rfl, Nat.le_refl _⟩
    · have hw' : w = nI b := hw
      subst hw'
      have bm : b ∈ CL := List.mem_of_mem_take hb1
      have bl := hb b bm
      have o2 := ones_ok (f := 12) (n := b) bl (by decide) μ
      have l2 := onesN_le 12 b
      have blt : b < CL.getD c 0 := by
        obtain ⟨i, hi, e⟩ := mem_getD (d := 0) hb1
        rw [List.length_take] at hi
        have := List.pairwise_iff_getElem.mp c1 i c (by omega) hc (by omega)
        rw [List.getD_eq_getElem?_getD, List.getElem?_take_of_lt (by omega), List.getElem?_eq_getElem (by omega)] at e
        rw [List.getD_eq_getElem?_getD, List.getElem?_eq_getElem hc]
        have e' : CL[i] = b := e
        rw [e'] at this
        exact this
      by_cases q : onesN 12 b ≤ onesN 12 (CL.getD c 0)
      · have q' : nI (onesN 12 b) ≤ nI (onesN 12 (CL.getD c 0)) := nI_le q (by omega)
        refine ⟨(nI b, nI (c + 1)), ?_, rfl, Or.inr ⟨b, rfl, by rw [tk]; exact List.mem_append_left _ hb1, fun x hx => ?_⟩⟩
        · simp only [fM_cover_L56, f293 hh, hC.1, Option.bind_some, c0, if_false, g293_53 hh, tC, fM_isBetter, fM_isBetter_0, nI_pos (show b < 2 ^ 31 by omega), o1, o2, q', if_true, xc0T, fM_cover_90, inc1]
        · rw [tk, List.mem_append, List.mem_singleton] at hx
          rcases hx with hx | hx
          · exact hb2 x hx
          · rw [hx]; omega
      · have q' : ¬ nI (onesN 12 b) ≤ nI (onesN 12 (CL.getD c 0)) := nI_ge (by omega) (by omega)
        refine ⟨(nI (CL.getD c 0), nI (c + 1)), ?_, rfl, Or.inr ⟨_, rfl, ml, fun x hx => ?_⟩⟩
        · simp only [fM_cover_L56, f293 hh, hC.1, Option.bind_some, c0, if_false, g293_53 hh, tC, fM_isBetter, fM_isBetter_0, nI_pos (show b < 2 ^ 31 by omega), o1, o2, q', fM_isBetter_15, xc1F, fM_cover_90, inc1]
        · rw [tk, List.mem_append, List.mem_singleton] at hx
          rcases hx with hx | hx
          · have := hb2 x hx
            omega
          · rw [hx]; exact Or.inr ⟨rfl, Nat.le_refl _⟩
  · rintro ⟨w, y⟩ ⟨rfl, hw⟩
    refine ⟨r, ?_, rfl⟩
    have fin : fM_cover_97 293 v2 w (xc 0) μ = some r := by
      rcases hw with ⟨hc0, hw⟩ | ⟨b, hw, hb1⟩
      · have e0 : CL = [] := List.eq_nil_of_length_eq_zero hc0
        have hw' : w = xc (-1) := hw
        refine mcount_ok (b := 0) hh hC hl hb (Or.inl e0) ?_
        rw [hw']
        have := h0 e0
        rw [e0]
        exact this
      · rw [List.take_length] at hb1
        have hw' : w = nI b := hw
        refine mcount_ok (b := b) hh hC hl hb (Or.inr ⟨hw', hb b hb1.1⟩) ?_
        rw [hw']
        exact h1 b hb1
    simp only [fM_cover_L56, f293 hh, hC.1, Option.bind_some, Int32.le_refl, if_true, fin, Option.map_some]
theorem sim_cover (a1 : Int32) (a2 : Int32) (hS : Sim L xs μ) : SimR L xs (fX_cover 2 a1 a2 μ) (fun μ => fM_cover 293 a1 a2 μ) := by
  obtain ⟨A, V, na, nv, T, K, kb, gb, hA⟩ := simA_iff.mp hS
  have hh := hS.sh
  have hn := hA.na10
  have all := hA.all
  have ii : ∀ z, fM_isIn (Int32.toInt64 a2) (Int64.ofNat 0) (Int64.ofNat 2) z = some (if a2 < nI 0 ∨ nI 2 < a2 then xc 0 else xc 1) := fun z => isIn_n a2 0 2 (by decide) (by decide) z
  rcases off_or na (by omega) a1 with q | ⟨j, hj, rfl⟩
  · refine sim_refuse 1 hS (by decide) (by decide) ?_ (fun μ1 h1 h2 => ?_)
    · simp only [fX_cover, fX_cover_0, gd2 hh, xask_no hh all.2.1.2.2.1 q, Option.bind_some, xc0T, if_true, bind_eta]
      rfl
    · simp only [fM_cover, fM_cover_0, gd293 h1, mask_no h1 ((h2 _ _ (by decide)).trans all.2.2.1.1) (by omega) q, Option.bind_some, xc0T, if_true, bind_eta]
      rfl
  · have xa := xask_yes hh all.2.1.2.2.1 (by omega) hj
    have ma : ∀ z, Sh z → xI z 293 8 = nI na → fM_isAsk 293 (nI j) z = some (xc 1) := fun z hz e => mask_yes hz e (by omega) hj
    by_cases q2 : a2 < nI 0 ∨ nI 2 < a2
    · refine sim_refuse 2 hS (by decide) (by decide) ?_ (fun μ1 h1 h2 => ?_)
      · by_cases z : a2 < 0
        · simp only [fX_cover, fX_cover_0, gd2 hh, xa, Option.bind_some, xc1F, if_false, z, if_true, fX_cover_23, bind_eta]
          rfl
        · have z2 : ¬ a2 ≤ xc 2 := Int32.not_le.mpr (q2.resolve_left z)
          simp only [fX_cover, fX_cover_0, gd2 hh, xa, Option.bind_some, xc1F, if_false, z, z2, fX_cover_23, bind_eta]
          rfl
      · simp only [fM_cover, fM_cover_0, gd293 h1, ma μ1 h1 ((h2 _ _ (by decide)).trans all.2.2.1.1), Option.bind_some, xc1F, if_false, ii, q2, if_true, xc0T, bind_eta]
        rfl
    · have z1 : ¬ a2 < 0 := fun z => q2 (Or.inl z)
      have z2 : a2 ≤ xc 2 := Int32.not_lt.mp (fun z => q2 (Or.inr z))
      have im : ∀ z, fM_isIn (Int32.toInt64 a2) (Int64.ofNat 0) (Int64.ofNat 2) z = some (xc 1) := fun z => by rw [ii, if_neg q2]
      obtain ⟨μ1, s1, s2, s3, s4, s5, s6⟩ := thr_ok hA hj
      have h1 := s2.sh
      have hs := sight_at h1 j (by omega)
      have hm1 := s2.all.2.2.1.1
      by_cases q : 12 < (pShows (pEnd K (A j)) V nv).length
      · have e3 : ¬ xI μ1 (213 + 8 * j) 3 = 0 := by rw [s4.2.2.2.1, if_pos q]; decide
        refine sim_refuse2 5 s2.sim (by decide) (by decide) ?_ (fun μ2 h1' h2' => ?_)
        · simp only [fX_cover, fX_cover_0, gd2 hh, xa, Option.bind_some, xc1F, if_false, z1, z2, if_true, s1, sf hs, e3, bind_eta]
          rfl
        · obtain ⟨r, μ3, m1, m2, m3⟩ := mCovers_ok (s2.mside.eq h1' h2') hj
          rcases m3 with ⟨m3, _⟩ | ⟨_, m3, _⟩
          · refine ⟨μ3, m2.mono (fun a k q => WFC_scr q), ?_⟩
            simp only [fM_cover, fM_cover_0, gd293 h1', ma μ2 h1' ((h2' _ _ (by decide)).trans hm1), Option.bind_some, xc1F, if_false, im, m1, m3, xc0T, if_true, bind_eta]
            rfl
          · exact absurd q (by omega)
      · have hl : (pShows (pEnd K (A j)) V nv).length ≤ 12 := by omega
        have e3 : xI μ1 (213 + 8 * j) 3 = 0 := by rw [s4.2.2.2.1, if_neg q]
        have th := s6 hl
        have hp := pow_le12 hl
        obtain ⟨r, μ3, m1, m2, m3⟩ := mCovers_ok s2.mside hj
        rcases m3 with ⟨_, m3⟩ | ⟨m3, _, qb, CL, c1, c2, c3⟩
        · exact absurd m3 q
        · have h3 := qb.1.1
          have scr := m2.mono (W' := Scratch) (fun a k q => WFC_scr q)
          have cl := cl_len hl c1 c2
          have clb : ∀ x, x ∈ CL → x < 4096 := fun x hx => by have := ((c2 x).mp hx).1; omega
          have fmx : ∀ res, xwh (fun s : Int32 × Int32 => fM_cover_L56 293 a2 s.1 (xc 0) s.2 μ3) (xc (-1), xc 0) = some (res, μ3) → fM_cover 293 (nI j) a2 μ1 = some (res, μ3) := fun res hres => by
            simp only [fM_cover, fM_cover_0, gd293 h1, ma μ1 h1 hm1, Option.bind_some, xc1F, if_false, im, m1, m3]
            exact hres
          rcases th.2.2.2 with ⟨w1, w2⟩ | ⟨b, w1, w2, w3, w4, l, w5, w6, w7⟩
          · have e0 : CL = [] := by
              cases h : CL with
              | nil => rfl
              | cons c C =>
                have := (c2 c).mp (by rw [h]; exact List.mem_cons_self)
                exact absurd this.2 (w2 c this.1)
            have n6 : ¬ 0 ≤ xI μ1 (213 + 8 * j) 6 := by rw [w1]; decide
            refine sim_ans (r := xc (-9)) (μ2 := μ3) s2.sim ?_ (fmx _ (mbest_ok h3 c3 c1 cl clb (fun _ => ?_) (fun b hb => ?_))) scr
            · simp only [fX_cover, fX_cover_0, gd2 hh, xa, Option.bind_some, xc1F, if_false, z1, z2, if_true, s1, sf hs, e3, n6]
            · simp only [fM_cover_142, show (0 ≤ xc (-1)) = False from by decide, if_false]
            · rw [e0] at hb; exact absurd hb.1 List.not_mem_nil
          · have bb : BestOf CL b := ⟨(c2 b).mpr ⟨w1, w3⟩, fun x hx => by
              have z := (c2 x).mp hx
              have := w4 x z.1 z.2
              rw [← ones_pbits, ← ones_pbits] at this
              exact this⟩
            have n6 : 0 ≤ nI b := nI_pos' (by omega)
            have cnt : l.length = (CL.filter (fun x => decide (onesN 12 x = onesN 12 b))).length := by
              refine ((List.perm_ext_iff_of_nodup w5 (List.Nodup.sublist List.filter_sublist (List.Pairwise.imp (fun h => Nat.ne_of_lt h) c1))).mpr (fun x => ?_)).length_eq
              rw [w6 x, List.mem_filter, c2 x, decide_eq_true_eq, ← ones_pbits, ← ones_pbits, and_assoc]
            have bc := bitc_ok (n := b) (by omega) μ1
            have on := ones_ok (f := 12) (n := b) (by omega) (by decide) μ3
            have three : a2 = xc 0 ∨ a2 = xc 1 ∨ a2 = xc 2 := by
              rcases off_or 3 (by decide) a2 with ⟨z | z⟩ | ⟨i, hi, rfl⟩
              · exact absurd z z1
              · rename_i z
                exact absurd z2 (Int32.not_le.mpr (by rw [lt_toInt]; rw [le_toInt] at z; rw [show (nI 3).toInt = 3 from rfl] at z; rw [show (xc 2).toInt = 2 from rfl]; omega))
              · obtain rfl | rfl | rfl : i = 0 ∨ i = 1 ∨ i = 2 := by omega
                · exact Or.inl rfl
                · exact Or.inr (Or.inl rfl)
                · exact Or.inr (Or.inr rfl)
            have xe : fX_cover 2 (nI j) a2 μ = (if a2 = xc 0 then some (nI (onesN 12 b), μ1) else if a2 = xc 1 then some (nI b, μ1) else some (nI l.length, μ1)) := by
              simp only [fX_cover, fX_cover_0, gd2 hh, xa, Option.bind_some, xc1F, if_false, z1, z2, if_true, s1, sf hs, e3, w2, w7, n6, bc]
            have ne : CL = [] → False := fun z => by have := bb.1; rw [z] at this; exact absurd this List.not_mem_nil
            rcases three with e | e | e
            · refine sim_ans (r := nI (onesN 12 b)) (μ2 := μ3) s2.sim (by rw [xe, if_pos e]) (fmx _ (mbest_ok h3 c3 c1 cl clb (fun z => (ne z).elim) (fun b' hb' => ?_))) scr
              rw [best_uni hb' bb]
              simp only [fM_cover_142, n6, if_true, eq_true (show a2 = 0 from e), on, Option.bind_some]
            · refine sim_ans (r := nI b) (μ2 := μ3) s2.sim (by rw [xe, if_neg (by rw [e]; decide), if_pos e]) (fmx _ (mbest_ok h3 c3 c1 cl clb (fun z => (ne z).elim) (fun b' hb' => ?_))) scr
              rw [best_uni hb' bb]
              simp only [fM_cover_142, n6, if_true, eq_false (show ¬ a2 = 0 from by rw [e]; decide), if_false, eq_true e]
            · refine sim_ans (r := nI l.length) (μ2 := μ3) s2.sim (by rw [xe, if_neg (by rw [e]; decide), if_neg (by rw [e]; decide)]) (fmx _ (mbest_ok h3 c3 c1 cl clb (fun z => (ne z).elim) (fun b' hb' => ?_))) scr
              rw [best_uni hb' bb, cnt]
              simp only [fM_cover_142, n6, if_true, eq_false (show ¬ a2 = 0 from by rw [e]; decide), if_false, eq_false (show ¬ a2 = xc 1 from by rw [e]; decide)]
theorem sim_may (a1 : Int32) (a2 : Int32) (hS : Sim L xs μ) : SimR L xs (fX_may 2 a1 a2 μ) (fun μ => fM_may 293 a1 a2 μ) := by
  obtain ⟨A, V, na, nv, T, K, kb, gb, hA⟩ := simA_iff.mp hS
  have hh := hS.sh
  have hn := hA.na10
  have n6 := hA.nv6
  have all := hA.all
  rcases off_or na (by omega) a1 with q | ⟨j, hj, rfl⟩
  · refine sim_refuse 1 hS (by decide) (by decide) ?_ (fun μ1 h1 h2 => ?_)
    · simp only [fX_may, fX_may_0, gd2 hh, xask_no hh all.2.1.2.2.1 q, Option.bind_some, xc0T, if_true, fX_may_16, bind_eta]
      rfl
    · simp only [fM_may, fM_may_0, gd293 h1, mask_no h1 ((h2 _ _ (by decide)).trans all.2.2.1.1) (by omega) q, Option.bind_some, xc0T, if_true, fM_may_16, bind_eta]
      rfl
  · have xa := xask_yes hh all.2.1.2.2.1 (by omega) hj
    have ma : ∀ z, Sh z → xI z 293 8 = nI na → fM_isAsk 293 (nI j) z = some (xc 1) := fun z hz e => mask_yes hz e (by omega) hj
    rcases xareViews_ok hh all.2.1.2.2.2.1 n6 a2 with ⟨v1, u, hu, rfl⟩ | ⟨v1, v2⟩
    · have hu64 : u < 64 := Nat.lt_of_lt_of_le hu (Nat.pow_le_pow_right (n := 2) (by decide) n6)
      obtain ⟨μ1, s1, s2, s3, s4, s5, s6⟩ := thr_ok hA hj
      have h1 := s2.sh
      have hs := sight_at h1 j (by omega)
      have hm1 := s2.all.2.2.1.1
      have mv : ∀ z, Sh z → xI z 293 9 = nI nv → fM_areViews 293 (nI u) z = some (xc 1) := fun z hz e => (mareViews_ok hz e n6 (nI u)).2 u hu rfl
      by_cases q : 12 < (pShows (pEnd K (A j)) V nv).length
      · have e3 : ¬ xI μ1 (213 + 8 * j) 3 = 0 := by rw [s4.2.2.2.1, if_pos q]; decide
        refine sim_refuse2 5 s2.sim (by decide) (by decide) ?_ (fun μ2 h1' h2' => ?_)
        · simp only [fX_may, fX_may_0, gd2 hh, xa, v1, Option.bind_some, xc1F, if_false, s1, sf hs, e3, bind_eta]
          rfl
        · obtain ⟨r, μ3, m1, m2, m3⟩ := mCovers_ok (s2.mside.eq h1' h2') hj
          rcases m3 with ⟨m3, _⟩ | ⟨_, m3, _⟩
          · refine ⟨μ3, m2.mono (fun a k q => WFC_scr q), ?_⟩
            simp only [fM_may, fM_may_0, gd293 h1', ma μ2 h1' ((h2' _ _ (by decide)).trans hm1), mv μ2 h1' ((h2' _ _ (by decide)).trans s2.all.2.2.1.2.1), Option.bind_some, xc1F, if_false, m1, m3, xc0T, if_true, bind_eta]
            rfl
          · exact absurd q (by omega)
      · have hl : (pShows (pEnd K (A j)) V nv).length ≤ 12 := by omega
        have e3 : xI μ1 (213 + 8 * j) 3 = 0 := by rw [s4.2.2.2.1, if_neg q]
        have th := s6 hl
        have hp := pow_le12 hl
        obtain ⟨r, μ3, m1, m2, m3⟩ := mCovers_ok s2.mside hj
        rcases m3 with ⟨_, m3⟩ | ⟨m3, _, qb, CL, c1, c2, c3⟩
        · exact absurd m3 q
        · have h3 := qb.1.1
          have scr := m2.mono (W' := Scratch) (fun a k q => WFC_scr q)
          have cl := cl_len hl c1 c2
          have clb : ∀ x, x ∈ CL → x < 4096 := fun x hx => by have := ((c2 x).mp hx).1; omega
          obtain ⟨v, y1, y2⟩ := misCovered_ok qb.1 c3 clb cl (u := u)
          have xb := xcovBy_ok hs hu64
          have ci := covered_iff th c2 hu64
          by_cases w : lb (xL μ1 (213 + 8 * j) 5) u = true
          · rw [if_pos w] at xb
            have v0 : ¬ v = 0 := fun z => (y2.if0.mp z) (ci.mp w)
            refine sim_ans (r := xc 1) (μ2 := μ3) s2.sim ?_ ?_ scr
            · simp only [fX_may, fX_may_0, gd2 hh, xa, v1, Option.bind_some, xc1F, if_false, s1, sf hs, e3, if_true, xb]
            · simp only [fM_may, fM_may_0, gd293 h1, ma μ1 h1 hm1, mv μ1 h1 s2.all.2.2.1.2.1, Option.bind_some, xc1F, if_false, m1, m3, y1, v0]
          · rw [if_neg w] at xb
            have v0 : v = 0 := y2.if0.mpr (fun z => w (ci.mpr z))
            refine sim_ans (r := xc 0) (μ2 := μ3) s2.sim ?_ ?_ scr
            · simp only [fX_may, fX_may_0, gd2 hh, xa, v1, Option.bind_some, xc1F, if_false, s1, sf hs, e3, if_true, xb, xc0T]
            · simp only [fM_may, fM_may_0, gd293 h1, ma μ1 h1 hm1, mv μ1 h1 s2.all.2.2.1.2.1, Option.bind_some, xc1F, if_false, m1, m3, y1, v0, if_true]
    · refine sim_refuse 1 hS (by decide) (by decide) ?_ (fun μ1 h1 h2 => ?_)
      · simp only [fX_may, fX_may_0, gd2 hh, xa, v1, Option.bind_some, xc1F, if_false, xc0T, if_true, fX_may_16, bind_eta]
        rfl
      · simp only [fM_may, fM_may_0, gd293 h1, ma μ1 h1 ((h2 _ _ (by decide)).trans all.2.2.1.1), (mareViews_ok h1 ((h2 _ _ (by decide)).trans all.2.2.1.2.1) n6 a2).1 v2, Option.bind_some, xc1F, if_false, xc0T, if_true, fM_may_16, bind_eta]
        rfl
theorem sim_covers (a1 : Int32) (a2 : Int32) (hS : Sim L xs μ) : SimR L xs (fX_covers 2 a1 a2 μ) (fun μ => fM_covers 293 a1 a2 μ) := by
  obtain ⟨A, V, na, nv, T, K, kb, gb, hA⟩ := simA_iff.mp hS
  have hh := hS.sh
  have hn := hA.na10
  have n6 := hA.nv6
  have all := hA.all
  rcases off_or na (by omega) a1 with q | ⟨j, hj, rfl⟩
  · refine sim_refuse 1 hS (by decide) (by decide) ?_ (fun μ1 h1 h2 => ?_)
    · simp only [fX_covers, fX_covers_0, gd2 hh, xspent_no hh all.2.1.2.2.1 q, Option.bind_some, m1F, if_false, bind_eta]
      rfl
    · simp only [fM_covers, fM_covers_0, gd293 h1, mask_no h1 ((h2 _ _ (by decide)).trans all.2.2.1.1) (by omega) q, Option.bind_some, xc0T, if_true, bind_eta]
      rfl
  · have ma : ∀ z, Sh z → xI z 293 8 = nI na → fM_isAsk 293 (nI j) z = some (xc 1) := fun z hz e => mask_yes hz e (by omega) hj
    obtain ⟨μ1, s1, s2, s3, s4, s5⟩ := xspent_ok hA hj
    have h1 := s1.sh
    have hm1 := s1.all.2.2.1.1
    have hs := sight_at h1 j (by omega)
    have wA := hA.wfA hj
    have keep := pEnd_keep (K := K) wA.tb
    by_cases q : 12 < (pShows (pEnd K (A j)) V nv).length
    · rw [if_pos q] at s5
      refine sim_refuse2 5 s1.sim (by decide) (by decide) ?_ (fun μ2 h1' h2' => ?_)
      · simp only [fX_covers, fX_covers_0, gd2 hh, s5, Option.bind_some, m5F, if_false, bind_eta]
        rfl
      · obtain ⟨⟨r, μ3⟩, m1, m2, _, m3⟩ := mShows_ok2 s1 hj h1' h2'
        rcases m3 with ⟨_, m3, _⟩ | ⟨m3, _⟩
        · exact absurd q (by omega)
        · have m3' : r = xc 0 := m3
          refine ⟨μ3, m2, ?_⟩
          simp only [fM_covers, fM_covers_0, gd293 h1', ma μ2 h1' ((h2' _ _ (by decide)).trans hm1), Option.bind_some, xc1F, if_false, m1, m3', xc0T, if_true, bind_eta]
          rfl
    · rw [if_neg q] at s5
      have hl : (pShows (pEnd K (A j)) V nv).length ≤ 12 := by omega
      have hp := pow_le12 hl
      obtain ⟨c1, c2⟩ := s3.2.2.2.2 hl
      have sd := seen_done s1 hj s4
      -- the reference after its shows, also behind a refusal
      have mfind : ∀ μ2, Sh μ2 → (∀ a j, 293 ≤ a → xI μ2 a j = xI μ1 a j) → ∃ μ3, fM_findShows 293 (nI j) μ2 = some (xc 1, μ3) ∧ Fr Scratch μ2 μ3 ∧ xI μ3 293 39 = nI (pShows (pEnd K (A j)) V nv).length ∧ QBase μ3 V nv K j (pShows (pEnd K (A j)) V nv) (pEnd K (A j)) (A j) := fun μ2 h2 e => by
        obtain ⟨⟨r, μ3⟩, m1, m2, m3, m4⟩ := mShows_ok2 s1 hj h2 e
        rcases m4 with ⟨m4, m5, m6⟩ | ⟨_, m4⟩
        · have m4' : r = xc 1 := m4
          subst m4'
          have ms := (s1.mside.eq h2 e).fr m2
          exact ⟨μ3, m1, m2, m6.2.1, ⟨ms.1, m6, n6, fun x hx => shX_ok keep.1 n6 (fun u hu => (ms.2.2.2.2.2.2.2 u hu).1) hx, ms.2.2.2.2.2.2.2⟩, m3, keep.1, by rw [keep.2.2]; exact wA.2.2.1, ms.2.2.2.2.2.1, by omega, wA, (ms.2.2.2.2.2.2.1 j hj).2⟩
        · exact absurd m4 q
      rcases ushr0 (v := a2) hl with ⟨z1, set, hset, rfl⟩ | ⟨z1, z2⟩
      · have zi : ¬ (nI set < 0 ∨ nI (2 ^ (pShows (pEnd K (A j)) V nv).length) - xc 1 < nI set) := fun w => off_not (by omega) hset (w.imp id (nIm1_lt (by omega) _).mp)
        have bc := bitc_ok (n := set) (by omega) μ1
        have on : ∀ z, fM_ones (nI set) z = some (nI (onesN 12 set)) := fun z => ones_ok (f := 12) (by omega) (by decide) z
        have o12 := onesN_le 12 set
        by_cases z3 : onesN 12 set ≤ 3
        · have z3' : nI (onesN 12 set) ≤ xc 3 := nI_le (b := 3) z3 (by decide)
          obtain ⟨μ2, t1, t2, t3, t4, t5, t6⟩ := thr_ok s1 hj
          have h2 := t2.sh
          have hs2 := sight_at h2 j (by omega)
          have th := t6 hl
          have e2 : xI μ2 (213 + 8 * j) 2 = nI (pShows (pEnd K (A j)) V nv).length := (t4.2.2.2.2 hl).1
          have ic := isCoverC_ok hs2 hl e2 (set := set) (by omega)
          obtain ⟨μ3, m1, m2, m3, qb⟩ : ∃ μ3, fM_findShows 293 (nI j) μ2 = some (xc 1, μ3) ∧ Fr Scratch μ2 μ3 ∧ xI μ3 293 39 = nI (pShows (pEnd K (A j)) V nv).length ∧ QBase μ3 V nv K j (pShows (pEnd K (A j)) V nv) (pEnd K (A j)) (A j) := mfind μ2 h2 (fun a k w => t3.I (by omega))
          obtain ⟨v, μ4, v1, v2, v3⟩ := misCover_ok qb hset (by rw [← pbits_wide hset hl, ← ones_pbits]; exact z3)
          have h3 := qb.1.1
          have scr : Fr Scratch μ2 μ4 := m2.trans (v2.mono (fun a k w => by unfold WCv FE at w; unfold Scratch; omega))
          have cv : (set < 2 ^ (pShows (pEnd K (A j)) V nv).length ∧ lb (xL μ2 (213 + 8 * j + 7) (set / 64)) (set % 64) = true) ↔ pCov K V (A j) (pEnd K (A j)) (pShows (pEnd K (A j)) V nv) set := by
            have := th.2.1 set (by omega)
            constructor
            · rintro ⟨_, w⟩; exact (this.mp w).2
            · intro w; exact ⟨hset, this.mpr ⟨hset, w⟩⟩
          have xe : fX_covers 2 (nI j) (nI set) μ = (fS_isCover (213 + 8 * j) (nI set) μ2).bind fun r6 => if r6 = 0 then some (xc 0, μ2) else some (xc 1, μ2) := by
            simp only [fX_covers, fX_covers_0, gd2 hh, s5, Option.bind_some, xc0T, if_true, sd, sf hs, c1, z1, bc, z3', t1]
          have me : fM_covers 293 (nI j) (nI set) μ2 = if v = 0 then some (xc 0, μ4) else some (xc 1, μ4) := by
            simp only [fM_covers, fM_covers_0, gd293 h2, ma μ2 h2 t2.all.2.2.1.1, Option.bind_some, xc1F, if_false, m1, f293 h3, m3, nI_bit (show (pShows (pEnd K (A j)) V nv).length < 32 by omega), isIn_b, if_neg zi, on, z3', if_true, v1]
          by_cases w : pCov K V (A j) (pEnd K (A j)) (pShows (pEnd K (A j)) V nv) set
          · rw [if_pos (cv.mpr w)] at ic
            refine sim_ans (r := xc 1) (μ2 := μ4) t2.sim ?_ ?_ scr
            · rw [xe, ic]; rfl
            · rw [me, if_neg (fun y => (v3.if0.mp y) w)]
          · rw [if_neg (fun y => w (cv.mp y))] at ic
            refine sim_ans (r := xc 0) (μ2 := μ4) t2.sim ?_ ?_ scr
            · rw [xe, ic]; rfl
            · rw [me, if_pos (v3.if0.mpr w)]
        · have z3' : ¬ nI (onesN 12 set) ≤ xc 3 := nI_ge (a := 3) (by omega) (by omega)
          refine sim_refuse2 6 s1.sim (by decide) (by decide) ?_ (fun μ2 h1' h2' => ?_)
          · simp only [fX_covers, fX_covers_0, gd2 hh, s5, Option.bind_some, xc0T, if_true, sd, sf hs, c1, z1, bc, z3', if_false, bind_eta]
            rfl
          · obtain ⟨μ3, m1, m2, m3, _⟩ := mfind μ2 h1' h2'
            refine ⟨μ3, m2, ?_⟩
            simp only [fM_covers, fM_covers_0, gd293 h1', ma μ2 h1' ((h2' _ _ (by decide)).trans hm1), Option.bind_some, xc1F, if_false, m1, f293 (m2.sh h1'), m3, nI_bit (show (pShows (pEnd K (A j)) V nv).length < 32 by omega), isIn_b, if_neg zi, on, z3', bind_eta]
            rfl
      · have zi : a2 < 0 ∨ nI (2 ^ (pShows (pEnd K (A j)) V nv).length) - xc 1 < a2 := z2.imp id (nIm1_lt (by omega) _).mpr
        refine sim_refuse2 1 s1.sim (by decide) (by decide) ?_ (fun μ2 h1' h2' => ?_)
        · simp only [fX_covers, fX_covers_0, gd2 hh, s5, Option.bind_some, xc0T, if_true, sd, sf hs, c1, z1, if_false, bind_eta]
          rfl
        · obtain ⟨μ3, m1, m2, m3, _⟩ := mfind μ2 h1' h2'
          refine ⟨μ3, m2, ?_⟩
          simp only [fM_covers, fM_covers_0, gd293 h1', ma μ2 h1' ((h2' _ _ (by decide)).trans hm1), Option.bind_some, xc1F, if_false, m1, f293 (m2.sh h1'), m3, nI_bit (show (pShows (pEnd K (A j)) V nv).length < 32 by omega), isIn_b, if_pos zi, xc0T, if_true, bind_eta]
          rfl
end COVER
