/-! cost: what sets of views cost -/
section COST
variable {L : Nat} {xs : Nat → Int32} {μ : xM} {A V : Nat → xPic} {na nv T K kb gb : Nat}
theorem xknow_ok (hS : SimA L xs μ A V na nv T K kb gb) : ∃ r μ1, fX_knowsAllCovers 2 μ = some (r, μ1) ∧ SimA L xs μ1 A V na nv T K kb gb ∧ ((r = xc 0 ∧ ∃ j, j < na ∧ 12 < (pShows (pEnd K (A j)) V nv).length) ∨ (r = xc 1 ∧ ∀ j, j < na → (pShows (pEnd K (A j)) V nv).length ≤ 12 ∧ ThroughOK μ1 (213 + 8 * j) K nv V (A j))) := by
  have hn := hS.na10
  have goal : ∃ a, fX_knowsAllCovers 2 μ = some a ∧ SimA L xs a.2 A V na nv T K kb gb ∧ ((a.1 = xc 0 ∧ ∃ j, j < na ∧ 12 < (pShows (pEnd K (A j)) V nv).length) ∨ (a.1 = xc 1 ∧ ∀ j, j < na → (pShows (pEnd K (A j)) V nv).length ≤ 12 ∧ ThroughOK a.2 (213 + 8 * j) K nv V (A j))) := by
    unfold fX_knowsAllCovers fX_knowsAllCovers_0
    rw [gd2 hS.sh]
    refine xwh_inv (body := fun s : Int32 × xM => fX_knowsAllCovers_L2 2 s.1 s.2) (fun i s => s.1 = nI i ∧ SimA L xs s.2 A V na nv T K kb gb ∧ ∀ j, j < i → (pShows (pEnd K (A j)) V nv).length ≤ 12 ∧ ThroughOK s.2 (213 + 8 * j) K nv V (A j)) _ na ?_ ?_ na 0 _ (by omega) ⟨rfl, hS, fun j hj => absurd hj (Nat.not_lt_zero j)⟩
    · rintro i ⟨x, μ'⟩ hi ⟨rfl, h, a1⟩
      have h' := h.sh
      have c0 : ¬ nI na ≤ nI i := nI_ge hi (by omega)
      have e2 : xI μ' 3 2 = nI na := h.all.2.1.2.2.1
      obtain ⟨μ1, s1, s2, s3, s4, s5, s6⟩ := thr_ok h hi
      have hs := sight_at s2.sh i (by omega)
      by_cases q : 12 < (pShows (pEnd K (A i)) V nv).length
      · right
        have e3 : ¬ xI μ1 (213 + 8 * i) 3 = 0 := by rw [s4.2.2.2.1, if_pos q]; decide
        refine ⟨(xc 0, μ1), ?_, s2, Or.inl ⟨rfl, i, hi, q⟩⟩
        simp only [fX_knowsAllCovers_L2, g2_0 h', f3 h', e2, Option.bind_some, c0, if_false, s1, sf hs, e3, fX_knowsAllCovers_24, Option.map_some]
      · left
        have e3 : xI μ1 (213 + 8 * i) 3 = 0 := by rw [s4.2.2.2.1, if_neg q]
        refine ⟨(nI (i + 1), μ1), ?_, rfl, s2, fun j hj => ?_⟩
        · simp only [fX_knowsAllCovers_L2, g2_0 h', f3 h', e2, Option.bind_some, c0, if_false, s1, sf hs, e3, if_true, inc1]
        · by_cases z : j = i
          · subst z
            exact ⟨by omega, s6 (by omega)⟩
          · obtain ⟨y1, y2⟩ := a1 j (by omega)
            exact ⟨y1, y2.fr (fun b k q r => s3.I (by omega)) (fun b k q r => s3.L (by omega))⟩
    · rintro ⟨x, μ'⟩ ⟨rfl, h, a1⟩
      have h' := h.sh
      have e2 : xI μ' 3 2 = nI na := h.all.2.1.2.2.1
      refine ⟨(xc 1, μ'), ?_, h, Or.inr ⟨rfl, a1⟩⟩
      simp only [fX_knowsAllCovers_L2, g2_0 h', f3 h', e2, Option.bind_some, Int32.le_refl, if_true, fX_knowsAllCovers_32, Option.map_some]
  obtain ⟨⟨r, μ1⟩, g⟩ := goal
  exact ⟨r, μ1, g⟩
/-- a table of what covers what -/
def CovTab (μ : xM) (V A : Nat → xPic) (nv K n : Nat) : Prop := ∀ j u, j < n → u < 2 ^ nv → Tells (xI μ 331 (64 * j + u)) (∃ CL, (∀ x, x ∈ CL ↔ x < 2 ^ (pShows (pEnd K (A j)) V nv).length ∧ pCov K V (A j) (pEnd K (A j)) (pShows (pEnd K (A j)) V nv) x) ∧ coveredBy (pShows (pEnd K (A j)) V nv) CL u)
def WFD (a k : Nat) : Prop := WFC a k ∨ a = 331
theorem WFD_scr {a k : Nat} (h : WFD a k) : Scratch a k := by unfold WFD WFC at h; unfold Scratch; omega
theorem mtab_ok (h : MSide μ A V na nv K) {i : Nat} (hi : i < na) {sh CL : List Nat} (hsh : sh = pShows (pEnd K (A i)) V nv) (B : MBase μ V nv sh) (c2 : ∀ x, x ∈ CL ↔ x < 2 ^ sh.length ∧ pCov K V (A i) (pEnd K (A i)) sh x) (c3 : CovsM μ CL) (cl : CL.length ≤ 299) (clb : ∀ x, x ∈ CL → x < 4096) (tab : CovTab μ V A nv K i) : ∃ μ1, xwh (fun s : Int32 × xM => fM_findCovered_L22 293 (nI i) s.1 s.2) (xc 0, μ) = some (.inl (nI (i + 1), μ1)) ∧ Fr (fun a _ => a = 331) μ μ1 ∧ CovTab μ1 V A nv K (i + 1) := by
  have n6 := h.2.2.2.2.1
  have hn := h.2.2.2.1
  have p64 : 2 ^ nv ≤ 64 := Nat.pow_le_pow_right (n := 2) (by decide) n6
  have goal : ∃ a, xwh (fun s : Int32 × xM => fM_findCovered_L22 293 (nI i) s.1 s.2) (xc 0, μ) = some a ∧ ∃ μ1, a = .inl (nI (i + 1), μ1) ∧ Fr (fun a _ => a = 331) μ μ1 ∧ CovTab μ1 V A nv K (i + 1) := by
    refine xwh_inv (body := fun s : Int32 × xM => fM_findCovered_L22 293 (nI i) s.1 s.2) (fun u s => s.1 = nI u ∧ Fr (fun a _ => a = 331) μ s.2 ∧ CovTab s.2 V A nv K i ∧ ∀ w, w < u → Tells (xI s.2 331 (64 * i + w)) (coveredBy sh CL w)) _ (2 ^ nv) ?_ ?_ (2 ^ nv) 0 _ (by omega) ⟨rfl, Fr.refl μ, tab, fun w hw => absurd hw (Nat.not_lt_zero w)⟩
    · rintro u ⟨x, μ'⟩ hu ⟨rfl, f, t1, t2⟩
      left
      have h' := f.sh h.1
      have B' : MBase μ' V nv sh := ⟨h', B.2.1.fr f (fun a k q => by omega), B.2.2.1, B.2.2.2.1, fun u hu => ⟨(B.2.2.2.2 u hu).1, (B.2.2.2.2 u hu).2.fr' f (fun a k q => by omega)⟩⟩
      have C' : CovsM μ' CL := ⟨(f.I (by omega)).trans c3.1, fun k hk => (f.I (by omega)).trans (c3.2 k hk)⟩
      obtain ⟨v, v1, v2⟩ := misCovered_ok B' C' clb cl (u := u)
      have c0 : ¬ nI (2 ^ nv) ≤ nI u := nI_ge hu (by omega)
      have e9 : xI μ' 293 9 = nI nv := (f.I (by omega)).trans h.2.2.1
      have ix : xc 64 * nI i + nI u = nI (64 * i + u) := by rw [show xc 64 = nI 64 from rfl, pk_mul, nI_add]
      refine ⟨(nI (u + 1), xsI μ' 331 (64 * i + u) v), ?_, rfl, f.s _ rfl, fun j w hj hw => ?_, fun w hw => ?_⟩
      · simp only [fM_findCovered_L22, f293 h', e9, Option.bind_some, nI_bit (show nv < 32 by omega), c0, if_false, g293_60 h', v1, ix, sz331 h' (show 64 * i + u < 640 by omega) v2.zo, inc1]
      · rw [xI_ne (by omega)]
        exact t1 j w hj hw
      · by_cases z : w = u
        · subst z; rw [xI_eq]; exact v2
        · rw [xI_ne (by omega)]; exact t2 w (by omega)
    · rintro ⟨x, μ'⟩ ⟨rfl, f, t1, t2⟩
      have h' := f.sh h.1
      have e9 : xI μ' 293 9 = nI nv := (f.I (by omega)).trans h.2.2.1
      refine ⟨.inl (nI (i + 1), μ'), ?_, μ', rfl, f, fun j w hj hw => ?_⟩
      · simp only [fM_findCovered_L22, f293 h', e9, Option.bind_some, nI_bit (show nv < 32 by omega), Int32.le_refl, if_true, fM_findCovered_54, Option.map_some, inc1]
      · by_cases z : j = i
        · subst z
          rw [← hsh]
          refine (t2 w hw).iff ⟨fun y => ⟨CL, c2, y⟩, fun ⟨CL2, y1, x, y2, y3⟩ => ⟨x, (c2 x).mpr ((y1 x).mp y2), y3⟩⟩
        · exact t1 j w (by omega) hw
  obtain ⟨a, a1, μ1, rfl, a2⟩ := goal
  exact ⟨μ1, a1, a2⟩
theorem mknow_ok (h : MSide μ A V na nv K) : ∃ r μ1, fM_findCovered 293 μ = some (r, μ1) ∧ Fr WFD μ μ1 ∧ ((r = xc 0 ∧ ∃ j, j < na ∧ 12 < (pShows (pEnd K (A j)) V nv).length) ∨ (r = xc 1 ∧ (∀ j, j < na → (pShows (pEnd K (A j)) V nv).length ≤ 12) ∧ CovTab μ1 V A nv K na)) := by
  have hn := h.2.2.2.1
  have goal : ∃ a, fM_findCovered 293 μ = some a ∧ Fr WFD μ a.2 ∧ ((a.1 = xc 0 ∧ ∃ j, j < na ∧ 12 < (pShows (pEnd K (A j)) V nv).length) ∨ (a.1 = xc 1 ∧ (∀ j, j < na → (pShows (pEnd K (A j)) V nv).length ≤ 12) ∧ CovTab a.2 V A nv K na)) := by
    unfold fM_findCovered fM_findCovered_0
    rw [gd293 h.1]
    refine xwh_inv (body := fun s : Int32 × xM => fM_findCovered_L2 293 s.1 s.2) (fun i s => s.1 = nI i ∧ Fr WFD μ s.2 ∧ (∀ j, j < i → (pShows (pEnd K (A j)) V nv).length ≤ 12) ∧ CovTab s.2 V A nv K i) _ na ?_ ?_ na 0 _ (by omega) ⟨rfl, Fr.refl μ, fun j hj => absurd hj (Nat.not_lt_zero j), fun j u hj => absurd hj (Nat.not_lt_zero j)⟩
    · rintro i ⟨x, μ'⟩ hi ⟨rfl, f, a1, a2⟩
      have hm := h.fr (f.mono (fun a k q => WFD_scr q))
      have h' := hm.1
      have c0 : ¬ nI na ≤ nI i := nI_ge hi (by omega)
      obtain ⟨r, μ1, m1, m2, m3⟩ := mCovers_ok hm hi
      have f1 : Fr WFD μ μ1 := f.trans (m2.mono (fun a k q => Or.inl q))
      rcases m3 with ⟨m3, m4⟩ | ⟨m3, m4, qb, CL, c1, c2, c3⟩
      · right
        subst m3
        refine ⟨(xc 0, μ1), ?_, f1, Or.inl ⟨rfl, i, hi, m4⟩⟩
        simp only [fM_findCovered_L2, f293 h', hm.2.1, Option.bind_some, c0, if_false, m1, xc0T, if_true, fM_findCovered_18, Option.map_some]
      · left
        subst m3
        have hp := pow_le12 m4
        have hm1 := hm.fr (m2.mono (fun a k q => WFC_scr q))
        have tab1 : CovTab μ1 V A nv K i := fun j u hj hu => by
          rw [m2.I (by unfold WFC; omega)]
          exact a2 j u hj hu
        obtain ⟨μ2, t1, t2, t3⟩ := mtab_ok hm1 hi rfl qb.1 c2 c3 (cl_len m4 c1 c2) (fun x hx => by have := ((c2 x).mp hx).1; omega) tab1
        refine ⟨(nI (i + 1), μ2), ?_, rfl, f1.trans (t2.mono (fun a k q => Or.inr q)), fun j hj => ?_, t3⟩
        · simp only [fM_findCovered_L2, f293 h', hm.2.1, Option.bind_some, c0, if_false, m1, xc1F]
          exact t1
        · by_cases z : j = i
          · rw [z]; exact m4
          · exact a1 j (by omega)
    · rintro ⟨x, μ'⟩ ⟨rfl, f, a1, a2⟩
      have hm := h.fr (f.mono (fun a k q => WFD_scr q))
      refine ⟨(xc 1, μ'), ?_, f, Or.inr ⟨rfl, a1, a2⟩⟩
      simp only [fM_findCovered_L2, f293 hm.1, hm.2.1, Option.bind_some, Int32.le_refl, if_true, fM_findCovered_60, Option.map_some]
  obtain ⟨⟨r, μ1⟩, g⟩ := goal
  exact ⟨r, μ1, g⟩
/-- sums over a set of views -/
def sumV (m : Nat → Int32) (u : Nat) : Nat → Int32
  | 0 => 0
  | v + 1 => sumV m u v + (if u.testBit v = true then m v else 0)
theorem sumV_suc (m : Nat → Int32) (u v : Nat) : sumV m u (v + 1) = sumV m u v + (if u.testBit v = true then m v else 0) := rfl
theorem sumV_more (m : Nat → Int32) {u nv : Nat} (h : u < 2 ^ nv) : ∀ d, sumV m u (nv + d) = sumV m u nv
  | 0 => rfl
  | d + 1 => (sumV_suc m u (nv + d)).trans (by rw [sumV_more m h d, tb_hi h (Nat.le_add_right nv d), if_neg (by decide), Int32.add_zero])
theorem sumV_congr {m m' : Nat → Int32} {u : Nat} : ∀ n, (∀ v, v < n → m v = m' v) → sumV m u n = sumV m' u n
  | 0, _ => rfl
  | n + 1, h => by
    show sumV m u n + _ = sumV m' u n + _
    rw [sumV_congr n (fun v hv => h v (by omega)), h n (by omega)]
theorem xsum_ok (hh : Sh μ) {a : Nat} (ha : xK μ a = (1, 6)) {u : Nat} (hu : u < 64) : fH_sumOver 3 a (nI u) μ = some (sumV (fun v => xI μ a v) u 6) := by
  unfold fH_sumOver fH_sumOver_0
  rw [gd3 hh]
  refine xwh_for (fun v => (sumV (fun v => xI μ a v) u v, nI v)) 6 _ (fun v hv => ?_) ?_ 6 0 (by omega)
  · have c0 : ¬ xc 6 ≤ nI v := nI_ge (b := 6) hv (by decide)
    have ba := nI_bitAt (n := u) (r := v) (by omega) (by omega)
    have t1 : ldA μ a (nI v) = some (xI μ a v) := ldA_k ha hv (by decide)
    dsimp only
    by_cases q : u.testBit v = true
    · rw [if_pos q] at ba
      simp only [fH_sumOver_L5, c0, if_false, ba, xc1F, t1, Option.bind_some, fH_sumOver_28, inc1]
      rw [sumV_suc, if_pos q]
    · rw [if_neg q] at ba
      simp only [fH_sumOver_L5, c0, if_false, ba, xc0T, if_true, fH_sumOver_28, inc1]
      rw [sumV_suc, if_neg q, Int32.add_zero]
  · dsimp only
    simp only [fH_sumOver_L5, show (xc 6 ≤ nI 6) = True from by decide, if_true, fH_sumOver_34, Option.map_some]
/-- what a set of views costs -/
def costV (μ : xM) (u : Nat) (cov : Nat → Bool) (s0 : Int32) : Nat → Int32
  | 0 => s0
  | j + 1 => costV μ u cov s0 j + xI μ 7 j * (if cov j = true then xc 1 else xI μ 3 7)
theorem costV_suc (μ : xM) (u : Nat) (cov : Nat → Bool) (s0 : Int32) (j : Nat) : costV μ u cov s0 (j + 1) = costV μ u cov s0 j + xI μ 7 j * (if cov j = true then xc 1 else xI μ 3 7) := rfl
theorem bit_mul {u v : Nat} (hu : u < 2 ^ 31) (hv : v < 32) (m : Int32) : ((nI u >>> (nI v &&& 31)) &&& xc 1) * m = if u.testBit v = true then m else 0 := by
  rw [nI_bitAt hu hv]
  by_cases q : u.testBit v = true
  · rw [if_pos q, if_pos q]
    exact Int32.one_mul m
  · rw [if_neg q, if_neg q]
    exact Int32.zero_mul
theorem xcost_ok (hS : SimA L xs μ A V na nv T K kb gb) {u : Nat} (hu : u < 64) : fX_costOf 2 (nI u) μ = some (costV μ u (fun j => lb (xL μ (213 + 8 * j) 5) u) (sumV (fun v => xI μ 9 v) u 6) na) := by
  have hh := hS.sh
  have hn := hS.na10
  have e2 : xI μ 3 2 = nI na := hS.all.2.1.2.2.1
  have sm := xsum_ok (a := 9) hh (kd9 hh) hu
  unfold fX_costOf fX_costOf_0
  rw [gd2 hh, g2_0 hh, Option.bind_some, Option.bind_some, g3_13 hh, Option.bind_some, sm, Option.bind_some]
  refine xwh_for (fun j => (costV μ u (fun j => lb (xL μ (213 + 8 * j) 5) u) (sumV (fun v => xI μ 9 v) u 6) j, nI j)) na _ (fun j hj => ?_) ?_ na 0 (by omega)
  · have c0 : ¬ nI na ≤ nI j := nI_ge hj (by omega)
    have hj10 : j < 10 := by omega
    have xb := xcovBy_ok (sight_at hh j hj10) hu
    dsimp only
    by_cases q : lb (xL μ (213 + 8 * j) 5) u = true
    · rw [if_pos q] at xb
      simp only [fX_costOf_L18, g2_0 hh, f3 hh, e2, Option.bind_some, c0, if_false, g3_11 hh, la7 hh hj10, g2_6 hh, ar_sight hh hj10, xb, xc1F, fX_costOf_63, inc1]
      rw [costV_suc, if_pos q]
    · rw [if_neg q] at xb
      simp only [fX_costOf_L18, g2_0 hh, f3 hh, e2, Option.bind_some, c0, if_false, g3_11 hh, la7 hh hj10, g2_6 hh, ar_sight hh hj10, xb, xc0T, if_true, fX_costOf_63, inc1]
      rw [costV_suc, if_neg q]
  · dsimp only
    simp only [fX_costOf_L18, g2_0 hh, f3 hh, e2, Option.bind_some, Int32.le_refl, if_true, fX_costOf_72, Option.map_some]
/-- the reference's cost, in the class's words: μ the memory of the relation, μ2 behind the reference's work -/
theorem mcost_ok (hS : SimA L xs μ A V na nv T K kb gb) (th : ∀ j, j < na → (pShows (pEnd K (A j)) V nv).length ≤ 12 ∧ ThroughOK μ (213 + 8 * j) K nv V (A j)) {μ2 : xM} (f : Fr WFD μ μ2) (tab : CovTab μ2 V A nv K na) {u : Nat} (hu : u < 2 ^ nv) : fM_costOf 293 (nI u) μ2 = some (costV μ u (fun j => lb (xL μ (213 + 8 * j) 5) u) (sumV (fun v => xI μ 9 v) u 6) na) := by
  have h2 := f.sh hS.sh
  have hn := hS.na10
  have n6 := hS.nv6
  have all := hS.all
  have p64 : 2 ^ nv ≤ 64 := Nat.pow_le_pow_right (n := 2) (by decide) n6
  have e9 : xI μ2 293 9 = nI nv := (f.I (by unfold WFD WFC; omega)).trans all.2.2.1.2.1
  have e8 : xI μ2 293 8 = nI na := (f.I (by unfold WFD WFC; omega)).trans all.2.2.1.1
  have e24 : xI μ2 293 24 = xI μ 3 7 := (f.I (by unfold WFD WFC; omega)).trans all.2.2.1.2.2.2.1
  have mend : ∀ v, v < nv → xI μ2 308 v = xI μ 9 v := fun v hv => (f.I (by unfold WFD WFC; omega)).trans (all.2.2.2.2.2.1 v hv).2.1
  have wgt : ∀ j, j < na → xI μ2 306 j = xI μ 7 j := fun j hj => (f.I (by unfold WFD WFC; omega)).trans (all.2.2.2.2.2.2.2.2.1.1 j hj)
  unfold fM_costOf fM_costOf_0
  rw [gd293 h2]
  refine xwh_for (fun v => (sumV (fun v => xI μ 9 v) u v, nI v)) nv _ (fun v hv => ?_) ?_ nv 0 (by omega)
  · have c0 : ¬ nI nv ≤ nI v := nI_ge hv (by omega)
    dsimp only
    simp only [fM_costOf_L4, f293 h2, e9, Option.bind_some, c0, if_false, g293_19 h2, la308 h2 (show v < 6 by omega), mend v hv, bit_mul (show u < 2 ^ 31 by omega) (show v < 32 by omega), inc1]
    rfl
  · have fin : fM_costOf_33 293 (nI u) (sumV (fun v => xI μ 9 v) u nv) μ2 = some (costV μ u (fun j => lb (xL μ (213 + 8 * j) 5) u) (sumV (fun v => xI μ 9 v) u 6) na) := by
      unfold fM_costOf_33
      have es : sumV (fun v => xI μ 9 v) u 6 = sumV (fun v => xI μ 9 v) u nv := by
        have := sumV_more (fun v => xI μ 9 v) hu (6 - nv)
        rw [show nv + (6 - nv) = 6 by omega] at this
        exact this
      rw [es]
      refine xwh_for (fun j => (costV μ u (fun j => lb (xL μ (213 + 8 * j) 5) u) (sumV (fun v => xI μ 9 v) u nv) j, nI j)) na _ (fun j hj => ?_) ?_ na 0 (by omega)
      · have c0 : ¬ nI na ≤ nI j := nI_ge hj (by omega)
        have hj10 : j < 10 := by omega
        have ix : xc 64 * nI j + nI u = nI (64 * j + u) := by rw [show xc 64 = nI 64 from rfl, pk_mul, nI_add]
        have t1 : ldAZ μ2 331 (nI (64 * j + u)) = some (xI μ2 331 (64 * j + u)) := lz331 h2 (by omega)
        have tl := tab j u hj hu
        have iff1 : lb (xL μ (213 + 8 * j) 5) u = true ↔ ∃ CL, (∀ x, x ∈ CL ↔ x < 2 ^ (pShows (pEnd K (A j)) V nv).length ∧ pCov K V (A j) (pEnd K (A j)) (pShows (pEnd K (A j)) V nv) x) ∧ coveredBy (pShows (pEnd K (A j)) V nv) CL u := by
          constructor
          · intro w
            obtain ⟨x, h1, h2, h3⟩ := ((th j hj).2.2.2.1 u (by omega)).mp w
            obtain ⟨CL, c1⟩ : ∃ CL : List Nat, ∀ x, x ∈ CL ↔ x < 2 ^ (pShows (pEnd K (A j)) V nv).length ∧ pCov K V (A j) (pEnd K (A j)) (pShows (pEnd K (A j)) V nv) x := by
              obtain ⟨r, μ9, z1, z2, z3⟩ := mCovers_ok hS.mside hj
              rcases z3 with ⟨_, z3⟩ | ⟨_, _, _, CL, _, c2, _⟩
              · exact absurd z3 (by have := (th j hj).1; omega)
              · exact ⟨CL, c2⟩
            exact ⟨CL, c1, (covered_iff (th j hj).2 c1 (by omega)).mp w⟩
          · rintro ⟨CL, c1, w⟩
            exact (covered_iff (th j hj).2 c1 (by omega)).mpr w
        dsimp only
        by_cases q : lb (xL μ (213 + 8 * j) 5) u = true
        · have n0 : ¬ xI μ2 331 (64 * j + u) = 0 := fun z => (tl.if0.mp z) (iff1.mp q)
          simp only [fM_costOf_L35, f293 h2, e8, Option.bind_some, c0, if_false, g293_17 h2, la306 h2 hj10, wgt j hj, g293_60 h2, ix, t1, n0, fM_costOf_72, inc1]
          rw [costV_suc, if_pos q]
        · have n0 : xI μ2 331 (64 * j + u) = 0 := tl.if0.mpr (fun z => q (iff1.mpr z))
          simp only [fM_costOf_L35, f293 h2, e8, Option.bind_some, c0, if_false, g293_17 h2, la306 h2 hj10, wgt j hj, g293_60 h2, ix, t1, n0, if_true, e24, fM_costOf_72, inc1]
          rw [costV_suc, if_neg q]
      · dsimp only
        simp only [fM_costOf_L35, f293 h2, e8, Option.bind_some, Int32.le_refl, if_true, fM_costOf_81, Option.map_some]
    dsimp only
    simp only [fM_costOf_L4, f293 h2, e9, Option.bind_some, Int32.le_refl, if_true, fin, Option.map_some]
theorem sim_cost (a1 : Int32) (hS : Sim L xs μ) : SimR L xs (fX_cost 2 a1 μ) (fun μ => fM_cost 293 a1 μ) := by
  obtain ⟨A, V, na, nv, T, K, kb, gb, hA⟩ := simA_iff.mp hS
  have hh := hS.sh
  have n6 := hA.nv6
  have all := hA.all
  rcases xareViews_ok hh all.2.1.2.2.2.1 n6 a1 with ⟨v1, u, hu, rfl⟩ | ⟨v1, v2⟩
  · have hu64 : u < 64 := Nat.lt_of_lt_of_le hu (Nat.pow_le_pow_right (n := 2) (by decide) n6)
    obtain ⟨r, μ1, s1, s2, s3⟩ := xknow_ok hA
    have h1 := s2.sh
    have mv : ∀ z, Sh z → xI z 293 9 = nI nv → fM_areViews 293 (nI u) z = some (xc 1) := fun z hz e => (mareViews_ok hz e n6 (nI u)).2 u hu rfl
    rcases s3 with ⟨rfl, j, hj, q⟩ | ⟨rfl, th⟩
    · refine sim_refuse2 5 s2.sim (by decide) (by decide) ?_ (fun μ2 h1' h2' => ?_)
      · simp only [fX_cost, fX_cost_0, gd2 hh, v1, Option.bind_some, xc1F, if_false, s1, xc0T, if_true, bind_eta]
        rfl
      · obtain ⟨r, μ3, m1, m2, m3⟩ := mknow_ok (s2.mside.eq h1' h2')
        rcases m3 with ⟨m3, _⟩ | ⟨_, m3, _⟩
        · refine ⟨μ3, m2.mono (fun a k q => WFD_scr q), ?_⟩
          simp only [fM_cost, fM_cost_0, gd293 h1', mv μ2 h1' ((h2' _ _ (by decide)).trans s2.all.2.2.1.2.1), Option.bind_some, xc1F, if_false, m1, m3, xc0T, if_true, bind_eta]
          rfl
        · exact absurd q (by have := m3 j hj; omega)
    · obtain ⟨r, μ3, m1, m2, m3⟩ := mknow_ok s2.mside
      rcases m3 with ⟨_, j, hj, m3⟩ | ⟨m3, _, tab⟩
      · exact absurd m3 (by have := (th j hj).1; omega)
      · have xe := xcost_ok s2 hu64
        have me := mcost_ok s2 th m2 tab hu
        refine sim_ans (r := costV μ1 u (fun j => lb (xL μ1 (213 + 8 * j) 5) u) (sumV (fun v => xI μ1 9 v) u 6) na) (μ2 := μ3) s2.sim ?_ ?_ (m2.mono (fun a k q => WFD_scr q))
        · simp only [fX_cost, fX_cost_0, gd2 hh, v1, Option.bind_some, xc1F, if_false, s1, xe]
        · simp only [fM_cost, fM_cost_0, gd293 h1, mv μ1 h1 s2.all.2.2.1.2.1, Option.bind_some, xc1F, if_false, m1, m3, me]
  · refine sim_refuse 1 hS (by decide) (by decide) ?_ (fun μ1 h1 h2 => ?_)
    · simp only [fX_cost, fX_cost_0, gd2 hh, v1, Option.bind_some, xc0T, if_true, bind_eta]
      rfl
    · simp only [fM_cost, fM_cost_0, gd293 h1, (mareViews_ok h1 ((h2 _ _ (by decide)).trans all.2.2.1.2.1) n6 a1).1 v2, Option.bind_some, xc0T, if_true, bind_eta]
      rfl
end COST
