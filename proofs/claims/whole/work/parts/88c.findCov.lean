/-! the reference finds all covers -/
theorem few_sets : ((List.range 4096).filter (fun x => decide (onesN 12 x ≤ 3))).length ≤ 299 := by decide +kernel
/-- the reference's side of the relation -/
def MSide (μ : xM) (A V : Nat → xPic) (na nv K : Nat) : Prop := Sh μ ∧ xI μ 293 8 = nI na ∧ xI μ 293 9 = nI nv ∧ na ≤ 10 ∧ nv ≤ 6 ∧ (∀ t, t < 3 → xI μ 295 t = if K.testBit t then xc 1 else xc 0) ∧ (∀ i, i < na → PicWf (A i) ∧ PicM μ i (A i)) ∧ ∀ u, u < nv → PicWf (V u) ∧ PicM μ (10 + u) (V u)
section FINDC
variable {L : Nat} {xs : Nat → Int32} {μ : xM} {A V : Nat → xPic} {na nv T K kb gb : Nat}
theorem SimA.mside (h : SimA L xs μ A V na nv T K kb gb) : MSide μ A V na nv K := ⟨h.sh, h.all.2.2.1.1, h.all.2.2.1.2.1, h.na10, h.nv6, h.keys, fun i hi => ⟨h.wfA hi, h.mA hi⟩, h.mvs⟩
theorem MSide.fr {μ' : xM} (h : MSide μ A V na nv K) (f : Fr Scratch μ μ') : MSide μ' A V na nv K := ⟨f.sh h.1, (f.I (by unfold Scratch; omega)).trans h.2.1, (f.I (by unfold Scratch; omega)).trans h.2.2.1, h.2.2.2.1, h.2.2.2.2.1, fun t ht => (f.I (by unfold Scratch; omega)).trans (h.2.2.2.2.2.1 t ht), fun i hi => ⟨(h.2.2.2.2.2.2.1 i hi).1, (h.2.2.2.2.2.2.1 i hi).2.fr' f (fun a k q => by unfold Scratch; omega)⟩, fun i hi => ⟨(h.2.2.2.2.2.2.2 i hi).1, (h.2.2.2.2.2.2.2 i hi).2.fr' f (fun a k q => by unfold Scratch; omega)⟩⟩
theorem MSide.eq {μ' : xM} (h : MSide μ A V na nv K) (hh : Sh μ') (e : ∀ a j, 293 ≤ a → xI μ' a j = xI μ a j) : MSide μ' A V na nv K := ⟨hh, (e _ _ (by decide)).trans h.2.1, (e _ _ (by decide)).trans h.2.2.1, h.2.2.2.1, h.2.2.2.2.1, fun t ht => (e _ _ (by decide)).trans (h.2.2.2.2.2.1 t ht), fun i hi => ⟨(h.2.2.2.2.2.2.1 i hi).1, (h.2.2.2.2.2.2.1 i hi).2.fr (fun a k z _ => e a k (by omega))⟩, fun i hi => ⟨(h.2.2.2.2.2.2.2 i hi).1, (h.2.2.2.2.2.2.2 i hi).2.fr (fun a k z _ => e a k (by omega))⟩⟩
theorem shX_ok {E : xPic × Nat × Bool} (bE : TB E.1 7) (n6 : nv ≤ 6) (wv : ∀ u, u < nv → PicWf (V u)) {x : Nat} (hx : x ∈ pShows E V nv) : ShX V nv x := by
  have lt := shows_lt hx
  have hN : E.2.2 = false := by
    cases h : E.2.2 with
    | false => rfl
    | true =>
      unfold pShows at hx
      rw [if_pos h] at hx
      exact absurd hx List.not_mem_nil
  obtain ⟨v, h1, h2⟩ := (shows_mem hN bE).mp hx
  have hc := codeOf_mem bE h2
  have ev := codeOf_div hc
  obtain ⟨g, g1, g2⟩ := List.mem_map.mp h2
  have b7 : gB 7 g := phoms_B (fun e he => (bE.1 e he).2) _ _ (gB_gN 7) g1
  have dg : ∀ k, k < 3 → pterm x k = dig (V v) g k := fun k hk => by
    rw [← g2, pcd_dig]
    obtain ⟨p0, p1, p2⟩ := pterm_code (v := v) (dig_lt (P := V v) b7 0) (dig_lt (P := V v) b7 1) (dig_lt (P := V v) b7 2)
    obtain rfl | rfl | rfl : k = 0 ∨ k = 1 ∨ k = 2 := by omega
    · exact p0
    · exact p1
    · exact p2
  unfold ShX
  rw [ev]
  refine ⟨h1, by omega, hc, fun k => ?_, fun k k' hk hk' e => ?_⟩
  · by_cases q : k < 3
    · rw [dg k q]; exact dig_lt b7 k
    · have e2 : pterm x k = pterm x 2 := by unfold pterm; rw [show 2 - k = 2 - 2 by omega]
      rw [e2, dg 2 (by decide)]; exact dig_lt b7 2
  · have l3 := (wv v h1).2.2.1
    rw [dg k (by omega), dg k' (by omega)]
    unfold dig
    rw [getD_map (d := 0) hk, getD_map (d := 0) hk', e]
def WFC (a k : Nat) : Prop := a = 293 ∧ 26 ≤ k ∧ k ≤ 52 ∨ 313 ≤ a ∧ a ≤ 327
theorem WFC_scr {a k : Nat} (h : WFC a k) : Scratch a k := by unfold WFC at h; unfold Scratch; omega
def CovsM (μ : xM) (CL : List Nat) : Prop := xI μ 293 52 = nI CL.length ∧ ∀ i, i < CL.length → xI μ 327 i = nI (CL.getD i 0)
/-- what all covers come to -/
def CovP (μ μ' : xM) (r : Int32) (A V : Nat → xPic) (na nv K j : Nat) : Prop := Fr WFC μ μ' ∧ ((r = xc 0 ∧ 12 < (pShows (pEnd K (A j)) V nv).length) ∨ (r = xc 1 ∧ (pShows (pEnd K (A j)) V nv).length ≤ 12 ∧ QBase μ' V nv K j (pShows (pEnd K (A j)) V nv) (pEnd K (A j)) (A j) ∧ ∃ CL, Srt CL ∧ (∀ x, x ∈ CL ↔ x < 2 ^ (pShows (pEnd K (A j)) V nv).length ∧ pCov K V (A j) (pEnd K (A j)) (pShows (pEnd K (A j)) V nv) x) ∧ CovsM μ' CL))
theorem cov3 {K : Nat} {V : Nat → xPic} {a : xPic} {E : xPic × Nat × Bool} {sh : List Nat} {x : Nat} (hl : sh.length ≤ 12) (hx : x < 2 ^ sh.length) (h : pCov K V a E sh x) : onesN 12 x ≤ 3 := by
  rcases h with ⟨_, h⟩ | ⟨_, _, h, _⟩
  · rw [h]; decide
  · rw [ones_pbits, pbits_wide hx hl]; exact h
theorem mCovLoop_ok {K q nv : Nat} {V : Nat → xPic} {sh : List Nat} {E : xPic × Nat × Bool} {a : xPic} (h : QBase μ V nv K q sh E a) (e52 : xI μ 293 52 = nI 0) : ∃ μ1 CL, xwh (fun s : Int32 × xM => fM_findCovers_L17 293 (nI q) s.1 s.2) (xc 0, μ) = some (xc 1, μ1) ∧ Fr WFC μ μ1 ∧ QBase μ1 V nv K q sh E a ∧ Srt CL ∧ (∀ x, x ∈ CL ↔ x < 2 ^ sh.length ∧ pCov K V a E sh x) ∧ CovsM μ1 CL := by
  have l12 := h.1.2.1.1
  have hp := pow_le12 l12
  have goal : ∃ r, xwh (fun s : Int32 × xM => fM_findCovers_L17 293 (nI q) s.1 s.2) (xc 0, μ) = some r ∧ r.1 = xc 1 ∧ Fr WFC μ r.2 ∧ QBase r.2 V nv K q sh E a ∧ ∃ CL, Srt CL ∧ (∀ x, x ∈ CL ↔ x < 2 ^ sh.length ∧ pCov K V a E sh x) ∧ CovsM r.2 CL := by
    refine xwh_inv (body := fun s : Int32 × xM => fM_findCovers_L17 293 (nI q) s.1 s.2) (fun i s => s.1 = nI i ∧ Fr WFC μ s.2 ∧ QBase s.2 V nv K q sh E a ∧ ∃ CL, Srt CL ∧ (∀ x, x ∈ CL ↔ x < i ∧ pCov K V a E sh x) ∧ CovsM s.2 CL) _ (2 ^ sh.length) ?_ ?_ (2 ^ sh.length) 0 _ (by omega) ⟨rfl, Fr.refl μ, h, [], List.Pairwise.nil, fun x => ⟨fun z => absurd z List.not_mem_nil, fun z => absurd z.1 (Nat.not_lt_zero x)⟩, e52, fun i hi => absurd hi (Nat.not_lt_zero i)⟩
    · rintro i ⟨x, μ'⟩ hi ⟨rfl, f, B, CL, c1, c2, c3⟩
      left
      have h' := B.1.1
      have cc : ¬ nI (2 ^ sh.length) ≤ nI i := nI_ge hi (by omega)
      have on := ones_ok (f := 12) (n := i) (by omega) (by decide) μ'
      have o12 := onesN_le 12 i
      have mem : ∀ (P : Prop), ¬ pCov K V a E sh i → ∀ x, x ∈ CL ↔ x < i + 1 ∧ pCov K V a E sh x := fun _ hno x => by
        rw [c2 x]
        constructor
        · rintro ⟨z1, z2⟩; exact ⟨by omega, z2⟩
        · rintro ⟨z1, z2⟩
          by_cases e : x = i
          · rw [e] at z2; exact absurd z2 hno
          · exact ⟨by omega, z2⟩
      by_cases q3 : 3 < onesN 12 i
      · have c3' : xc 3 < nI (onesN 12 i) := nI_lt (a := 3) q3 (by omega)
        refine ⟨(nI (i + 1), μ'), ?_, rfl, f, B, CL, c1, mem True (fun z => by have := cov3 l12 hi z; omega), c3⟩
        simp only [fM_findCovers_L17, f293 h', B.1.2.1.2.1, Option.bind_some, nI_bit (show sh.length < 32 by omega), cc, if_false, on, c3', if_true, fM_findCovers_64, inc1]
      · have c3' : ¬ xc 3 < nI (onesN 12 i) := nI_nlt (a := 3) (by omega) (by decide)
        obtain ⟨v, μ2, v1, v2, v3⟩ := misCover_ok B hi (by rw [← pbits_wide hi l12, ← ones_pbits]; omega)
        have B2 := B.fr v2
        have h2 := B2.1.1
        have f2 : Fr WFC μ μ2 := f.trans (v2.mono (fun a k z => by unfold WCv FE at z; unfold WFC; omega))
        have c3n : CovsM μ2 CL := ⟨(v2.I (by unfold WCv FE; omega)).trans c3.1, fun k hk => (v2.I (by unfold WCv FE; omega)).trans (c3.2 k hk)⟩
        rcases v3 with ⟨e, v3⟩ | ⟨e, v3⟩
        · have srt' : Srt (CL ++ [i]) := List.pairwise_append.mpr ⟨c1, List.pairwise_singleton _ _, fun x hx y hy => by rw [List.mem_singleton.mp hy]; exact ((c2 x).mp hx).1⟩
          have mem' : ∀ x, x ∈ CL ++ [i] ↔ x < i + 1 ∧ pCov K V a E sh x := fun x => by
            rw [List.mem_append, List.mem_singleton, c2 x]
            constructor
            · rintro (⟨z1, z2⟩ | z)
              · exact ⟨by omega, z2⟩
              · rw [z]; exact ⟨by omega, v3⟩
            · rintro ⟨z1, z2⟩
              by_cases e : x = i
              · exact Or.inr e
              · exact Or.inl ⟨by omega, z2⟩
          have few := srt_len srt' (srt_filter (fun x => decide (onesN 12 x ≤ 3)) (srt_range 4096)) (fun x hx => by
            have z := (mem' x).mp hx
            rw [List.mem_filter, List.mem_range, decide_eq_true_eq]
            exact ⟨by omega, cov3 l12 (by omega) z.2⟩)
          have fs := few_sets
          have l300 : CL.length < 300 := by
            rw [List.length_append, List.length_singleton] at few
            omega
          have k1 : Sh (xsI μ2 327 CL.length (nI i)) := h2
          have e52' : xI (xsI μ2 327 CL.length (nI i)) 293 52 = nI CL.length := (xI_ne (by omega)).trans c3n.1
          have fx : Fr (fun a k => a = 327 ∨ a = 293 ∧ k = 52) μ2 (xsI (xsI μ2 327 CL.length (nI i)) 293 52 (nI (CL.length + 1))) := ((Fr.refl μ2).s _ (by omega)).s _ (by omega)
          have B3 : QBase (xsI (xsI μ2 327 CL.length (nI i)) 293 52 (nI (CL.length + 1))) V nv K q sh E a := by
            obtain ⟨⟨z1, z2, z3, z4, z5⟩, ⟨y2, y3, y4⟩, y5, y6, y7, y8, y9, y10⟩ := B2
            exact ⟨⟨fx.sh z1, z2.fr fx (fun a k q => by omega), z3, z4, fun u hu => ⟨(z5 u hu).1, (z5 u hu).2.fr' fx (fun a k q => by omega)⟩⟩, ⟨(fx.I (by omega)).trans y2, (fx.I (by omega)).trans y3, fun i hi => (fx.I (by omega)).trans (y4 i hi)⟩, y5, y6, fun t ht => (fx.I (by omega)).trans (y7 t ht), y8, y9, y10.fr' fx (fun a k q => by omega)⟩
          refine ⟨(nI (i + 1), xsI (xsI μ2 327 CL.length (nI i)) 293 52 (nI (CL.length + 1))), ?_, rfl, f2.trans (fx.mono (fun a k z => by unfold WFC; omega)), B3, CL ++ [i], srt', mem', ?_, fun k hk => ?_⟩
          · simp only [fM_findCovers_L17, f293 h', B.1.2.1.2.1, Option.bind_some, nI_bit (show sh.length < 32 by omega), cc, if_false, on, c3', v1, e, xc1F, g293_53 h2, f293 h2, c3n.1, sa327 h2 _ l300, f293 k1, e52', fs293 k1, fM_findCovers_64, inc1]
          · rw [xI_eq, List.length_append]; rfl
          · rw [List.length_append, List.length_singleton] at hk
            rw [xI_ne (by omega)]
            by_cases z : k = CL.length
            · subst z
              rw [xI_eq, getD_app_r]
            · rw [xI_ne (by omega), getD_app_l (by omega)]
              exact c3n.2 k (by omega)
        · refine ⟨(nI (i + 1), μ2), ?_, rfl, f2, B2, CL, c1, mem True v3, c3n⟩
          simp only [fM_findCovers_L17, f293 h', B.1.2.1.2.1, Option.bind_some, nI_bit (show sh.length < 32 by omega), cc, if_false, on, c3', v1, e, xc0T, if_true, fM_findCovers_64, inc1]
    · rintro ⟨x, μ'⟩ ⟨rfl, f, B, CL, c1, c2, c3⟩
      have h' := B.1.1
      refine ⟨(xc 1, μ'), ?_, rfl, f, B, CL, c1, c2, c3⟩
      simp only [fM_findCovers_L17, f293 h', B.1.2.1.2.1, Option.bind_some, nI_bit (show sh.length < 32 by omega), Int32.le_refl, if_true, fM_findCovers_70, Option.map_some]
  obtain ⟨⟨v, μ1⟩, g1, g2, g3, g4, CL, g5⟩ := goal
  have g2' : v = xc 1 := g2
  subst g2'
  exact ⟨μ1, CL, g1, g3, g4, g5⟩
theorem mCovers_ok (h : MSide μ A V na nv K) {j : Nat} (hj : j < na) : ∃ r μ', fM_findCovers 293 (nI j) μ = some (r, μ') ∧ CovP μ μ' r A V na nv K j := by
  have hh := h.1
  have f0 : Fr WFC μ (xsI μ 293 52 (xc 0)) := (Fr.refl μ).s _ (by unfold WFC; omega)
  have h0 := h.fr (f0.mono (fun a k q => WFC_scr q))
  obtain ⟨wA, cA⟩ := h0.2.2.2.2.2.2.1 j hj
  have hn := h.2.2.2.1
  obtain ⟨⟨r, μ1⟩, m1, m2, m3, m4⟩ := findShows_ok (V := V) (nv := nv) (K := K) h0.1 cA (by omega) wA h0.2.2.2.2.2.1 h0.2.2.1 h0.2.2.2.2.1 h0.2.2.2.2.2.2.2
  have f1 : Fr WFC μ μ1 := f0.trans (m2.mono (fun a k q => by unfold WFS at q; unfold WFC; omega))
  rcases m4 with ⟨m4, m5, m6⟩ | ⟨m4, m5⟩
  · have m4' : r = xc 1 := m4
    subst m4'
    have keep := pEnd_keep (K := K) wA.tb
    have h1 := h0.fr (m2.mono (fun a k q => WFS_scr q))
    have qb : QBase μ1 V nv K j (pShows (pEnd K (A j)) V nv) (pEnd K (A j)) (A j) := ⟨⟨h1.1, m6, h1.2.2.2.2.1, fun x hx => shX_ok keep.1 h1.2.2.2.2.1 (fun u hu => (h1.2.2.2.2.2.2.2 u hu).1) hx, h1.2.2.2.2.2.2.2⟩, m3, keep.1, by rw [keep.2.2]; exact wA.2.2.1, h1.2.2.2.2.2.1, by omega, wA, (h1.2.2.2.2.2.2.1 j hj).2⟩
    have e52 : xI μ1 293 52 = nI 0 := by rw [m2.I (by unfold WFS; omega), xI_eq]; rfl
    obtain ⟨μ2, CL, c1, c2, c3, c4⟩ := mCovLoop_ok qb e52
    refine ⟨xc 1, μ2, ?_, f1.trans c2, Or.inr ⟨rfl, m5, c3, CL, c4⟩⟩
    simp only [fM_findCovers, fM_findCovers_0, gd293 hh, fs293 hh, Option.bind_some, m1, xc1F, if_false]
    exact c1
  · have m4' : r = xc 0 := m4
    subst m4'
    refine ⟨xc 0, μ1, ?_, f1, Or.inl ⟨rfl, m5⟩⟩
    simp only [fM_findCovers, fM_findCovers_0, gd293 hh, fs293 hh, Option.bind_some, m1, xc0T, if_true]
theorem mviewsOf_ok {V : Nat → xPic} {nv : Nat} {sh : List Nat} (h : MBase μ V nv sh) {set : Nat} (hs : set < 2 ^ 31) : fM_viewsOf 293 (nI set) μ = some (nI (vB sh set)) := by
  have hh := h.1
  have l12 := h.2.1.1
  unfold fM_viewsOf fM_viewsOf_0 vB
  rw [gd293 hh]
  refine xwh_for (fun i => (nI (orUp (fun i => if set.testBit i = true then 2 ^ (sh.getD i 0 / 512) else 0) i), nI i)) sh.length _ (fun i hi => ?_) ?_ sh.length 0 (by omega)
  · have c0 : ¬ nI sh.length ≤ nI i := nI_ge hi (by omega)
    have hx := h.2.2.2.1 _ (getD_memD (d := 0) hi)
    have n6 := h.2.2.1
    have hx1 := hx.1
    have mb := mbit (set := set) (i := i) hs (by omega)
    dsimp only
    by_cases q : set.testBit i = true
    · have mb' := mb.mpr q
      simp only [fM_viewsOf_L4, f293 hh, h.2.1.2.1, Option.bind_some, c0, if_false, mb', if_true, g293_41 hh, h.view hi, fM_viewsOf_34, nI_bit (show sh.getD i 0 / 512 < 32 by omega), nI_or, inc1]
      rw [orUp_suc, if_pos q]
    · have mb' : ¬ (nI set >>> (nI i &&& 31)) &&& xc 1 = xc 1 := fun w => q (mb.mp w)
      simp only [fM_viewsOf_L4, f293 hh, h.2.1.2.1, Option.bind_some, c0, if_false, mb', fM_viewsOf_34, show xc 0 = nI 0 from rfl, nI_or, inc1]
      rw [orUp_suc, if_neg q]
  · dsimp only
    simp only [fM_viewsOf_L4, f293 hh, h.2.1.2.1, Option.bind_some, Int32.le_refl, if_true, fM_viewsOf_42, Option.map_some]
/-- a set of views holds those of some cover -/
def coveredBy (sh CL : List Nat) (u : Nat) : Prop := ∃ x, x ∈ CL ∧ ∀ i, (vB sh x).testBit i = true → u.testBit i = true
theorem cl_len {K : Nat} {V : Nat → xPic} {sh CL : List Nat} {E : xPic × Nat × Bool} {a : xPic} (hl : sh.length ≤ 12) (c1 : Srt CL) (c2 : ∀ x, x ∈ CL ↔ x < 2 ^ sh.length ∧ pCov K V a E sh x) : CL.length ≤ 299 := by
  have hp := pow_le12 hl
  have few := srt_len c1 (srt_filter (fun x => decide (onesN 12 x ≤ 3)) (srt_range 4096)) (fun x hx => by
    have z := (c2 x).mp hx
    rw [List.mem_filter, List.mem_range, decide_eq_true_eq]
    exact ⟨by omega, cov3 hl z.1 z.2⟩)
  have := few_sets
  omega
theorem misCovered_ok {V : Nat → xPic} {nv : Nat} {sh CL : List Nat} (h : MBase μ V nv sh) (hC : CovsM μ CL) (hb : ∀ x, x ∈ CL → x < 4096) (hl : CL.length ≤ 299) {u : Nat} : ∃ v, fM_isCovered 293 (nI u) μ = some v ∧ Tells v (coveredBy sh CL u) := by
  have hh := h.1
  have shv : ∀ x, x ∈ sh → x < 3072 := fun x hx => by have := (h.2.2.2.1 x hx).1; have := h.2.2.1; omega
  unfold fM_isCovered fM_isCovered_0
  rw [gd293 hh]
  refine xwh_inv (body := fun s : Int32 × Int32 => fM_isCovered_L4 293 (nI u) s.1 s.2 μ) (fun c s => s.2 = nI c ∧ Tells s.1 (coveredBy sh (CL.take c) u)) _ CL.length ?_ ?_ CL.length 0 _ (by omega) ⟨rfl, Or.inr ⟨rfl, fun ⟨x, z, _⟩ => absurd z List.not_mem_nil⟩⟩
  · rintro c ⟨v, y⟩ hc ⟨rfl, hv⟩
    left
    have c0 : ¬ nI CL.length ≤ nI c := nI_ge hc (by omega)
    have tC : ldA μ 327 (nI c) = some (nI (CL.getD c 0)) := by rw [la327 hh (by omega), hC.2 c hc]
    have tk := take_succD CL c 0 hc
    have up : coveredBy sh (CL.take c) u → coveredBy sh (CL.take (c + 1)) u := fun ⟨x, z1, z2⟩ => ⟨x, by rw [tk]; exact List.mem_append_left _ z1, z2⟩
    have hx := hb _ (getD_memD (d := 0) hc)
    rcases hv with ⟨hv1, hv2⟩ | ⟨hv1, hv2⟩
    · have e : v = xc 1 := hv1
      subst e
      refine ⟨(xc 1, nI (c + 1)), ?_, rfl, Or.inl ⟨rfl, up hv2⟩⟩
      simp only [fM_isCovered_L4, f293 hh, hC.1, Option.bind_some, c0, if_false, xc1F, fM_isCovered_33, fM_isCovered_38, inc1]
    · have e : v = xc 0 := hv1
      subst e
      have vo := mviewsOf_ok h (set := CL.getD c 0) (by omega)
      have vlt := vB_lt (set := CL.getD c 0) shv
      have ps : pSub (vB sh (CL.getD c 0)) u ↔ ∀ i, (vB sh (CL.getD c 0)).testBit i = true → u.testBit i = true := pSub_iff (by omega)
      by_cases q : pSub (vB sh (CL.getD c 0)) u
      · have q' : nI (vB sh (CL.getD c 0)) &&& (nI u ^^^ xc (-1)) = 0 := (pSub_w (by omega)).mpr q
        refine ⟨(xc 1, nI (c + 1)), ?_, rfl, Or.inl ⟨rfl, CL.getD c 0, by rw [tk]; exact List.mem_append_right _ (List.mem_singleton.mpr rfl), ps.mp q⟩⟩
        simp only [fM_isCovered_L4, f293 hh, hC.1, Option.bind_some, c0, if_false, xc0T, if_true, g293_53 hh, tC, vo, q', fM_isCovered_33, fM_isCovered_38, inc1]
      · have q' : ¬ nI (vB sh (CL.getD c 0)) &&& (nI u ^^^ xc (-1)) = 0 := fun z => q ((pSub_w (by omega)).mp z)
        refine ⟨(xc 0, nI (c + 1)), ?_, rfl, Or.inr ⟨rfl, ?_⟩⟩
        · simp only [fM_isCovered_L4, f293 hh, hC.1, Option.bind_some, c0, if_false, xc0T, if_true, g293_53 hh, tC, vo, q', fM_isCovered_38, inc1]
        · rintro ⟨x, z1, z2⟩
          rw [tk, List.mem_append, List.mem_singleton] at z1
          rcases z1 with z1 | z1
          · exact hv2 ⟨x, z1, z2⟩
          · rw [z1] at z2
            exact q (ps.mpr z2)
  · rintro ⟨v, y⟩ ⟨rfl, hv⟩
    rw [List.take_length] at hv
    refine ⟨v, ?_, hv⟩
    simp only [fM_isCovered_L4, f293 hh, hC.1, Option.bind_some, Int32.le_refl, if_true, fM_isCovered_45, hv.zo, Option.map_some]
end FINDC
