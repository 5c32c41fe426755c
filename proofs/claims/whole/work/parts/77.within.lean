/-! calls over ends: steps, end, within, same -/
def SimA (L : Nat) (xs : Nat → Int32) (μ : xM) (A V : Nat → xPic) (na nv T K kb gb : Nat) : Prop := SimO L xs μ ∧ SimH μ A V na nv T K kb gb ∧ SimP μ A V na nv ∧ SimC μ ∧ SimB μ ∧ SimT μ ∧ SimF μ ∧ SimI μ A V na nv ∧ SimS μ A V na nv K
theorem simA_iff {L : Nat} {xs : Nat → Int32} {μ : xM} : Sim L xs μ ↔ ∃ A V na nv T K kb gb, SimA L xs μ A V na nv T K kb gb := by
  rw [sim_un]
  constructor
  · rintro ⟨o, A, V, na, nv, T, K, kb, gb, h⟩
    exact ⟨A, V, na, nv, T, K, kb, gb, o, h⟩
  · rintro ⟨A, V, na, nv, T, K, kb, gb, o, h⟩
    exact ⟨o, A, V, na, nv, T, K, kb, gb, h⟩
section WITHIN
variable {L : Nat} {xs : Nat → Int32} {μ : xM} {A V : Nat → xPic} {na nv T K kb gb : Nat}
theorem SimA.sim (h : SimA L xs μ A V na nv T K kb gb) : Sim L xs μ := simA_iff.mpr ⟨A, V, na, nv, T, K, kb, gb, h⟩
theorem SimA.sh (h : SimA L xs μ A V na nv T K kb gb) : Sh μ := h.1.1
theorem SimA.scr {μ' : xM} (h : SimA L xs μ A V na nv T K kb gb) (f : Fr Scratch μ μ') : SimA L xs μ' A V na nv T K kb gb := by
  obtain ⟨o, hH, hP, hC, hB, hT, hF, hI, hS⟩ := h
  have hn : na ≤ 10 := hH.1
  exact ⟨o.fr f (fun a k q => by unfold Scratch; omega), hH.fr f (fun a k q => by unfold FH FMo at q; unfold Scratch; omega), hP.fr f (fun a k q => by unfold FP at q; unfold Scratch; omega), hC.fr f (fun a k q => by unfold FC at q; unfold Scratch; omega), hB.fr f (fun a k q => by unfold FB at q; unfold Scratch; omega), hT.fr f (fun a k q => by unfold FT at q; unfold Scratch; omega), hF.fr f (fun a k q => by unfold FF at q; unfold Scratch; omega), hI.fr f (fun a k q => by unfold FI at q; unfold Scratch; omega), hS.fr f hn (fun a k q => by unfold FS at q; unfold Scratch; omega)⟩
theorem SimA.na10 (h : SimA L xs μ A V na nv T K kb gb) : na ≤ 10 := h.2.1.1
theorem SimA.nv6 (h : SimA L xs μ A V na nv T K kb gb) : nv ≤ 6 := h.2.1.2.1
theorem SimA.K8 (h : SimA L xs μ A V na nv T K kb gb) : K < 8 := h.2.1.2.2.2.1
theorem SimA.all (h : SimA L xs μ A V na nv T K kb gb) : HB na nv T K kb gb ∧ HS μ na nv T K kb gb ∧ HM μ na nv ∧ HT μ T K ∧ HKp μ nv kb ∧ HSz μ nv ∧ HG μ nv gb ∧ HZ μ nv ∧ HW μ na ∧ HP μ A V na nv := simH_un.mp h.2.1
theorem SimA.keys (h : SimA L xs μ A V na nv T K kb gb) : ∀ t, t < 3 → xI μ 295 t = if K.testBit t then xc 1 else xc 0 := fun t ht => by
  rw [(h.all.2.2.2.1 t ht).2, div_mod2]
  split <;> rfl
theorem SimA.wfA (h : SimA L xs μ A V na nv T K kb gb) {j : Nat} (hj : j < na) : PicWf (A j) := (h.2.2.1.1 j hj).2
theorem SimA.wfV (h : SimA L xs μ A V na nv T K kb gb) {j : Nat} (hj : j < nv) : PicWf (V j) := (h.2.2.1.2 j hj).2
theorem SimA.mA (h : SimA L xs μ A V na nv T K kb gb) {j : Nat} (hj : j < na) : PicM μ j (A j) := (h.2.2.1.1 j hj).1
theorem SimA.mV (h : SimA L xs μ A V na nv T K kb gb) {j : Nat} (hj : j < nv) : PicM μ (10 + j) (V j) := (h.2.2.1.2 j hj).1
theorem SimA.cA (h : SimA L xs μ A V na nv T K kb gb) {j : Nat} (hj : j < na) : PicC μ (12 + 5 * j) (A j) := h.all.2.2.2.2.2.2.2.2.2.1 j hj
theorem SimA.cV (h : SimA L xs μ A V na nv T K kb gb) {j : Nat} (hj : j < nv) : PicC μ (62 + 5 * j) (V j) := h.all.2.2.2.2.2.2.2.2.2.2.1 j hj
theorem SeenOK.fr' {μ' : xM} {s : Nat} {a : xPic} {W : Nat → Nat → Prop} (h : SeenOK μ s K nv V a) (f : Fr W μ μ') (d : ∀ b k, s ≤ b → b < s + 7 → ¬ W b k) : SeenOK μ' s K nv V a := h.fr (fun b k q r => f.I (d b k q r))
/-- a sight at hand -/
theorem seen_ok (hS : SimA L xs μ A V na nv T K kb gb) {j : Nat} (hj : j < na) : ∃ μ1, fX_seen 2 (nI j) μ = some (213 + 8 * j, μ1) ∧ SimA L xs μ1 A V na nv T K kb gb ∧ Fr (fun a _ => 213 + 8 * j ≤ a ∧ a < 213 + 8 * j + 8) μ μ1 ∧ SeenOK μ1 (213 + 8 * j) K nv V (A j) ∧ xI μ1 (213 + 8 * j) 8 = 1 := by
  have hh := hS.sh
  have hn := hS.na10
  have hj10 : j < 10 := by omega
  have hs := sight_at hh j hj10
  have e8 : ldF μ (213 + 8 * j) 6 8 = some (xI μ (213 + 8 * j) 8) := ldF_k (ci := 6) 8 hs.2.1
  obtain ⟨o, hH, hP, hC, hB, hT, hF, hI, hSS⟩ := hS
  have hSA : SimA L xs μ A V na nv T K kb gb := ⟨o, hH, hP, hC, hB, hT, hF, hI, hSS⟩
  have all := hSA.all
  rcases hSS j hj10 with ⟨z1, z2⟩ | ⟨_, z1, z2, z3⟩
  · obtain ⟨μ1, a1, a2, a3, a4⟩ := look_ok hh hj10 (hP.1 j hj).2 (hSA.cA hj) (fun u hu => ⟨hSA.cV hu, hSA.wfV hu⟩) hSA.nv6 hSA.K8 all.2.1.2.1 all.2.1.2.2.2.1 z1
    have h1 := a2.sh hh
    have f : Fr (fun a _ => 213 + 8 * j ≤ a ∧ a < 213 + 8 * j + 8) μ μ1 := a2.mono (fun a k q => by unfold WLook at q; omega)
    have z2' : xI μ1 (213 + 8 * j) 9 = 0 := (a2.I (by unfold WLook; omega)).trans z2
    refine ⟨μ1, ?_, ⟨o.fr f (fun a k q => by omega), hH.fr f (fun a k q => by unfold FH FMo at q; omega), hP.fr f (fun a k q => by unfold FP at q; omega), hC.fr f (fun a k q => by unfold FC at q; omega), hB.fr f (fun a k q => by unfold FB at q; omega), hT.fr f (fun a k q => by unfold FT at q; omega), hF.fr f (fun a k q => by unfold FF at q; omega), hI.fr f (fun a k q => by unfold FI at q; omega), fun i hi => ?_⟩, f, a3, a4⟩
    · simp only [fX_seen, fX_seen_0, gd2 hh, g2_6 hh, ar_sight hh hj10, g2_0 hh, g3_8 hh, ar_ask hh hj10, Option.bind_some, a1, g2_6 h1, ar_sight h1 hj10]
    · by_cases e : i = j
      · subst e
        exact Or.inr ⟨hj, a4, a3, Or.inl z2'⟩
      · have fi : ∀ b k, 213 + 8 * i ≤ b → b < 213 + 8 * i + 8 → xI μ1 b k = xI μ b k := fun b k q r => a2.I (by unfold WLook; omega)
        have fl : ∀ b k, xL μ1 b k = xL μ b k ∨ WLook (213 + 8 * j) b k := fun b k => by
          by_cases q : WLook (213 + 8 * j) b k
          · exact Or.inr q
          · exact Or.inl (a2.L q)
        rw [fi _ 8 (by omega) (by omega), fi _ 9 (by omega) (by omega)]
        rcases hSS i hi with y | ⟨y0, y1, y2, y3⟩
        · exact Or.inl y
        · refine Or.inr ⟨y0, y1, y2.fr (fun b k q r => fi b k q (by omega)), ?_⟩
          rcases y3 with y3 | ⟨y3, y4⟩
          · exact Or.inl y3
          · exact Or.inr ⟨y3, y4.fr (fun b k q r => fi b k q r) (fun b k q r => (fl b k).elim id (fun z => by unfold WLook at z; omega))⟩
  · have n8 : ¬ xI μ (213 + 8 * j) 8 = 0 := by rw [z1]; decide
    refine ⟨μ, ?_, hSA, Fr.refl μ, z2, z1⟩
    simp only [fX_seen, fX_seen_0, gd2 hh, g2_6 hh, ar_sight hh hj10, g2_0 hh, g3_8 hh, ar_ask hh hj10, Option.bind_some, fS_look, fS_look_0, gd_k (ci := 6) hs.2.1, e8, n8, if_false]
theorem mEnd_ok (hS : SimA L xs μ A V na nv T K kb gb) {j : Nat} (hj : j < na) : ∃ μ1, fM_findEnd 293 (nI j) μ = some μ1 ∧ Fr FE μ μ1 ∧ PicE μ1 (pEnd K (A j)).1 ∧ xI μ1 293 36 = nI (pEnd K (A j)).2.1 ∧ xI μ1 293 35 = if (pEnd K (A j)).2.2 then 1 else 0 := by
  have hn := hS.na10
  exact findEnd_ok hS.sh (hS.mA hj) (by omega) (hS.wfA hj) hS.keys
theorem FE_scr {a k : Nat} (h : FE a k) : Scratch a k := by unfold FE at h; unfold Scratch; omega
theorem Fr.push {W : Nat → Nat → Prop} {μ' : xM} (f : Fr W μ μ') {a k : Nat} (v : Int32) : Fr W (xsI μ a k v) (xsI μ' a k v) := ⟨f.1, f.2.1, f.2.2.1, fun b j q => by
  by_cases e : b = a ∧ j = k
  · obtain ⟨rfl, rfl⟩ := e
    rw [xI_eq, xI_eq]
  · rw [xI_ne e, xI_ne e]
    exact f.I q, f.2.2.2.2⟩
theorem sim_refuse2 {o : Option (Int32 × xM)} {fm : xM → Option (Int32 × xM)} (k : Nat) (hS : Sim L xs μ) (h1 : 1 ≤ k) (h2 : k ≤ 6) (ho : o = fX_refuse 2 (xc (-(k : Int))) μ) (hf : ∀ μ1, Sh μ1 → (∀ a j, 293 ≤ a → xI μ1 a j = xI μ a j) → ∃ r2, Fr Scratch μ1 r2 ∧ fm μ1 = fM_refuse 293 (xc (-(k : Int))) r2) : SimR L xs o fm := by
  have hh := hS.sh
  obtain ⟨r, μ1, μ2, a1, a2, a3, a4⟩ := sim_refuse (fm := fun z => fM_refuse 293 (xc (-(k : Int))) z) k hS h1 h2 ho (fun _ _ _ => rfl)
  have x1 := ho.symm.trans a1
  rw [xref h1 h2 hh] at x1
  have e1 : xsI μ 212 k (xI μ 212 k + xc 1) = μ1 := (Prod.mk.inj (Option.some.inj x1)).2
  have s1 : Sh μ1 := by rw [← e1]; exact hh
  obtain ⟨r2, b1, b2⟩ := hf μ1 s1 (fun a j q => by rw [← e1]; exact xI_ne (by omega))
  have a3' : fM_refuse 293 (xc (-(k : Int))) μ1 = some (r, μ2) := a3
  rw [mref h1 h2 s1] at a3'
  obtain ⟨e2, e3⟩ := Prod.mk.inj (Option.some.inj a3')
  refine ⟨r, μ1, xsI r2 312 k (xI r2 312 k + xc 1), a1, a2, ?_, ?_⟩
  · rw [b2, mref h1 h2 (b1.sh s1), e2]
  · have ek : xI r2 312 k = xI μ1 312 k := b1.I (by unfold Scratch; omega)
    rw [ek]
    rw [← e3] at a4
    exact sim_scratch a4 (b1.push _)
theorem sim_ans {μ1 μ2 : xM} {r : Int32} {o : Option (Int32 × xM)} {fm : xM → Option (Int32 × xM)} (hS : Sim L xs μ1) (ho : o = some (r, μ1)) (hf : fm μ1 = some (r, μ2)) (f : Fr Scratch μ1 μ2) : SimR L xs o fm := ⟨r, μ1, μ2, ho, hS.scr, hf, sim_scratch hS f⟩
theorem sim_steps (a1 : Int32) (a2 : Int32) (hS : Sim L xs μ) : SimR L xs (fX_steps 2 a1 a2 μ) (fun μ => fM_steps 293 a1 a2 μ) := by
  obtain ⟨A, V, na, nv, T, K, kb, gb, hA⟩ := simA_iff.mp hS
  have hh := hS.sh
  have hn := hA.na10
  have all := hA.all
  rcases off_or na (by omega) a1 with q | ⟨j, hj, rfl⟩
  · refine sim_refuse 1 hS (by decide) (by decide) ?_ (fun μ1 h1 h2 => ?_)
    · unfold fX_steps fX_steps_0
      rw [gd2 hh, xask_no hh all.2.1.2.2.1 q]
      simp only [Option.bind_some, xc0T, if_true, bind_eta]
      rfl
    · unfold fM_steps fM_steps_0
      rw [gd293 h1, mask_no h1 ((h2 _ _ (by decide)).trans all.2.2.1.1) (by omega) q]
      simp only [Option.bind_some, xc0T, if_true, bind_eta]
      rfl
  · have xa := xask_yes hh all.2.1.2.2.1 (by omega) hj
    obtain ⟨μ1, s1, s2, s3, s4, s5⟩ := seen_ok hA hj
    have h1 := s2.sh
    have hs := sight_at h1 j (by omega)
    have r0 : ldFR μ1 (213 + 8 * j) 6 0 = some (213 + 8 * j + 1) := ldFR_k (ci := 6) hs.2.1 hs.2.2.1
    obtain ⟨p1, p2, p3, _⟩ := s4
    have hp := hs.2.2.2.2.2.2.2
    have ma : ∀ z, Sh z → xI z 293 8 = nI na → fM_isAsk 293 (nI j) z = some (xc 1) := fun z hz e => mask_yes hz e (by omega) hj
    have hm1 := s2.all.2.2.1.1
    have ii : ∀ z, fM_isIn (Int32.toInt64 a2) (Int64.ofNat 0) (Int64.ofNat 3) z = some (if a2 < nI 0 ∨ nI 3 < a2 then xc 0 else xc 1) := fun z => isIn_n a2 0 3 (by decide) (by decide) z
    by_cases q3 : a2 < nI 0 ∨ nI 3 < a2
    · have q3' : a2.toInt < 0 ∨ 3 < a2.toInt := by
        rw [lt_toInt, lt_toInt, show (nI 0).toInt = 0 from rfl, show (nI 3).toInt = 3 from rfl] at q3
        exact q3
      refine sim_refuse 2 s2.sim (by decide) (by decide) ?_ (fun μ2 h1' h2' => ?_)
      · unfold fX_steps fX_steps_0
        simp only [gd2 hh, xa, Option.bind_some, xc1F, if_false, s1, r0, q3', if_true, bind_eta]
        rfl
      · unfold fM_steps fM_steps_0
        simp only [gd293 h1', ma μ2 h1' ((h2' _ _ (by decide)).trans hm1), Option.bind_some, xc1F, if_false, ii, q3, if_true, xc0T, bind_eta]
        rfl
    · have q3' : ¬ (a2.toInt < 0 ∨ 3 < a2.toInt) := by
        rw [lt_toInt, lt_toInt, show (nI 0).toInt = 0 from rfl, show (nI 3).toInt = 3 from rfl] at q3
        exact q3
      obtain ⟨μ2, m1, m2, m3, m4, m5⟩ := mEnd_ok s2 hj
      have h2 := m2.sh h1
      have fx : ∀ k, ldF μ1 (213 + 8 * j + 1) 5 k = some (xI μ1 (213 + 8 * j + 1) k) := fun k => ldF_k (ci := 5) k hp.2.2.1
      have four : a2 = xc 0 ∨ a2 = xc 1 ∨ a2 = xc 2 ∨ a2 = xc 3 := by
        rcases off_or 4 (by decide) a2 with ⟨z | z⟩ | ⟨i, hi, rfl⟩
        · exact absurd (Or.inl z) q3
        · rename_i z
          exact absurd (Or.inr (by rw [lt_toInt]; rw [le_toInt] at z; rw [show (nI 4).toInt = 4 from rfl] at z; rw [show (nI 3).toInt = 3 from rfl]; omega)) q3
        · obtain rfl | rfl | rfl | rfl : i = 0 ∨ i = 1 ∨ i = 2 ∨ i = 3 := by omega
          · exact Or.inl rfl
          · exact Or.inr (Or.inl rfl)
          · exact Or.inr (Or.inr (Or.inl rfl))
          · exact Or.inr (Or.inr (Or.inr rfl))
      have q3x : ∀ c : Int32, a2 = c → ¬ (c.toInt < 0 ∨ 3 < c.toInt) := fun c e => by rw [← e]; exact q3'
      have q3m : ∀ c : Int32, a2 = c → ¬ (c < nI 0 ∨ nI 3 < c) := fun c e => by rw [← e]; exact q3
      have scr := m2.mono (fun a k q => FE_scr q)
      have im : ∀ z, fM_isIn (Int32.toInt64 a2) (Int64.ofNat 0) (Int64.ofNat 3) z = some (xc 1) := fun z => by rw [ii, if_neg q3]
      have e35 : xI μ1 (213 + 8 * j + 1) 7 = 0 ↔ xI μ2 293 35 = 0 := by rw [p3, m5]
      rcases four with e | e | e | e
      · refine sim_ans (r := nI (pEnd K (A j)).2.1) (μ2 := μ2) s2.sim ?_ ?_ scr
        · unfold fX_steps fX_steps_0
          rw [e]
          simp only [gd2 hh, xa, Option.bind_some, xc1F, if_false, s1, r0, q3x _ e, if_true, fx, p2]
        · unfold fM_steps fM_steps_0
          simp only [gd293 h1, ma μ1 h1 hm1, Option.bind_some, xc1F, if_false, im, m1, eq_true (show a2 = 0 from e), if_true, f293 h2, m4]
      · refine sim_ans (r := if xI μ2 293 35 = 0 then xc 0 else xc 1) (μ2 := μ2) s2.sim ?_ ?_ scr
        · unfold fX_steps fX_steps_0
          rw [e]
          simp only [gd2 hh, xa, Option.bind_some, xc1F, if_false, s1, r0, q3x _ e, if_true, fx, show (xc 1 = xc 0) = False from by decide]
          by_cases z : xI μ2 293 35 = 0
          · rw [if_pos z, if_pos (e35.mpr z)]
          · rw [if_neg z, if_neg (fun w => z (e35.mp w))]
        · unfold fM_steps fM_steps_0
          simp only [gd293 h1, ma μ1 h1 hm1, Option.bind_some, xc1F, if_false, im, m1, eq_false (show ¬ a2 = 0 from by rw [e]; decide), eq_true e, if_true, f293 h2]
          by_cases z : xI μ2 293 35 = 0
          · rw [if_pos z, if_pos z]
          · rw [if_neg z, if_neg z]
      · refine sim_ans (r := nI (pEnd K (A j)).1.1.length) (μ2 := μ2) s2.sim ?_ ?_ scr
        · unfold fX_steps fX_steps_0
          rw [e]
          simp only [gd2 hh, xa, Option.bind_some, xc1F, if_false, s1, r0, q3x _ e, if_true, fx, p1.1, show (xc 2 = xc 0) = False from by decide, show (xc 2 = xc 1) = False from by decide]
        · unfold fM_steps fM_steps_0
          simp only [gd293 h1, ma μ1 h1 hm1, Option.bind_some, xc1F, if_false, im, m1, eq_false (show ¬ a2 = 0 from by rw [e]; decide), eq_false (show ¬ a2 = xc 1 from by rw [e]; decide), eq_true e, if_true, f293 h2, m3.1]
      · refine sim_ans (r := nI (pEnd K (A j)).1.2.length) (μ2 := μ2) s2.sim ?_ ?_ scr
        · unfold fX_steps fX_steps_0
          rw [e]
          simp only [gd2 hh, xa, Option.bind_some, xc1F, if_false, s1, r0, q3x _ e, if_true, fx, p1.2.1, show (xc 3 = xc 0) = False from by decide, show (xc 3 = xc 1) = False from by decide, show (xc 3 = xc 2) = False from by decide]
        · unfold fM_steps fM_steps_0
          simp only [gd293 h1, ma μ1 h1 hm1, Option.bind_some, xc1F, if_false, im, m1, eq_false (show ¬ a2 = 0 from by rw [e]; decide), eq_false (show ¬ a2 = xc 1 from by rw [e]; decide), eq_false (show ¬ a2 = xc 2 from by rw [e]; decide), f293 h2, m3.2.1]
theorem sim_end (a1 : Int32) (a2 : Int32) (hS : Sim L xs μ) : SimR L xs (fX_end 2 a1 a2 μ) (fun μ => fM_end 293 a1 a2 μ) := by
  obtain ⟨A, V, na, nv, T, K, kb, gb, hA⟩ := simA_iff.mp hS
  have hh := hS.sh
  have hn := hA.na10
  have all := hA.all
  rcases off_or na (by omega) a1 with q | ⟨j, hj, rfl⟩
  · refine sim_refuse 1 hS (by decide) (by decide) ?_ (fun μ1 h1 h2 => ?_)
    · unfold fX_end fX_end_0
      rw [gd2 hh, xask_no hh all.2.1.2.2.1 q]
      simp only [Option.bind_some, xc0T, if_true, bind_eta]
      rfl
    · unfold fM_end fM_end_0
      rw [gd293 h1, mask_no h1 ((h2 _ _ (by decide)).trans all.2.2.1.1) (by omega) q]
      simp only [Option.bind_some, xc0T, if_true, bind_eta]
      rfl
  · have xa := xask_yes hh all.2.1.2.2.1 (by omega) hj
    obtain ⟨μ1, s1, s2, s3, s4, s5⟩ := seen_ok hA hj
    have h1 := s2.sh
    have hs := sight_at h1 j (by omega)
    have r0 : ldFR μ1 (213 + 8 * j) 6 0 = some (213 + 8 * j + 1) := ldFR_k (ci := 6) hs.2.1 hs.2.2.1
    obtain ⟨p1, p2, p3, _⟩ := s4
    have hp := hs.2.2.2.2.2.2.2
    have wA := hA.wfA hj
    have keep := pEnd_keep (K := K) wA.tb
    have l4 : (pEnd K (A j)).1.1.length ≤ 4 := by have := wA.2.1; omega
    have ma : ∀ z, Sh z → xI z 293 8 = nI na → fM_isAsk 293 (nI j) z = some (xc 1) := fun z hz e => mask_yes hz e (by omega) hj
    have hm1 := s2.all.2.2.1.1
    have fx : ∀ k, ldF μ1 (213 + 8 * j + 1) 5 k = some (xI μ1 (213 + 8 * j + 1) k) := fun k => ldF_k (ci := 5) k hp.2.2.1
    cases hN : (pEnd K (A j)).2.2 with
    | true =>
      rw [hN] at p3
      have p3' : ¬ xI μ1 (213 + 8 * j + 1) 7 = 0 := by rw [p3]; decide
      refine sim_refuse2 3 s2.sim (by decide) (by decide) ?_ (fun μ2 h1' h2' => ?_)
      · unfold fX_end fX_end_0
        simp only [gd2 hh, xa, Option.bind_some, xc1F, if_false, s1, r0, fx, p3', bind_eta]
        rfl
      · have mm : PicM μ2 j (A j) := (s2.mA hj).fr (fun a k h _ => h2' a k (by omega))
        have kk : ∀ t, t < 3 → xI μ2 295 t = if K.testBit t then xc 1 else xc 0 := fun t ht => (h2' _ _ (by decide)).trans (s2.keys t ht)
        obtain ⟨μ3, m1, m2, m3, m4, m5⟩ := findEnd_ok h1' mm (by omega) wA kk
        rw [hN] at m5
        have m5' : ¬ xI μ3 293 35 = 0 := by rw [m5]; decide
        refine ⟨μ3, m2.mono (fun a k q => FE_scr q), ?_⟩
        unfold fM_end fM_end_0
        simp only [gd293 h1', ma μ2 h1' ((h2' _ _ (by decide)).trans hm1), Option.bind_some, xc1F, if_false, m1, f293 (m2.sh h1'), m5', bind_eta]
        rfl
    | false =>
      rw [hN] at p3
      have p3' : xI μ1 (213 + 8 * j + 1) 7 = 0 := p3
      obtain ⟨μ2, m1, m2, m3, m4, m5⟩ := mEnd_ok s2 hj
      have h2 := m2.sh h1
      rw [hN] at m5
      have m5' : xI μ2 293 35 = 0 := m5
      have scr := m2.mono (fun a k q => FE_scr q)
      rcases off_or (pEnd K (A j)).1.1.length (by omega) a2 with q | ⟨i, hi, rfl⟩
      · refine sim_ans (r := xc (-9)) (μ2 := μ2) s2.sim ?_ ?_ scr
        · unfold fX_end fX_end_0
          by_cases q1 : a2 < 0
          · simp only [gd2 hh, xa, Option.bind_some, xc1F, if_false, s1, r0, fx, p3', if_true, q1, fX_end_49]
          · have q2 : ¬ a2 < nI (pEnd K (A j)).1.1.length := Int32.not_lt.mpr (q.resolve_left q1)
            simp only [gd2 hh, xa, Option.bind_some, xc1F, if_false, s1, r0, fx, p3', if_true, q1, p1.1, q2, fX_end_49]
        · unfold fM_end fM_end_0
          simp only [gd293 h1, ma μ1 h1 hm1, Option.bind_some, xc1F, if_false, m1, f293 h2, m5', if_true, m3.1, isIn_b, if_pos (show a2 < 0 ∨ nI (pEnd K (A j)).1.1.length - xc 1 < a2 from q.imp id (nIm1_lt (by omega) a2).mpr), xc0T]
      · have i12 : i < 12 := by omega
        obtain ⟨c1, c2, c3⟩ := m3.2.2.1 i hi
        refine sim_ans (r := xc 100 * nI (prow (pEnd K (A j)).1 i).1 + xc 10 * nI (prow (pEnd K (A j)).1 i).2.1 + nI (prow (pEnd K (A j)).1 i).2.2) (μ2 := μ2) s2.sim ?_ ?_ scr
        · unfold fX_end fX_end_0
          simp only [gd2 hh, xa, Option.bind_some, xc1F, if_false, s1, r0, fx, p3', if_true, nI_pos (show i < 2 ^ 31 by omega), p1.1, nI_lt hi (show (pEnd K (A j)).1.1.length < 2 ^ 31 by omega), pic_t hp, pic_a hp, pic_b hp, pic_tv hp p1 l4 hi, pic_av hp p1 l4 hi, pic_bv hp p1 l4 hi]
        · unfold fM_end fM_end_0
          simp only [gd293 h1, ma μ1 h1 hm1, Option.bind_some, xc1F, if_false, m1, f293 h2, m5', if_true, m3.1, isIn_b, if_neg (show ¬ (nI i < 0 ∨ nI (pEnd K (A j)).1.1.length - xc 1 < nI i) from fun z => off_not (by omega) hi (z.imp id (nIm1_lt (by omega) _).mp)), g293_30 h2, g293_31 h2, g293_32 h2, la313 h2 i12, la314 h2 i12, la315 h2 i12, c1, c2, c3]
theorem TB.mono {P : xPic} {B B' : Nat} (h : TB P B) (e : B ≤ B') : TB P B' := ⟨fun r hr => by have := h.1 r hr; omega, fun t ht => Nat.lt_of_lt_of_le (h.2 t ht) e⟩
theorem xlies (hS : SimA L xs μ A V na nv T K kb gb) {i j : Nat} (hi : i < na) (hj : j < na) : ∃ μ1, SimA L xs μ1 A V na nv T K kb gb ∧ Fr (fun a _ => 213 ≤ a ∧ a < 293) μ μ1 ∧ ((pWithin (pEnd K (A i)) (A j) ∧ fX_liesWithin 2 (nI i) (nI j) μ = some (xc 1, μ1)) ∨ (¬ pWithin (pEnd K (A i)) (A j) ∧ fX_liesWithin 2 (nI i) (nI j) μ = some (xc 0, μ1))) := by
  have hh := hS.sh
  have hn := hS.na10
  obtain ⟨μ1, s1, s2, s3, s4, s5⟩ := seen_ok hS hi
  have h1 := s2.sh
  have hs := sight_at h1 i (by omega)
  have hj10 : j < 10 := by omega
  have r0 : ldFR μ1 (213 + 8 * i) 6 0 = some (213 + 8 * i + 1) := ldFR_k (ci := 6) hs.2.1 hs.2.2.1
  obtain ⟨p1, p2, p3, _⟩ := s4
  have wA := hS.wfA hi
  have keep := pEnd_keep (K := K) wA.tb
  have ev : fX_liesWithin 2 (nI i) (nI j) μ = (fL_isWithin (213 + 8 * i + 1) (12 + 5 * j) μ1).bind fun r6 => if r6 = 0 ∨ r6 = 1 then some ((r6, μ1)) else none := by
    simp only [fX_liesWithin, fX_liesWithin_0, gd2 hh, s1, Option.bind_some, r0, g2_0 h1, g3_8 h1, ar_ask h1 hj10]
  refine ⟨μ1, s2, s3.mono (fun a k q => by omega), ?_⟩
  rw [ev]
  rcases isWithin_ok (pic_ask h1 j hj10) (s2.cA hj) (hS.wfA hj) hs.2.2.2.2.2.2.2 p1 (by have := wA.2.1; omega) (by have := wA.2.2.1; omega) (keep.1.mono (by decide)) p3 with ⟨a1, a2⟩ | ⟨a1, a2⟩
  · refine Or.inl ⟨a1, ?_⟩
    rw [a2]
    rfl
  · refine Or.inr ⟨a1, ?_⟩
    rw [a2]
    rfl
theorem mlies (hS : SimA L xs μ A V na nv T K kb gb) {i j : Nat} (hi : i < na) (hj : j < na) : ∃ μ1, SimA L xs μ1 A V na nv T K kb gb ∧ Fr Scratch μ μ1 ∧ ((pWithin (pEnd K (A i)) (A j) ∧ fM_isWithin 293 (nI i) (nI j) μ = some (xc 1, μ1)) ∨ (¬ pWithin (pEnd K (A i)) (A j) ∧ fM_isWithin 293 (nI i) (nI j) μ = some (xc 0, μ1))) := by
  have hh := hS.sh
  have hn := hS.na10
  obtain ⟨μ1, m1, m2, m3, m4, m5⟩ := mEnd_ok hS hi
  have h1 := m2.sh hh
  have wA := hS.wfA hi
  have keep := pEnd_keep (K := K) wA.tb
  have mj : PicM μ1 j (A j) := (hS.mA hj).fr' m2 (fun a k q => by unfold FE; omega)
  obtain ⟨r, μ2, l1, l2, l3⟩ := lies_ok h1 mj (by omega) (hS.wfA hj) m3 (by have := wA.2.1; omega) (by have := wA.2.2.1; omega) (keep.1.mono (by decide)) m5
  have f : Fr Scratch μ μ2 := (m2.mono (fun a k q => FE_scr q)).trans (l2.mono (fun a k q => by unfold Scratch; omega))
  have ev : fM_isWithin 293 (nI i) (nI j) μ = if r = 0 ∨ r = 1 then some ((r, μ2)) else none := by
    simp only [fM_isWithin, fM_isWithin_0, gd293 hh, m1, l1, Option.bind_some]
  refine ⟨μ2, hS.scr f, f, ?_⟩
  rw [ev]
  rcases l3 with ⟨b1, rfl⟩ | ⟨b1, rfl⟩
  · exact Or.inl ⟨b1, rfl⟩
  · exact Or.inr ⟨b1, rfl⟩
theorem sim_within (a1 : Int32) (a2 : Int32) (hS : Sim L xs μ) : SimR L xs (fX_within 2 a1 a2 μ) (fun μ => fM_within 293 a1 a2 μ) := by
  obtain ⟨A, V, na, nv, T, K, kb, gb, hA⟩ := simA_iff.mp hS
  have hh := hS.sh
  have hn := hA.na10
  have all := hA.all
  rcases off_or na (by omega) a1 with q | ⟨i, hi, rfl⟩
  · refine sim_refuse 1 hS (by decide) (by decide) ?_ (fun μ1 h1 h2 => ?_)
    · simp only [fX_within, fX_within_0, gd2 hh, xask_no hh all.2.1.2.2.1 q, Option.bind_some, xc0T, if_true, fX_within_16, bind_eta]
      rfl
    · simp only [fM_within, fM_within_0, gd293 h1, mask_no h1 ((h2 _ _ (by decide)).trans all.2.2.1.1) (by omega) q, Option.bind_some, xc0T, if_true, fM_within_16, bind_eta]
      rfl
  · have xa := xask_yes hh all.2.1.2.2.1 (by omega) hi
    have ma : ∀ z, Sh z → xI z 293 8 = nI na → fM_isAsk 293 (nI i) z = some (xc 1) := fun z hz e => mask_yes hz e (by omega) hi
    rcases off_or na (by omega) a2 with q | ⟨j, hj, rfl⟩
    · refine sim_refuse 1 hS (by decide) (by decide) ?_ (fun μ1 h1 h2 => ?_)
      · simp only [fX_within, fX_within_0, gd2 hh, xa, xc1F, if_false, xask_no hh all.2.1.2.2.1 q, Option.bind_some, xc0T, if_true, fX_within_16, bind_eta]
        rfl
      · simp only [fM_within, fM_within_0, gd293 h1, ma μ1 h1 ((h2 _ _ (by decide)).trans all.2.2.1.1), xc1F, if_false, mask_no h1 ((h2 _ _ (by decide)).trans all.2.2.1.1) (by omega) q, Option.bind_some, xc0T, if_true, fM_within_16, bind_eta]
        rfl
    · have xb := xask_yes hh all.2.1.2.2.1 (by omega) hj
      have mb : ∀ z, Sh z → xI z 293 8 = nI na → fM_isAsk 293 (nI j) z = some (xc 1) := fun z hz e => mask_yes hz e (by omega) hj
      obtain ⟨μ1, x1, x2, x3⟩ := xlies hA hi hj
      obtain ⟨μ2, y1, y2, y3⟩ := mlies x1 hi hj
      have h1 := x1.sh
      have hm1 := x1.all.2.2.1.1
      rcases x3 with ⟨w, x3⟩ | ⟨w, x3⟩
      · rcases y3 with ⟨w', y3⟩ | ⟨w', y3⟩
        · refine sim_ans (r := xc 1) (μ2 := μ2) x1.sim ?_ ?_ y2
          · simp only [fX_within, fX_within_0, gd2 hh, xa, xb, xc1F, if_false, Option.bind_some, x3]
          · simp only [fM_within, fM_within_0, gd293 h1, ma μ1 h1 hm1, mb μ1 h1 hm1, xc1F, if_false, Option.bind_some, y3]
        · exact absurd w w'
      · rcases y3 with ⟨w', y3⟩ | ⟨w', y3⟩
        · exact absurd w' w
        · refine sim_ans (r := xc 0) (μ2 := μ2) x1.sim ?_ ?_ y2
          · simp only [fX_within, fX_within_0, gd2 hh, xa, xb, xc1F, if_false, Option.bind_some, x3, xc0T, if_true]
          · simp only [fM_within, fM_within_0, gd293 h1, ma μ1 h1 hm1, mb μ1 h1 hm1, xc1F, if_false, Option.bind_some, y3, xc0T, if_true]
theorem sim_same (a1 : Int32) (a2 : Int32) (hS : Sim L xs μ) : SimR L xs (fX_same 2 a1 a2 μ) (fun μ => fM_same 293 a1 a2 μ) := by
  obtain ⟨A, V, na, nv, T, K, kb, gb, hA⟩ := simA_iff.mp hS
  have hh := hS.sh
  have hn := hA.na10
  have all := hA.all
  rcases off_or na (by omega) a1 with q | ⟨i, hi, rfl⟩
  · refine sim_refuse 1 hS (by decide) (by decide) ?_ (fun μ1 h1 h2 => ?_)
    · simp only [fX_same, fX_same_0, gd2 hh, xask_no hh all.2.1.2.2.1 q, Option.bind_some, xc0T, if_true, fX_same_16, bind_eta]
      rfl
    · simp only [fM_same, fM_same_0, gd293 h1, mask_no h1 ((h2 _ _ (by decide)).trans all.2.2.1.1) (by omega) q, Option.bind_some, xc0T, if_true, fM_same_16, bind_eta]
      rfl
  · have xa := xask_yes hh all.2.1.2.2.1 (by omega) hi
    have ma : ∀ z, Sh z → xI z 293 8 = nI na → fM_isAsk 293 (nI i) z = some (xc 1) := fun z hz e => mask_yes hz e (by omega) hi
    rcases off_or na (by omega) a2 with q | ⟨j, hj, rfl⟩
    · refine sim_refuse 1 hS (by decide) (by decide) ?_ (fun μ1 h1 h2 => ?_)
      · simp only [fX_same, fX_same_0, gd2 hh, xa, xc1F, if_false, xask_no hh all.2.1.2.2.1 q, Option.bind_some, xc0T, if_true, fX_same_16, bind_eta]
        rfl
      · simp only [fM_same, fM_same_0, gd293 h1, ma μ1 h1 ((h2 _ _ (by decide)).trans all.2.2.1.1), xc1F, if_false, mask_no h1 ((h2 _ _ (by decide)).trans all.2.2.1.1) (by omega) q, Option.bind_some, xc0T, if_true, fM_same_16, bind_eta]
        rfl
    · have xb := xask_yes hh all.2.1.2.2.1 (by omega) hj
      have mb : ∀ z, Sh z → xI z 293 8 = nI na → fM_isAsk 293 (nI j) z = some (xc 1) := fun z hz e => mask_yes hz e (by omega) hj
      obtain ⟨μ1, x1, x2, x3⟩ := xlies hA hi hj
      rcases x3 with ⟨w, x3⟩ | ⟨w, x3⟩
      · obtain ⟨μ2, v1, v2, v3⟩ := xlies x1 hj hi
        have h2 := v1.sh
        have hm2 := v1.all.2.2.1.1
        obtain ⟨μ3, y1, y2, y3⟩ := mlies v1 hi hj
        obtain ⟨μ4, z1, z2, z3⟩ := mlies y1 hj hi
        have y3' : fM_isWithin 293 (nI i) (nI j) μ2 = some (xc 1, μ3) := by
          rcases y3 with ⟨_, y3⟩ | ⟨w', _⟩
          · exact y3
          · exact absurd w w'
        rcases v3 with ⟨u, v3⟩ | ⟨u, v3⟩
        · rcases z3 with ⟨_, z3⟩ | ⟨w', _⟩
          · refine sim_ans (r := xc 1) (μ2 := μ4) v1.sim ?_ ?_ (y2.trans z2)
            · simp only [fX_same, fX_same_0, gd2 hh, xa, xb, xc1F, if_false, Option.bind_some, x3, v3]
            · simp only [fM_same, fM_same_0, gd293 h2, ma μ2 h2 hm2, mb μ2 h2 hm2, xc1F, if_false, Option.bind_some, y3', z3]
          · exact absurd u w'
        · rcases z3 with ⟨w', _⟩ | ⟨_, z3⟩
          · exact absurd w' u
          · refine sim_ans (r := xc 0) (μ2 := μ4) v1.sim ?_ ?_ (y2.trans z2)
            · simp only [fX_same, fX_same_0, gd2 hh, xa, xb, xc1F, if_false, Option.bind_some, x3, v3, xc0T, if_true, fX_same_44]
            · simp only [fM_same, fM_same_0, gd293 h2, ma μ2 h2 hm2, mb μ2 h2 hm2, xc1F, if_false, Option.bind_some, y3', z3, xc0T, if_true, fM_same_44]
      · have h1 := x1.sh
        have hm1 := x1.all.2.2.1.1
        obtain ⟨μ3, y1, y2, y3⟩ := mlies x1 hi hj
        rcases y3 with ⟨w', _⟩ | ⟨_, y3⟩
        · exact absurd w' w
        · refine sim_ans (r := xc 0) (μ2 := μ3) x1.sim ?_ ?_ y2
          · simp only [fX_same, fX_same_0, gd2 hh, xa, xb, xc1F, if_false, Option.bind_some, x3, xc0T, if_true, fX_same_44]
          · simp only [fM_same, fM_same_0, gd293 h1, ma μ1 h1 hm1, mb μ1 h1 hm1, xc1F, if_false, Option.bind_some, y3, xc0T, if_true, fM_same_44]
end WITHIN
