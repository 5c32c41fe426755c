section SUREC
variable {μ : xM} {V : Nat → xPic} {nv K kb : Nat} {p m : Nat} {P : xPic}
theorem answerOf_ok (hB : OBase μ V nv K kb) (hp : IsPic μ p m) (c : PicC μ p P) (hm : P.1.length ≤ m) (hw : PicWf P) (hd : p + 5 ≤ 193) {al : Bool} : ∃ μ1, Fr WO μ μ1 ∧ ((fW_answerOf 193 3 p (if al = true then xc 1 else xc 0) μ = some (xc (-9), μ1) ∧ ¬ ∃ w, w < 4096 ∧ IsW V nv K kb (fun v => xI μ 6 v) w) ∨ ∃ a, fW_answerOf 193 3 p (if al = true then xc 1 else xc 0) μ = some (nI a, μ1) ∧ (∃ w, w < 4096 ∧ IsW V nv K kb (fun v => xI μ 6 v) w) ∧ SureB P (IsW V nv K kb (fun v => xI μ 6 v)) al a) := by
  have hh := hB.1
  obtain ⟨μ1, a1, a2, a3⟩ := findOpen_ok hB
  have h1 := a2.sh hh
  have ex : (∃ w, w < 4096 ∧ InW μ1 194 w) ↔ ∃ w, w < 4096 ∧ IsW V nv K kb (fun v => xI μ 6 v) w := ⟨fun ⟨w, y1, y2⟩ => ⟨w, y1, (a3 w y1).mp y2⟩, fun ⟨w, y1, y2⟩ => ⟨w, y1, (a3 w y1).mpr y2⟩⟩
  obtain ⟨r, b1, b2⟩ := isEmpty_ok (μ := μ1) (a := 194) (kw h1 (by omega))
  rcases b2 with ⟨rfl, b2⟩ | ⟨rfl, b2⟩
  · refine ⟨μ1, a2, Or.inl ⟨?_, fun z => b2 (ex.mpr z)⟩⟩
    simp only [fW_answerOf, fW_answerOf_0, gd193 hh, a1, Option.bind_some, g193_0 h1, b1, xc1F, if_false]
  · have hex := ex.mp (Classical.not_not.mp b2)
    obtain ⟨μ2, c1, c2, c3⟩ := spread_ok (μ := μ1) h1 (kd1 h1) (fun i hi => by rw [a2.L (by unfold WO; omega)]; exact hB.2.1 i hi) (a2.pic hp) (picC_fr c a2 (fun b k q r => by unfold WO; omega)) hm hw hd
    have h2 := c2.sh h1
    have op : ∀ w, w < 4096 → (InW μ2 194 w ↔ IsW V nv K kb (fun v => xI μ 6 v) w) := fun w hw' => (InW.fr c2 (fun k => by unfold WG; omega)).trans (a3 w hw')
    have goal : ∃ x, xwh (fun s : Int32 × Int32 => fW_answerOf_L29 193 (if al = true then xc 1 else xc 0) s.1 s.2 μ2) (xc 0, xc 0) = some x ∧ ∃ a, x = (nI a, μ2) ∧ SureB P (IsW V nv K kb (fun v => xI μ 6 v)) al a := by
      refine xwh_inv (body := fun s : Int32 × Int32 => fW_answerOf_L29 193 (if al = true then xc 1 else xc 0) s.1 s.2 μ2) (fun i z => z.2 = nI i ∧ ∃ a, z.1 = nI a ∧ a < 2 ^ 8 ∧ (∀ j, i ≤ j → a.testBit j = false) ∧ ∀ j, j < i → (a.testBit j = true ↔ (if al = true then (∀ w, w < 4096 → IsW V nv K kb (fun v => xI μ 6 v) w → (pAns P w).testBit j = true) else ∃ w, w < 4096 ∧ IsW V nv K kb (fun v => xI μ 6 v) w ∧ (pAns P w).testBit j = true))) _ 8 ?_ ?_ 8 0 _ (by omega) ⟨rfl, 0, rfl, by decide, fun j _ => Nat.zero_testBit j, fun j hj => absurd hj (Nat.not_lt_zero j)⟩
      · rintro i ⟨x, y⟩ hi ⟨rfl, a, rfl, al8, hi0, bits⟩
        left
        have c0 : ¬ xc 8 ≤ nI i := nI_ge (b := 8) hi (by decide)
        have set : ∀ (t : Prop), t → ((if al = true then (∀ w, w < 4096 → IsW V nv K kb (fun v => xI μ 6 v) w → (pAns P w).testBit i = true) else ∃ w, w < 4096 ∧ IsW V nv K kb (fun v => xI μ 6 v) w ∧ (pAns P w).testBit i = true) ↔ t) → ∃ b, nI b = nI a ||| nI (2 ^ i) ∧ b < 2 ^ 8 ∧ (∀ j, i + 1 ≤ j → b.testBit j = false) ∧ ∀ j, j < i + 1 → (b.testBit j = true ↔ (if al = true then (∀ w, w < 4096 → IsW V nv K kb (fun v => xI μ 6 v) w → (pAns P w).testBit j = true) else ∃ w, w < 4096 ∧ IsW V nv K kb (fun v => xI μ 6 v) w ∧ (pAns P w).testBit j = true)) := fun t ht e => by
          refine ⟨a ||| 2 ^ i, nI_or.symm, Nat.or_lt_two_pow al8 (Nat.pow_lt_pow_right (by decide) hi), fun j hj => ?_, fun j hj => ?_⟩
          · rw [Nat.testBit_or, hi0 j (by omega), Nat.testBit_two_pow, Bool.false_or, decide_eq_false (by omega)]
          · by_cases z : j = i
            · subst z
              rw [Nat.testBit_or, Nat.testBit_two_pow_self, Bool.or_true, e]
              exact ⟨fun _ => ht, fun _ => rfl⟩
            · rw [Nat.testBit_or, Nat.testBit_two_pow, decide_eq_false (by omega), Bool.or_false]
              exact bits j (by omega)
        have unset : ∀ (t : Prop), ¬ t → ((if al = true then (∀ w, w < 4096 → IsW V nv K kb (fun v => xI μ 6 v) w → (pAns P w).testBit i = true) else ∃ w, w < 4096 ∧ IsW V nv K kb (fun v => xI μ 6 v) w ∧ (pAns P w).testBit i = true) ↔ t) → (∀ j, i + 1 ≤ j → a.testBit j = false) ∧ ∀ j, j < i + 1 → (a.testBit j = true ↔ (if al = true then (∀ w, w < 4096 → IsW V nv K kb (fun v => xI μ 6 v) w → (pAns P w).testBit j = true) else ∃ w, w < 4096 ∧ IsW V nv K kb (fun v => xI μ 6 v) w ∧ (pAns P w).testBit j = true)) := fun t ht e => by
          refine ⟨fun j hj => hi0 j (by omega), fun j hj => ?_⟩
          by_cases z : j = i
          · subst z
            rw [hi0 j (Nat.le_refl _), e]
            exact ⟨fun y => absurd y (by decide), fun y => absurd y ht⟩
          · exact bits j (by omega)
        cases al with
        | true =>
          obtain ⟨r, l1, l2⟩ := leaves_ok (μ := μ2) (a := 194) (b := 203 + i) (kw h2 (by omega)) (kw h2 (by omega))
          have le : (∃ w, w < 4096 ∧ InW μ2 194 w ∧ ¬ InW μ2 (203 + i) w) ↔ ¬ ∀ w, w < 4096 → IsW V nv K kb (fun v => xI μ 6 v) w → (pAns P w).testBit i = true := by
            constructor
            · rintro ⟨w, w1, w2, w3⟩ z
              exact w3 ((c3 i hi w w1).mpr (z w w1 ((op w w1).mp w2)))
            · intro z
              apply Classical.byContradiction
              intro n
              exact z (fun w w1 w2 => Classical.byContradiction (fun w3 => n ⟨w, w1, (op w w1).mpr w2, fun w4 => w3 ((c3 i hi w w1).mp w4)⟩))
          rcases l2 with ⟨rfl, l2⟩ | ⟨rfl, l2⟩
          · obtain ⟨u1, u2⟩ := unset _ (le.mp l2) (by rw [if_pos rfl])
            refine ⟨(nI a, nI (i + 1)), ?_, rfl, a, rfl, al8, u1, u2⟩
            simp only [fW_answerOf_L29, c0, if_false, if_true, xc1F, g193_0 h2, g193_2 h2, Option.bind_some, ar_giv h2 hi, l1, fW_answerOf_86, inc1]
          · obtain ⟨b, u0, u1, u2, u3⟩ := set (∀ w, w < 4096 → IsW V nv K kb (fun v => xI μ 6 v) w → (pAns P w).testBit i = true) (Classical.not_not.mp (fun z => l2 (le.mpr z))) (by rw [if_pos rfl])
            refine ⟨(nI b, nI (i + 1)), ?_, rfl, b, rfl, u1, u2, u3⟩
            simp only [fW_answerOf_L29, c0, if_false, if_true, xc1F, xc0T, g193_0 h2, g193_2 h2, Option.bind_some, ar_giv h2 hi, l1, fW_answerOf_77, nI_bit (show i < 32 by omega), fW_answerOf_86, inc1, u0]
        | false =>
          obtain ⟨r, l1, l2⟩ := meets_ok (μ := μ2) (a := 194) (b := 203 + i) (kw h2 (by omega)) (kw h2 (by omega))
          have le : (∃ w, w < 4096 ∧ InW μ2 194 w ∧ InW μ2 (203 + i) w) ↔ ∃ w, w < 4096 ∧ IsW V nv K kb (fun v => xI μ 6 v) w ∧ (pAns P w).testBit i = true := by
            constructor
            · rintro ⟨w, w1, w2, w3⟩
              exact ⟨w, w1, (op w w1).mp w2, (c3 i hi w w1).mp w3⟩
            · rintro ⟨w, w1, w2, w3⟩
              exact ⟨w, w1, (op w w1).mpr w2, (c3 i hi w w1).mpr w3⟩
          rcases l2 with ⟨rfl, l2⟩ | ⟨rfl, l2⟩
          · obtain ⟨b, u0, u1, u2, u3⟩ := set _ (le.mp l2) (by rw [if_neg (by decide)])
            refine ⟨(nI b, nI (i + 1)), ?_, rfl, b, rfl, u1, u2, u3⟩
            simp only [fW_answerOf_L29, c0, if_false, Bool.false_eq_true, if_true, xc1F, xc0T, g193_0 h2, g193_2 h2, Option.bind_some, ar_giv h2 hi, l1, fW_answerOf_77, nI_bit (show i < 32 by omega), fW_answerOf_86, inc1, u0]
          · obtain ⟨u1, u2⟩ := unset _ (fun z => l2 (le.mpr z)) (by rw [if_neg (by decide)])
            refine ⟨(nI a, nI (i + 1)), ?_, rfl, a, rfl, al8, u1, u2⟩
            simp only [fW_answerOf_L29, c0, if_false, Bool.false_eq_true, if_true, xc0T, g193_0 h2, g193_2 h2, Option.bind_some, ar_giv h2 hi, l1, fW_answerOf_86, inc1]
      · rintro ⟨x, y⟩ ⟨rfl, a, rfl, al8, hi0, bits⟩
        refine ⟨(nI a, μ2), ?_, a, rfl, al8, bits⟩
        simp only [fW_answerOf_L29, show (xc 8 ≤ nI 8) = True from by decide, if_true, fW_answerOf_92, Option.map_some]
    obtain ⟨x, g1, a, rfl, g2⟩ := goal
    refine ⟨μ2, a2.trans (c2.mono (fun b k q => by unfold WO; unfold WG at q; omega)), Or.inr ⟨a, ?_, hex, g2⟩⟩
    simp only [fW_answerOf, fW_answerOf_0, gd193 hh, a1, Option.bind_some, g193_0 h1, b1, xc0T, if_true, c1]
    exact g1
theorem WO_scr {b k : Nat} (h : WO b k) : Scratch b k := by unfold WO at h; unfold Scratch; omega
theorem WV_scr {b k : Nat} (h : WV b k) : Scratch b k := by unfold WV at h; unfold Scratch; omega
theorem WSu_scr {b k : Nat} (h : WSu b k) : Scratch b k := by unfold WSu at h; unfold Scratch; omega
variable {L : Nat} {xs : Nat → Int32}
theorem sim_sure (a1 : Int32) (a2 : Int32) (hS : Sim L xs μ) : SimR L xs (fX_sure 2 a1 a2 μ) (fun μ => fM_sure 293 a1 a2 μ) := by
  obtain ⟨A, V, na, nv, T, K, kb, gb, hA⟩ := simA_iff.mp hS
  have hh := hS.sh
  have hn := hA.na10
  have all := hA.all
  have ii : ∀ z, fM_isIn (Int32.toInt64 a2) (Int64.ofNat 0) (Int64.ofNat 1) z = some (if a2 < nI 0 ∨ nI 1 < a2 then xc 0 else xc 1) := fun z => isIn_n a2 0 1 (by decide) (by decide) z
  rcases off_or na (by omega) a1 with q | ⟨j, hj, rfl⟩
  · refine sim_refuse 1 hS (by decide) (by decide) ?_ (fun μ1 h1 h2 => ?_)
    · simp only [fX_sure, fX_sure_0, gd2 hh, xask_no hh all.2.1.2.2.1 q, Option.bind_some, xc0T, if_true, bind_eta]
      rfl
    · simp only [fM_sure, fM_sure_0, gd293 h1, mask_no h1 ((h2 _ _ (by decide)).trans all.2.2.1.1) (by omega) q, Option.bind_some, xc0T, if_true, bind_eta]
      rfl
  · have xa := xask_yes hh all.2.1.2.2.1 (by omega) hj
    have ma : ∀ z, Sh z → xI z 293 8 = nI na → fM_isAsk 293 (nI j) z = some (xc 1) := fun z hz e => mask_yes hz e (by omega) hj
    by_cases q2 : a2 < nI 0 ∨ nI 1 < a2
    · refine sim_refuse 2 hS (by decide) (by decide) ?_ (fun μ1 h1 h2 => ?_)
      · by_cases z : a2 < 0
        · simp only [fX_sure, fX_sure_0, gd2 hh, xa, Option.bind_some, xc1F, if_false, z, if_true, fX_sure_23, bind_eta]
          rfl
        · have z2 : ¬ a2 ≤ xc 1 := Int32.not_le.mpr (q2.resolve_left z)
          simp only [fX_sure, fX_sure_0, gd2 hh, xa, Option.bind_some, xc1F, if_false, z, z2, fX_sure_23, bind_eta]
          rfl
      · simp only [fM_sure, fM_sure_0, gd293 h1, ma μ1 h1 ((h2 _ _ (by decide)).trans all.2.2.1.1), Option.bind_some, xc1F, if_false, ii, q2, if_true, xc0T, bind_eta]
        rfl
    · have z1 : ¬ a2 < 0 := fun z => q2 (Or.inl z)
      have z2 : a2 ≤ xc 1 := Int32.not_lt.mp (fun z => q2 (Or.inr z))
      have im : ∀ z, fM_isIn (Int32.toInt64 a2) (Int64.ofNat 0) (Int64.ofNat 1) z = some (xc 1) := fun z => by rw [ii, if_neg q2]
      have ep : ∀ fl, fX_sure_56 fl (12 + 5 * j) 3 193 μ = fW_answerOf 193 3 (12 + 5 * j) fl μ := fun fl => by
        simp only [fX_sure_56, bind_eta]
      have wf := hA.wfA hj
      have xe : fX_sure 2 (nI j) a2 μ = fW_answerOf 193 3 (12 + 5 * j) (if decide (a2 = 0) = true then xc 1 else xc 0) μ := by
        by_cases z0 : a2 = 0
        · rw [if_pos (decide_eq_true z0), ← ep]
          simp only [fX_sure, fX_sure_0, gd2 hh, xa, Option.bind_some, xc1F, if_false, z1, z2, if_true, g2_8 hh, g2_0 hh, g3_8 hh, ar_ask hh (show j < 10 by omega), eq_true z0]
        · rw [if_neg (by rw [decide_eq_true_eq]; exact z0), ← ep]
          simp only [fX_sure, fX_sure_0, gd2 hh, xa, Option.bind_some, xc1F, if_false, z1, z2, if_true, g2_8 hh, g2_0 hh, g3_8 hh, ar_ask hh (show j < 10 by omega), eq_false z0]
      obtain ⟨μ1, f1, xr⟩ := answerOf_ok (p := 12 + 5 * j) (m := 4) (P := A j) (al := decide (a2 = 0)) hA.obase (pic_ask hh j (by omega)) (hA.cA hj) wf.2.1 wf (by omega)
      have s1 := hA.scr (f1.mono (fun b k q => WO_scr q))
      have h1 := s1.sh
      obtain ⟨μ2, a, s, c, m1, m2, m3, m4, m5, m6, m7, m8, m9⟩ := findSure_ok s1.mside s1.kpm (q := j) (by omega) (s1.wfA hj) (s1.mA hj)
      have h2 := m2.sh h1
      have kpe : (fun v => xI μ1 6 v) = fun v => xI μ 6 v := funext (fun v => f1.I (by unfold WO; omega))
      rw [kpe] at m7 m8 m9
      have me : fM_sure 293 (nI j) a2 μ1 = if nI c = 0 then some (xc (-9), μ2) else if a2 = 0 then some (nI a, μ2) else some (nI s, μ2) := by
        simp only [fM_sure, fM_sure_0, gd293 h1, ma μ1 h1 s1.all.2.2.1.1, Option.bind_some, xc1F, if_false, im, m1, f293 h2, m3, m4, m5]
      rcases xr with ⟨x1, x2⟩ | ⟨b, x1, x2, x3⟩
      · have c0 : c = 0 := m7.mpr x2
        refine sim_ans (r := xc (-9)) (μ2 := μ2) s1.sim (xe.trans x1) ?_ (m2.mono (fun b k q => WSu_scr q))
        rw [me, c0]
        rfl
      · have c0 : ¬ nI c = 0 := nI_ne0 (by have : ¬ c = 0 := fun z => m7.mp z x2
                                           omega) (by omega)
        refine sim_ans (r := nI b) (μ2 := μ2) s1.sim (xe.trans x1) ?_ (m2.mono (fun b k q => WSu_scr q))
        rw [me, if_neg c0]
        by_cases z0 : a2 = 0
        · rw [decide_eq_true z0] at x3
          rw [if_pos z0, sure_uni (fun w _ => Iff.rfl) m8 x3]
        · rw [decide_eq_false z0] at x3
          rw [if_neg z0, sure_uni (fun w _ => Iff.rfl) m9 x3]
end SUREC
