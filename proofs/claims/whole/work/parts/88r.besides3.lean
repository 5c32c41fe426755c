section BESIDESS
variable {μ : xM} {A V : Nat → xPic} {na nv K kb T : Nat} {kp : Nat → Int32} {P : xPic}
theorem mworlds_ok (h : MSide μ A V na nv K) (hk : KpM μ nv kb kp) {q : Nat} (hq : q < 16) (wP : PicWf P) (cP : PicM μ q P) (v2 : Int32) : ∃ μ1, Fr WB μ μ1 ∧ TabW μ1 V nv T P (IsW V nv K kb kp) 4096 0 ∧ ∀ r, fM_besides_102 293 v2 μ1 = some r → fM_besides_51 293 (nI q) v2 μ = some r := by
  have hh := h.1
  have goal : ∃ μ1, Fr WB μ μ1 ∧ TabW μ1 V nv T P (IsW V nv K kb kp) 4096 0 ∧ ∀ r, fM_besides_102 293 v2 μ1 = some r → xwh (fun s : Int32 × xM => fM_besides_L53 293 (nI q) v2 s.1 s.2) (nI 0, μ) = some r := by
    have key : ∀ k i μ', i + k = 4096 → Fr WB μ μ' → TabW μ' V nv T P (IsW V nv K kb kp) i 0 → ∃ μ1, Fr WB μ μ1 ∧ TabW μ1 V nv T P (IsW V nv K kb kp) 4096 0 ∧ ∀ r, fM_besides_102 293 v2 μ1 = some r → xwh (fun s : Int32 × xM => fM_besides_L53 293 (nI q) v2 s.1 s.2) (nI i, μ') = some r := by
      intro k
      induction k with
      | zero =>
        intro i μ' hi f tb
        obtain rfl : i = 4096 := by omega
        refine ⟨μ', f, tb, fun r hr => xwh_stop ?_⟩
        simp only [fM_besides_L53, show (xc 4096 ≤ nI 4096) = True from by decide, if_true, hr, Option.map_some]
      | succ k ih =>
        intro i μ' hi f tb
        have hM : MSide μ' A V na nv K := h.fr (f.mono (fun a k q => WB_scr q))
        have h' := hM.1
        have il : i < 4096 := by omega
        have c0 : ¬ xc 4096 ≤ nI i := nI_ge (b := 4096) il (by decide)
        obtain ⟨r, w1, w2⟩ := isWorld_ok hM (hk.fr f (fun k => by unfold WB; omega)) il
        have s1 : Sh (xsI μ' 328 i r) := h'
        have st1 : stAZ μ' 328 (nI i) r = some (xsI μ' 328 i r) := sz328 h' il w2.zo
        have l8 : ldAZ (xsI μ' 328 i r) 328 (nI i) = some r := by rw [lz328 s1 il, xI_eq]
        have f1 : Fr WB μ (xsI μ' 328 i r) := f.s _ ⟨by decide, by decide⟩
        have put : ∀ v, (IsW V nv K kb kp i → v = nI (pAns P i)) → stA (xsI μ' 328 i r) 329 (nI i) v = some (xsI (xsI μ' 328 i r) 329 i v) ∧ Fr WB μ (xsI (xsI μ' 328 i r) 329 i v) ∧ TabW (xsI (xsI μ' 328 i r) 329 i v) V nv T P (IsW V nv K kb kp) (i + 1) 0 := fun v hv => by
          refine ⟨sa329 s1 v il, f1.s _ ⟨by decide, by decide⟩, fun w hw => ?_, fun v' hv' => absurd hv' (Nat.not_lt_zero v')⟩
          by_cases z : w = i
          · subst z
            rw [xI_ne (by omega), xI_eq, xI_eq]
            exact ⟨w2, hv⟩
          · rw [xI_ne (by omega), xI_ne (by omega), xI_ne (by omega), xI_ne (by omega)]
            exact tb.1 w (by omega)
        rcases w2 with ⟨rfl, w2⟩ | ⟨rfl, w2⟩
        · have ma := mans_ok s1 (cP.fr (fun a k q r => f1.I (by unfold WB; omega))) hq wP il
          obtain ⟨p1, p2, p3⟩ := put (nI (pAns P i)) (fun _ => rfl)
          obtain ⟨μ1, g1, g2, g3⟩ := ih (i + 1) _ (by omega) p2 p3
          refine ⟨μ1, g1, g2, fun r hr => xwh_go ?_ (g3 r hr)⟩
          simp only [fM_besides_L53, c0, if_false, g293_57 h', Option.bind_some, w1, st1, g293_58 s1, g293_57 s1, l8, xc1F, ma, fM_besides_95, p1, inc1]
        · obtain ⟨p1, p2, p3⟩ := put (xc 0) (fun z => absurd z w2)
          obtain ⟨μ1, g1, g2, g3⟩ := ih (i + 1) _ (by omega) p2 p3
          refine ⟨μ1, g1, g2, fun r hr => xwh_go ?_ (g3 r hr)⟩
          simp only [fM_besides_L53, c0, if_false, g293_57 h', Option.bind_some, w1, st1, g293_58 s1, g293_57 s1, l8, xc0T, if_true, fM_besides_95, p1, inc1]
    exact key 4096 0 μ (by omega) (Fr.refl μ) ⟨fun w hw => absurd hw (Nat.not_lt_zero w), fun v hv => absurd hv (Nat.not_lt_zero v)⟩
  exact goal
theorem mmask_ok (h : MSide μ A V na nv K) (hk : KpM μ nv kb kp) {v1 : Int32} {r : Int32 × xM} (hr : fM_besides_51 293 v1 (nI (nkB nv kb)) μ = some r) : xwh (fun s : Int32 × Int32 => fM_besides_L18 293 v1 s.1 s.2 μ) (xc 0, xc 0) = some r := by
  have hh := h.1
  have e9 := h.2.2.1
  have n6 := h.2.2.2.2.1
  refine xwh_for (fun i => (nI (orUp (fun v => if kb.testBit v = true then 0 else 2 ^ v) i), nI i)) nv _ (fun i hi => ?_) ?_ nv 0 (by omega)
  · have c0 : ¬ nI nv ≤ nI i := nI_ge hi (by omega)
    have l5 : ldA μ 305 (nI i) = some (xI μ 305 i) := la305 hh (by omega)
    dsimp only
    rw [orUp_succ]
    by_cases q : kb.testBit i = true
    · obtain ⟨⟨a, a1, a2⟩, a3⟩ := (hk i hi).1 q
      have np : 0 ≤ nI a := nI_pos' (by omega)
      rw [if_pos q]
      simp only [fM_besides_L18, f293 hh, e9, Option.bind_some, c0, if_false, g293_16 hh, l5, a3, a2, np, if_true, fM_besides_43, show xc 0 = nI 0 from rfl, nI_or, inc1]
    · have e := (hk i hi).2 (Bool.eq_false_iff.mpr q)
      rw [if_neg q]
      simp only [fM_besides_L18, f293 hh, e9, Option.bind_some, c0, if_false, g293_16 hh, l5, e, show (0 ≤ (-1 : Int32)) = False from by decide, fM_besides_43, nI_bit (show i < 32 by omega), nI_or, inc1]
  · dsimp only
    simp only [fM_besides_L18, f293 hh, e9, Option.bind_some, Int32.le_refl, if_true]
    rw [show orUp (fun v => if kb.testBit v = true then 0 else 2 ^ v) nv = nkB nv kb from rfl, hr]
    rfl
theorem xbesides_ok (hB : OBase μ V nv K kb) (e0 : xI μ 3 0 = nI T) (T12 : T < 4096) {p m : Nat} (hp : IsPic μ p m) (c : PicC μ p P) (hm : P.1.length ≤ m) (hw : PicWf P) (hd : p + 5 ≤ 193) : ∃ r μ1, fW_fewestBesides 193 3 p μ = some (r, μ1) ∧ Fr WV μ μ1 ∧ LeastOn (BesQ V nv T kb P (IsW V nv K kb (fun v => xI μ 6 v))) r := by
  have hh := hB.1
  obtain ⟨μ1, a1, a2, a3⟩ := findOpen_ok hB
  obtain ⟨_, hH, n6, hV, hK, e1, e3, e4, hkb, hkp⟩ := hB
  have holdF : ∀ {μ'}, Fr WV μ μ' → ∀ i, i < 6 → xL μ' 1 i = xhold i := fun f i hi => by rw [f.L (by unfold WV; omega)]; exact hH i hi
  have goal : ∃ a, xwh (fun s : Int32 × xM => fW_fewestBesides_L7 193 3 p s.1 s.2) (xc 0, μ1) = some a ∧ Fr WV μ a.2 ∧ LeastOn (BesQ V nv T kb P (IsW V nv K kb (fun v => xI μ 6 v))) a.1 := by
    refine xwh_inv (body := fun s : Int32 × xM => fW_fewestBesides_L7 193 3 p s.1 s.2) (fun i z => z.1 = nI i ∧ Fr WV μ z.2 ∧ (∀ w, w < 4096 → (InW z.2 194 w ↔ IsW V nv K kb (fun v => xI μ 6 v) w)) ∧ ∀ v, v < i → ∀ w, w < 4096 → (InW z.2 (196 + v) w ↔ pAns (V v) w = pAns (V v) T)) _ nv ?_ ?_ nv 0 _ (by omega) ⟨rfl, a2.mono (fun b k q => WO_WV q), a3, fun v hv => absurd hv (Nat.not_lt_zero v)⟩
    · rintro i ⟨x, μ'⟩ hi ⟨rfl, f, op, ag⟩
      left
      dsimp only at f op ag
      have h' := f.sh hh
      have c0 : ¬ nI nv ≤ nI i := nI_ge hi (by omega)
      have ee3 : ldF μ' 3 3 3 = some (nI nv) := (f3 h' 3).trans (by rw [f.I (by unfold WV; omega), e3])
      obtain ⟨μ2, b1, b2, b3⟩ := fill_ok (μ := μ') (a := 196 + i) (kw h' (by omega)) (by omega) (by decide) (Int64.ofNat 18446744073709551615)
      have h2 := b2.sh h'
      have f2 : Fr WV μ μ2 := f.trans (b2.mono (fun b k q => by unfold WV; omega))
      have ee0 : ldF μ2 3 3 0 = some (nI T) := (f3 h2 0).trans (by rw [f2.I (by unfold WV; omega), e0])
      have pic : IsPic μ2 (62 + 5 * i) 4 := f2.pic (pic_view hh i (by omega))
      have cv := picC_fr (hV i hi).2 f2 (fun b k q r => by unfold WV; omega)
      have wf := (hV i hi).1
      have xa := xans_ok pic cv wf.2.1 wf T12
      obtain ⟨μ3, d1, d2, d3⟩ := keepAgr_ok (μ := μ2) (a := 196 + i) (p := 62 + 5 * i) (P := V i) h2 (kd1 h2) (holdF f2) pic cv wf.2.1 wf (by omega) (Or.inr ⟨by omega, by omega⟩) (pAns_lt (P := V i) (W := T) wf.2.2.1)
      have all : ∀ w, w < 4096 → InW μ2 (196 + i) w := fun w hw => by
        unfold InW
        rw [b3 _ (by omega), lb_m1 (Nat.mod_lt _ (by decide))]
      refine ⟨(nI (i + 1), μ3), ?_, rfl, f2.trans (d2.mono (fun b k q => by unfold WV; unfold WG at q; omega)), fun w hw => ?_, fun v hv w hw => ?_⟩
      · simp only [fW_fewestBesides_L7, ee3, Option.bind_some, c0, if_false, g193_1 h', ar_agr h' (show i < 6 by omega), b1, g193_1 h2, ar_agr h2 (show i < 6 by omega), g3_9 h2, ar_view h2 (show i < 6 by omega), ee0, xa, d1, inc1]
      · rw [InW.fr d2 (fun k => by unfold WG; omega), InW.fr b2 (fun k => by omega)]
        exact op w hw
      · by_cases z : v = i
        · subst z
          rw [d3 w hw]
          exact ⟨fun y => y.2, fun y => ⟨all w hw, y⟩⟩
        · rw [InW.fr d2 (fun k => by unfold WG; omega), InW.fr b2 (fun k => by omega)]
          exact ag v (by omega) w hw
    · rintro ⟨x, μ'⟩ ⟨rfl, f, op, ag⟩
      dsimp only at f op ag
      have h' := f.sh hh
      have ee3 : ldF μ' 3 3 3 = some (nI nv) := (f3 h' 3).trans (by rw [f.I (by unfold WV; omega), e3])
      obtain ⟨μ2, s1, s2, s3⟩ := spread_ok (μ := μ') h' (kd1 h') (holdF f) (f.pic hp) (picC_fr c f (fun b k q r => by unfold WV; omega)) hm hw hd
      have f2 : Fr WV μ μ2 := f.trans (s2.mono (fun b k q => by unfold WV; unfold WG at q; omega))
      have bes : Bes μ2 V nv T P (IsW V nv K kb (fun v => xI μ 6 v)) := ⟨s2.sh h', n6, hw, fun w hw' => (InW.fr s2 (fun k => by unfold WG; omega)).trans (op w hw'), fun v hv w hw' => (InW.fr s2 (fun k => by unfold WG; omega)).trans (ag v hv w hw'), s3⟩
      obtain ⟨r, μ3, t1, t2, t3⟩ := fewest_ok (kb := kb) bes ((f2.I (by unfold WV; omega)).trans e3) ((f2.I (by unfold WV; omega)).trans e4) hkb
      refine ⟨(r, μ3), ?_, f2.trans (t2.mono (fun b k q => by unfold WV; omega)), t3⟩
      simp only [fW_fewestBesides_L7, ee3, Option.bind_some, Int32.le_refl, if_true, fW_fewestBesides_62, s1, t1, Option.map_some]
  obtain ⟨⟨r, μ2⟩, g1, g2, g3⟩ := goal
  refine ⟨r, μ2, ?_, g2, g3⟩
  simp only [fW_fewestBesides, fW_fewestBesides_0, gd193 hh, a1, Option.bind_some]
  exact g1
variable {L : Nat} {xs : Nat → Int32}
theorem sim_besides (a1 : Int32) (hS : Sim L xs μ) : SimR L xs (fX_besides 2 a1 μ) (fun μ => fM_besides 293 a1 μ) := by
  obtain ⟨A, V, na, nv, T, K, kb, gb, hA⟩ := simA_iff.mp hS
  have hh := hS.sh
  have hn := hA.na10
  have n6 := hA.nv6
  have all := hA.all
  rcases off_or na (by omega) a1 with q | ⟨j, hj, rfl⟩
  · refine sim_refuse 1 hS (by decide) (by decide) ?_ (fun μ1 h1 h2 => ?_)
    · simp only [fX_besides, fX_besides_0, gd2 hh, xask_no hh all.2.1.2.2.1 q, Option.bind_some, xc0T, if_true, bind_eta]
      rfl
    · simp only [fM_besides, fM_besides_0, gd293 h1, mask_no h1 ((h2 _ _ (by decide)).trans all.2.2.1.1) (by omega) q, Option.bind_some, xc0T, if_true, bind_eta]
      rfl
  · have xa := xask_yes hh all.2.1.2.2.1 (by omega) hj
    have ma : ∀ z, Sh z → xI z 293 8 = nI na → fM_isAsk 293 (nI j) z = some (xc 1) := fun z hz e => mask_yes hz e (by omega) hj
    have wf := hA.wfA hj
    have T12 : T < 4096 := all.1.2.2.1
    obtain ⟨r, μ1, x1, f1, x2⟩ := xbesides_ok (T := T) (p := 12 + 5 * j) (m := 4) (P := A j) hA.obase all.2.1.1 T12 (pic_ask hh j (by omega)) (hA.cA hj) wf.2.1 wf (by omega)
    have s1 := hA.scr (f1.mono (fun b k q => WV_scr q))
    have h1 := s1.sh
    have wf1 := s1.wfA hj
    obtain ⟨μ2, m1, m2, m3⟩ := mworlds_ok (T := T) s1.mside s1.kpm (q := j) (by omega) wf1 (s1.mA hj) (nI (nkB nv kb))
    have s2 := s1.scr (m1.mono (fun b k q => WB_scr q))
    obtain ⟨μ3, d1, d2, d3⟩ := mdiff_ok (kb := kb) s2.mside wf s2.all.2.2.2.1 T12 m2
    have s3 := s2.scr (d1.mono (fun b k q => WB_scr q))
    obtain ⟨r2, l1, l2⟩ := mleast_ok (kb := kb) s3.sh n6 s3.mside.2.2.1 wf d2
    have kpe : (fun v => xI μ1 6 v) = fun v => xI μ 6 v := funext (fun v => f1.I (by unfold WV; omega))
    rw [kpe] at l2
    have er : r = r2 := least_uni (fun x => Iff.rfl) x2 l2
    subst er
    have me : fM_besides 293 (nI j) μ1 = some (r, μ3) := by
      simp only [fM_besides, fM_besides_0, gd293 h1, ma μ1 h1 s1.all.2.2.1.1, Option.bind_some, xc1F, if_false]
      exact mmask_ok s1.mside s1.kpm (m3 _ (d3.trans l1))
    refine sim_ans (r := r) (μ2 := μ3) s1.sim ?_ me ((m1.trans d1).mono (fun b k q => WB_scr q))
    simp only [fX_besides, fX_besides_0, gd2 hh, xa, Option.bind_some, xc1F, if_false, g2_8 hh, g2_0 hh, g3_8 hh, ar_ask hh (show j < 10 by omega), x1]
end BESIDESS
