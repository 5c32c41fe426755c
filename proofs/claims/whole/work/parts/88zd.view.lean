section VIEWT
variable {μ : xM} {L : Nat} {xs : Nat → Int32}
theorem sim_view (hS : Sim L xs μ) : SimR L xs (fX_view 2 μ) (fun μ => fM_view 293 μ) := by
  obtain ⟨A, V, na, nv, T, K, kb, gb, hA⟩ := simA_iff.mp hS
  have hh := hS.sh
  have hn := hA.na10
  have n6 := hA.nv6
  have all := hA.all
  have e2 : xI μ 3 3 = nI nv := all.2.1.2.2.2.1
  by_cases full : nv = 6
  · refine sim_refuse 6 hS (by decide) (by decide) ?_ (fun μ1 h1 h2 => ?_)
    · have c0 : ¬ xI μ 3 3 < xc 6 := by rw [e2, full]; decide
      simp only [fX_view, fX_view_0, gd2 hh, g2_0 hh, f3 hh, Option.bind_some, c0, if_false, bind_eta]
      rfl
    · have c0 : xI μ1 293 9 = xc 6 := by rw [h2 _ _ (by decide), all.2.2.1.2.1, full]; rfl
      simp only [fM_view, fM_view_0, gd293 h1, f293 h1, Option.bind_some, eq_true c0, if_true, bind_eta]
      rfl
  · have hna : nv < 6 := by omega
    obtain ⟨hO, hH, hP, hC, hB, hT, hF, hI, hSS⟩ := hA
    obtain ⟨n, n24, t1, t2, t3⟩ := hT
    have hBt : BtC μ (fun j => xI μ 182 j) n := ⟨hh, n24, t1, fun j _ => rfl⟩
    obtain ⟨μ1, x1, f1, c1⟩ := parseInto_ok hBt (pic_view hh nv hna) (by omega)
    obtain ⟨l4, l3, wf⟩ := rows_wf (bt := fun j => xI μ 182 j) (n := n) 4 0 [] rfl (fun r hr => absurd hr List.not_mem_nil)
    have lt := rows_lt (bt := fun j => xI μ 182 j) (n := n) 4 0 []
    have neg := rI_neg (pRows (fun j => xI μ 182 j) n 4 0 []).1 (fun q hq => by have := lt q hq; omega)
    generalize hPR : pRows (fun j => xI μ 182 j) n 4 0 [] = PR at *
    have h1 := f1.sh hh
    have s1 : Sh (xsI μ1 181 1 (xc 0)) := h1
    have e2' : xI μ1 3 3 = nI nv := (f1.I (by omega)).trans e2
    have xpre : fX_view 2 μ = if rI PR.1 < 0 then ((ldFR (xsI μ1 181 1 (xc 0)) 2 0 0).bind fun x12 => (ldF (xsI μ1 181 1 (xc 0)) x12 3 3).bind fun x13 => (stF (xsI μ1 181 1 (xc 0)) x12 3 3 (x13 + (xc 1))).bind fun μ14 => (fX_forgetSights 2 μ14).bind fun r15 => (ldFR r15 2 0 0).bind fun x16 => (ldF r15 x16 3 3).bind fun x17 => some ((x17 - (xc 1), r15))) else (some (((xc (-20)) - rI PR.1, xsI μ1 181 1 (xc 0)))) := by
      have c0 : nI nv < xc 6 := nI_lt (b := 6) hna (by decide)
      simp only [fX_view, fX_view_0, gd2 hh, g2_0 hh, f3 hh, e2, Option.bind_some, c0, if_true, g2_3 hh, g3_9 hh, ar_view hh hna, x1, g2_3 h1, fs181 h1]
    have fa : Fr (fun a k => 62 + 5 * nv ≤ a ∧ a < 67 + 5 * nv ∨ a = 181 ∧ k = 1) μ (xsI μ1 181 1 (xc 0)) := (f1.mono (fun a k q => by omega)).s _ (by omega)
    have pL : ∀ {μ' : xM} {p : Nat}, PicC μ' p PR.2 → PicL μ' p := fun c => ⟨_, _, l4, l3, c.1, c.2.1⟩
    have c8 : ¬ nI nv = xc 6 := fun z => by
      have := nI_inj (b := 6) (by omega) (by decide) z
      omega
    by_cases hf : PR.1 = none
    · have nn : rI PR.1 < 0 := neg.mpr hf
      rw [if_pos nn] at xpre
      have wfP := wf hf
      have s2 : Sh (xsI (xsI μ1 181 1 (xc 0)) 3 3 (nI (nv + 1))) := h1
      have v1 : xI (xsI μ1 181 1 (xc 0)) 3 3 = nI nv := (xI_ne (by omega)).trans e2'
      obtain ⟨μc, y1, fg, y2⟩ := forgets_ok s2
      have hc := fg.sh s2
      have v3 : xI μc 3 3 = nI (nv + 1) := (fg.I (by omega)).trans (xI_eq _ _ _ _)
      have em : nI (nv + 1) - xc 1 = nI nv := pk_sub (a := nv + 1) (b := 1) (by omega)
      have xe : fX_view 2 μ = some (nI nv, μc) := by
        rw [xpre]
        simp only [g2_0 s1, f3 s1, v1, Option.bind_some, inc1, fs3 s1, y1, g2_0 hc, f3 hc, v3, em]
      have fb : Fr (fun a k => 62 + 5 * nv ≤ a ∧ a < 67 + 5 * nv ∨ a = 181 ∧ k = 1 ∨ a = 3 ∧ k = 3 ∨ 213 ≤ a ∧ a < 293) μ μc := ((fa.mono (fun a k q => by omega)).s _ (by omega)).trans (fg.mono (fun a k q => by omega))
      have g181 : xI μc 181 1 = nI 0 := by rw [fg.I (by omega), xI_ne (by omega), xI_eq]; rfl
      have cc : PicC μc (62 + 5 * nv) PR.2 := c1.fr (fun a k q r => by rw [fg.I (by omega), xI_ne (by omega), xI_ne (by omega)])
      obtain ⟨μ2, m1, m2, m3, m4⟩ := readPic_ok (bt := fun j => xI μ 182 j) (n := n) (q := 10 + nv) hc n24 ((fb.I (by omega)).trans t2) (fun j hj => by rw [fb.I (by omega)]; exact (t3 j hj).symm) (by omega)
      rw [hPR] at m1 m3
      have h2 := m2.sh hc
      have w0 : xI μc 293 9 = nI nv := (fb.I (by omega)).trans all.2.2.1.2.1
      have w1 : xI μ2 293 9 = nI nv := (m2.I (by unfold W8 WQ; omega)).trans w0
      generalize hμf : xsI (xsI (xsI (xsI (xsI (xsI (xsI μ2 305 nv (xc (-1))) 307 nv (xc 0)) 308 nv (xc 0)) 309 nv (xc 0)) 310 nv (xc 0)) 311 nv (xc 0)) 293 9 (nI (nv + 1)) = μf
      have k1 : Sh (xsI μ2 305 nv (xc (-1))) := h2
      have k2 : Sh (xsI (xsI μ2 305 nv (xc (-1))) 307 nv (xc 0)) := h2
      have k3 : Sh (xsI (xsI (xsI μ2 305 nv (xc (-1))) 307 nv (xc 0)) 308 nv (xc 0)) := h2
      have k4 : Sh (xsI (xsI (xsI (xsI μ2 305 nv (xc (-1))) 307 nv (xc 0)) 308 nv (xc 0)) 309 nv (xc 0)) := h2
      have k5 : Sh (xsI (xsI (xsI (xsI (xsI μ2 305 nv (xc (-1))) 307 nv (xc 0)) 308 nv (xc 0)) 309 nv (xc 0)) 310 nv (xc 0)) := h2
      have k6 : Sh (xsI (xsI (xsI (xsI (xsI (xsI μ2 305 nv (xc (-1))) 307 nv (xc 0)) 308 nv (xc 0)) 309 nv (xc 0)) 310 nv (xc 0)) 311 nv (xc 0)) := h2
      have k7 : Sh μf := by rw [← hμf]; exact h2
      have u : ∀ {z : xM}, xI z 293 9 = nI nv → ∀ {a : Nat} (v : Int32), a ≠ 293 → xI (xsI z a nv v) 293 9 = nI nv := fun h a v ha => (xI_ne (by omega)).trans h
      have u1 := u w1 (a := 305) (xc (-1)) (by decide)
      have u2 := u u1 (a := 307) (xc 0) (by decide)
      have u3 := u u2 (a := 308) (xc 0) (by decide)
      have u4 := u u3 (a := 309) (xc 0) (by decide)
      have u5 := u u4 (a := 310) (xc 0) (by decide)
      have u6 := u u5 (a := 311) (xc 0) (by decide)
      have u7 : xI μf 293 9 = nI (nv + 1) := by rw [← hμf]; exact xI_eq _ _ _ _
      have me : fM_view 293 μc = some (nI nv, μf) := by
        simp only [fM_view, fM_view_0, gd293 hc, f293 hc, w0, Option.bind_some, eq_false c8, if_false, ix10, m1, nn, if_true, g293_16 h2, f293 h2, w1, sa305 h2 _ hna, g293_18 k1, f293 k1, u1, sa307 k1 _ hna, g293_19 k2, f293 k2, u2, sa308 k2 _ hna, g293_20 k3, f293 k3, u3, sa309 k3 _ hna, g293_21 k4, f293 k4, u4, sa310 k4 _ hna, g293_22 k5, f293 k5, u5, sz311 k5 hna (show xc 0 = 0 ∨ xc 0 = 1 from Or.inl rfl), f293 k6, u6, inc1, fs293 k6, hμf, f293 k7, u7, em]
      have G2 : Fr (fun a k => (305 ≤ a ∧ a ≤ 311 ∧ a ≠ 306) ∧ k = nv ∨ a = 293 ∧ k = 9) μ2 μf := by
        rw [← hμf]
        exact (((((((Fr.refl μ2).s _ (by omega)).s _ (by omega)).s _ (by omega)).s _ (by omega)).s _ (by omega)).s _ (by omega)).s _ (by omega)
      have G : Fr (fun a k => W8 (10 + nv) a k ∨ (305 ≤ a ∧ a ≤ 311 ∧ a ≠ 306) ∧ k = nv ∨ a = 293 ∧ k = 9) μc μf := (m2.mono (fun a k q => Or.inl q)).trans (G2.mono (fun a k q => Or.inr q))
      have F : Fr (fun a k => 62 + 5 * nv ≤ a ∧ a < 67 + 5 * nv ∨ a = 181 ∧ k = 1 ∨ a = 3 ∧ k = 3 ∨ 213 ≤ a ∧ a < 293 ∨ W8 (10 + nv) a k ∨ (305 ≤ a ∧ a ≤ 311 ∧ a ≠ 306) ∧ k = nv ∨ a = 293 ∧ k = 9) μ μf := (fb.mono (fun a k q => by omega)).trans (G.mono (fun a k q => Or.inr (Or.inr (Or.inr (Or.inr q)))))
      have sl : xI μf 305 nv = -1 ∧ xI μf 307 nv = 0 ∧ xI μf 308 nv = 0 ∧ xI μf 309 nv = 0 ∧ xI μf 310 nv = 0 ∧ xI μf 311 nv = 0 := by
        rw [← hμf]
        refine ⟨?_, ?_, ?_, ?_, ?_, ?_⟩ <;> (simp (disch := omega) only [xI_ne, xI_eq]; rfl)
      obtain ⟨⟨b1, b2, b3, b4, b5, b6, b7⟩, hs, hm, ht, hk, hz, hg, hzz, hw, hp⟩ := all
      have cc2 := picC_fr cc G (fun b k q r => by unfold W8 WQ; omega)
      have V1 : ∀ i, i < nv → (fun i => if i = nv then PR.2 else V i) i = V i := fun i hi => if_neg (by omega)
      have p2 : 2 ^ nv ≤ 2 ^ (nv + 1) := Nat.pow_le_pow_right (by decide) (by omega)
      refine ⟨nI nv, μc, μf, xe, fb.scr hO.2.1 (fun k => by omega), me, simA_iff.mpr ⟨A, fun i => if i = nv then PR.2 else V i, na, nv + 1, T, K, kb, gb, hO.fr F (fun a k q => by unfold W8 WQ; omega), simH_un.mpr ⟨⟨b1, by omega, b3, b4, by omega, by omega, b7⟩, ⟨?_, ?_, ?_, ?_, ?_, ?_⟩, ⟨?_, u7, ?_, ?_, ?_⟩, ht.fr F (fun k _ => by unfold W8 WQ; omega), fun v hv => ?_, fun v hv => ?_, fun v hv => ?_, fun v hv hv6 => ?_, hw.fr F (fun k _ => by unfold W8 WQ; omega) hn, ⟨fun i hi => ?_, fun i hi => ?_, fun i hi => ?_, fun i hi => ?_⟩⟩, ⟨fun i hi => ?_, fun i hi => ?_⟩, hC.fr F (fun a k q => by unfold FC at q; unfold W8 WQ; omega), hB.fr F (fun a k q => by unfold FB at q; unfold W8 WQ; omega), ⟨0, by omega, (G.I (by unfold W8 WQ; omega)).trans g181, (G2.I (by omega)).trans m4, fun j hj => absurd hj (Nat.not_lt_zero j)⟩, hF.fr F (fun a k q => by unfold FF at q; unfold W8 WQ; omega), (hI.fr F (fun a k q => by unfold FI at q; unfold W8 WQ; omega)).congr (fun i _ => rfl) V1 (Nat.le_refl _) (by omega), fun i hi => Or.inl ?_⟩⟩
      · rw [F.I (by unfold W8 WQ; omega)]; exact hs.1
      · rw [F.I (by unfold W8 WQ; omega)]; exact hs.2.1
      · rw [F.I (by unfold W8 WQ; omega)]; exact hs.2.2.1
      · rw [G.I (by unfold W8 WQ; omega)]; exact v3
      · rw [F.I (by unfold W8 WQ; omega)]; exact hs.2.2.2.2.1
      · rw [F.I (by unfold W8 WQ; omega)]; exact hs.2.2.2.2.2
      · rw [F.I (by unfold W8 WQ; omega)]; exact hm.1
      · rw [F.I (by unfold W8 WQ; omega), F.I (by unfold W8 WQ; omega)]; exact hm.2.2.1
      · rw [F.I (by unfold W8 WQ; omega), F.I (by unfold W8 WQ; omega)]; exact hm.2.2.2.1
      · rw [F.I (by unfold W8 WQ; omega)]; exact hm.2.2.2.2
      · by_cases z : v = nv
        · subst z
          exact ⟨fun y => by rw [Nat.testBit_lt_two_pow b5] at y; exact absurd y (by decide), fun _ => sl.1⟩
        · rw [F.I (by unfold W8 WQ; omega), F.I (by unfold W8 WQ; omega)]
          exact hk v (by omega)
      · by_cases z : v = nv
        · subst z
          obtain ⟨o1, o2, o3, o4⟩ := hzz v (Nat.le_refl _) hna
          rw [F.I (a := 8) (by unfold W8 WQ; omega), F.I (a := 9) (by unfold W8 WQ; omega), F.I (a := 10) (by unfold W8 WQ; omega), F.I (a := 11) (by unfold W8 WQ; omega), o1, o2, o3, o4]
          exact ⟨sl.2.1, sl.2.2.1, sl.2.2.2.1, sl.2.2.2.2.1⟩
        · rw [F.I (by unfold W8 WQ; omega), F.I (by unfold W8 WQ; omega), F.I (by unfold W8 WQ; omega), F.I (by unfold W8 WQ; omega), F.I (by unfold W8 WQ; omega), F.I (by unfold W8 WQ; omega), F.I (by unfold W8 WQ; omega), F.I (by unfold W8 WQ; omega)]
          exact hz v (by omega)
      · by_cases z : v = nv
        · subst z
          rw [sl.2.2.2.2.2, Nat.div_eq_of_lt b6]
          rfl
        · rw [F.I (by unfold W8 WQ; omega)]
          exact hg v (by omega)
      · rw [F.I (by unfold W8 WQ; omega), F.I (by unfold W8 WQ; omega), F.I (by unfold W8 WQ; omega), F.I (by unfold W8 WQ; omega)]
        exact hzz v (by omega) hv6
      · exact picC_fr (hp.1 i hi) F (fun b k q r => by unfold W8 WQ; omega)
      · by_cases z : i = nv
        · subst z
          dsimp only
          rw [if_pos rfl]
          exact cc2
        · dsimp only
          rw [if_neg z]
          exact picC_fr (hp.2.1 i (by omega)) F (fun b k q r => by unfold W8 WQ; omega)
      · obtain ⟨r, l, y1, y2, y3, y4⟩ := hp.2.2.1 i hi
        exact ⟨r, l, y1, y2, (F.I (by unfold W8 WQ; omega)).trans y3, (F.I (by unfold W8 WQ; omega)).trans y4⟩
      · by_cases z : i = nv
        · subst z
          exact pL cc2
        · obtain ⟨r, l, y1, y2, y3, y4⟩ := hp.2.2.2 i hi
          exact ⟨r, l, y1, y2, (F.I (by unfold W8 WQ; omega)).trans y3, (F.I (by unfold W8 WQ; omega)).trans y4⟩
      · obtain ⟨y1, y2⟩ := hP.1 i hi
        exact ⟨picM_keep y1 ⟨y2.2.1, y2.2.2.1⟩ F ⟨by unfold W8 WQ; omega, by unfold W8 WQ; omega, fun a k _ _ _ _ => by unfold W8 WQ; omega, fun k _ _ => by unfold W8 WQ; omega⟩, y2⟩
      · by_cases z : i = nv
        · subst z
          dsimp only
          rw [if_pos rfl]
          exact ⟨picM_fr m3 G2 (fun a k x y => by omega), wfP⟩
        · dsimp only
          rw [if_neg z]
          obtain ⟨y1, y2⟩ := hP.2 i (by omega)
          exact ⟨picM_keep y1 ⟨y2.2.1, y2.2.2.1⟩ F ⟨by unfold W8 WQ; omega, by unfold W8 WQ; omega, fun a k _ _ _ _ => by unfold W8 WQ; omega, fun k _ _ => by unfold W8 WQ; omega⟩, y2⟩
      · rw [G.I (by unfold W8 WQ; omega), G.I (by unfold W8 WQ; omega)]
        exact y2 i (by omega)
    · have nn : ¬ rI PR.1 < 0 := fun z => hf (neg.mp z)
      rw [if_neg nn] at xpre
      have g181 : xI (xsI μ1 181 1 (xc 0)) 181 1 = nI 0 := xI_eq _ _ _ _
      have cc : PicC (xsI μ1 181 1 (xc 0)) (62 + 5 * nv) PR.2 := c1.fr (fun a k q r => by simp (disch := omega) only [xI_ne])
      generalize xsI μ1 181 1 (xc 0) = μc at *
      have hc := fa.sh hh
      obtain ⟨μ2, m1, m2, m3, m4⟩ := readPic_ok (bt := fun j => xI μ 182 j) (n := n) (q := 10 + nv) hc n24 ((fa.I (by omega)).trans t2) (fun j hj => by rw [fa.I (by omega)]; exact (t3 j hj).symm) (by omega)
      rw [hPR] at m1 m3
      have me : fM_view 293 μc = some (xc (-20) - rI PR.1, μ2) := by
        have w0 : xI μc 293 9 = nI nv := (fa.I (by omega)).trans all.2.2.1.2.1
        simp only [fM_view, fM_view_0, gd293 hc, f293 hc, w0, Option.bind_some, eq_false c8, if_false, ix10, m1, nn]
      have F : Fr (fun a k => 62 + 5 * nv ≤ a ∧ a < 67 + 5 * nv ∨ a = 181 ∧ k = 1 ∨ W8 (10 + nv) a k) μ μ2 := (fa.mono (fun a k q => by omega)).trans (m2.mono (fun a k q => Or.inr (Or.inr q)))
      obtain ⟨hb, hs, hm, ht, hk, hz, hg, hzz, hw, hp⟩ := all
      have cc2 := picC_fr cc m2 (fun b k q r => by unfold W8 WQ; omega)
      refine ⟨_, μc, μ2, xpre, fa.scr hO.2.1 (fun k => by omega), me, simA_iff.mpr ⟨A, V, na, nv, T, K, kb, gb, hO.fr F (fun a k q => by unfold W8 WQ; omega), simH_un.mpr ⟨hb, hs.fr F (fun k _ => by unfold W8 WQ; omega), hm.fr F (fun a k _ => by unfold W8 WQ; omega), ht.fr F (fun k _ => by unfold W8 WQ; omega), hk.fr F (fun k _ => by unfold W8 WQ; omega), hz.fr F (fun a k _ _ => by unfold W8 WQ; omega), hg.fr F (fun k _ => by unfold W8 WQ; omega), hzz.fr F (fun a k _ _ _ _ => by unfold W8 WQ; omega), hw.fr F (fun k _ => by unfold W8 WQ; omega) hn, ⟨fun i hi => picC_fr (hp.1 i hi) F (fun b k q r => by unfold W8 WQ; omega), fun i hi => picC_fr (hp.2.1 i hi) F (fun b k q r => by unfold W8 WQ; omega), fun i hi => ?_, fun i hi => ?_⟩⟩, ⟨fun i hi => ?_, fun i hi => ?_⟩, hC.fr F (fun a k q => by unfold FC at q; unfold W8 WQ; omega), hB.fr F (fun a k q => by unfold FB at q; unfold W8 WQ; omega), ⟨0, by omega, (m2.I (by unfold W8 WQ; omega)).trans g181, m4, fun j hj => absurd hj (Nat.not_lt_zero j)⟩, hF.fr F (fun a k q => by unfold FF at q; unfold W8 WQ; omega), hI.fr F (fun a k q => by unfold FI at q; unfold W8 WQ; omega), hSS.fr F hn (fun a k q => by unfold FS at q; unfold W8 WQ; omega)⟩⟩
      · obtain ⟨r, l, y1, y2, y3, y4⟩ := hp.2.2.1 i hi
        exact ⟨r, l, y1, y2, (F.I (by unfold W8 WQ; omega)).trans y3, (F.I (by unfold W8 WQ; omega)).trans y4⟩
      · by_cases z : i = nv
        · subst z
          exact pL cc2
        · obtain ⟨r, l, y1, y2, y3, y4⟩ := hp.2.2.2 i hi
          exact ⟨r, l, y1, y2, (F.I (by unfold W8 WQ; omega)).trans y3, (F.I (by unfold W8 WQ; omega)).trans y4⟩
      · obtain ⟨y1, y2⟩ := hP.1 i hi
        exact ⟨picM_keep y1 ⟨y2.2.1, y2.2.2.1⟩ F ⟨by unfold W8 WQ; omega, by unfold W8 WQ; omega, fun a k _ _ _ _ => by unfold W8 WQ; omega, fun k _ _ => by unfold W8 WQ; omega⟩, y2⟩
      · obtain ⟨y1, y2⟩ := hP.2 i hi
        exact ⟨picM_keep y1 ⟨y2.2.1, y2.2.2.1⟩ F ⟨by unfold W8 WQ; omega, by unfold W8 WQ; omega, fun a k _ _ _ _ => by unfold W8 WQ; omega, fun k _ _ => by unfold W8 WQ; omega⟩, y2⟩
end VIEWT
