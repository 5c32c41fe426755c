section ASKT
theorem HRel.congr {μ : xM} {h : Nat} {t : Nat → Int32} {A A' V V' : Nat → xPic} {na nv T K kb gb : Nat} (H : HRel μ h t A V na nv T K kb gb) (ea : ∀ i, i < na → A' i = A i) (ev : ∀ i, i < nv → V' i = V i) : HRel μ h t A' V' na nv T K kb gb := by
  obtain ⟨h1, h2, h3, h4, h5, h6, h7, g0, g1, g2, g3, g4, g5, t0, t1, t2, t3, tt, tv, zv, ta, za, pa, pv, la, lv⟩ := H
  exact ⟨h1, h2, h3, h4, h5, h6, h7, g0, g1, g2, g3, g4, g5, t0, t1, t2, t3, tt, tv, zv, ta, za, fun i hi => by rw [ea i hi]; exact pa i hi, fun i hi => by rw [ev i hi]; exact pv i hi, la, lv⟩
theorem SimI.congr {μ : xM} {A A' V V' : Nat → xPic} {na nv na2 nv2 : Nat} (H : SimI μ A V na nv) (ea : ∀ i, i < na → A' i = A i) (ev : ∀ i, i < nv → V' i = V i) (h1 : na ≤ na2) (h2 : nv ≤ nv2) : SimI μ A' V' na2 nv2 := by
  rcases H with z | ⟨z1, z2, na', nv', T', K', kb', gb', l1, l2, img⟩
  · exact Or.inl z
  · exact Or.inr ⟨z1, z2, na', nv', T', K', kb', gb', by omega, by omega, img.congr (fun i hi => ea i (by omega)) (fun i hi => ev i (by omega))⟩
theorem rI_neg (o : Option Nat) (h : ∀ q, o = some q → q < 2 ^ 31) : (rI o < 0 ↔ o = none) := by
  cases o with
  | none => exact ⟨fun _ => rfl, fun _ => by decide⟩
  | some q => exact ⟨fun z => absurd z (nI_pos (h q rfl)), fun z => by cases z⟩
theorem head_lt {bt : Nat → Int32} {n : Nat} {R : List xRow} : ∀ (f i : Nat) (H : List Nat) (q : Nat), (pHead bt n R f i H).1 = some q → q ≤ i + f
  | 0, i, H, q, h => by
    injection h with h
    omega
  | f + 1, i, H, q, h => by
    unfold pHead at h
    split at h
    · injection h with h; omega
    · split at h
      · have := head_lt f _ _ q h; omega
      · cases h
theorem rows_lt {bt : Nat → Int32} {n : Nat} : ∀ (f i : Nat) (R : List xRow) (q : Nat), (pRows bt n f i R).1 = some q → q ≤ i + 4 * f + 10
  | 0, i, R, q, h => by
    injection h with h
    omega
  | f + 1, i, R, q, h => by
    unfold pRows at h
    split at h
    · rename_i q' e
      injection h with h
      subst h
      unfold pRow at e
      split at e
      · injection e with e; omega
      · split at e
        · injection e with e; omega
        · split at e
          · injection e with e; omega
          · cases e
    · split at h
      · cases h
      · split at h
        · have := head_lt 3 _ _ q h; omega
        · split at h
          · have := rows_lt f _ _ q h; omega
          · injection h with h; omega
variable {μ : xM} {L : Nat} {xs : Nat → Int32}
theorem picM_keep {μ' : xM} {W : Nat → Nat → Prop} {i : Nat} {P : xPic} (c : PicM μ i P) (w : P.1.length ≤ 4 ∧ P.2.length ≤ 3) (f : Fr W μ μ') (d : ¬ W 299 i ∧ ¬ W 303 i ∧ (∀ a k, 300 ≤ a → a ≤ 302 → 4 * i ≤ k → k < 4 * i + 4 → ¬ W a k) ∧ ∀ k, 3 * i ≤ k → k < 3 * i + 3 → ¬ W 304 k) : PicM μ' i P := by
  obtain ⟨c1, c2, c3, c4⟩ := c
  refine ⟨(f.I d.1).trans c1, (f.I d.2.1).trans c2, fun k hk => ?_, fun k hk => ?_⟩
  · rw [f.I (d.2.2.1 _ _ (by omega) (by omega) (by omega) (by omega)), f.I (d.2.2.1 _ _ (by omega) (by omega) (by omega) (by omega)), f.I (d.2.2.1 _ _ (by omega) (by omega) (by omega) (by omega))]
    exact c3 k hk
  · rw [f.I (d.2.2.2 _ (by omega) (by omega))]
    exact c4 k hk
theorem sim_ask (hS : Sim L xs μ) : SimR L xs (fX_ask 2 μ) (fun μ => fM_ask 293 μ) := by
  obtain ⟨A, V, na, nv, T, K, kb, gb, hA⟩ := simA_iff.mp hS
  have hh := hS.sh
  have hn := hA.na10
  have n6 := hA.nv6
  have all := hA.all
  have e2 : xI μ 3 2 = nI na := all.2.1.2.2.1
  by_cases full : na = 10
  · refine sim_refuse 6 hS (by decide) (by decide) ?_ (fun μ1 h1 h2 => ?_)
    · have c0 : ¬ xI μ 3 2 < xc 10 := by rw [e2, full]; decide
      simp only [fX_ask, fX_ask_0, gd2 hh, g2_0 hh, f3 hh, Option.bind_some, c0, if_false, bind_eta]
      rfl
    · have c0 : xI μ1 293 8 = xc 10 := by rw [h2 _ _ (by decide), all.2.2.1.1, full]; rfl
      simp only [fM_ask, fM_ask_0, gd293 h1, f293 h1, Option.bind_some, eq_true c0, if_true, bind_eta]
      rfl
  · have hna : na < 10 := by omega
    obtain ⟨hO, hH, hP, hC, hB, hT, hF, hI, hSS⟩ := hA
    obtain ⟨n, n24, t1, t2, t3⟩ := hT
    have hBt : BtC μ (fun j => xI μ 182 j) n := ⟨hh, n24, t1, fun j _ => rfl⟩
    obtain ⟨μ1, x1, f1, c1⟩ := parseInto_ok hBt (pic_ask hh na hna) (by omega)
    obtain ⟨l4, l3, wf⟩ := rows_wf (bt := fun j => xI μ 182 j) (n := n) 4 0 [] rfl (fun r hr => absurd hr List.not_mem_nil)
    have lt := rows_lt (bt := fun j => xI μ 182 j) (n := n) 4 0 []
    have neg := rI_neg (pRows (fun j => xI μ 182 j) n 4 0 []).1 (fun q hq => by have := lt q hq; omega)
    generalize hPR : pRows (fun j => xI μ 182 j) n 4 0 [] = PR at *
    have h1 := f1.sh hh
    have s1 : Sh (xsI μ1 181 1 (xc 0)) := h1
    have e2' : xI μ1 3 2 = nI na := (f1.I (by omega)).trans e2
    have xpre : fX_ask 2 μ = if rI PR.1 < 0 then ((ldFR (xsI μ1 181 1 (xc 0)) 2 0 0).bind fun x12 => (ldF (xsI μ1 181 1 (xc 0)) x12 3 2).bind fun x13 => (stF (xsI μ1 181 1 (xc 0)) x12 3 2 (x13 + (xc 1))).bind fun μ14 => (ldFR μ14 2 0 0).bind fun x15 => (ldF μ14 x15 3 2).bind fun x16 => some ((x16 - (xc 1), μ14))) else (some (((xc (-20)) - rI PR.1, xsI μ1 181 1 (xc 0)))) := by
      have c0 : nI na < xc 10 := nI_lt (b := 10) hna (by decide)
      simp only [fX_ask, fX_ask_0, gd2 hh, g2_0 hh, f3 hh, e2, Option.bind_some, c0, if_true, g2_3 hh, g3_8 hh, ar_ask hh hna, x1, g2_3 h1, fs181 h1]
    have fa : Fr (fun a k => 12 + 5 * na ≤ a ∧ a < 17 + 5 * na ∨ a = 181 ∧ k = 1) μ (xsI μ1 181 1 (xc 0)) := (f1.mono (fun a k q => by omega)).s _ (by omega)
    have pL : ∀ {μ' : xM} {p : Nat}, PicC μ' p PR.2 → PicL μ' p := fun c => ⟨_, _, l4, l3, c.1, c.2.1⟩
    by_cases hf : PR.1 = none
    · have nn : rI PR.1 < 0 := neg.mpr hf
      rw [if_pos nn] at xpre
      have wfP := wf hf
      have s3 : Sh (xsI (xsI μ1 181 1 (xc 0)) 3 2 (nI (na + 1))) := h1
      have v1 : xI (xsI μ1 181 1 (xc 0)) 3 2 = nI na := (xI_ne (by omega)).trans e2'
      have v3 : xI (xsI (xsI μ1 181 1 (xc 0)) 3 2 (nI (na + 1))) 3 2 = nI (na + 1) := xI_eq _ _ _ _
      have em : nI (na + 1) - xc 1 = nI na := pk_sub (a := na + 1) (b := 1) (by omega)
      have xe : fX_ask 2 μ = some (nI na, xsI (xsI μ1 181 1 (xc 0)) 3 2 (nI (na + 1))) := by
        rw [xpre]
        simp only [g2_0 s1, f3 s1, v1, Option.bind_some, inc1, fs3 s1, g2_0 s3, f3 s3, v3, em]
      have fb : Fr (fun a k => 12 + 5 * na ≤ a ∧ a < 17 + 5 * na ∨ a = 181 ∧ k = 1 ∨ a = 3 ∧ k = 2) μ (xsI (xsI μ1 181 1 (xc 0)) 3 2 (nI (na + 1))) := (fa.mono (fun a k q => by omega)).s _ (by omega)
      have g181 : xI (xsI (xsI μ1 181 1 (xc 0)) 3 2 (nI (na + 1))) 181 1 = nI 0 := by simp (disch := omega) only [xI_ne, xI_eq]; rfl
      have cc : PicC (xsI (xsI μ1 181 1 (xc 0)) 3 2 (nI (na + 1))) (12 + 5 * na) PR.2 := c1.fr (fun a k q r => by simp (disch := omega) only [xI_ne])
      have gc2 := v3
      generalize xsI (xsI μ1 181 1 (xc 0)) 3 2 (nI (na + 1)) = μc at *
      have hc := fb.sh hh
      obtain ⟨μ2, m1, m2, m3, m4⟩ := readPic_ok (bt := fun j => xI μ 182 j) (n := n) (q := na) hc n24 ((fb.I (by omega)).trans t2) (fun j hj => by rw [fb.I (by omega)]; exact (t3 j hj).symm) (by omega)
      rw [hPR] at m1 m3
      have h2 := m2.sh hc
      have w1 : xI μ2 293 8 = nI na := (m2.I (by unfold W8 WQ; omega)).trans ((fb.I (by omega)).trans all.2.2.1.1)
      have k1 : Sh (xsI μ2 306 na (xc 0)) := h2
      have k2 : Sh (xsI (xsI μ2 306 na (xc 0)) 293 8 (nI (na + 1))) := h2
      have w2 : xI (xsI μ2 306 na (xc 0)) 293 8 = nI na := (xI_ne (by omega)).trans w1
      have w3 : xI (xsI (xsI μ2 306 na (xc 0)) 293 8 (nI (na + 1))) 293 8 = nI (na + 1) := xI_eq _ _ _ _
      have me : fM_ask 293 μc = some (nI na, xsI (xsI μ2 306 na (xc 0)) 293 8 (nI (na + 1))) := by
        have c8 : ¬ nI na = xc 10 := fun z => by
          have := nI_inj (b := 10) (by omega) (by decide) z
          omega
        have w0 : xI μc 293 8 = nI na := (fb.I (by omega)).trans all.2.2.1.1
        simp only [fM_ask, fM_ask_0, gd293 hc, f293 hc, w0, Option.bind_some, eq_false c8, if_false, m1, nn, if_true, g293_17 h2, f293 h2, w1, sa306 h2 _ hna, f293 k1, w2, inc1, fs293 k1, f293 k2, w3, em]
      have F : Fr (fun a k => 12 + 5 * na ≤ a ∧ a < 17 + 5 * na ∨ a = 181 ∧ k = 1 ∨ a = 3 ∧ k = 2 ∨ W8 na a k ∨ a = 306 ∧ k = na ∨ a = 293 ∧ k = 8) μ (xsI (xsI μ2 306 na (xc 0)) 293 8 (nI (na + 1))) := (((fb.mono (fun a k q => by omega)).trans (m2.mono (fun a k q => Or.inr (Or.inr (Or.inr (Or.inl q)))))).s _ (by omega)).s _ (by omega)
      obtain ⟨⟨b1, b2, b3, b4, b5, b6, b7⟩, hs, hm, ht, hk, hz, hg, hzz, hw, hp⟩ := all
      have G : Fr (fun a k => W8 na a k ∨ a = 306 ∧ k = na ∨ a = 293 ∧ k = 8) μc (xsI (xsI μ2 306 na (xc 0)) 293 8 (nI (na + 1))) := ((m2.mono (fun a k q => Or.inl q)).s _ (by omega)).s _ (by omega)
      have cc2 := picC_fr cc G (fun b k q r => by unfold W8 WQ; omega)
      have A1 : ∀ i, i < na → (fun i => if i = na then PR.2 else A i) i = A i := fun i hi => if_neg (by omega)
      have A2 : (fun i => if i = na then PR.2 else A i) na = PR.2 := if_pos rfl
      refine ⟨nI na, μc, _, xe, fb.scr hO.2.1 (fun k => by omega), me, simA_iff.mpr ⟨fun i => if i = na then PR.2 else A i, V, na + 1, nv, T, K, kb, gb, hO.fr F (fun a k q => by unfold W8 WQ; omega), simH_un.mpr ⟨⟨by omega, b2, b3, b4, b5, b6, b7⟩, ⟨?_, ?_, ?_, ?_, ?_, ?_⟩, ⟨w3, ?_, ?_, ?_, ?_⟩, ht.fr F (fun k _ => by unfold W8 WQ; omega), hk.fr F (fun k _ => by unfold W8 WQ; omega), hz.fr F (fun a k _ _ => by unfold W8 WQ; omega), hg.fr F (fun k _ => by unfold W8 WQ; omega), hzz.fr F (fun a k _ _ _ _ => by unfold W8 WQ; omega), ⟨fun a ha => ?_, fun a ha ha2 => ?_⟩, ⟨fun i hi => ?_, fun i hi => ?_, fun i hi => ?_, fun i hi => ?_⟩⟩, ⟨fun i hi => ?_, fun i hi => ?_⟩, hC.fr F (fun a k q => by unfold FC at q; unfold W8 WQ; omega), hB.fr F (fun a k q => by unfold FB at q; unfold W8 WQ; omega), ⟨0, by omega, (G.I (by unfold W8 WQ; omega)).trans g181, ?_, fun j hj => absurd hj (Nat.not_lt_zero j)⟩, hF.fr F (fun a k q => by unfold FF at q; unfold W8 WQ; omega), (hI.fr F (fun a k q => by unfold FI at q; unfold W8 WQ; omega)).congr A1 (fun i _ => rfl) (by omega) (Nat.le_refl _), fun i hi => ?_⟩⟩
      · rw [F.I (by unfold W8 WQ; omega)]; exact hs.1
      · rw [F.I (by unfold W8 WQ; omega)]; exact hs.2.1
      · rw [G.I (by unfold W8 WQ; omega)]; exact gc2
      · rw [F.I (by unfold W8 WQ; omega)]; exact hs.2.2.2.1
      · rw [F.I (by unfold W8 WQ; omega)]; exact hs.2.2.2.2.1
      · rw [F.I (by unfold W8 WQ; omega)]; exact hs.2.2.2.2.2
      · rw [F.I (by unfold W8 WQ; omega)]; exact hm.2.1
      · rw [F.I (by unfold W8 WQ; omega), F.I (by unfold W8 WQ; omega)]; exact hm.2.2.1
      · rw [F.I (by unfold W8 WQ; omega), F.I (by unfold W8 WQ; omega)]; exact hm.2.2.2.1
      · rw [F.I (by unfold W8 WQ; omega)]; exact hm.2.2.2.2
      · by_cases z : a = na
        · subst z
          rw [xI_ne (by omega), xI_eq, F.I (by unfold W8 WQ; omega)]
          exact (hw.2 a (Nat.le_refl _) hna).symm
        · rw [F.I (by unfold W8 WQ; omega), F.I (by unfold W8 WQ; omega)]
          exact hw.1 a (by omega)
      · rw [F.I (by unfold W8 WQ; omega)]; exact hw.2 a (by omega) ha2
      · by_cases z : i = na
        · subst z
          dsimp only
          rw [if_pos rfl]
          exact cc2
        · dsimp only
          rw [if_neg z]
          exact picC_fr (hp.1 i (by omega)) F (fun b k q r => by unfold W8 WQ; omega)
      · exact picC_fr (hp.2.1 i hi) F (fun b k q r => by unfold W8 WQ; omega)
      · by_cases z : i = na
        · subst z
          exact pL cc2
        · obtain ⟨r, l, y1, y2, y3, y4⟩ := hp.2.2.1 i hi
          exact ⟨r, l, y1, y2, (F.I (by unfold W8 WQ; omega)).trans y3, (F.I (by unfold W8 WQ; omega)).trans y4⟩
      · obtain ⟨r, l, y1, y2, y3, y4⟩ := hp.2.2.2 i hi
        exact ⟨r, l, y1, y2, (F.I (by unfold W8 WQ; omega)).trans y3, (F.I (by unfold W8 WQ; omega)).trans y4⟩
      · by_cases z : i = na
        · subst z
          dsimp only
          rw [if_pos rfl]
          have G2 : Fr (fun a k => a = 306 ∧ k = i ∨ a = 293 ∧ k = 8) μ2 (xsI (xsI μ2 306 i (xc 0)) 293 8 (nI (i + 1))) := ((Fr.refl μ2).s _ (by omega)).s _ (by omega)
          exact ⟨picM_fr m3 G2 (fun a k x y => by omega), wfP⟩
        · dsimp only
          rw [if_neg z]
          obtain ⟨y1, y2⟩ := hP.1 i (by omega)
          exact ⟨picM_keep y1 ⟨y2.2.1, y2.2.2.1⟩ F ⟨by unfold W8 WQ; omega, by unfold W8 WQ; omega, fun a k _ _ _ _ => by unfold W8 WQ; omega, fun k _ _ => by unfold W8 WQ; omega⟩, y2⟩
      · obtain ⟨y1, y2⟩ := hP.2 i hi
        exact ⟨picM_keep y1 ⟨y2.2.1, y2.2.2.1⟩ F ⟨by unfold W8 WQ; omega, by unfold W8 WQ; omega, fun a k _ _ _ _ => by unfold W8 WQ; omega, fun k _ _ => by unfold W8 WQ; omega⟩, y2⟩
      · rw [xI_ne (by omega), xI_ne (by omega)]; exact m4
      · by_cases z : i = na
        · subst z
          left
          rw [F.I (by unfold W8 WQ; omega), F.I (by unfold W8 WQ; omega)]
          rcases hSS i hi with h | ⟨h0, _⟩
          · exact h
          · exact absurd h0 (Nat.lt_irrefl i)
        · have ei : ∀ b k, 213 + 8 * i ≤ b → b < 213 + 8 * i + 8 → xI (xsI (xsI μ2 306 na (xc 0)) 293 8 (nI (na + 1))) b k = xI μ b k := fun b k q r => F.I (by unfold W8 WQ; omega)
          have eL : ∀ b k, 213 + 8 * i ≤ b → b < 213 + 8 * i + 8 → xL (xsI (xsI μ2 306 na (xc 0)) 293 8 (nI (na + 1))) b k = xL μ b k := fun b k q r => F.L (by unfold W8 WQ; omega)
          rw [ei _ 8 (by omega) (by omega), ei _ 9 (by omega) (by omega)]
          dsimp only
          rw [if_neg z]
          rcases hSS i hi with h | ⟨h0, h1, h2, h3⟩
          · exact Or.inl h
          · refine Or.inr ⟨by omega, h1, h2.fr (fun b k q r => ei b k (by omega) (by omega)), ?_⟩
            rcases h3 with h3 | ⟨h3, h4⟩
            · exact Or.inl h3
            · exact Or.inr ⟨h3, h4.fr (fun b k q r => ei b k (by omega) (by omega)) (fun b k q r => eL b k (by omega) (by omega))⟩
    · have nn : ¬ rI PR.1 < 0 := fun z => hf (neg.mp z)
      rw [if_neg nn] at xpre
      have g181 : xI (xsI μ1 181 1 (xc 0)) 181 1 = nI 0 := xI_eq _ _ _ _
      have cc : PicC (xsI μ1 181 1 (xc 0)) (12 + 5 * na) PR.2 := c1.fr (fun a k q r => by simp (disch := omega) only [xI_ne])
      generalize xsI μ1 181 1 (xc 0) = μc at *
      have hc := fa.sh hh
      obtain ⟨μ2, m1, m2, m3, m4⟩ := readPic_ok (bt := fun j => xI μ 182 j) (n := n) (q := na) hc n24 ((fa.I (by omega)).trans t2) (fun j hj => by rw [fa.I (by omega)]; exact (t3 j hj).symm) (by omega)
      rw [hPR] at m1 m3
      have me : fM_ask 293 μc = some (xc (-20) - rI PR.1, μ2) := by
        have c8 : ¬ nI na = xc 10 := fun z => by
          have := nI_inj (b := 10) (by omega) (by decide) z
          omega
        have w0 : xI μc 293 8 = nI na := (fa.I (by omega)).trans all.2.2.1.1
        simp only [fM_ask, fM_ask_0, gd293 hc, f293 hc, w0, Option.bind_some, eq_false c8, if_false, m1, nn]
      have F : Fr (fun a k => 12 + 5 * na ≤ a ∧ a < 17 + 5 * na ∨ a = 181 ∧ k = 1 ∨ W8 na a k) μ μ2 := (fa.mono (fun a k q => by omega)).trans (m2.mono (fun a k q => Or.inr (Or.inr q)))
      obtain ⟨hb, hs, hm, ht, hk, hz, hg, hzz, hw, hp⟩ := all
      have cc2 := picC_fr cc m2 (fun b k q r => by unfold W8 WQ; omega)
      refine ⟨_, μc, μ2, xpre, fa.scr hO.2.1 (fun k => by omega), me, simA_iff.mpr ⟨A, V, na, nv, T, K, kb, gb, hO.fr F (fun a k q => by unfold W8 WQ; omega), simH_un.mpr ⟨hb, hs.fr F (fun k _ => by unfold W8 WQ; omega), hm.fr F (fun a k _ => by unfold W8 WQ; omega), ht.fr F (fun k _ => by unfold W8 WQ; omega), hk.fr F (fun k _ => by unfold W8 WQ; omega), hz.fr F (fun a k _ _ => by unfold W8 WQ; omega), hg.fr F (fun k _ => by unfold W8 WQ; omega), hzz.fr F (fun a k _ _ _ _ => by unfold W8 WQ; omega), hw.fr F (fun k _ => by unfold W8 WQ; omega) hn, ⟨fun i hi => picC_fr (hp.1 i hi) F (fun b k q r => by unfold W8 WQ; omega), fun i hi => picC_fr (hp.2.1 i hi) F (fun b k q r => by unfold W8 WQ; omega), fun i hi => ?_, fun i hi => ?_⟩⟩, ⟨fun i hi => ?_, fun i hi => ?_⟩, hC.fr F (fun a k q => by unfold FC at q; unfold W8 WQ; omega), hB.fr F (fun a k q => by unfold FB at q; unfold W8 WQ; omega), ⟨0, by omega, (m2.I (by unfold W8 WQ; omega)).trans g181, m4, fun j hj => absurd hj (Nat.not_lt_zero j)⟩, hF.fr F (fun a k q => by unfold FF at q; unfold W8 WQ; omega), hI.fr F (fun a k q => by unfold FI at q; unfold W8 WQ; omega), hSS.fr F hn (fun a k q => by unfold FS at q; unfold W8 WQ; omega)⟩⟩
      · by_cases z : i = na
        · subst z
          exact pL cc2
        · obtain ⟨r, l, y1, y2, y3, y4⟩ := hp.2.2.1 i hi
          exact ⟨r, l, y1, y2, (F.I (by unfold W8 WQ; omega)).trans y3, (F.I (by unfold W8 WQ; omega)).trans y4⟩
      · obtain ⟨r, l, y1, y2, y3, y4⟩ := hp.2.2.2 i hi
        exact ⟨r, l, y1, y2, (F.I (by unfold W8 WQ; omega)).trans y3, (F.I (by unfold W8 WQ; omega)).trans y4⟩
      · obtain ⟨y1, y2⟩ := hP.1 i hi
        exact ⟨picM_keep y1 ⟨y2.2.1, y2.2.2.1⟩ F ⟨by unfold W8 WQ; omega, by unfold W8 WQ; omega, fun a k _ _ _ _ => by unfold W8 WQ; omega, fun k _ _ => by unfold W8 WQ; omega⟩, y2⟩
      · obtain ⟨y1, y2⟩ := hP.2 i hi
        exact ⟨picM_keep y1 ⟨y2.2.1, y2.2.2.1⟩ F ⟨by unfold W8 WQ; omega, by unfold W8 WQ; omega, fun a k _ _ _ _ => by unfold W8 WQ; omega, fun k _ _ => by unfold W8 WQ; omega⟩, y2⟩
end ASKT
