/-! keep -/
theorem kclr : ∀ n, n < 64 → ∀ t, t < 6 → (n &&& (2 ^ t ^^^ 4294967295)) ≤ n ∧ ∀ i, i < 6 → (n &&& (2 ^ t ^^^ 4294967295)).testBit i = (if i = t then false else n.testBit i) := by decide +kernel
theorem kset : ∀ n, n < 64 → ∀ t, t < 6 → ∀ i, i < 6 → (n ||| 2 ^ t).testBit i = (if i = t then true else n.testBit i) := by decide +kernel
theorem sim_keep {L : Nat} {xs : Nat → Int32} {μ : xM} (a1 : Int32) (a2 : Int32) (hb2 : a2 = xc 0 ∨ a2 = xc 1) (hS : Sim L xs μ) : SimR L xs (fX_keep 2 a1 a2 μ) (fun μ => fM_keep 293 a1 a2 μ) := by
  have hh := hS.sh
  obtain ⟨o', A, V, na, nv, T, K, kb, gb, ⟨hB, hs, hm, ht, hk, hz, hg, hzz, hw, hp⟩, hP, hC, hBk, hT, hF, hI, hSS⟩ := sim_all.mp hS
  obtain ⟨b1, b2, b3, b4, b5, b6, b7⟩ := hB
  have hkb64 : kb < 64 := Nat.lt_of_lt_of_le b5 (Nat.pow_le_pow_right (n := 2) (by decide) b2 : 2 ^ nv ≤ 2 ^ 6)
  rcases off_or nv (by omega) a1 with q | ⟨j, hj, rfl⟩
  · refine sim_refuse 1 hS (by decide) (by decide) ?_ (fun μ1 h1 h2 => ?_)
    · unfold fX_keep fX_keep_0
      rw [gd2 hh, xview_no hh hs.2.2.2.1 q, Option.bind_some, if_pos xc_0_0, bind_eta]
      rfl
    · unfold fM_keep fM_keep_0
      rw [gd293 h1, mview_no h1 ((h2 _ _ (by decide)).trans hm.2.1) (by omega) q, Option.bind_some, if_pos xc_0_0, bind_eta]
      rfl
  · have hj' : j < 6 := by omega
    have hwf := (hP.2 j hj).2
    have e1 := xview_yes hh hs.2.2.2.1 (by omega) hj
    rcases hb2 with rfl | rfl
    · generalize hkk : kb &&& (2 ^ j ^^^ 4294967295) = kb'
      have kc := kclr kb hkb64 j hj'
      rw [hkk] at kc
      have h1 : Sh (xsI μ 3 4 (nI kb')) := hh
      have f : Fr (fun a k => a = 3 ∧ k = 4 ∨ a = 305) μ (xsI (xsI μ 3 4 (nI kb')) 305 j (xc (-1))) := ((Fr.refl μ).s _ (by omega)).s _ (by omega)
      refine ⟨xc (-9), xsI μ 3 4 (nI kb'), xsI (xsI μ 3 4 (nI kb')) 305 j (xc (-1)), ?_, o'.2.1, ?_, ?_⟩
      · unfold fX_keep fX_keep_0
        rw [gd2 hh, e1, Option.bind_some, if_neg xc_1_0, if_pos xc_0_0, g2_0 hh, Option.bind_some, f3 hh, Option.bind_some, hs.2.2.2.2.1, nI_bit (by omega), xc_m1, nI_xor, nI_and, hkk, fs3 hh, Option.bind_some]
      · unfold fM_keep fM_keep_0 fM_keep_39
        dsimp only
        rw [gd293 h1, mview_yes h1 (by rw [xI_ne (by omega)]; exact hm.2.1) (by omega) hj, Option.bind_some, if_neg xc_1_0, g293_16 h1, Option.bind_some, if_pos xc_0_0, sa305 h1 _ hj', Option.bind_some, if_pos xc_0_0]
      · refine sim_re (f.mono (fun a k q => by unfold WH FMo; omega)) o' hP hC hBk hT hF hI hSS hp ⟨b1, b2, b3, b4, Nat.lt_of_le_of_lt kc.1 b5, b6, b7⟩ ⟨?_, ?_, ?_, ?_, ?_, ?_⟩ (hm.fr f (fun a k _ => by omega)) (ht.fr f (fun k _ => by omega)) (fun v hv => ?_) (hz.fr f (fun a k _ _ => by omega)) (hg.fr f (fun k _ => by omega)) (hzz.fr f (fun a k _ _ _ _ => by omega)) (hw.fr f (fun k _ => by omega) b1)
        · rw [f.I (by omega)]; exact hs.1
        · rw [f.I (by omega)]; exact hs.2.1
        · rw [f.I (by omega)]; exact hs.2.2.1
        · rw [f.I (by omega)]; exact hs.2.2.2.1
        · rw [xI_ne (by omega), xI_eq]
        · rw [f.I (by omega)]; exact hs.2.2.2.2.2
        · rw [kc.2 v (by omega), f.I (a := 6) (by omega)]
          by_cases e : v = j
          · subst e
            rw [if_pos rfl, xI_eq]
            exact ⟨fun w => absurd w (by decide), fun _ => rfl⟩
          · rw [if_neg e, xI_ne (by omega), xI_ne (by omega)]
            exact hk v hv
    · have h0 : Sh (xsI μ 3 4 (nI (kb ||| 2 ^ j))) := hh
      have h1 : Sh (xsI (xsI μ 3 4 (nI (kb ||| 2 ^ j))) 6 j (nI (pAns (V j) T))) := hh
      have f0 : Fr (fun a k => a = 3 ∧ k = 4) μ (xsI μ 3 4 (nI (kb ||| 2 ^ j))) := (Fr.refl μ).s _ ⟨rfl, rfl⟩
      have f1 : Fr (fun a k => a = 3 ∧ k = 4 ∨ a = 6) μ (xsI (xsI μ 3 4 (nI (kb ||| 2 ^ j))) 6 j (nI (pAns (V j) T))) := (f0.mono (fun a k q => Or.inl q)).s _ (by omega)
      have f : Fr (fun a k => a = 3 ∧ k = 4 ∨ a = 6 ∨ a = 305) μ (xsI (xsI (xsI μ 3 4 (nI (kb ||| 2 ^ j))) 6 j (nI (pAns (V j) T))) 305 j (nI (pAns (V j) T))) := (f1.mono (fun a k q => by omega)).s _ (by omega)
      have pa := pAns_lt (P := V j) (W := T) hwf.2.2.1
      have ks := kset kb hkb64 j hj'
      have ea : fP_answerBy (62 + 5 * j) (nI T) (xsI μ 3 4 (nI (kb ||| 2 ^ j))) = some (nI (pAns (V j) T)) := xans_ok (f0.pic (pic_view hh j hj')) ((hp.2.1 j hj).fr (fun a k q r => f0.I (by omega))) hwf.2.1 hwf b3
      have em : fM_answerBy 293 (nI (10 + j)) (nI T) (xsI (xsI μ 3 4 (nI (kb ||| 2 ^ j))) 6 j (nI (pAns (V j) T))) = some (nI (pAns (V j) T)) := mans_ok h1 ((hP.2 j hj).1.fr (fun a k q r => f1.I (by omega))) (by omega) hwf b3
      have wn : fM_worldNow 293 (xsI (xsI μ 3 4 (nI (kb ||| 2 ^ j))) 6 j (nI (pAns (V j) T))) = some (nI T) := world_now h1 (ht.fr f1 (fun k _ => by omega)) b3
      refine ⟨nI (pAns (V j) T), xsI (xsI μ 3 4 (nI (kb ||| 2 ^ j))) 6 j (nI (pAns (V j) T)), xsI (xsI (xsI μ 3 4 (nI (kb ||| 2 ^ j))) 6 j (nI (pAns (V j) T))) 305 j (nI (pAns (V j) T)), ?_, o'.2.1, ?_, ?_⟩
      · unfold fX_keep fX_keep_0
        rw [gd2 hh, e1, Option.bind_some, if_neg xc_1_0, if_neg xc_1_0, g2_0 hh, Option.bind_some, f3 hh, Option.bind_some, hs.2.2.2.2.1, nI_bit (by omega), nI_or, fs3 hh, Option.bind_some]
        simp only [g2_0 h0, Option.bind_some, g3_10 h0, g3_9 h0, ar_view h0 hj', f3 h0]
        rw [xI_ne (by omega), hs.1, ea]
        simp only [Option.bind_some, sa6 h0 _ hj', g2_0 h1, g3_10 h1, la6 h1 hj', xI_eq]
      · unfold fM_keep fM_keep_0 fM_keep_39
        dsimp only
        rw [gd293 h1, mview_yes h1 ((f1.I (by omega)).trans hm.2.1) (by omega) hj, Option.bind_some, if_neg xc_1_0, g293_16 h1, Option.bind_some, if_neg xc_1_0, wn, Option.bind_some, show xc 10 + nI j = nI (10 + j) from nI_add 10 j, em, Option.bind_some, sa305 h1 _ hj', Option.bind_some, if_neg xc_1_0, g293_16 (μ := xsI (xsI (xsI μ 3 4 (nI (kb ||| 2 ^ j))) 6 j (nI (pAns (V j) T))) 305 j (nI (pAns (V j) T))) hh, Option.bind_some, la305 (μ := xsI (xsI (xsI μ 3 4 (nI (kb ||| 2 ^ j))) 6 j (nI (pAns (V j) T))) 305 j (nI (pAns (V j) T))) hh hj', Option.bind_some, xI_eq]
      · refine sim_re (f.mono (fun a k q => by unfold WH FMo; omega)) o' hP hC hBk hT hF hI hSS hp ⟨b1, b2, b3, b4, Nat.or_lt_two_pow b5 (Nat.pow_lt_pow_right (by decide) hj), b6, b7⟩ ⟨?_, ?_, ?_, ?_, ?_, ?_⟩ (hm.fr f (fun a k _ => by omega)) (ht.fr f (fun k _ => by omega)) (fun v hv => ?_) (hz.fr f (fun a k _ _ => by omega)) (hg.fr f (fun k _ => by omega)) (hzz.fr f (fun a k _ _ _ _ => by omega)) (hw.fr f (fun k _ => by omega) b1)
        · rw [f.I (by omega)]; exact hs.1
        · rw [f.I (by omega)]; exact hs.2.1
        · rw [f.I (by omega)]; exact hs.2.2.1
        · rw [f.I (by omega)]; exact hs.2.2.2.1
        · rw [xI_ne (by omega), xI_ne (by omega), xI_eq]
        · rw [f.I (by omega)]; exact hs.2.2.2.2.2
        · rw [ks v (by omega)]
          by_cases e : v = j
          · subst e
            rw [if_pos rfl, xI_eq, xI_ne (by omega), xI_eq]
            exact ⟨fun _ => ⟨_, pa, rfl, rfl⟩, fun w => absurd w (by decide)⟩
          · rw [if_neg e, xI_ne (by omega), xI_ne (by omega), xI_ne (by omega), xI_ne (by omega), xI_ne (by omega), xI_ne (by omega)]
            exact hk v hv
