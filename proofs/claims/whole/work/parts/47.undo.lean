/-! undo, key -/
theorem SC2.drop {μc μm μc' μm' : xM} {c : Nat} (h : SC2 μc μm (c + 1)) (e1 : xI μc' 185 1 = nI c) (e2 : xI μm' 293 3 = nI c) (e3 : ∀ k, xI μc' 186 k = xI μc 186 k) (e4 : ∀ k, xI μm' 296 k = xI μm 296 k) : SC2 μc' μm' c := by
  obtain ⟨h1, h2, h3, h4⟩ := h
  refine ⟨by omega, e1, e2, fun j hj => ?_⟩
  rw [e3, e4]
  exact h4 j (by omega)
theorem what_t (f r : Nat) (hf : f < 2) (hr : r < 12) : (100 * f + 10 * (r / 4) + r % 4) % 100 / 10 = r / 4 ∧ (100 * f + 10 * (r / 4) + r % 4) % 10 = r % 4 := ⟨by omega, by omega⟩
theorem rmI_n {a d : Nat} (ha : a < 2 ^ 31) (h0 : 0 < d) (hd : d < 2 ^ 31) : rmI (nI a) (nI d) = some (nI (a % d)) := by
  unfold rmI
  rw [if_neg (nI_ne0 h0 hd), pk_rem ha h0 hd]
theorem dvI_n {a d : Nat} (ha : a < 2 ^ 31) (h0 : 0 < d) (hd : d < 2 ^ 31) : dvI (nI a) (nI d) = some (nI (a / d)) := by
  unfold dvI
  rw [if_neg (nI_ne0 h0 hd), pk_div ha h0 hd]
theorem sim_undo {L : Nat} {xs : Nat → Int32} {μ : xM}  (hS : Sim L xs μ) : SimR L xs (fX_undo 2 μ) (fun μ => fM_undo 293 μ) := by
  have hh := hS.sh
  obtain ⟨o', A, V, na, nv, T, K, kb, gb, ⟨hB, hs, hm, ht, hk, hz, hg, hzz, hw, hp⟩, hP, hC, hBk, hT, hF, hI, hSS⟩ := sim_all.mp hS
  obtain ⟨c, hc⟩ := SC2.of hC
  have c1 := hc.1
  have c2 := hc.2.1
  have c3 := hc.2.2.1
  have hT3 := hB.2.2.1
  have hK3 := hB.2.2.2.1
  rcases c with _ | c
  · refine sim_refuse 3 hS (by decide) (by decide) ?_ (fun μ1 h1 h2 => ?_)
    · unfold fX_undo fX_undo_0 fC_latestRow fC_latestRow_0
      simp only [gd2 hh, g2_5 hh, Option.bind_some, gd185 hh, f185 hh, c2, show (nI 0 ≤ 0) = True from by decide, if_true, show (0 ≤ xc (-1)) = False from by decide, if_false, bind_eta]
      rfl
    · unfold fM_undo fM_undo_0
      rw [gd293 h1, f293 h1, Option.bind_some, h2 293 3 (by decide), c3, if_pos nI_0, bind_eta]
      rfl
  · obtain ⟨r, f, hr, hf, e1, e2⟩ := hc.2.2.2 c (by omega)
    have n1 : ¬ nI (c + 1) ≤ 0 := nI_nle (by omega) (by omega)
    have n2 : nI (c + 1) - xc 1 = nI c := by rw [show xc 1 = nI 1 from rfl, pk_sub (by omega)]; rfl
    have n3 : (nI (c + 1) = 0) = False := eq_false (nI_ne0 (by omega) (by omega))
    have n4 : 0 ≤ nI r := nI_pos' (by omega)
    obtain ⟨t, b, htt, hb, rfl⟩ : ∃ t b, t < 3 ∧ b < 4 ∧ r = 4 * t + b := ⟨r / 4, r % 4, by omega, by omega, by omega⟩
    have rp := r_parts t b hb
    rw [rp.1, rp.2] at e2
    have w16 := t16_lt T t
    have lat : fC_latestRow 185 μ = some (nI (4 * t + b)) := by
      unfold fC_latestRow fC_latestRow_0
      simp only [gd185 hh, f185 hh, Option.bind_some, c2, n1, if_false, g185_0 hh, n2, la186 hh (show c < 40 by omega), e1]
    have mw : ∀ μ1, Sh μ1 → (∀ a j, 293 ≤ a → xI μ1 a j = xI μ a j) → fM_undo 293 μ1 = if K.testBit t = true ∧ ¬ keyedN (T / 16 ^ t % 16 ^^^ 2 ^ b) then fM_refuse 293 (xc (-3)) μ1 else some (xc 1, xsI (xsI μ1 294 t (nI (T / 16 ^ t % 16 ^^^ 2 ^ b))) 293 3 (nI c)) := fun μ1 h1 h2 => by
      have e71 : fM_undo_71 293 (nI t) (nI (T / 16 ^ t % 16 ^^^ 2 ^ b)) μ1 = some (xc 1, xsI (xsI μ1 294 t (nI (T / 16 ^ t % 16 ^^^ 2 ^ b))) 293 3 (nI c)) := by
        unfold fM_undo_71
        simp (disch := omega) only [g293_0 h1, Option.bind_some, sa294 h1 _ htt, f293 (show Sh (xsI μ1 294 t (nI (T / 16 ^ t % 16 ^^^ 2 ^ b))) from h1), xI_ne, h2 293 3 (by decide), c3, n2, fs293 (show Sh (xsI μ1 294 t (nI (T / 16 ^ t % 16 ^^^ 2 ^ b))) from h1)]
      unfold fM_undo fM_undo_0
      rw [gd293 h1, f293 h1, Option.bind_some, h2 293 3 (by decide), c3, if_neg (nI_ne0 (by omega) (by omega)), g293_2 h1, Option.bind_some, Option.bind_some, n2, la296 h1 (show c < 40 by omega), Option.bind_some, h2 296 _ (by decide), e2]
      rw [show xc 100 = nI 100 from rfl, rmI_n (by omega) (by decide) (by decide), Option.bind_some, show xc 10 = nI 10 from rfl, dvI_n (by omega) (by decide) (by decide), Option.bind_some, g293_0 h1, Option.bind_some, rmI_n (by omega) (by decide) (by decide), show (100 * f + 10 * t + b) % 100 / 10 = t by omega, show (100 * f + 10 * t + b) % 10 = b by omega, la294 h1 htt, Option.bind_some, Option.bind_some, g293_1 h1, Option.bind_some, lz295 h1 htt, Option.bind_some, h2 295 _ (by decide), h2 294 _ (by decide), (ht t htt).2, (ht t htt).1, k_bit, nI_bit (by omega), nI_xor]
      by_cases kk : K.testBit t = true
      · rw [if_pos kk, if_neg xc_1_0]
        by_cases q : keyedN (T / 16 ^ t % 16 ^^^ 2 ^ b)
        · rw [keyed_yes (w_lt _ w16 _ hb) q, Option.bind_some, if_neg xc_1_0, e71, if_neg (fun w => w.2 q)]
        · rw [keyed_no (w_lt _ w16 _ hb) q, Option.bind_some, if_pos xc_0_0, bind_eta, if_pos ⟨kk, q⟩]
      · rw [if_neg kk, if_pos xc_0_0, e71, if_neg (fun w => kk w.1)]
    have brk : (¬ T.testBit (4 * t + b) = true ∧ K.testBit t = true ∧ (T / 16 ^ t % 16).testBit (b ^^^ 1) = true) ↔ K.testBit t = true ∧ ¬ keyedN (T / 16 ^ t % 16 ^^^ 2 ^ b) := by
      rw [← tb16 T t b hb]
      constructor
      · rintro ⟨q1, q2, q3⟩
        exact ⟨q2, fun w => (keyed_add w16 hb (keyOK_iff.mp hB.2.2.2.2.2.2 t htt q2) q1).mp w q3⟩
      · rintro ⟨q2, q3⟩
        have ky := keyOK_iff.mp hB.2.2.2.2.2.2 t htt q2
        have q1 : ¬ (T / 16 ^ t % 16).testBit b = true := fun w => q3 (keyed_sub w16 hb ky w)
        refine ⟨q1, q2, ?_⟩
        by_cases q4 : (T / 16 ^ t % 16).testBit (b ^^^ 1) = true
        · exact q4
        · exact absurd ((keyed_add w16 hb ky q1).mpr q4) q3
    by_cases q : K.testBit t = true ∧ ¬ keyedN (T / 16 ^ t % 16 ^^^ 2 ^ b)
    · have q' := brk.mpr q
      refine sim_refuse 3 hS (by decide) (by decide) ?_ (fun μ1 h1 h2 => by
        rw [mw μ1 h1 h2, if_pos q]
        rfl)
      unfold fX_undo fX_undo_0
      simp only [gd2 hh, g2_5 hh, Option.bind_some, lat, n4, if_true, g2_0 hh, hasRow_ok hh hs.1 hT3 (show 4 * t + b < 32 by omega), q'.1, if_false, Bool.false_eq_true, xc0T, breaks_ok hh hs.1 hs.2.1 hT3 hK3 htt hb, q'.2, and_self, xc1F, bind_eta]
      rfl
    · have q' : ¬ (¬ T.testBit (4 * t + b) = true ∧ K.testBit t = true ∧ (T / 16 ^ t % 16).testBit (b ^^^ 1) = true) := fun w => q (brk.mp w)
      have h1 : Sh (xsI (xsI μ 3 0 (nI (T ^^^ 2 ^ (4 * t + b)))) 185 1 (nI c)) := hh
      have e48 : fX_undo_48 2 (nI (4 * t + b)) μ = some (xc 1, xsI (xsI μ 3 0 (nI (T ^^^ 2 ^ (4 * t + b)))) 185 1 (nI c)) := by
        have h0 : Sh (xsI μ 3 0 (nI (T ^^^ 2 ^ (4 * t + b)))) := hh
        unfold fX_undo_48 fC_dropLatest fC_dropLatest_0
        simp (disch := omega) only [g2_0 hh, Option.bind_some, turnRow_ok hh hs.1 (show 4 * t + b < 32 by omega), g2_5 h0, gd185 h0, f185 h0, xI_ne, c2, n1, if_false, n2, fs185 h0]
      refine ⟨xc 1, xsI (xsI μ 3 0 (nI (T ^^^ 2 ^ (4 * t + b)))) 185 1 (nI c), xsI (xsI (xsI (xsI μ 3 0 (nI (T ^^^ 2 ^ (4 * t + b)))) 185 1 (nI c)) 294 t (nI (T / 16 ^ t % 16 ^^^ 2 ^ b))) 293 3 (nI c), ?_, o'.2.1, by
        dsimp only
        rw [mw _ h1 (fun a j q => by rw [xI_ne (by omega), xI_ne (by omega)]), if_neg q], ?_⟩
      · unfold fX_undo fX_undo_0
        by_cases q0 : T.testBit (4 * t + b) = true
        · simp only [gd2 hh, g2_5 hh, Option.bind_some, lat, n4, if_true, g2_0 hh, hasRow_ok hh hs.1 hT3 (show 4 * t + b < 32 by omega), q0, xc1F, if_false]
          exact e48
        · have q1 : ¬ (K.testBit t = true ∧ (T / 16 ^ t % 16).testBit (b ^^^ 1) = true) := fun w => q' ⟨q0, w⟩
          simp only [gd2 hh, g2_5 hh, Option.bind_some, lat, n4, if_true, g2_0 hh, hasRow_ok hh hs.1 hT3 (show 4 * t + b < 32 by omega), q0, if_false, Bool.false_eq_true, xc0T, breaks_ok hh hs.1 hs.2.1 hT3 hK3 htt hb, q1]
          exact e48
      · have fr : Fr (fun a k => WC a k ∨ WM a k) μ (xsI (xsI (xsI (xsI μ 3 0 (nI (T ^^^ 2 ^ (4 * t + b)))) 185 1 (nI c)) 294 t (nI (T / 16 ^ t % 16 ^^^ 2 ^ b))) 293 3 (nI c)) := ((((Fr.refl μ).s _ (by unfold WC; omega)).s _ (by unfold WC; omega)).s _ (by unfold WM; omega)).s _ (by unfold WM; omega)
        refine turned_sim (c := c) o' hB hs hm ht hk hz hg hzz hw hp hP hBk hT hF hI hSS fr (fun _ _ q => q) htt hb (fun kk => ?_) ?_ (fun i => ?_) (hc.drop ?_ ?_ (fun k => ?_) (fun k => ?_))
        · by_cases w : keyedN (T / 16 ^ t % 16 ^^^ 2 ^ b)
          · exact w
          · exact absurd ⟨kk, w⟩ q
        · simp (disch := omega) only [xI_ne, xI_eq]
        · by_cases e : i = t
          · rw [if_pos e, e, xI_ne (by omega), xI_eq]
          · rw [if_neg e]
            simp (disch := omega) only [xI_ne]
        · simp (disch := omega) only [xI_ne, xI_eq]
        · rw [xI_eq]
        · simp (disch := omega) only [xI_ne]
        · simp (disch := omega) only [xI_ne]
