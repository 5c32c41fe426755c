/-! keys; sights forgotten -/
theorem forget_ok {μ : xM} {s : Nat} (h : IsSight μ s) : fS_forget s μ = some (xsI (xsI μ s 8 0) s 9 0) := by
  obtain ⟨h1, h2, h3⟩ := h
  unfold fS_forget fS_forget_0
  rw [gd_k h2, stFZ_k (ci := 6) (v := xc 0) 8 h2 h1 (Or.inl rfl), Option.bind_some, stFZ_k (ci := 6) (v := xc 0) (μ := xsI μ s 8 (xc 0)) 9 h2 h1 (Or.inl rfl), Option.bind_some]
  rfl
theorem forgets_ok {μ : xM} (h : Sh μ) : ∃ μ1, fX_forgetSights 2 μ = some μ1 ∧ Fr (fun a _ => 213 ≤ a ∧ a < 293) μ μ1 ∧ ∀ i, i < 10 → xI μ1 (213 + 8 * i) 8 = 0 ∧ xI μ1 (213 + 8 * i) 9 = 0 := by
  unfold fX_forgetSights fX_forgetSights_0
  rw [gd2 h]
  refine xwh_inv (fun i s => s.1 = nI i ∧ Fr (fun a _ => 213 ≤ a ∧ a < 293) μ s.2 ∧ ∀ j, j < i → xI s.2 (213 + 8 * j) 8 = 0 ∧ xI s.2 (213 + 8 * j) 9 = 0) _ 10 ?_ ?_ 10 0 _ (by omega) ⟨rfl, Fr.refl μ, fun _ q => absurd q (by omega)⟩
  · rintro i ⟨x, μ'⟩ hi ⟨rfl, f, e1⟩
    left
    have h1 := f.sh h
    have c1 : ¬ xc 10 ≤ nI i := show ¬ nI 10 ≤ nI i from nI_ge hi (by decide)
    refine ⟨(nI (i + 1), xsI (xsI μ' (213 + 8 * i) 8 0) (213 + 8 * i) 9 0), ?_, rfl, (f.s _ (by omega)).s _ (by omega), fun j hj => ?_⟩
    · unfold fX_forgetSights_L2
      dsimp only
      rw [if_neg c1, g2_6 h1, Option.bind_some, ar_sight h1 hi, Option.bind_some, forget_ok (sight_at h1 i hi), Option.bind_some]
      rw [show nI i + xc 1 = nI (i + 1) from nI_add i 1]
    · by_cases q : j = i
      · subst q
        rw [xI_ne (by omega), xI_eq, xI_eq]
        exact ⟨rfl, rfl⟩
      · rw [xI_ne (by omega), xI_ne (by omega), xI_ne (by omega), xI_ne (by omega)]
        exact e1 j (by omega)
  · rintro ⟨x, μ'⟩ ⟨rfl, f, e1⟩
    refine ⟨μ', ?_, f, e1⟩
    unfold fX_forgetSights_L2
    dsimp only
    rw [if_pos (show xc 10 ≤ nI 10 from Int32.le_refl _)]
theorem double_x : ∀ w, w < 16 → (((nI w &&& (nI w >>> ((xc 1) &&& 31))) &&& xc 5 = 0) ↔ keyedN w) := by unfold keyedN; decide +kernel
theorem rowsOf_ok {μ : xM} {T t : Nat} (h : Sh μ) (e : xI μ 3 0 = nI T) (hT : T < 4096) (ht : t < 3) : fH_rowsOf 3 (nI t) μ = some (nI (T / 16 ^ t % 16)) := by
  have e2 : (nI T >>> (((xc 4) * nI t) &&& 31)) &&& xc 15 = nI (T / 16 ^ t % 16) := by
    rw [show xc 4 = nI 4 from rfl, pk_mul, nI_shr (by omega) (by omega), pk_andN (Nat.lt_of_le_of_lt (Nat.div_le_self _ _) (by omega)) 4 (by decide), show (16 : Nat) ^ t = 2 ^ (4 * t) from by rw [Nat.pow_mul]]
  unfold fH_rowsOf fH_rowsOf_0
  simp only [gd3 h, f3 h, Option.bind_some, e, e2]
theorem double_ok {μ : xM} {T t : Nat} (h : Sh μ) (e : xI μ 3 0 = nI T) (hT : T < 4096) (ht : t < 3) : fH_hasDoubleX 3 (nI t) μ = some (if keyedN (T / 16 ^ t % 16) then xc 0 else xc 1) := by
  unfold fH_hasDoubleX fH_hasDoubleX_0
  rw [gd3 h, rowsOf_ok h e hT ht, Option.bind_some]
  by_cases q : keyedN (T / 16 ^ t % 16)
  · rw [if_pos ((double_x _ (t16_lt T t)).mpr q), if_pos q]
  · rw [if_neg (fun w => q ((double_x _ (t16_lt T t)).mp w)), if_neg q]
theorem kx : ∀ K, K < 8 → ∀ t, t < 3 → ∀ i, i < 3 → K ^^^ 2 ^ t < 8 ∧ (K ^^^ 2 ^ t) / 2 ^ i % 2 = (if i = t then 1 - K / 2 ^ t % 2 else K / 2 ^ i % 2) ∧ (K ^^^ 2 ^ t).testBit i = (if i = t then !K.testBit t else K.testBit i) := by decide +kernel
theorem isTable_ok (t : Nat) (ht : t < 3) (μ : xM) : fX_isTable (nI t) μ = some (xc 1) := by
  unfold fX_isTable fX_isTable_0
  rw [if_neg (nI_pos (by omega)), if_neg (show ¬ xc 3 ≤ nI t from nI_ge (b := 3) ht (by decide))]
theorem isTable_no (a : Int32) (h : Off 3 a) (μ : xM) : fX_isTable a μ = some (xc 0) := by
  unfold fX_isTable fX_isTable_0 fX_isTable_13
  by_cases q : a < 0
  · rw [if_pos q]
  · rw [if_neg q, if_pos (show xc 3 ≤ a from h.resolve_left q)]
theorem in02 (a : Int32) (μ : xM) : (Off 3 a → fM_isIn (Int32.toInt64 a) (Int64.ofNat 0) (Int64.ofNat 2) μ = some (xc 0)) ∧ (¬ Off 3 a → fM_isIn (Int32.toInt64 a) (Int64.ofNat 0) (Int64.ofNat 2) μ = some (xc 1)) := by
  have ii := isIn_n a 0 2 (by decide) (by decide) μ
  have e2 : nI 2 < a ↔ nI 3 ≤ a := by rw [lt_toInt, le_toInt, nI_toInt (by decide), nI_toInt (by decide)]; omega
  rw [ii]
  exact ⟨fun h => congrArg some (if_pos (h.imp id e2.mpr)), fun h => congrArg some (if_neg (fun q => h (q.imp id e2.mp)))⟩
theorem sim_key {L : Nat} {xs : Nat → Int32} {μ : xM} (a1 : Int32) (a2 : Int32) (hb2 : a2 = xc 0 ∨ a2 = xc 1) (hS : Sim L xs μ) : SimR L xs (fX_key 2 a1 a2 μ) (fun μ => fM_key 293 a1 a2 μ) := by
  have hh := hS.sh
  obtain ⟨o', A, V, na, nv, T, K, kb, gb, ⟨hB, hs, hm, ht, hk, hz, hg, hzz, hw, hp⟩, hP, hC, hBk, hT, hF, hI, hSS⟩ := sim_all.mp hS
  have hT3 := hB.2.2.1
  have hK3 := hB.2.2.2.1
  have hn := hB.1
  have hv := hB.2.1
  rcases off_or 3 (by decide) a1 with q | ⟨t, htt, rfl⟩
  · refine sim_refuse 1 hS (by decide) (by decide) ?_ (fun μ1 h1 h2 => ?_)
    · unfold fX_key fX_key_0
      rw [gd2 hh, isTable_no a1 q, Option.bind_some, if_pos xc_0_0, bind_eta]
      rfl
    · unfold fM_key fM_key_0
      rw [gd293 h1, (in02 a1 μ1).1 q, Option.bind_some, if_pos xc_0_0, bind_eta]
      rfl
  · have nq : ¬ Off 3 (nI t) := off_not (by decide) htt
    have w16 := t16_lt T t
    have hk1 := hasKey_ok hh hs.2.1 hK3 (show t < 32 by omega)
    -- what the reference sets
    have m41 : ∀ μ1, Sh μ1 → (∀ a j, 293 ≤ a → xI μ1 a j = xI μ a j) → fM_key_41 293 (nI t) a2 μ1 = some (if (if K.testBit t = true then xc 1 else xc 0) = a2 then xc 0 else xc 1, xsI μ1 295 t a2) := fun μ1 h1 h2 => by
      unfold fM_key_41
      rw [g293_1 h1, Option.bind_some, lz295 h1 htt, Option.bind_some, Option.bind_some, sz295 h1 htt hb2, Option.bind_some, h2 295 t (by decide), (ht t htt).2, k_bit]
      by_cases q : (if K.testBit t = true then xc 1 else xc 0) = a2
      · rw [if_pos q, if_pos q]
      · rw [if_neg q, if_neg q]
    have mk : ∀ μ1, Sh μ1 → (∀ a j, 293 ≤ a → xI μ1 a j = xI μ a j) → (a2 = xc 0 ∨ keyedN (T / 16 ^ t % 16)) → fM_key 293 (nI t) a2 μ1 = fM_key_41 293 (nI t) a2 μ1 := fun μ1 h1 h2 h3 => by
      unfold fM_key fM_key_0
      rw [gd293 h1, (in02 _ μ1).2 nq, Option.bind_some, if_neg xc_1_0]
      by_cases z : a2 = 0
      · rw [if_pos z]
      · rw [if_neg z, g293_0 h1, Option.bind_some, la294 h1 htt, Option.bind_some, h2 294 t (by decide), (ht t htt).1, keyed_yes w16 (h3.resolve_left z), Option.bind_some, if_neg xc_1_0]
    by_cases same : (if K.testBit t = true then xc 1 else xc 0) = a2
    · have h3 : a2 = xc 0 ∨ keyedN (T / 16 ^ t % 16) := by
        by_cases kk : K.testBit t = true
        · exact Or.inr (keyOK_iff.mp hB.2.2.2.2.2.2 t htt kk)
        · rw [if_neg kk] at same
          exact Or.inl same.symm
      refine ⟨xc 0, μ, xsI μ 295 t a2, ?_, o'.2.1, ?_, ?_⟩
      · unfold fX_key fX_key_0
        rw [gd2 hh, isTable_ok t htt, Option.bind_some, if_neg xc_1_0, g2_0 hh, Option.bind_some, hk1, Option.bind_some, if_pos same]
      · dsimp only
        rw [mk μ hh (fun _ _ _ => rfl) h3, m41 μ hh (fun _ _ _ => rfl), if_pos same]
      · have f : Fr (fun a _ => a = 295) μ (xsI μ 295 t a2) := (Fr.refl μ).s _ rfl
        refine sim_re (f.mono (fun a k q => by unfold WH FMo; omega)) o' hP hC hBk hT hF hI hSS hp hB (hs.fr f (fun k _ => by omega)) (hm.fr f (fun a k _ => by omega)) (fun i hi => ?_) (hk.fr f (fun k _ => by omega)) (hz.fr f (fun a k _ _ => by omega)) (hg.fr f (fun k _ => by omega)) (hzz.fr f (fun a k _ _ _ _ => by omega)) (hw.fr f (fun k _ => by omega) hn)
        rw [xI_ne (by omega)]
        refine ⟨(ht i hi).1, ?_⟩
        by_cases e : i = t
        · subst e
          rw [xI_eq, k_bit, same]
        · rw [xI_ne (by omega)]
          exact (ht i hi).2
    · by_cases h3 : a2 = xc 0 ∨ keyedN (T / 16 ^ t % 16)
      · have h0 : Sh (xsI μ 3 1 (nI (K ^^^ 2 ^ t))) := hh
        obtain ⟨μ1, r1, f1, r2⟩ := forgets_ok h0
        have h1 := f1.sh h0
        have f1' : Fr (fun a k => a = 3 ∧ k = 1 ∨ 213 ≤ a ∧ a < 293) μ μ1 := ((Fr.refl μ).s _ (Or.inl ⟨rfl, rfl⟩)).trans (f1.mono (fun a k q => Or.inr q))
        have e49 : fX_key_49 2 (nI t) μ = some (xc 1, μ1) := by
          unfold fX_key_49
          rw [g2_0 hh, Option.bind_some, f3 hh, Option.bind_some, hs.2.1, nI_bit (by omega), nI_xor, fs3 hh, Option.bind_some, r1, Option.bind_some]
        refine ⟨xc 1, μ1, xsI μ1 295 t a2, ?_, f1'.scr o'.2.1 (fun k => by omega), ?_, ?_⟩
        · unfold fX_key fX_key_0
          rw [gd2 hh, isTable_ok t htt, Option.bind_some, if_neg xc_1_0, g2_0 hh, Option.bind_some, hk1, Option.bind_some, if_neg same]
          by_cases z : a2 = 0
          · rw [if_pos z, e49]
          · rw [if_neg z, Option.bind_some, double_ok hh hs.1 hT3 htt, Option.bind_some, if_pos (h3.resolve_left z), if_pos xc_0_0, e49]
        · dsimp only
          rw [mk μ1 h1 (fun a j q => f1'.I (by omega)) h3, m41 μ1 h1 (fun a j q => f1'.I (by omega)), if_neg same]
        · have f : Fr (fun a k => a = 3 ∧ k = 1 ∨ 213 ≤ a ∧ a < 293 ∨ a = 295) μ (xsI μ1 295 t a2) := (f1'.mono (fun a k q => by omega)).s _ (by omega)
          obtain ⟨b1, b2, b3, b4, b5, b6, b7⟩ := hB
          have kx' := kx K hK3 t htt
          have e2 : xI μ1 3 1 = nI (K ^^^ 2 ^ t) := by rw [f1.I (by omega), xI_eq]
          refine sim_all.mpr ⟨o'.fr f (fun a k q => by omega), A, V, na, nv, T, K ^^^ 2 ^ t, kb, gb, ⟨⟨b1, b2, b3, (kx' t htt).1, b5, b6, ?_⟩, ⟨?_, ?_, ?_, ?_, ?_, ?_⟩, hm.fr f (fun a k _ => by omega), fun i hi => ?_, hk.fr f (fun k _ => by omega), hz.fr f (fun a k _ _ => by omega), hg.fr f (fun k _ => by omega), hzz.fr f (fun a k _ _ _ _ => by omega), hw.fr f (fun k _ => by omega) hn, hp.fr f hn hv (fun a k q r => by omega)⟩, hP.fr f (fun a k q => by unfold FP at q; omega), hC.fr f (fun a k q => by unfold FC at q; omega), hBk.fr f (fun a k q => by unfold FB at q; omega), hT.fr f (fun a k q => by unfold FT at q; omega), hF.fr f (fun a k q => by unfold FF at q; omega), hI.fr f (fun a k q => by unfold FI at q; omega), fun i hi => Or.inl ?_⟩
          · rw [keyOK_iff]
            intro i hi hki
            by_cases e : i = t
            · subst e
              rw [(kx' i hi).2.2, if_pos rfl] at hki
              rcases h3 with h3 | h3
              · exfalso
                refine same ?_
                rw [if_neg (fun w => by rw [w] at hki; exact absurd hki (by decide)), h3]
              · exact h3
            · rw [(kx' i hi).2.2, if_neg e] at hki
              exact keyOK_iff.mp b7 i hi hki
          · rw [f.I (by omega)]; exact hs.1
          · rw [xI_ne (by omega)]; exact e2
          · rw [f.I (by omega)]; exact hs.2.2.1
          · rw [f.I (by omega)]; exact hs.2.2.2.1
          · rw [f.I (by omega)]; exact hs.2.2.2.2.1
          · rw [f.I (by omega)]; exact hs.2.2.2.2.2
          · refine ⟨(f.I (by omega)).trans (ht i hi).1, ?_⟩
            rw [(kx' i hi).2.1]
            by_cases e : i = t
            · subst e
              rw [xI_eq, if_pos rfl, div_mod2]
              by_cases kk : K.testBit i = true
              · rw [if_pos kk] at same ⊢
                exact hb2.resolve_right (fun w => same w.symm)
              · rw [if_neg kk] at same ⊢
                exact hb2.resolve_left (fun w => same w.symm)
            · rw [xI_ne (by omega), if_neg e, f1'.I (by omega)]
              exact (ht i hi).2
          · rw [xI_ne (by omega), xI_ne (by omega)]
            exact r2 i (by omega)
      · have z : ¬ a2 = 0 := fun w => h3 (Or.inl w)
        have nk : ¬ keyedN (T / 16 ^ t % 16) := fun w => h3 (Or.inr w)
        refine sim_refuse 3 hS (by decide) (by decide) ?_ (fun μ1 h1 h2 => ?_)
        · unfold fX_key fX_key_0
          rw [gd2 hh, isTable_ok t htt, Option.bind_some, if_neg xc_1_0, g2_0 hh, Option.bind_some, hk1, Option.bind_some, if_neg same, if_neg z, Option.bind_some, double_ok hh hs.1 hT3 htt, Option.bind_some, if_neg nk, if_neg xc_1_0, bind_eta]
          rfl
        · unfold fM_key fM_key_0
          rw [gd293 h1, (in02 _ μ1).2 nq, Option.bind_some, if_neg xc_1_0, if_neg z, g293_0 h1, Option.bind_some, la294 h1 htt, Option.bind_some, h2 294 t (by decide), (ht t htt).1, keyed_no w16 nk, Option.bind_some, if_pos xc_0_0, bind_eta]
          rfl
