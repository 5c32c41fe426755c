/-! given; ones of a set -/
theorem gx : ∀ n, n < 64 → ∀ t, t < 6 → ∀ i, i < 6 → (n ^^^ 2 ^ t) / 2 ^ i % 2 = (if i = t then 1 - n / 2 ^ t % 2 else n / 2 ^ i % 2) := by decide +kernel
theorem sim_given {L : Nat} {xs : Nat → Int32} {μ : xM} (a1 : Int32) (a2 : Int32) (hb2 : a2 = xc 0 ∨ a2 = xc 1) (hS : Sim L xs μ) : SimR L xs (fX_given 2 a1 a2 μ) (fun μ => fM_given 293 a1 a2 μ) := by
  have hh := hS.sh
  obtain ⟨o', A, V, na, nv, T, K, kb, gb, ⟨hB, hs, hm, ht, hk, hz, hg, hzz, hw, hp⟩, hP, hC, hBk, hT, hF, hI, hSS⟩ := sim_all.mp hS
  have hn := hB.1
  have hv := hB.2.1
  have hgb := hB.2.2.2.2.2.1
  have hgb64 : gb < 64 := Nat.lt_of_lt_of_le hgb (Nat.pow_le_pow_right (n := 2) (by decide) hv : 2 ^ nv ≤ 2 ^ 6)
  rcases off_or nv (by omega) a1 with q | ⟨j, hj, rfl⟩
  · refine sim_refuse 1 hS (by decide) (by decide) ?_ (fun μ1 h1 h2 => ?_)
    · unfold fX_given fX_given_0
      rw [gd2 hh, xview_no hh hs.2.2.2.1 q, Option.bind_some, if_pos xc_0_0, bind_eta]
      rfl
    · unfold fM_given fM_given_0
      rw [gd293 h1, mview_no h1 ((h2 _ _ (by decide)).trans hm.2.1) (by omega) q, Option.bind_some, if_pos xc_0_0, bind_eta]
      rfl
  · have hj' : j < 6 := by omega
    have e1 := xview_yes hh hs.2.2.2.1 (by omega) hj
    have e2 : ∀ μ1, Sh μ1 → (∀ a j, 293 ≤ a → xI μ1 a j = xI μ a j) → fM_isView 293 (nI j) μ1 = some (xc 1) := fun μ1 h1 h2 => mview_yes h1 ((h2 _ _ (by decide)).trans hm.2.1) (by omega) hj
    have hl : (V j).2.length ≤ 3 := (hP.2 j hj).2.2.2.1
    have p1 : xI μ (62 + 5 * j) 4 = nI (V j).2.length := (hp.2.1 j hj).2.1
    have p2 : xI μ 303 (10 + j) = nI (V j).2.length := (hP.2 j hj).1.2.1
    have pk := (pic_view hh j hj').2.2.1
    have p3 : xc 10 + nI j = nI (10 + j) := nI_add 10 j
    by_cases z : (V j).2.length = 0
    · refine sim_refuse 3 hS (by decide) (by decide) ?_ (fun μ1 h1 h2 => ?_)
      · unfold fX_given fX_given_0
        rw [gd2 hh, e1, Option.bind_some, if_neg xc_1_0, g2_0 hh, Option.bind_some, g3_9 hh, Option.bind_some, ar_view hh hj', Option.bind_some, ldF_k (ci := 5) 4 pk, Option.bind_some, p1, z, if_pos nI_0, bind_eta]
        rfl
      · unfold fM_given fM_given_0
        rw [gd293 h1, e2 _ h1 h2, Option.bind_some, if_neg xc_1_0, g293_14 h1, Option.bind_some, p3, la303 h1 (show 10 + j < 16 by omega), Option.bind_some, h2 303 _ (by decide), p2, z, if_pos nI_0, bind_eta]
        rfl
    · have z' : ¬ nI (V j).2.length = 0 := nI_ne0 (by omega) (by omega)
      have gt : (nI gb >>> (nI j &&& 31)) &&& xc 1 = if gb.testBit j = true then xc 1 else xc 0 := nI_bitAt (by omega) (by omega)
      have gm : xI μ 311 j = if gb.testBit j = true then xc 1 else xc 0 := by rw [hg j hj, k_bit]
      have mr : ∀ μ1, Sh μ1 → (∀ a j, 293 ≤ a → xI μ1 a j = xI μ a j) → fM_given 293 (nI j) a2 μ1 = some (if (if gb.testBit j = true then xc 1 else xc 0) = a2 then xc 0 else xc 1, xsI μ1 311 j a2) := fun μ1 h1 h2 => by
        unfold fM_given fM_given_0
        rw [gd293 h1, e2 _ h1 h2, Option.bind_some, if_neg xc_1_0, g293_14 h1, Option.bind_some, p3, la303 h1 (show 10 + j < 16 by omega), Option.bind_some, h2 303 _ (by decide), p2, if_neg z', g293_22 h1, Option.bind_some, lz311 h1 hj', Option.bind_some, Option.bind_some, sz311 h1 hj' hb2, Option.bind_some, h2 311 _ (by decide), gm]
        by_cases q : (if gb.testBit j = true then xc 1 else xc 0) = a2
        · rw [if_pos q, if_pos q]
        · rw [if_neg q, if_neg q]
      have xr : fX_given 2 (nI j) a2 μ = if (if gb.testBit j = true then xc 1 else xc 0) = a2 then some (xc 0, μ) else some (xc 1, xsI μ 3 5 (nI (gb ^^^ 2 ^ j))) := by
        have e56 : ∀ s0, fX_given_56 2 (nI j) s0 (if gb.testBit j = true then xc 1 else xc 0) μ = if (if gb.testBit j = true then xc 1 else xc 0) = s0 then some (xc 0, μ) else some (xc 1, xsI μ 3 5 (nI (gb ^^^ 2 ^ j))) := fun s0 => by
          unfold fX_given_56
          by_cases q : (if gb.testBit j = true then xc 1 else xc 0) = s0
          · rw [if_pos q, if_pos q]
          · rw [if_neg q, if_neg q, g2_0 hh, Option.bind_some, f3 hh, Option.bind_some, hs.2.2.2.2.2, nI_bit (by omega), nI_xor, fs3 hh, Option.bind_some]
        unfold fX_given fX_given_0
        rw [gd2 hh, e1, Option.bind_some, if_neg xc_1_0, g2_0 hh, Option.bind_some, g3_9 hh, Option.bind_some, ar_view hh hj', Option.bind_some, ldF_k (ci := 5) 4 pk, Option.bind_some, p1, if_neg z', Option.bind_some, f3 hh, Option.bind_some, hs.2.2.2.2.2, gt, e56, e56]
        rcases hb2 with w | w
        · rw [w, if_pos xc_0_0]
        · rw [w, if_neg xc_1_0]
      by_cases same : (if gb.testBit j = true then xc 1 else xc 0) = a2
      · refine ⟨xc 0, μ, xsI μ 311 j a2, by rw [xr, if_pos same], o'.2.1, by
          dsimp only
          rw [mr μ hh (fun _ _ _ => rfl), if_pos same], ?_⟩
        have f : Fr (fun a _ => a = 311) μ (xsI μ 311 j a2) := (Fr.refl μ).s _ rfl
        refine sim_re (f.mono (fun a k q => by unfold WH FMo; omega)) o' hP hC hBk hT hF hI hSS hp hB (hs.fr f (fun k _ => by omega)) (hm.fr f (fun a k _ => by omega)) (ht.fr f (fun k _ => by omega)) (hk.fr f (fun k _ => by omega)) (hz.fr f (fun a k _ _ => by omega)) (fun v hv => ?_) (hzz.fr f (fun a k _ _ _ _ => by omega)) (hw.fr f (fun k _ => by omega) hn)
        by_cases e : v = j
        · subst e
          rw [xI_eq, k_bit, same]
        · rw [xI_ne (by omega)]
          exact hg v hv
      · refine ⟨xc 1, xsI μ 3 5 (nI (gb ^^^ 2 ^ j)), xsI (xsI μ 3 5 (nI (gb ^^^ 2 ^ j))) 311 j a2, by rw [xr, if_neg same], o'.2.1, by
          dsimp only
          rw [mr (xsI μ 3 5 (nI (gb ^^^ 2 ^ j))) hh (fun a j q => xI_ne (by omega)), if_neg same], ?_⟩
        have f : Fr (fun a k => a = 3 ∧ k = 5 ∨ a = 311) μ (xsI (xsI μ 3 5 (nI (gb ^^^ 2 ^ j))) 311 j a2) := ((Fr.refl μ).s _ (by omega)).s _ (by omega)
        obtain ⟨b1, b2, b3, b4, b5, b6, b7⟩ := hB
        refine sim_re (f.mono (fun a k q => by unfold WH FMo; omega)) o' hP hC hBk hT hF hI hSS hp ⟨b1, b2, b3, b4, b5, Nat.xor_lt_two_pow b6 (Nat.pow_lt_pow_right (by decide) hj), b7⟩ ⟨?_, ?_, ?_, ?_, ?_, ?_⟩ (hm.fr f (fun a k _ => by omega)) (ht.fr f (fun k _ => by omega)) (hk.fr f (fun k _ => by omega)) (hz.fr f (fun a k _ _ => by omega)) (fun v hv => ?_) (hzz.fr f (fun a k _ _ _ _ => by omega)) (hw.fr f (fun k _ => by omega) hn)
        · rw [f.I (by omega)]; exact hs.1
        · rw [f.I (by omega)]; exact hs.2.1
        · rw [f.I (by omega)]; exact hs.2.2.1
        · rw [f.I (by omega)]; exact hs.2.2.2.1
        · rw [f.I (by omega)]; exact hs.2.2.2.2.1
        · rw [xI_ne (by omega), xI_eq]
        · rw [gx gb hgb64 j hj' v (by omega)]
          by_cases e : v = j
          · subst e
            rw [xI_eq, if_pos rfl, div_mod2]
            by_cases kk : gb.testBit v = true
            · rw [if_pos kk] at same ⊢
              exact hb2.resolve_right (fun w => same w.symm)
            · rw [if_neg kk] at same ⊢
              exact hb2.resolve_left (fun w => same w.symm)
          · rw [xI_ne (by omega), if_neg e, xI_ne (by omega)]
            exact hg v hv
/-- how many ones a number has -/
def onesN : Nat → Nat → Nat
  | 0, _ => 0
  | f + 1, n => n % 2 + onesN f (n / 2)
theorem onesN_le : ∀ (f n : Nat), onesN f n ≤ f
  | 0, _ => Nat.le_refl _
  | f + 1, n => by
    have := onesN_le f (n / 2)
    unfold onesN
    omega
theorem ones_loop (μ : xM) : ∀ (f n s : Nat), n < 2 ^ f → f ≤ 30 → xwh (fun s : Int32 × Int32 => fM_ones_L4 s.1 s.2 μ) (nI s, nI n) = some (nI (s + onesN f n))
  | 0, n, s, h, _ => by
    have e : n = 0 := by omega
    subst e
    apply xwh_stop
    unfold fM_ones_L4 fM_ones_21
    rw [if_pos (show nI 0 ≤ 0 from Int32.le_refl _)]
    rfl
  | f + 1, n, s, h, hf => by
    have h30 : 2 ^ (f + 1) ≤ 2 ^ 30 := Nat.pow_le_pow_right (by decide) hf
    by_cases e : n = 0
    · subst e
      apply xwh_stop
      have z : ∀ g, onesN g 0 = 0 := fun g => by
        induction g with
        | zero => rfl
        | succ g ih => unfold onesN; rw [show 0 / 2 = 0 from rfl, ih]
      unfold fM_ones_L4 fM_ones_21
      rw [if_pos (show nI 0 ≤ 0 from Int32.le_refl _), z]
      rfl
    · refine xwh_go (s' := (nI (s + n % 2), nI (n / 2))) ?_ ?_
      · unfold fM_ones_L4
        dsimp only
        rw [if_neg (nI_nle (by omega) (by omega)), show xc 2 = nI 2 from rfl, rmI_n (by omega) (by decide) (by decide), Option.bind_some, dvI_n (by omega) (by decide) (by decide), Option.bind_some, nI_add]
      · rw [ones_loop μ f (n / 2) (s + n % 2) (by rw [Nat.pow_succ] at h; omega) (by omega)]
        congr 2
        show s + n % 2 + onesN f (n / 2) = s + (n % 2 + onesN f (n / 2))
        omega
theorem ones_ok {f n : Nat} (h : n < 2 ^ f) (hf : f ≤ 30) (μ : xM) : fM_ones (nI n) μ = some (nI (onesN f n)) := by
  unfold fM_ones fM_ones_0
  rw [show xc 0 = nI 0 from rfl, ones_loop μ f n 0 h hf, Nat.zero_add]
theorem bitc0 : ∀ a, a < 64 → ∀ b, b < 64 → fJI_bitCount_0 (nI (64 * a + b)) ((0, 0), fun _ => (0, 0), fun _ _ => none, fun _ _ => 0, fun _ _ => 0) = some (nI (onesN 12 (64 * a + b))) := by unfold fJI_bitCount_0; decide +kernel
theorem bitc_ok {n : Nat} (h : n < 4096) (μ : xM) : fJI_bitCount (nI n) μ = some (nI (onesN 12 n)) := by
  have := bitc0 (n / 64) (by omega) (n % 64) (by omega)
  rw [show 64 * (n / 64) + n % 64 = n by omega] at this
  exact this
