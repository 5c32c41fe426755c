/-! count -/
theorem t_ones0 : ∀ a, a < 64 → ∀ b, b < 64 → onesN 12 (64 * a + b) = onesN 4 ((64 * a + b) / 16 ^ 0 % 16) + onesN 4 ((64 * a + b) / 16 ^ 1 % 16) + onesN 4 ((64 * a + b) / 16 ^ 2 % 16) := by decide +kernel
theorem t_ones {T : Nat} (h : T < 4096) : onesN 12 T = onesN 4 (T / 16 ^ 0 % 16) + onesN 4 (T / 16 ^ 1 % 16) + onesN 4 (T / 16 ^ 2 % 16) := by
  have := t_ones0 (T / 64) (by omega) (T % 64) (by omega)
  rw [show 64 * (T / 64) + T % 64 = T by omega] at this
  exact this
theorem k_ones : ∀ K, K < 8 → onesN 12 K = K / 2 ^ 0 % 2 + K / 2 ^ 1 % 2 + K / 2 ^ 2 % 2 := by decide +kernel
theorem v_ones : ∀ n, n < 64 → ∀ v, v < 6 → onesN 12 (n % 2 ^ (v + 1)) = onesN 12 (n % 2 ^ v) + (if n.testBit v = true then 1 else 0) := by decide +kernel
section COUNT
variable {L : Nat} {xs : Nat → Int32} {μ : xM} {T K kb nv : Nat}
theorem count_t (h : Sh μ) (ht : HT μ T K) (hT : T < 4096) : xwh (fun s : Int32 × Int32 => fM_count_L60 293 s.1 s.2 μ) (xc 0, xc 0) = some (nI (onesN 12 T)) := by
  have st : ∀ t s, t < 3 → fM_count_L60 293 (nI s) (nI t) μ = some (.inl (nI (s + onesN 4 (T / 16 ^ t % 16)), nI (t + 1))) := fun t s q => by
    unfold fM_count_L60
    rw [if_neg (show ¬ xc 3 ≤ nI t from nI_ge (b := 3) q (by decide)), g293_0 h, Option.bind_some, la294 h q, Option.bind_some, (ht t q).1, ones_ok (f := 4) (t16_lt T t) (by decide), Option.bind_some, nI_add, show nI t + xc 1 = nI (t + 1) from nI_add t 1]
  refine xwh_go (st 0 0 (by decide)) (xwh_go (st 1 _ (by decide)) (xwh_go (st 2 _ (by decide)) (xwh_stop ?_)))
  unfold fM_count_L60 fM_count_83
  dsimp only
  rw [if_pos (show xc 3 ≤ nI (2 + 1) by decide), t_ones hT, Nat.zero_add]
  rfl
theorem count_k (h : Sh μ) (ht : HT μ T K) (hK : K < 8) : xwh (fun s : Int32 × Int32 => fM_count_L87 293 s.1 s.2 μ) (xc 0, xc 0) = some (nI (onesN 12 K)) := by
  have st : ∀ t s, t < 3 → fM_count_L87 293 (nI s) (nI t) μ = some (.inl (nI (s + K / 2 ^ t % 2), nI (t + 1))) := fun t s q => by
    unfold fM_count_L87 fM_count_107
    rw [if_neg (show ¬ xc 3 ≤ nI t from nI_ge (b := 3) q (by decide)), g293_1 h, Option.bind_some, lz295 h q, Option.bind_some, (ht t q).2, show nI t + xc 1 = nI (t + 1) from nI_add t 1]
    rcases Nat.mod_two_eq_zero_or_one (K / 2 ^ t) with w | w
    · rw [w, if_pos nI_0]
      exact congrArg (fun z => some (Sum.inl (z, nI (t + 1)))) (nI_add s 0)
    · rw [w, if_neg (by decide)]
      exact congrArg (fun z => some (Sum.inl (z, nI (t + 1)))) (nI_add s 1)
  refine xwh_go (st 0 0 (by decide)) (xwh_go (st 1 _ (by decide)) (xwh_go (st 2 _ (by decide)) (xwh_stop ?_)))
  unfold fM_count_L87 fM_count_115
  dsimp only
  rw [if_pos (show xc 3 ≤ nI (2 + 1) by decide), k_ones K hK, Nat.zero_add]
  rfl
theorem count_v (h : Sh μ) (hk : HKp μ nv kb) (e : xI μ 293 9 = nI nv) (hv : nv ≤ 6) (hkb : kb < 2 ^ nv) : xwh (fun s : Int32 × Int32 => fM_count_L119 293 s.1 s.2 μ) (xc 0, xc 0) = some (nI (onesN 12 kb)) := by
  have hkb64 : kb < 64 := Nat.lt_of_lt_of_le hkb (Nat.pow_le_pow_right (n := 2) (by decide) hv : 2 ^ nv ≤ 2 ^ 6)
  have z0 : onesN 12 (kb % 2 ^ 0) = 0 := by rw [Nat.pow_zero, Nat.mod_one]; rfl
  have := xwh_for (body := fun s : Int32 × Int32 => fM_count_L119 293 s.1 s.2 μ) (fun v => (nI (onesN 12 (kb % 2 ^ v)), nI v)) nv (nI (onesN 12 kb)) (fun v q => ?_) ?_ nv 0 (by omega)
  · rw [z0] at this
    exact this
  · unfold fM_count_L119 fM_count_142
    dsimp only
    rw [f293 h, Option.bind_some, e, if_neg (nI_ge q (by omega)), g293_16 h, Option.bind_some, la305 h (show v < 6 by omega), Option.bind_some, v_ones kb hkb64 v (by omega), show nI v + xc 1 = nI (v + 1) from nI_add v 1]
    by_cases w : kb.testBit v = true
    · obtain ⟨a, ha, -, e2⟩ := (hk v q).1 w
      rw [e2, if_neg (nI_pos (by omega)), if_pos w]
      exact congrArg (fun z => some (Sum.inl (z, nI (v + 1)))) (nI_add _ 1)
    · rw [(hk v q).2 (by simpa using w), if_pos (by decide), if_neg w]
      exact congrArg (fun z => some (Sum.inl (z, nI (v + 1)))) (nI_add _ 0)
  · unfold fM_count_L119 fM_count_150
    dsimp only
    rw [f293 h, Option.bind_some, e, if_pos (Int32.le_refl _), Nat.mod_eq_of_lt hkb]
    rfl
end COUNT
theorem sim_count {L : Nat} {xs : Nat → Int32} {μ : xM} (a1 : Int32) (hS : Sim L xs μ) : ∃ r : Int32, fX_count 2 a1 μ = some r ∧ fM_count 293 a1 μ = some r := by
  have hh := hS.sh
  obtain ⟨o', A, V, na, nv, T, K, kb, gb, ⟨hB, hs, hm, ht, hk, hz, hg, hzz, hw, hp⟩, hP, ⟨c, -, c2, c3, -⟩, ⟨n, -, n2, n3, -⟩, ⟨m, -, m2, m3, -⟩, hF, hI, hSS⟩ := sim_all.mp hS
  obtain ⟨b1, b2, b3, b4, b5, b6, b7⟩ := hB
  have hkb : kb < 4096 := Nat.lt_of_lt_of_le b5 (Nat.le_trans (Nat.pow_le_pow_right (n := 2) (by decide) b2) (by decide))
  by_cases q : a1.toInt < 0 ∨ 7 < a1.toInt
  · have ii : ∀ μ1, fM_isIn (Int32.toInt64 a1) (Int64.ofNat 11) (Int64.ofNat 16) μ1 = some (if a1 < nI 11 ∨ nI 16 < a1 then xc 0 else xc 1) := fun μ1 => isIn_n a1 11 16 (by decide) (by decide) μ1
    by_cases q2 : a1 < nI 11 ∨ nI 16 < a1
    · refine ⟨xc (-9), ?_, ?_⟩
      · have e22 : fX_count_22 2 a1 μ = some (xc (-9)) := by
          unfold fX_count_22
          rw [if_pos q]
        unfold fX_count fX_count_0
        rw [gd2 hh]
        by_cases q3 : a1 ≤ xc 10
        · rw [if_pos q3, e22]
        · rw [if_neg q3, if_pos (show xc 16 < a1 from q2.resolve_left (fun w => q3 (by rw [lt_toInt, nI_toInt (by decide)] at w; rw [le_toInt, show (xc 10).toInt = 10 from rfl]; omega))), e22]
      · unfold fM_count fM_count_0
        rw [gd293 hh, if_pos q, ii, if_pos q2, Option.bind_some, if_pos xc_0_0]
    · have w : 11 ≤ a1.toInt ∧ a1.toInt ≤ 16 := by
        rw [lt_toInt, lt_toInt, nI_toInt (by decide), nI_toInt (by decide)] at q2
        omega
      obtain ⟨k, hk1, rfl⟩ : ∃ k : Nat, k ≤ 16 ∧ a1 = nI k := nI_of2 (M := xc 16) (n := 16) rfl (by rw [lt_toInt, show (0 : Int32).toInt = 0 from rfl]; omega) (by rw [le_toInt, show (xc 16).toInt = 16 from rfl]; omega)
      rw [nI_toInt (by omega)] at w
      have e : nI k - xc 10 = nI (k - 10) := by rw [show xc 10 = nI 10 from rfl, pk_sub (by omega)]
      refine ⟨xI μ 212 (k - 10), ?_, ?_⟩
      · unfold fX_count fX_count_0
        rw [gd2 hh, if_neg (show ¬ nI k ≤ xc 10 from nI_ge (a := 10) (by omega) (by omega)), if_neg (show ¬ xc 16 < nI k from nI_nlt (a := 16) (by omega) (by omega)), g2_9 hh, Option.bind_some, e, la212 hh (by omega), Option.bind_some]
      · unfold fM_count fM_count_0
        rw [gd293 hh, if_pos q, ii, if_neg q2, Option.bind_some, if_neg xc_1_0, g293_25 hh, Option.bind_some, e, la312 hh (by omega), Option.bind_some, hF _ (by omega)]
  · obtain ⟨k, hk1, rfl⟩ : ∃ k : Nat, k ≤ 7 ∧ a1 = nI k := nI_of2 (M := xc 7) (n := 7) rfl (by rw [lt_toInt, show (0 : Int32).toInt = 0 from rfl]; omega) (by rw [le_toInt, show (xc 7).toInt = 7 from rfl]; omega)
    have x22 : fX_count 2 (nI k) μ = fX_count_22 2 (nI k) μ := by
      unfold fX_count fX_count_0
      rw [gd2 hh, if_pos (show nI k ≤ xc 10 from nI_le (b := 10) (by omega) (by decide))]
    rw [x22]
    unfold fX_count_22 fM_count fM_count_0
    rw [gd293 hh, if_neg q, if_neg q]
    obtain rfl | rfl | rfl | rfl | rfl | rfl | rfl | rfl : k = 0 ∨ k = 1 ∨ k = 2 ∨ k = 3 ∨ k = 4 ∨ k = 5 ∨ k = 6 ∨ k = 7 := by omega
    · refine ⟨nI na, ?_, ?_⟩
      · rw [if_pos (by decide), g2_0 hh, Option.bind_some, f3 hh, Option.bind_some, hs.2.2.1]
      · rw [if_pos (by decide), f293 hh, Option.bind_some, hm.1]
    · refine ⟨nI nv, ?_, ?_⟩
      · rw [if_neg (by decide), if_pos (by decide), g2_0 hh, Option.bind_some, f3 hh, Option.bind_some, hs.2.2.2.1]
      · rw [if_neg (by decide), if_pos (by decide), f293 hh, Option.bind_some, hm.2.1]
    · refine ⟨nI (onesN 12 T), ?_, ?_⟩
      · rw [if_neg (by decide), if_neg (by decide), if_pos (by decide), g2_0 hh, Option.bind_some, f3 hh, Option.bind_some, hs.1, bitc_ok b3, Option.bind_some]
      · rw [if_neg (by decide), if_neg (by decide), if_pos (by decide), count_t hh ht b3]
    · refine ⟨nI (onesN 12 K), ?_, ?_⟩
      · rw [if_neg (by decide), if_neg (by decide), if_neg (by decide), if_pos (by decide), g2_0 hh, Option.bind_some, f3 hh, Option.bind_some, hs.2.1, bitc_ok (by omega), Option.bind_some]
      · rw [if_neg (by decide), if_neg (by decide), if_neg (by decide), if_pos (by decide), count_k hh ht b4]
    · refine ⟨nI (onesN 12 kb), ?_, ?_⟩
      · rw [if_neg (by decide), if_neg (by decide), if_neg (by decide), if_neg (by decide), if_pos (by decide), g2_0 hh, Option.bind_some, f3 hh, Option.bind_some, hs.2.2.2.2.1, bitc_ok hkb, Option.bind_some]
      · rw [if_neg (by decide), if_neg (by decide), if_neg (by decide), if_neg (by decide), if_pos (by decide), count_v hh hk hm.2.1 b2 b5]
    · refine ⟨nI m, ?_, ?_⟩
      · rw [if_neg (by decide), if_neg (by decide), if_neg (by decide), if_neg (by decide), if_neg (by decide), if_pos (by decide), g2_3 hh, Option.bind_some, f181 hh, Option.bind_some, m2]
      · rw [if_neg (by decide), if_neg (by decide), if_neg (by decide), if_neg (by decide), if_neg (by decide), if_pos (by decide), f293 hh, Option.bind_some, m3]
    · refine ⟨nI n, ?_, ?_⟩
      · rw [if_neg (by decide), if_neg (by decide), if_neg (by decide), if_neg (by decide), if_neg (by decide), if_neg (by decide), if_pos (by decide), g2_4 hh, Option.bind_some, f183 hh, Option.bind_some, n2]
      · rw [if_neg (by decide), if_neg (by decide), if_neg (by decide), if_neg (by decide), if_neg (by decide), if_neg (by decide), if_pos (by decide), f293 hh, Option.bind_some, n3]
    · refine ⟨nI c, ?_, ?_⟩
      · rw [if_neg (by decide), if_neg (by decide), if_neg (by decide), if_neg (by decide), if_neg (by decide), if_neg (by decide), if_neg (by decide), if_pos (by decide), g2_5 hh, Option.bind_some, f185 hh, Option.bind_some, c2]
      · rw [if_neg (by decide), if_neg (by decide), if_neg (by decide), if_neg (by decide), if_neg (by decide), if_neg (by decide), if_neg (by decide), if_pos (by decide), f293 hh, Option.bind_some, c3]
