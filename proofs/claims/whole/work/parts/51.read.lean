/-! read: two loops in step -/
section READ
variable {μ : xM} {n p : Nat}
theorem rowAt_end (h : Sh μ) (e : xI μ 183 1 = nI n) (hn : n ≤ 60) (hp : p ≤ 60) (q : n < p + 3) : fB_rowAt 183 (nI p) μ = some (xc (-1)) := by
  unfold fB_rowAt fB_rowAt_0 fB_rowAt_14
  rw [gd183 h, if_neg (nI_pos (by omega)), f183 h, Option.bind_some, e, show nI p + xc 3 = nI (p + 3) from nI_add p 3, if_neg (nI_ge q (by omega))]
theorem rowAt_in (h : Sh μ) (e : xI μ 183 1 = nI n) (hn : n ≤ 60) (q : p + 3 ≤ n) : fB_rowAt 183 (nI p) μ = (fX_rowRefusal (xI μ 184 p) (xI μ 184 (p + 1)) (xI μ 184 (p + 2)) μ).bind fun r8 => if r8 = 0 then ((fX_rowBit (xI μ 184 p) (xI μ 184 (p + 1)) (xI μ 184 (p + 2)) μ).bind fun r9 => some r9) else (some (xc (-1))) := by
  unfold fB_rowAt fB_rowAt_0
  rw [gd183 h, if_neg (nI_pos (by omega)), f183 h, Option.bind_some, e, show nI p + xc 3 = nI (p + 3) from nI_add p 3, if_pos (nI_le q (by omega)), g183_0 h, Option.bind_some, la184 h (by omega), Option.bind_some, Option.bind_some, show nI p + xc 1 = nI (p + 1) from nI_add p 1, la184 h (by omega), Option.bind_some, Option.bind_some, show nI p + xc 2 = nI (p + 2) from nI_add p 2, la184 h (by omega), Option.bind_some]
end READ
theorem read_two {μ : xM} {n K : Nat} (hn : n ≤ 60) (hK : K < 8) : ∀ (k p s T c : Nat) (μc : xM), n < p + 3 * k → p ≤ n + 3 → p ≤ 60 → Sh μc → (∀ j, xI μc 184 j = xI μ 184 j) → xI μc 183 1 = nI n → xI μc 3 1 = nI K → xI μc 3 0 = nI T → T < 4096 → KeyOK T K → xI μc 185 1 = nI c → c ≤ 40 →
    ∃ (r : Int32) (μc1 : xM) (T1 c1 : Nat), xwh (fun s : Int32 × Int32 × xM => fX_read_L4 2 s.1 s.2.1 s.2.2) (nI s, nI p, μc) = some (r, μc1) ∧ Fr (fun a k => WC a k ∨ a = 183 ∧ k = 1) μc μc1 ∧ xI μc1 183 1 = nI 0 ∧ xI μc1 3 0 = nI T1 ∧ T1 < 4096 ∧ KeyOK T1 K ∧
      ∀ μm, Sh μm → (∀ j, j < n → xI μm 297 j = xI μ 184 j) → HT μm T K → SC2 μc μm c → ∃ μm1, xwh (fun s : Int32 × Int32 × xM => fM_read_L14 293 (nI n) s.1 s.2.1 s.2.2) (nI s, nI p, μm) = some (r, μm1) ∧ Fr WM μm μm1 ∧ HT μm1 T1 K ∧ SC2 μc1 μm1 c1
  | 0, p, s, T, c, μc, hk, hp, h60, h, hb, e1, eK, eT, hT, hKO, ec, hc => by
    have q : n ≤ p := by omega
    refine ⟨nI s, xsI μc 183 1 (nI 0), T, c, xwh_stop ?_, (Fr.refl μc).s _ (Or.inr ⟨rfl, rfl⟩), by rw [xI_eq], by rw [xI_ne (by omega)]; exact eT, hT, hKO, fun μm hm hb2 ht hs => ⟨μm, xwh_stop ?_, Fr.refl μm, ht, hs.fr (fun a k q => xI_ne (by omega)) (fun _ _ _ => rfl)⟩⟩
    · unfold fX_read_L4 fX_read_73
      dsimp only
      rw [g2_4 h, Option.bind_some, f183 h, Option.bind_some, e1, if_pos (nI_le q (by omega)), Option.bind_some, fs183 h, Option.bind_some]
      rfl
    · unfold fM_read_L14 fM_read_100
      dsimp only
      rw [show nI p + xc 2 = nI (p + 2) from nI_add p 2, if_pos (nI_le (by omega) (by omega))]
      rfl
  | k + 1, p, s, T, c, μc, hk, hp, h60, h, hb, e1, eK, eT, hT, hKO, ec, hc => by
    have stopC : xI μc 183 1 = xI μc 183 1 → ((fX_read_L4 2 (nI s) (nI p) μc = some (.inr (nI s, xsI μc 183 1 (nI 0)))) → (∀ μm, Sh μm → (∀ j, j < n → xI μm 297 j = xI μ 184 j) → HT μm T K → fM_read_L14 293 (nI n) (nI s) (nI p) μm = some (.inr (nI s, μm))) → ∃ (r : Int32) (μc1 : xM) (T1 c1 : Nat), xwh (fun s : Int32 × Int32 × xM => fX_read_L4 2 s.1 s.2.1 s.2.2) (nI s, nI p, μc) = some (r, μc1) ∧ Fr (fun a k => WC a k ∨ a = 183 ∧ k = 1) μc μc1 ∧ xI μc1 183 1 = nI 0 ∧ xI μc1 3 0 = nI T1 ∧ T1 < 4096 ∧ KeyOK T1 K ∧
      ∀ μm, Sh μm → (∀ j, j < n → xI μm 297 j = xI μ 184 j) → HT μm T K → SC2 μc μm c → ∃ μm1, xwh (fun s : Int32 × Int32 × xM => fM_read_L14 293 (nI n) s.1 s.2.1 s.2.2) (nI s, nI p, μm) = some (r, μm1) ∧ Fr WM μm μm1 ∧ HT μm1 T1 K ∧ SC2 μc1 μm1 c1) := fun _ x1 x2 =>
      ⟨nI s, xsI μc 183 1 (nI 0), T, c, xwh_stop x1, (Fr.refl μc).s _ (Or.inr ⟨rfl, rfl⟩), by rw [xI_eq], by rw [xI_ne (by omega)]; exact eT, hT, hKO, fun μm hm hb2 ht hs => ⟨μm, xwh_stop (x2 μm hm hb2 ht), Fr.refl μm, ht, hs.fr (fun a k q => xI_ne (by omega)) (fun _ _ _ => rfl)⟩⟩
    have e73 : fX_read_73 2 (nI s) μc = some (nI s, xsI μc 183 1 (nI 0)) := by
      unfold fX_read_73
      rw [g2_4 h, Option.bind_some, fs183 h, Option.bind_some]
      rfl
    by_cases q : p + 3 ≤ n
    rotate_left
    · refine stopC rfl ?_ (fun μm hm hb2 ht => ?_)
      · unfold fX_read_L4 fX_read_28
        rw [g2_4 h, Option.bind_some, f183 h, Option.bind_some, e1, e73]
        by_cases q2 : n ≤ p
        · rw [if_pos (nI_le q2 (by omega))]
          rfl
        · rw [if_neg (nI_ge (by omega) (by omega)), Option.bind_some, rowAt_end h e1 hn h60 (by omega), Option.bind_some, if_neg (by decide)]
          rfl
      · unfold fM_read_L14 fM_read_100
        rw [show nI p + xc 2 = nI (p + 2) from nI_add p 2, if_pos (nI_le (by omega) (by omega))]
        rfl
    · have m0 : ∀ μm, Sh μm → (∀ j, j < n → xI μm 297 j = xI μ 184 j) → fM_read_L14 293 (nI n) (nI s) (nI p) μm = (fM_wrongRow 293 (xI μ 184 p) (xI μ 184 (p + 1)) (xI μ 184 (p + 2)) μm).bind fun r7 => if 0 ≤ r7 then ((fM_bring 293 (xI μ 184 p) (xI μ 184 (p + 1)) (xI μ 184 (p + 2)) μm).bind fun r14 => fM_read_80 293 (nI n) (nI s) (nI p) r14.1 r14.2) else (fM_read_80 293 (nI n) (nI s) (nI p) (xc (-1)) μm) := fun μm hm hb2 => by
        unfold fM_read_L14
        simp only [show nI p + xc 2 = nI (p + 2) from nI_add p 2, show nI p + xc 1 = nI (p + 1) from nI_add p 1, if_neg (nI_ge (show p + 2 < n by omega) (by omega)), g293_4 hm, Option.bind_some, la297 hm (show p < 60 by omega), la297 hm (show p + 1 < 60 by omega), la297 hm (show p + 2 < 60 by omega), hb2 p (by omega), hb2 (p + 1) (by omega), hb2 (p + 2) (by omega)]
      have x0 : fX_read_L4 2 (nI s) (nI p) μc = ((fX_rowRefusal (xI μ 184 p) (xI μ 184 (p + 1)) (xI μ 184 (p + 2)) μc).bind fun r8 => if r8 = 0 then ((fX_rowBit (xI μ 184 p) (xI μ 184 (p + 1)) (xI μ 184 (p + 2)) μc).bind fun r9 => some r9) else (some (xc (-1)))).bind fun r6 => if 0 ≤ r6 then ((fH_hasRow 3 r6 μc).bind fun r8 => if r8 = 0 then ((fH_breaksKey 3 r6 μc).bind fun r10 => if r10 = 0 then ((fX_bringIn 2 r6 μc).bind fun r11 => fX_read_67 2 (nI s + xc 1) (nI p) r11) else ((fX_read_56 2 (nI s) μc).map (fun o => .inr o))) else (fX_read_67 2 (nI s) (nI p) μc)) else ((fX_read_28 2 (nI s) μc).map (fun o => .inr o)) := by
        unfold fX_read_L4
        simp only [g2_4 h, Option.bind_some, f183 h, e1, if_neg (nI_ge (show p < n by omega) (by omega)), rowAt_in h e1 hn q, hb, g2_0 h]
      rcases wrong_or (xI μ 184 p) (xI μ 184 (p + 1)) (xI μ 184 (p + 2)) with ⟨w, k1, k2, w1, w2⟩ | ⟨t, x, y, htt, hx, hy, f1, f2, f3, w1, w2⟩
      · have n0 : ¬ xc (-(w : Int)) = 0 ∧ ¬ 0 ≤ xc (-(w : Int)) := by
          obtain rfl | rfl | rfl | rfl | rfl | rfl : w = 1 ∨ w = 2 ∨ w = 3 ∨ w = 4 ∨ w = 5 ∨ w = 6 := by omega
          all_goals exact ⟨by decide, by decide⟩
        refine stopC rfl ?_ (fun μm hm hb2 ht => ?_)
        · rw [x0, w1, Option.bind_some, if_neg n0.1, Option.bind_some, if_neg (by decide)]
          unfold fX_read_28
          rw [e73]
          rfl
        · rw [m0 μm hm hb2, w2 μm hm, Option.bind_some, if_neg n0.2]
          unfold fM_read_80 fM_read_87
          rw [if_neg (by decide)]
          rfl
      · rw [f1, f2, f3] at w1 w2 x0 m0
        have hb4 : 2 * x + y < 4 := by omega
        have w16 := t16_lt T t
        have p3 : nI p + xc 3 = nI (p + 3) := nI_add p 3
        have x1 : fX_read_L4 2 (nI s) (nI p) μc = ((fH_hasRow 3 (nI (4 * t + (2 * x + y))) μc).bind fun r8 => if r8 = 0 then ((fH_breaksKey 3 (nI (4 * t + (2 * x + y))) μc).bind fun r10 => if r10 = 0 then ((fX_bringIn 2 (nI (4 * t + (2 * x + y))) μc).bind fun r11 => fX_read_67 2 (nI s + xc 1) (nI p) r11) else ((fX_read_56 2 (nI s) μc).map (fun o => .inr o))) else (fX_read_67 2 (nI s) (nI p) μc)) := by
          rw [x0, w1, Option.bind_some, if_pos xc_0_0, rowBit_ok, Option.bind_some, Option.bind_some, if_pos (nI_pos' (by omega))]
        have m1 : ∀ μm, Sh μm → (∀ j, j < n → xI μm 297 j = xI μ 184 j) → fM_read_L14 293 (nI n) (nI s) (nI p) μm = ((fM_bring 293 (nI t) (nI x) (nI y) μm).bind fun r14 => fM_read_80 293 (nI n) (nI s) (nI p) r14.1 r14.2) := fun μm hm hb2 => by
          rw [m0 μm hm hb2, w2 μm hm, Option.bind_some, if_pos (by decide)]
        rw [hasRow_ok h eT hT (by omega), Option.bind_some] at x1
        by_cases q1 : T.testBit (4 * t + (2 * x + y)) = true
        · rw [if_pos q1, if_neg xc_1_0] at x1
          unfold fX_read_67 at x1
          rw [p3] at x1
          obtain ⟨r, μc1, T1, c1, y1, y2, y3, y4, y5, y6, y7⟩ := read_two hn hK k (p + 3) s T c μc (by omega) (by omega) (by omega) h hb e1 eK eT hT hKO ec hc
          refine ⟨r, μc1, T1, c1, xwh_go x1 y1, y2, y3, y4, y5, y6, fun μm hm hb2 ht hs => ?_⟩
          obtain ⟨μm1, z1, z2, z3, z4⟩ := y7 μm hm hb2 ht hs
          refine ⟨μm1, xwh_go (s' := (nI s, nI (p + 3), μm)) ?_ z1, z2, z3, z4⟩
          dsimp only
          rw [m1 μm hm hb2, bring_old hm (ht t htt).1 htt hx hy q1, Option.bind_some]
          unfold fM_read_80
          dsimp only
          rw [if_pos (show (0 : Int32) ≤ xc 0 by decide), p3]
          exact congrArg (fun z => some (Sum.inl (z, nI (p + 3), μm))) (nI_add s 0)
        · rw [if_neg q1, if_pos xc_0_0, breaks_ok h eT eK hT hK htt hb4, Option.bind_some] at x1
          by_cases q2 : K.testBit t = true ∧ (T / 16 ^ t % 16).testBit ((2 * x + y) ^^^ 1) = true
          · rw [if_pos q2, if_neg xc_1_0] at x1
            refine stopC rfl ?_ (fun μm hm hb2 ht => ?_)
            · rw [x1]
              unfold fX_read_56
              rw [e73]
              rfl
            · rw [m1 μm hm hb2, bring_key hm (ht t htt).1 (ht t htt).2 hKO htt hx hy q1 q2.1 q2.2, Option.bind_some]
              unfold fM_read_80 fM_read_87
              dsimp only
              rw [if_neg (show ¬ (0 : Int32) ≤ xc (-3) by decide)]
              rfl
          · rw [if_neg q2, if_pos xc_0_0] at x1
            obtain ⟨μ1, r1, r2, g1, r3, r4⟩ := cl_turn (r := 4 * t + (2 * x + y)) h eT ec hc (by omega)
            have h1 := g1.sh h
            have eb : fX_bringIn 2 (nI (4 * t + (2 * x + y))) μc = some μ1 := by
              unfold fX_bringIn fX_bringIn_0
              rw [gd2 h, g2_0 h, Option.bind_some, r1, Option.bind_some, g2_5 (μ := xsI μc 3 0 (nI (T ^^^ 2 ^ (4 * t + (2 * x + y))))) h, Option.bind_some, r2, Option.bind_some]
            have q1' : ¬ (T / 16 ^ t % 16).testBit (2 * x + y) = true := by rw [tb16 T t _ hb4]; exact q1
            have hKO' : KeyOK (T ^^^ 2 ^ (4 * t + (2 * x + y))) K := keyOK_turn hKO htt hb4 (fun kk => (keyed_add w16 hb4 (keyOK_iff.mp hKO t htt kk) q1').mpr (fun w => q2 ⟨kk, w⟩))
            unfold fX_read_67 at x1
            rw [eb, Option.bind_some, p3, show nI s + xc 1 = nI (s + 1) from nI_add s 1] at x1
            have c40 : (if c = 40 then 40 else c + 1) ≤ 40 := by split <;> omega
            obtain ⟨r, μc1, T1, c1, y1, y2, y3, y4, y5, y6, y7⟩ := read_two hn hK k (p + 3) (s + 1) (T ^^^ 2 ^ (4 * t + (2 * x + y))) _ μ1 (by omega) (by omega) (by omega) h1 (fun j => (g1.I (by unfold WC; omega)).trans (hb j)) ((g1.I (by unfold WC; omega)).trans e1) ((g1.I (by unfold WC; omega)).trans eK) r3 (tx_lt hT (by omega)) hKO' r4.1 c40
            refine ⟨r, μc1, T1, c1, xwh_go x1 y1, (g1.mono (fun _ _ q => Or.inl q)).trans y2, y3, y4, y5, y6, fun μm hm hb2 ht hs => ?_⟩
            obtain ⟨μm1, s1, g2, s2, s3⟩ := bring_new (μ := μm) hm (ht t htt).1 (ht t htt).2 hs.2.2.1 hc hKO htt hx hy q1 q2
            have rp := r_parts t (2 * x + y) hb4
            have hs' := noted_sc2 (f := 1) hs (by omega) (by decide) r4 (by rw [rp.1, rp.2]; exact s3)
            have ht' : HT μm1 (T ^^^ 2 ^ (4 * t + (2 * x + y))) K := fun i hi => ⟨by
              rw [s2 i, tx16 T t _ i hb4]
              by_cases e : i = t
              · rw [if_pos e, if_pos e]
              · rw [if_neg e, if_neg e]
                exact (ht i hi).1, (g2.I (by unfold WM; omega)).trans (ht i hi).2⟩
            obtain ⟨μm2, z1, z2, z3, z4⟩ := y7 μm1 (g2.sh hm) (fun j hj => (g2.I (by unfold WM; omega)).trans (hb2 j hj)) ht' hs'
            refine ⟨μm2, xwh_go (s' := (nI (s + 1), nI (p + 3), μm1)) ?_ z1, g2.trans z2, z3, z4⟩
            dsimp only
            rw [m1 μm hm hb2, s1, Option.bind_some]
            unfold fM_read_80
            dsimp only
            rw [if_pos (show (0 : Int32) ≤ xc 1 by decide), p3]
            exact congrArg (fun z => some (Sum.inl (z, nI (p + 3), μm1))) (nI_add s 1)
theorem sim_read {L : Nat} {xs : Nat → Int32} {μ : xM}  (hS : Sim L xs μ) : SimR L xs (fX_read 2 μ) (fun μ => fM_read 293 μ) := by
  have hh := hS.sh
  obtain ⟨o', A, V, na, nv, T, K, kb, gb, ⟨hB, hs, hm, ht, hk, hz, hg, hzz, hw, hp⟩, hP, hC, ⟨n, n1, n2, n3, n4⟩, hT, hF, hI, hSS⟩ := sim_all.mp hS
  obtain ⟨c, hc⟩ := SC2.of hC
  obtain ⟨b1, b2, b3, b4, b5, b6, b7⟩ := hB
  obtain ⟨r, μ1, T1, c1, y1, y2, y3, y4, y5, y6, y7⟩ := read_two (μ := μ) n1 b4 21 0 0 T c μ (by omega) (by omega) (by omega) hh (fun _ => rfl) n2 hs.2.1 hs.1 b3 b7 hc.2.1 hc.1
  have h1 := y2.sh hh
  have e293 : xI μ1 293 5 = nI n := (y2.I (by unfold WC; omega)).trans n3
  have ht1 : HT (xsI μ1 293 5 (nI 0)) T K := fun i hi => by
    rw [xI_ne (by omega), xI_ne (by omega), y2.I (by unfold WC; omega), y2.I (by unfold WC; omega)]
    exact ht i hi
  obtain ⟨μ2, z1, z2, z3, z4⟩ := y7 (xsI μ1 293 5 (nI 0)) h1 (fun j hj => by rw [xI_ne (by omega), y2.I (by unfold WC; omega), n4 j hj]) ht1 (hc.fr (fun _ _ _ => rfl) (fun a k q => by rw [xI_ne (by omega), y2.I (by unfold WC; omega)]))
  have f : Fr (fun a k => WC a k ∨ WM a k ∨ a = 183 ∧ k = 1 ∨ a = 293 ∧ k = 5) μ μ2 := ((y2.mono (fun a k q => q.elim Or.inl (fun q => Or.inr (Or.inr (Or.inl q))))).s _ (Or.inr (Or.inr (Or.inr ⟨rfl, rfl⟩)))).trans (z2.mono (fun a k q => Or.inr (Or.inl q)))
  refine ⟨r, μ1, μ2, ?_, y2.scr o'.2.1 (fun k => by unfold WC; omega), ?_, ?_⟩
  · unfold fX_read fX_read_0
    rw [gd2 hh]
    exact y1
  · unfold fM_read fM_read_0
    dsimp only
    rw [gd293 h1, f293 h1, Option.bind_some, e293, fs293 h1, Option.bind_some]
    exact z1
  · obtain ⟨d1, d2, d3, d4⟩ := z4
    refine sim_all.mpr ⟨o'.fr f (fun a k q => by unfold WC WM; omega), A, V, na, nv, T1, K, kb, gb, ⟨⟨b1, b2, y5, b4, b5, b6, y6⟩, ⟨?_, ?_, ?_, ?_, ?_, ?_⟩, hm.fr f (fun a k _ => by unfold WC WM; omega), z3, hk.fr f (fun k _ => by unfold WC WM; omega), hz.fr f (fun a k _ _ => by unfold WC WM; omega), hg.fr f (fun k _ => by unfold WC WM; omega), hzz.fr f (fun a k _ _ _ _ => by unfold WC WM; omega), hw.fr f (fun k _ => by unfold WC WM; omega) b1, hp.fr f b1 b2 (fun a k q r => by unfold WC WM; omega)⟩, hP.fr f (fun a k q => by unfold FP at q; unfold WC WM; omega), ⟨c1, d1, ?_, d3, ?_⟩, ⟨0, by omega, ?_, ?_, fun j hj => absurd hj (by omega)⟩, hT.fr f (fun a k q => by unfold FT at q; unfold WC WM; omega), hF.fr f (fun a k q => by unfold FF at q; unfold WC WM; omega), hI.fr f (fun a k q => by unfold FI at q; unfold WC WM; omega), hSS.fr f b1 (fun a k q => by unfold FS at q; unfold WC WM; omega)⟩
    · rw [z2.I (by unfold WM; omega), xI_ne (by omega)]; exact y4
    · rw [f.I (by unfold WC WM; omega)]; exact hs.2.1
    · rw [f.I (by unfold WC WM; omega)]; exact hs.2.2.1
    · rw [f.I (by unfold WC WM; omega)]; exact hs.2.2.2.1
    · rw [f.I (by unfold WC WM; omega)]; exact hs.2.2.2.2.1
    · rw [f.I (by unfold WC WM; omega)]; exact hs.2.2.2.2.2
    · rw [z2.I (by unfold WM; omega), xI_ne (by omega)]; exact d2
    · intro j hj
      rw [z2.I (by unfold WM; omega), xI_ne (by omega)]
      exact d4 j hj
    · rw [z2.I (by unfold WM; omega), xI_ne (by omega)]; exact y3
    · rw [z2.I (by unfold WM; omega), xI_eq]
