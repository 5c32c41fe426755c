/-! show: a show told as a number -/
theorem pterm_code {v a b c : Nat} (ha : a < 7) (hb : b < 7) (hc : c < 7) : pterm (512 * v + (64 * a + 8 * b + c)) 0 = a ∧ pterm (512 * v + (64 * a + 8 * b + c)) 1 = b ∧ pterm (512 * v + (64 * a + 8 * b + c)) 2 = c := by
  unfold pterm
  refine ⟨?_, ?_, ?_⟩
  · show (512 * v + (64 * a + 8 * b + c)) / 64 % 8 = a; omega
  · show (512 * v + (64 * a + 8 * b + c)) / 8 % 8 = b; omega
  · show (512 * v + (64 * a + 8 * b + c)) / 1 % 8 = c; omega
/-- digits of the reference's number are the class's -/
theorem c7_digit {v n y k : Nat} (hn : n ≤ 3) (hk : k < n) (h : CodeOf v n y) : c7 n y / 7 ^ (n - 1 - k) % 7 = pterm y k := by
  obtain ⟨a, b, c, ha, hb, hc, rfl, h1, h2, h3⟩ := h
  obtain ⟨p0, p1, p2⟩ := pterm_code (v := v) ha hb hc
  rcases c7_eq (v := v) hn ha hb hc h1 h2 h3 with ⟨x, e⟩ | ⟨x, e⟩ | ⟨x, e⟩ | ⟨x, e⟩
  · omega
  · rw [e]
    obtain rfl : k = 0 := by omega
    rw [p0, x]
    show a / 1 % 7 = a
    omega
  · rw [e]
    obtain rfl | rfl : k = 0 ∨ k = 1 := by omega
    · rw [p0, x]
      show (7 * a + b) / 7 % 7 = a
      omega
    · rw [p1, x]
      show (7 * a + b) / 1 % 7 = b
      omega
  · rw [e]
    obtain rfl | rfl | rfl : k = 0 ∨ k = 1 ∨ k = 2 := by omega
    · rw [p0, x]
      show (49 * a + 7 * b + c) / 49 % 7 = a
      omega
    · rw [p1, x]
      show (49 * a + 7 * b + c) / 7 % 7 = b
      omega
    · rw [p2, x]
      show (49 * a + 7 * b + c) / 1 % 7 = c
      omega
section SHOWN
variable {μ : xM} {V : Nat → xPic} {S : List Nat} {i : Nat}
theorem mtermOf_ok (h : Sh μ) (hS : ShowsM μ V S) (hi : i < S.length) {v : Nat} (hv6 : v < 6) (ev : S.getD i 0 / 512 = v) (w : PicWf (V v)) (cM : PicM μ (10 + v) (V v)) (hc : CodeOf v (V v).2.length (S.getD i 0)) {k : Nat} (hk : k < (V v).2.length) : fM_termOf 293 (nI i) (nI k) μ = some (nI (pterm (S.getD i 0) k)) := by
  have lph := w.2.2.1
  have l12 := hS.1
  obtain ⟨g1, g2⟩ := hS.2.2 i hi
  rw [ev] at g1 g2
  have t1 : ldA μ 320 (nI i) = some (nI (c7 (V v).2.length (S.getD i 0))) := by rw [la320 h (by omega), g2]
  have t2 : ldA μ 319 (nI i) = some (nI v) := by rw [la319 h (by omega), g1]
  have t3 : ldA μ 303 (nI (10 + v)) = some (nI (V v).2.length) := by rw [la303 h (by omega), cM.2.1]
  have lt := c7_lt lph hc
  rw [← c7_digit lph hk hc]
  have en : nI (V v).2.length - xc 1 = nI ((V v).2.length - 1) := pk_sub (b := 1) (by omega)
  have ev2 : fM_termOf 293 (nI i) (nI k) μ = xwh (fun s : Int32 × Int32 => fM_termOf_L25 (nI k) s.1 s.2 μ) (nI (c7 (V v).2.length (S.getD i 0)), nI ((V v).2.length - 1)) := by
    simp only [fM_termOf, fM_termOf_0, gd293 h, g293_42 h, Option.bind_some, t1, g293_14 h, g293_41 h, t2, ix10, t3, en]
  rw [ev2, show nI (c7 (V v).2.length (S.getD i 0)) = nI (c7 (V v).2.length (S.getD i 0) / 7 ^ 0) from by rw [Nat.pow_zero, Nat.div_one]]
  have small : ∀ m, c7 (V v).2.length (S.getD i 0) / 7 ^ m < 343 := fun m => Nat.lt_of_le_of_lt (Nat.div_le_self _ _) lt
  refine xwh_for (fun m => (nI (c7 (V v).2.length (S.getD i 0) / 7 ^ m), nI ((V v).2.length - 1 - m))) ((V v).2.length - 1 - k) _ (fun m hm => ?_) ?_ ((V v).2.length - 1 - k) 0 (by omega)
  · have c0 : ¬ nI ((V v).2.length - 1 - m) ≤ nI k := nI_ge (by omega) (by omega)
    have e7 : ¬ xc 7 = 0 := by decide
    have hs := small m
    have hd : nI (c7 (V v).2.length (S.getD i 0) / 7 ^ m) / xc 7 = nI (c7 (V v).2.length (S.getD i 0) / 7 ^ (m + 1)) := by
      rw [show xc 7 = nI 7 from rfl, pk_div (by omega) (by decide) (by decide), Nat.div_div_eq_div_mul, Nat.pow_succ]
    have hm1 : nI ((V v).2.length - 1 - m) + xc (-1) = nI ((V v).2.length - 1 - (m + 1)) := by
      have e : nI ((V v).2.length - 1 - m) - xc 1 = nI ((V v).2.length - 1 - m - 1) := pk_sub (b := 1) (by omega)
      rw [Int32.sub_eq_add_neg] at e
      exact e
    dsimp only
    simp only [fM_termOf_L25, c0, if_false, dvI, e7, Option.bind_some, hd, hm1]
  · have hs := small ((V v).2.length - 1 - k)
    have c0 : nI ((V v).2.length - 1 - ((V v).2.length - 1 - k)) ≤ nI k := nI_le (by omega) (by omega)
    have e7 : ¬ xc 7 = 0 := by decide
    dsimp only
    simp only [fM_termOf_L25, c0, if_true, fM_termOf_42, rmI, e7, if_false, Option.bind_some, Option.map_some]
    rw [show xc 7 = nI 7 from rfl, pk_rem (by omega) (by decide) (by decide)]
end SHOWN
section SHOWC
variable {μ : xM} {s : Nat}
theorem xtermOf_ok (h : IsSight μ s) {i x k : Nat} (hi : i < 12) (e : xI μ (s + 6) i = nI x) (hx : x < 4096) (hk : k < 3) : fS_termOf s (nI i) (nI k) μ = some (nI (pterm x k)) := by
  have r6 : ldFR μ s 6 1 = some (s + 6) := ldFR_k (ci := 6) h.2.1 h.2.2.2.1
  have t1 : ldA μ (s + 6) (nI i) = some (nI x) := by rw [ldA_k h.2.2.2.2.2.1 hi (by decide), e]
  have e3 : xc 3 * (xc 2 - nI k) = nI (3 * (2 - k)) := by
    rw [show xc 2 - nI k = nI (2 - k) from pk_sub (a := 2) (by omega)]
    exact pk_mul 3 _
  have e7 : ∀ n, n < 4096 → nI n &&& xc 7 = nI (n % 8) := fun n hn => pk_andN (by omega) 3 (by decide)
  have hd : x / 2 ^ (3 * (2 - k)) < 4096 := Nat.lt_of_le_of_lt (Nat.div_le_self _ _) hx
  simp only [fS_termOf, fS_termOf_0, gd_k (ci := 6) h.2.1, r6, Option.bind_some, t1, e3]
  rw [nI_shr (by omega) (by omega), e7 _ hd]
  unfold pterm
  rw [show 2 ^ (3 * (2 - k)) = 8 ^ (2 - k) from by rw [Nat.pow_mul]]
theorem xviewOf_ok (h : IsSight μ s) {i x : Nat} (hi : i < 12) (e : xI μ (s + 6) i = nI x) (hx : x < 4096) : fS_viewOf s (nI i) μ = some (nI (x / 512)) := by
  have r6 : ldFR μ s 6 1 = some (s + 6) := ldFR_k (ci := 6) h.2.1 h.2.2.2.1
  have t1 : ldA μ (s + 6) (nI i) = some (nI x) := by rw [ldA_k h.2.2.2.2.2.1 hi (by decide), e]
  simp only [fS_viewOf, fS_viewOf_0, gd_k (ci := 6) h.2.1, r6, Option.bind_some, t1]
  rw [show (xc 9 &&& 31) = (nI 9 &&& 31) from rfl, nI_shr (by omega) (by decide)]
end SHOWC
def shv (x : Nat) : Nat → Int32 × Int32
  | 0 => (xc 1000 * nI (x / 512), xc 1)
  | k + 1 => ((shv x k).1 + (shv x k).2 * nI (pterm x k + 1), (shv x k).2 * xc 10)
section SHOWS
variable {L : Nat} {xs : Nat → Int32} {μ : xM} {A V : Nat → xPic} {na nv T K kb gb : Nat}
theorem show_code (hS : SimA L xs μ A V na nv T K kb gb) {j : Nat} (hj : j < na) {x : Nat} (hx : x ∈ pShows (pEnd K (A j)) V nv) : x / 512 < nv ∧ x < 4096 ∧ CodeOf (x / 512) (V (x / 512)).2.length x := by
  have hv := hS.nv6
  have lt := shows_lt hx
  have keep := pEnd_keep (K := K) (hS.wfA hj).tb
  have hN : (pEnd K (A j)).2.2 = false := by
    cases h : (pEnd K (A j)).2.2 with
    | false => rfl
    | true =>
      unfold pShows at hx
      rw [if_pos h] at hx
      exact absurd hx List.not_mem_nil
  obtain ⟨v, h1, h2⟩ := (shows_mem hN keep.1).mp hx
  have hc := codeOf_mem keep.1 h2
  have e := codeOf_div hc
  rw [e]
  exact ⟨h1, by omega, hc⟩
theorem sim_show (a1 : Int32) (a2 : Int32) (hS : Sim L xs μ) : SimR L xs (fX_show 2 a1 a2 μ) (fun μ => fM_show 293 a1 a2 μ) := by
  obtain ⟨A, V, na, nv, T, K, kb, gb, hA⟩ := simA_iff.mp hS
  have hh := hS.sh
  have hn := hA.na10
  have all := hA.all
  rcases off_or na (by omega) a1 with q | ⟨j, hj, rfl⟩
  · refine sim_refuse 1 hS (by decide) (by decide) ?_ (fun μ1 h1 h2 => ?_)
    · simp only [fX_show, fX_show_0, gd2 hh, xspent_no hh all.2.1.2.2.1 q, Option.bind_some, m1F, if_false, bind_eta]
      rfl
    · simp only [fM_show, fM_show_0, gd293 h1, mask_no h1 ((h2 _ _ (by decide)).trans all.2.2.1.1) (by omega) q, Option.bind_some, xc0T, if_true, bind_eta]
      rfl
  · have ma : ∀ z, Sh z → xI z 293 8 = nI na → fM_isAsk 293 (nI j) z = some (xc 1) := fun z hz e => mask_yes hz e (by omega) hj
    obtain ⟨μ1, s1, s2, s3, s4, s5⟩ := xspent_ok hA hj
    have h1 := s1.sh
    have hm1 := s1.all.2.2.1.1
    have hs := sight_at h1 j (by omega)
    by_cases q : 12 < (pShows (pEnd K (A j)) V nv).length
    · rw [if_pos q] at s5
      refine sim_refuse2 5 s1.sim (by decide) (by decide) ?_ (fun μ2 h1' h2' => ?_)
      · simp only [fX_show, fX_show_0, gd2 hh, s5, Option.bind_some, m5F, if_false, bind_eta]
        rfl
      · obtain ⟨⟨r, μ3⟩, m1, m2, _, m3⟩ := mShows_ok2 s1 hj h1' h2'
        rcases m3 with ⟨_, m3, _⟩ | ⟨m3, _⟩
        · exact absurd q (by omega)
        · have m3' : r = xc 0 := m3
          refine ⟨μ3, m2, ?_⟩
          simp only [fM_show, fM_show_0, gd293 h1', ma μ2 h1' ((h2' _ _ (by decide)).trans hm1), Option.bind_some, xc1F, if_false, m1, m3', xc0T, if_true, bind_eta]
          rfl
    · rw [if_neg q] at s5
      have q' : (pShows (pEnd K (A j)) V nv).length ≤ 12 := by omega
      obtain ⟨c1, c2⟩ := s3.2.2.2.2 q'
      have sd := seen_done s1 hj s4
      rcases off_or (pShows (pEnd K (A j)) V nv).length (by omega) a2 with z | ⟨i, hi, rfl⟩
      · refine sim_refuse2 1 s1.sim (by decide) (by decide) ?_ (fun μ2 h1' h2' => ?_)
        · by_cases z1 : a2 < 0
          · simp only [fX_show, fX_show_0, gd2 hh, s5, Option.bind_some, xc0T, if_true, sd, z1, fX_show_36, bind_eta]
            rfl
          · have z2 : ¬ a2 < nI (pShows (pEnd K (A j)) V nv).length := Int32.not_lt.mpr (z.resolve_left z1)
            simp only [fX_show, fX_show_0, gd2 hh, s5, Option.bind_some, xc0T, if_true, sd, z1, if_false, ldF_k (ci := 6) 2 hs.2.1, c1, z2, fX_show_36, bind_eta]
            rfl
        · obtain ⟨⟨r, μ3⟩, m1, m2, _, m3⟩ := mShows_ok2 s1 hj h1' h2'
          rcases m3 with ⟨m3, m4, m5⟩ | ⟨_, m3⟩
          · have m3' : r = xc 1 := m3
            have e39 : xI μ3 293 39 = nI (pShows (pEnd K (A j)) V nv).length := m5.2.1
            have zi : a2 < 0 ∨ nI (pShows (pEnd K (A j)) V nv).length - xc 1 < a2 := z.imp id (nIm1_lt (by omega) a2).mpr
            refine ⟨μ3, m2, ?_⟩
            simp only [fM_show, fM_show_0, gd293 h1', ma μ2 h1' ((h2' _ _ (by decide)).trans hm1), Option.bind_some, xc1F, if_false, m1, m3', f293 (m2.sh h1'), e39, isIn_b, if_pos zi, xc0T, if_true, bind_eta]
            rfl
          · exact absurd m3 q
      · obtain ⟨⟨r, μ3⟩, m1, m2, _, m3⟩ := mShows_ok s1 hj
        rcases m3 with ⟨m3, m4, m5⟩ | ⟨_, m3⟩
        · have m3' : r = xc 1 := m3
          have h3 := m2.sh h1
          have e39 : xI μ3 293 39 = nI (pShows (pEnd K (A j)) V nv).length := m5.2.1
          obtain ⟨x1, x2, x3⟩ := show_code s1 hj (getD_memD (d := 0) hi)
          obtain ⟨x, hx⟩ : ∃ x, x = (pShows (pEnd K (A j)) V nv).getD i 0 := ⟨_, rfl⟩
          have n6 := hA.nv6
          have wv := s1.wfV x1
          have lph := wv.2.2.1
          have g1 := (m5.2.2 i hi).1
          have c2i := c2 i hi
          have zi : ¬ (nI i < 0 ∨ nI (pShows (pEnd K (A j)) V nv).length - xc 1 < nI i) := fun w => off_not (by omega) hi (w.imp id (nIm1_lt (by omega) _).mp)
          have cMv : PicM μ3 (10 + (pShows (pEnd K (A j)) V nv).getD i 0 / 512) (V ((pShows (pEnd K (A j)) V nv).getD i 0 / 512)) := (s1.mV x1).fr' m2 (fun a k q => by unfold Scratch; omega)
          have tM : ∀ k, k < (V ((pShows (pEnd K (A j)) V nv).getD i 0 / 512)).2.length → fM_termOf 293 (nI i) (nI k) μ3 = some (nI (pterm ((pShows (pEnd K (A j)) V nv).getD i 0) k)) := fun k hk => mtermOf_ok h3 m5 hi (by omega) rfl wv cMv x3 hk
          have tX : ∀ k, k < 3 → fS_termOf (213 + 8 * j) (nI i) (nI k) μ1 = some (nI (pterm ((pShows (pEnd K (A j)) V nv).getD i 0) k)) := fun k hk => xtermOf_ok hs (by omega) c2i x2 hk
          have vX := xviewOf_ok hs (show i < 12 by omega) c2i x2
          have cV := s1.cV x1
          have pv := pic_view h1 ((pShows (pEnd K (A j)) V nv).getD i 0 / 512) (by omega)
          have av := ar_view h1 (show (pShows (pEnd K (A j)) V nv).getD i 0 / 512 < 6 by omega)
          have tH : ldA μ3 303 (nI (10 + (pShows (pEnd K (A j)) V nv).getD i 0 / 512)) = some (nI (V ((pShows (pEnd K (A j)) V nv).getD i 0 / 512)).2.length) := by rw [la303 h3 (by omega), cMv.2.1]
          have tS : ldA μ3 319 (nI i) = some (nI ((pShows (pEnd K (A j)) V nv).getD i 0 / 512)) := by rw [la319 h3 (by omega), g1]
          rw [← hx] at x1 x2 x3 wv lph tM tX vX cV pv av tH tS cMv
          refine sim_ans (r := (shv x (V (x / 512)).2.length).1) (μ2 := μ3) s1.sim ?_ ?_ m2
          · have ev : fX_show 2 (nI j) (nI i) μ = xwh (fun s : Int32 × Int32 × Int32 => fX_show_L64 2 (nI i) (213 + 8 * j) (nI (x / 512)) s.1 s.2.1 s.2.2 μ1) (xc 1000 * nI (x / 512), xc 1, xc 0) := by
              simp only [fX_show, fX_show_0, gd2 hh, s5, Option.bind_some, xc0T, if_true, sd, nI_pos (show i < 2 ^ 31 by omega), if_false, ldF_k (ci := 6) 2 hs.2.1, c1, nI_lt hi (show (pShows (pEnd K (A j)) V nv).length < 2 ^ 31 by omega), vX]
            rw [ev]
            refine xwh_for (fun k => ((shv x k).1, (shv x k).2, nI k)) (V (x / 512)).2.length _ (fun k hk => ?_) ?_ (V (x / 512)).2.length 0 (by omega)
            · have c0 : ¬ nI (V (x / 512)).2.length ≤ nI k := nI_ge hk (by omega)
              dsimp only
              simp only [fX_show_L64, g2_0 h1, g3_9 h1, av, pv.headLen cV, Option.bind_some, c0, if_false, tX k (by omega), inc1]
              rfl
            · dsimp only
              simp only [fX_show_L64, g2_0 h1, g3_9 h1, av, pv.headLen cV, Option.bind_some, Int32.le_refl, if_true, fX_show_113, Option.map_some]
          · have ev : fM_show 293 (nI j) (nI i) μ1 = xwh (fun s : Int32 × Int32 × Int32 => fM_show_L68 293 (nI i) s.1 s.2.1 s.2.2 μ3) (xc 1000 * nI (x / 512), xc 1, xc 0) := by
              simp only [fM_show, fM_show_0, gd293 h1, ma μ1 h1 hm1, Option.bind_some, xc1F, if_false, m1, m3', f293 h3, e39, isIn_b, if_neg zi, g293_41 h3, tS]
            rw [ev]
            refine xwh_for (fun k => ((shv x k).1, (shv x k).2, nI k)) (V (x / 512)).2.length _ (fun k hk => ?_) ?_ (V (x / 512)).2.length 0 (by omega)
            · have c0 : ¬ nI (V (x / 512)).2.length ≤ nI k := nI_ge hk (by omega)
              dsimp only
              simp only [fM_show_L68, g293_14 h3, g293_41 h3, tS, ix10, tH, Option.bind_some, c0, if_false, tM k hk, inc1]
              rfl
            · dsimp only
              simp only [fM_show_L68, g293_14 h3, g293_41 h3, tS, ix10, tH, Option.bind_some, Int32.le_refl, if_true, fM_show_115, Option.map_some]
        · exact absurd m3 q
end SHOWS
