/-! put and feed -/
theorem sim_put {L : Nat} {xs : Nat → Int32} {μ : xM} (a1 : Int32) (hS : Sim L xs μ) : SimR L xs (fX_put 2 a1 μ) (fun μ => fM_put 293 a1 μ) := by
  have hh := hS.sh
  obtain ⟨o', A, V, na, nv, T, K, kb, gb, hH, hP, hC, ⟨n, n1, n2, n3, n4⟩, hT, hF, hI, hSS⟩ := sim_un.mp hS
  have hn : na ≤ 10 := hH.1
  by_cases q1 : xc (-128) ≤ a1
  · by_cases q2 : xc 127 < a1
    · refine sim_refuse 6 hS (by decide) (by decide) ?_ (fun μ1 h1 h2 => ?_)
      · unfold fX_put fX_put_0 fX_put_29
        simp only [gd2 hh, q1, q2, if_true, bind_eta]
        rfl
      · unfold fM_put fM_put_0 fM_put_28
        simp only [gd293 h1, q1, q2, if_true, bind_eta]
        rfl
    · by_cases e : n = 60
      · subst e
        refine sim_refuse 6 hS (by decide) (by decide) ?_ (fun μ1 h1 h2 => ?_)
        · unfold fX_put fX_put_0 fX_put_29 fB_isFull fB_isFull_0
          simp only [gd2 hh, q1, q2, if_true, if_false, g2_4 hh, Option.bind_some, gd183 hh, f183 hh, n2, show ¬ nI 60 < xc 60 from by decide, xc1F, bind_eta]
          rfl
        · unfold fM_put fM_put_0 fM_put_28
          simp only [gd293 h1, q1, q2, if_true, if_false, f293 h1, Option.bind_some, h2 293 5 (by decide), n3, show (nI 60 = xc 60) = True from by decide, bind_eta]
          rfl
      · have hn60 : n < 60 := by omega
        have c1 : nI n < xc 60 := nI_lt hn60 (by decide)
        have c2 : ¬ xc 60 ≤ nI n := nI_ge hn60 (by decide)
        have c3 : ¬ nI n = xc 60 := fun q => e ((nI_eq (by omega) (by decide)).mp q)
        have hh1 : Sh (xsI μ 184 n a1) := hh
        have hh2 : Sh (xsI (xsI μ 184 n a1) 183 1 (nI n + xc 1)) := hh
        have hh3 : Sh (xsI (xsI (xsI μ 184 n a1) 183 1 (nI n + xc 1)) 297 n a1) := hh
        have hh4 : Sh (xsI (xsI (xsI (xsI μ 184 n a1) 183 1 (nI n + xc 1)) 297 n a1) 293 5 (nI n + xc 1)) := hh
        refine ⟨nI n + xc 1, xsI (xsI μ 184 n a1) 183 1 (nI n + xc 1), xsI (xsI (xsI (xsI μ 184 n a1) 183 1 (nI n + xc 1)) 297 n a1) 293 5 (nI n + xc 1), ?_, o'.2.1, ?_, ?_⟩
        · unfold fX_put fX_put_0 fB_isFull fB_isFull_0 fB_write fB_write_0
          simp (disch := omega) only [gd2 hh, q1, q2, if_true, if_false, g2_4 hh, g2_4 hh2, Option.bind_some, gd183 hh, f183 hh, f183 hh1, f183 hh2, n2, c1, c2, xc0T, g183_0 hh, sa184 hh _ hn60, fs183 hh1, xI_ne, xI_eq]
        · unfold fM_put fM_put_0
          simp (disch := omega) only [gd293 hh2, q1, q2, if_true, if_false, f293 hh2, f293 hh3, f293 hh4, Option.bind_some, xI_ne, xI_eq, n3, c3, g293_4 hh2, sa297 hh2 _ hn60, fs293 hh3]
        · have f : Fr (fun a k => a = 183 ∨ a = 184 ∨ a = 297 ∨ a = 293 ∧ k = 5) μ (xsI (xsI (xsI (xsI μ 184 n a1) 183 1 (nI n + xc 1)) 297 n a1) 293 5 (nI n + xc 1)) := ((((Fr.refl μ).s _ (by omega)).s _ (by omega)).s _ (by omega)).s _ (by omega)
          refine sim_un.mpr ⟨o'.fr f (fun a k q => by omega), A, V, na, nv, T, K, kb, gb, hH.fr f (fun a k q => by unfold FH FMo at q; omega), hP.fr f (fun a k q => by unfold FP at q; omega), hC.fr f (fun a k q => by unfold FC at q; omega), ⟨n + 1, by omega, ?_, ?_, fun j hj => ?_⟩, hT.fr f (fun a k q => by unfold FT at q; omega), hF.fr f (fun a k q => by unfold FF at q; omega), hI.fr f (fun a k q => by unfold FI at q; omega), hSS.fr f hn (fun a k q => by unfold FS at q; omega)⟩
          · simp (disch := omega) only [xI_eq, xI_ne]
            exact nI_add n 1
          · rw [xI_eq]
            exact nI_add n 1
          · by_cases e2 : j = n
            · subst e2
              simp (disch := omega) only [xI_eq, xI_ne]
            · simp (disch := omega) only [xI_ne]
              exact n4 j (by omega)
  · refine sim_refuse 4 hS (by decide) (by decide) ?_ (fun μ1 h1 h2 => ?_)
    · unfold fX_put fX_put_0
      simp only [gd2 hh, q1, if_false, bind_eta]
      rfl
    · unfold fM_put fM_put_0
      simp only [gd293 h1, q1, if_false, bind_eta]
      rfl
/-- the byte of a long that is fed at a place -/
def fedB (v : Int64) (i : Nat) : Int32 := (Int64.toInt32 (v >>> (Int32.toInt64 ((xc 8) * nI i) &&& 63))) &&& (xc 255)
theorem fedB_m (v : Int64) (i : Nat) : Int64.toInt32 ((v >>> (Int32.toInt64 ((xc 8) * nI i) &&& 63)) &&& (Int64.ofNat 255)) = fedB v i := by
  rw [Int64.toInt32_and]
  rfl
theorem app_ok {μ : xM} {n k : Nat} (v : Int64) (h : Sh μ) (e : xI μ 181 1 = nI n) (hk : n + k ≤ 24) : ∃ μ1, fT_append 181 (nI k) v μ = some μ1 ∧ Fr (fun a _ => a = 181 ∨ a = 182) μ μ1 ∧ xI μ1 181 1 = nI (n + k) ∧ (∀ j, j < n → xI μ1 182 j = xI μ 182 j) ∧ ∀ j, j < k → xI μ1 182 (n + j) = fedB v j := by
  unfold fT_append fT_append_0
  rw [gd181 h]
  refine xwh_inv (fun i s => s.1 = nI i ∧ Fr (fun a _ => a = 181 ∨ a = 182) μ s.2 ∧ xI s.2 181 1 = nI (n + i) ∧ (∀ j, j < n → xI s.2 182 j = xI μ 182 j) ∧ ∀ j, j < i → xI s.2 182 (n + j) = fedB v j) _ k ?_ ?_ k 0 _ (by omega) ⟨rfl, Fr.refl μ, e, fun _ _ => rfl, fun _ q => absurd q (by omega)⟩
  · rintro i ⟨x, μ'⟩ hi ⟨rfl, f, e1, e2, e3⟩
    left
    have h1 := f.sh h
    have c1 : ¬ nI k ≤ nI i := nI_ge hi (by omega)
    have c2 : ¬ xc 24 ≤ nI (n + i) := show ¬ nI 24 ≤ nI (n + i) from nI_ge (by omega) (by decide)
    have h2 : Sh (xsI μ' 182 (n + i) (fedB v i)) := h1
    unfold fT_append_L3
    refine ⟨_, by
      dsimp only
      simp (disch := omega) only [c1, if_false, f181 h1, Option.bind_some, e1, c2, g181_0 h1, sa182 h1 _ (show n + i < 24 by omega), xI_ne, f181 (show Sh (xsI μ' 182 (n + i) _) from h1), fs181 (show Sh (xsI μ' 182 (n + i) _) from h1)]
      rfl, nI_add i 1, (f.s _ (Or.inr rfl)).s _ (Or.inl rfl), ?_, fun j hj => ?_, fun j hj => ?_⟩
    · rw [xI_eq]
      exact nI_add (n + i) 1
    · rw [xI_ne (by omega), xI_ne (by omega)]
      exact e2 j hj
    · by_cases q : j = i
      · subst q
        rw [xI_ne (by omega), xI_eq]
        rfl
      · rw [xI_ne (by omega), xI_ne (by omega)]
        exact e3 j (by omega)
  · rintro ⟨x, μ'⟩ ⟨rfl, f, e1, e2, e3⟩
    refine ⟨μ', ?_, f, e1, e2, e3⟩
    unfold fT_append_L3
    dsimp only
    rw [if_pos (Int32.le_refl _)]
theorem mapp_ok {μ : xM} {n k : Nat} (v : Int64) (h : Sh μ) (e : xI μ 293 7 = nI n) (hk : n + k ≤ 24) : ∃ μ1, xwh (fun s : Int32 × xM => fM_feed_L39 293 (nI k) v s.1 s.2) (xc 0, μ) = some (nI (n + k), μ1) ∧ Fr (fun a k => a = 293 ∧ k = 7 ∨ a = 298) μ μ1 ∧ xI μ1 293 7 = nI (n + k) ∧ (∀ j, j < n → xI μ1 298 j = xI μ 298 j) ∧ ∀ j, j < k → xI μ1 298 (n + j) = fedB v j := by
  have := xwh_inv (body := fun s : Int32 × xM => fM_feed_L39 293 (nI k) v s.1 s.2) (fun i s => s.1 = nI i ∧ Fr (fun a k => a = 293 ∧ k = 7 ∨ a = 298) μ s.2 ∧ xI s.2 293 7 = nI (n + i) ∧ (∀ j, j < n → xI s.2 298 j = xI μ 298 j) ∧ ∀ j, j < i → xI s.2 298 (n + j) = fedB v j)
    (fun r => r.1 = nI (n + k) ∧ Fr (fun a k => a = 293 ∧ k = 7 ∨ a = 298) μ r.2 ∧ xI r.2 293 7 = nI (n + k) ∧ (∀ j, j < n → xI r.2 298 j = xI μ 298 j) ∧ ∀ j, j < k → xI r.2 298 (n + j) = fedB v j) k ?_ ?_ k 0 (xc 0, μ) (by omega) ⟨rfl, Fr.refl μ, e, fun _ _ => rfl, fun _ q => absurd q (by omega)⟩
  · obtain ⟨⟨r, μ1⟩, h1, rfl, h3⟩ := this
    exact ⟨μ1, h1, h3⟩
  · rintro i ⟨x, μ'⟩ hi ⟨rfl, f, e1, e2, e3⟩
    left
    have h1 := f.sh h
    have c1 : ¬ nI k ≤ nI i := nI_ge hi (by omega)
    unfold fM_feed_L39
    refine ⟨_, by
      dsimp only
      simp (disch := omega) only [c1, if_false, f293 h1, Option.bind_some, e1, g293_6 h1, sa298 h1 _ (show n + i < 24 by omega), xI_ne, f293 (show Sh (xsI μ' 298 (n + i) _) from h1), fs293 (show Sh (xsI μ' 298 (n + i) _) from h1)]
      rfl, nI_add i 1, (f.s _ (Or.inr rfl)).s _ (Or.inl ⟨rfl, rfl⟩), ?_, fun j hj => ?_, fun j hj => ?_⟩
    · rw [xI_eq]
      exact nI_add (n + i) 1
    · rw [xI_ne (by omega), xI_ne (by omega)]
      exact e2 j hj
    · by_cases q : j = i
      · subst q
        rw [xI_ne (by omega), xI_eq, fedB_m]
      · rw [xI_ne (by omega), xI_ne (by omega)]
        exact e3 j (by omega)
  · rintro ⟨x, μ'⟩ ⟨rfl, f, e1, e2, e3⟩
    have h1 := f.sh h
    refine ⟨(nI (n + k), μ'), ?_, rfl, f, e1, e2, e3⟩
    unfold fM_feed_L39 fM_feed_82
    dsimp only
    rw [if_pos (Int32.le_refl _), f293 h1, Option.bind_some, Option.map_some, e1]
theorem sim_feed {L : Nat} {xs : Nat → Int32} {μ : xM} (a1 : Int32) (a2 : Int64) (hS : Sim L xs μ) : SimR L xs (fX_feed 2 a1 a2 μ) (fun μ => fM_feed 293 a1 a2 μ) := by
  have hh := hS.sh
  obtain ⟨o', A, V, na, nv, T, K, kb, gb, hH, hP, hC, hBk, ⟨n, n1, n2, n3, n4⟩, hF, hI, hSS⟩ := sim_un.mp hS
  have hn : na ≤ 10 := hH.1
  by_cases q1 : xc 1 ≤ a1
  · by_cases q2 : xc 8 < a1
    · refine sim_refuse 6 hS (by decide) (by decide) ?_ (fun μ1 h1 h2 => ?_)
      · unfold fX_feed fX_feed_0 fX_feed_29
        simp only [gd2 hh, q1, q2, if_true, bind_eta]
        rfl
      · unfold fM_feed fM_feed_0 fM_feed_29
        simp only [gd293 h1, q1, q2, if_true, bind_eta]
        rfl
    · obtain ⟨k, hk, rfl⟩ : ∃ k : Nat, k ≤ 8 ∧ a1 = nI k := nI_of2 (M := xc 8) (n := 8) rfl (fun q => by rw [lt_toInt] at q; rw [le_toInt] at q1; rw [show (xc 1).toInt = 1 from rfl] at q1; rw [show (0 : Int32).toInt = 0 from rfl] at q; omega) (Int32.not_lt.mp q2)
      have hT24 : nI n + nI k = nI (n + k) := nI_add n k
      by_cases q3 : 24 < n + k
      · have c1 : xc 24 < nI (n + k) := nI_lt q3 (by omega)
        have c2 : ¬ nI (n + k) ≤ xc 24 := nI_ge q3 (by omega)
        refine sim_refuse 6 hS (by decide) (by decide) ?_ (fun μ1 h1 h2 => ?_)
        · unfold fX_feed fX_feed_0 fX_feed_29 fT_hasRoom fT_hasRoom_0
          simp only [gd2 hh, q1, q2, if_true, if_false, g2_3 hh, Option.bind_some, gd181 hh, f181 hh, n2, hT24, c1, xc0T, bind_eta]
          rfl
        · unfold fM_feed fM_feed_0 fM_feed_29
          simp only [gd293 h1, q1, q2, if_true, if_false, f293 h1, Option.bind_some, h2 293 7 (by decide), n3, hT24, c2, bind_eta]
          rfl
      · have c1 : ¬ xc 24 < nI (n + k) := show ¬ nI 24 < nI (n + k) from nI_nlt (by omega) (by decide)
        have c2 : nI (n + k) ≤ xc 24 := show nI (n + k) ≤ nI 24 from nI_le (by omega) (by decide)
        obtain ⟨μ1, r1, f1, r2, r3, r4⟩ := app_ok (k := k) a2 hh n2 (by omega)
        have h1 := f1.sh hh
        obtain ⟨μ2, s1, f2, s2, s3, s4⟩ := mapp_ok (k := k) (n := n) a2 h1 ((f1.I (by omega)).trans n3) (by omega)
        refine ⟨nI (n + k), μ1, μ2, ?_, f1.scr o'.2.1 (fun k => by omega), ?_, ?_⟩
        · unfold fX_feed fX_feed_0 fT_hasRoom fT_hasRoom_0
          simp only [gd2 hh, q1, q2, if_true, if_false, g2_3 hh, Option.bind_some, gd181 hh, f181 hh, n2, hT24, c1, xc1F, r1, g2_3 h1, f181 h1, r2]
        · unfold fM_feed fM_feed_0
          simp only [gd293 h1, q1, q2, if_true, if_false, f293 h1, Option.bind_some, (f1.I (a := 293) (k := 7) (by omega)).trans n3, hT24, c2]
          exact s1
        · have f : Fr (fun a k => a = 181 ∨ a = 182 ∨ a = 298 ∨ a = 293 ∧ k = 7) μ μ2 := (f1.mono (fun a k q => by omega)).trans (f2.mono (fun a k q => by omega))
          refine sim_un.mpr ⟨o'.fr f (fun a k q => by omega), A, V, na, nv, T, K, kb, gb, hH.fr f (fun a k q => by unfold FH FMo at q; omega), hP.fr f (fun a k q => by unfold FP at q; omega), hC.fr f (fun a k q => by unfold FC at q; omega), hBk.fr f (fun a k q => by unfold FB at q; omega), ⟨n + k, by omega, (f2.I (by omega)).trans r2, s2, fun j hj => ?_⟩, hF.fr f (fun a k q => by unfold FF at q; omega), hI.fr f (fun a k q => by unfold FI at q; omega), hSS.fr f hn (fun a k q => by unfold FS at q; omega)⟩
          rw [f2.I (by omega)]
          by_cases q : j < n
          · rw [r3 j q, s3 j q, f1.I (by omega)]
            exact n4 j q
          · obtain ⟨i, rfl⟩ : ∃ i, j = n + i := ⟨j - n, by omega⟩
            rw [r4 i (by omega), s4 i (by omega)]
  · refine sim_refuse 4 hS (by decide) (by decide) ?_ (fun μ1 h1 h2 => ?_)
    · unfold fX_feed fX_feed_0
      simp only [gd2 hh, q1, if_false, bind_eta]
      rfl
    · unfold fM_feed fM_feed_0
      simp only [gd293 h1, q1, if_false, bind_eta]
      rfl
