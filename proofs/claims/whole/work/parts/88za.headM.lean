section HEADM
variable {μ : xM} {q n : Nat} {bt : Nat → Int32}
theorem stands_ok (hh : Sh μ) (hq : q < 16) {R : List xRow} {H : List Nat} (c : PicM μ q (R, H)) (h4 : R.length ≤ 4) (hR : ∀ r, r ∈ R → r.1 < 3 ∧ r.2.1 < 7 ∧ r.2.2 < 7) {t : Nat} (ht : t < 7) : ∃ v, fM_stands 293 (nI q) (nI t) μ = some v ∧ Tells v (∃ r, r ∈ R ∧ (r.2.1 = t ∨ r.2.2 = t)) := by
  have e4 : ∀ i, (xc 4 * nI q) + nI i = nI (4 * q + i) := fun i => by rw [show xc 4 = nI 4 from rfl, pk_mul, nI_add]
  have l9 : ldA μ 299 (nI q) = some (nI R.length) := by rw [la299 hh hq, c.1]
  unfold fM_stands fM_stands_0
  rw [gd293 hh, show xc 4 * nI q = nI (4 * q + 0) from pk_mul 4 q]
  refine xwh_inv (body := fun z : Int32 × Int32 => fM_stands_L7 293 (nI q) (nI t) z.1 z.2 μ) (fun j z => z.2 = nI (4 * q + j) ∧ Tells z.1 (∃ k, k < j ∧ ((R.getD k (0, 0, 0)).2.1 = t ∨ (R.getD k (0, 0, 0)).2.2 = t))) _ R.length ?_ ?_ R.length 0 _ (by omega) ⟨rfl, Or.inr ⟨rfl, fun ⟨k, hk, _⟩ => absurd hk (Nat.not_lt_zero k)⟩⟩
  · rintro j ⟨v, x⟩ hj ⟨rfl, tl⟩
    left
    dsimp only at tl
    have c0 : ¬ nI (4 * q + R.length) ≤ nI (4 * q + j) := nI_ge (by omega) (by omega)
    have i1 : nI (4 * q + j) + xc 1 = nI (4 * q + (j + 1)) := inc1 (4 * q + j)
    have cj := c.2.2.1 j hj
    dsimp only at cj
    have br := hR _ (getD_memD (d := (0, 0, 0)) hj)
    rcases tl with ⟨rfl, tl⟩ | ⟨rfl, tl⟩
    · refine ⟨(xc 1, nI (4 * q + (j + 1))), ?_, rfl, Or.inl ⟨rfl, ?_⟩⟩
      · simp only [fM_stands_L7, g293_10 hh, Option.bind_some, l9, e4, c0, if_false, xc1F, fM_stands_48, fM_stands_53, i1]
      · obtain ⟨k, k1, k2⟩ := tl
        exact ⟨k, by omega, k2⟩
    · have la : ldA μ 301 (nI (4 * q + j)) = some (nI (R.getD j (0, 0, 0)).2.1) := by rw [la301 hh (by omega), cj.2.1]
      have lb' : ldA μ 302 (nI (4 * q + j)) = some (nI (R.getD j (0, 0, 0)).2.2) := by rw [la302 hh (by omega), cj.2.2]
      by_cases z1 : (R.getD j (0, 0, 0)).2.1 = t
      · refine ⟨(xc 1, nI (4 * q + (j + 1))), ?_, rfl, Or.inl ⟨rfl, j, by omega, Or.inl z1⟩⟩
        simp only [fM_stands_L7, g293_10 hh, Option.bind_some, l9, e4, c0, if_false, xc0T, if_true, g293_12 hh, la, eq_true (show nI (R.getD j (0, 0, 0)).2.1 = nI t by rw [z1]), fM_stands_48, fM_stands_53, i1]
      · have z1' : ¬ nI (R.getD j (0, 0, 0)).2.1 = nI t := fun y => z1 (nI_inj (by omega) (by omega) y)
        by_cases z2 : (R.getD j (0, 0, 0)).2.2 = t
        · refine ⟨(xc 1, nI (4 * q + (j + 1))), ?_, rfl, Or.inl ⟨rfl, j, by omega, Or.inr z2⟩⟩
          simp only [fM_stands_L7, g293_10 hh, Option.bind_some, l9, e4, c0, if_false, xc0T, if_true, g293_12 hh, la, eq_false z1', g293_13 hh, lb', eq_true (show nI (R.getD j (0, 0, 0)).2.2 = nI t by rw [z2]), fM_stands_48, fM_stands_53, i1]
        · have z2' : ¬ nI (R.getD j (0, 0, 0)).2.2 = nI t := fun y => z2 (nI_inj (by omega) (by omega) y)
          refine ⟨(xc 0, nI (4 * q + (j + 1))), ?_, rfl, Or.inr ⟨rfl, fun ⟨k, k1, k2⟩ => ?_⟩⟩
          · simp only [fM_stands_L7, g293_10 hh, Option.bind_some, l9, e4, c0, if_false, xc0T, if_true, g293_12 hh, la, eq_false z1', g293_13 hh, lb', eq_false z2', fM_stands_53, i1]
          · by_cases w : k = j
            · subst w; exact k2.elim z1 z2
            · exact tl ⟨k, by omega, k2⟩
  · rintro ⟨v, x⟩ ⟨rfl, tl⟩
    dsimp only at tl
    refine ⟨v, ?_, tl.iff ⟨fun ⟨k, k1, k2⟩ => ⟨_, getD_memD k1, k2⟩, fun ⟨r, r1, r2⟩ => ?_⟩⟩
    · simp only [fM_stands_L7, g293_10 hh, Option.bind_some, l9, e4, Int32.le_refl, if_true, fM_stands_60, eq_true tl.zo, Option.map_some]
    · obtain ⟨k, k1, rfl⟩ := mem_getD (d := (0, 0, 0)) r1
      exact ⟨k, k1, r2⟩
variable {i : Nat}
theorem fin_f (hh : Sh μ) (e : xI μ 293 26 = nI i) (e28 : xI μ 293 28 = xc 1) : fM_readPicture_228 293 μ = some (nI i, xsI μ 293 28 (xc 1)) := by
  have s1 : Sh (xsI μ 293 28 (xc 1)) := hh
  have v26 : xI (xsI μ 293 28 (xc 1)) 293 26 = nI i := (xI_ne (by omega)).trans e
  have v28 : xI (xsI μ 293 28 (xc 1)) 293 28 = xc 1 := xI_eq _ _ _ _
  simp only [fM_readPicture_228, f293 hh, e28, Option.bind_some, xc1F, if_false, fM_readPicture_247, fM_readPicture_252, fz293 hh 28 (show xc 1 = 0 ∨ xc 1 = 1 from Or.inr rfl), f293 s1, v28, v26]
theorem fin_e (h : BtM μ bt n) (hi : i < 100) (e : xI μ 293 26 = nI i) (e28 : xI μ 293 28 = xc 0) : ∃ v, fM_readPicture_228 293 μ = some (if n ≤ i then xc (-1) else nI i, xsI μ 293 28 v) := by
  obtain ⟨hh, hn, e27, _⟩ := h
  have s1 : ∀ v, Sh (xsI μ 293 28 v) := fun v => hh
  have v26 : xI (xsI μ 293 28 (xc 1)) 293 26 = nI i := (xI_ne (by omega)).trans e
  by_cases z : n ≤ i
  · have c0 : nI n ≤ nI i := nI_le z (by omega)
    have v28 : xI (xsI μ 293 28 (xc 0)) 293 28 = xc 0 := xI_eq _ _ _ _
    refine ⟨xc 0, ?_⟩
    rw [if_pos z]
    simp only [fM_readPicture_228, f293 hh, e28, Option.bind_some, xc0T, if_true, e, e27, c0, fM_readPicture_252, fz293 hh 28 (show xc 0 = 0 ∨ xc 0 = 1 from Or.inl rfl), f293 (s1 (xc 0)), v28]
  · have c0 : ¬ nI n ≤ nI i := nI_ge (by omega) (by omega)
    have v28 : xI (xsI μ 293 28 (xc 1)) 293 28 = xc 1 := xI_eq _ _ _ _
    refine ⟨xc 1, ?_⟩
    rw [if_neg z]
    simp only [fM_readPicture_228, f293 hh, e28, Option.bind_some, xc0T, if_true, e, e27, c0, if_false, fM_readPicture_247, fM_readPicture_252, fz293 hh 28 (show xc 1 = 0 ∨ xc 1 = 1 from Or.inr rfl), f293 (s1 (xc 1)), v28, xc1F, v26]
theorem dBt3 : ¬ W3 293 27 ∧ ∀ k, ¬ W3 298 k := ⟨by unfold W3; omega, fun k => by unfold W3; omega⟩
/-- the head is read -/
theorem headM_ok (hq : q < 16) {R : List xRow} (h4 : R.length ≤ 4) (hR : ∀ r, r ∈ R → r.1 < 3 ∧ r.2.1 < 7 ∧ r.2.2 < 7) : ∀ (f i : Nat) (H : List Nat) (μ : xM), BtM μ bt n → PicM μ q (R, H) → H.length + f = 3 → i < 90 → xI μ 293 26 = nI i → xI μ 293 28 = xc 0 → ∃ μ1, xwh (fun s : Int32 × xM => fM_readPicture_L104 293 (nI q) s.1 s.2) (xc 1, μ) = some (rI (pHead bt n R f i H).1, μ1) ∧ Fr (WQ q) μ μ1 ∧ PicM μ1 q (R, (pHead bt n R f i H).2) := by
  intro f
  induction f with
  | zero =>
    intro i H μ hB c hf hi e e28
    obtain ⟨hh, hn, e27, eb⟩ := id hB
    have he := here_ok hB (by omega) e
    have l3 : ldA μ 303 (nI q) = some (xc 3) := by
      rw [la303 hh hq, c.2.1]
      dsimp only
      rw [show H.length = 3 by omega]
      rfl
    have s1 : Sh (xsI μ 293 28 (xc 1)) := hh
    have v28 : xI (xsI μ 293 28 (xc 1)) 293 28 = xc 1 := xI_eq _ _ _ _
    have v26 : xI (xsI μ 293 28 (xc 1)) 293 26 = nI i := (xI_ne (by omega)).trans e
    have v27 : xI (xsI μ 293 28 (xc 1)) 293 27 = nI n := (xI_ne (by omega)).trans e27
    have fr0 : Fr W3 μ (xsI (xsI μ 293 28 (xc 1)) 293 28 (xc 1)) := ((Fr.refl μ).s _ (by unfold W3; omega)).s _ (by unfold W3; omega)
    have body : fM_readPicture_L104 293 (nI q) (xc 1) μ = some (.inl (if nI n ≤ nI i then xc 0 else xc 1, xsI μ 293 28 (xc 1))) := by
      by_cases z : nI n ≤ nI i
      · simp only [fM_readPicture_L104, f293 hh, e28, Option.bind_some, xc0T, if_true, xc1F, if_false, he, g293_14 hh, l3, fM_readPicture_152, fM_readPicture_157, fz293 hh 28 (show xc 1 = 0 ∨ xc 1 = 1 from Or.inr rfl), f293 s1, v28, fM_readPicture_208, v26, v27, z, fM_readPicture_224]
      · simp only [fM_readPicture_L104, f293 hh, e28, Option.bind_some, xc0T, if_true, xc1F, if_false, he, g293_14 hh, l3, fM_readPicture_152, fM_readPicture_157, fz293 hh 28 (show xc 1 = 0 ∨ xc 1 = 1 from Or.inr rfl), f293 s1, v28, fM_readPicture_208, v26, v27, z, fM_readPicture_224]
    refine ⟨xsI (xsI μ 293 28 (xc 1)) 293 28 (xc 1), xwh_go body (xwh_stop ?_), fr0.mono (fun a k z => W3_WQ z), picM_fr c fr0 (fun a k x y => by unfold W3; omega)⟩
    simp only [fM_readPicture_L104, f293 s1, v28, Option.bind_some, xc1F, if_false, fin_f s1 v26 v28, Option.map_some]
    rfl
  | succ f ih =>
    intro i H μ hB c hf hi e e28
    obtain ⟨hh, hn, e27, eb⟩ := id hB
    have he := here_ok hB (by omega) e
    have l3 : ldA μ 303 (nI q) = some (nI H.length) := by rw [la303 hh hq, c.2.1]
    have l3' : ¬ nI H.length = xc 3 := fun z => by
      have := nI_inj (b := 3) (by omega) (by decide) z
      omega
    have s1 : Sh (xsI μ 293 28 (xc 1)) := hh
    have v28 : xI (xsI μ 293 28 (xc 1)) 293 28 = xc 1 := xI_eq _ _ _ _
    have v26 : xI (xsI μ 293 28 (xc 1)) 293 26 = nI i := (xI_ne (by omega)).trans e
    have v27 : xI (xsI μ 293 28 (xc 1)) 293 27 = nI n := (xI_ne (by omega)).trans e27
    have fr0 : Fr W3 μ (xsI (xsI μ 293 28 (xc 1)) 293 28 (xc 1)) := ((Fr.refl μ).s _ (by unfold W3; omega)).s _ (by unfold W3; omega)
    have e152 : fM_readPicture_152 293 (nI q) (at_ bt n i) 293 μ = some (.inl (if nI n ≤ nI i then xc 0 else xc 1, xsI μ 293 28 (xc 1))) := by
      by_cases z : nI n ≤ nI i
      · simp only [fM_readPicture_152, fM_readPicture_157, fz293 hh 28 (show xc 1 = 0 ∨ xc 1 = 1 from Or.inr rfl), Option.bind_some, f293 s1, v28, xc1F, if_false, fM_readPicture_208, v26, v27, z, if_true, fM_readPicture_224]
      · simp only [fM_readPicture_152, fM_readPicture_157, fz293 hh 28 (show xc 1 = 0 ∨ xc 1 = 1 from Or.inr rfl), Option.bind_some, f293 s1, v28, xc1F, if_false, fM_readPicture_208, v26, v27, z, fM_readPicture_224]
    have stop : fM_readPicture_L104 293 (nI q) (xc 1) μ = some (.inl (if nI n ≤ nI i then xc 0 else xc 1, xsI μ 293 28 (xc 1))) → ∃ μ1, xwh (fun s : Int32 × xM => fM_readPicture_L104 293 (nI q) s.1 s.2) (xc 1, μ) = some (nI i, μ1) ∧ Fr (WQ q) μ μ1 ∧ PicM μ1 q (R, H) := fun body => by
      refine ⟨xsI (xsI μ 293 28 (xc 1)) 293 28 (xc 1), xwh_go body (xwh_stop ?_), fr0.mono (fun a k z => W3_WQ z), picM_fr c fr0 (fun a k x y => by unfold W3; omega)⟩
      simp only [fM_readPicture_L104, f293 s1, v28, Option.bind_some, xc1F, if_false, fin_f s1 v26 v28, Option.map_some]
    unfold pHead pName
    cases et : trm (at_ bt n i) with
    | none =>
      refine stop ?_
      simp only [fM_readPicture_L104, f293 hh, e28, Option.bind_some, xc0T, if_true, xc1F, if_false, he, g293_14 hh, l3, l3', isName_no (fun u hu => by rw [et] at hu; cases hu) μ, e152]
    | some t =>
      have t7 := trm_lt et
      dsimp only
      by_cases st : stB R t = true
      · rw [if_pos st]
        have std := stB_iff.mp st
        obtain ⟨y1, y2⟩ := isName_yes et std.1 μ
        obtain ⟨v, w1, w2⟩ := stands_ok hh hq c h4 hR t7
        have v1 : v = xc 1 := w2.elim (fun z => z.1) (fun z => absurd std.2 z.2)
        rw [v1] at w1
        have s0 : Sh (xsI μ 293 28 (xc 0)) := hh
        have x28 : xI (xsI μ 293 28 (xc 0)) 293 28 = xc 0 := xI_eq _ _ _ _
        have lh0 : ldA (xsI μ 293 28 (xc 0)) 303 (nI q) = some (nI H.length) := by rw [la303 s0 hq, xI_ne (by omega), c.2.1]
        have ix : (xc 3 * nI q) + nI H.length = nI (3 * q + H.length) := by rw [show xc 3 = nI 3 from rfl, pk_mul, nI_add]
        have s2 : Sh (xsI (xsI μ 293 28 (xc 0)) 304 (3 * q + H.length) (nI t)) := hh
        have lh1 : ldA (xsI (xsI μ 293 28 (xc 0)) 304 (3 * q + H.length) (nI t)) 303 (nI q) = some (nI H.length) := by rw [la303 s2 hq, xI_ne (by omega), xI_ne (by omega), c.2.1]
        have s3 : Sh (xsI (xsI (xsI μ 293 28 (xc 0)) 304 (3 * q + H.length) (nI t)) 303 q (nI (H.length + 1))) := hh
        have x26 : xI (xsI (xsI (xsI μ 293 28 (xc 0)) 304 (3 * q + H.length) (nI t)) 303 q (nI (H.length + 1))) 293 26 = nI i := by simp (disch := omega) only [xI_ne]; exact e
        generalize hμ : xsI (xsI (xsI (xsI μ 293 28 (xc 0)) 304 (3 * q + H.length) (nI t)) 303 q (nI (H.length + 1))) 293 26 (nI (i + 1)) = μ4
        have s4 : Sh μ4 := by rw [← hμ]; exact hh
        have F4 : Fr (WQ q) μ μ4 := by
          rw [← hμ]
          exact ((((Fr.refl μ).s _ (by unfold WQ; omega)).s _ (by unfold WQ; omega)).s _ (by unfold WQ; omega)).s _ (by unfold WQ; omega)
        have z26 : xI μ4 293 26 = nI (i + 1) := by rw [← hμ]; exact xI_eq _ _ _ _
        have z27 : xI μ4 293 27 = nI n := by rw [← hμ]; simp (disch := omega) only [xI_ne]; exact e27
        have z28 : xI μ4 293 28 = xc 0 := by rw [← hμ]; simp (disch := omega) only [xI_ne, xI_eq]
        have hB4 : BtM μ4 bt n := ⟨s4, hn, z27, fun j hj => by rw [← hμ]; simp (disch := omega) only [xI_ne]; exact eb j hj⟩
        have c4 : PicM μ4 q (R, H ++ [t]) := by
          rw [← hμ]
          refine ⟨?_, ?_, fun k hk => ?_, fun k hk => ?_⟩
          · simp (disch := omega) only [xI_ne]; exact c.1
          · simp (disch := omega) only [xI_ne, xI_eq]
            rw [List.length_append]; rfl
          · simp (disch := omega) only [xI_ne]; exact c.2.2.1 k hk
          · rw [List.length_append] at hk
            have hk' : k < H.length + 1 := hk
            dsimp only
            by_cases z : k = H.length
            · subst z
              rw [getD_app_r]
              simp (disch := omega) only [xI_ne, xI_eq]
            · have hl : k < H.length := by omega
              rw [getD_app_l hl]
              simp (disch := omega) only [xI_ne]
              exact c.2.2.2 k hl
        have body : fM_readPicture_L104 293 (nI q) (xc 1) μ = some (.inl (if nI n ≤ nI (i + 1) then xc 0 else xc 1, μ4)) := by
          have pre : fM_readPicture_L104 293 (nI q) (xc 1) μ = fM_readPicture_208 293 (nI q) μ4 := by
            simp only [fM_readPicture_L104, f293 hh, e28, Option.bind_some, xc0T, if_true, xc1F, if_false, he, g293_14 hh, l3, l3', y1, y2, w1, fM_readPicture_157, fz293 hh 28 (show xc 0 = 0 ∨ xc 0 = 1 from Or.inl rfl), f293 s0, x28, g293_15 s0, g293_14 s0, lh0, ix, sa304 s0 _ (show 3 * q + H.length < 48 by omega), g293_14 s2, lh1, inc1, sa303 s2 _ hq, f293 s3, x26, fs293 s3, hμ]
          rw [pre]
          by_cases z : nI n ≤ nI (i + 1)
          · simp only [fM_readPicture_208, f293 s4, z26, z27, Option.bind_some, z, if_true, fM_readPicture_224]
          · simp only [fM_readPicture_208, f293 s4, z26, z27, Option.bind_some, z, if_false, fM_readPicture_224]
        have ll : (H ++ [t]).length = H.length + 1 := by rw [List.length_append, List.length_singleton]
        by_cases q2 : i + 1 < n
        · have nle : ¬ nI n ≤ nI (i + 1) := nI_ge q2 (by omega)
          rw [if_neg nle] at body
          dsimp only
          rw [if_pos q2]
          obtain ⟨μ5, g1, g2, g3⟩ := ih (i + 1) (H ++ [t]) μ4 hB4 c4 (by omega) (by omega) z26 z28
          exact ⟨μ5, xwh_go body g1, F4.trans g2, g3⟩
        · have le : nI n ≤ nI (i + 1) := nI_le (by omega) (by omega)
          rw [if_pos le] at body
          dsimp only
          rw [if_neg q2]
          obtain ⟨v, fe⟩ := fin_e hB4 (by omega) z26 z28
          rw [if_pos (show n ≤ i + 1 by omega)] at fe
          have fr5 : Fr W3 μ4 (xsI μ4 293 28 v) := (Fr.refl μ4).s _ (by unfold W3; omega)
          refine ⟨xsI μ4 293 28 v, xwh_go body (xwh_stop ?_), F4.trans (fr5.mono (fun a k z => W3_WQ z)), picM_fr c4 fr5 (fun a k x y => by unfold W3; omega)⟩
          simp only [fM_readPicture_L104, f293 s4, z28, Option.bind_some, xc0T, if_true, fe, Option.map_some]
          rfl
      · rw [if_neg st]
        refine stop ?_
        by_cases t2 : 2 ≤ t
        · obtain ⟨y1, y2⟩ := isName_yes et t2 μ
          obtain ⟨v, w1, w2⟩ := stands_ok hh hq c h4 hR t7
          have v0 : v = xc 0 := w2.elim (fun z => absurd (stB_iff.mpr ⟨t2, z.2⟩) st) (fun z => z.1)
          rw [v0] at w1
          simp only [fM_readPicture_L104, f293 hh, e28, Option.bind_some, xc0T, if_true, xc1F, if_false, he, g293_14 hh, l3, l3', y1, y2, w1, e152]
        · simp only [fM_readPicture_L104, f293 hh, e28, Option.bind_some, xc0T, if_true, xc1F, if_false, he, g293_14 hh, l3, l3', isName_no (fun u hu => by rw [et] at hu; injection hu with hu; omega) μ, e152]
end HEADM
