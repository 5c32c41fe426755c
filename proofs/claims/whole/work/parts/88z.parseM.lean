section PARSEM
variable {μ : xM} {q n i : Nat} {bt : Nat → Int32}
def WQ (q a k : Nat) : Prop := a = 293 ∧ (k = 26 ∨ k = 28) ∨ (a = 299 ∨ a = 303) ∧ k = q ∨ (300 ≤ a ∧ a ≤ 302) ∧ 4 * q ≤ k ∧ k < 4 * q + 4 ∨ a = 304 ∧ 3 * q ≤ k ∧ k < 3 * q + 3
def W3 (a k : Nat) : Prop := a = 293 ∧ (k = 26 ∨ k = 28)
theorem W3_WQ {a k : Nat} (h : W3 a k) : WQ q a k := by unfold W3 at h; unfold WQ; omega
def BtM (μ : xM) (bt : Nat → Int32) (n : Nat) : Prop := Sh μ ∧ n ≤ 24 ∧ xI μ 293 27 = nI n ∧ ∀ j, j < n → xI μ 298 j = bt j
theorem BtM.fr {μ' : xM} {W : Nat → Nat → Prop} (h : BtM μ bt n) (f : Fr W μ μ') (d : ¬ W 293 27 ∧ ∀ k, ¬ W 298 k) : BtM μ' bt n := ⟨f.sh h.1, h.2.1, (f.I d.1).trans h.2.2.1, fun j hj => (f.I (d.2 j)).trans (h.2.2.2 j hj)⟩
theorem picM_fr {μ' : xM} {P : xPic} {W : Nat → Nat → Prop} (c : PicM μ q P) (f : Fr W μ μ') (d : ∀ a k, 299 ≤ a → a ≤ 304 → ¬ W a k) : PicM μ' q P := c.fr (fun a k q r => f.I (d a k q r))
theorem here_ok (h : BtM μ bt n) (hi : i < 100) (e : xI μ 293 26 = nI i) : fM_here 293 μ = some (at_ bt n i) := by
  obtain ⟨hh, hn, e27, eb⟩ := h
  unfold at_
  by_cases z : i < n
  · rw [if_pos z]
    have c0 : nI i < nI n := nI_lt z (by omega)
    simp only [fM_here, fM_here_0, gd293 hh, f293 hh, e, e27, Option.bind_some, c0, if_true, g293_6 hh, la298 hh (show i < 24 by omega), eb i z]
  · rw [if_neg z]
    have c0 : ¬ nI i < nI n := nI_nlt (by omega) (by omega)
    simp only [fM_here, fM_here_0, gd293 hh, f293 hh, e, e27, Option.bind_some, c0, if_false]
theorem isName_yes {x : Int32} {t : Nat} (h : trm x = some t) (h2 : 2 ≤ t) (μ : xM) : fM_isName x μ = some (xc 1) ∧ (x - xc 97) + xc 2 = nI t := by
  rcases x_cases x with z | ⟨j, hj, rfl⟩
  · rw [trm_off z] at h; cases h
  · rw [trm_n hj] at h
    unfold cdT at h
    split at h
    · injection h with h; omega
    · split at h
      · injection h with h; omega
      · split at h
        · rename_i q3
          injection h with h
          have q3' : ¬ nI j < xc 97 := nI_nlt (b := 97) q3 (by omega)
          have q4' : ¬ xc 101 < nI j := nI_nlt (a := 101) (by omega) (by decide)
          refine ⟨by simp only [fM_isName, fM_isName_0, q3', q4', if_false], ?_⟩
          rw [show nI j - xc 97 = nI (j - 97) from pk_sub (b := 97) (by omega), show xc 2 = nI 2 from rfl, nI_add, ← h, show j - 97 + 2 = j - 95 by omega]
        · cases h
theorem isName_no {x : Int32} (h : ∀ t, trm x = some t → t < 2) (μ : xM) : fM_isName x μ = some (xc 0) := by
  rcases x_cases x with z | ⟨j, hj, rfl⟩
  · by_cases z1 : x < xc 97
    · simp only [fM_isName, fM_isName_0, z1, if_true, fM_isName_16]
    · have z2 : xc 101 < x := by
        rcases z with z | z
        · exact absurd (Int32.lt_trans z (by decide)) z1
        · exact Int32.lt_of_lt_of_le (show xc 101 < nI 102 by decide) z
      simp only [fM_isName, fM_isName_0, z1, if_false, z2, if_true, fM_isName_16]
  · by_cases q3 : 97 ≤ j
    · have := h (j - 95) (by rw [trm_n hj]; unfold cdT; rw [if_neg (by omega), if_neg (by omega), if_pos q3])
      omega
    · have q3' : nI j < xc 97 := nI_lt (b := 97) (by omega) (by decide)
      simp only [fM_isName, fM_isName_0, q3', if_true, fM_isName_16]
theorem xc_sub48 {x : Int32} {t : Nat} (h : trm x = some t) (h2 : t < 2) : (x = xc 48 ∨ x = xc 49) ∧ x - xc 48 = nI t := by
  rcases x_cases x with z | ⟨j, hj, rfl⟩
  · rw [trm_off z] at h; cases h
  · rw [trm_n hj] at h
    unfold cdT at h
    split at h
    · rename_i e
      injection h with h
      subst h
      subst e
      exact ⟨Or.inl rfl, by decide⟩
    · split at h
      · rename_i e
        injection h with h
        subst h
        subst e
        exact ⟨Or.inr rfl, by decide⟩
      · split at h
        · injection h with h; omega
        · cases h
theorem xc_no48 {x : Int32} (h : trm x = none) : ¬ x = xc 48 ∧ ¬ x = xc 49 := by
  constructor
  · rintro rfl
    exact absurd h (by decide)
  · rintro rfl
    exact absurd h (by decide)
/-- a term is read -/
theorem readTerm_ok (h : BtM μ bt n) (hi : i < 100) (e : xI μ 293 26 = nI i) (e28 : xI μ 293 28 = xc 0) : (∃ t, trm (at_ bt n i) = some t ∧ ∃ μ1, fM_readTerm 293 μ = some (nI t, μ1) ∧ Fr W3 μ μ1 ∧ xI μ1 293 26 = nI (i + 1) ∧ xI μ1 293 28 = xc 0) ∨ (trm (at_ bt n i) = none ∧ ∃ v μ1, fM_readTerm 293 μ = some (v, μ1) ∧ Fr W3 μ μ1 ∧ xI μ1 293 26 = nI i ∧ xI μ1 293 28 = xc 1) := by
  have hh := h.1
  have he := here_ok h hi e
  generalize at_ bt n i = x at he ⊢
  have s1 : ∀ v, Sh (xsI μ 293 28 v) := fun v => hh
  have go : ∀ v t, (fM_isName v (xsI (xsI μ 293 28 (xc 0)) 293 26 (nI (i + 1))) = some (xc 1) ∧ (v - xc 97) + xc 2 = nI t ∨ fM_isName v (xsI (xsI μ 293 28 (xc 0)) 293 26 (nI (i + 1))) = some (xc 0) ∧ v - xc 48 = nI t) → fM_readTerm_36 293 v 293 μ = some (nI t, xsI (xsI μ 293 28 (xc 0)) 293 26 (nI (i + 1))) := fun v t hv => by
    have v26 : xI (xsI μ 293 28 (xc 0)) 293 26 = nI i := (xI_ne (by omega)).trans e
    have v28 : xI (xsI μ 293 28 (xc 0)) 293 28 = xc 0 := xI_eq _ _ _ _
    rcases hv with ⟨a, b⟩ | ⟨a, b⟩
    · simp only [fM_readTerm_36, fM_readTerm_37, fz293 hh 28 (show xc 0 = 0 ∨ xc 0 = 1 from Or.inl rfl), Option.bind_some, f293 (s1 (xc 0)), v26, v28, xc0T, if_true, fM_readTerm_57, inc1, fs293 (s1 (xc 0)), a, xc1F, if_false, b]
    · simp only [fM_readTerm_36, fM_readTerm_37, fz293 hh 28 (show xc 0 = 0 ∨ xc 0 = 1 from Or.inl rfl), Option.bind_some, f293 (s1 (xc 0)), v26, v28, xc0T, if_true, fM_readTerm_57, inc1, fs293 (s1 (xc 0)), a, b]
  have fr0 : Fr W3 μ (xsI (xsI μ 293 28 (xc 0)) 293 26 (nI (i + 1))) := ((Fr.refl μ).s _ (by unfold W3; omega)).s _ (by unfold W3; omega)
  cases ht : trm x with
  | some t =>
    left
    refine ⟨t, rfl, xsI (xsI μ 293 28 (xc 0)) 293 26 (nI (i + 1)), ?_, fr0, xI_eq _ _ _ _, (xI_ne (by omega)).trans (xI_eq _ _ _ _)⟩
    by_cases t2 : 2 ≤ t
    · have g := go x t (Or.inl (isName_yes ht t2 _))
      simp only [fM_readTerm, fM_readTerm_0, gd293 hh, he, Option.bind_some, f293 hh, e28, xc0T, if_true, (isName_yes ht t2 μ).1, xc1F, if_false, g]
    · have nn : ∀ z, fM_isName x z = some (xc 0) := fun z => isName_no (fun u hu => by rw [ht] at hu; injection hu with hu; omega) z
      obtain ⟨y1, y2⟩ := xc_sub48 ht (by omega)
      have g := go x t (Or.inr ⟨nn _, y2⟩)
      by_cases y3 : x = xc 48
      · simp only [fM_readTerm, fM_readTerm_0, gd293 hh, he, Option.bind_some, f293 hh, e28, xc0T, if_true, nn, eq_true y3, g]
      · simp only [fM_readTerm, fM_readTerm_0, gd293 hh, he, Option.bind_some, f293 hh, e28, xc0T, if_true, nn, eq_false y3, eq_true (y1.resolve_left y3), if_false, g]
  | none =>
    right
    have nn : ∀ z, fM_isName x z = some (xc 0) := fun z => isName_no (fun u hu => by rw [ht] at hu; cases hu) z
    obtain ⟨y1, y2⟩ := xc_no48 ht
    have v26 : xI (xsI μ 293 28 (xc 1)) 293 26 = nI i := (xI_ne (by omega)).trans e
    have v28 : xI (xsI μ 293 28 (xc 1)) 293 28 = xc 1 := xI_eq _ _ _ _
    refine ⟨rfl, x - xc 48, xsI (xsI μ 293 28 (xc 1)) 293 26 (nI i), ?_, ((Fr.refl μ).s _ (by unfold W3; omega)).s _ (by unfold W3; omega), xI_eq _ _ _ _, (xI_ne (by omega)).trans (xI_eq _ _ _ _)⟩
    have e0 : nI i + xc 0 = nI i := nI_add i 0
    simp only [fM_readTerm, fM_readTerm_0, gd293 hh, he, Option.bind_some, f293 hh, e28, xc0T, if_true, nn, eq_false y1, eq_false y2, if_false, fM_readTerm_32, fM_readTerm_37, fz293 hh 28 (show xc 1 = 0 ∨ xc 1 = 1 from Or.inr rfl), f293 (s1 (xc 1)), v26, v28, xc1F, fM_readTerm_57, e0, fs293 (s1 (xc 1))]
theorem readTerm_f (h : BtM μ bt n) (hi : i < 100) (e : xI μ 293 26 = nI i) (e28 : xI μ 293 28 = xc 1) : ∃ v μ1, fM_readTerm 293 μ = some (v, μ1) ∧ Fr W3 μ μ1 ∧ xI μ1 293 26 = nI i ∧ xI μ1 293 28 = xc 1 := by
  have hh := h.1
  have he := here_ok h hi e
  generalize at_ bt n i = x at he ⊢
  have s1 : Sh (xsI μ 293 28 (xc 1)) := hh
  have v26 : xI (xsI μ 293 28 (xc 1)) 293 26 = nI i := (xI_ne (by omega)).trans e
  have v28 : xI (xsI μ 293 28 (xc 1)) 293 28 = xc 1 := xI_eq _ _ _ _
  have e0 : nI i + xc 0 = nI i := nI_add i 0
  have isn : ∃ r, fM_isName x (xsI (xsI μ 293 28 (xc 1)) 293 26 (nI i)) = some r := by
    unfold fM_isName fM_isName_0 fM_isName_16
    split
    · exact ⟨_, rfl⟩
    · split
      · exact ⟨_, rfl⟩
      · exact ⟨_, rfl⟩
  obtain ⟨r, hr⟩ := isn
  refine ⟨if r = 0 then x - xc 48 else (x - xc 97) + xc 2, xsI (xsI μ 293 28 (xc 1)) 293 26 (nI i), ?_, ((Fr.refl μ).s _ (by unfold W3; omega)).s _ (by unfold W3; omega), xI_eq _ _ _ _, (xI_ne (by omega)).trans (xI_eq _ _ _ _)⟩
  have pre : fM_readTerm 293 μ = fM_readTerm_57 x (xc 0) (nI i) 293 (xsI μ 293 28 (xc 1)) := by
    simp only [fM_readTerm, fM_readTerm_0, gd293 hh, he, Option.bind_some, f293 hh, e28, xc1F, if_false, fM_readTerm_32, fM_readTerm_37, fz293 hh 28 (show xc 1 = 0 ∨ xc 1 = 1 from Or.inr rfl), f293 s1, v26, v28]
  rw [pre]
  unfold fM_readTerm_57
  rw [e0, fs293 s1, Option.bind_some, hr, Option.bind_some]
  by_cases z : r = 0
  · rw [if_pos z, if_pos z]
  · rw [if_neg z, if_neg z]
theorem tbl_in (x : Int32) : (x < nI 48 ∨ nI 50 < x) ↔ tbl x = none := by
  rcases x_cases x with z | ⟨j, hj, rfl⟩
  · rw [tbl_off z]
    refine ⟨fun _ => rfl, fun _ => z.imp (fun y => Int32.lt_trans y (by decide)) (fun y => Int32.lt_of_lt_of_le (show nI 50 < nI 102 by decide) y)⟩
  · rw [tbl_n hj]
    unfold cdB
    by_cases w : 48 ≤ j ∧ j ≤ 50
    · rw [if_pos w]
      exact ⟨fun y => y.elim (fun y => absurd y (nI_nlt w.1 (by omega))) (fun y => absurd y (nI_nlt w.2 (by omega))), fun y => by cases y⟩
    · rw [if_neg w]
      refine ⟨fun _ => rfl, fun _ => ?_⟩
      by_cases w1 : 48 ≤ j
      · exact Or.inr (nI_lt (by omega) (by omega))
      · exact Or.inl (nI_lt (by omega) (by omega))
/-- a row is read -/
theorem readRow_ok (h : BtM μ bt n) (hi : i < 80) (e : xI μ 293 26 = nI i) (e28 : xI μ 293 28 = xc 0) (hq : q < 16) {R : List xRow} (c : PicM μ q (R, [])) (hR : R.length ≤ 4) : ∃ μ1, fM_readRow 293 (nI q) μ = some μ1 ∧ Fr (WQ q) μ μ1 ∧ BtM μ1 bt n ∧ ((R.length < 4 ∧ ∃ r, pRow bt n i = .inr r ∧ xI μ1 293 28 = xc 0 ∧ xI μ1 293 26 = nI (i + 3) ∧ PicM μ1 q (R ++ [r], [])) ∨ ∃ j, j < 100 ∧ (R.length = 4 ∧ j = i ∨ R.length < 4 ∧ pRow bt n i = .inl j) ∧ xI μ1 293 28 = xc 1 ∧ xI μ1 293 26 = nI j ∧ PicM μ1 q (R, [])) := by
  have hh := h.1
  have he := here_ok h (by omega) e
  have lr : ldA μ 299 (nI q) = some (nI R.length) := by rw [la299 hh hq, c.1]
  have dBt : ¬ W3 293 27 ∧ ∀ k, ¬ W3 298 k := ⟨by unfold W3; omega, fun k => by unfold W3; omega⟩
  -- a fault of the table or a fifth row
  have bad : (R.length = 4 ∨ R.length < 4 ∧ tbl (at_ bt n i) = none) → ∃ μ1, fM_readRow_30 293 (nI q) (at_ bt n i) 293 μ = some μ1 ∧ Fr (WQ q) μ μ1 ∧ BtM μ1 bt n ∧ ∃ j, j < 100 ∧ (R.length = 4 ∧ j = i ∨ R.length < 4 ∧ pRow bt n i = .inl j) ∧ xI μ1 293 28 = xc 1 ∧ xI μ1 293 26 = nI j ∧ PicM μ1 q (R, []) := fun hb => by
    have s1 : Sh (xsI μ 293 28 (xc 1)) := hh
    have v26 : xI (xsI μ 293 28 (xc 1)) 293 26 = nI i := (xI_ne (by omega)).trans e
    have v28 : xI (xsI μ 293 28 (xc 1)) 293 28 = xc 1 := xI_eq _ _ _ _
    have e0 : nI i + xc 0 = nI i := nI_add i 0
    have fr0 : Fr W3 μ (xsI (xsI μ 293 28 (xc 1)) 293 26 (nI i)) := ((Fr.refl μ).s _ (by unfold W3; omega)).s _ (by unfold W3; omega)
    have hB0 := h.fr fr0 dBt
    obtain ⟨v, μ1, a1, a2, a3, a4⟩ := readTerm_f hB0 (show i < 100 by omega) (xI_eq _ _ _ _) ((xI_ne (by omega)).trans (xI_eq _ _ _ _))
    have hB1 := hB0.fr a2 dBt
    obtain ⟨v', μ2, b1, b2, b3, b4⟩ := readTerm_f hB1 (show i < 100 by omega) a3 a4
    have h2 := b2.sh hB1.1
    have F := (fr0.trans a2).trans b2
    refine ⟨μ2, ?_, F.mono (fun a k z => W3_WQ z), h.fr F dBt, i, by omega, hb.imp (fun z => ⟨z, rfl⟩) (fun z => ⟨z.1, by unfold pRow; rw [z.2]⟩), b4, b3, picM_fr c F (fun a k x y => by unfold W3; omega)⟩
    simp only [fM_readRow_30, fM_readRow_35, fz293 hh 28 (show xc 1 = 0 ∨ xc 1 = 1 from Or.inr rfl), Option.bind_some, f293 s1, v26, v28, xc1F, if_false, fM_readRow_55, e0, fs293 s1, a1, b1, f293 h2, b4]
  have i8 : ∀ x, fM_isIn (Int32.toInt64 x) (Int64.ofNat 48) (Int64.ofNat 50) μ = some (if x < nI 48 ∨ nI 50 < x then xc 0 else xc 1) := fun x => isIn_n x 48 50 (by decide) (by decide) μ
  by_cases r4 : R.length = 4
  · obtain ⟨μ1, g1, g2, g3, g4⟩ := bad (Or.inl r4)
    refine ⟨μ1, ?_, g2, g3, Or.inr g4⟩
    simp only [fM_readRow, fM_readRow_0, gd293 hh, he, Option.bind_some, g293_10 hh, lr, eq_true (show nI R.length = xc 4 by rw [r4]; rfl), if_true, g1]
  · have r4' : ¬ nI R.length = xc 4 := fun z => r4 (nI_inj (b := 4) (by omega) (by decide) z)
    cases et : tbl (at_ bt n i) with
    | none =>
      obtain ⟨μ1, g1, g2, g3, g4⟩ := bad (Or.inr ⟨by omega, et⟩)
      refine ⟨μ1, ?_, g2, g3, Or.inr g4⟩
      simp only [fM_readRow, fM_readRow_0, gd293 hh, he, Option.bind_some, g293_10 hh, lr, eq_false r4', if_false, i8, eq_true ((tbl_in _).mpr et), if_true, xc0T, g1]
    | some t =>
      have nin : ¬ (at_ bt n i < nI 48 ∨ nI 50 < at_ bt n i) := fun z => by rw [tbl_in, et] at z; cases z
      have start : fM_readRow 293 (nI q) μ = fM_readRow_35 293 (nI q) (at_ bt n i) (xc 0) 293 μ := by
        simp only [fM_readRow, fM_readRow_0, gd293 hh, he, Option.bind_some, g293_10 hh, lr, eq_false r4', if_false, i8, eq_false nin, xc1F]
      have s1 : Sh (xsI μ 293 28 (xc 0)) := hh
      have v26 : xI (xsI μ 293 28 (xc 0)) 293 26 = nI i := (xI_ne (by omega)).trans e
      have v28 : xI (xsI μ 293 28 (xc 0)) 293 28 = xc 0 := xI_eq _ _ _ _
      have fr0 : Fr W3 μ (xsI (xsI μ 293 28 (xc 0)) 293 26 (nI (i + 1))) := ((Fr.refl μ).s _ (by unfold W3; omega)).s _ (by unfold W3; omega)
      have hB0 := h.fr fr0 dBt
      have z26 : xI (xsI (xsI μ 293 28 (xc 0)) 293 26 (nI (i + 1))) 293 26 = nI (i + 1) := xI_eq _ _ _ _
      have z28 : xI (xsI (xsI μ 293 28 (xc 0)) 293 26 (nI (i + 1))) 293 28 = xc 0 := (xI_ne (by omega)).trans (xI_eq _ _ _ _)
      have st2 : ∀ μ3 v3 v2 μ2, fM_readTerm 293 (xsI (xsI μ 293 28 (xc 0)) 293 26 (nI (i + 1))) = some (v2, μ2) → fM_readTerm 293 μ2 = some (v3, μ3) → fM_readRow_35 293 (nI q) (at_ bt n i) (xc 0) 293 μ = (ldF μ3 293 9 28).bind fun x4 => if x4 = 0 then ((ldFR μ3 293 9 10).bind fun x5 => (ldA μ3 x5 (nI q)).bind fun x6 => (ldFR μ3 293 9 11).bind fun x7 => (stA μ3 x7 (((xc 4) * nI q) + x6) (at_ bt n i - (xc 48))).bind fun μ8 => (ldFR μ8 293 9 12).bind fun x9 => (stA μ8 x9 (((xc 4) * nI q) + x6) v2).bind fun μ10 => (ldFR μ10 293 9 13).bind fun x11 => (stA μ10 x11 (((xc 4) * nI q) + x6) v3).bind fun μ12 => (ldFR μ12 293 9 10).bind fun x13 => (ldA μ12 x13 (nI q)).bind fun x14 => (stA μ12 x13 (nI q) (x14 + (xc 1))).bind fun μ15 => some μ15) else (some μ3) := fun μ3 v3 v2 μ2 y1 y2 => by
        simp only [fM_readRow_35, fz293 hh 28 (show xc 0 = 0 ∨ xc 0 = 1 from Or.inl rfl), Option.bind_some, f293 s1, v26, v28, xc0T, if_true, fM_readRow_55, inc1, fs293 s1, y1, y2]
      rcases readTerm_ok hB0 (i := i + 1) (by omega) z26 z28 with ⟨a, a1, μ2, a2, a3, a4, a5⟩ | ⟨a1, v, μ2, a2, a3, a4, a5⟩
      · have hB2 := hB0.fr a3 dBt
        rcases readTerm_ok hB2 (i := i + 1 + 1) (by omega) a4 a5 with ⟨b, b1, μ3, b2, b3, b4, b5⟩ | ⟨b1, v, μ3, b2, b3, b4, b5⟩
        · have F := (fr0.trans a3).trans b3
          have hB3 := hB2.fr b3 dBt
          have h3 := hB3.1
          have c3 := picM_fr c F (fun a k x y => by unfold W3; omega)
          have ix : (xc 4 * nI q) + nI R.length = nI (4 * q + R.length) := by rw [show xc 4 = nI 4 from rfl, pk_mul, nI_add]
          have l3 : ldA μ3 299 (nI q) = some (nI R.length) := by rw [la299 h3 hq, c3.1]
          have tx := (isTbl_some et μ).1
          have k1 : Sh (xsI μ3 300 (4 * q + R.length) (nI t)) := h3
          have k2 : Sh (xsI (xsI μ3 300 (4 * q + R.length) (nI t)) 301 (4 * q + R.length) (nI a)) := h3
          have k3 : Sh (xsI (xsI (xsI μ3 300 (4 * q + R.length) (nI t)) 301 (4 * q + R.length) (nI a)) 302 (4 * q + R.length) (nI b)) := h3
          have l4 : ldA (xsI (xsI (xsI μ3 300 (4 * q + R.length) (nI t)) 301 (4 * q + R.length) (nI a)) 302 (4 * q + R.length) (nI b)) 299 (nI q) = some (nI R.length) := by
            rw [la299 k3 hq, xI_ne (by omega), xI_ne (by omega), xI_ne (by omega), c3.1]
          have F4 : Fr (WQ q) μ (xsI (xsI (xsI (xsI μ3 300 (4 * q + R.length) (nI t)) 301 (4 * q + R.length) (nI a)) 302 (4 * q + R.length) (nI b)) 299 q (nI (R.length + 1))) := (((((F.mono (fun a k z => W3_WQ z))).s _ (by unfold WQ; omega)).s _ (by unfold WQ; omega)).s _ (by unfold WQ; omega)).s _ (by unfold WQ; omega)
          refine ⟨xsI (xsI (xsI (xsI μ3 300 (4 * q + R.length) (nI t)) 301 (4 * q + R.length) (nI a)) 302 (4 * q + R.length) (nI b)) 299 q (nI (R.length + 1)), ?_, F4, ⟨h3, h.2.1, ?_, fun j hj => ?_⟩, Or.inl ⟨by omega, (t, a, b), ?_, ?_, ?_, ?_, ?_, fun k hk => ?_, fun k hk => absurd hk (Nat.not_lt_zero k)⟩⟩
          · rw [start, st2 μ3 (nI b) (nI a) μ2 a2 b2]
            simp only [f293 h3, b5, Option.bind_some, xc0T, if_true, g293_10 h3, l3, g293_11 h3, ix, tx, sa300 h3 _ (show 4 * q + R.length < 64 by omega), g293_12 k1, sa301 k1 _ (show 4 * q + R.length < 64 by omega), g293_13 k2, sa302 k2 _ (show 4 * q + R.length < 64 by omega), g293_10 k3, l4, inc1, sa299 k3 _ hq]
          · simp (disch := omega) only [xI_ne]; exact hB3.2.2.1
          · simp (disch := omega) only [xI_ne]; exact hB3.2.2.2 j hj
          · unfold pRow
            rw [et, a1, b1]
          · simp (disch := omega) only [xI_ne]; exact b5
          · simp (disch := omega) only [xI_ne]; exact b4
          · rw [xI_eq, List.length_append]; rfl
          · simp (disch := omega) only [xI_ne]; exact c3.2.1
          · rw [List.length_append] at hk
            have hk' : k < R.length + 1 := hk
            dsimp only
            by_cases z : k = R.length
            · subst z
              rw [getD_app_r]
              refine ⟨?_, ?_, ?_⟩ <;> simp (disch := omega) only [xI_ne, xI_eq]
            · have hl : k < R.length := by omega
              rw [getD_app_l hl]
              have c4 := c3.2.2.1 k hl
              dsimp only at c4
              refine ⟨?_, ?_, ?_⟩
              · simp (disch := omega) only [xI_ne]; exact c4.1
              · simp (disch := omega) only [xI_ne]; exact c4.2.1
              · simp (disch := omega) only [xI_ne]; exact c4.2.2
        · have F := (fr0.trans a3).trans b3
          have hB3 := hB2.fr b3 dBt
          refine ⟨μ3, ?_, F.mono (fun a k z => W3_WQ z), hB3, Or.inr ⟨i + 2, by omega, Or.inr ⟨by omega, by unfold pRow; rw [et, a1]; dsimp only; rw [b1]⟩, b5, b4, picM_fr c F (fun a k x y => by unfold W3; omega)⟩⟩
          rw [start, st2 μ3 v (nI a) μ2 a2 b2]
          simp only [f293 hB3.1, b5, Option.bind_some, xc1F, if_false]
      · have hB2 := hB0.fr a3 dBt
        obtain ⟨v', μ3, b2, b3, b4, b5⟩ := readTerm_f hB2 (i := i + 1) (by omega) a4 a5
        have F := (fr0.trans a3).trans b3
        have hB3 := hB2.fr b3 dBt
        refine ⟨μ3, ?_, F.mono (fun a k z => W3_WQ z), hB3, Or.inr ⟨i + 1, by omega, Or.inr ⟨by omega, by unfold pRow; rw [et, a1]⟩, b5, b4, picM_fr c F (fun a k x y => by unfold W3; omega)⟩⟩
        rw [start, st2 μ3 v' v μ2 a2 b2]
        simp only [f293 hB3.1, b5, Option.bind_some, xc1F, if_false]
end PARSEM
