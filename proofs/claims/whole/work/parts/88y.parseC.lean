section PARSEC
variable {μ : xM} {p n : Nat} {bt : Nat → Int32}
def BtC (μ : xM) (bt : Nat → Int32) (n : Nat) : Prop := Sh μ ∧ n ≤ 24 ∧ xI μ 181 1 = nI n ∧ ∀ j, j < n → xI μ 182 j = bt j
theorem BtC.fr {μ' : xM} {W : Nat → Nat → Prop} (h : BtC μ bt n) (f : Fr W μ μ') (d : ∀ k, ¬ W 181 k ∧ ¬ W 182 k) : BtC μ' bt n := ⟨f.sh h.1, h.2.1, (f.I (d 1).1).trans h.2.2.1, fun j hj => (f.I (d j).2).trans (h.2.2.2 j hj)⟩
theorem isTbl_some {x : Int32} {t : Nat} (h : tbl x = some t) (μ : xM) : x - xc 48 = nI t ∧ fX_isTable (x - xc 48) μ = some (xc 1) := by
  have tl := tbl_lt h
  rcases x_cases x with q | ⟨j, hj, rfl⟩
  · rw [tbl_off q] at h; cases h
  · rw [tbl_n hj] at h
    unfold cdB at h
    split at h
    · injection h with h
      have e : nI j - xc 48 = nI t := by rw [← h]; exact pk_sub (b := 48) (by omega)
      exact ⟨e, by rw [e]; exact isTable_ok t tl μ⟩
    · cases h
theorem isTbl_none {x : Int32} (h : tbl x = none) (μ : xM) : fX_isTable (x - xc 48) μ = some (xc 0) := by
  rcases off_or 3 (by decide) (x - xc 48) with q | ⟨j, hj, e⟩
  · exact isTable_no _ q μ
  · exfalso
    have e2 : x = nI (j + 48) := by
      have : x - xc 48 + xc 48 = nI j + xc 48 := by rw [e]
      rw [Int32.sub_add_cancel] at this
      rw [this]
      exact nI_add j 48
    rw [e2, tbl_n (by omega)] at h
    unfold cdB at h
    rw [if_pos ⟨by omega, by omega⟩] at h
    cases h
theorem termAt_ok (h : BtC μ bt n) {i : Nat} (hi : i < 100) : fT_termAt 181 (nI i) μ = some (rI (trm (at_ bt n i))) := by
  obtain ⟨hh, hn, e1, eb⟩ := h
  unfold at_
  by_cases q : i < n
  · rw [if_pos q]
    have c0 : nI i < nI n := nI_lt q (by omega)
    have l1 : ldA μ 182 (nI i) = some (bt i) := by rw [la182 hh (by omega), eb i q]
    have fin : ∀ x, ldA μ 182 (nI i) = some x → fT_termAt 181 (nI i) μ = some (rI (trm x)) := fun x hx => by
      simp only [fT_termAt, fT_termAt_0, gd181 hh, f181 hh, e1, Option.bind_some, c0, if_true, g181_0 hh, hx]
      rcases x_cases x with z | ⟨j, hj, rfl⟩
      · rw [trm_off z]
        have n1 : ¬ x = xc 48 := fun y => by rw [y] at z; revert z; decide
        have n2 : ¬ x = xc 49 := fun y => by rw [y] at z; revert z; decide
        rw [if_neg n1, if_neg n2]
        unfold fT_termAt_55
        by_cases z1 : x < xc 97
        · rw [if_pos z1]; rfl
        · rw [if_neg z1]
          have z2 : xc 102 ≤ x := by
            rcases z with z | z
            · exact absurd (Int32.lt_trans z (by decide)) z1
            · exact z
          rw [if_pos z2]; rfl
      · rw [trm_n hj]
        unfold cdT fT_termAt_29 fT_termAt_55
        by_cases q1 : j = 48
        · subst q1; rfl
        · have q1' : ¬ nI j = xc 48 := fun y => q1 (nI_inj (b := 48) (by omega) (by decide) y)
          rw [if_neg q1', if_neg q1]
          by_cases q2 : j = 49
          · subst q2; rfl
          · have q2' : ¬ nI j = xc 49 := fun y => q2 (nI_inj (b := 49) (by omega) (by decide) y)
            rw [if_neg q2', if_neg q2]
            by_cases q3 : 97 ≤ j
            · have q3' : ¬ nI j < xc 97 := nI_nlt (b := 97) q3 (by omega)
              have q4' : ¬ xc 102 ≤ nI j := nI_ge (b := 102) hj (by decide)
              have e : (nI j - xc 97) + xc 2 = nI (j - 95) := by
                rw [show nI j - xc 97 = nI (j - 97) from pk_sub (b := 97) (by omega)]
                rw [show xc 2 = nI 2 from rfl, nI_add, show j - 97 + 2 = j - 95 by omega]
              rw [if_neg q3', if_neg q4', if_pos q3, e]
              rfl
            · have q3' : nI j < xc 97 := nI_lt (b := 97) (by omega) (by decide)
              rw [if_pos q3', if_neg q3]
              rfl
    exact fin _ l1
  · rw [if_neg q]
    have c0 : ¬ nI i < nI n := nI_nlt (by omega) (by omega)
    simp only [fT_termAt, fT_termAt_0, gd181 hh, f181 hh, e1, Option.bind_some, c0, if_false]
    rfl
theorem parseRow_ok (h : BtC μ bt n) {i : Nat} (hi : i < 90) (hp : IsPic μ p 4) (hd : p + 5 ≤ 181 ∨ 183 ≤ p) {R : List xRow} (c : PicC μ p (R, [])) (hr : R.length < 4) : (∃ q, pRow bt n i = .inl q ∧ q < 100 ∧ fT_parseRow 181 p (nI i) μ = some (nI q, μ)) ∨ (∃ r, pRow bt n i = .inr r ∧ ∃ μ1, fT_parseRow 181 p (nI i) μ = some (xc (-1), μ1) ∧ Fr (fun b _ => p ≤ b ∧ b < p + 5) μ μ1 ∧ PicC μ1 p (R ++ [r], [])) := by
  have hB := h
  obtain ⟨hh, hn, e1, eb⟩ := h
  have t1 := termAt_ok hB (i := i + 1) (by omega)
  have t2 := termAt_ok hB (i := i + 2) (by omega)
  have i1 : nI i + xc 1 = nI (i + 1) := inc1 i
  have i2 : nI i + xc 2 = nI (i + 2) := nI_add i 2
  have start : fT_parseRow 181 p (nI i) μ = fT_parseRow_21 181 p (nI i) (at_ bt n i - xc 48) μ ∨ (tbl (at_ bt n i) = none ∧ fT_parseRow 181 p (nI i) μ = some (nI i, μ)) := by
    unfold at_
    by_cases q : i < n
    · rw [if_pos q]
      have c0 : ¬ nI n ≤ nI i := nI_ge q (by omega)
      have l1 : ldA μ 182 (nI i) = some (bt i) := by rw [la182 hh (by omega), eb i q]
      left
      simp only [fT_parseRow, fT_parseRow_0, gd181 hh, f181 hh, e1, Option.bind_some, c0, if_false, g181_0 hh, l1]
    · rw [if_neg q]
      have c0 : nI n ≤ nI i := nI_le (by omega) (by omega)
      right
      refine ⟨by decide, ?_⟩
      simp only [fT_parseRow, fT_parseRow_0, gd181 hh, f181 hh, e1, Option.bind_some, c0, if_true, fT_parseRow_21, isTable_no (xc (-1)) (Or.inl (by decide)) μ, xc0T]
  unfold pRow
  rcases start with st | ⟨st1, st2⟩
  · rw [st]
    generalize at_ bt n i = x at *
    cases e : tbl x with
    | none =>
      refine Or.inl ⟨i, rfl, by omega, ?_⟩
      simp only [fT_parseRow_21, isTbl_none e μ, Option.bind_some, xc0T, if_true]
    | some t =>
      obtain ⟨y1, y2⟩ := isTbl_some e μ
      cases e2 : trm (at_ bt n (i + 1)) with
      | none =>
        rw [e2] at t1
        refine Or.inl ⟨i + 1, rfl, by omega, ?_⟩
        simp only [fT_parseRow_21, y2, Option.bind_some, xc1F, if_false, i1, t1, rI, show (0 ≤ xc (-1)) = False from by decide]
      | some a =>
        rw [e2] at t1
        have a7 := trm_lt e2
        have ge1 : (0 : Int32) ≤ nI a := nI_pos' (by omega)
        cases e3 : trm (at_ bt n (i + 2)) with
        | none =>
          rw [e3] at t2
          refine Or.inl ⟨i + 2, rfl, by omega, ?_⟩
          simp only [fT_parseRow_21, y2, Option.bind_some, xc1F, if_false, i1, t1, rI, ge1, if_true, i2, t2, show (0 ≤ xc (-1)) = False from by decide]
        | some b =>
          rw [e3] at t2
          have b7 := trm_lt e3
          have ge2 : (0 : Int32) ≤ nI b := nI_pos' (by omega)
          obtain ⟨μ1, g1, g2, g3⟩ := addRow_ok hp c t a b hr
          refine Or.inr ⟨(t, a, b), rfl, μ1, ?_, g2.mono (fun x k q => by omega), g3⟩
          have y2' : fX_isTable (nI t) μ = some (xc 1) := by rw [← y1]; exact y2
          simp only [fT_parseRow_21, y2', Option.bind_some, xc1F, if_false, i1, t1, rI, ge1, if_true, i2, t2, ge2, y1, g1]
  · rw [st1]
    exact Or.inl ⟨i, rfl, by omega, st2⟩
theorem names_std {P : xPic} {t : Nat} (h2 : 2 ≤ t) : (4 * pnamesB P).testBit t = true ↔ stands P.1 t := by
  have e : (4 * pnamesB P).testBit t = (pnamesB P).testBit (t - 2) := by
    rw [show 4 = 2 ^ 2 from rfl, Nat.testBit_two_pow_mul, decide_eq_true h2, Bool.true_and]
  rw [e]
  constructor
  · intro h
    unfold pnamesB at h
    rw [show (4 : Nat) = 2 ^ 2 from rfl, Nat.testBit_div_two_pow, show t - 2 + 2 = t by omega, orUp_bit] at h
    obtain ⟨i, hi, hb⟩ := h
    rw [Nat.testBit_or, Nat.testBit_two_pow, Nat.testBit_two_pow, Bool.or_eq_true, decide_eq_true_eq, decide_eq_true_eq] at hb
    exact ⟨h2, prow P i, getD_memD hi, hb⟩
  · rintro ⟨_, r, hr, ht⟩
    obtain ⟨i, hi, rfl⟩ := mem_getD (d := (0, 0, 0)) hr
    exact names_bit hi ht h2
theorem parseHead_ok {R : List xRow} (hR : ∀ r, r ∈ R → r.1 < 3 ∧ r.2.1 < 7 ∧ r.2.2 < 7) (h4 : R.length ≤ 4) (s : Nat) (hd : p + 5 ≤ 181 ∨ 183 ≤ p) : ∀ (f i : Nat) (H : List Nat) (μ : xM), BtC μ bt n → IsPic μ p 4 → PicC μ p (R, H) → H.length + f = 3 → i = s + H.length → i < 80 → (i < n ∨ H = []) → i ≤ n → ∃ μ1, xwh (fun z : Int32 × xM => fT_parseHead_L2 181 p (nI s) z.1 z.2) (nI i, μ) = some (rI (pHead bt n R f i H).1, μ1) ∧ Fr (fun b _ => p ≤ b ∧ b < p + 5) μ μ1 ∧ PicC μ1 p (R, (pHead bt n R f i H).2)
  | 0, i, H, μ, hB, hp, c, hf, hs, h80, hin, hle => by
    obtain ⟨hh, hn, e1, eb⟩ := id hB
    have hin' : i < n := hin.resolve_right (fun z => by rw [z] at hf; exact absurd hf (by decide))
    have c0 : ¬ nI n ≤ nI i := nI_ge hin' (by omega)
    have sub : nI i - nI s = nI 3 := by rw [pk_sub (by omega), show i - s = 3 by omega]
    have ta := termAt_ok hB (i := i) (by omega)
    have nm := names_ok hp c h4 (fun k hk => hR _ (getD_memD hk))
    refine ⟨μ, xwh_stop ?_, Fr.refl μ, c⟩
    have e40 : ∀ v s0, fT_parseHead_40 181 p (nI s) (nI i) v s0 μ = some (.inr (nI i, μ)) := fun v s0 => by
      simp only [fT_parseHead_40, sub, show (xc 3 ≤ nI 3) = True from by decide, if_true, fT_parseHead_54, Option.map_some]
    simp only [fT_parseHead_L2, f181 hh, e1, Option.bind_some, c0, if_false, ta, nm, fT_parseHead_39, e40, ite_self]
    rfl
  | f + 1, i, H, μ, hB, hp, c, hf, hs, h80, hin, hle => by
    obtain ⟨hh, hn, e1, eb⟩ := id hB
    unfold pHead
    by_cases q : i < n
    · have c0 : ¬ nI n ≤ nI i := nI_ge q (by omega)
      have sub : nI i - nI s = nI H.length := by rw [pk_sub (by omega), show i - s = H.length by omega]
      have c3 : ¬ xc 3 ≤ nI H.length := nI_ge (b := 3) (by omega) (by decide)
      have ta := termAt_ok hB (i := i) (by omega)
      have nm := names_ok hp c h4 (fun k hk => hR _ (getD_memD hk))
      have no : pName bt n R i = none → fT_parseHead_L2 181 p (nI s) (nI i) μ = some (.inr (nI i, μ)) := fun e => by
        have e40 : ∀ v, fT_parseHead_40 181 p (nI s) (nI i) v (xc 0) μ = some (.inr (nI i, μ)) := fun v => by
          simp only [fT_parseHead_40, sub, c3, if_false, xc0T, if_true, fT_parseHead_54, Option.map_some]
        unfold pName at e
        cases e2 : trm (at_ bt n i) with
        | none =>
          rw [e2] at ta
          simp only [fT_parseHead_L2, f181 hh, e1, Option.bind_some, c0, if_false, ta, rI, show (xc (-1) < xc 2) = True from by decide, if_true, fT_parseHead_39, e40]
        | some t =>
          rw [e2] at ta e
          dsimp only at e
          have t7 := trm_lt e2
          have ns : ¬ stB R t = true := fun z => by rw [if_pos z] at e; cases e
          by_cases z : t < 2
          · have z' : nI t < xc 2 := nI_lt (b := 2) z (by decide)
            simp only [fT_parseHead_L2, f181 hh, e1, Option.bind_some, c0, if_false, ta, rI, z', if_true, fT_parseHead_39, e40]
          · have z' : ¬ nI t < xc 2 := nI_nlt (b := 2) (by omega) (by omega)
            have nb : (4 * pnamesB (R, H)).testBit t = false := Bool.eq_false_iff.mpr (fun y => ns (stB_iff.mpr ((names_std (by omega)).mp y)))
            have lt4 : 4 * pnamesB (R, H) < 2 ^ 31 := by
              have : pnamesB (R, H) < 2 ^ 7 := by
                unfold pnamesB
                refine Nat.lt_of_le_of_lt (Nat.div_le_self _ _) (orUp_lt _ (fun k hk => ?_))
                have := hR _ (getD_memD (d := (0, 0, 0)) hk)
                exact Nat.or_lt_two_pow (Nat.pow_lt_pow_right (by decide) this.2.1) (Nat.pow_lt_pow_right (by decide) this.2.2)
              omega
            have bb := bitAt0 lt4 (r := t) (by omega)
            simp only [fT_parseHead_L2, f181 hh, e1, Option.bind_some, c0, if_false, ta, rI, z', nm, bb, eq_true nb, if_true, fT_parseHead_39, e40]
      cases e : pName bt n R i with
      | none => exact ⟨μ, xwh_stop (no e), Fr.refl μ, c⟩
      | some t =>
        have e' := e
        unfold pName at e'
        cases e2 : trm (at_ bt n i) with
        | none => rw [e2] at e'; cases e'
        | some t' =>
          rw [e2] at ta e'
          dsimp only at e'
          have t7 := trm_lt e2
          by_cases ns : stB R t' = true
          · rw [if_pos ns] at e'
            injection e' with e'
            subst e'
            have st := stB_iff.mp ns
            have t2 := st.1
            have z' : ¬ nI t' < xc 2 := nI_nlt (b := 2) (by omega) (by omega)
            have nb : ¬ (4 * pnamesB (R, H)).testBit t' = false := fun y => by
              have := (names_std (P := (R, H)) t2).mpr st
              rw [y] at this
              exact absurd this (by decide)
            have lt4 : 4 * pnamesB (R, H) < 2 ^ 31 := by
              have : pnamesB (R, H) < 2 ^ 7 := by
                unfold pnamesB
                refine Nat.lt_of_le_of_lt (Nat.div_le_self _ _) (orUp_lt _ (fun k hk => ?_))
                have := hR _ (getD_memD (d := (0, 0, 0)) hk)
                exact Nat.or_lt_two_pow (Nat.pow_lt_pow_right (by decide) this.2.1) (Nat.pow_lt_pow_right (by decide) this.2.2)
              omega
            have bb := bitAt0 lt4 (r := t') (by omega)
            obtain ⟨μ1, g1, g2, g3⟩ := addHead_ok hp c t' (by omega)
            have g2' : Fr (fun b _ => p ≤ b ∧ b < p + 5) μ μ1 := g2.mono (fun b k q => by omega)
            have body : fT_parseHead_L2 181 p (nI s) (nI i) μ = some (.inl (nI (i + 1), μ1)) := by
              simp only [fT_parseHead_L2, f181 hh, e1, Option.bind_some, c0, if_false, ta, rI, z', nm, bb, eq_false nb, fT_parseHead_40, sub, c3, xc1F, g1, inc1]
            have ll : (H ++ [t']).length = H.length + 1 := by rw [List.length_append, List.length_singleton]
            dsimp only
            by_cases q2 : i + 1 < n
            · rw [if_pos q2]
              obtain ⟨μ2, k1, k2, k3⟩ := parseHead_ok hR h4 s hd f (i + 1) (H ++ [t']) μ1 (hB.fr g2' (fun k => by omega)) (g2.pic hp) g3 (by omega) (by omega) (by omega) (Or.inl q2) (by omega)
              exact ⟨μ2, xwh_go body k1, g2'.trans k2, k3⟩
            · rw [if_neg q2]
              refine ⟨μ1, xwh_go body (xwh_stop ?_), g2', g3⟩
              have h1 := g2.sh hh
              have c1 : nI n ≤ nI (i + 1) := nI_le (by omega) (by omega)
              have e1' : xI μ1 181 1 = nI n := (g2'.I (by omega)).trans e1
              have ne : ¬ nI n = nI s := fun z => by
                have := nI_inj (by omega) (by omega) z
                omega
              simp only [fT_parseHead_L2, f181 h1, e1', Option.bind_some, c1, if_true, fT_parseHead_68, ne, if_false, Option.map_some, rI]
          · rw [if_neg ns] at e'; cases e'
    · have hH : H = [] := hin.resolve_left q
      subst hH
      have en : n = i := by omega
      have is : i = s := by rw [hs]; rfl
      have nn : pName bt n R i = none := by
        unfold pName at_
        rw [if_neg q]
        rfl
      rw [nn]
      refine ⟨μ, xwh_stop ?_, Fr.refl μ, c⟩
      have c0 : nI n ≤ nI i := nI_le (by omega) (by omega)
      have ne : nI n = nI s := by rw [en, is]
      simp only [fT_parseHead_L2, f181 hh, e1, Option.bind_some, c0, if_true, fT_parseHead_68, eq_true ne, Option.map_some, rI]
      rw [is]
theorem parseInto_ok (hB : BtC μ bt n) (hp : IsPic μ p 4) (hd : p + 5 ≤ 181 ∨ 183 ≤ p) : ∃ μ1, fT_parseInto 181 p μ = some (rI (pRows bt n 4 0 []).1, μ1) ∧ Fr (fun b _ => p ≤ b ∧ b < p + 5) μ μ1 ∧ PicC μ1 p (pRows bt n 4 0 []).2 := by
  have hh := hB.1
  have hn := hB.2.1
  obtain ⟨μ0, r0, f0, r1, _, _⟩ := clear_ok hp
  have f0' : Fr (fun b _ => p ≤ b ∧ b < p + 5) μ μ0 := f0.mono (fun b k q => by omega)
  have key : ∀ (f i : Nat) (R : List xRow) (μ' : xM), Fr (fun b _ => p ≤ b ∧ b < p + 5) μ μ' → PicC μ' p (R, []) → R.length + f = 4 → i = 4 * R.length → (∀ r, r ∈ R → r.1 < 3 ∧ r.2.1 < 7 ∧ r.2.2 < 7) → ∃ μ1, xwh (fun z : Int32 × Int32 × xM => fT_parseInto_L8 181 p z.1 z.2.1 z.2.2) (nI i, nI R.length, μ') = some (rI (pRows bt n f i R).1, μ1) ∧ Fr (fun b _ => p ≤ b ∧ b < p + 5) μ μ1 ∧ PicC μ1 p (pRows bt n f i R).2 := by
    intro f
    induction f with
    | zero =>
      intro i R μ' fr c hf hi hR
      refine ⟨μ', xwh_stop ?_, fr, c⟩
      have c0 : xc 4 ≤ nI R.length := nI_le (a := 4) (by omega) (by omega)
      simp only [fT_parseInto_L8, c0, if_true, fT_parseInto_84, Option.map_some]
      rfl
    | succ f ih =>
      intro i R μ' fr c hf hi hR
      have hB' := hB.fr fr (fun k => by omega)
      have h' := hB'.1
      have c0 : ¬ xc 4 ≤ nI R.length := nI_ge (b := 4) (by omega) (by decide)
      unfold pRows
      rcases parseRow_ok hB' (i := i) (by omega) (fr.pic hp) hd c (by omega) with ⟨q, e1, e2, e3⟩ | ⟨r, e1, μ1, e2, e3, e4⟩
      · rw [e1]
        refine ⟨μ', xwh_stop ?_, fr, c⟩
        have np : ¬ nI q < 0 := nI_pos (by omega)
        simp only [fT_parseInto_L8, c0, if_false, e3, Option.bind_some, np, fT_parseInto_26, Option.map_some]
        rfl
      · rw [e1]
        have F1 := fr.trans e3
        have hB1 := hB.fr F1 (fun k => by omega)
        obtain ⟨h1, _, l1, b1⟩ := id hB1
        have i3 : nI i + xc 3 = nI (i + 3) := nI_add i 3
        have lr : (R ++ [r]).length = R.length + 1 := by rw [List.length_append, List.length_singleton]
        have hR' : ∀ u, u ∈ R ++ [r] → u.1 < 3 ∧ u.2.1 < 7 ∧ u.2.2 < 7 := fun u hu => by
          rcases List.mem_append.mp hu with z | z
          · exact hR u z
          · rw [List.mem_singleton.mp z]; exact row_lt e1
        dsimp only
        by_cases q1 : n ≤ i + 3
        · rw [if_pos q1]
          refine ⟨μ1, xwh_stop ?_, F1, e4⟩
          have c1 : ¬ nI (i + 3) < nI n := nI_nlt q1 (by omega)
          simp only [fT_parseInto_L8, c0, if_false, e2, Option.bind_some, show (xc (-1) < 0) = True from by decide, if_true, f181 h1, l1, i3, c1, fT_parseInto_40, Option.map_some]
          rfl
        · rw [if_neg q1]
          have c1 : nI (i + 3) < nI n := nI_lt (by omega) (by omega)
          have by3 : ldA μ1 182 (nI (i + 3)) = some (bt (i + 3)) := by rw [la182 h1 (by omega), b1 _ (by omega)]
          have i4 : nI (i + 3) + xc 1 = nI (i + 4) := inc1 (i + 3)
          by_cases q2 : bt (i + 3) = xc 58
          · rw [if_pos q2]
            obtain ⟨μ2, g1, g2, g3⟩ := parseHead_ok hR' (by omega) (i + 4) hd 3 (i + 4) [] μ1 hB1 (F1.pic hp) e4 rfl rfl (by omega) (Or.inr rfl) (by omega)
            refine ⟨μ2, xwh_stop ?_, F1.trans g2, g3⟩
            have ph : fT_parseHead 181 p (nI (i + 4)) μ1 = some (rI (pHead bt n (R ++ [r]) 3 (i + 4) []).1, μ2) := by
              unfold fT_parseHead fT_parseHead_0
              rw [gd181 h1]
              exact g1
            simp only [fT_parseInto_L8, c0, if_false, e2, Option.bind_some, show (xc (-1) < 0) = True from by decide, if_true, f181 h1, l1, i3, c1, g181_0 h1, by3, eq_true q2, fT_parseInto_53, i4, ph, Option.map_some]
          · rw [if_neg q2]
            by_cases q3 : bt (i + 3) = xc 44
            · rw [if_pos q3]
              obtain ⟨μ2, g1, g2, g3⟩ := ih (i + 4) (R ++ [r]) μ1 F1 e4 (by omega) (by omega) hR'
              refine ⟨μ2, xwh_go ?_ g1, g2, g3⟩
              simp only [fT_parseInto_L8, c0, if_false, e2, Option.bind_some, show (xc (-1) < 0) = True from by decide, if_true, f181 h1, l1, i3, c1, g181_0 h1, by3, eq_false q2, eq_true q3, i4, inc1, lr]
            · rw [if_neg q3]
              refine ⟨μ1, xwh_stop ?_, F1, e4⟩
              simp only [fT_parseInto_L8, c0, if_false, e2, Option.bind_some, show (xc (-1) < 0) = True from by decide, if_true, f181 h1, l1, i3, c1, g181_0 h1, by3, eq_false q2, eq_false q3, fT_parseInto_73, Option.map_some]
              rfl
  obtain ⟨μ1, g1, g2, g3⟩ := key 4 0 [] μ0 f0' r1 rfl rfl (fun r hr => absurd hr List.not_mem_nil)
  refine ⟨μ1, ?_, g2, g3⟩
  simp only [fT_parseInto, fT_parseInto_0, gd181 hh, r0, Option.bind_some]
  exact g1
end PARSEC
