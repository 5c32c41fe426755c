/-! answers: the loops, the call -/
theorem orUp_succ (f : Nat → Nat) (n : Nat) : orUp f (n + 1) = orUp f n ||| f n := rfl
theorem PicWf.rows {P : xPic} (h : PicWf P) : RowsIn P 7 := fun i hi => h.row hi
theorem pSub_names {P : xPic} {g : Nat} (hg : g < 32) : pSub (4 * g) (4 * pnamesB P) ↔ g &&& pnamesB P = g := by
  rw [pSub_iff (by omega)]
  constructor
  · intro h
    apply Nat.eq_of_testBit_eq
    intro j
    rw [Nat.testBit_and]
    by_cases q : g.testBit j = true
    · have := h (j + 2) (by rw [show 4 * g = 2 ^ 2 * g from rfl, Nat.testBit_two_pow_mul, decide_eq_true (by omega), Bool.true_and, show j + 2 - 2 = j by omega]; exact q)
      rw [show 4 * pnamesB P = 2 ^ 2 * pnamesB P from rfl, Nat.testBit_two_pow_mul, decide_eq_true (by omega), Bool.true_and, show j + 2 - 2 = j by omega] at this
      rw [this, Bool.and_true]
    · simp only [Bool.not_eq_true] at q
      rw [q, Bool.false_and]
  · intro h j hj
    rw [show 4 * g = 2 ^ 2 * g from rfl, Nat.testBit_two_pow_mul, Bool.and_eq_true, decide_eq_true_eq] at hj
    rw [show 4 * pnamesB P = 2 ^ 2 * pnamesB P from rfl, Nat.testBit_two_pow_mul, decide_eq_true hj.1, Bool.true_and]
    have h2 := hj.2
    rw [← h, Nat.testBit_and, Bool.and_eq_true] at h2
    exact h2.2
theorem pAns_fit {P : xPic} {W : Nat} (hw : PicWf P) : orUp (fun g => if (g &&& pnamesB P = g) ∧ pAll P g W then 2 ^ pheadB P g else 0) 32 = pAns P W := by
  apply Nat.eq_of_testBit_eq
  intro j
  apply Bool.eq_iff_iff.mpr
  rw [pAns_bit, orUp_bit]
  constructor
  · rintro ⟨g, hg, h⟩
    by_cases q : (g &&& pnamesB P = g) ∧ pAll P g W
    · rw [if_pos q, Nat.testBit_two_pow, decide_eq_true_eq] at h
      exact ⟨g, hg, q.2, h⟩
    · rw [if_neg q, Nat.zero_testBit] at h
      exact absurd h (by decide)
  · rintro ⟨g, hg, q, h⟩
    refine ⟨g &&& pnamesB P, Nat.lt_of_le_of_lt Nat.and_le_left hg, ?_⟩
    rw [if_pos ⟨by rw [Nat.and_assoc, Nat.and_self], pall_and.mpr q⟩, phead_and hw, Nat.testBit_two_pow, decide_eq_true h]
section ANS
variable {μ : xM} {p m q : Nat} {P : xPic} {W : Nat}
theorem xans_ok (h : IsPic μ p m) (c : PicC μ p P) (hm : P.1.length ≤ m) (hw : PicWf P) (hW : W < 4096) : fP_answerBy p (nI W) μ = some (nI (pAns P W)) := by
  have hr := hw.rows
  have h3 := hw.2.2.1
  unfold fP_answerBy fP_answerBy_0
  rw [gd_k h.2.2.1, names_ok h c hm hr, Option.bind_some, ← pAns_fit hw]
  refine xwh_for (fun g => (nI (orUp (fun g => if (g &&& pnamesB P = g) ∧ pAll P g W then 2 ^ pheadB P g else 0) g), nI (4 * g))) 32 _ (fun g hg => ?_) ?_ 32 0 (by omega)
  · have e4 : nI (4 * g) + xc 4 = nI (4 * (g + 1)) := nI_add (4 * g) 4
    have or0 : ∀ a : Nat, a ||| 0 = a := fun a => Nat.or_zero a
    have hh8 := pheadB_lt (P := P) (g := g) h3
    have hpb := prowsB_lt (g := g) hr
    unfold fP_answerBy_L10 fP_answerBy_51 fP_fits fP_fits_0
    dsimp only
    rw [if_neg (show ¬ xc 128 ≤ nI (4 * g) from nI_ge (b := 128) (by omega) (by decide)), e4]
    simp only [orUp_succ]
    by_cases f1 : g &&& pnamesB P = g
    · rw [if_pos ((pSub_w (by omega)).mpr ((pSub_names hg).mpr f1)), Option.bind_some, if_neg xc_1_0, rowsBy_ok h c hm hg hr, Option.bind_some]
      by_cases f2 : pAll P g W
      · rw [if_pos ((pSub_w (by omega)).mpr ((pAll_iff hr).mpr f2)), headBy_ok h c h3 hg (fun i hi => (hw.head hi).2), Option.bind_some, nI_bit (by omega), nI_or, if_pos ⟨f1, f2⟩]
      · rw [if_neg (fun w => f2 ((pAll_iff hr).mp ((pSub_w (by omega)).mp w))), if_neg (fun w => f2 w.2), or0]
    · rw [if_neg (fun w => f1 ((pSub_names hg).mp ((pSub_w (by omega)).mp w))), Option.bind_some, if_pos xc_0_0, if_neg (fun w => f1 w.1), or0]
  · unfold fP_answerBy_L10 fP_answerBy_57
    dsimp only
    rw [if_pos (by decide)]
    rfl
theorem picM_r (c : PicM μ q P) {i : Nat} (hi : i < P.1.length) : xI μ 300 (4 * q + i) = nI (prow P i).1 ∧ xI μ 301 (4 * q + i) = nI (prow P i).2.1 ∧ xI μ 302 (4 * q + i) = nI (prow P i).2.2 := c.2.2.1 i hi
theorem mans_98 {g : Nat} {v3 v5 : Int32} (h : Sh μ) (c : PicM μ q P) (hq : q < 16) (hw : PicWf P) (hg : g < 32) (hv : v5 = xc 0 ∨ v5 = xc 1) : fM_answerBy_98 293 (nI q) (nI W) v3 (nI g) v5 μ = some (.inl (v3 ||| (if v5 = xc 0 then nI 0 else nI (2 ^ pheadB P g)), nI (g + 1))) := by
  have h3 := hw.2.2.1
  have hh8 := pheadB_lt (P := P) (g := g) h3
  unfold fM_answerBy_98
  have e3 : ∀ i, (xc 3 * nI q) + nI i = nI (3 * q + i) := fun i => by rw [show xc 3 = nI 3 from rfl, pk_mul, nI_add]
  refine xwh_for (fun i => (nI (orUp (fun i => pval g (P.2.getD i 0) * 2 ^ i) i), nI i)) P.2.length _ (fun i hi => ?_) ?_ P.2.length 0 (by omega)
  · have hv := pval_lt g (P.2.getD i 0)
    have h2 : 2 ^ i ≤ 2 ^ 3 := Nat.pow_le_pow_right (by decide) (by omega)
    have h3 : pval g (P.2.getD i 0) * 2 ^ i ≤ 1 * 2 ^ i := Nat.mul_le_mul_right _ (by omega)
    unfold fM_answerBy_L104
    dsimp only
    rw [g293_14 h, Option.bind_some, la303 h hq, Option.bind_some, c.2.1, if_neg (nI_ge hi (by omega)), g293_15 h, Option.bind_some, e3, la304 h (by omega), Option.bind_some, c.2.2.2 i hi, mvalue g _ hg (hw.head hi).2, Option.bind_some, nI_shl (by omega) (by omega), nI_or, show nI i + xc 1 = nI (i + 1) from nI_add i 1]
    rfl
  · unfold fM_answerBy_L104 fM_answerBy_145 fM_answerBy_159
    dsimp only
    rw [g293_14 h, Option.bind_some, la303 h hq, Option.bind_some, c.2.1, if_pos (Int32.le_refl _), show nI g + xc 1 = nI (g + 1) from nI_add g 1]
    rcases hv with w | w
    · rw [w, if_pos xc_0_0, if_pos rfl]
      rfl
    · rw [w, if_neg xc_1_0, if_neg (show ¬ xc 1 = xc 0 by decide)]
      have e : orUp (fun i => pval g (P.2.getD i 0) * 2 ^ i) P.2.length = pheadB P g := rfl
      rw [e, nI_bit (by omega)]
      rfl
theorem mans_20 {g : Nat} {v3 : Int32} (h : Sh μ) (c : PicM μ q P) (hq : q < 16) (hw : PicWf P) (hg : g < 32) (hW : W < 4096) : xwh (fun s : Int32 × Int32 => fM_answerBy_L20 293 (nI q) (nI W) v3 (nI g) s.1 s.2 μ) (xc 1, (xc 4) * nI q) = some (.inl (v3 ||| nI (if pAll P g W then 2 ^ pheadB P g else 0), nI (g + 1))) := by
  have h4 := hw.2.1
  have e4 : ∀ i, (xc 4 * nI q) + nI i = nI (4 * q + i) := fun i => by rw [show xc 4 = nI 4 from rfl, pk_mul, nI_add]
  have key : ∀ k i, i + k = P.1.length → (∀ j, j < i → W.testBit (pbitOf g (prow P j)) = true) → xwh (fun s : Int32 × Int32 => fM_answerBy_L20 293 (nI q) (nI W) v3 (nI g) s.1 s.2 μ) (xc 1, nI (4 * q + i)) = some (.inl (v3 ||| nI (if pAll P g W then 2 ^ pheadB P g else 0), nI (g + 1))) := by
    intro k
    induction k with
    | zero =>
      intro i hi ha
      have e : i = P.1.length := by omega
      subst e
      apply xwh_stop
      have pa : pAll P g W := ha
      unfold fM_answerBy_L20
      dsimp only
      rw [g293_10 h, Option.bind_some, la299 h hq, Option.bind_some, c.1, e4, if_pos (Int32.le_refl _), mans_98 h c hq hw hg (Or.inr rfl), if_neg (show ¬ xc 1 = xc 0 by decide), if_pos pa]
      rfl
    | succ k ih =>
      intro i hi ha
      have il : i < P.1.length := by omega
      have hr := hw.row il
      have hb := pbitOf_lt (g := g) hr.1
      have eb : ((xc 4 * nI (prow P i).1) + (xc 2 * nI (pval g (prow P i).2.1))) + nI (pval g (prow P i).2.2) = nI (pbitOf g (prow P i)) := by
        unfold pbitOf
        rw [show xc 4 = nI 4 from rfl, show xc 2 = nI 2 from rfl, pk_mul, pk_mul, nI_add, nI_add, Nat.add_assoc]
      have st : fM_answerBy_L20 293 (nI q) (nI W) v3 (nI g) (xc 1) (nI (4 * q + i)) μ = some (.inl (if W.testBit (pbitOf g (prow P i)) = true then xc 1 else xc 0, nI (4 * q + (i + 1)))) := by
        unfold fM_answerBy_L20 fM_answerBy_90
        rw [g293_10 h, Option.bind_some, la299 h hq, Option.bind_some, c.1, e4, if_neg (nI_ge (by omega) (by omega)), if_neg xc_1_0, g293_11 h, Option.bind_some, la300 h (by omega), Option.bind_some, (picM_r c il).1, g293_12 h, Option.bind_some, la301 h (by omega), Option.bind_some, (picM_r c il).2.1, mvalue g _ hg hr.2.1, Option.bind_some, g293_13 h, Option.bind_some, la302 h (by omega), Option.bind_some, (picM_r c il).2.2, mvalue g _ hg hr.2.2, Option.bind_some, eb, nI_bitAt (by omega) (by omega), show nI (4 * q + i) + xc 1 = nI (4 * q + (i + 1)) from nI_add _ 1]
        by_cases w : W.testBit (pbitOf g (prow P i)) = true
        · rw [if_pos w, if_pos rfl]
        · rw [if_neg w, if_neg (by decide)]
      by_cases w : W.testBit (pbitOf g (prow P i)) = true
      · rw [if_pos w] at st
        refine xwh_go st (ih (i + 1) (by omega) (fun j hj => ?_))
        by_cases e : j = i
        · rw [e]; exact w
        · exact ha j (by omega)
      · rw [if_neg w] at st
        have pa : ¬ pAll P g W := fun a => w (a i il)
        refine xwh_go st (xwh_stop ?_)
        unfold fM_answerBy_L20
        dsimp only
        rw [g293_10 h, Option.bind_some, la299 h hq, Option.bind_some, c.1, e4, mans_98 h c hq hw hg (Or.inl rfl), if_pos (show xc 0 = 0 from rfl), if_pos (show xc 0 = xc 0 from rfl), if_neg pa, ite_self]
        rfl
  have := key P.1.length 0 (by omega) (fun j hj => absurd hj (by omega))
  rw [Nat.add_zero] at this
  rw [show xc 4 * nI q = nI (4 * q) from pk_mul 4 q]
  exact this
theorem mans_ok (h : Sh μ) (c : PicM μ q P) (hq : q < 16) (hw : PicWf P) (hW : W < 4096) : fM_answerBy 293 (nI q) (nI W) μ = some (nI (pAns P W)) := by
  unfold fM_answerBy fM_answerBy_0
  rw [gd293 h]
  refine xwh_for (fun g => (nI (orUp (fun g => if pAll P g W then 2 ^ pheadB P g else 0) g), nI g)) 32 _ (fun g hg => ?_) ?_ 32 0 (by omega)
  · unfold fM_answerBy_L5
    dsimp only
    rw [if_neg (show ¬ xc 32 ≤ nI g from nI_ge (b := 32) hg (by decide)), mans_20 h c hq hw hg hW, nI_or]
    rfl
  · unfold fM_answerBy_L5 fM_answerBy_167
    dsimp only
    rw [if_pos (by decide)]
    rfl
end ANS
theorem world_now0 : ∀ a, a < 64 → ∀ b, b < 64 → (nI ((64 * a + b) / 16 ^ 0 % 16) ||| (nI ((64 * a + b) / 16 ^ 1 % 16) <<< ((xc 4) &&& 31))) ||| (nI ((64 * a + b) / 16 ^ 2 % 16) <<< ((xc 8) &&& 31)) = nI (64 * a + b) := by decide +kernel
theorem world_now {μ : xM} {T K : Nat} (h : Sh μ) (ht : HT μ T K) (hT : T < 4096) : fM_worldNow 293 μ = some (nI T) := by
  have := world_now0 (T / 64) (by omega) (T % 64) (by omega)
  rw [show 64 * (T / 64) + T % 64 = T by omega] at this
  unfold fM_worldNow fM_worldNow_0
  rw [gd293 h, g293_0 h, Option.bind_some, show xc 0 = nI 0 from rfl, la294 h (by decide), Option.bind_some, Option.bind_some, show xc 1 = nI 1 from rfl, la294 h (by decide), Option.bind_some, Option.bind_some, show xc 2 = nI 2 from rfl, la294 h (by decide), Option.bind_some, (ht 0 (by decide)).1, (ht 1 (by decide)).1, (ht 2 (by decide)).1, this]
