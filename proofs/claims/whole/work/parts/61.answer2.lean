/-! answers of pictures: class and reference -/
theorem xc_m1 : xc (-1) = nI 4294967295 := by decide
abbrev pSub (a b : Nat) : Prop := a &&& (b ^^^ 4294967295) = 0
theorem pSub_w {a b : Nat} (ha : a < 2 ^ 31) : (nI a &&& (nI b ^^^ xc (-1)) = 0) ↔ pSub a b := by
  unfold pSub
  rw [xc_m1, nI_xor, nI_and, ← nI_0, nI_eq (Nat.lt_of_le_of_lt Nat.and_le_left ha) (by decide)]
theorem pSub_iff {a b : Nat} (ha : a < 2 ^ 32) : pSub a b ↔ ∀ j, a.testBit j = true → b.testBit j = true := by
  have hm : (4294967295 : Nat) = 2 ^ 32 - 1 := by decide
  unfold pSub
  constructor
  · intro h j hj
    have h2 : (a &&& (b ^^^ 4294967295)).testBit j = false := by rw [h, Nat.zero_testBit]
    have hj32 : j < 32 := by
      by_cases q : j < 32
      · exact q
      · rw [Nat.testBit_lt_two_pow (Nat.lt_of_lt_of_le ha (Nat.pow_le_pow_right (by decide) (Nat.not_lt.mp q)))] at hj
        exact absurd hj (by decide)
    rw [Nat.testBit_and, hj, Bool.true_and, Nat.testBit_xor, hm, Nat.testBit_two_pow_sub_one, decide_eq_true hj32] at h2
    simpa using h2
  · intro h
    apply Nat.eq_of_testBit_eq
    intro j
    rw [Nat.zero_testBit, Nat.testBit_and]
    by_cases q : a.testBit j = true
    · have hj32 : j < 32 := by
        by_cases q2 : j < 32
        · exact q2
        · rw [Nat.testBit_lt_two_pow (Nat.lt_of_lt_of_le ha (Nat.pow_le_pow_right (by decide) (Nat.not_lt.mp q2)))] at q
          exact absurd q (by decide)
      rw [Nat.testBit_xor, h j q, hm, Nat.testBit_two_pow_sub_one, decide_eq_true hj32]
      simp
    · simp only [Bool.not_eq_true] at q
      rw [q, Bool.false_and]
abbrev pAll (P : xPic) (g W : Nat) : Prop := ∀ i, i < P.1.length → W.testBit (pbitOf g (prow P i)) = true
theorem prowsB_lt {P : xPic} {g B : Nat} (hr : RowsIn P B) : prowsB P g < 2 ^ 12 := orUp_lt _ (fun i hi => Nat.pow_lt_pow_right (by decide) (pbitOf_lt (hr i hi).1))
theorem pAll_iff {P : xPic} {g W B : Nat} (hr : RowsIn P B) : pSub (prowsB P g) W ↔ pAll P g W := by
  rw [pSub_iff (Nat.lt_of_lt_of_le (prowsB_lt hr) (by decide))]
  unfold prowsB pAll
  constructor
  · intro h i hi
    exact h _ ((orUp_bit _ _ _).mpr ⟨i, hi, by rw [Nat.testBit_two_pow, decide_eq_true rfl]⟩)
  · intro h j hj
    obtain ⟨i, hi, h2⟩ := (orUp_bit _ _ _).mp hj
    rw [Nat.testBit_two_pow, decide_eq_true_eq] at h2
    rw [← h2]
    exact h i hi
section PANS

/-- the answer of a picture by rows W, as bits -/
def pAns (P : xPic) (W : Nat) : Nat := orUp (fun g => if pAll P g W then 2 ^ pheadB P g else 0) 32
theorem pheadB_lt {P : xPic} {g : Nat} (hm : P.2.length ≤ 3) : pheadB P g < 8 := by
  have : pheadB P g < 2 ^ 3 := orUp_lt _ (fun i hi => by
    have hv := pval_lt g (P.2.getD i 0)
    have h2 : 2 ^ i ≤ 2 ^ 2 := Nat.pow_le_pow_right (by decide) (by omega)
    have h3 : pval g (P.2.getD i 0) * 2 ^ i ≤ 1 * 2 ^ i := Nat.mul_le_mul_right _ (by omega)
    omega)
  exact this
theorem pAns_lt {P : xPic} {W : Nat} (hm : P.2.length ≤ 3) : pAns P W < 256 := by
  have : pAns P W < 2 ^ 8 := orUp_lt _ (fun g _ => by
    by_cases h : pAll P g W
    · rw [if_pos h]
      exact Nat.pow_lt_pow_right (by decide) (pheadB_lt hm)
    · rw [if_neg h]
      decide)
  exact this
theorem pAns_bit {P : xPic} {W j : Nat} : (pAns P W).testBit j = true ↔ ∃ g, g < 32 ∧ pAll P g W ∧ pheadB P g = j := by
  unfold pAns
  rw [orUp_bit]
  constructor
  · rintro ⟨g, hg, h⟩
    by_cases q : pAll P g W
    · rw [if_pos q, Nat.testBit_two_pow, decide_eq_true_eq] at h
      exact ⟨g, hg, q, h⟩
    · rw [if_neg q, Nat.zero_testBit] at h
      exact absurd h (by decide)
  · rintro ⟨g, hg, q, h⟩
    exact ⟨g, hg, by rw [if_pos q, Nat.testBit_two_pow, decide_eq_true h]⟩
/-- a name of the rows -/
theorem names_bit {P : xPic} {t i : Nat} (hi : i < P.1.length) (ht : (prow P i).2.1 = t ∨ (prow P i).2.2 = t) (h2 : 2 ≤ t) : (pnamesB P).testBit (t - 2) = true := by
  unfold pnamesB
  rw [show (4 : Nat) = 2 ^ 2 from rfl, Nat.testBit_div_two_pow, show t - 2 + 2 = t by omega]
  refine (orUp_bit _ _ _).mpr ⟨i, hi, ?_⟩
  rw [Nat.testBit_or, Nat.testBit_two_pow, Nat.testBit_two_pow, Bool.or_eq_true, decide_eq_true_eq, decide_eq_true_eq]
  exact ht
theorem pval_and {g N t : Nat} (h : 2 ≤ t → N.testBit (t - 2) = true) : pval (g &&& N) t = pval g t := by
  unfold pval
  by_cases q : t < 2
  · rw [if_pos q, if_pos q]
  · rw [if_neg q, if_neg q, div_mod2, div_mod2, Nat.testBit_and, h (by omega), Bool.and_true]
theorem pall_and {P : xPic} {g W : Nat} : pAll P (g &&& pnamesB P) W ↔ pAll P g W := by
  unfold pAll pbitOf
  constructor
  · intro h i hi
    have := h i hi
    rw [pval_and (fun q => names_bit hi (Or.inl rfl) q), pval_and (fun q => names_bit hi (Or.inr rfl) q)] at this
    exact this
  · intro h i hi
    rw [pval_and (fun q => names_bit hi (Or.inl rfl) q), pval_and (fun q => names_bit hi (Or.inr rfl) q)]
    exact h i hi
theorem phead_and {P : xPic} {g : Nat} (hw : PicWf P) : pheadB P (g &&& pnamesB P) = pheadB P g := by
  unfold pheadB
  refine orUp_congr _ (fun i hi => ?_)
  rw [pval_and (fun q => ?_)]
  rw [List.getD_eq_getElem?_getD, List.getElem?_eq_getElem hi] at q ⊢
  obtain ⟨_, _, r, hr, h2⟩ := hw.2.2.2.2 _ (List.getElem_mem hi)
  obtain ⟨k, hk, rfl⟩ := List.getElem_of_mem hr
  refine names_bit (i := k) hk ?_ q
  unfold prow
  rw [List.getD_eq_getElem?_getD, List.getElem?_eq_getElem hk]
  exact h2
end PANS
