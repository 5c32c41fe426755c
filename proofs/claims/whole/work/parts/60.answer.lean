/-! answers of pictures: bits put together -/
def orUp (f : Nat → Nat) : Nat → Nat
  | 0 => 0
  | i + 1 => orUp f i ||| f i
theorem orUp_bit (f : Nat → Nat) (j : Nat) : ∀ n, (orUp f n).testBit j = true ↔ ∃ i, i < n ∧ (f i).testBit j = true
  | 0 => by
    unfold orUp
    rw [Nat.zero_testBit]
    exact ⟨fun h => absurd h (by decide), fun ⟨i, h, _⟩ => absurd h (by omega)⟩
  | n + 1 => by
    unfold orUp
    rw [Nat.testBit_or, Bool.or_eq_true, orUp_bit f j n]
    constructor
    · rintro (⟨i, h1, h2⟩ | h)
      · exact ⟨i, by omega, h2⟩
      · exact ⟨n, by omega, h⟩
    · rintro ⟨i, h1, h2⟩
      by_cases e : i = n
      · exact Or.inr (e ▸ h2)
      · exact Or.inl ⟨i, by omega, h2⟩
theorem orUp_lt {f : Nat → Nat} {k : Nat} : ∀ n, (∀ i, i < n → f i < 2 ^ k) → orUp f n < 2 ^ k
  | 0, _ => Nat.two_pow_pos k
  | n + 1, h => Nat.or_lt_two_pow (orUp_lt n (fun i hi => h i (by omega))) (h n (by omega))
theorem orUp_congr {f g : Nat → Nat} : ∀ n, (∀ i, i < n → f i = g i) → orUp f n = orUp g n
  | 0, _ => rfl
  | n + 1, h => by
    unfold orUp
    rw [orUp_congr n (fun i hi => h i (by omega)), h n (by omega)]
/-- a term's value, as names are given -/
def pval (g t : Nat) : Nat := if t < 2 then t else g / 2 ^ (t - 2) % 2
theorem pval_lt (g t : Nat) : pval g t < 2 := by
  unfold pval
  split
  · assumption
  · exact Nat.mod_lt _ (by decide)
def prow (P : xPic) (i : Nat) : xRow := P.1.getD i (0, 0, 0)
def pbitOf (g : Nat) (r : xRow) : Nat := 4 * r.1 + (2 * pval g r.2.1 + pval g r.2.2)
def prowsB (P : xPic) (g : Nat) : Nat := orUp (fun i => 2 ^ pbitOf g (prow P i)) P.1.length
def pheadB (P : xPic) (g : Nat) : Nat := orUp (fun i => pval g (P.2.getD i 0) * 2 ^ i) P.2.length
def pnamesB (P : xPic) : Nat := orUp (fun i => 2 ^ (prow P i).2.1 ||| 2 ^ (prow P i).2.2) P.1.length / 4
theorem PicWf.row {P : xPic} (h : PicWf P) {i : Nat} (hi : i < P.1.length) : (prow P i).1 < 3 ∧ (prow P i).2.1 < 7 ∧ (prow P i).2.2 < 7 := by
  unfold prow
  rw [List.getD_eq_getElem?_getD, List.getElem?_eq_getElem hi]
  exact h.2.2.2.1 _ (List.getElem_mem hi)
theorem PicWf.head {P : xPic} (h : PicWf P) {i : Nat} (hi : i < P.2.length) : 2 ≤ P.2.getD i 0 ∧ P.2.getD i 0 < 7 := by
  rw [List.getD_eq_getElem?_getD, List.getElem?_eq_getElem hi]
  have := h.2.2.2.2 _ (List.getElem_mem hi)
  exact ⟨this.1, this.2.1⟩
theorem xvalue (g t : Nat) (hg : g < 32) (ht : t < 7) (μ : xM) : fP_valueOf (nI t) (nI (4 * g)) μ = some (nI (pval g t)) := by
  unfold fP_valueOf fP_valueOf_0 pval
  by_cases h : t < 2
  · rw [if_neg (show ¬ xc 2 ≤ nI t from nI_ge (b := 2) h (by decide)), if_pos h]
  · rw [if_pos (show xc 2 ≤ nI t from nI_le (a := 2) (by omega) (by omega)), if_neg h, nI_shr (by omega) (by omega), nI_and1 (Nat.lt_of_le_of_lt (Nat.div_le_self _ _) (by omega))]
    have e : 2 ^ t = 4 * 2 ^ (t - 2) := by
      obtain ⟨k, rfl⟩ : ∃ k, t = k + 2 := ⟨t - 2, by omega⟩
      rw [show k + 2 - 2 = k by omega, Nat.pow_add, Nat.mul_comm]
    rw [e, Nat.mul_div_mul_left _ _ (by decide)]
theorem mvalue (g t : Nat) (hg : g < 32) (ht : t < 7) (μ : xM) : fM_valueOf (nI t) (nI g) μ = some (nI (pval g t)) := by
  unfold fM_valueOf fM_valueOf_0 pval
  by_cases h : t < 2
  · rw [if_neg (show ¬ xc 2 ≤ nI t from nI_ge (b := 2) h (by decide)), if_pos h]
  · rw [if_pos (show xc 2 ≤ nI t from nI_le (a := 2) (by omega) (by omega)), if_neg h, show nI t - xc 2 = nI (t - 2) from pk_sub (b := 2) (by omega), nI_shr (by omega) (by omega), nI_and1 (Nat.lt_of_le_of_lt (Nat.div_le_self _ _) (by omega))]
section PICB
variable {μ : xM} {p m : Nat} {P : xPic}
theorem IsPic.rowCount (h : IsPic μ p m) (c : PicC μ p P) : ldF μ p 5 0 = some (nI P.1.length) := by rw [ldF_k (ci := 5) 0 h.2.2.1, c.1]
theorem IsPic.headLen (h : IsPic μ p m) (c : PicC μ p P) : ldF μ p 5 4 = some (nI P.2.length) := by rw [ldF_k (ci := 5) 4 h.2.2.1, c.2.1]
theorem IsPic.t (h : IsPic μ p m) (c : PicC μ p P) (hm : P.1.length ≤ m) {i : Nat} (hi : i < P.1.length) : (ldFR μ p 5 1).bind (fun x => ldA μ x (nI i)) = some (nI (prow P i).1) := by
  have := h.2.1
  rw [ldFR_k (ci := 5) h.2.2.1 h.2.2.2.2.2.2.2.1, Option.bind_some, ldA_k h.2.2.2.2.1 (by omega) (by omega), (c.2.2.1 i hi).1]
  rfl
theorem pic_t (h : IsPic μ p m) : ldFR μ p 5 1 = some (p + 2) := ldFR_k (ci := 5) h.2.2.1 h.2.2.2.2.2.2.2.1
theorem pic_a (h : IsPic μ p m) : ldFR μ p 5 2 = some (p + 3) := ldFR_k (ci := 5) h.2.2.1 h.2.2.2.2.2.2.2.2.1
theorem pic_b (h : IsPic μ p m) : ldFR μ p 5 3 = some (p + 4) := ldFR_k (ci := 5) h.2.2.1 h.2.2.2.2.2.2.2.2.2.1
theorem pic_h (h : IsPic μ p m) : ldFR μ p 5 5 = some (p + 1) := ldFR_k (ci := 5) h.2.2.1 h.2.2.2.2.2.2.2.2.2.2
theorem pic_tv (h : IsPic μ p m) (c : PicC μ p P) (hm : P.1.length ≤ m) {i : Nat} (hi : i < P.1.length) : ldA μ (p + 2) (nI i) = some (nI (prow P i).1) := by
  have := h.2.1
  rw [ldA_k h.2.2.2.2.1 (by omega) (by omega), (c.2.2.1 i hi).1]
  rfl
theorem pic_av (h : IsPic μ p m) (c : PicC μ p P) (hm : P.1.length ≤ m) {i : Nat} (hi : i < P.1.length) : ldA μ (p + 3) (nI i) = some (nI (prow P i).2.1) := by
  have := h.2.1
  rw [ldA_k h.2.2.2.2.2.1 (by omega) (by omega), (c.2.2.1 i hi).2.1]
  rfl
theorem pic_bv (h : IsPic μ p m) (c : PicC μ p P) (hm : P.1.length ≤ m) {i : Nat} (hi : i < P.1.length) : ldA μ (p + 4) (nI i) = some (nI (prow P i).2.2) := by
  have := h.2.1
  rw [ldA_k h.2.2.2.2.2.2.1 (by omega) (by omega), (c.2.2.1 i hi).2.2]
  rfl
theorem pic_hv (h : IsPic μ p m) (c : PicC μ p P) (hm : P.2.length ≤ 3) {i : Nat} (hi : i < P.2.length) : ldA μ (p + 1) (nI i) = some (nI (P.2.getD i 0)) := by
  rw [ldA_k h.2.2.2.1 (by omega) (by omega), c.2.2.2 i hi]
/-- rows of a picture in given bounds -/
def RowsIn (P : xPic) (B : Nat) : Prop := ∀ i, i < P.1.length → (prow P i).1 < 3 ∧ (prow P i).2.1 < B ∧ (prow P i).2.2 < B
theorem names_ok (h : IsPic μ p m) (c : PicC μ p P) (hm : P.1.length ≤ m) (hr : RowsIn P 7) : fP_names p μ = some (nI (4 * pnamesB P)) := by
  have hm12 := h.2.1
  have b7 : ∀ t, t < 7 → 2 ^ t < 2 ^ 7 := fun t ht => Nat.pow_lt_pow_right (by decide) ht
  have bf : ∀ i, i < P.1.length → 2 ^ (prow P i).2.1 ||| 2 ^ (prow P i).2.2 < 2 ^ 7 := fun i hi => Nat.or_lt_two_pow (b7 _ (hr i hi).2.1) (b7 _ (hr i hi).2.2)
  unfold fP_names fP_names_0
  rw [gd_k h.2.2.1]
  refine xwh_for (fun i => (nI (orUp (fun i => 2 ^ (prow P i).2.1 ||| 2 ^ (prow P i).2.2) i), nI i)) P.1.length _ (fun i hi => ?_) ?_ P.1.length 0 (by omega)
  · unfold fP_names_L4
    dsimp only
    rw [h.rowCount c, Option.bind_some, if_neg (nI_ge hi (by omega)), pic_a h, Option.bind_some, pic_av h c hm hi, Option.bind_some, pic_b h, Option.bind_some, pic_bv h c hm hi, Option.bind_some, nI_bit (by have := (hr i hi).2.1; omega), nI_bit (by have := (hr i hi).2.2; omega), nI_or, nI_or, show nI i + xc 1 = nI (i + 1) from nI_add i 1]
    rfl
  · have hl := orUp_lt (k := 7) P.1.length bf
    unfold fP_names_L4 fP_names_38
    dsimp only
    rw [h.rowCount c, Option.bind_some, if_pos (Int32.le_refl _), show xc 2 = nI 2 from rfl, nI_shr (by omega) (by decide), nI_shl (by decide) (by omega)]
    unfold pnamesB
    rw [Nat.mul_comm 4]
    rfl
theorem headBy_ok {g : Nat} (h : IsPic μ p m) (c : PicC μ p P) (hm : P.2.length ≤ 3) (hg : g < 32) (hh : ∀ i, i < P.2.length → P.2.getD i 0 < 7) : fP_headBy p (nI (4 * g)) μ = some (nI (pheadB P g)) := by
  unfold fP_headBy fP_headBy_0 pheadB
  rw [gd_k h.2.2.1]
  refine xwh_for (fun i => (nI (orUp (fun i => pval g (P.2.getD i 0) * 2 ^ i) i), nI i)) P.2.length _ (fun i hi => ?_) ?_ P.2.length 0 (by omega)
  · have hv := pval_lt g (P.2.getD i 0)
    have h2 : 2 ^ i ≤ 2 ^ 3 := Nat.pow_le_pow_right (by decide) (by omega)
    have h3 : pval g (P.2.getD i 0) * 2 ^ i ≤ 1 * 2 ^ i := Nat.mul_le_mul_right _ (by omega)
    unfold fP_headBy_L4
    dsimp only
    rw [h.headLen c, Option.bind_some, if_neg (nI_ge hi (by omega)), pic_h h, Option.bind_some, pic_hv h c hm hi, Option.bind_some, xvalue g _ hg (hh i hi), Option.bind_some, nI_shl (by omega) (by omega), nI_or, show nI i + xc 1 = nI (i + 1) from nI_add i 1]
    rfl
  · unfold fP_headBy_L4 fP_headBy_33
    dsimp only
    rw [h.headLen c, Option.bind_some, if_pos (Int32.le_refl _)]
    rfl
theorem pbitOf_lt {g : Nat} {r : xRow} (h : r.1 < 3) : pbitOf g r < 12 := by
  have h1 := pval_lt g r.2.1
  have h2 := pval_lt g r.2.2
  unfold pbitOf
  omega
theorem rowsBy_ok {g : Nat} (h : IsPic μ p m) (c : PicC μ p P) (hm : P.1.length ≤ m) (hg : g < 32) (hr : RowsIn P 7) : fP_rowsBy p (nI (4 * g)) μ = some (nI (prowsB P g)) := by
  have hm12 := h.2.1
  unfold fP_rowsBy fP_rowsBy_0 prowsB
  rw [gd_k h.2.2.1]
  refine xwh_for (fun i => (nI (orUp (fun i => 2 ^ pbitOf g (prow P i)) i), nI i)) P.1.length _ (fun i hi => ?_) ?_ P.1.length 0 (by omega)
  · have hb := pbitOf_lt (g := g) (hr i hi).1
    unfold fP_rowsBy_L4
    dsimp only
    rw [h.rowCount c, Option.bind_some, if_neg (nI_ge hi (by omega)), pic_t h, Option.bind_some, pic_tv h c hm hi, Option.bind_some, pic_a h, Option.bind_some, pic_av h c hm hi, Option.bind_some, xvalue g _ hg (hr i hi).2.1, Option.bind_some, pic_b h, Option.bind_some, pic_bv h c hm hi, Option.bind_some, xvalue g _ hg (hr i hi).2.2, Option.bind_some, rowBit_ok, Option.bind_some, show nI i + xc 1 = nI (i + 1) from nI_add i 1]
    rw [nI_bit (show 4 * (prow P i).1 + (2 * pval g (prow P i).2.1 + pval g (prow P i).2.2) < 32 from by unfold pbitOf at hb; omega), nI_or]
    rfl
  · unfold fP_rowsBy_L4 fP_rowsBy_52
    dsimp only
    rw [h.rowCount c, Option.bind_some, if_pos (Int32.le_refl _)]
    rfl
end PICB
