/-! words: shifts, bits, comparisons of small numbers -/
theorem nI_xor {a b : Nat} : nI a ^^^ nI b = nI (a ^^^ b) := by
  apply Int32.toBitVec_inj.mp
  show BitVec.ofNat 32 a ^^^ BitVec.ofNat 32 b = BitVec.ofNat 32 (a ^^^ b)
  exact (BitVec.ofNat_xor).symm
theorem nI_or {a b : Nat} : nI a ||| nI b = nI (a ||| b) := by
  apply Int32.toBitVec_inj.mp
  show BitVec.ofNat 32 a ||| BitVec.ofNat 32 b = BitVec.ofNat 32 (a ||| b)
  exact (BitVec.ofNat_or).symm
theorem nI_and {a b : Nat} : nI a &&& nI b = nI (a &&& b) := by
  apply Int32.toBitVec_inj.mp
  show BitVec.ofNat 32 a &&& BitVec.ofNat 32 b = BitVec.ofNat 32 (a &&& b)
  exact (BitVec.ofNat_and).symm
theorem sh31 : ∀ r : Nat, r < 32 → ((nI r &&& 31).toBitVec.smod 32).toNat = r := by decide +kernel
theorem nI_shr {n r : Nat} (h : n < 2 ^ 31) (hr : r < 32) : nI n >>> (nI r &&& 31) = nI (n / 2 ^ r) := pk_shrN h _ r (sh31 r hr)
theorem nI_shl {n r : Nat} (hr : r < 32) (h : n * 2 ^ r < 2 ^ 32) : nI n <<< (nI r &&& 31) = nI (n * 2 ^ r) := pk_shlN _ r (sh31 r hr) h
theorem nI_bit {r : Nat} (hr : r < 32) : (xc 1) <<< (nI r &&& 31) = nI (2 ^ r) := by
  have h : 1 * 2 ^ r < 2 ^ 32 := by rw [Nat.one_mul]; exact Nat.pow_lt_pow_right (by decide) hr
  have := nI_shl (n := 1) hr h
  rw [Nat.one_mul] at this
  exact this
theorem nI_and1 {n : Nat} (h : n < 2 ^ 31) : nI n &&& xc 1 = nI (n % 2) := pk_andN (by omega) 1 (by decide)
theorem div_mod2 (n r : Nat) : n / 2 ^ r % 2 = if n.testBit r then 1 else 0 := by
  rw [Nat.testBit_eq_decide_div_mod_eq]
  rcases Nat.mod_two_eq_zero_or_one (n / 2 ^ r) with h | h <;> simp [h]
theorem nI_bitAt {n r : Nat} (h : n < 2 ^ 31) (hr : r < 32) : (nI n >>> (nI r &&& 31)) &&& xc 1 = if n.testBit r then xc 1 else xc 0 := by
  rw [nI_shr h hr, nI_and1 (Nat.lt_of_le_of_lt (Nat.div_le_self _ _) h), div_mod2]
  by_cases q : n.testBit r = true
  · rw [if_pos q, if_pos q]; rfl
  · rw [if_neg q, if_neg q]; rfl
theorem xc_1_0 : ¬ xc 1 = 0 := by decide
theorem xc_0_0 : xc 0 = 0 := rfl
theorem lt_toInt {a b : Int32} : a < b ↔ a.toInt < b.toInt := Int32.lt_iff_toInt_lt
theorem le_toInt {a b : Int32} : a ≤ b ↔ a.toInt ≤ b.toInt := Int32.le_iff_toInt_le
theorem lg_lt {a b : Int64} : lg_cmp a b < 0 ↔ a < b := by
  unfold lg_cmp
  split
  · rename_i h
    exact ⟨fun q => absurd q (by decide), fun q => absurd (Int64.lt_trans h q) Int64.lt_irrefl⟩
  · rename_i h
    split
    · rename_i h2
      subst h2
      exact ⟨fun q => absurd q (by decide), fun q => absurd q Int64.lt_irrefl⟩
    · rename_i h2
      exact ⟨fun _ => Int64.lt_of_le_of_ne (Int64.not_lt.mp h) h2, fun _ => by decide⟩
theorem lg_gt {a b : Int64} : 0 < lg_cmp a b ↔ b < a := by
  unfold lg_cmp
  split
  · rename_i h; exact ⟨fun _ => h, fun _ => by decide⟩
  · rename_i h
    split <;> exact ⟨fun q => absurd q (by decide), fun q => absurd q h⟩
theorem isIn_eq (v lo hi : Int64) (μ : xM) : fM_isIn v lo hi μ = some (if v < lo ∨ hi < v then xc 0 else xc 1) := by
  unfold fM_isIn fM_isIn_0 fM_isIn_17
  by_cases h : v < lo
  · rw [if_pos (lg_lt.mpr h), if_pos (Or.inl h)]
  · rw [if_neg (fun q => h (lg_lt.mp q))]
    by_cases h2 : hi < v
    · rw [if_pos (lg_gt.mpr h2), if_pos (Or.inr h2)]
    · rw [if_neg (fun q => h2 (lg_gt.mp q)), if_neg (fun q => q.elim h h2)]
/-- the reference's 'is in', low a small number, high another -/
theorem isIn_n (a : Int32) (lo hi : Nat) (hlo : lo < 2 ^ 31) (hhi : hi < 2 ^ 31) (μ : xM) : fM_isIn (Int32.toInt64 a) (Int64.ofNat lo) (Int64.ofNat hi) μ = some (if a < nI lo ∨ nI hi < a then xc 0 else xc 1) := by
  rw [isIn_eq]
  congr 1
  have e1 : Int32.toInt64 a < Int64.ofNat lo ↔ a < nI lo := by
    rw [Int64.lt_iff_toInt_lt, Int32.toInt_toInt64, lt_toInt, nI_toInt hlo]
    rw [show (Int64.ofNat lo).toInt = lo from pk_lT (by omega)]
  have e2 : Int64.ofNat hi < Int32.toInt64 a ↔ nI hi < a := by
    rw [Int64.lt_iff_toInt_lt, Int32.toInt_toInt64, lt_toInt, nI_toInt hhi]
    rw [show (Int64.ofNat hi).toInt = hi from pk_lT (by omega)]
  simp only [e1, e2]
theorem isIn_b (a b : Int32) (μ : xM) : fM_isIn (Int32.toInt64 a) (Int64.ofNat 0) (Int32.toInt64 b) μ = some (if a < 0 ∨ b < a then xc 0 else xc 1) := by
  rw [isIn_eq]
  congr 1
  have e1 : Int32.toInt64 a < Int64.ofNat 0 ↔ a < 0 := by
    rw [Int64.lt_iff_toInt_lt, Int32.toInt_toInt64, lt_toInt]
    rw [show (Int64.ofNat 0).toInt = 0 from rfl, show (0 : Int32).toInt = 0 from rfl]
  have e2 : Int32.toInt64 b < Int32.toInt64 a ↔ b < a := by
    rw [Int64.lt_iff_toInt_lt, Int32.toInt_toInt64, Int32.toInt_toInt64, lt_toInt]
  simp only [e1, e2]
theorem nIm1_lt {n : Nat} (hn : n < 2 ^ 30) (a : Int32) : nI n - xc 1 < a ↔ nI n ≤ a := by
  rw [lt_toInt, le_toInt, show xc 1 = nI 1 from rfl, pk_sub_toInt hn (by decide), nI_toInt (by omega)]
  omega
/-- what is no number below n -/
def Off (n : Nat) (a : Int32) : Prop := a < 0 ∨ nI n ≤ a
theorem off_or (n : Nat) (hn : n < 2 ^ 31) (a : Int32) : Off n a ∨ ∃ j, j < n ∧ a = nI j := by
  rcases pk_ix a hn with h | h | h
  · exact Or.inl (Or.inl h)
  · exact Or.inl (Or.inr h)
  · exact Or.inr h
theorem off_not {n j : Nat} (hn : n < 2 ^ 31) (hj : j < n) : ¬ (nI j < 0 ∨ nI n ≤ nI j) := fun q => q.elim (nI_pos (by omega)) (nI_ge hj hn)
section ASK
variable {μ : xM} {n j : Nat} {a : Int32}
theorem xask_no (h : Sh μ) (e : xI μ 3 2 = nI n) (ha : Off n a) : fX_isAsk 2 a μ = some (xc 0) := by
  unfold fX_isAsk fX_isAsk_0 fX_isAsk_19
  rw [gd2 h]
  by_cases q : a < 0
  · rw [if_pos q]
  · rw [if_neg q, g2_0 h, Option.bind_some, f3 h, Option.bind_some, e, if_pos (ha.resolve_left q)]
theorem xask_yes (h : Sh μ) (e : xI μ 3 2 = nI n) (hn : n < 2 ^ 30) (hj : j < n) : fX_isAsk 2 (nI j) μ = some (xc 1) := by
  unfold fX_isAsk fX_isAsk_0 fX_isAsk_19
  rw [gd2 h, if_neg (nI_pos (by omega)), g2_0 h, Option.bind_some, f3 h, Option.bind_some, e, if_neg (nI_ge hj (by omega))]
theorem xview_no (h : Sh μ) (e : xI μ 3 3 = nI n) (ha : Off n a) : fX_isView 2 a μ = some (xc 0) := by
  unfold fX_isView fX_isView_0 fX_isView_19
  rw [gd2 h]
  by_cases q : a < 0
  · rw [if_pos q]
  · rw [if_neg q, g2_0 h, Option.bind_some, f3 h, Option.bind_some, e, if_pos (ha.resolve_left q)]
theorem xview_yes (h : Sh μ) (e : xI μ 3 3 = nI n) (hn : n < 2 ^ 30) (hj : j < n) : fX_isView 2 (nI j) μ = some (xc 1) := by
  unfold fX_isView fX_isView_0 fX_isView_19
  rw [gd2 h, if_neg (nI_pos (by omega)), g2_0 h, Option.bind_some, f3 h, Option.bind_some, e, if_neg (nI_ge hj (by omega))]
theorem mask_no (h : Sh μ) (e : xI μ 293 8 = nI n) (hn : n < 2 ^ 30) (ha : Off n a) : fM_isAsk 293 a μ = some (xc 0) := by
  unfold fM_isAsk fM_isAsk_0
  rw [gd293 h, f293 h, Option.bind_some, e, isIn_b, Option.bind_some, if_pos (ha.imp id (nIm1_lt hn a).mpr)]
  rfl
theorem mask_yes (h : Sh μ) (e : xI μ 293 8 = nI n) (hn : n < 2 ^ 30) (hj : j < n) : fM_isAsk 293 (nI j) μ = some (xc 1) := by
  unfold fM_isAsk fM_isAsk_0
  rw [gd293 h, f293 h, Option.bind_some, e, isIn_b, Option.bind_some, if_neg (show ¬ (nI j < 0 ∨ nI n - xc 1 < nI j) from fun q => off_not (by omega) hj (q.imp id (nIm1_lt hn _).mp))]
  rfl
theorem mview_no (h : Sh μ) (e : xI μ 293 9 = nI n) (hn : n < 2 ^ 30) (ha : Off n a) : fM_isView 293 a μ = some (xc 0) := by
  unfold fM_isView fM_isView_0
  rw [gd293 h, f293 h, Option.bind_some, e, isIn_b, Option.bind_some, if_pos (ha.imp id (nIm1_lt hn a).mpr)]
  rfl
theorem mview_yes (h : Sh μ) (e : xI μ 293 9 = nI n) (hn : n < 2 ^ 30) (hj : j < n) : fM_isView 293 (nI j) μ = some (xc 1) := by
  unfold fM_isView fM_isView_0
  rw [gd293 h, f293 h, Option.bind_some, e, isIn_b, Option.bind_some, if_neg (show ¬ (nI j < 0 ∨ nI n - xc 1 < nI j) from fun q => off_not (by omega) hj (q.imp id (nIm1_lt hn _).mp))]
  rfl
theorem xref {k : Nat} (h1 : 1 ≤ k) (h2 : k ≤ 6) (h : Sh μ) : fX_refuse 2 (xc (-(k : Int))) μ = some (xc (-(k : Int)), xsI μ 212 k (xI μ 212 k + xc 1)) := by
  have e : -(xc (-(k : Int))) = nI k := by
    obtain rfl | rfl | rfl | rfl | rfl | rfl : k = 1 ∨ k = 2 ∨ k = 3 ∨ k = 4 ∨ k = 5 ∨ k = 6 := by omega
    all_goals rfl
  have n0 : ¬ 0 ≤ xc (-(k : Int)) ∧ ¬ xc (-(k : Int)) < xc (-6) := by
    obtain rfl | rfl | rfl | rfl | rfl | rfl : k = 1 ∨ k = 2 ∨ k = 3 ∨ k = 4 ∨ k = 5 ∨ k = 6 := by omega
    all_goals exact ⟨by decide, by decide⟩
  unfold fX_refuse fX_refuse_0 fX_refuse_21
  rw [gd2 h, if_neg n0.1, if_neg n0.2, g2_9 h, Option.bind_some, e, la212 h (by omega), Option.bind_some, sa212 h _ (by omega), Option.bind_some]
theorem mref {k : Nat} (h1 : 1 ≤ k) (h2 : k ≤ 6) (h : Sh μ) : fM_refuse 293 (xc (-(k : Int))) μ = some (xc (-(k : Int)), xsI μ 312 k (xI μ 312 k + xc 1)) := by
  have e : -(xc (-(k : Int))) = nI k := by
    obtain rfl | rfl | rfl | rfl | rfl | rfl : k = 1 ∨ k = 2 ∨ k = 3 ∨ k = 4 ∨ k = 5 ∨ k = 6 := by omega
    all_goals rfl
  unfold fM_refuse fM_refuse_0
  rw [gd293 h, g293_25 h, Option.bind_some, e, la312 h (by omega), Option.bind_some, sa312 h _ (by omega), Option.bind_some]
end ASK
/-- both refuse: alike again -/
theorem sim_refuse {L : Nat} {xs : Nat → Int32} {μ : xM} {o : Option (Int32 × xM)} {fm : xM → Option (Int32 × xM)} (k : Nat) (hS : Sim L xs μ) (h1 : 1 ≤ k) (h2 : k ≤ 6) (ho : o = fX_refuse 2 (xc (-(k : Int))) μ) (hf : ∀ μ1, Sh μ1 → (∀ a j, 293 ≤ a → xI μ1 a j = xI μ a j) → fm μ1 = fM_refuse 293 (xc (-(k : Int))) μ1) : SimR L xs o fm := by
  have hh := hS.sh
  rw [sim_un] at hS
  obtain ⟨o', A, V, na, nv, T, K, kb, gb, hH, hP, hC, hB, hT, hF, hI, hS'⟩ := hS
  have hn : na ≤ 10 := hH.1
  refine ⟨_, _, _, ho.trans (xref h1 h2 hh), ?_, (hf _ (by rw [sh_s]; exact hh) (fun a j q => xI_ne (by omega))).trans (mref h1 h2 (by rw [sh_s]; exact hh)), ?_⟩
  · exact o'.2.1
  · have f : Fr (fun a _ => a = 212 ∨ a = 312) μ (xsI (xsI μ 212 k (xI μ 212 k + xc 1)) 312 k (xI (xsI μ 212 k (xI μ 212 k + xc 1)) 312 k + xc 1)) := ((Fr.refl μ).s _ (Or.inl rfl)).s _ (Or.inr rfl)
    rw [sim_un]
    refine ⟨o'.fr f (fun a k q => by omega), A, V, na, nv, T, K, kb, gb, hH.fr f (fun a k q => by unfold FH FMo at q; omega), hP.fr f (fun a k q => by unfold FP at q; omega), hC.fr f (fun a k q => by unfold FC at q; omega), hB.fr f (fun a k q => by unfold FB at q; omega), hT.fr f (fun a k q => by unfold FT at q; omega), fun j hj => ?_, hI.fr f (fun a k q => by unfold FI at q; omega), hS'.fr f hn (fun a k q => by unfold FS at q; omega)⟩
    by_cases e : j = k
    · subst e
      rw [xI_eq, xI_ne (by omega), xI_eq, xI_ne (by omega), hF j hj]
    · rw [xI_ne (by omega), xI_ne (by omega), xI_ne (by omega), xI_ne (by omega), hF j hj]
