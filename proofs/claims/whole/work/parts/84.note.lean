/-! the class notes covers -/
theorem sh63b : ∀ a, a < 64 → ∀ b, b < 64 → ((Int32.toInt64 (nI (64 * a + b)) &&& 63).toBitVec.smod 64).toNat = b := by decide +kernel
theorem sh63m {k : Nat} (h : k < 4096) : ((Int32.toInt64 (nI k) &&& 63).toBitVec.smod 64).toNat = k % 64 := by
  have := sh63b (k / 64) (by omega) (k % 64) (by omega)
  rw [show 64 * (k / 64) + k % 64 = k by omega] at this
  exact this
theorem lb_shlm (x : Int64) {k : Nat} (hk : k < 4096) (j : Nat) : lb (x <<< (Int32.toInt64 (nI k) &&& 63)) j = (decide (j < 64) && !decide (j < k % 64) && lb x (j - k % 64)) := by
  unfold lb
  rw [Int64.toBitVec_shiftLeft]
  refine (BitVec.getLsbD_shiftLeft').trans ?_
  rw [sh63m hk]
theorem lb_shrm (x : Int64) {k : Nat} (hk : k < 4096) (j : Nat) : lb (x >>> (Int32.toInt64 (nI k) &&& 63)) j = (!decide (64 ≤ j) && if k % 64 + j < 64 then lb x (k % 64 + j) else lb x 63) := by
  unfold lb
  rw [Int64.toBitVec_shiftRight]
  refine (BitVec.getLsbD_sshiftRight').trans ?_
  rw [sh63m hk, BitVec.msb_eq_getLsbD_last]
theorem tb1 {j : Nat} (h : 1 ≤ j) : Nat.testBit 1 j = false := tb_hi (n := 1) (k := 1) (by decide) h
theorem lbit_test (x : Int64) {k : Nat} (hk : k < 4096) : lg_cmp ((x >>> (Int32.toInt64 (nI k) &&& 63)) &&& Int64.ofNat 1) (Int64.ofNat 0) = 0 ↔ lb x (k % 64) = false := by
  rw [lg_eq]
  have h0 : lb ((x >>> (Int32.toInt64 (nI k) &&& 63)) &&& Int64.ofNat 1) 0 = lb x (k % 64) := by
    rw [lb_and, lb_shrm x hk, lb_N, if_pos (by omega), Nat.add_zero]
    simp
  constructor
  · intro h
    rw [h, lb_N] at h0
    rw [← h0]
    simp
  · intro h
    apply lb_ext
    intro j hj
    by_cases q : j = 0
    · subst q
      rw [h0, h, lb_N]
      simp
    · rw [lb_and, lb_N, tb1 (by omega), lb_N, Nat.zero_testBit]
      simp
theorem lb_one_shl {k : Nat} (hk : k < 4096) {j : Nat} (hj : j < 64) : lb (Int64.ofNat 1 <<< (Int32.toInt64 (nI k) &&& 63)) j = decide (j = k % 64) := by
  rw [lb_shlm _ hk, lb_N, decide_eq_true hj]
  by_cases q : j = k % 64
  · subst q
    rw [decide_eq_false (Nat.lt_irrefl _), Nat.sub_self]
    simp
  · by_cases q2 : j < k % 64
    · rw [decide_eq_true q2, decide_eq_false q]
      simp
    · rw [tb1 (by omega), decide_eq_false q]
      simp
theorem ones_pbits : ∀ f n, onesN f n = (pbits n f).length
  | 0, n => rfl
  | f + 1, n => by
    have ih := ones_pbits f (n / 2)
    have e : pbits n (f + 1) = (if n % 2 = 1 then [0] else []) ++ (pbits (n / 2) f).map (· + 1) := by
      unfold pbits
      rw [List.range_succ_eq_map, List.filter_cons, List.filter_map]
      have h0 : n.testBit 0 = decide (n % 2 = 1) := Nat.testBit_zero n
      have h1 : ((fun s => n.testBit s) ∘ Nat.succ) = fun s => (n / 2).testBit s := by
        funext s
        exact Nat.testBit_succ n s
      rw [h1]
      by_cases q : n % 2 = 1
      · rw [if_pos q, if_pos (by rw [h0]; exact decide_eq_true q)]
        rfl
      · rw [if_neg q, if_neg (by rw [h0, decide_eq_false q]; decide)]
        rfl
    show n % 2 + onesN f (n / 2) = _
    rw [e, List.length_append, List.length_map, ih]
    by_cases q : n % 2 = 1
    · rw [if_pos q, q]; rfl
    · rw [if_neg q, show n % 2 = 0 by omega]; rfl
theorem pbits_wide {set n m : Nat} (h : set < 2 ^ n) (hm : n ≤ m) : pbits set m = pbits set n := by
  refine srt_eq _ _ (pbits_srt _ _) (pbits_srt _ _) (fun y => ?_)
  rw [pbits_mem, pbits_mem]
  constructor
  · rintro ⟨h1, h2⟩
    refine ⟨?_, h2⟩
    by_cases q : y < n
    · exact q
    · rw [tb_hi h (by omega)] at h2; cases h2
  · rintro ⟨h1, h2⟩
    exact ⟨by omega, h2⟩
theorem pow_le12 {n : Nat} (h : n ≤ 12) : 2 ^ n ≤ 4096 := by
  have := Nat.pow_le_pow_right (n := 2) (by decide) h
  exact this
def sb (set i : Nat) : Nat := set &&& (2 ^ i ^^^ 4294967295)
theorem sb_bit {set i : Nat} (h : set < 4096) (j : Nat) : (sb set i).testBit j = (set.testBit j && decide (¬ j = i)) := by
  unfold sb
  rw [Nat.testBit_and, Nat.testBit_xor, Nat.testBit_two_pow, show (4294967295 : Nat) = 2 ^ 32 - 1 from rfl, Nat.testBit_two_pow_sub_one]
  by_cases q : j < 32
  · rw [decide_eq_true q]
    by_cases e : j = i
    · subst e; simp
    · have e2 : ¬ i = j := fun z => e z.symm
      simp [e, e2]
  · rw [tb_hi (n := set) (k := 12) h (by omega)]
    simp
theorem sb_le (set i : Nat) : sb set i ≤ set := Nat.and_le_left
theorem sb_w {set i : Nat} (hi : i < 32) : nI set &&& (((xc 1) <<< (nI i &&& 31)) ^^^ xc (-1)) = nI (sb set i) := by
  rw [nI_bit hi, xc_m1, nI_xor, nI_and]
  rfl
theorem orUp_suc (f : Nat → Nat) (i : Nat) : orUp f (i + 1) = orUp f i ||| f i := rfl
def vB (sh : List Nat) (set : Nat) : Nat := orUp (fun i => if set.testBit i = true then 2 ^ (sh.getD i 0 / 512) else 0) sh.length
theorem vB_bit {sh : List Nat} {set j : Nat} : (vB sh set).testBit j = true ↔ ∃ s, s ∈ pbits set sh.length ∧ sh.getD s 0 / 512 = j := by
  unfold vB
  rw [orUp_bit]
  constructor
  · rintro ⟨i, h1, h2⟩
    by_cases q : set.testBit i = true
    · rw [if_pos q, Nat.testBit_two_pow, decide_eq_true_eq] at h2
      exact ⟨i, pbits_mem.mpr ⟨h1, q⟩, h2⟩
    · rw [if_neg q, Nat.zero_testBit] at h2
      cases h2
  · rintro ⟨s, h1, h2⟩
    obtain ⟨h3, h4⟩ := pbits_mem.mp h1
    refine ⟨s, h3, ?_⟩
    rw [if_pos h4, Nat.testBit_two_pow, decide_eq_true h2]
theorem vB_lt {sh : List Nat} {set : Nat} (h : ∀ x, x ∈ sh → x < 3072) : vB sh set < 2 ^ 6 := by
  refine orUp_lt _ (fun i hi => ?_)
  have := h _ (getD_memD (d := 0) hi)
  split
  · exact Nat.pow_lt_pow_right (by decide) (by omega)
  · decide
section NOTE
variable {μ : xM} {s : Nat} {sh : List Nat}
theorem sf (h : IsSight μ s) (k : Nat) : ldF μ s 6 k = some (xI μ s k) := ldF_k (ci := 6) k h.2.1
theorem isCoverC_ok (h : IsSight μ s) {n set : Nat} (hn : n ≤ 12) (e2 : xI μ s 2 = nI n) (hs : set < 4096) : fS_isCover s (nI set) μ = some (if set < 2 ^ n ∧ lb (xL μ (s + 7) (set / 64)) (set % 64) = true then xc 1 else xc 0) := by
  have hp := pow_le12 hn
  have e6 : nI set >>> (xc 6 &&& 31) = nI (set / 64) := nI_shr (n := set) (r := 6) (by omega) (by decide)
  have r7 : ldFR μ s 6 4 = some (s + 7) := ldFR_k (ci := 6) h.2.1 h.2.2.2.2.1
  have t1 : ldAL μ (s + 7) (nI (set / 64)) = some (xL μ (s + 7) (set / 64)) := ldAL_k h.2.2.2.2.2.2.1 (by omega) (by decide)
  have p0 : ¬ nI set < 0 := nI_pos (by omega)
  by_cases q : set < 2 ^ n
  · have c1 : ¬ nI (2 ^ n) ≤ nI set := nI_ge q (by omega)
    by_cases q2 : lb (xL μ (s + 7) (set / 64)) (set % 64) = true
    · have c2 : ¬ lg_cmp ((xL μ (s + 7) (set / 64) >>> (Int32.toInt64 (nI set) &&& 63)) &&& Int64.ofNat 1) (Int64.ofNat 0) = 0 := fun z => by
        rw [lbit_test _ hs, q2] at z; cases z
      rw [if_pos ⟨q, q2⟩]
      simp only [fS_isCover, fS_isCover_0, gd_k (ci := 6) h.2.1, p0, if_false, sf h, e2, Option.bind_some, nI_bit (show n < 32 by omega), c1, r7, e6, t1, c2]
    · have c2 : lg_cmp ((xL μ (s + 7) (set / 64) >>> (Int32.toInt64 (nI set) &&& 63)) &&& Int64.ofNat 1) (Int64.ofNat 0) = 0 := (lbit_test _ hs).mpr (by simpa using q2)
      rw [if_neg (fun z => q2 z.2)]
      simp only [fS_isCover, fS_isCover_0, gd_k (ci := 6) h.2.1, p0, if_false, sf h, e2, Option.bind_some, nI_bit (show n < 32 by omega), c1, r7, e6, t1, c2, if_true, fS_isCover_36]
  · have c1 : nI (2 ^ n) ≤ nI set := nI_le (by omega) (by omega)
    rw [if_neg (fun z => q z.1)]
    simp only [fS_isCover, fS_isCover_0, gd_k (ci := 6) h.2.1, p0, if_false, sf h, e2, Option.bind_some, nI_bit (show n < 32 by omega), c1, if_true, fS_isCover_36]
theorem xviewsOf_ok (h : IsSight μ s) (hF : FoundS μ s sh) (hv : ∀ x, x ∈ sh → x < 3072) {set : Nat} (hs : set < 4096) : fS_viewsOf s (nI set) μ = some (nI (vB sh set)) := by
  unfold fS_viewsOf fS_viewsOf_0 vB
  rw [gd_k (ci := 6) h.2.1]
  have l12 := hF.1
  refine xwh_for (fun i => (nI (orUp (fun i => if set.testBit i = true then 2 ^ (sh.getD i 0 / 512) else 0) i), nI i)) sh.length _ (fun i hi => ?_) ?_ sh.length 0 (by omega)
  · have c0 : ¬ nI sh.length ≤ nI i := nI_ge hi (by omega)
    have hx := hv _ (getD_memD (d := 0) hi)
    have ba := nI_bitAt (n := set) (r := i) (by omega) (by omega)
    have vo := xviewOf_ok h (show i < 12 by omega) (hF.2.2 i hi) (by omega)
    dsimp only
    by_cases q : set.testBit i = true
    · rw [if_pos q] at ba
      simp only [fS_viewsOf_L4, sf h, hF.2.1, Option.bind_some, c0, if_false, ba, xc1F, vo, fS_viewsOf_30, nI_bit (show sh.getD i 0 / 512 < 32 by omega), nI_or, inc1]
      rw [orUp_suc, if_pos q]
    · rw [if_neg q] at ba
      simp only [fS_viewsOf_L4, sf h, hF.2.1, Option.bind_some, c0, if_false, ba, xc0T, if_true, fS_viewsOf_30, inc1]
      rw [orUp_suc, if_neg q, Nat.or_zero]
  · dsimp only
    simp only [fS_viewsOf_L4, sf h, hF.2.1, Option.bind_some, Int32.le_refl, if_true, fS_viewsOf_36, Option.map_some]
/-- covers noted so far, in their order -/
def NtC (μ : xM) (s : Nat) (sh C : List Nat) : Prop := (∀ x, x < 4096 → (lb (xL μ (s + 7) (x / 64)) (x % 64) = true ↔ x ∈ C)) ∧ (∀ u, u < 64 → (lb (xL μ s 5) u = true ↔ ∃ x, x ∈ C ∧ vB sh x = u)) ∧ ((C = [] ∧ xI μ s 6 = xc (-9) ∧ xI μ s 7 = nI 0) ∨ ∃ c0 C', C = c0 :: C' ∧ xI μ s 6 = nI c0 ∧ xI μ s 7 = nI (C.filter (fun x => decide (onesN 12 x = onesN 12 c0))).length)
def WN (s a k : Nat) : Prop := a = s ∧ (k = 5 ∨ k = 6 ∨ k = 7) ∨ a = s + 7
theorem NtC.fr {μ' : xM} {C : List Nat} {W : Nat → Nat → Prop} (h : NtC μ s sh C) (f : Fr W μ μ') (d : ∀ a k, WN s a k → ¬ W a k) : NtC μ' s sh C := by
  obtain ⟨h1, h2, h3⟩ := h
  refine ⟨fun x hx => ?_, fun u hu => ?_, ?_⟩
  · rw [f.L (d _ _ (by unfold WN; omega))]; exact h1 x hx
  · rw [f.L (d _ _ (by unfold WN; omega))]; exact h2 u hu
  · rw [f.I (d s 6 (by unfold WN; omega)), f.I (d s 7 (by unfold WN; omega))]; exact h3
theorem noteCover_ok (h : IsSight μ s) (hF : FoundS μ s sh) (hv : ∀ x, x ∈ sh → x < 3072) {C : List Nat} (hC : NtC μ s sh C) (hb : ∀ x, x ∈ C → x < 4096) {set : Nat} (hs : set < 4096) : ∃ μ1, fS_noteCover s (nI set) μ = some μ1 ∧ Fr (WN s) μ μ1 ∧ NtC μ1 s sh (C ++ [set]) := by
  obtain ⟨h1, h2, h3⟩ := hC
  have h2' := h.1
  have e6 : nI set >>> (xc 6 &&& 31) = nI (set / 64) := nI_shr (n := set) (r := 6) (by omega) (by decide)
  have r7 : ldFR μ s 6 4 = some (s + 7) := ldFR_k (ci := 6) h.2.1 h.2.2.2.2.1
  have k7 := h.2.2.2.2.2.2.1
  have t1 : ldAL μ (s + 7) (nI (set / 64)) = some (xL μ (s + 7) (set / 64)) := ldAL_k k7 (by omega) (by decide)
  have st1 : ∀ v, stAL μ (s + 7) (nI (set / 64)) v = some (xsL μ (s + 7) (set / 64) v) := fun v => stAL_k v k7 (by omega) (by decide) (by omega)
  obtain ⟨v1, hv1⟩ : ∃ v1, v1 = xL μ (s + 7) (set / 64) ||| (Int64.ofNat 1 <<< (Int32.toInt64 (nI set) &&& 63)) := ⟨_, rfl⟩
  obtain ⟨v2, hv2⟩ : ∃ v2, v2 = xL μ s 5 ||| (Int64.ofNat 1 <<< (Int32.toInt64 (nI (vB sh set)) &&& 63)) := ⟨_, rfl⟩
  have k1 : IsSight (xsL μ (s + 7) (set / 64) v1) s := h
  have f1 : Fr (WN s) μ (xsL μ (s + 7) (set / 64) v1) := (Fr.refl μ).sL _ (by unfold WN; omega)
  have F1 : FoundS (xsL μ (s + 7) (set / 64) v1) s sh := hF.fr f1 (fun a k q => by unfold WN; omega)
  have vo := xviewsOf_ok k1 F1 hv hs
  have l5 : ldFL (xsL μ (s + 7) (set / 64) v1) s 6 5 = some (xL μ s 5) := by rw [ldFL_k (ci := 6) 5 k1.2.1, xL_ne (by omega)]
  have st2 : stFL (xsL μ (s + 7) (set / 64) v1) s 6 5 v2 = some (xsL (xsL μ (s + 7) (set / 64) v1) s 5 v2) := stFL_k (ci := 6) 5 v2 k1.2.1 h2'
  obtain ⟨μ2, hμ2⟩ : ∃ μ2, μ2 = xsL (xsL μ (s + 7) (set / 64) v1) s 5 v2 := ⟨_, rfl⟩
  have f2 : Fr (WN s) μ μ2 := by rw [hμ2]; exact f1.sL _ (by unfold WN; omega)
  have k2 : IsSight μ2 s := f2.sight h
  have i6 : xI μ2 s 6 = xI μ s 6 := by rw [hμ2]; rfl
  have i7 : xI μ2 s 7 = xI μ s 7 := by rw [hμ2]; rfl
  have ev : fS_noteCover s (nI set) μ = if 0 ≤ xI μ s 6 then fS_noteCover_43 s (nI set) μ2 else fS_noteCover_43 s (nI set) (xsI μ2 s 6 (nI set)) := by
    simp only [fS_noteCover, fS_noteCover_0, gd_k (ci := 6) h.2.1, r7, Option.bind_some, e6, t1, ← hv1, st1, l5, vo, ← hv2, st2, ← hμ2, sf k2, i6, stF_k (ci := 6) 6 (nI set) k2.2.1 h2']
  have bits1 : ∀ μ3, (∀ a k, xL μ3 a k = xL μ2 a k) → ∀ x, x < 4096 → (lb (xL μ3 (s + 7) (x / 64)) (x % 64) = true ↔ x ∈ C ++ [set]) := fun μ3 eL x hx => by
    rw [eL, hμ2, xL_ne (by omega), List.mem_append, List.mem_singleton]
    by_cases e : x / 64 = set / 64
    · rw [e, xL_eq, hv1, lb_or, Bool.or_eq_true, ← e, h1 x hx, lb_one_shl hs (by omega), decide_eq_true_eq]
      constructor
      · rintro (z | z)
        · exact Or.inl z
        · exact Or.inr (by omega)
      · rintro (z | z)
        · exact Or.inl z
        · exact Or.inr (by rw [z])
    · rw [xL_ne (by omega), h1 x hx]
      exact ⟨Or.inl, fun z => z.elim id (fun z => absurd (by rw [z]) e)⟩
  have vlt := vB_lt (set := set) hv
  have bits2 : ∀ μ3, (∀ a k, xL μ3 a k = xL μ2 a k) → ∀ u, u < 64 → (lb (xL μ3 s 5) u = true ↔ ∃ x, x ∈ C ++ [set] ∧ vB sh x = u) := fun μ3 eL u hu => by
    rw [eL, hμ2, xL_eq, hv2, lb_or, Bool.or_eq_true, h2 u hu, lb_one_shl (by omega) hu, decide_eq_true_eq]
    constructor
    · rintro (⟨x, z1, z2⟩ | z)
      · exact ⟨x, List.mem_append_left _ z1, z2⟩
      · exact ⟨set, List.mem_append_right _ (List.mem_singleton.mpr rfl), by omega⟩
    · rintro ⟨x, z1, z2⟩
      rcases List.mem_append.mp z1 with z | z
      · exact Or.inl ⟨x, z, z2⟩
      · rw [List.mem_singleton.mp z] at z2
        exact Or.inr (by omega)
  have bc : ∀ x, x < 4096 → ∀ μ, fJI_bitCount (nI x) μ = some (nI (onesN 12 x)) := fun x hx μ => bitc_ok hx μ
  have o12 : ∀ x, onesN 12 x ≤ 12 := fun x => onesN_le 12 x
  rcases h3 with ⟨e, z6, z7⟩ | ⟨c0, C', e, z6, z7⟩
  · subst e
    have n6 : ¬ 0 ≤ xI μ s 6 := by rw [z6]; decide
    have k3 : IsSight (xsI μ2 s 6 (nI set)) s := k2
    have e66 : xI (xsI μ2 s 6 (nI set)) s 6 = nI set := xI_eq _ _ _ _
    have e77 : xI (xsI μ2 s 6 (nI set)) s 7 = nI 0 := by rw [xI_ne (by omega), i7]; exact z7
    have ev2 : fS_noteCover s (nI set) μ = some (xsI (xsI μ2 s 6 (nI set)) s 7 (nI 1)) := by
      rw [ev, if_neg n6]
      simp only [fS_noteCover_43, bc set hs, Option.bind_some, sf k3, e66, if_true, e77, show nI 0 + xc 1 = nI 1 from by decide, stF_k (ci := 6) 7 (nI 1) k3.2.1 h2']
    refine ⟨_, ev2, (f2.s _ (by unfold WN; omega)).s _ (by unfold WN; omega), bits1 _ (fun _ _ => rfl), bits2 _ (fun _ _ => rfl), Or.inr ⟨set, [], rfl, ?_, ?_⟩⟩
    · rw [xI_ne (by omega), xI_eq]
    · rw [xI_eq]
      simp
  · have hc0 : c0 < 4096 := hb c0 (by rw [e]; exact List.mem_cons_self)
    have n6 : 0 ≤ xI μ s 6 := by rw [z6]; exact nI_pos' (by omega)
    have e66 : xI μ2 s 6 = nI c0 := i6.trans z6
    have e77 := i7.trans z7
    by_cases q : onesN 12 set = onesN 12 c0
    · have c1 : nI (onesN 12 set) = nI (onesN 12 c0) := by rw [q]
      have ev2 : fS_noteCover s (nI set) μ = some (xsI μ2 s 7 (nI ((C.filter (fun x => decide (onesN 12 x = onesN 12 c0))).length + 1))) := by
        rw [ev, if_pos n6]
        simp only [fS_noteCover_43, bc set hs, bc c0 hc0, Option.bind_some, sf k2, e66, c1, if_true, e77, inc1, stF_k (ci := 6) 7 (nI ((C.filter (fun x => decide (onesN 12 x = onesN 12 c0))).length + 1)) k2.2.1 h2']
      refine ⟨_, ev2, f2.s _ (by unfold WN; omega), bits1 _ (fun _ _ => rfl), bits2 _ (fun _ _ => rfl), Or.inr ⟨c0, C' ++ [set], by rw [e]; rfl, ?_, ?_⟩⟩
      · rw [xI_ne (by omega)]; exact e66
      · rw [xI_eq, List.filter_append, List.length_append, List.filter_cons, if_pos (by rw [q]; exact decide_eq_true rfl)]
        rfl
    · have c1 : ¬ nI (onesN 12 set) = nI (onesN 12 c0) := fun z => q ((nI64 (by have := o12 set; omega) (by have := o12 c0; omega)).mp z)
      have ev2 : fS_noteCover s (nI set) μ = some μ2 := by
        rw [ev, if_pos n6]
        simp only [fS_noteCover_43, bc set hs, bc c0 hc0, Option.bind_some, sf k2, e66, c1, if_false]
      refine ⟨_, ev2, f2, bits1 _ (fun _ _ => rfl), bits2 _ (fun _ _ => rfl), Or.inr ⟨c0, C' ++ [set], by rw [e]; rfl, e66, ?_⟩⟩
      rw [List.filter_append, List.length_append, List.filter_cons, if_neg (by rw [decide_eq_true_eq]; exact q)]
      exact e77
theorem hasCoverIn_ok (h : IsSight μ s) {n set : Nat} (hn : n ≤ 12) (e2 : xI μ s 2 = nI n) (hs : set < 2 ^ n) : (∃ i, i < n ∧ set.testBit i = true ∧ lb (xL μ (s + 7) (sb set i / 64)) (sb set i % 64) = true ∧ fS_hasCoverIn s (nI set) μ = some (xc 1)) ∨ ((∀ i, i < n → set.testBit i = true → ¬ lb (xL μ (s + 7) (sb set i / 64)) (sb set i % 64) = true) ∧ fS_hasCoverIn s (nI set) μ = some (xc 0)) := by
  have hp := pow_le12 hn
  unfold fS_hasCoverIn fS_hasCoverIn_0
  rw [gd_k (ci := 6) h.2.1]
  have := xwh_inv (body := fun z : Int32 => fS_hasCoverIn_L2 s (nI set) z μ) (fun i z => z = nI i ∧ ∀ j, j < i → set.testBit j = true → ¬ lb (xL μ (s + 7) (sb set j / 64)) (sb set j % 64) = true) (fun a => (∃ i, i < n ∧ set.testBit i = true ∧ lb (xL μ (s + 7) (sb set i / 64)) (sb set i % 64) = true ∧ a = xc 1) ∨ ((∀ i, i < n → set.testBit i = true → ¬ lb (xL μ (s + 7) (sb set i / 64)) (sb set i % 64) = true) ∧ a = xc 0)) n ?_ ?_ n 0 (xc 0) (by omega) ⟨rfl, fun j hj => absurd hj (Nat.not_lt_zero j)⟩
  · obtain ⟨a, a1, a2⟩ := this
    rcases a2 with ⟨i, b1, b2, b3, rfl⟩ | ⟨b1, rfl⟩
    · exact Or.inl ⟨i, b1, b2, b3, a1⟩
    · exact Or.inr ⟨b1, a1⟩
  · rintro i z hi ⟨rfl, hno⟩
    have c0 : ¬ nI n ≤ nI i := nI_ge hi (by omega)
    have ba := nI_bitAt (n := set) (r := i) (by omega) (by omega)
    by_cases q : set.testBit i = true
    · rw [if_pos q] at ba
      have sl := sb_le set i
      have ic := isCoverC_ok h hn e2 (set := sb set i) (by omega)
      have esb := sb_w (set := set) (i := i) (by omega)
      by_cases q2 : lb (xL μ (s + 7) (sb set i / 64)) (sb set i % 64) = true
      · right
        rw [if_pos ⟨by omega, q2⟩] at ic
        refine ⟨xc 1, ?_, Or.inl ⟨i, hi, q, q2, rfl⟩⟩
        simp only [fS_hasCoverIn_L2, sf h, e2, Option.bind_some, c0, if_false, ba, xc1F, esb, ic, fS_hasCoverIn_32, Option.map_some]
      · left
        rw [if_neg (fun z => q2 z.2)] at ic
        refine ⟨nI (i + 1), ?_, rfl, fun j hj hb => ?_⟩
        · simp only [fS_hasCoverIn_L2, sf h, e2, Option.bind_some, c0, if_false, ba, xc1F, esb, ic, xc0T, if_true, fS_hasCoverIn_34, inc1]
        · by_cases e : j = i
          · rw [e]; exact q2
          · exact hno j (by omega) hb
    · left
      rw [if_neg q] at ba
      refine ⟨nI (i + 1), ?_, rfl, fun j hj hb => ?_⟩
      · simp only [fS_hasCoverIn_L2, sf h, e2, Option.bind_some, c0, if_false, ba, xc0T, if_true, fS_hasCoverIn_34, inc1]
      · by_cases e : j = i
        · rw [e] at hb; exact absurd hb q
        · exact hno j (by omega) hb
  · rintro z ⟨rfl, hno⟩
    refine ⟨xc 0, ?_, Or.inr ⟨hno, rfl⟩⟩
    simp only [fS_hasCoverIn_L2, sf h, e2, Option.bind_some, Int32.le_refl, if_true, fS_hasCoverIn_40, Option.map_some]
end NOTE
