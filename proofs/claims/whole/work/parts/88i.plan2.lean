section PLANO
theorem mem_lsOf {sh : List Nat} {set n x : Nat} : x ∈ lsOf sh set n ↔ ∃ i, i < n ∧ set.testBit i = true ∧ sh.getD i 0 = x := by
  unfold lsOf
  rw [List.mem_map]
  exact ⟨fun ⟨i, h1, h2⟩ => ⟨i, (pbits_mem.mp h1).1, (pbits_mem.mp h1).2, h2⟩, fun ⟨i, h1, h2, h3⟩ => ⟨i, pbits_mem.mpr ⟨h1, h2⟩, h3⟩⟩
theorem none_zero {left n : Nat} (h : left < 2 ^ n) (e : (pbits left n).length = 0) : left = 0 := by
  apply Nat.eq_of_testBit_eq
  intro i
  rw [Nat.zero_testBit]
  by_cases q : i < n
  · by_cases z : left.testBit i = true
    · have : i ∈ pbits left n := pbits_mem.mpr ⟨q, z⟩
      rw [List.length_eq_zero_iff.mp e] at this
      exact absurd this List.not_mem_nil
    · exact Bool.eq_false_iff.mpr z
  · exact Nat.testBit_lt_two_pow (Nat.lt_of_lt_of_le h (Nat.pow_le_pow_right (by decide) (by omega)))
variable {μ μ2 : xM} {s nv gb : Nat} {V : Nat → xPic} {sh : List Nat}
theorem shown_more (hC : ShC V nv sh) {asked i t : Nat} (hi : i < sh.length) : pshown V (lsOf sh (asked ||| 2 ^ i) sh.length) t ↔ pshown V (lsOf sh asked sh.length) t ∨ (tB (sh.getD i 0)).testBit t = true := by
  have hx := hC.2 _ (getD_memD (d := 0) hi)
  constructor
  · rintro (h | ⟨x, h1, k, h2, h3⟩)
    · exact Or.inl (Or.inl h)
    · obtain ⟨j, j1, j2, rfl⟩ := mem_lsOf.mp h1
      rw [Nat.testBit_or, Nat.testBit_two_pow, Bool.or_eq_true, decide_eq_true_eq] at j2
      rcases j2 with j2 | j2
      · exact Or.inl (Or.inr ⟨_, mem_lsOf.mpr ⟨j, j1, j2, rfl⟩, k, h2, h3⟩)
      · subst j2
        exact Or.inr (tB_bit.mpr ⟨k, by have := hx.2.2.1.2.2.1; omega, h3⟩)
  · rintro ((h | ⟨x, h1, k, h2, h3⟩) | h)
    · exact Or.inl h
    · obtain ⟨j, j1, j2, rfl⟩ := mem_lsOf.mp h1
      exact Or.inr ⟨_, mem_lsOf.mpr ⟨j, j1, by rw [Nat.testBit_or, j2, Bool.true_or], rfl⟩, k, h2, h3⟩
    · obtain ⟨k, k1, k2⟩ := tB_bit.mp h
      by_cases q : k < (V (sh.getD i 0 / 512)).2.length
      · exact Or.inr ⟨_, mem_lsOf.mpr ⟨i, hi, by rw [Nat.testBit_or, Nat.testBit_two_pow_self, Bool.or_true], rfl⟩, k, q, k2⟩
      · have := hx.2.2.2.2 k (by omega) k1
        exact Or.inl (by omega)
theorem order_lock (h : IsSight μ s) (hF : FoundS μ s sh) (hC : ShC V nv sh) (n6 : nv ≤ 6) (hM : MBase μ2 V nv sh) (hg : HG μ2 nv gb) (hgb : gb < 2 ^ 31) {set : Nat} (hs : set < 2 ^ sh.length) : ∀ (k left asked kn c : Nat) (v w : Int32), (pbits left sh.length).length = k → c + k ≤ 3 → (∀ j, left.testBit j = (set.testBit j && !asked.testBit j)) → (∀ j, asked.testBit j = true → set.testBit j = true) → kn < 2 ^ 7 → (∀ t, kn.testBit t = true ↔ pshown V (lsOf sh asked sh.length) t) → ∃ r r', xwh (fun z : Int32 × Int32 × Int32 × Int32 × Int32 => fS_orderOf_L14 s (nI gb) z.1 z.2.1 z.2.2.1 z.2.2.2.1 z.2.2.2.2 μ) (nI left, nI kn, v, w, nI c) = some r ∧ xwh (fun z : Int32 × Int32 × Int32 => fM_orderOf_L7 293 (nI set) z.1 z.2.1 z.2.2 μ2) (nI asked, v, w) = some r' ∧ (r = r' ∨ (r < 0 ∧ r' < 0)) := by
  have l12 := hC.1
  have hp := pow_le12 l12
  have h7 : ∀ x, x ∈ sh → ∀ k, pterm x k < 7 := fun x hx => (hC.2 x hx).2.2.2.1
  have hv : ∀ x, x ∈ sh → x < 3072 := fun x hx => by have := (hC.2 x hx).1; omega
  intro k
  induction k with
  | zero =>
    intro left asked kn c v w e1 e2 e3 e4 e5 e6
    have lt : left < 2 ^ sh.length := Nat.lt_pow_two_of_testBit _ (fun i hi => by rw [e3, Nat.testBit_lt_two_pow (Nat.lt_of_lt_of_le hs (Nat.pow_le_pow_right (by decide) hi)), Bool.false_and])
    have z := none_zero lt e1
    have ea : asked = set := Nat.eq_of_testBit_eq (fun j => by
      have := e3 j
      have := e4 j
      rw [z, Nat.zero_testBit] at *
      cases q1 : asked.testBit j <;> cases q2 : set.testBit j <;> simp_all)
    refine ⟨v, v, xwh_stop ?_, xwh_stop ?_, Or.inl rfl⟩
    · rw [z]
      by_cases q : xc 3 ≤ nI c
      · simp only [fS_orderOf_L14, q, if_true, fS_orderOf_87, Option.map_some]
      · simp only [fS_orderOf_L14, q, if_false, show (nI 0 = 0) = True from by decide, if_true, fS_orderOf_87, Option.map_some]
    · rw [ea]
      simp only [fM_orderOf_L7, if_true, fM_orderOf_150, Option.map_some]
  | succ k ih =>
    intro left asked kn c v w e1 e2 e3 e4 e5 e6
    have lt : left < 2 ^ sh.length := Nat.lt_pow_two_of_testBit _ (fun i hi => by rw [e3, Nat.testBit_lt_two_pow (Nat.lt_of_lt_of_le hs (Nat.pow_le_pow_right (by decide) hi)), Bool.false_and])
    have lta : asked < 2 ^ sh.length := Nat.lt_pow_two_of_testBit _ (fun i hi => by
      have := e4 i
      rw [Nat.testBit_lt_two_pow (Nat.lt_of_lt_of_le hs (Nat.pow_le_pow_right (by decide) hi))] at this
      exact Bool.eq_false_iff.mpr (fun q => absurd (this q) (by decide)))
    have l0 : left ≠ 0 := fun q => by
      rw [q] at e1
      have : pbits 0 sh.length = [] := List.eq_nil_iff_forall_not_mem.mpr (fun x hx => by have := (pbits_mem.mp hx).2; rw [Nat.zero_testBit] at this; exact absurd this (by decide))
      rw [this] at e1
      exact absurd e1 (by simp)
    have as : asked ≠ set := fun q => by
      apply l0
      apply Nat.eq_of_testBit_eq
      intro j
      rw [e3, q, Nat.zero_testBit]
      cases set.testBit j <;> rfl
    have c3 : ¬ xc 3 ≤ nI c := nI_ge (a := c) (b := 3) (by omega) (by decide)
    have n0 : ¬ nI left = 0 := nI_ne0 (by omega) (by omega)
    have ns : ¬ nI asked = nI set := fun q => as (nI_inj (by omega) (by omega) q)
    obtain ⟨r, x1, x2⟩ := xnext_ok h hF hv h7 (left := left) (kn := kn) (by omega) (by omega) hgb
    obtain ⟨r', m1, m2⟩ := mnext_ok hM hg (set := set) (asked := asked) (by omega) (by omega) v w
    have er : r = r' := next_uni (fun i hi => by
      unfold Nx NxM
      rw [e3, Bool.and_eq_true, Bool.not_eq_true', e6, and_assoc]) x2 m1
    subst er
    have e39 : ldF μ2 293 9 39 = some (nI sh.length) := (f293 hM.1 39).trans (by rw [hM.2.1.2.1])
    have ml : fM_orderOf_L7 293 (nI set) (nI asked) v w μ2 = fM_orderOf_116 293 (nI set) (nI asked) v w r μ2 := by
      simp only [fM_orderOf_L7, ns, if_false, e39, Option.bind_some]
      exact m2
    rcases x2 with ⟨i, i1, i2, i3, rfl⟩ | ⟨i1, rfl⟩
    · have ge : (0 : Int32) ≤ nI i := nI_pos' (by omega)
      have hx := hC.2 _ (getD_memD (d := 0) i1)
      have to := xtermsOf_ok h (i := i) (by omega) (hF.2.2 i i1) hx.2.1 hx.2.2.2.1
      have tl := tB_lt hx.2.2.2.1
      have bi : (1 : Nat) <<< i = 2 ^ i := Nat.one_shiftLeft i
      obtain ⟨A, B, p1, p2⟩ := pbits_sub (set := left) (sub := sb left i) i1 i2.1 (sb_bit (by omega))
      have len : (pbits (sb left i) sh.length).length = k := by
        rw [p1, List.length_append, List.length_cons] at e1
        rw [p2, List.length_append]
        omega
      have a3 : ∀ j, (sb left i).testBit j = (set.testBit j && !(asked ||| 2 ^ i).testBit j) := fun j => by
        rw [sb_bit (by omega), e3, Nat.testBit_or, Nat.testBit_two_pow]
        by_cases q : i = j
        · subst q; simp
        · have q' : ¬ j = i := fun z => q z.symm
          simp [q, q']
      have a4 : ∀ j, (asked ||| 2 ^ i).testBit j = true → set.testBit j = true := fun j hj => by
        rw [Nat.testBit_or, Nat.testBit_two_pow, Bool.or_eq_true, decide_eq_true_eq] at hj
        rcases hj with hj | hj
        · exact e4 j hj
        · subst hj
          have := i2.1
          rw [e3, Bool.and_eq_true] at this
          exact this.1
      have a6 : ∀ t, (kn ||| tB (sh.getD i 0)).testBit t = true ↔ pshown V (lsOf sh (asked ||| 2 ^ i) sh.length) t := fun t => by
        rw [shown_more hC i1, Nat.testBit_or, Bool.or_eq_true, e6]
      obtain ⟨r, r', g1, g2, g3⟩ := ih (sb left i) (asked ||| 2 ^ i) (kn ||| tB (sh.getD i 0)) (c + 1) (v + w * (nI i + xc 1)) (w * xc 13) len (by omega) a3 a4 (Nat.or_lt_two_pow e5 tl) a6
      refine ⟨r, r', xwh_go ?_ g1, xwh_go ?_ g2, g3⟩
      · simp only [fS_orderOf_L14, c3, if_false, n0, x1, Option.bind_some, ge, if_true, to, sb_w (show i < 32 by omega), nI_or, inc1]
      · dsimp only
        rw [ml]
        simp only [fM_orderOf_116, ge, if_true, nI_bit (show i < 32 by omega), nI_or]
    · have lt0 : ¬ (0 : Int32) ≤ xc (-1) := by decide
      refine ⟨xc (-9), xc (-1), xwh_stop ?_, xwh_stop ?_, Or.inr ⟨by decide, by decide⟩⟩
      · simp only [fS_orderOf_L14, c3, if_false, n0, x1, Option.bind_some, lt0, fS_orderOf_39, Option.map_some]
      · dsimp only
        rw [ml]
        simp only [fM_orderOf_116, lt0, if_false, fM_orderOf_121, Option.map_some]
theorem order_ok (h : IsSight μ s) (hF : FoundS μ s sh) (hC : ShC V nv sh) (n6 : nv ≤ 6) (hM : MBase μ2 V nv sh) (hg : HG μ2 nv gb) (hgb : gb < 2 ^ 31) {set : Nat} (hs : set < 2 ^ sh.length) (h3 : onesN 12 set ≤ 3) : ∃ r r', fS_orderOf s (nI set) (nI gb) μ = some r ∧ fM_orderOf 293 (nI set) μ2 = some r' ∧ (r = r' ∨ (r < 0 ∧ r' < 0)) := by
  have l12 := hC.1
  rw [ones_pbits, pbits_wide hs l12] at h3
  obtain ⟨r, r', g1, g2, g3⟩ := order_lock h hF hC n6 hM hg hgb hs _ set 0 3 0 (xc 0) (xc 1) rfl (by omega) (fun j => by rw [Nat.zero_testBit]; simp) (fun j hj => by rw [Nat.zero_testBit] at hj; exact absurd hj (by decide)) (by decide) (fun t => by
    have e : pshown V (lsOf sh 0 sh.length) t ↔ t < 2 := by
      constructor
      · rintro (z | ⟨x, z, _⟩)
        · exact z
        · obtain ⟨i, _, i2, _⟩ := mem_lsOf.mp z
          rw [Nat.zero_testBit] at i2
          exact absurd i2 (by decide)
      · exact Or.inl
    rw [e, show 3 = 2 ^ 2 - 1 from rfl, Nat.testBit_two_pow_sub_one, decide_eq_true_eq])
  refine ⟨r, r', ?_, ?_, g3⟩
  · unfold fS_orderOf fS_orderOf_0
    rw [gd_k (ci := 6) h.2.1]
    exact g1
  · unfold fM_orderOf fM_orderOf_0
    rw [gd293 hM.1]
    exact g2
end PLANO
