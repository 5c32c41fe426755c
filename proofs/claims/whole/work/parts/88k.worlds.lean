/-! sets of worlds: rows of 64 long words -/
section WORLDS
def InW (μ : xM) (a w : Nat) : Prop := lb (xL μ a (w / 64)) (w % 64) = true
theorem InW.fr {μ μ' : xM} {W : Nat → Nat → Prop} {a w : Nat} (f : Fr W μ μ') (d : ∀ k, ¬ W a k) : InW μ' a w ↔ InW μ a w := by unfold InW; rw [f.L (d _)]
theorem lz_iff {x : Int64} : lg_cmp x (Int64.ofNat 0) = 0 ↔ ∀ j, j < 64 → lb x j = false := by
  rw [lg_eq]
  constructor
  · intro h j _
    rw [h, lb_N, Nat.zero_testBit, Bool.and_false]
  · intro h
    exact lb_ext (fun j hj => by rw [h j hj, lb_N, Nat.zero_testBit, Bool.and_false])
theorem low_bit (w : Nat) {j : Nat} (hj : j < 6) : (w % 64).testBit j = w.testBit j := by
  rw [show 64 = 2 ^ 6 from rfl, Nat.testBit_mod_two_pow, decide_eq_true hj, Bool.true_and]
theorem high_bit (w j : Nat) : (w / 64).testBit j = w.testBit (6 + j) := by
  rw [show 64 = 2 ^ 6 from rfl, Nat.testBit_div_two_pow, Nat.add_comm]
theorem and_eq_iff {a b : Nat} : a &&& b = b ↔ ∀ j, b.testBit j = true → a.testBit j = true := by
  constructor
  · intro h j hj
    rw [← h, Nat.testBit_and, Bool.and_eq_true] at hj
    exact hj.1
  · intro h
    apply Nat.eq_of_testBit_eq
    intro j
    rw [Nat.testBit_and]
    cases q : b.testBit j with
    | false => rw [Bool.and_false]
    | true => rw [h j q, Bool.and_true]
variable {μ : xM} {a b : Nat}
theorem addWith_ok (h1 : xK μ 1 = (3, 6)) (hH : ∀ i, i < 6 → xL μ 1 i = xhold i) (ka : xK μ a = (3, 64)) (ha : 2 ≤ a) {rows : Nat} (hr : rows < 4096) : ∃ μ1, fW_addWith a (nI rows) μ = some μ1 ∧ Fr (fun b _ => b = a) μ μ1 ∧ ∀ w, w < 4096 → (InW μ1 a w ↔ InW μ a w ∨ ∀ j, rows.testBit j = true → w.testBit j = true) := by
  have part2 : ∀ low, (∀ j, j < 64 → (lb low j = true ↔ ∀ k, k < 6 → rows.testBit k = true → j.testBit k = true)) → ∃ μ1, fW_addWith_38 a (nI rows) low μ = some μ1 ∧ Fr (fun b _ => b = a) μ μ1 ∧ ∀ w, w < 4096 → (InW μ1 a w ↔ InW μ a w ∨ ∀ j, rows.testBit j = true → w.testBit j = true) := fun low hl => by
    have e6 : nI rows >>> (xc 6 &&& 31) = nI (rows / 64) := nI_shr (n := rows) (r := 6) (by omega) (by decide)
    unfold fW_addWith_38
    rw [e6]
    refine xwh_inv (body := fun z : Int32 × xM => fW_addWith_L47 a low (nI (rows / 64)) z.1 z.2) (fun i z => z.1 = nI i ∧ Fr (fun b _ => b = a) μ z.2 ∧ (∀ k, k < i → xL z.2 a k = if k &&& (rows / 64) = rows / 64 then xL μ a k ||| low else xL μ a k) ∧ ∀ k, i ≤ k → xL z.2 a k = xL μ a k) _ 64 ?_ ?_ 64 0 _ (by omega) ⟨rfl, Fr.refl μ, fun k hk => absurd hk (Nat.not_lt_zero k), fun k _ => rfl⟩
    · rintro i ⟨x, μ'⟩ hi ⟨rfl, f, e1, e2⟩
      left
      have c0 : ¬ xc 64 ≤ nI i := nI_ge (b := 64) hi (by decide)
      have k' : xK μ' a = (3, 64) := (f.K a).trans ka
      have l1 : ldAL μ' a (nI i) = some (xL μ a i) := by rw [ldAL_k k' hi (by decide), e2 i (Nat.le_refl _)]
      have al : i &&& (rows / 64) ≤ i := Nat.and_le_left
      have cw : (nI i &&& nI (rows / 64) = nI (rows / 64)) = (i &&& (rows / 64) = rows / 64) := by
        rw [nI_and, nI_iff (by omega) (by omega)]
      by_cases q : i &&& (rows / 64) = rows / 64
      · refine ⟨(nI (i + 1), xsL μ' a i (xL μ a i ||| low)), ?_, rfl, f.sL _ rfl, fun k hk => ?_, fun k hk => ?_⟩
        · simp only [fW_addWith_L47, c0, if_false, cw, eq_true q, if_true, l1, Option.bind_some, stAL_k _ k' hi (show 64 < 2 ^ 31 by decide) ha, fW_addWith_72, inc1]
        · by_cases z : k = i
          · subst z; rw [xL_eq, if_pos q]
          · rw [xL_ne (by omega)]; exact e1 k (by omega)
        · rw [xL_ne (by omega)]; exact e2 k (by omega)
      · refine ⟨(nI (i + 1), μ'), ?_, rfl, f, fun k hk => ?_, fun k hk => e2 k (by omega)⟩
        · simp only [fW_addWith_L47, c0, if_false, cw, eq_false q, fW_addWith_72, inc1]
        · by_cases z : k = i
          · subst z; rw [if_neg q]; exact e2 k (Nat.le_refl _)
          · exact e1 k (by omega)
    · rintro ⟨x, μ'⟩ ⟨rfl, f, e1, e2⟩
      refine ⟨μ', ?_, f, fun w hw => ?_⟩
      · simp only [fW_addWith_L47, show (xc 64 ≤ nI 64) = True from by decide, if_true]
      · unfold InW
        rw [e1 (w / 64) (by omega)]
        by_cases q : (w / 64) &&& (rows / 64) = rows / 64
        · rw [if_pos q, lb_or, Bool.or_eq_true, hl _ (Nat.mod_lt _ (by decide))]
          rw [and_eq_iff] at q
          refine or_congr_right ⟨fun z j hj => ?_, fun z k hk hk2 => ?_⟩
          · by_cases j6 : j < 6
            · rw [← low_bit w j6]; exact z j j6 hj
            · have := q (j - 6)
              rw [high_bit, high_bit, show 6 + (j - 6) = j by omega] at this
              exact this hj
          · rw [low_bit w hk]; exact z k hk2
        · rw [if_neg q]
          refine ⟨Or.inl, fun z => z.resolve_right (fun z => q (and_eq_iff.mpr (fun j hj => ?_)))⟩
          rw [high_bit] at hj ⊢
          exact z _ hj
  unfold fW_addWith fW_addWith_0
  refine xwh_inv (body := fun z : Int64 × Int32 => fW_addWith_L7 a (nI rows) z.1 z.2 μ) (fun i z => z.2 = nI i ∧ ∀ j, j < 64 → (lb z.1 j = true ↔ ∀ k, k < i → rows.testBit k = true → j.testBit k = true)) _ 6 ?_ ?_ 6 0 _ (by omega) ⟨rfl, fun j hj => ⟨fun _ k hk => absurd hk (Nat.not_lt_zero k), fun _ => lb_m1 hj⟩⟩
  · rintro i ⟨low, x⟩ hi ⟨rfl, e⟩
    left
    dsimp only at e
    have c0 : ¬ xc 6 ≤ nI i := nI_ge (b := 6) hi (by decide)
    have b1 := bitAt0 (n := rows) (by omega) (r := i) (by omega)
    have l1 : ldAL μ 1 (nI i) = some (xhold i) := by rw [ldAL_k h1 hi (by decide), hH i hi]
    by_cases q : rows.testBit i = false
    · refine ⟨(low, nI (i + 1)), ?_, rfl, fun j hj => (e j hj).trans ⟨fun z k hk hk2 => ?_, fun z k hk => z k (by omega)⟩⟩
      · simp only [fW_addWith_L7, c0, if_false, b1, eq_true q, if_true, fW_addWith_32, inc1]
      · by_cases y : k = i
        · subst y; rw [q] at hk2; exact absurd hk2 (by decide)
        · exact z k (by omega) hk2
    · have q' : rows.testBit i = true := by simpa using q
      refine ⟨(low &&& xhold i, nI (i + 1)), ?_, rfl, fun j hj => ?_⟩
      · simp only [fW_addWith_L7, c0, if_false, b1, eq_false q, l1, Option.bind_some, fW_addWith_32, inc1]
      · show lb (low &&& xhold i) j = true ↔ _
        rw [lb_and, Bool.and_eq_true, e j hj, hold_bits i hi j hj]
        constructor
        · rintro ⟨y1, y2⟩ k hk hk2
          by_cases y : k = i
          · subst y; exact y2
          · exact y1 k (by omega) hk2
        · exact fun y => ⟨fun k hk => y k (by omega), y i (by omega) q'⟩
  · rintro ⟨low, x⟩ ⟨rfl, e⟩
    obtain ⟨μ1, g1, g2⟩ := part2 low e
    refine ⟨μ1, ?_, g2⟩
    simp only [fW_addWith_L7, show (xc 6 ≤ nI 6) = True from by decide, if_true, g1, Option.map_some]
theorem keepAlike_ok (ka : xK μ a = (3, 64)) (kb : xK μ b = (3, 64)) (ha : 2 ≤ a) (hab : a ≠ b) {ins : Int32} (hi : ins = xc 0 ∨ ins = xc 1) : ∃ μ1, fW_keepAlike a b ins μ = some μ1 ∧ Fr (fun c _ => c = a) μ μ1 ∧ ∀ w, w < 4096 → (InW μ1 a w ↔ InW μ a w ∧ (InW μ b w ↔ ins = xc 1)) := by
  have goal : ∃ μ1, fW_keepAlike a b ins μ = some μ1 ∧ Fr (fun c _ => c = a) μ μ1 ∧ ∀ k, k < 64 → xL μ1 a k = xL μ a k &&& (if ins = xc 1 then xL μ b k else (xL μ b k ^^^ Int64.ofNat 18446744073709551615)) := by
    unfold fW_keepAlike fW_keepAlike_0
    refine xwh_inv (body := fun z : Int32 × xM => fW_keepAlike_L2 a b ins z.1 z.2) (fun i z => z.1 = nI i ∧ Fr (fun c _ => c = a) μ z.2 ∧ (∀ k, k < i → xL z.2 a k = xL μ a k &&& (if ins = xc 1 then xL μ b k else (xL μ b k ^^^ Int64.ofNat 18446744073709551615))) ∧ ∀ k, i ≤ k → xL z.2 a k = xL μ a k) _ 64 ?_ ?_ 64 0 _ (by omega) ⟨rfl, Fr.refl μ, fun k hk => absurd hk (Nat.not_lt_zero k), fun k _ => rfl⟩
    · rintro i ⟨x, μ'⟩ hx ⟨rfl, f, e1, e2⟩
      left
      have c0 : ¬ xc 64 ≤ nI i := nI_ge (b := 64) hx (by decide)
      have k' : xK μ' a = (3, 64) := (f.K a).trans ka
      have l1 : ldAL μ' a (nI i) = some (xL μ a i) := by rw [ldAL_k k' hx (by decide), e2 i (Nat.le_refl _)]
      have l2 : ldAL μ' b (nI i) = some (xL μ b i) := by rw [ldAL_k ((f.K b).trans kb) hx (by decide), f.L (fun z => hab z.symm)]
      refine ⟨(nI (i + 1), xsL μ' a i (xL μ a i &&& (if ins = xc 1 then xL μ b i else (xL μ b i ^^^ Int64.ofNat 18446744073709551615)))), ?_, rfl, f.sL _ rfl, fun k hk => ?_, fun k hk => ?_⟩
      · rcases hi with rfl | rfl
        · simp only [fW_keepAlike_L2, c0, if_false, l1, l2, Option.bind_some, xc0T, if_true, fW_keepAlike_29, stAL_k _ k' hx (show 64 < 2 ^ 31 by decide) ha, inc1, show (xc 0 = xc 1) = False from by decide]
        · simp only [fW_keepAlike_L2, c0, if_false, l1, l2, Option.bind_some, xc1F, if_true, fW_keepAlike_29, stAL_k _ k' hx (show 64 < 2 ^ 31 by decide) ha, inc1]
      · by_cases z : k = i
        · subst z; rw [xL_eq]
        · rw [xL_ne (by omega)]; exact e1 k (by omega)
      · rw [xL_ne (by omega)]; exact e2 k (by omega)
    · rintro ⟨x, μ'⟩ ⟨rfl, f, e1, e2⟩
      refine ⟨μ', ?_, f, e1⟩
      simp only [fW_keepAlike_L2, show (xc 64 ≤ nI 64) = True from by decide, if_true]
  obtain ⟨μ1, g1, g2, g3⟩ := goal
  refine ⟨μ1, g1, g2, fun w hw => ?_⟩
  unfold InW
  rw [g3 (w / 64) (by omega), lb_and, Bool.and_eq_true]
  refine and_congr_right (fun _ => ?_)
  have wl : w % 64 < 64 := Nat.mod_lt _ (by decide)
  rcases hi with rfl | rfl
  · rw [if_neg (by decide), lb_xor, lb_m1 wl, Bool.xor_true, Bool.not_eq_true']
    constructor
    · exact fun z => ⟨fun y => by rw [z] at y; exact absurd y (by decide), fun y => absurd y (by decide)⟩
    · exact fun z => Bool.eq_false_iff.mpr (fun y => absurd (z.mp y) (by decide))
  · rw [if_pos rfl]
    exact ⟨fun z => ⟨fun _ => rfl, fun _ => z⟩, fun z => z.mpr rfl⟩
theorem isEmpty_ok (ka : xK μ a = (3, 64)) : ∃ r, fW_isEmpty a μ = some r ∧ Tells r (¬ ∃ w, w < 4096 ∧ InW μ a w) := by
  unfold fW_isEmpty fW_isEmpty_0
  refine xwh_inv (body := fun z : Int32 => fW_isEmpty_L2 a z μ) (fun i z => z = nI i ∧ ∀ w, w < 64 * i → ¬ InW μ a w) _ 64 ?_ ?_ 64 0 _ (by omega) ⟨rfl, fun w hw => absurd hw (by omega)⟩
  · rintro i z hi ⟨rfl, I⟩
    have c0 : ¬ xc 64 ≤ nI i := nI_ge (b := 64) hi (by decide)
    have l1 : ldAL μ a (nI i) = some (xL μ a i) := ldAL_k ka hi (by decide)
    by_cases q : ∀ j, j < 64 → lb (xL μ a i) j = false
    · left
      refine ⟨nI (i + 1), ?_, rfl, fun w hw => ?_⟩
      · simp only [fW_isEmpty_L2, c0, if_false, l1, Option.bind_some, lz_iff, eq_true q, if_true, inc1]
      · by_cases z : w < 64 * i
        · exact I w z
        · unfold InW
          rw [show w / 64 = i by omega, q _ (Nat.mod_lt _ (by decide))]
          decide
    · right
      refine ⟨xc 0, ?_, Or.inr ⟨rfl, fun z => q (fun j hj => Bool.eq_false_iff.mpr (fun y => z ⟨64 * i + j, by omega, ?_⟩))⟩⟩
      · simp only [fW_isEmpty_L2, c0, if_false, l1, Option.bind_some, lz_iff, eq_false q, fW_isEmpty_16, Option.map_some]
      · unfold InW
        rw [show (64 * i + j) / 64 = i by omega, show (64 * i + j) % 64 = j by omega, y]
  · rintro z ⟨rfl, I⟩
    refine ⟨xc 1, ?_, Or.inl ⟨rfl, fun ⟨w, w1, w2⟩ => I w (by omega) w2⟩⟩
    simp only [fW_isEmpty_L2, show (xc 64 ≤ nI 64) = True from by decide, if_true, fW_isEmpty_24, Option.map_some]
theorem meets_ok (ka : xK μ a = (3, 64)) (kb : xK μ b = (3, 64)) : ∃ r, fW_meets a b μ = some r ∧ Tells r (∃ w, w < 4096 ∧ InW μ a w ∧ InW μ b w) := by
  unfold fW_meets fW_meets_0
  refine xwh_inv (body := fun z : Int32 => fW_meets_L2 a b z μ) (fun i z => z = nI i ∧ ∀ w, w < 64 * i → ¬ (InW μ a w ∧ InW μ b w)) _ 64 ?_ ?_ 64 0 _ (by omega) ⟨rfl, fun w hw => absurd hw (by omega)⟩
  · rintro i z hi ⟨rfl, I⟩
    have c0 : ¬ xc 64 ≤ nI i := nI_ge (b := 64) hi (by decide)
    have l1 : ldAL μ a (nI i) = some (xL μ a i) := ldAL_k ka hi (by decide)
    have l2 : ldAL μ b (nI i) = some (xL μ b i) := ldAL_k kb hi (by decide)
    by_cases q : ∀ j, j < 64 → lb (xL μ a i &&& xL μ b i) j = false
    · left
      refine ⟨nI (i + 1), ?_, rfl, fun w hw => ?_⟩
      · simp only [fW_meets_L2, c0, if_false, l1, l2, Option.bind_some, lz_iff, eq_true q, if_true, inc1]
      · by_cases z : w < 64 * i
        · exact I w z
        · unfold InW
          rw [show w / 64 = i by omega, ← Bool.and_eq_true, ← lb_and, q _ (Nat.mod_lt _ (by decide))]
          decide
    · right
      refine ⟨xc 1, ?_, Or.inl ⟨rfl, Classical.byContradiction (fun z => q (fun j hj => Bool.eq_false_iff.mpr (fun y => z ⟨64 * i + j, by omega, ?_⟩)))⟩⟩
      · simp only [fW_meets_L2, c0, if_false, l1, l2, Option.bind_some, lz_iff, eq_false q, fW_meets_20, Option.map_some]
      · unfold InW
        rw [show (64 * i + j) / 64 = i by omega, show (64 * i + j) % 64 = j by omega, ← Bool.and_eq_true, ← lb_and, y]
  · rintro z ⟨rfl, I⟩
    refine ⟨xc 0, ?_, Or.inr ⟨rfl, fun ⟨w, w1, w2⟩ => I w (by omega) w2⟩⟩
    simp only [fW_meets_L2, show (xc 64 ≤ nI 64) = True from by decide, if_true, fW_meets_28, Option.map_some]
theorem leaves_ok (ka : xK μ a = (3, 64)) (kb : xK μ b = (3, 64)) : ∃ r, fW_leaves a b μ = some r ∧ Tells r (∃ w, w < 4096 ∧ InW μ a w ∧ ¬ InW μ b w) := by
  unfold fW_leaves fW_leaves_0
  have bit : ∀ i j, j < 64 → (lb (xL μ a i &&& (xL μ b i ^^^ Int64.ofNat 18446744073709551615)) j = true ↔ lb (xL μ a i) j = true ∧ ¬ lb (xL μ b i) j = true) := fun i j hj => by
    rw [lb_and, Bool.and_eq_true, lb_xor, lb_m1 hj, Bool.xor_true, Bool.not_eq_true', Bool.not_eq_true]
  refine xwh_inv (body := fun z : Int32 => fW_leaves_L2 a b z μ) (fun i z => z = nI i ∧ ∀ w, w < 64 * i → ¬ (InW μ a w ∧ ¬ InW μ b w)) _ 64 ?_ ?_ 64 0 _ (by omega) ⟨rfl, fun w hw => absurd hw (by omega)⟩
  · rintro i z hi ⟨rfl, I⟩
    have c0 : ¬ xc 64 ≤ nI i := nI_ge (b := 64) hi (by decide)
    have l1 : ldAL μ a (nI i) = some (xL μ a i) := ldAL_k ka hi (by decide)
    have l2 : ldAL μ b (nI i) = some (xL μ b i) := ldAL_k kb hi (by decide)
    by_cases q : ∀ j, j < 64 → lb (xL μ a i &&& (xL μ b i ^^^ Int64.ofNat 18446744073709551615)) j = false
    · left
      refine ⟨nI (i + 1), ?_, rfl, fun w hw => ?_⟩
      · simp only [fW_leaves_L2, c0, if_false, l1, l2, Option.bind_some, lz_iff, eq_true q, if_true, inc1]
      · by_cases z : w < 64 * i
        · exact I w z
        · unfold InW
          rw [show w / 64 = i by omega, ← bit i _ (Nat.mod_lt _ (by decide)), q _ (Nat.mod_lt _ (by decide))]
          decide
    · right
      refine ⟨xc 1, ?_, Or.inl ⟨rfl, Classical.byContradiction (fun z => q (fun j hj => Bool.eq_false_iff.mpr (fun y => z ⟨64 * i + j, by omega, ?_⟩)))⟩⟩
      · simp only [fW_leaves_L2, c0, if_false, l1, l2, Option.bind_some, lz_iff, eq_false q, fW_leaves_24, Option.map_some]
      · unfold InW
        rw [show (64 * i + j) / 64 = i by omega, show (64 * i + j) % 64 = j by omega, ← bit i j hj, y]
  · rintro z ⟨rfl, I⟩
    refine ⟨xc 0, ?_, Or.inr ⟨rfl, fun ⟨w, w1, w2⟩ => I w (by omega) w2⟩⟩
    simp only [fW_leaves_L2, show (xc 64 ≤ nI 64) = True from by decide, if_true, fW_leaves_32, Option.map_some]
end WORLDS
