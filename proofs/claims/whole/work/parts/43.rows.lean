/-! rows of tables as bits, keys, what changed last -/
theorem tb16 (T t b : Nat) (hb : b < 4) : (T / 16 ^ t % 16).testBit b = T.testBit (4 * t + b) := by
  rw [show (16 : Nat) ^ t = 2 ^ (4 * t) from by rw [Nat.pow_mul], show T / 2 ^ (4 * t) % 16 = T / 2 ^ (4 * t) % 2 ^ 4 from rfl, Nat.testBit_mod_two_pow, Nat.testBit_div_two_pow, decide_eq_true hb, Bool.true_and, Nat.add_comm]
theorem t16_lt (T t : Nat) : T / 16 ^ t % 16 < 16 := Nat.mod_lt _ (by decide)
theorem t16_bit (T t b : Nat) : (T / 16 ^ t % 16).testBit b = (decide (b < 4) && T.testBit (4 * t + b)) := by
  rw [show (16 : Nat) ^ t = 2 ^ (4 * t) from by rw [Nat.pow_mul], show T / 2 ^ (4 * t) % 16 = T / 2 ^ (4 * t) % 2 ^ 4 from rfl, Nat.testBit_mod_two_pow, Nat.testBit_div_two_pow, Nat.add_comm]
theorem tx16 (T t b i : Nat) (hb : b < 4) : (T ^^^ 2 ^ (4 * t + b)) / 16 ^ i % 16 = if i = t then (T / 16 ^ t % 16) ^^^ 2 ^ b else T / 16 ^ i % 16 := by
  by_cases e : i = t
  · subst e
    rw [if_pos rfl]
    apply Nat.eq_of_testBit_eq
    intro j
    rw [t16_bit, Nat.testBit_xor, Nat.testBit_xor, t16_bit, Nat.testBit_two_pow, Nat.testBit_two_pow]
    by_cases hj : j < 4
    · simp only [hj, decide_true, Bool.true_and]
      congr 1
      exact decide_eq_decide.mpr (by omega)
    · simp only [hj, decide_false, Bool.false_and, Bool.false_xor]
      exact (decide_eq_false (by omega)).symm
  · rw [if_neg e]
    apply Nat.eq_of_testBit_eq
    intro j
    rw [t16_bit, Nat.testBit_xor, t16_bit, Nat.testBit_two_pow]
    by_cases hj : j < 4
    · simp only [hj, decide_true, Bool.true_and]
      rw [decide_eq_false (show ¬ 4 * t + b = 4 * i + j by omega), Bool.xor_false]
    · simp only [hj, decide_false, Bool.false_and]
theorem tx_lt {T r : Nat} (hT : T < 4096) (hr : r < 12) : T ^^^ 2 ^ r < 4096 := by
  have : (2 : Nat) ^ r < 2 ^ 12 := Nat.pow_lt_pow_right (by decide) hr
  exact Nat.xor_lt_two_pow (n := 12) hT this
abbrev keyedN (w : Nat) : Prop := ¬ w &&& 3 = 3 ∧ ¬ w &&& 12 = 12
theorem keyed_x : ∀ w, w < 16 → (keyedN w ↔ ∀ x, x < 2 → ¬ (w.testBit (2 * x) = true ∧ w.testBit (2 * x + 1) = true)) := by unfold keyedN; decide +kernel
theorem keyed_m : ∀ w, w < 16 → ∀ μ, fM_isKeyed (nI w) μ = some (if ¬ w &&& 3 = 3 ∧ ¬ w &&& 12 = 12 then xc 1 else xc 0) := by
  intro w hw μ
  unfold fM_isKeyed fM_isKeyed_0 fM_isKeyed_20
  have h : ∀ w, w < 16 → ((nI w &&& xc 3 = xc 3) ↔ w &&& 3 = 3) ∧ ((nI w &&& xc 12 = xc 12) ↔ w &&& 12 = 12) := by decide +kernel
  obtain ⟨h1, h2⟩ := h w hw
  simp only [h1, h2]
  by_cases a : w &&& 3 = 3
  · simp only [a, if_true, not_true_eq_false, false_and, if_false]
  · by_cases b : w &&& 12 = 12 <;> simp only [a, b, if_true, not_true_eq_false, not_false_eq_true, and_false, and_true, if_false]
theorem keyed_yes {w : Nat} (hw : w < 16) (h : keyedN w) (μ : xM) : fM_isKeyed (nI w) μ = some (xc 1) := by rw [keyed_m w hw]; exact congrArg some (if_pos h)
theorem keyed_no {w : Nat} (hw : w < 16) (h : ¬ keyedN w) (μ : xM) : fM_isKeyed (nI w) μ = some (xc 0) := by rw [keyed_m w hw]; exact congrArg some (if_neg h)
theorem keyed_t (T t : Nat) : keyedN (T / 16 ^ t % 16) ↔ ∀ x, x < 2 → ¬ (T.testBit (4 * t + 2 * x) = true ∧ T.testBit (4 * t + 2 * x + 1) = true) := by
  rw [keyed_x _ (t16_lt T t)]
  constructor
  · intro h x hx q
    refine h x hx ⟨?_, ?_⟩
    · rw [tb16 T t _ (by omega)]; exact q.1
    · rw [tb16 T t _ (by omega)]; exact q.2
  · intro h x hx q
    refine h x hx ⟨?_, ?_⟩
    · rw [← tb16 T t _ (by omega)]; exact q.1
    · rw [show 4 * t + 2 * x + 1 = 4 * t + (2 * x + 1) by omega, ← tb16 T t _ (by omega)]; exact q.2
theorem keyOK_iff {T K : Nat} : KeyOK T K ↔ ∀ t, t < 3 → K.testBit t = true → keyedN (T / 16 ^ t % 16) := by
  constructor
  · intro h t ht hk
    rw [keyed_t]
    exact fun x hx => h t x ht hx hk
  · intro h t x ht hx hk
    exact (keyed_t T t).mp (h t ht hk) x hx
theorem keyed_add0 : ∀ w, w < 16 → ∀ b, b < 4 → (((¬ w &&& 3 = 3 ∧ ¬ w &&& 12 = 12) ∧ ¬ w.testBit b = true) → ((¬ (w ^^^ 2 ^ b) &&& 3 = 3 ∧ ¬ (w ^^^ 2 ^ b) &&& 12 = 12) ↔ ¬ w.testBit (b ^^^ 1) = true)) := by decide +kernel
theorem keyed_add {w : Nat} (hw : w < 16) {b : Nat} (hb : b < 4) (h : keyedN w) (h2 : ¬ w.testBit b = true) : keyedN (w ^^^ 2 ^ b) ↔ ¬ w.testBit (b ^^^ 1) = true := keyed_add0 w hw b hb ⟨h, h2⟩
theorem keyed_sub0 : ∀ w, w < 16 → ∀ b, b < 4 → (((¬ w &&& 3 = 3 ∧ ¬ w &&& 12 = 12) ∧ w.testBit b = true) → (¬ (w ^^^ 2 ^ b) &&& 3 = 3 ∧ ¬ (w ^^^ 2 ^ b) &&& 12 = 12)) := by decide +kernel
theorem keyed_sub {w : Nat} (hw : w < 16) {b : Nat} (hb : b < 4) (h : keyedN w) (h2 : w.testBit b = true) : keyedN (w ^^^ 2 ^ b) := keyed_sub0 w hw b hb ⟨h, h2⟩
theorem w_or : ∀ w, w < 16 → ∀ b, b < 4 → ¬ w.testBit b = true → w ||| 2 ^ b = w ^^^ 2 ^ b := by decide +kernel
theorem w_and : ∀ w, w < 16 → ∀ b, b < 4 → w.testBit b = true → nI w &&& (nI (2 ^ b) ^^^ xc (-1)) = nI (w ^^^ 2 ^ b) := by decide +kernel
theorem w_bit : ∀ w, w < 16 → ∀ b, b < 4 → ((nI w &&& nI (2 ^ b) = 0) ↔ ¬ w.testBit b = true) := by decide +kernel
theorem w_lt : ∀ w, w < 16 → ∀ b, b < 4 → w ^^^ 2 ^ b < 16 := by decide +kernel
theorem r_x1 : ∀ t, t < 3 → ∀ b, b < 4 → (4 * t + b) ^^^ 1 = 4 * t + (b ^^^ 1) ∧ b ^^^ 1 < 4 := by decide +kernel
/-- a row of a keyed table comes: the keys hold again -/
theorem keyOK_turn {T K t b : Nat} (h : KeyOK T K) (ht : t < 3) (hb : b < 4) (g : K.testBit t = true → keyedN (T / 16 ^ t % 16 ^^^ 2 ^ b)) : KeyOK (T ^^^ 2 ^ (4 * t + b)) K := by
  rw [keyOK_iff] at h ⊢
  intro i hi hk
  rw [tx16 T t b i hb]
  by_cases e : i = t
  · subst e
    rw [if_pos rfl]
    exact g hk
  · rw [if_neg e]
    exact h i hi hk
theorem k_bit (K t : Nat) : nI (K / 2 ^ t % 2) = if K.testBit t = true then xc 1 else xc 0 := by
  rw [div_mod2]
  by_cases h : K.testBit t = true
  · rw [if_pos h, if_pos h]; rfl
  · rw [if_neg h, if_neg h]; rfl
section ROWS
variable {μ : xM} {T K r : Nat}
theorem hasRow_ok (h : Sh μ) (e : xI μ 3 0 = nI T) (hT : T < 4096) (hr : r < 32) : fH_hasRow 3 (nI r) μ = some (if T.testBit r = true then xc 1 else xc 0) := by
  unfold fH_hasRow fH_hasRow_0
  rw [gd3 h, f3 h, Option.bind_some, e, nI_bitAt (by omega) hr]
  by_cases q : T.testBit r = true
  · simp only [q, if_true, xc1F, if_false]
  · simp only [q, if_false, xc0T, if_true, Bool.false_eq_true]
theorem hasKey_ok (h : Sh μ) (e : xI μ 3 1 = nI K) (hK : K < 8) (hr : r < 32) : fH_hasKey 3 (nI r) μ = some (if K.testBit r = true then xc 1 else xc 0) := by
  unfold fH_hasKey fH_hasKey_0
  rw [gd3 h, f3 h, Option.bind_some, e, nI_bitAt (by omega) hr]
  by_cases q : K.testBit r = true
  · simp only [q, if_true, xc1F, if_false]
  · simp only [q, if_false, xc0T, if_true, Bool.false_eq_true]
theorem turnRow_ok (h : Sh μ) (e : xI μ 3 0 = nI T) (hr : r < 32) : fH_turnRow 3 (nI r) μ = some (xsI μ 3 0 (nI (T ^^^ 2 ^ r))) := by
  unfold fH_turnRow fH_turnRow_0
  simp only [gd3 h, f3 h, Option.bind_some, e, nI_bit hr, nI_xor, fs3 h]
theorem breaks_ok {t b : Nat} (h : Sh μ) (e : xI μ 3 0 = nI T) (e2 : xI μ 3 1 = nI K) (hT : T < 4096) (hK : K < 8) (ht : t < 3) (hb : b < 4) : fH_breaksKey 3 (nI (4 * t + b)) μ = some (if K.testBit t = true ∧ (T / 16 ^ t % 16).testBit (b ^^^ 1) = true then xc 1 else xc 0) := by
  have hx := r_x1 t ht b hb
  unfold fH_breaksKey fH_breaksKey_0 fH_breaksKey_24
  have d : dvI (nI (4 * t + b)) (xc 4) = some (nI t) := by
    unfold dvI
    rw [if_neg (by decide)]
    refine congrArg some ?_
    rw [show xc 4 = nI 4 from rfl, pk_div (by omega) (by decide) (by decide)]
    congr 1
    omega
  have x1 : nI (4 * t + b) ^^^ xc 1 = nI (4 * t + (b ^^^ 1)) := by rw [show xc 1 = nI 1 from rfl, nI_xor, hx.1]
  rw [gd3 h, d, Option.bind_some, hasKey_ok h e2 hK (by omega), Option.bind_some, x1, hasRow_ok h e hT (by omega), tb16 T t _ hx.2]
  by_cases q : K.testBit t = true
  · by_cases q2 : T.testBit (4 * t + (b ^^^ 1)) = true
    · simp only [q, q2, if_true, xc1F, if_false, Option.bind_some, and_self]
    · simp only [q, q2, if_true, xc1F, if_false, Option.bind_some, xc0T, Bool.false_eq_true, and_false]
  · simp only [q, if_false, xc0T, if_true, Bool.false_eq_true, false_and]
theorem rowBit_ok (t x y : Nat) : fX_rowBit (nI t) (nI x) (nI y) μ = some (nI (4 * t + (2 * x + y))) := by
  unfold fX_rowBit fX_rowBit_0
  rw [show xc 4 = nI 4 from rfl, show xc 2 = nI 2 from rfl, pk_mul, pk_mul, nI_add, nI_add, Nat.add_assoc]
end ROWS
