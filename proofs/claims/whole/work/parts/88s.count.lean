section COUNT
def cntB (p : Nat → Bool) : Nat → Nat
  | 0 => 0
  | n + 1 => cntB p n + (if p n = true then 1 else 0)
theorem cntB_add (p : Nat → Bool) (a : Nat) : ∀ n, cntB p (a + n) = cntB p a + cntB (fun j => p (a + j)) n
  | 0 => rfl
  | n + 1 => by
    show cntB p (a + n) + (if p (a + n) = true then 1 else 0) = cntB p a + (cntB (fun j => p (a + j)) n + (if p (a + n) = true then 1 else 0))
    rw [cntB_add p a n, Nat.add_assoc]
theorem cntB_congr {p q : Nat → Bool} : ∀ n, (∀ j, j < n → p j = q j) → cntB p n = cntB q n
  | 0, _ => rfl
  | n + 1, h => by
    show cntB p n + _ = cntB q n + _
    rw [cntB_congr n (fun j hj => h j (by omega)), h n (by omega)]
theorem cntB_le (p : Nat → Bool) : ∀ n, cntB p n ≤ n
  | 0 => Nat.le_refl _
  | n + 1 => by
    have := cntB_le p n
    show cntB p n + (if p n = true then 1 else 0) ≤ n + 1
    split <;> omega
def wN (x : Int64) : Nat := x.toBitVec.toNat
theorem wN_lt (x : Int64) : wN x < 2 ^ 64 := x.toBitVec.isLt
theorem wN_bit (x : Int64) (j : Nat) : lb x j = (wN x).testBit j := rfl
theorem wN_and (x y : Int64) : wN (x &&& y) = wN x &&& wN y := by
  unfold wN
  rw [Int64.toBitVec_and, BitVec.toNat_and]
theorem wN_sub {x y : Int64} (h : wN y ≤ wN x) : wN (x - y) = wN x - wN y := by
  unfold wN at *
  rw [Int64.toBitVec_sub]
  exact BitVec.toNat_sub_of_le (BitVec.le_def.mpr h)
theorem wN_add {x y : Int64} (h : wN x + wN y < 2 ^ 64) : wN (x + y) = wN x + wN y := by
  unfold wN at *
  rw [Int64.toBitVec_add]
  exact BitVec.toNat_add_of_lt h
theorem wN_shr (x : Int64) (y : Int32) (k : Nat) (h : ((y.toInt64.toUInt64 &&& Int64.toUInt64 63)).toNat % 64 = k) : wN (xshrL x y) = wN x / 2 ^ k := by
  show (x.toUInt64 >>> (y.toInt64.toUInt64 &&& Int64.toUInt64 63)).toNat = _
  rw [UInt64.toNat_shiftRight, h, Nat.shiftRight_eq_div_pow]
  rfl
def mk (c : Nat) : Nat → Nat
  | 0 => 0
  | k + 1 => 256 * mk c k + c
theorem and_step {a b c d : Nat} (hb : b < 256) (hd : d < 256) : (256 * a + b) &&& (256 * c + d) = 256 * (a &&& c) + (b &&& d) := by
  have hbd : b &&& d < 2 ^ 8 := Nat.lt_of_le_of_lt Nat.and_le_left hb
  apply Nat.eq_of_testBit_eq
  intro j
  rw [Nat.testBit_and, show 256 = 2 ^ 8 from rfl, Nat.testBit_two_pow_mul_add _ hb, Nat.testBit_two_pow_mul_add _ hd, Nat.testBit_two_pow_mul_add _ hbd]
  split
  · rw [Nat.testBit_and]
  · rw [Nat.testBit_and]
def tK (k n : Nat) : Nat := n - ((n / 2) &&& mk 85 k)
def uK (k n : Nat) : Nat := (tK k n &&& mk 51 k) + ((tK k n / 4) &&& mk 51 k)
def yK (k n : Nat) : Nat := (uK k n + uK k n / 16) &&& mk 15 k
def tb8 (b : Nat) : Nat := b - ((b / 2) &&& 85)
def ub8 (b : Nat) : Nat := (tb8 b &&& 51) + ((tb8 b / 4) &&& 51)
def pop8 (b : Nat) : Nat := cntB (fun j => b.testBit j) 8
theorem byte1 : ∀ b, b < 256 → ((b / 2) &&& 85 ≤ b ∧ (128 + b / 2) &&& 85 = (b / 2) &&& 85) := by decide +kernel
theorem byte2 : ∀ b, b < 256 → ∀ e, e < 4 → (64 * e + b / 4) &&& 51 = (b / 4) &&& 51 := by decide +kernel
theorem byte3 : ∀ b, b < 256 → ub8 b % 16 ≤ 6 ∧ ub8 b ≤ 102 ∧ (ub8 b + ub8 b / 16) &&& 15 = pop8 b := by decide +kernel
theorem byte4 : ∀ u, u ≤ 102 → ∀ e, e < 7 → u + 16 * e + u / 16 < 256 ∧ (u + 16 * e + u / 16) &&& 15 = (u + u / 16) &&& 15 := by decide +kernel
theorem tK_step (k a b : Nat) (hb : b < 256) : tK (k + 1) (256 * a + b) = 256 * tK k a + tb8 b := by
  obtain ⟨x1, x2⟩ := byte1 b hb
  have e : (256 * a + b) / 2 = 256 * (a / 2) + (128 * (a % 2) + b / 2) := by omega
  have l : a / 2 &&& mk 85 k ≤ a := Nat.le_trans Nat.and_le_left (Nat.div_le_self _ _)
  have s : ((256 * a + b) / 2) &&& mk 85 (k + 1) = 256 * (a / 2 &&& mk 85 k) + ((b / 2) &&& 85) := by
    rw [e]
    show (256 * (a / 2) + (128 * (a % 2) + b / 2)) &&& (256 * mk 85 k + 85) = _
    rw [and_step (by omega) (by decide)]
    obtain q | q : a % 2 = 0 ∨ a % 2 = 1 := by omega
    · rw [q, Nat.mul_zero, Nat.zero_add]
    · rw [q, Nat.mul_one, x2]
  unfold tK tb8
  rw [s]
  omega
theorem tb8_lt {b : Nat} (hb : b < 256) : tb8 b < 256 := Nat.lt_of_le_of_lt (Nat.sub_le _ _) hb
theorem uK_step (k a b : Nat) (hb : b < 256) : uK (k + 1) (256 * a + b) = 256 * uK k a + ub8 b := by
  have tl := tb8_lt hb
  have e : (256 * tK k a + tb8 b) / 4 = 256 * (tK k a / 4) + (64 * (tK k a % 4) + tb8 b / 4) := by omega
  unfold uK ub8
  rw [tK_step k a b hb, e]
  show ((256 * tK k a + tb8 b) &&& (256 * mk 51 k + 51)) + ((256 * (tK k a / 4) + (64 * (tK k a % 4) + tb8 b / 4)) &&& (256 * mk 51 k + 51)) = _
  rw [and_step tl (by decide), and_step (by omega) (by decide), byte2 _ tl _ (Nat.mod_lt _ (by decide))]
  omega
theorem uK_mod (k a : Nat) : uK k a % 16 ≤ 6 := by
  cases k with
  | zero =>
    unfold uK mk
    rw [Nat.and_zero, Nat.and_zero]
    decide
  | succ k =>
    have e := uK_step k (a / 256) (a % 256) (Nat.mod_lt _ (by decide))
    rw [show 256 * (a / 256) + a % 256 = a by omega] at e
    have := (byte3 (a % 256) (Nat.mod_lt _ (by decide))).1
    rw [e]
    omega
theorem yK_step (k a b : Nat) (hb : b < 256) : yK (k + 1) (256 * a + b) = 256 * yK k a + pop8 b := by
  obtain ⟨x1, x2, x3⟩ := byte3 b hb
  have um := uK_mod k a
  obtain ⟨z1, z2⟩ := byte4 (ub8 b) x2 (uK k a % 16) (by omega)
  unfold yK
  rw [uK_step k a b hb]
  have e : 256 * uK k a + ub8 b + (256 * uK k a + ub8 b) / 16 = 256 * (uK k a + uK k a / 16) + (ub8 b + 16 * (uK k a % 16) + ub8 b / 16) := by omega
  rw [e]
  show (256 * (uK k a + uK k a / 16) + (ub8 b + 16 * (uK k a % 16) + ub8 b / 16)) &&& (256 * mk 15 k + 15) = _
  rw [and_step z1 (by decide), z2, x3]
/-- digits of a number's bytes' counts -/
def dK : Nat → Nat → Nat
  | 0, _ => 0
  | k + 1, n => 256 * dK k (n / 256) + pop8 (n % 256)
theorem yK_dK : ∀ k n, yK k n = dK k n
  | 0, n => by
    unfold yK mk dK
    rw [Nat.and_zero]
  | k + 1, n => by
    have e := yK_step k (n / 256) (n % 256) (Nat.mod_lt _ (by decide))
    rw [show 256 * (n / 256) + n % 256 = n by omega] at e
    rw [e, yK_dK k (n / 256)]
    rfl
def sK : Nat → Nat → Nat
  | 0, _ => 0
  | k + 1, n => pop8 (n % 256) + sK k (n / 256)
theorem cnt_sK : ∀ k n, cntB (fun j => n.testBit j) (8 * k) = sK k n
  | 0, n => rfl
  | k + 1, n => by
    rw [show 8 * (k + 1) = 8 + 8 * k by omega, cntB_add]
    show _ = pop8 (n % 256) + sK k (n / 256)
    rw [← cnt_sK k (n / 256)]
    unfold pop8
    congr 1
    · exact cntB_congr 8 (fun j hj => by rw [show 256 = 2 ^ 8 from rfl, Nat.testBit_mod_two_pow, decide_eq_true hj, Bool.true_and])
    · exact cntB_congr _ (fun j hj => by rw [show 256 = 2 ^ 8 from rfl, Nat.testBit_div_two_pow, Nat.add_comm])
theorem pop8_le (b : Nat) : pop8 b ≤ 8 := cntB_le _ 8
theorem fold_ok (n : Nat) : dK 8 n < 2 ^ 60 ∧ (let y := dK 8 n; let y1 := y + y / 2 ^ 8; let y2 := y1 + y1 / 2 ^ 16; let y3 := y2 + y2 / 2 ^ 32; y1 < 2 ^ 61 ∧ y2 < 2 ^ 62 ∧ y3 < 2 ^ 63 ∧ y3 % 128 = sK 8 n) := by
  show dK 8 n < 2 ^ 60 ∧ _
  simp only [dK, sK]
  have h0 := pop8_le (n % 256)
  have h1 := pop8_le (n / 256 % 256)
  have h2 := pop8_le (n / 256 / 256 % 256)
  have h3 := pop8_le (n / 256 / 256 / 256 % 256)
  have h4 := pop8_le (n / 256 / 256 / 256 / 256 % 256)
  have h5 := pop8_le (n / 256 / 256 / 256 / 256 / 256 % 256)
  have h6 := pop8_le (n / 256 / 256 / 256 / 256 / 256 / 256 % 256)
  have h7 := pop8_le (n / 256 / 256 / 256 / 256 / 256 / 256 / 256 % 256)
  generalize pop8 (n % 256) = d0 at *
  generalize pop8 (n / 256 % 256) = d1 at *
  generalize pop8 (n / 256 / 256 % 256) = d2 at *
  generalize pop8 (n / 256 / 256 / 256 % 256) = d3 at *
  generalize pop8 (n / 256 / 256 / 256 / 256 % 256) = d4 at *
  generalize pop8 (n / 256 / 256 / 256 / 256 / 256 % 256) = d5 at *
  generalize pop8 (n / 256 / 256 / 256 / 256 / 256 / 256 % 256) = d6 at *
  generalize pop8 (n / 256 / 256 / 256 / 256 / 256 / 256 / 256 % 256) = d7 at *
  have e1 : ∀ y, y = 256 * (256 * (256 * (256 * (256 * (256 * (256 * (256 * 0 + d7) + d6) + d5) + d4) + d3) + d2) + d1) + d0 → y + y / 2 ^ 8 = 256 * (256 * (256 * (256 * (256 * (256 * (256 * d7 + (d6 + d7)) + (d5 + d6)) + (d4 + d5)) + (d3 + d4)) + (d2 + d3)) + (d1 + d2)) + (d0 + d1) := fun y hy => by omega
  have e2 : ∀ y, y = 256 * (256 * (256 * (256 * (256 * (256 * (256 * d7 + (d6 + d7)) + (d5 + d6)) + (d4 + d5)) + (d3 + d4)) + (d2 + d3)) + (d1 + d2)) + (d0 + d1) → y + y / 2 ^ 16 = 256 * (256 * (256 * (256 * (256 * (256 * (256 * d7 + (d6 + d7)) + (d5 + d6 + d7)) + (d4 + d5 + d6 + d7)) + (d3 + d4 + d5 + d6)) + (d2 + d3 + d4 + d5)) + (d1 + d2 + d3 + d4)) + (d0 + d1 + d2 + d3) := fun y hy => by omega
  have e3 : ∀ y, y = 256 * (256 * (256 * (256 * (256 * (256 * (256 * d7 + (d6 + d7)) + (d5 + d6 + d7)) + (d4 + d5 + d6 + d7)) + (d3 + d4 + d5 + d6)) + (d2 + d3 + d4 + d5)) + (d1 + d2 + d3 + d4)) + (d0 + d1 + d2 + d3) → y + y / 2 ^ 32 = 256 * (256 * (256 * (256 * (256 * (256 * (256 * d7 + (d6 + d7)) + (d5 + d6 + d7)) + (d4 + d5 + d6 + d7)) + (d3 + d4 + d5 + d6 + d7)) + (d2 + d3 + d4 + d5 + d6 + d7)) + (d1 + d2 + d3 + d4 + d5 + d6 + d7)) + (d0 + d1 + d2 + d3 + d4 + d5 + d6 + d7) := fun y hy => by omega
  rw [e1 _ rfl, e2 _ rfl, e3 _ rfl]
  refine ⟨by omega, by omega, by omega, by omega, by omega⟩
theorem bitcL_ok (x : Int64) (μ : xM) : fJL_bitCount x μ = some (nI (cntB (fun j => lb x j) 64)) := by
  have s1 : wN (xshrL x (xc 1)) = wN x / 2 := wN_shr x (xc 1) 1 (by decide)
  have m1 : wN (Int64.ofNat 6148914691236517205) = mk 85 8 := by decide +kernel
  have m2 : wN (Int64.ofNat 3689348814741910323) = mk 51 8 := by decide +kernel
  have m4 : wN (Int64.ofNat 1085102592571150095) = mk 15 8 := by decide +kernel
  have b51 : mk 51 8 < 2 ^ 62 := by decide +kernel
  unfold fJL_bitCount fJL_bitCount_0
  have t : wN (x - (xshrL x (xc 1) &&& Int64.ofNat 6148914691236517205)) = tK 8 (wN x) := by
    rw [wN_sub (by rw [wN_and, s1, m1]; exact Nat.le_trans Nat.and_le_left (Nat.div_le_self _ _)), wN_and, s1, m1]
    rfl
  generalize x - (xshrL x (xc 1) &&& Int64.ofNat 6148914691236517205) = tx at *
  have s2 : wN (xshrL tx (xc 2)) = wN tx / 4 := wN_shr tx (xc 2) 2 (by decide)
  have u : wN ((tx &&& Int64.ofNat 3689348814741910323) + (xshrL tx (xc 2) &&& Int64.ofNat 3689348814741910323)) = uK 8 (wN x) ∧ uK 8 (wN x) < 2 ^ 63 := by
    have a1 : wN tx &&& mk 51 8 < 2 ^ 62 := Nat.lt_of_le_of_lt Nat.and_le_right b51
    have a2 : wN tx / 4 &&& mk 51 8 < 2 ^ 62 := Nat.lt_of_le_of_lt Nat.and_le_right b51
    have e : uK 8 (wN x) = (wN tx &&& mk 51 8) + (wN tx / 4 &&& mk 51 8) := by unfold uK; rw [← t]
    rw [wN_add (by rw [wN_and, wN_and, s2, m2]; omega), wN_and, wN_and, s2, m2, e]
    exact ⟨rfl, by omega⟩
  generalize (tx &&& Int64.ofNat 3689348814741910323) + (xshrL tx (xc 2) &&& Int64.ofNat 3689348814741910323) = ux at *
  have s4 : wN (xshrL ux (xc 4)) = wN ux / 16 := wN_shr ux (xc 4) 4 (by decide)
  have y : wN ((ux + xshrL ux (xc 4)) &&& Int64.ofNat 1085102592571150095) = dK 8 (wN x) := by
    rw [wN_and, wN_add (by rw [s4]; omega), s4, m4, u.1, ← yK_dK]
    rfl
  generalize (ux + xshrL ux (xc 4)) &&& Int64.ofNat 1085102592571150095 = yx at *
  obtain ⟨f0, f1, f2, f3, f4⟩ := fold_ok (wN x)
  rw [← y] at f0 f1 f2 f3 f4
  have s8 : wN (xshrL yx (xc 8)) = wN yx / 2 ^ 8 := wN_shr yx (xc 8) 8 (by decide)
  have y1 : wN (yx + xshrL yx (xc 8)) = wN yx + wN yx / 2 ^ 8 := by rw [wN_add (by rw [s8]; omega), s8]
  generalize yx + xshrL yx (xc 8) = y1x at *
  have s16 : wN (xshrL y1x (xc 16)) = wN y1x / 2 ^ 16 := wN_shr y1x (xc 16) 16 (by decide)
  rw [← y1] at f1 f2 f3 f4
  have y2 : wN (y1x + xshrL y1x (xc 16)) = wN y1x + wN y1x / 2 ^ 16 := by rw [wN_add (by rw [s16]; omega), s16]
  generalize y1x + xshrL y1x (xc 16) = y2x at *
  have s32 : wN (xshrL y2x (xc 32)) = wN y2x / 2 ^ 32 := wN_shr y2x (xc 32) 32 (by decide)
  rw [← y2] at f2 f3 f4
  have y3 : wN (y2x + xshrL y2x (xc 32)) = wN y2x + wN y2x / 2 ^ 32 := by rw [wN_add (by rw [s32]; omega), s32]
  generalize y2x + xshrL y2x (xc 32) = y3x at *
  rw [← y3] at f3 f4
  have fin : Int64.toInt32 y3x &&& xc 127 = nI (wN y3x % 128) := by
    apply Int32.toBitVec_inj.mp
    apply BitVec.eq_of_getLsbD_eq
    intro j hj
    rw [Int32.toBitVec_and, BitVec.getLsbD_and, lb_toI y3x hj, wN_bit]
    show ((wN y3x).testBit j && (BitVec.ofNat 32 127).getLsbD j) = (BitVec.ofNat 32 (wN y3x % 128)).getLsbD j
    rw [BitVec.getLsbD_ofNat, BitVec.getLsbD_ofNat, decide_eq_true hj, Bool.true_and, Bool.true_and, show 127 = 2 ^ 7 - 1 from rfl, Nat.testBit_two_pow_sub_one, show 128 = 2 ^ 7 from rfl, Nat.testBit_mod_two_pow, Bool.and_comm]
  have cn : cntB (fun j => lb x j) 64 = sK 8 (wN x) := cnt_sK 8 (wN x)
  rw [fin, f4, cn]
end COUNT
