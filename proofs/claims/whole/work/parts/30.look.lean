/-! looking up fixed cells, and what the class and the reference hold, under changes (printed in part) -/
theorem xK_s (μ : xM) (a k : Nat) (v : Int32) (c : Nat) : xK (xsI μ a k v) c = xK μ c := rfl
theorem xR_sI (μ : xM) (a k : Nat) (v : Int32) (c j : Nat) : xR (xsI μ a k v) c j = xR μ c j := rfl
theorem xL_sI (μ : xM) (a k : Nat) (v : Int32) (c j : Nat) : xL (xsI μ a k v) c j = xL μ c j := rfl
theorem xI_sL (μ : xM) (a k : Nat) (v : Int64) (c j : Nat) : xI (xsL μ a k v) c j = xI μ c j := rfl
theorem xK_sL (μ : xM) (a k : Nat) (v : Int64) (c : Nat) : xK (xsL μ a k v) c = xK μ c := rfl
theorem xI_eq (μ : xM) (a k : Nat) (v : Int32) : xI (xsI μ a k v) a k = v := if_pos ⟨rfl, rfl⟩
theorem xI_ne {μ : xM} {a k : Nat} {v : Int32} {c j : Nat} (h : ¬ (c = a ∧ j = k)) : xI (xsI μ a k v) c j = xI μ c j := if_neg h
theorem xL_eq (μ : xM) (a k : Nat) (v : Int64) : xL (xsL μ a k v) a k = v := if_pos ⟨rfl, rfl⟩
theorem xL_ne {μ : xM} {a k : Nat} {v : Int64} {c j : Nat} (h : ¬ (c = a ∧ j = k)) : xL (xsL μ a k v) c j = xL μ c j := if_neg h
theorem sh_s (μ : xM) (a k : Nat) (v : Int32) : Sh (xsI μ a k v) = Sh μ := rfl
theorem sh_sL (μ : xM) (a k : Nat) (v : Int64) : Sh (xsL μ a k v) = Sh μ := rfl
theorem xcN (n : Nat) : xc (n : Int) = nI n := rfl
theorem ldF_k {μ : xM} {a ci : Nat} (k : Nat) {n : Nat} (h : xK μ a = (10 + ci, n)) : ldF μ a ci k = some (xI μ a k) := by
  unfold ldF
  rw [h, if_pos rfl]
theorem stF_k {μ : xM} {a ci : Nat} (k : Nat) {n : Nat} (v : Int32) (h : xK μ a = (10 + ci, n)) (h2 : 2 ≤ a) : stF μ a ci k v = some (xsI μ a k v) := by
  unfold stF
  rw [h, if_pos ⟨rfl, h2⟩]
theorem stFZ_k {μ : xM} {a ci : Nat} (k : Nat) {n : Nat} {v : Int32} (h : xK μ a = (10 + ci, n)) (h2 : 2 ≤ a) (hv : v = 0 ∨ v = 1) : stFZ μ a ci k v = some (xsI μ a k v) := by
  unfold stFZ
  rw [h, if_pos ⟨⟨rfl, h2⟩, hv⟩]
theorem ldFL_k {μ : xM} {a ci : Nat} (k : Nat) {n : Nat} (h : xK μ a = (10 + ci, n)) : ldFL μ a ci k = some (xL μ a k) := by
  unfold ldFL
  rw [h, if_pos rfl]
theorem stFL_k {μ : xM} {a ci : Nat} (k : Nat) {n : Nat} (v : Int64) (h : xK μ a = (10 + ci, n)) (h2 : 2 ≤ a) : stFL μ a ci k v = some (xsL μ a k v) := by
  unfold stFL
  rw [h, if_pos ⟨rfl, h2⟩]
theorem ldFR_k {μ : xM} {a ci k : Nat} {n r : Nat} (h : xK μ a = (10 + ci, n)) (hr : xR μ a k = some r) : ldFR μ a ci k = some r := by
  unfold ldFR
  rw [h, if_pos rfl, hr]
theorem gd_k {α : Type} {μ : xM} {a ci n : Nat} {o : Option α} (h : xK μ a = (10 + ci, n)) : xgd μ a ci o = o := by
  unfold xgd
  rw [h, if_pos rfl]
theorem ldA_k {μ : xM} {a N n : Nat} (h : xK μ a = (1, N)) (hn : n < N) (hN : N < 2 ^ 31) : ldA μ a (nI n) = some (xI μ a n) := by
  unfold ldA
  rw [h, nI_clamp (by omega), if_pos ⟨rfl, fun q => by rcases q with q | q; exact nI_pos (by omega) q; exact absurd hn (Nat.not_lt.mpr q)⟩]
theorem stA_k {μ : xM} {a N n : Nat} (v : Int32) (h : xK μ a = (1, N)) (hn : n < N) (hN : N < 2 ^ 31) (h2 : 2 ≤ a) : stA μ a (nI n) v = some (xsI μ a n v) := by
  unfold stA
  rw [h, nI_clamp (by omega), if_pos ⟨⟨rfl, h2⟩, fun q => by rcases q with q | q; exact nI_pos (by omega) q; exact absurd hn (Nat.not_lt.mpr q)⟩]
theorem ldAZ_k {μ : xM} {a N n : Nat} (h : xK μ a = (2, N)) (hn : n < N) (hN : N < 2 ^ 31) : ldAZ μ a (nI n) = some (xI μ a n) := by
  unfold ldAZ
  rw [h, nI_clamp (by omega), if_pos ⟨rfl, fun q => by rcases q with q | q; exact nI_pos (by omega) q; exact absurd hn (Nat.not_lt.mpr q)⟩]
theorem stAZ_k {μ : xM} {a N n : Nat} {v : Int32} (h : xK μ a = (2, N)) (hn : n < N) (hN : N < 2 ^ 31) (h2 : 2 ≤ a) (hv : v = 0 ∨ v = 1) : stAZ μ a (nI n) v = some (xsI μ a n v) := by
  unfold stAZ
  rw [h, nI_clamp (by omega), if_pos ⟨⟨⟨rfl, h2⟩, hv⟩, fun q => by rcases q with q | q; exact nI_pos (by omega) q; exact absurd hn (Nat.not_lt.mpr q)⟩]
theorem ldAL_k {μ : xM} {a N n : Nat} (h : xK μ a = (3, N)) (hn : n < N) (hN : N < 2 ^ 31) : ldAL μ a (nI n) = some (xL μ a n) := by
  unfold ldAL
  rw [h, nI_clamp (by omega), if_pos ⟨rfl, fun q => by rcases q with q | q; exact nI_pos (by omega) q; exact absurd hn (Nat.not_lt.mpr q)⟩]
theorem stAL_k {μ : xM} {a N n : Nat} (v : Int64) (h : xK μ a = (3, N)) (hn : n < N) (hN : N < 2 ^ 31) (h2 : 2 ≤ a) : stAL μ a (nI n) v = some (xsL μ a n v) := by
  unfold stAL
  rw [h, nI_clamp (by omega), if_pos ⟨⟨rfl, h2⟩, fun q => by rcases q with q | q; exact nI_pos (by omega) q; exact absurd hn (Nat.not_lt.mpr q)⟩]
theorem ldAR_k {μ : xM} {a t N n r : Nat} (h : xK μ a = (t, N)) (ht : 4 ≤ t ∧ t ≤ 6) (hn : n < N) (hN : N < 2 ^ 31) (hr : xR μ a n = some r) : ldAR μ a (nI n) = some r := by
  unfold ldAR
  rw [h, nI_clamp (by omega), if_pos ⟨ht, fun q => by rcases q with q | q; exact nI_pos (by omega) q; exact absurd hn (Nat.not_lt.mpr q)⟩, hr]
theorem alen_k {μ : xM} {a t N : Nat} (h : xK μ a = (t, N)) (ht : 1 ≤ t ∧ t ≤ 6) : alen μ a = some (nI N) := by
  unfold alen
  rw [h, if_pos ht]
  rfl
-- loops
theorem xwh_go {σ α : Type} {body : σ → Option (σ ⊕ α)} {s s' : σ} (h : body s = some (.inl s')) {a : α} (h2 : xwh body s' = some a) : xwh body s = some a := by
  obtain ⟨n, hn⟩ := xwh_iff.mp h2
  exact xwh_iff.mpr ⟨n + 1, by unfold xit; rw [h]; exact hn⟩
theorem xwh_stop {σ α : Type} {body : σ → Option (σ ⊕ α)} {s : σ} {a : α} (h : body s = some (.inr a)) : xwh body s = some a := xwh_iff.mpr ⟨1, by unfold xit; rw [h]⟩
theorem xwh_for {σ α : Type} {body : σ → Option (σ ⊕ α)} (s : Nat → σ) (N : Nat) (a : α) (hs : ∀ j, j < N → body (s j) = some (.inl (s (j + 1)))) (he : body (s N) = some (.inr a)) : ∀ k i, i + k = N → xwh body (s i) = some a
  | 0, i, h => by
    have e : i = N := by omega
    rw [e]
    exact xwh_stop he
  | k + 1, i, h => xwh_go (hs i (by omega)) (xwh_for s N a hs he k (i + 1) (by omega))
theorem xwh_inv {σ α : Type} {body : σ → Option (σ ⊕ α)} (I : Nat → σ → Prop) (Q : α → Prop) (N : Nat) (hs : ∀ j s, j < N → I j s → (∃ s', body s = some (.inl s') ∧ I (j + 1) s') ∨ ∃ a, body s = some (.inr a) ∧ Q a) (he : ∀ s, I N s → ∃ a, body s = some (.inr a) ∧ Q a) : ∀ k i s, i + k = N → I i s → ∃ a, xwh body s = some a ∧ Q a
  | 0, i, s, h, hi => by
    have e : i = N := by omega
    subst e
    obtain ⟨a, h1, h2⟩ := he s hi
    exact ⟨a, xwh_stop h1, h2⟩
  | k + 1, i, s, h, hi => by
    rcases hs i s (by omega) hi with ⟨s', h1, h2⟩ | ⟨a, h1, h2⟩
    · obtain ⟨a, h3, h4⟩ := xwh_inv I Q N hs he k (i + 1) s' (by omega) h2
      exact ⟨a, xwh_go h1 h3, h4⟩
    · exact ⟨a, xwh_stop h1, h2⟩
theorem gd2 {α : Type} {μ : xM} (h : Sh μ) (o : Option α) : xgd μ 2 0 o = o := gd_k (kd2 h)
theorem f2 {μ : xM} (h : Sh μ) (k : Nat) : ldF μ 2 0 k = some (xI μ 2 k) := ldF_k k (kd2 h)
theorem fs2 {μ : xM} (h : Sh μ) (k : Nat) (v : Int32) : stF μ 2 0 k v = some (xsI μ 2 k v) := stF_k k v (kd2 h) (by decide)
theorem fz2 {μ : xM} (h : Sh μ) (k : Nat) {v : Int32} (hv : v = 0 ∨ v = 1) : stFZ μ 2 0 k v = some (xsI μ 2 k v) := stFZ_k k (kd2 h) (by decide) hv
theorem g2_0 {μ : xM} (h : Sh μ) : ldFR μ 2 0 0 = some 3 := ldFR_k (kd2 h) (rf2_0 h)
theorem g2_1 {μ : xM} (h : Sh μ) : ldFR μ 2 0 1 = some 92 := ldFR_k (kd2 h) (rf2_1 h)
theorem g2_3 {μ : xM} (h : Sh μ) : ldFR μ 2 0 3 = some 181 := ldFR_k (kd2 h) (rf2_3 h)
theorem g2_4 {μ : xM} (h : Sh μ) : ldFR μ 2 0 4 = some 183 := ldFR_k (kd2 h) (rf2_4 h)
theorem g2_5 {μ : xM} (h : Sh μ) : ldFR μ 2 0 5 = some 185 := ldFR_k (kd2 h) (rf2_5 h)
theorem g2_6 {μ : xM} (h : Sh μ) : ldFR μ 2 0 6 = some 187 := ldFR_k (kd2 h) (rf2_6 h)
theorem g2_7 {μ : xM} (h : Sh μ) : ldFR μ 2 0 7 = some 188 := ldFR_k (kd2 h) (rf2_7 h)
theorem g2_8 {μ : xM} (h : Sh μ) : ldFR μ 2 0 8 = some 193 := ldFR_k (kd2 h) (rf2_8 h)
theorem g2_9 {μ : xM} (h : Sh μ) : ldFR μ 2 0 9 = some 212 := ldFR_k (kd2 h) (rf2_9 h)
theorem gd3 {α : Type} {μ : xM} (h : Sh μ) (o : Option α) : xgd μ 3 3 o = o := gd_k (kd3 h)
theorem f3 {μ : xM} (h : Sh μ) (k : Nat) : ldF μ 3 3 k = some (xI μ 3 k) := ldF_k k (kd3 h)
theorem fs3 {μ : xM} (h : Sh μ) (k : Nat) (v : Int32) : stF μ 3 3 k v = some (xsI μ 3 k v) := stF_k k v (kd3 h) (by decide)
theorem fz3 {μ : xM} (h : Sh μ) (k : Nat) {v : Int32} (hv : v = 0 ∨ v = 1) : stFZ μ 3 3 k v = some (xsI μ 3 k v) := stFZ_k k (kd3 h) (by decide) hv
theorem g3_8 {μ : xM} (h : Sh μ) : ldFR μ 3 3 8 = some 4 := ldFR_k (kd3 h) (rf3_8 h)
theorem g3_9 {μ : xM} (h : Sh μ) : ldFR μ 3 3 9 = some 5 := ldFR_k (kd3 h) (rf3_9 h)
theorem g3_10 {μ : xM} (h : Sh μ) : ldFR μ 3 3 10 = some 6 := ldFR_k (kd3 h) (rf3_10 h)
theorem g3_11 {μ : xM} (h : Sh μ) : ldFR μ 3 3 11 = some 7 := ldFR_k (kd3 h) (rf3_11 h)
theorem g3_12 {μ : xM} (h : Sh μ) : ldFR μ 3 3 12 = some 8 := ldFR_k (kd3 h) (rf3_12 h)
theorem g3_13 {μ : xM} (h : Sh μ) : ldFR μ 3 3 13 = some 9 := ldFR_k (kd3 h) (rf3_13 h)
theorem g3_14 {μ : xM} (h : Sh μ) : ldFR μ 3 3 14 = some 10 := ldFR_k (kd3 h) (rf3_14 h)
theorem g3_15 {μ : xM} (h : Sh μ) : ldFR μ 3 3 15 = some 11 := ldFR_k (kd3 h) (rf3_15 h)
theorem gd92 {α : Type} {μ : xM} (h : Sh μ) (o : Option α) : xgd μ 92 3 o = o := gd_k (kd92 h)
theorem f92 {μ : xM} (h : Sh μ) (k : Nat) : ldF μ 92 3 k = some (xI μ 92 k) := ldF_k k (kd92 h)
theorem fs92 {μ : xM} (h : Sh μ) (k : Nat) (v : Int32) : stF μ 92 3 k v = some (xsI μ 92 k v) := stF_k k v (kd92 h) (by decide)
theorem fz92 {μ : xM} (h : Sh μ) (k : Nat) {v : Int32} (hv : v = 0 ∨ v = 1) : stFZ μ 92 3 k v = some (xsI μ 92 k v) := stFZ_k k (kd92 h) (by decide) hv
theorem g92_8 {μ : xM} (h : Sh μ) : ldFR μ 92 3 8 = some 93 := ldFR_k (kd92 h) (rf92_8 h)
theorem g92_9 {μ : xM} (h : Sh μ) : ldFR μ 92 3 9 = some 94 := ldFR_k (kd92 h) (rf92_9 h)
theorem g92_10 {μ : xM} (h : Sh μ) : ldFR μ 92 3 10 = some 95 := ldFR_k (kd92 h) (rf92_10 h)
theorem g92_11 {μ : xM} (h : Sh μ) : ldFR μ 92 3 11 = some 96 := ldFR_k (kd92 h) (rf92_11 h)
theorem g92_12 {μ : xM} (h : Sh μ) : ldFR μ 92 3 12 = some 97 := ldFR_k (kd92 h) (rf92_12 h)
theorem g92_13 {μ : xM} (h : Sh μ) : ldFR μ 92 3 13 = some 98 := ldFR_k (kd92 h) (rf92_13 h)
theorem g92_14 {μ : xM} (h : Sh μ) : ldFR μ 92 3 14 = some 99 := ldFR_k (kd92 h) (rf92_14 h)
theorem g92_15 {μ : xM} (h : Sh μ) : ldFR μ 92 3 15 = some 100 := ldFR_k (kd92 h) (rf92_15 h)
theorem gd181 {α : Type} {μ : xM} (h : Sh μ) (o : Option α) : xgd μ 181 7 o = o := gd_k (kd181 h)
theorem f181 {μ : xM} (h : Sh μ) (k : Nat) : ldF μ 181 7 k = some (xI μ 181 k) := ldF_k k (kd181 h)
theorem fs181 {μ : xM} (h : Sh μ) (k : Nat) (v : Int32) : stF μ 181 7 k v = some (xsI μ 181 k v) := stF_k k v (kd181 h) (by decide)
theorem fz181 {μ : xM} (h : Sh μ) (k : Nat) {v : Int32} (hv : v = 0 ∨ v = 1) : stFZ μ 181 7 k v = some (xsI μ 181 k v) := stFZ_k k (kd181 h) (by decide) hv
theorem g181_0 {μ : xM} (h : Sh μ) : ldFR μ 181 7 0 = some 182 := ldFR_k (kd181 h) (rf181_0 h)
theorem gd183 {α : Type} {μ : xM} (h : Sh μ) (o : Option α) : xgd μ 183 1 o = o := gd_k (kd183 h)
theorem f183 {μ : xM} (h : Sh μ) (k : Nat) : ldF μ 183 1 k = some (xI μ 183 k) := ldF_k k (kd183 h)
theorem fs183 {μ : xM} (h : Sh μ) (k : Nat) (v : Int32) : stF μ 183 1 k v = some (xsI μ 183 k v) := stF_k k v (kd183 h) (by decide)
theorem fz183 {μ : xM} (h : Sh μ) (k : Nat) {v : Int32} (hv : v = 0 ∨ v = 1) : stFZ μ 183 1 k v = some (xsI μ 183 k v) := stFZ_k k (kd183 h) (by decide) hv
theorem g183_0 {μ : xM} (h : Sh μ) : ldFR μ 183 1 0 = some 184 := ldFR_k (kd183 h) (rf183_0 h)
theorem gd185 {α : Type} {μ : xM} (h : Sh μ) (o : Option α) : xgd μ 185 2 o = o := gd_k (kd185 h)
theorem f185 {μ : xM} (h : Sh μ) (k : Nat) : ldF μ 185 2 k = some (xI μ 185 k) := ldF_k k (kd185 h)
theorem fs185 {μ : xM} (h : Sh μ) (k : Nat) (v : Int32) : stF μ 185 2 k v = some (xsI μ 185 k v) := stF_k k v (kd185 h) (by decide)
theorem fz185 {μ : xM} (h : Sh μ) (k : Nat) {v : Int32} (hv : v = 0 ∨ v = 1) : stFZ μ 185 2 k v = some (xsI μ 185 k v) := stFZ_k k (kd185 h) (by decide) hv
theorem g185_0 {μ : xM} (h : Sh μ) : ldFR μ 185 2 0 = some 186 := ldFR_k (kd185 h) (rf185_0 h)
theorem gd193 {α : Type} {μ : xM} (h : Sh μ) (o : Option α) : xgd μ 193 8 o = o := gd_k (kd193 h)
theorem f193 {μ : xM} (h : Sh μ) (k : Nat) : ldF μ 193 8 k = some (xI μ 193 k) := ldF_k k (kd193 h)
theorem fs193 {μ : xM} (h : Sh μ) (k : Nat) (v : Int32) : stF μ 193 8 k v = some (xsI μ 193 k v) := stF_k k v (kd193 h) (by decide)
theorem fz193 {μ : xM} (h : Sh μ) (k : Nat) {v : Int32} (hv : v = 0 ∨ v = 1) : stFZ μ 193 8 k v = some (xsI μ 193 k v) := stFZ_k k (kd193 h) (by decide) hv
theorem g193_0 {μ : xM} (h : Sh μ) : ldFR μ 193 8 0 = some 194 := ldFR_k (kd193 h) (rf193_0 h)
theorem g193_1 {μ : xM} (h : Sh μ) : ldFR μ 193 8 1 = some 195 := ldFR_k (kd193 h) (rf193_1 h)
theorem g193_2 {μ : xM} (h : Sh μ) : ldFR μ 193 8 2 = some 202 := ldFR_k (kd193 h) (rf193_2 h)
theorem g193_3 {μ : xM} (h : Sh μ) : ldFR μ 193 8 3 = some 211 := ldFR_k (kd193 h) (rf193_3 h)
theorem gd293 {α : Type} {μ : xM} (h : Sh μ) (o : Option α) : xgd μ 293 9 o = o := gd_k (kd293 h)
theorem f293 {μ : xM} (h : Sh μ) (k : Nat) : ldF μ 293 9 k = some (xI μ 293 k) := ldF_k k (kd293 h)
theorem fs293 {μ : xM} (h : Sh μ) (k : Nat) (v : Int32) : stF μ 293 9 k v = some (xsI μ 293 k v) := stF_k k v (kd293 h) (by decide)
theorem fz293 {μ : xM} (h : Sh μ) (k : Nat) {v : Int32} (hv : v = 0 ∨ v = 1) : stFZ μ 293 9 k v = some (xsI μ 293 k v) := stFZ_k k (kd293 h) (by decide) hv
theorem g293_0 {μ : xM} (h : Sh μ) : ldFR μ 293 9 0 = some 294 := ldFR_k (kd293 h) (rf293_0 h)
theorem g293_1 {μ : xM} (h : Sh μ) : ldFR μ 293 9 1 = some 295 := ldFR_k (kd293 h) (rf293_1 h)
theorem g293_2 {μ : xM} (h : Sh μ) : ldFR μ 293 9 2 = some 296 := ldFR_k (kd293 h) (rf293_2 h)
theorem g293_4 {μ : xM} (h : Sh μ) : ldFR μ 293 9 4 = some 297 := ldFR_k (kd293 h) (rf293_4 h)
theorem g293_6 {μ : xM} (h : Sh μ) : ldFR μ 293 9 6 = some 298 := ldFR_k (kd293 h) (rf293_6 h)
theorem g293_10 {μ : xM} (h : Sh μ) : ldFR μ 293 9 10 = some 299 := ldFR_k (kd293 h) (rf293_10 h)
theorem g293_11 {μ : xM} (h : Sh μ) : ldFR μ 293 9 11 = some 300 := ldFR_k (kd293 h) (rf293_11 h)
theorem g293_12 {μ : xM} (h : Sh μ) : ldFR μ 293 9 12 = some 301 := ldFR_k (kd293 h) (rf293_12 h)
theorem g293_13 {μ : xM} (h : Sh μ) : ldFR μ 293 9 13 = some 302 := ldFR_k (kd293 h) (rf293_13 h)
theorem g293_14 {μ : xM} (h : Sh μ) : ldFR μ 293 9 14 = some 303 := ldFR_k (kd293 h) (rf293_14 h)
theorem g293_15 {μ : xM} (h : Sh μ) : ldFR μ 293 9 15 = some 304 := ldFR_k (kd293 h) (rf293_15 h)
theorem g293_16 {μ : xM} (h : Sh μ) : ldFR μ 293 9 16 = some 305 := ldFR_k (kd293 h) (rf293_16 h)
theorem g293_17 {μ : xM} (h : Sh μ) : ldFR μ 293 9 17 = some 306 := ldFR_k (kd293 h) (rf293_17 h)
theorem g293_18 {μ : xM} (h : Sh μ) : ldFR μ 293 9 18 = some 307 := ldFR_k (kd293 h) (rf293_18 h)
theorem g293_19 {μ : xM} (h : Sh μ) : ldFR μ 293 9 19 = some 308 := ldFR_k (kd293 h) (rf293_19 h)
theorem g293_20 {μ : xM} (h : Sh μ) : ldFR μ 293 9 20 = some 309 := ldFR_k (kd293 h) (rf293_20 h)
theorem g293_21 {μ : xM} (h : Sh μ) : ldFR μ 293 9 21 = some 310 := ldFR_k (kd293 h) (rf293_21 h)
theorem g293_22 {μ : xM} (h : Sh μ) : ldFR μ 293 9 22 = some 311 := ldFR_k (kd293 h) (rf293_22 h)
theorem g293_25 {μ : xM} (h : Sh μ) : ldFR μ 293 9 25 = some 312 := ldFR_k (kd293 h) (rf293_25 h)
theorem g293_30 {μ : xM} (h : Sh μ) : ldFR μ 293 9 30 = some 313 := ldFR_k (kd293 h) (rf293_30 h)
theorem g293_31 {μ : xM} (h : Sh μ) : ldFR μ 293 9 31 = some 314 := ldFR_k (kd293 h) (rf293_31 h)
theorem g293_32 {μ : xM} (h : Sh μ) : ldFR μ 293 9 32 = some 315 := ldFR_k (kd293 h) (rf293_32 h)
theorem g293_34 {μ : xM} (h : Sh μ) : ldFR μ 293 9 34 = some 316 := ldFR_k (kd293 h) (rf293_34 h)
theorem g293_37 {μ : xM} (h : Sh μ) : ldFR μ 293 9 37 = some 317 := ldFR_k (kd293 h) (rf293_37 h)
theorem g293_38 {μ : xM} (h : Sh μ) : ldFR μ 293 9 38 = some 318 := ldFR_k (kd293 h) (rf293_38 h)
theorem g293_41 {μ : xM} (h : Sh μ) : ldFR μ 293 9 41 = some 319 := ldFR_k (kd293 h) (rf293_41 h)
theorem g293_42 {μ : xM} (h : Sh μ) : ldFR μ 293 9 42 = some 320 := ldFR_k (kd293 h) (rf293_42 h)
theorem g293_44 {μ : xM} (h : Sh μ) : ldFR μ 293 9 44 = some 321 := ldFR_k (kd293 h) (rf293_44 h)
theorem g293_45 {μ : xM} (h : Sh μ) : ldFR μ 293 9 45 = some 322 := ldFR_k (kd293 h) (rf293_45 h)
theorem g293_46 {μ : xM} (h : Sh μ) : ldFR μ 293 9 46 = some 323 := ldFR_k (kd293 h) (rf293_46 h)
theorem g293_48 {μ : xM} (h : Sh μ) : ldFR μ 293 9 48 = some 324 := ldFR_k (kd293 h) (rf293_48 h)
theorem g293_50 {μ : xM} (h : Sh μ) : ldFR μ 293 9 50 = some 325 := ldFR_k (kd293 h) (rf293_50 h)
theorem g293_51 {μ : xM} (h : Sh μ) : ldFR μ 293 9 51 = some 326 := ldFR_k (kd293 h) (rf293_51 h)
theorem g293_53 {μ : xM} (h : Sh μ) : ldFR μ 293 9 53 = some 327 := ldFR_k (kd293 h) (rf293_53 h)
theorem g293_57 {μ : xM} (h : Sh μ) : ldFR μ 293 9 57 = some 328 := ldFR_k (kd293 h) (rf293_57 h)
theorem g293_58 {μ : xM} (h : Sh μ) : ldFR μ 293 9 58 = some 329 := ldFR_k (kd293 h) (rf293_58 h)
theorem g293_59 {μ : xM} (h : Sh μ) : ldFR μ 293 9 59 = some 330 := ldFR_k (kd293 h) (rf293_59 h)
theorem g293_60 {μ : xM} (h : Sh μ) : ldFR μ 293 9 60 = some 331 := ldFR_k (kd293 h) (rf293_60 h)
theorem g293_62 {μ : xM} (h : Sh μ) : ldFR μ 293 9 62 = some 332 := ldFR_k (kd293 h) (rf293_62 h)
theorem la6 {μ : xM} (h : Sh μ) {n : Nat} (hn : n < 6) : ldA μ 6 (nI n) = some (xI μ 6 n) := ldA_k (kd6 h) hn (by decide)
theorem sa6 {μ : xM} (h : Sh μ) {n : Nat} (v : Int32) (hn : n < 6) : stA μ 6 (nI n) v = some (xsI μ 6 n v) := stA_k v (kd6 h) hn (by decide) (by decide)
theorem la7 {μ : xM} (h : Sh μ) {n : Nat} (hn : n < 10) : ldA μ 7 (nI n) = some (xI μ 7 n) := ldA_k (kd7 h) hn (by decide)
theorem sa7 {μ : xM} (h : Sh μ) {n : Nat} (v : Int32) (hn : n < 10) : stA μ 7 (nI n) v = some (xsI μ 7 n v) := stA_k v (kd7 h) hn (by decide) (by decide)
theorem la8 {μ : xM} (h : Sh μ) {n : Nat} (hn : n < 6) : ldA μ 8 (nI n) = some (xI μ 8 n) := ldA_k (kd8 h) hn (by decide)
theorem sa8 {μ : xM} (h : Sh μ) {n : Nat} (v : Int32) (hn : n < 6) : stA μ 8 (nI n) v = some (xsI μ 8 n v) := stA_k v (kd8 h) hn (by decide) (by decide)
theorem la9 {μ : xM} (h : Sh μ) {n : Nat} (hn : n < 6) : ldA μ 9 (nI n) = some (xI μ 9 n) := ldA_k (kd9 h) hn (by decide)
theorem sa9 {μ : xM} (h : Sh μ) {n : Nat} (v : Int32) (hn : n < 6) : stA μ 9 (nI n) v = some (xsI μ 9 n v) := stA_k v (kd9 h) hn (by decide) (by decide)
theorem la10 {μ : xM} (h : Sh μ) {n : Nat} (hn : n < 6) : ldA μ 10 (nI n) = some (xI μ 10 n) := ldA_k (kd10 h) hn (by decide)
theorem sa10 {μ : xM} (h : Sh μ) {n : Nat} (v : Int32) (hn : n < 6) : stA μ 10 (nI n) v = some (xsI μ 10 n v) := stA_k v (kd10 h) hn (by decide) (by decide)
theorem la11 {μ : xM} (h : Sh μ) {n : Nat} (hn : n < 6) : ldA μ 11 (nI n) = some (xI μ 11 n) := ldA_k (kd11 h) hn (by decide)
theorem sa11 {μ : xM} (h : Sh μ) {n : Nat} (v : Int32) (hn : n < 6) : stA μ 11 (nI n) v = some (xsI μ 11 n v) := stA_k v (kd11 h) hn (by decide) (by decide)
theorem la95 {μ : xM} (h : Sh μ) {n : Nat} (hn : n < 6) : ldA μ 95 (nI n) = some (xI μ 95 n) := ldA_k (kd95 h) hn (by decide)
theorem sa95 {μ : xM} (h : Sh μ) {n : Nat} (v : Int32) (hn : n < 6) : stA μ 95 (nI n) v = some (xsI μ 95 n v) := stA_k v (kd95 h) hn (by decide) (by decide)
theorem la96 {μ : xM} (h : Sh μ) {n : Nat} (hn : n < 10) : ldA μ 96 (nI n) = some (xI μ 96 n) := ldA_k (kd96 h) hn (by decide)
theorem sa96 {μ : xM} (h : Sh μ) {n : Nat} (v : Int32) (hn : n < 10) : stA μ 96 (nI n) v = some (xsI μ 96 n v) := stA_k v (kd96 h) hn (by decide) (by decide)
theorem la97 {μ : xM} (h : Sh μ) {n : Nat} (hn : n < 6) : ldA μ 97 (nI n) = some (xI μ 97 n) := ldA_k (kd97 h) hn (by decide)
theorem sa97 {μ : xM} (h : Sh μ) {n : Nat} (v : Int32) (hn : n < 6) : stA μ 97 (nI n) v = some (xsI μ 97 n v) := stA_k v (kd97 h) hn (by decide) (by decide)
theorem la98 {μ : xM} (h : Sh μ) {n : Nat} (hn : n < 6) : ldA μ 98 (nI n) = some (xI μ 98 n) := ldA_k (kd98 h) hn (by decide)
theorem sa98 {μ : xM} (h : Sh μ) {n : Nat} (v : Int32) (hn : n < 6) : stA μ 98 (nI n) v = some (xsI μ 98 n v) := stA_k v (kd98 h) hn (by decide) (by decide)
theorem la99 {μ : xM} (h : Sh μ) {n : Nat} (hn : n < 6) : ldA μ 99 (nI n) = some (xI μ 99 n) := ldA_k (kd99 h) hn (by decide)
theorem sa99 {μ : xM} (h : Sh μ) {n : Nat} (v : Int32) (hn : n < 6) : stA μ 99 (nI n) v = some (xsI μ 99 n v) := stA_k v (kd99 h) hn (by decide) (by decide)
theorem la100 {μ : xM} (h : Sh μ) {n : Nat} (hn : n < 6) : ldA μ 100 (nI n) = some (xI μ 100 n) := ldA_k (kd100 h) hn (by decide)
theorem sa100 {μ : xM} (h : Sh μ) {n : Nat} (v : Int32) (hn : n < 6) : stA μ 100 (nI n) v = some (xsI μ 100 n v) := stA_k v (kd100 h) hn (by decide) (by decide)
theorem la182 {μ : xM} (h : Sh μ) {n : Nat} (hn : n < 24) : ldA μ 182 (nI n) = some (xI μ 182 n) := ldA_k (kd182 h) hn (by decide)
theorem sa182 {μ : xM} (h : Sh μ) {n : Nat} (v : Int32) (hn : n < 24) : stA μ 182 (nI n) v = some (xsI μ 182 n v) := stA_k v (kd182 h) hn (by decide) (by decide)
theorem la184 {μ : xM} (h : Sh μ) {n : Nat} (hn : n < 60) : ldA μ 184 (nI n) = some (xI μ 184 n) := ldA_k (kd184 h) hn (by decide)
theorem sa184 {μ : xM} (h : Sh μ) {n : Nat} (v : Int32) (hn : n < 60) : stA μ 184 (nI n) v = some (xsI μ 184 n v) := stA_k v (kd184 h) hn (by decide) (by decide)
theorem la186 {μ : xM} (h : Sh μ) {n : Nat} (hn : n < 40) : ldA μ 186 (nI n) = some (xI μ 186 n) := ldA_k (kd186 h) hn (by decide)
theorem sa186 {μ : xM} (h : Sh μ) {n : Nat} (v : Int32) (hn : n < 40) : stA μ 186 (nI n) v = some (xsI μ 186 n v) := stA_k v (kd186 h) hn (by decide) (by decide)
theorem la212 {μ : xM} (h : Sh μ) {n : Nat} (hn : n < 7) : ldA μ 212 (nI n) = some (xI μ 212 n) := ldA_k (kd212 h) hn (by decide)
theorem sa212 {μ : xM} (h : Sh μ) {n : Nat} (v : Int32) (hn : n < 7) : stA μ 212 (nI n) v = some (xsI μ 212 n v) := stA_k v (kd212 h) hn (by decide) (by decide)
theorem la294 {μ : xM} (h : Sh μ) {n : Nat} (hn : n < 3) : ldA μ 294 (nI n) = some (xI μ 294 n) := ldA_k (kd294 h) hn (by decide)
theorem sa294 {μ : xM} (h : Sh μ) {n : Nat} (v : Int32) (hn : n < 3) : stA μ 294 (nI n) v = some (xsI μ 294 n v) := stA_k v (kd294 h) hn (by decide) (by decide)
theorem lz295 {μ : xM} (h : Sh μ) {n : Nat} (hn : n < 3) : ldAZ μ 295 (nI n) = some (xI μ 295 n) := ldAZ_k (kd295 h) hn (by decide)
theorem sz295 {μ : xM} (h : Sh μ) {n : Nat} {v : Int32} (hn : n < 3) (hv : v = 0 ∨ v = 1) : stAZ μ 295 (nI n) v = some (xsI μ 295 n v) := stAZ_k (kd295 h) hn (by decide) (by decide) hv
theorem la296 {μ : xM} (h : Sh μ) {n : Nat} (hn : n < 40) : ldA μ 296 (nI n) = some (xI μ 296 n) := ldA_k (kd296 h) hn (by decide)
theorem sa296 {μ : xM} (h : Sh μ) {n : Nat} (v : Int32) (hn : n < 40) : stA μ 296 (nI n) v = some (xsI μ 296 n v) := stA_k v (kd296 h) hn (by decide) (by decide)
theorem la297 {μ : xM} (h : Sh μ) {n : Nat} (hn : n < 60) : ldA μ 297 (nI n) = some (xI μ 297 n) := ldA_k (kd297 h) hn (by decide)
theorem sa297 {μ : xM} (h : Sh μ) {n : Nat} (v : Int32) (hn : n < 60) : stA μ 297 (nI n) v = some (xsI μ 297 n v) := stA_k v (kd297 h) hn (by decide) (by decide)
theorem la298 {μ : xM} (h : Sh μ) {n : Nat} (hn : n < 24) : ldA μ 298 (nI n) = some (xI μ 298 n) := ldA_k (kd298 h) hn (by decide)
theorem sa298 {μ : xM} (h : Sh μ) {n : Nat} (v : Int32) (hn : n < 24) : stA μ 298 (nI n) v = some (xsI μ 298 n v) := stA_k v (kd298 h) hn (by decide) (by decide)
theorem la299 {μ : xM} (h : Sh μ) {n : Nat} (hn : n < 16) : ldA μ 299 (nI n) = some (xI μ 299 n) := ldA_k (kd299 h) hn (by decide)
theorem sa299 {μ : xM} (h : Sh μ) {n : Nat} (v : Int32) (hn : n < 16) : stA μ 299 (nI n) v = some (xsI μ 299 n v) := stA_k v (kd299 h) hn (by decide) (by decide)
theorem la300 {μ : xM} (h : Sh μ) {n : Nat} (hn : n < 64) : ldA μ 300 (nI n) = some (xI μ 300 n) := ldA_k (kd300 h) hn (by decide)
theorem sa300 {μ : xM} (h : Sh μ) {n : Nat} (v : Int32) (hn : n < 64) : stA μ 300 (nI n) v = some (xsI μ 300 n v) := stA_k v (kd300 h) hn (by decide) (by decide)
theorem la301 {μ : xM} (h : Sh μ) {n : Nat} (hn : n < 64) : ldA μ 301 (nI n) = some (xI μ 301 n) := ldA_k (kd301 h) hn (by decide)
theorem sa301 {μ : xM} (h : Sh μ) {n : Nat} (v : Int32) (hn : n < 64) : stA μ 301 (nI n) v = some (xsI μ 301 n v) := stA_k v (kd301 h) hn (by decide) (by decide)
theorem la302 {μ : xM} (h : Sh μ) {n : Nat} (hn : n < 64) : ldA μ 302 (nI n) = some (xI μ 302 n) := ldA_k (kd302 h) hn (by decide)
theorem sa302 {μ : xM} (h : Sh μ) {n : Nat} (v : Int32) (hn : n < 64) : stA μ 302 (nI n) v = some (xsI μ 302 n v) := stA_k v (kd302 h) hn (by decide) (by decide)
theorem la303 {μ : xM} (h : Sh μ) {n : Nat} (hn : n < 16) : ldA μ 303 (nI n) = some (xI μ 303 n) := ldA_k (kd303 h) hn (by decide)
theorem sa303 {μ : xM} (h : Sh μ) {n : Nat} (v : Int32) (hn : n < 16) : stA μ 303 (nI n) v = some (xsI μ 303 n v) := stA_k v (kd303 h) hn (by decide) (by decide)
theorem la304 {μ : xM} (h : Sh μ) {n : Nat} (hn : n < 48) : ldA μ 304 (nI n) = some (xI μ 304 n) := ldA_k (kd304 h) hn (by decide)
theorem sa304 {μ : xM} (h : Sh μ) {n : Nat} (v : Int32) (hn : n < 48) : stA μ 304 (nI n) v = some (xsI μ 304 n v) := stA_k v (kd304 h) hn (by decide) (by decide)
theorem la305 {μ : xM} (h : Sh μ) {n : Nat} (hn : n < 6) : ldA μ 305 (nI n) = some (xI μ 305 n) := ldA_k (kd305 h) hn (by decide)
theorem sa305 {μ : xM} (h : Sh μ) {n : Nat} (v : Int32) (hn : n < 6) : stA μ 305 (nI n) v = some (xsI μ 305 n v) := stA_k v (kd305 h) hn (by decide) (by decide)
theorem la306 {μ : xM} (h : Sh μ) {n : Nat} (hn : n < 10) : ldA μ 306 (nI n) = some (xI μ 306 n) := ldA_k (kd306 h) hn (by decide)
theorem sa306 {μ : xM} (h : Sh μ) {n : Nat} (v : Int32) (hn : n < 10) : stA μ 306 (nI n) v = some (xsI μ 306 n v) := stA_k v (kd306 h) hn (by decide) (by decide)
theorem la307 {μ : xM} (h : Sh μ) {n : Nat} (hn : n < 6) : ldA μ 307 (nI n) = some (xI μ 307 n) := ldA_k (kd307 h) hn (by decide)
theorem sa307 {μ : xM} (h : Sh μ) {n : Nat} (v : Int32) (hn : n < 6) : stA μ 307 (nI n) v = some (xsI μ 307 n v) := stA_k v (kd307 h) hn (by decide) (by decide)
theorem la308 {μ : xM} (h : Sh μ) {n : Nat} (hn : n < 6) : ldA μ 308 (nI n) = some (xI μ 308 n) := ldA_k (kd308 h) hn (by decide)
theorem sa308 {μ : xM} (h : Sh μ) {n : Nat} (v : Int32) (hn : n < 6) : stA μ 308 (nI n) v = some (xsI μ 308 n v) := stA_k v (kd308 h) hn (by decide) (by decide)
theorem la309 {μ : xM} (h : Sh μ) {n : Nat} (hn : n < 6) : ldA μ 309 (nI n) = some (xI μ 309 n) := ldA_k (kd309 h) hn (by decide)
theorem sa309 {μ : xM} (h : Sh μ) {n : Nat} (v : Int32) (hn : n < 6) : stA μ 309 (nI n) v = some (xsI μ 309 n v) := stA_k v (kd309 h) hn (by decide) (by decide)
theorem la310 {μ : xM} (h : Sh μ) {n : Nat} (hn : n < 6) : ldA μ 310 (nI n) = some (xI μ 310 n) := ldA_k (kd310 h) hn (by decide)
theorem sa310 {μ : xM} (h : Sh μ) {n : Nat} (v : Int32) (hn : n < 6) : stA μ 310 (nI n) v = some (xsI μ 310 n v) := stA_k v (kd310 h) hn (by decide) (by decide)
theorem lz311 {μ : xM} (h : Sh μ) {n : Nat} (hn : n < 6) : ldAZ μ 311 (nI n) = some (xI μ 311 n) := ldAZ_k (kd311 h) hn (by decide)
theorem sz311 {μ : xM} (h : Sh μ) {n : Nat} {v : Int32} (hn : n < 6) (hv : v = 0 ∨ v = 1) : stAZ μ 311 (nI n) v = some (xsI μ 311 n v) := stAZ_k (kd311 h) hn (by decide) (by decide) hv
theorem la312 {μ : xM} (h : Sh μ) {n : Nat} (hn : n < 7) : ldA μ 312 (nI n) = some (xI μ 312 n) := ldA_k (kd312 h) hn (by decide)
theorem sa312 {μ : xM} (h : Sh μ) {n : Nat} (v : Int32) (hn : n < 7) : stA μ 312 (nI n) v = some (xsI μ 312 n v) := stA_k v (kd312 h) hn (by decide) (by decide)
theorem la313 {μ : xM} (h : Sh μ) {n : Nat} (hn : n < 12) : ldA μ 313 (nI n) = some (xI μ 313 n) := ldA_k (kd313 h) hn (by decide)
theorem sa313 {μ : xM} (h : Sh μ) {n : Nat} (v : Int32) (hn : n < 12) : stA μ 313 (nI n) v = some (xsI μ 313 n v) := stA_k v (kd313 h) hn (by decide) (by decide)
theorem la314 {μ : xM} (h : Sh μ) {n : Nat} (hn : n < 12) : ldA μ 314 (nI n) = some (xI μ 314 n) := ldA_k (kd314 h) hn (by decide)
theorem sa314 {μ : xM} (h : Sh μ) {n : Nat} (v : Int32) (hn : n < 12) : stA μ 314 (nI n) v = some (xsI μ 314 n v) := stA_k v (kd314 h) hn (by decide) (by decide)
theorem la315 {μ : xM} (h : Sh μ) {n : Nat} (hn : n < 12) : ldA μ 315 (nI n) = some (xI μ 315 n) := ldA_k (kd315 h) hn (by decide)
theorem sa315 {μ : xM} (h : Sh μ) {n : Nat} (v : Int32) (hn : n < 12) : stA μ 315 (nI n) v = some (xsI μ 315 n v) := stA_k v (kd315 h) hn (by decide) (by decide)
theorem la316 {μ : xM} (h : Sh μ) {n : Nat} (hn : n < 3) : ldA μ 316 (nI n) = some (xI μ 316 n) := ldA_k (kd316 h) hn (by decide)
theorem sa316 {μ : xM} (h : Sh μ) {n : Nat} (v : Int32) (hn : n < 3) : stA μ 316 (nI n) v = some (xsI μ 316 n v) := stA_k v (kd316 h) hn (by decide) (by decide)
theorem la317 {μ : xM} (h : Sh μ) {n : Nat} (hn : n < 4) : ldA μ 317 (nI n) = some (xI μ 317 n) := ldA_k (kd317 h) hn (by decide)
theorem sa317 {μ : xM} (h : Sh μ) {n : Nat} (v : Int32) (hn : n < 4) : stA μ 317 (nI n) v = some (xsI μ 317 n v) := stA_k v (kd317 h) hn (by decide) (by decide)
theorem la318 {μ : xM} (h : Sh μ) {n : Nat} (hn : n < 7) : ldA μ 318 (nI n) = some (xI μ 318 n) := ldA_k (kd318 h) hn (by decide)
theorem sa318 {μ : xM} (h : Sh μ) {n : Nat} (v : Int32) (hn : n < 7) : stA μ 318 (nI n) v = some (xsI μ 318 n v) := stA_k v (kd318 h) hn (by decide) (by decide)
theorem la319 {μ : xM} (h : Sh μ) {n : Nat} (hn : n < 12) : ldA μ 319 (nI n) = some (xI μ 319 n) := ldA_k (kd319 h) hn (by decide)
theorem sa319 {μ : xM} (h : Sh μ) {n : Nat} (v : Int32) (hn : n < 12) : stA μ 319 (nI n) v = some (xsI μ 319 n v) := stA_k v (kd319 h) hn (by decide) (by decide)
theorem la320 {μ : xM} (h : Sh μ) {n : Nat} (hn : n < 12) : ldA μ 320 (nI n) = some (xI μ 320 n) := ldA_k (kd320 h) hn (by decide)
theorem sa320 {μ : xM} (h : Sh μ) {n : Nat} (v : Int32) (hn : n < 12) : stA μ 320 (nI n) v = some (xsI μ 320 n v) := stA_k v (kd320 h) hn (by decide) (by decide)
theorem la321 {μ : xM} (h : Sh μ) {n : Nat} (hn : n < 4) : ldA μ 321 (nI n) = some (xI μ 321 n) := ldA_k (kd321 h) hn (by decide)
theorem sa321 {μ : xM} (h : Sh μ) {n : Nat} (v : Int32) (hn : n < 4) : stA μ 321 (nI n) v = some (xsI μ 321 n v) := stA_k v (kd321 h) hn (by decide) (by decide)
theorem la322 {μ : xM} (h : Sh μ) {n : Nat} (hn : n < 4) : ldA μ 322 (nI n) = some (xI μ 322 n) := ldA_k (kd322 h) hn (by decide)
theorem sa322 {μ : xM} (h : Sh μ) {n : Nat} (v : Int32) (hn : n < 4) : stA μ 322 (nI n) v = some (xsI μ 322 n v) := stA_k v (kd322 h) hn (by decide) (by decide)
theorem la323 {μ : xM} (h : Sh μ) {n : Nat} (hn : n < 4) : ldA μ 323 (nI n) = some (xI μ 323 n) := ldA_k (kd323 h) hn (by decide)
theorem sa323 {μ : xM} (h : Sh μ) {n : Nat} (v : Int32) (hn : n < 4) : stA μ 323 (nI n) v = some (xsI μ 323 n v) := stA_k v (kd323 h) hn (by decide) (by decide)
theorem la324 {μ : xM} (h : Sh μ) {n : Nat} (hn : n < 3) : ldA μ 324 (nI n) = some (xI μ 324 n) := ldA_k (kd324 h) hn (by decide)
theorem sa324 {μ : xM} (h : Sh μ) {n : Nat} (v : Int32) (hn : n < 3) : stA μ 324 (nI n) v = some (xsI μ 324 n v) := stA_k v (kd324 h) hn (by decide) (by decide)
theorem lz325 {μ : xM} (h : Sh μ) {n : Nat} (hn : n < 343) : ldAZ μ 325 (nI n) = some (xI μ 325 n) := ldAZ_k (kd325 h) hn (by decide)
theorem sz325 {μ : xM} (h : Sh μ) {n : Nat} {v : Int32} (hn : n < 343) (hv : v = 0 ∨ v = 1) : stAZ μ 325 (nI n) v = some (xsI μ 325 n v) := stAZ_k (kd325 h) hn (by decide) (by decide) hv
theorem la326 {μ : xM} (h : Sh μ) {n : Nat} (hn : n < 7) : ldA μ 326 (nI n) = some (xI μ 326 n) := ldA_k (kd326 h) hn (by decide)
theorem sa326 {μ : xM} (h : Sh μ) {n : Nat} (v : Int32) (hn : n < 7) : stA μ 326 (nI n) v = some (xsI μ 326 n v) := stA_k v (kd326 h) hn (by decide) (by decide)
theorem la327 {μ : xM} (h : Sh μ) {n : Nat} (hn : n < 300) : ldA μ 327 (nI n) = some (xI μ 327 n) := ldA_k (kd327 h) hn (by decide)
theorem sa327 {μ : xM} (h : Sh μ) {n : Nat} (v : Int32) (hn : n < 300) : stA μ 327 (nI n) v = some (xsI μ 327 n v) := stA_k v (kd327 h) hn (by decide) (by decide)
theorem lz328 {μ : xM} (h : Sh μ) {n : Nat} (hn : n < 4096) : ldAZ μ 328 (nI n) = some (xI μ 328 n) := ldAZ_k (kd328 h) hn (by decide)
theorem sz328 {μ : xM} (h : Sh μ) {n : Nat} {v : Int32} (hn : n < 4096) (hv : v = 0 ∨ v = 1) : stAZ μ 328 (nI n) v = some (xsI μ 328 n v) := stAZ_k (kd328 h) hn (by decide) (by decide) hv
theorem la329 {μ : xM} (h : Sh μ) {n : Nat} (hn : n < 4096) : ldA μ 329 (nI n) = some (xI μ 329 n) := ldA_k (kd329 h) hn (by decide)
theorem sa329 {μ : xM} (h : Sh μ) {n : Nat} (v : Int32) (hn : n < 4096) : stA μ 329 (nI n) v = some (xsI μ 329 n v) := stA_k v (kd329 h) hn (by decide) (by decide)
theorem lz330 {μ : xM} (h : Sh μ) {n : Nat} (hn : n < 24576) : ldAZ μ 330 (nI n) = some (xI μ 330 n) := ldAZ_k (kd330 h) hn (by decide)
theorem sz330 {μ : xM} (h : Sh μ) {n : Nat} {v : Int32} (hn : n < 24576) (hv : v = 0 ∨ v = 1) : stAZ μ 330 (nI n) v = some (xsI μ 330 n v) := stAZ_k (kd330 h) hn (by decide) (by decide) hv
theorem lz331 {μ : xM} (h : Sh μ) {n : Nat} (hn : n < 640) : ldAZ μ 331 (nI n) = some (xI μ 331 n) := ldAZ_k (kd331 h) hn (by decide)
theorem sz331 {μ : xM} (h : Sh μ) {n : Nat} {v : Int32} (hn : n < 640) (hv : v = 0 ∨ v = 1) : stAZ μ 331 (nI n) v = some (xsI μ 331 n v) := stAZ_k (kd331 h) hn (by decide) (by decide) hv
theorem la332 {μ : xM} (h : Sh μ) {n : Nat} (hn : n < 100) : ldA μ 332 (nI n) = some (xI μ 332 n) := ldA_k (kd332 h) hn (by decide)
theorem sa332 {μ : xM} (h : Sh μ) {n : Nat} (v : Int32) (hn : n < 100) : stA μ 332 (nI n) v = some (xsI μ 332 n v) := stA_k v (kd332 h) hn (by decide) (by decide)
-- pictures
def IsPic (μ : xM) (p m : Nat) : Prop := 2 ≤ p ∧ m ≤ 12 ∧ xK μ p = (15, 8) ∧ xK μ (p + 1) = (1, 3) ∧ xK μ (p + 2) = (1, m) ∧ xK μ (p + 3) = (1, m) ∧ xK μ (p + 4) = (1, m) ∧ xR μ p 1 = some (p + 2) ∧ xR μ p 2 = some (p + 3) ∧ xR μ p 3 = some (p + 4) ∧ xR μ p 5 = some (p + 1)
theorem isPic_s (μ : xM) (a k : Nat) (v : Int32) (p m : Nat) : IsPic (xsI μ a k v) p m = IsPic μ p m := rfl
theorem sh_pic {μ : xM} (h : Sh μ) (p m : Nat) (h2 : 2 ≤ p) (h3 : p + 4 < 333) (hm : m ≤ 12)
    (hc : (shK.getD p (0, 0), shK.getD (p + 1) (0, 0), shK.getD (p + 2) (0, 0), shK.getD (p + 3) (0, 0), shK.getD (p + 4) (0, 0), (shR.getD p []).getD 1 none, (shR.getD p []).getD 2 none, (shR.getD p []).getD 3 none, (shR.getD p []).getD 5 none) = ((15, 8), (1, 3), (1, m), (1, m), (1, m), some (p + 2), some (p + 3), some (p + 4), some (p + 1))) : IsPic μ p m := by
  injection hc with c1 hc
  injection hc with c2 hc
  injection hc with c3 hc
  injection hc with c4 hc
  injection hc with c5 hc
  injection hc with c6 hc
  injection hc with c7 hc
  injection hc with c8 c9
  exact ⟨h2, hm, (h.2.1 p (by omega) (by omega)).trans c1, (h.2.1 _ (by omega) (by omega)).trans c2, (h.2.1 _ (by omega) (by omega)).trans c3, (h.2.1 _ (by omega) (by omega)).trans c4, (h.2.1 _ (by omega) (by omega)).trans c5, (h.2.2 _ _ (by omega) (by omega)).trans c6, (h.2.2 _ _ (by omega) (by omega)).trans c7, (h.2.2 _ _ (by omega) (by omega)).trans c8, (h.2.2 _ _ (by omega) (by omega)).trans c9⟩
theorem pic_ask {μ : xM} (h : Sh μ) : ∀ i, i < 10 → IsPic μ (12 + 5 * i) 4
  | 0, _ => sh_pic h _ _ (by decide) (by decide) (by decide) rfl
  | 1, _ => sh_pic h _ _ (by decide) (by decide) (by decide) rfl
  | 2, _ => sh_pic h _ _ (by decide) (by decide) (by decide) rfl
  | 3, _ => sh_pic h _ _ (by decide) (by decide) (by decide) rfl
  | 4, _ => sh_pic h _ _ (by decide) (by decide) (by decide) rfl
  | 5, _ => sh_pic h _ _ (by decide) (by decide) (by decide) rfl
  | 6, _ => sh_pic h _ _ (by decide) (by decide) (by decide) rfl
  | 7, _ => sh_pic h _ _ (by decide) (by decide) (by decide) rfl
  | 8, _ => sh_pic h _ _ (by decide) (by decide) (by decide) rfl
  | 9, _ => sh_pic h _ _ (by decide) (by decide) (by decide) rfl
  | _ + 10, h2 => absurd h2 (by omega)
theorem pic_view {μ : xM} (h : Sh μ) : ∀ i, i < 6 → IsPic μ (62 + 5 * i) 4
  | 0, _ => sh_pic h _ _ (by decide) (by decide) (by decide) rfl
  | 1, _ => sh_pic h _ _ (by decide) (by decide) (by decide) rfl
  | 2, _ => sh_pic h _ _ (by decide) (by decide) (by decide) rfl
  | 3, _ => sh_pic h _ _ (by decide) (by decide) (by decide) rfl
  | 4, _ => sh_pic h _ _ (by decide) (by decide) (by decide) rfl
  | 5, _ => sh_pic h _ _ (by decide) (by decide) (by decide) rfl
  | _ + 6, h2 => absurd h2 (by omega)
theorem pic_task {μ : xM} (h : Sh μ) : ∀ i, i < 10 → IsPic μ (101 + 5 * i) 4
  | 0, _ => sh_pic h _ _ (by decide) (by decide) (by decide) rfl
  | 1, _ => sh_pic h _ _ (by decide) (by decide) (by decide) rfl
  | 2, _ => sh_pic h _ _ (by decide) (by decide) (by decide) rfl
  | 3, _ => sh_pic h _ _ (by decide) (by decide) (by decide) rfl
  | 4, _ => sh_pic h _ _ (by decide) (by decide) (by decide) rfl
  | 5, _ => sh_pic h _ _ (by decide) (by decide) (by decide) rfl
  | 6, _ => sh_pic h _ _ (by decide) (by decide) (by decide) rfl
  | 7, _ => sh_pic h _ _ (by decide) (by decide) (by decide) rfl
  | 8, _ => sh_pic h _ _ (by decide) (by decide) (by decide) rfl
  | 9, _ => sh_pic h _ _ (by decide) (by decide) (by decide) rfl
  | _ + 10, h2 => absurd h2 (by omega)
theorem pic_tview {μ : xM} (h : Sh μ) : ∀ i, i < 6 → IsPic μ (151 + 5 * i) 4
  | 0, _ => sh_pic h _ _ (by decide) (by decide) (by decide) rfl
  | 1, _ => sh_pic h _ _ (by decide) (by decide) (by decide) rfl
  | 2, _ => sh_pic h _ _ (by decide) (by decide) (by decide) rfl
  | 3, _ => sh_pic h _ _ (by decide) (by decide) (by decide) rfl
  | 4, _ => sh_pic h _ _ (by decide) (by decide) (by decide) rfl
  | 5, _ => sh_pic h _ _ (by decide) (by decide) (by decide) rfl
  | _ + 6, h2 => absurd h2 (by omega)
theorem pic_end {μ : xM} (h : Sh μ) : ∀ i, i < 10 → IsPic μ (214 + 8 * i) 4
  | 0, _ => sh_pic h _ _ (by decide) (by decide) (by decide) rfl
  | 1, _ => sh_pic h _ _ (by decide) (by decide) (by decide) rfl
  | 2, _ => sh_pic h _ _ (by decide) (by decide) (by decide) rfl
  | 3, _ => sh_pic h _ _ (by decide) (by decide) (by decide) rfl
  | 4, _ => sh_pic h _ _ (by decide) (by decide) (by decide) rfl
  | 5, _ => sh_pic h _ _ (by decide) (by decide) (by decide) rfl
  | 6, _ => sh_pic h _ _ (by decide) (by decide) (by decide) rfl
  | 7, _ => sh_pic h _ _ (by decide) (by decide) (by decide) rfl
  | 8, _ => sh_pic h _ _ (by decide) (by decide) (by decide) rfl
  | 9, _ => sh_pic h _ _ (by decide) (by decide) (by decide) rfl
  | _ + 10, h2 => absurd h2 (by omega)
theorem pic_opened {μ : xM} (h : Sh μ) : IsPic μ 188 12 := sh_pic h _ _ (by decide) (by decide) (by decide) rfl
theorem ar_ask {μ : xM} (h : Sh μ) : ∀ {i : Nat}, i < 10 → ldAR μ 4 (nI i) = some (12 + 5 * i)
  | 0, _ => ldAR_k (kd4 h) (by decide) (by decide) (by decide) ((h.2.2 4 0 (by decide) (by decide)).trans rfl)
  | 1, _ => ldAR_k (kd4 h) (by decide) (by decide) (by decide) ((h.2.2 4 1 (by decide) (by decide)).trans rfl)
  | 2, _ => ldAR_k (kd4 h) (by decide) (by decide) (by decide) ((h.2.2 4 2 (by decide) (by decide)).trans rfl)
  | 3, _ => ldAR_k (kd4 h) (by decide) (by decide) (by decide) ((h.2.2 4 3 (by decide) (by decide)).trans rfl)
  | 4, _ => ldAR_k (kd4 h) (by decide) (by decide) (by decide) ((h.2.2 4 4 (by decide) (by decide)).trans rfl)
  | 5, _ => ldAR_k (kd4 h) (by decide) (by decide) (by decide) ((h.2.2 4 5 (by decide) (by decide)).trans rfl)
  | 6, _ => ldAR_k (kd4 h) (by decide) (by decide) (by decide) ((h.2.2 4 6 (by decide) (by decide)).trans rfl)
  | 7, _ => ldAR_k (kd4 h) (by decide) (by decide) (by decide) ((h.2.2 4 7 (by decide) (by decide)).trans rfl)
  | 8, _ => ldAR_k (kd4 h) (by decide) (by decide) (by decide) ((h.2.2 4 8 (by decide) (by decide)).trans rfl)
  | 9, _ => ldAR_k (kd4 h) (by decide) (by decide) (by decide) ((h.2.2 4 9 (by decide) (by decide)).trans rfl)
  | _ + 10, h2 => absurd h2 (by omega)
theorem ar_view {μ : xM} (h : Sh μ) : ∀ {i : Nat}, i < 6 → ldAR μ 5 (nI i) = some (62 + 5 * i)
  | 0, _ => ldAR_k (kd5 h) (by decide) (by decide) (by decide) ((h.2.2 5 0 (by decide) (by decide)).trans rfl)
  | 1, _ => ldAR_k (kd5 h) (by decide) (by decide) (by decide) ((h.2.2 5 1 (by decide) (by decide)).trans rfl)
  | 2, _ => ldAR_k (kd5 h) (by decide) (by decide) (by decide) ((h.2.2 5 2 (by decide) (by decide)).trans rfl)
  | 3, _ => ldAR_k (kd5 h) (by decide) (by decide) (by decide) ((h.2.2 5 3 (by decide) (by decide)).trans rfl)
  | 4, _ => ldAR_k (kd5 h) (by decide) (by decide) (by decide) ((h.2.2 5 4 (by decide) (by decide)).trans rfl)
  | 5, _ => ldAR_k (kd5 h) (by decide) (by decide) (by decide) ((h.2.2 5 5 (by decide) (by decide)).trans rfl)
  | _ + 6, h2 => absurd h2 (by omega)
theorem ar_task {μ : xM} (h : Sh μ) : ∀ {i : Nat}, i < 10 → ldAR μ 93 (nI i) = some (101 + 5 * i)
  | 0, _ => ldAR_k (kd93 h) (by decide) (by decide) (by decide) ((h.2.2 93 0 (by decide) (by decide)).trans rfl)
  | 1, _ => ldAR_k (kd93 h) (by decide) (by decide) (by decide) ((h.2.2 93 1 (by decide) (by decide)).trans rfl)
  | 2, _ => ldAR_k (kd93 h) (by decide) (by decide) (by decide) ((h.2.2 93 2 (by decide) (by decide)).trans rfl)
  | 3, _ => ldAR_k (kd93 h) (by decide) (by decide) (by decide) ((h.2.2 93 3 (by decide) (by decide)).trans rfl)
  | 4, _ => ldAR_k (kd93 h) (by decide) (by decide) (by decide) ((h.2.2 93 4 (by decide) (by decide)).trans rfl)
  | 5, _ => ldAR_k (kd93 h) (by decide) (by decide) (by decide) ((h.2.2 93 5 (by decide) (by decide)).trans rfl)
  | 6, _ => ldAR_k (kd93 h) (by decide) (by decide) (by decide) ((h.2.2 93 6 (by decide) (by decide)).trans rfl)
  | 7, _ => ldAR_k (kd93 h) (by decide) (by decide) (by decide) ((h.2.2 93 7 (by decide) (by decide)).trans rfl)
  | 8, _ => ldAR_k (kd93 h) (by decide) (by decide) (by decide) ((h.2.2 93 8 (by decide) (by decide)).trans rfl)
  | 9, _ => ldAR_k (kd93 h) (by decide) (by decide) (by decide) ((h.2.2 93 9 (by decide) (by decide)).trans rfl)
  | _ + 10, h2 => absurd h2 (by omega)
theorem ar_tview {μ : xM} (h : Sh μ) : ∀ {i : Nat}, i < 6 → ldAR μ 94 (nI i) = some (151 + 5 * i)
  | 0, _ => ldAR_k (kd94 h) (by decide) (by decide) (by decide) ((h.2.2 94 0 (by decide) (by decide)).trans rfl)
  | 1, _ => ldAR_k (kd94 h) (by decide) (by decide) (by decide) ((h.2.2 94 1 (by decide) (by decide)).trans rfl)
  | 2, _ => ldAR_k (kd94 h) (by decide) (by decide) (by decide) ((h.2.2 94 2 (by decide) (by decide)).trans rfl)
  | 3, _ => ldAR_k (kd94 h) (by decide) (by decide) (by decide) ((h.2.2 94 3 (by decide) (by decide)).trans rfl)
  | 4, _ => ldAR_k (kd94 h) (by decide) (by decide) (by decide) ((h.2.2 94 4 (by decide) (by decide)).trans rfl)
  | 5, _ => ldAR_k (kd94 h) (by decide) (by decide) (by decide) ((h.2.2 94 5 (by decide) (by decide)).trans rfl)
  | _ + 6, h2 => absurd h2 (by omega)
theorem ar_sight {μ : xM} (h : Sh μ) : ∀ {i : Nat}, i < 10 → ldAR μ 187 (nI i) = some (213 + 8 * i)
  | 0, _ => ldAR_k (kd187 h) (by decide) (by decide) (by decide) ((h.2.2 187 0 (by decide) (by decide)).trans rfl)
  | 1, _ => ldAR_k (kd187 h) (by decide) (by decide) (by decide) ((h.2.2 187 1 (by decide) (by decide)).trans rfl)
  | 2, _ => ldAR_k (kd187 h) (by decide) (by decide) (by decide) ((h.2.2 187 2 (by decide) (by decide)).trans rfl)
  | 3, _ => ldAR_k (kd187 h) (by decide) (by decide) (by decide) ((h.2.2 187 3 (by decide) (by decide)).trans rfl)
  | 4, _ => ldAR_k (kd187 h) (by decide) (by decide) (by decide) ((h.2.2 187 4 (by decide) (by decide)).trans rfl)
  | 5, _ => ldAR_k (kd187 h) (by decide) (by decide) (by decide) ((h.2.2 187 5 (by decide) (by decide)).trans rfl)
  | 6, _ => ldAR_k (kd187 h) (by decide) (by decide) (by decide) ((h.2.2 187 6 (by decide) (by decide)).trans rfl)
  | 7, _ => ldAR_k (kd187 h) (by decide) (by decide) (by decide) ((h.2.2 187 7 (by decide) (by decide)).trans rfl)
  | 8, _ => ldAR_k (kd187 h) (by decide) (by decide) (by decide) ((h.2.2 187 8 (by decide) (by decide)).trans rfl)
  | 9, _ => ldAR_k (kd187 h) (by decide) (by decide) (by decide) ((h.2.2 187 9 (by decide) (by decide)).trans rfl)
  | _ + 10, h2 => absurd h2 (by omega)
theorem ar_agr {μ : xM} (h : Sh μ) : ∀ {i : Nat}, i < 6 → ldAR μ 195 (nI i) = some (196 + i)
  | 0, _ => ldAR_k (kd195 h) (by decide) (by decide) (by decide) ((h.2.2 195 0 (by decide) (by decide)).trans rfl)
  | 1, _ => ldAR_k (kd195 h) (by decide) (by decide) (by decide) ((h.2.2 195 1 (by decide) (by decide)).trans rfl)
  | 2, _ => ldAR_k (kd195 h) (by decide) (by decide) (by decide) ((h.2.2 195 2 (by decide) (by decide)).trans rfl)
  | 3, _ => ldAR_k (kd195 h) (by decide) (by decide) (by decide) ((h.2.2 195 3 (by decide) (by decide)).trans rfl)
  | 4, _ => ldAR_k (kd195 h) (by decide) (by decide) (by decide) ((h.2.2 195 4 (by decide) (by decide)).trans rfl)
  | 5, _ => ldAR_k (kd195 h) (by decide) (by decide) (by decide) ((h.2.2 195 5 (by decide) (by decide)).trans rfl)
  | _ + 6, h2 => absurd h2 (by omega)
theorem ar_giv {μ : xM} (h : Sh μ) : ∀ {i : Nat}, i < 8 → ldAR μ 202 (nI i) = some (203 + i)
  | 0, _ => ldAR_k (kd202 h) (by decide) (by decide) (by decide) ((h.2.2 202 0 (by decide) (by decide)).trans rfl)
  | 1, _ => ldAR_k (kd202 h) (by decide) (by decide) (by decide) ((h.2.2 202 1 (by decide) (by decide)).trans rfl)
  | 2, _ => ldAR_k (kd202 h) (by decide) (by decide) (by decide) ((h.2.2 202 2 (by decide) (by decide)).trans rfl)
  | 3, _ => ldAR_k (kd202 h) (by decide) (by decide) (by decide) ((h.2.2 202 3 (by decide) (by decide)).trans rfl)
  | 4, _ => ldAR_k (kd202 h) (by decide) (by decide) (by decide) ((h.2.2 202 4 (by decide) (by decide)).trans rfl)
  | 5, _ => ldAR_k (kd202 h) (by decide) (by decide) (by decide) ((h.2.2 202 5 (by decide) (by decide)).trans rfl)
  | 6, _ => ldAR_k (kd202 h) (by decide) (by decide) (by decide) ((h.2.2 202 6 (by decide) (by decide)).trans rfl)
  | 7, _ => ldAR_k (kd202 h) (by decide) (by decide) (by decide) ((h.2.2 202 7 (by decide) (by decide)).trans rfl)
  | _ + 8, h2 => absurd h2 (by omega)
def IsSight (μ : xM) (s : Nat) : Prop := 2 ≤ s ∧ xK μ s = (16, 10) ∧ xR μ s 0 = some (s + 1) ∧ xR μ s 1 = some (s + 6) ∧ xR μ s 4 = some (s + 7) ∧ xK μ (s + 6) = (1, 12) ∧ xK μ (s + 7) = (3, 64) ∧ IsPic μ (s + 1) 4
theorem sight_at {μ : xM} (h : Sh μ) : ∀ i, i < 10 → IsSight μ (213 + 8 * i)
  | 0, _ => ⟨by decide, kd213 h, rf213_0 h, rf213_1 h, rf213_4 h, kd219 h, kd220 h, pic_end h 0 (by decide)⟩
  | 1, _ => ⟨by decide, kd221 h, rf221_0 h, rf221_1 h, rf221_4 h, kd227 h, kd228 h, pic_end h 1 (by decide)⟩
  | 2, _ => ⟨by decide, kd229 h, rf229_0 h, rf229_1 h, rf229_4 h, kd235 h, kd236 h, pic_end h 2 (by decide)⟩
  | 3, _ => ⟨by decide, kd237 h, rf237_0 h, rf237_1 h, rf237_4 h, kd243 h, kd244 h, pic_end h 3 (by decide)⟩
  | 4, _ => ⟨by decide, kd245 h, rf245_0 h, rf245_1 h, rf245_4 h, kd251 h, kd252 h, pic_end h 4 (by decide)⟩
  | 5, _ => ⟨by decide, kd253 h, rf253_0 h, rf253_1 h, rf253_4 h, kd259 h, kd260 h, pic_end h 5 (by decide)⟩
  | 6, _ => ⟨by decide, kd261 h, rf261_0 h, rf261_1 h, rf261_4 h, kd267 h, kd268 h, pic_end h 6 (by decide)⟩
  | 7, _ => ⟨by decide, kd269 h, rf269_0 h, rf269_1 h, rf269_4 h, kd275 h, kd276 h, pic_end h 7 (by decide)⟩
  | 8, _ => ⟨by decide, kd277 h, rf277_0 h, rf277_1 h, rf277_4 h, kd283 h, kd284 h, pic_end h 8 (by decide)⟩
  | 9, _ => ⟨by decide, kd285 h, rf285_0 h, rf285_1 h, rf285_4 h, kd291 h, kd292 h, pic_end h 9 (by decide)⟩
  | _ + 10, h2 => absurd h2 (by omega)
