/-! long words by their bits; the class leads rows -/
def lb (x : Int64) (j : Nat) : Bool := x.toBitVec.getLsbD j
theorem lb_ext {x y : Int64} (h : ∀ j, j < 64 → lb x j = lb y j) : x = y := Int64.toBitVec_inj.mp (BitVec.eq_of_getLsbD_eq h)
theorem lb_ge {x : Int64} {j : Nat} (h : 64 ≤ j) : lb x j = false := BitVec.getLsbD_of_ge _ _ h
theorem lb_and (x y : Int64) (j : Nat) : lb (x &&& y) j = (lb x j && lb y j) := BitVec.getLsbD_and
theorem lb_or (x y : Int64) (j : Nat) : lb (x ||| y) j = (lb x j || lb y j) := BitVec.getLsbD_or
theorem lb_xor (x y : Int64) (j : Nat) : lb (x ^^^ y) j = ((lb x j) ^^ (lb y j)) := BitVec.getLsbD_xor
theorem lb_N (n j : Nat) : lb (Int64.ofNat n) j = (decide (j < 64) && n.testBit j) := BitVec.getLsbD_ofNat 64 n j
theorem sh63 : ∀ k, k < 64 → ((Int32.toInt64 (nI k) &&& 63).toBitVec.smod 64).toNat = k := by decide +kernel
theorem lb_shl (x : Int64) {k : Nat} (hk : k < 64) (j : Nat) : lb (x <<< (Int32.toInt64 (nI k) &&& 63)) j = (decide (j < 64) && !decide (j < k) && lb x (j - k)) := by
  unfold lb
  rw [Int64.toBitVec_shiftLeft]
  refine (BitVec.getLsbD_shiftLeft').trans ?_
  rw [sh63 k hk]
theorem lb_shr (x : Int64) {k : Nat} (hk : k < 64) (j : Nat) : lb (x >>> (Int32.toInt64 (nI k) &&& 63)) j = (!decide (64 ≤ j) && if k + j < 64 then lb x (k + j) else lb x 63) := by
  unfold lb
  rw [Int64.toBitVec_shiftRight]
  refine (BitVec.getLsbD_sshiftRight').trans ?_
  rw [sh63 k hk, BitVec.msb_eq_getLsbD_last]
theorem lb_toI (x : Int64) {j : Nat} (hj : j < 32) : (Int64.toInt32 x).toBitVec.getLsbD j = lb x j := by
  show (x.toBitVec.signExtend 32).getLsbD j = _
  rw [BitVec.getLsbD_signExtend, if_pos (by omega), decide_eq_true hj, Bool.true_and]
  rfl
theorem nI_lb (n j : Nat) : (nI n).toBitVec.getLsbD j = (decide (j < 32) && n.testBit j) := BitVec.getLsbD_ofNat 32 n j
theorem nI_ext {x y : Int32} (h : ∀ j, j < 32 → x.toBitVec.getLsbD j = y.toBitVec.getLsbD j) : x = y := Int32.toBitVec_inj.mp (BitVec.eq_of_getLsbD_eq h)
theorem lg_eq {a b : Int64} : lg_cmp a b = 0 ↔ a = b := by
  unfold lg_cmp
  split
  · rename_i h
    exact ⟨fun q => absurd q (by decide), fun q => by subst q; exact absurd h Int64.lt_irrefl⟩
  · split
    · rename_i h2; exact ⟨fun _ => h2, fun _ => rfl⟩
    · rename_i h2; exact ⟨fun q => absurd q (by decide), fun q => absurd q h2⟩
theorem tb_hi {n k j : Nat} (h : n < 2 ^ k) (hj : k ≤ j) : n.testBit j = false := Nat.testBit_lt_two_pow (Nat.lt_of_lt_of_le h (Nat.pow_le_pow_right (by decide) hj))
theorem tb31 : ∀ j, j < 5 → Nat.testBit 31 j = true := by decide
def fld (g : pG) (t : Nat) : Nat := if t < 2 then t else (g t).getD 31
def Led (v : Int64) (g : pG) : Prop := (∀ t, t < 7 → ∀ b, b < 5 → lb v (5 * t + b) = (fld g t).testBit b) ∧ (∀ j, 35 ≤ j → lb v j = false) ∧ gB 31 g
theorem fld_lt {g : pG} (b : gB 31 g) (t : Nat) : fld g t < 32 := by
  unfold fld
  split
  · omega
  · cases h : g t with
    | none => exact (by decide)
    | some u => have := b t u h; show u < 32; omega
abbrev lM1 : Int64 := Int64.ofNat 18446744073709551615
theorem Led.ne {v : Int64} {g : pG} (h : Led v g) : ¬ v = lM1 := fun e => by
  have := h.2.1 63 (by decide)
  rw [e] at this
  exact absurd this (by decide)
abbrev lSt : Int64 := Int64.ofNat 34359737376
theorem led_start : Led lSt gN := by
  refine ⟨?_, fun j hj => ?_, fun t u h => by cases h⟩
  · intro t ht b hb
    rw [lb_N, decide_eq_true (show 5 * t + b < 64 by omega), Bool.true_and]
    have : fld gN t = if t < 2 then t else 31 := rfl
    rw [this]
    revert b
    revert t
    decide
  · rw [lb_N, tb_hi (k := 35) (by decide) hj, Bool.and_false]
theorem target_ok {v : Int64} {g : pG} (h : Led v g) {t : Nat} (ht : t < 7) (μ : xM) : fL_targetOf v (nI t) μ = some (nI (fld g t)) := by
  unfold fL_targetOf fL_targetOf_0
  congr 1
  rw [show xc 5 * nI t = nI (5 * t) from pk_mul 5 t]
  apply nI_ext
  intro j hj
  rw [lb_toI _ hj, lb_and, lb_shr _ (by omega), lb_N, nI_lb, decide_eq_true hj, decide_eq_true (show j < 64 by omega), decide_eq_false (show ¬ 64 ≤ j by omega)]
  by_cases q : j < 5
  · rw [if_pos (by omega), tb31 j q, h.1 t ht j q]
    simp
  · rw [tb_hi (n := 31) (k := 5) (by decide) (by omega), tb_hi (k := 5) (fld_lt h.2.2 t) (by omega)]
    simp
theorem lead_m1 {t s : Nat} (μ : xM) : fL_lead lM1 (nI t) (nI s) μ = some lM1 := by
  unfold fL_lead fL_lead_0 fL_lead_21 fL_targetOf fL_targetOf_0
  rw [Option.bind_some, if_pos (lg_eq.mpr rfl)]
theorem lead_ok {v : Int64} {g : pG} (h : Led v g) {t s : Nat} (ht : t < 7) (hs : s < 31) (μ : xM) : (∃ g' v', plead g t s = some g' ∧ fL_lead v (nI t) (nI s) μ = some v' ∧ Led v' g') ∨ (plead g t s = none ∧ fL_lead v (nI t) (nI s) μ = some lM1) := by
  have hf := fld_lt h.2.2 t
  have e31 : lg_cmp (Int32.toInt64 (nI (fld g t))) (Int64.ofNat 31) = 0 ↔ fld g t = 31 := by
    rw [lg_eq, nI_l (by omega)]
    exact pk_lEQ (by omega) (by decide)
  unfold fL_lead fL_lead_0 fL_lead_21
  rw [target_ok h ht, Option.bind_some, if_neg (fun q => h.ne (lg_eq.mp q))]
  by_cases q : fld g t = s
  · rw [if_pos (by rw [q])]
    left
    refine ⟨g, v, ?_, rfl, h⟩
    unfold plead
    unfold fld at q
    by_cases q2 : t < 2
    · rw [if_pos q2] at q ⊢
      rw [if_pos q]
    · rw [if_neg q2] at q ⊢
      cases hg : g t with
      | none =>
        rw [hg] at q
        have : (31 : Nat) = s := q
        omega
      | some u =>
        rw [hg] at q
        have : u = s := q
        dsimp only
        rw [if_pos this]
  · rw [if_neg (fun e => q ((nI64 (by omega) (by omega)).mp e))]
    by_cases q3 : fld g t = 31
    · rw [if_pos (e31.mpr q3)]
      left
      have ht2 : ¬ t < 2 := fun q2 => by unfold fld at q3; rw [if_pos q2] at q3; omega
      have hg : g t = none := by
        cases hg : g t with
        | none => rfl
        | some u =>
          unfold fld at q3
          rw [if_neg ht2, hg] at q3
          have := h.2.2 t u hg
          have : u = 31 := q3
          omega
      refine ⟨fun u => if u = t then some s else g u, _, ?_, rfl, ?_, ?_, ?_⟩
      · unfold plead
        rw [if_neg ht2, hg]
      · intro u hu b hb
        rw [show xc 5 * nI t = nI (5 * t) from pk_mul 5 t, lb_xor, lb_shl _ (by omega), lb_xor, nI_l (by omega), show lN s = Int64.ofNat s from rfl, lb_N, lb_N, h.1 u hu b hb, decide_eq_true (show 5 * u + b < 64 by omega), decide_eq_true (show 5 * u + b - 5 * t < 64 by omega)]
        simp only [Bool.true_and]
        by_cases eu : u = t
        · subst eu
          rw [q3, show fld (fun w => if w = u then some s else g w) u = s from by
            unfold fld
            rw [if_neg ht2]
            show (if u = u then some s else g u).getD 31 = s
            rw [if_pos rfl]; rfl, decide_eq_false (show ¬ 5 * u + b < 5 * u by omega), show 5 * u + b - 5 * u = b by omega, tb31 b hb]
          cases s.testBit b <;> rfl
        · rw [show fld (fun w => if w = t then some s else g w) u = fld g u from by
            unfold fld
            show (if u < 2 then u else (if u = t then some s else g u).getD 31) = _
            rw [if_neg eu]]
          by_cases lt : u < t
          · rw [decide_eq_true (show 5 * u + b < 5 * t by omega)]
            simp
          · rw [tb_hi (n := 31) (k := 5) (by decide) (show 5 ≤ 5 * u + b - 5 * t by omega), tb_hi (n := s) (k := 5) (by omega) (show 5 ≤ 5 * u + b - 5 * t by omega)]
            simp
      · intro j hj
        rw [show xc 5 * nI t = nI (5 * t) from pk_mul 5 t, lb_xor, lb_shl _ (by omega), lb_xor, nI_l (by omega), show lN s = Int64.ofNat s from rfl, lb_N, lb_N, h.2.1 j hj, tb_hi (n := 31) (k := 5) (by decide) (show 5 ≤ j - 5 * t by omega), tb_hi (n := s) (k := 5) (by omega) (show 5 ≤ j - 5 * t by omega)]
        simp
      · intro u w hu
        have hu' : (if u = t then some s else g u) = some w := hu
        split at hu'
        · cases hu'; exact hs
        · exact h.2.2 u w hu'
    · rw [if_neg (fun e => q3 (e31.mp e))]
      right
      refine ⟨?_, rfl⟩
      unfold plead
      unfold fld at q q3
      by_cases q2 : t < 2
      · rw [if_pos q2] at q ⊢
        rw [if_neg q]
      · rw [if_neg q2] at q q3 ⊢
        cases hg : g t with
        | none => rw [hg] at q3; exact absurd rfl q3
        | some u =>
          rw [hg] at q
          have q' : ¬ u = s := q
          dsimp only
          rw [if_neg q']
def TB (P : xPic) (B : Nat) : Prop := (∀ r, r ∈ P.1 → r.1 < 3 ∧ r.2.1 < B ∧ r.2.2 < B) ∧ ∀ t, t ∈ P.2 → t < B
theorem TB.row {P : xPic} {B : Nat} (h : TB P B) {i : Nat} (hi : i < P.1.length) : (prow P i).1 < 3 ∧ (prow P i).2.1 < B ∧ (prow P i).2.2 < B := h.1 _ (getD_memD hi)
theorem TB.head {P : xPic} {B : Nat} (h : TB P B) {i : Nat} (hi : i < P.2.length) : P.2.getD i 0 < B := h.2 _ (getD_memD hi)
theorem PicWf.tb {P : xPic} (w : PicWf P) : TB P 7 := ⟨w.2.2.2.1, fun t ht => (w.2.2.2.2 t ht).2.1⟩
/-- leading two terms of a row, at once -/
theorem lead2_ok {v : Int64} {g : pG} (h : Led v g) {r e : xRow} (hr : r.2.1 < 7 ∧ r.2.2 < 7) (he : e.2.1 < 31 ∧ e.2.2 < 31) (q : e.1 = r.1) (μ : xM) : ∃ v1 v2, fL_lead v (nI r.2.1) (nI e.2.1) μ = some v1 ∧ fL_lead v1 (nI r.2.2) (nI e.2.2) μ = some v2 ∧ ((∃ g', pstep e r g = some g' ∧ Led v2 g') ∨ (pstep e r g = none ∧ v2 = lM1)) := by
  unfold pstep
  rw [if_pos q]
  rcases lead_ok h hr.1 he.1 μ with ⟨g1, v1, a1, a2, a3⟩ | ⟨a1, a2⟩
  · rw [a1]
    dsimp only
    rcases lead_ok a3 hr.2 he.2 μ with ⟨g2, v2, b1, b2, b3⟩ | ⟨b1, b2⟩
    · exact ⟨v1, v2, a2, b2, Or.inl ⟨g2, b1, b3⟩⟩
    · exact ⟨v1, lM1, a2, b2, Or.inr ⟨b1, rfl⟩⟩
  · rw [a1]
    exact ⟨lM1, lM1, a2, lead_m1 μ, Or.inr ⟨rfl, rfl⟩⟩
section LEADN
variable {μ : xM} {p q mp mq : Nat} {P Q : xPic}
theorem leadN_m1 (f r : Nat) : fL_leadRowsN (f + 1) p q lM1 (nI r) (xc 0) μ = some (xc 0) := by
  show fL_leadRowsN_0 _ _ _ _ _ _ _ = _
  unfold fL_leadRowsN_0
  rw [if_pos (lg_eq.mpr rfl)]
theorem leadN_ok (hp : IsPic μ p mp) (cp : PicC μ p P) (lp4 : P.1.length ≤ 4) (lp : P.1.length ≤ mp) (bp : TB P 7) (hq : IsPic μ q mq) (cq : PicC μ q Q) (lq : Q.1.length ≤ mq) (bq : TB Q 31) : ∀ (k r f : Nat) (g : pG) (v : Int64), r + k = P.1.length → k < f → Led v g → fL_leadRowsN f p q v (nI r) (xc 0) μ = some (if phoms Q.1 (P.1.drop r) g = [] then xc 0 else xc 1)
  | k, r, 0, g, v, _, hf, _ => absurd hf (Nat.not_lt_zero k)
  | 0, r, f + 1, g, v, hr, _, hv => by
    have hr' : r = P.1.length := hr
    subst hr'
    show fL_leadRowsN_0 _ _ _ _ _ _ _ = _
    rw [List.drop_length, phoms_nil, if_neg (by simp)]
    simp only [fL_leadRowsN_0, if_neg (fun e => hv.ne (lg_eq.mp e)), hp.rowCount cp, Option.bind_some, Int32.le_refl, if_true, fL_leadRowsN_25]
  | k + 1, r, f + 1, g, v, hr, hf, hv => by
    have ih := leadN_ok hp cp lp4 lp bp hq cq lq bq k (r + 1) f
    have hm12 := hq.2.1
    have hrl : r < P.1.length := by omega
    show fL_leadRowsN_0 _ _ _ _ _ _ _ = _
    have ev : fL_leadRowsN_0 (fL_leadRowsN f) p q v (nI r) (xc 0) μ = xwh (fun s : Int32 => fL_leadRowsN_L51 (fL_leadRowsN f) p q v (nI r) (xc 0) s μ) (xc 0) := by
      simp only [fL_leadRowsN_0, if_neg (fun e => hv.ne (lg_eq.mp e)), hp.rowCount cp, Option.bind_some, if_neg (nI_ge hrl (show P.1.length < 2 ^ 31 by omega)), if_pos (show nI r < xc 4 from nI_lt (b := 4) (by omega) (by decide))]
    rw [ev, drop_succD (0, 0, 0) hrl, phoms_cons]
    have := xwh_inv (body := fun s : Int32 => fL_leadRowsN_L51 (fL_leadRowsN f) p q v (nI r) (xc 0) s μ) (fun i s => s = nI i ∧ Q.1.flatMap (pF Q.1 (P.1.drop (r + 1)) (prow P r) g) = (Q.1.drop i).flatMap (pF Q.1 (P.1.drop (r + 1)) (prow P r) g)) (fun a => a = if Q.1.flatMap (pF Q.1 (P.1.drop (r + 1)) (prow P r) g) = [] then xc 0 else xc 1) Q.1.length ?_ ?_ Q.1.length 0 (xc 0) (by omega) ⟨rfl, rfl⟩
    · obtain ⟨a, h1, h2⟩ := this
      rw [h1, h2]
      rfl
    · rintro i s hi ⟨rfl, e⟩
      have br := bp.row hrl
      have be := bq.row hi
      have c0 : ¬ nI Q.1.length ≤ nI i := nI_ge hi (by omega)
      rw [drop_succD (0, 0, 0) hi, List.flatMap_cons] at e
      have e' : Q.1.flatMap (pF Q.1 (P.1.drop (r + 1)) (prow P r) g) = pF Q.1 (P.1.drop (r + 1)) (prow P r) g (prow Q i) ++ (Q.1.drop (i + 1)).flatMap (pF Q.1 (P.1.drop (r + 1)) (prow P r) g) := e
      by_cases q1 : (prow Q i).1 = (prow P r).1
      · obtain ⟨v1, v2, g1, g2, g3⟩ := lead2_ok hv (r := prow P r) (e := prow Q i) br.2 be.2 q1 μ
        have evb : fL_leadRowsN_L51 (fL_leadRowsN f) p q v (nI r) (xc 0) (nI i) μ = (fL_leadRowsN f p q v2 (nI (r + 1)) (xc 0) μ).bind fun r16 => if r16 = 0 then some (.inl (nI (i + 1))) else some (.inr (xc 1)) := by
          simp only [fL_leadRowsN_L51, hq.rowCount cq, Option.bind_some, c0, if_false, pic_t hq, pic_t hp, pic_a hq, pic_a hp, pic_b hq, pic_b hp, pic_tv hq cq lq hi, pic_tv hp cp lp hrl, pic_av hq cq lq hi, pic_av hp cp lp hrl, pic_bv hq cq lq hi, pic_bv hp cp lp hrl, q1, if_true, g1, g2, inc1, fL_leadRowsN_141, fL_leadRowsN_139, Option.map_some]
        rcases g3 with ⟨g', h1, h2⟩ | ⟨h1, h2⟩
        · rw [pF_yes h1] at e'
          have hrec := ih g' v2 (by omega) (by omega) h2
          by_cases q2 : phoms Q.1 (P.1.drop (r + 1)) g' = []
          · left
            rw [if_pos q2] at hrec
            refine ⟨nI (i + 1), by rw [evb, hrec]; rfl, rfl, ?_⟩
            rw [q2] at e'
            exact e'
          · right
            rw [if_neg q2] at hrec
            refine ⟨xc 1, by rw [evb, hrec]; rfl, ?_⟩
            rw [if_neg]
            intro q3
            rw [e', List.append_eq_nil_iff] at q3
            exact q2 q3.1
        · left
          rw [pF_no h1] at e'
          cases f with
          | zero => omega
          | succ f' => exact ⟨nI (i + 1), by rw [evb, h2, leadN_m1]; rfl, rfl, e'⟩
      · left
        have q1' : ¬ nI (prow Q i).1 = nI (prow P r).1 := fun z => q1 ((nI64 (by omega) (by omega)).mp z)
        have hn : pstep (prow Q i) (prow P r) g = none := if_neg q1
        rw [pF_no hn] at e'
        refine ⟨nI (i + 1), ?_, rfl, e'⟩
        simp only [fL_leadRowsN_L51, hq.rowCount cq, Option.bind_some, c0, if_false, pic_t hq, pic_t hp, pic_tv hq cq lq hi, pic_tv hp cp lp hrl, q1', inc1, fL_leadRowsN_141]
    · rintro s ⟨rfl, e⟩
      rw [List.drop_length] at e
      refine ⟨xc 0, ?_, ?_⟩
      · simp only [fL_leadRowsN_L51, hq.rowCount cq, Option.bind_some, Int32.le_refl, if_true, fL_leadRowsN_147, Option.map_some]
      · rw [if_pos]
        rw [e]
        rfl
/-- a picture, by its end at q, lies within a told one at p -/
theorem isWithin_ok (hp : IsPic μ p 4) (cp : PicC μ p P) (w : PicWf P) (hq : IsPic μ q mq) {E : xPic × Nat × Bool} (cq : PicC μ q E.1) (lq : E.1.1.length ≤ mq) (lh : E.1.2.length ≤ 3) (bq : TB E.1 31) (e7 : xI μ q 7 = if E.2.2 then 1 else 0) : (pWithin E P ∧ fL_isWithin q p μ = some (xc 1)) ∨ (¬ pWithin E P ∧ fL_isWithin q p μ = some (xc 0)) := by
  unfold fL_isWithin fL_isWithin_0
  rw [hq.headLen cq, Option.bind_some, hp.headLen cp, Option.bind_some]
  have lph := w.2.2.1
  by_cases q0 : E.1.2.length = P.2.length
  · rw [if_pos (by rw [q0])]
    by_cases hN : E.2.2 = true
    · left
      refine ⟨⟨q0, Or.inl hN⟩, ?_⟩
      have := xwh_inv (body := fun s : Int64 × Int32 => fL_isWithin_L20 q p s.1 s.2 μ) (fun i s => s.2 = nI i ∧ ((∃ g, Led s.1 g) ∨ s.1 = lM1)) (fun a => a = xc 1) P.2.length ?_ ?_ P.2.length 0 (lSt, xc 0) (by omega) ⟨rfl, Or.inl ⟨gN, led_start⟩⟩
      · obtain ⟨a, h1, h2⟩ := this
        rw [← h2]
        exact h1
      · rintro i ⟨v, x⟩ hi ⟨rfl, hv⟩
        left
        have c0 : ¬ nI P.2.length ≤ nI i := nI_ge hi (by omega)
        have bh := w.tb.head hi
        have be := bq.head (i := i) (by omega)
        have t1 := pic_hv hp cp lph hi
        have t2 := pic_hv hq cq lh (i := i) (by omega)
        rcases hv with ⟨g, hv⟩ | hv
        · rcases lead_ok hv bh be μ with ⟨g', v', _, a2, a3⟩ | ⟨_, a2⟩
          · refine ⟨(v', nI (i + 1)), ?_, rfl, Or.inl ⟨g', a3⟩⟩
            simp only [fL_isWithin_L20, hp.headLen cp, Option.bind_some, c0, if_false, pic_h hp, pic_h hq, t1, t2, a2, inc1]
          · refine ⟨(lM1, nI (i + 1)), ?_, rfl, Or.inr rfl⟩
            simp only [fL_isWithin_L20, hp.headLen cp, Option.bind_some, c0, if_false, pic_h hp, pic_h hq, t1, t2, a2, inc1]
        · have hv' : v = lM1 := hv
          subst hv'
          refine ⟨(lM1, nI (i + 1)), ?_, rfl, Or.inr rfl⟩
          simp only [fL_isWithin_L20, hp.headLen cp, Option.bind_some, c0, if_false, pic_h hp, pic_h hq, t1, t2, lead_m1, inc1]
      · rintro ⟨v, x⟩ ⟨rfl, hv⟩
        refine ⟨xc 1, ?_, rfl⟩
        rw [hN] at e7
        have e7' : ¬ xI μ q 7 = 0 := by rw [e7]; decide
        simp only [fL_isWithin_L20, hp.headLen cp, Option.bind_some, Int32.le_refl, if_true, fL_isWithin_54, pf hq, e7', if_false, fL_isWithin_73, Option.map_some]
    · simp only [Bool.not_eq_true] at hN
      have e7' : xI μ q 7 = 0 := by rw [e7, hN]; rfl
      have hW : pWithin E P ↔ ∃ g, pleads gN P.2 E.1.2 = some g ∧ phoms E.1.1 P.1 g ≠ [] := by
        rw [within_iff w q0]
        unfold pWithin
        constructor
        · rintro ⟨_, h | h⟩
          · rw [hN] at h; cases h
          · exact h
        · exact fun h => ⟨q0, Or.inr h⟩
      rw [hW]
      have := xwh_inv (body := fun s : Int64 × Int32 => fL_isWithin_L20 q p s.1 s.2 μ) (fun i s => s.2 = nI i ∧ ((∃ g, Led s.1 g ∧ pleads gN P.2 E.1.2 = pleads g (P.2.drop i) (E.1.2.drop i)) ∨ (s.1 = lM1 ∧ pleads gN P.2 E.1.2 = none))) (fun a => ((∃ g, pleads gN P.2 E.1.2 = some g ∧ phoms E.1.1 P.1 g ≠ []) ∧ a = xc 1) ∨ ((¬ ∃ g, pleads gN P.2 E.1.2 = some g ∧ phoms E.1.1 P.1 g ≠ []) ∧ a = xc 0)) P.2.length ?_ ?_ P.2.length 0 (lSt, xc 0) (by omega) ⟨rfl, Or.inl ⟨gN, led_start, rfl⟩⟩
      · obtain ⟨a, h1, h2⟩ := this
        rcases h2 with ⟨h2, rfl⟩ | ⟨h2, rfl⟩
        · exact Or.inl ⟨h2, h1⟩
        · exact Or.inr ⟨h2, h1⟩
      · rintro i ⟨v, x⟩ hi ⟨rfl, hv⟩
        left
        have c0 : ¬ nI P.2.length ≤ nI i := nI_ge hi (by omega)
        have bh := w.tb.head hi
        have be := bq.head (i := i) (by omega)
        have t1 := pic_hv hp cp lph hi
        have t2 := pic_hv hq cq lh (i := i) (by omega)
        rcases hv with ⟨g, hv, hpl⟩ | ⟨hv, hpl⟩
        · rw [drop_succD 0 hi, drop_succD 0 (show i < E.1.2.length by omega)] at hpl
          rcases lead_ok hv bh be μ with ⟨g', v', a1, a2, a3⟩ | ⟨a1, a2⟩
          · rw [pleads_yes a1] at hpl
            refine ⟨(v', nI (i + 1)), ?_, rfl, Or.inl ⟨g', a3, hpl⟩⟩
            simp only [fL_isWithin_L20, hp.headLen cp, Option.bind_some, c0, if_false, pic_h hp, pic_h hq, t1, t2, a2, inc1]
          · rw [pleads_no a1] at hpl
            refine ⟨(lM1, nI (i + 1)), ?_, rfl, Or.inr ⟨rfl, hpl⟩⟩
            simp only [fL_isWithin_L20, hp.headLen cp, Option.bind_some, c0, if_false, pic_h hp, pic_h hq, t1, t2, a2, inc1]
        · have hv' : v = lM1 := hv
          subst hv'
          refine ⟨(lM1, nI (i + 1)), ?_, rfl, Or.inr ⟨rfl, hpl⟩⟩
          simp only [fL_isWithin_L20, hp.headLen cp, Option.bind_some, c0, if_false, pic_h hp, pic_h hq, t1, t2, lead_m1, inc1]
      · rintro ⟨v, x⟩ ⟨rfl, hv⟩
        rcases hv with ⟨g, hv, hpl⟩ | ⟨hv, hpl⟩
        · rw [List.drop_length, ← q0, List.drop_length] at hpl
          have hpl' : pleads gN P.2 E.1.2 = some g := hpl
          have hrec := leadN_ok hp cp w.2.1 w.2.1 w.tb hq cq lq bq P.1.length 0 6 g v (by omega) (by have := w.2.1; omega) hv
          rw [List.drop_zero] at hrec
          have ev : fL_isWithin_L20 q p v (nI P.2.length) μ = (fL_leadRowsN 6 p q v (xc 0) (xc 0) μ).bind fun r2 => some (.inr (if r2 = 0 then xc 0 else xc 1)) := by
            simp only [fL_isWithin_L20, hp.headLen cp, Option.bind_some, Int32.le_refl, if_true, fL_isWithin_54, pf hq, e7', fL_isWithin_73]
            cases fL_leadRowsN 6 p q v (xc 0) (xc 0) μ with
            | none => rfl
            | some z =>
              simp only [Option.bind_some]
              by_cases hz : z = 0
              · rw [if_pos hz, if_pos hz]; rfl
              · rw [if_neg hz, if_neg hz]; rfl
          rw [show nI 0 = xc 0 from rfl] at hrec
          dsimp only
          rw [ev, hrec]
          by_cases q2 : phoms E.1.1 P.1 g = []
          · rw [if_pos q2]
            refine ⟨xc 0, rfl, Or.inr ⟨?_, rfl⟩⟩
            rintro ⟨g2, z1, z2⟩
            rw [hpl'] at z1
            cases z1
            exact z2 q2
          · rw [if_neg q2]
            exact ⟨xc 1, rfl, Or.inl ⟨⟨g, hpl', q2⟩, rfl⟩⟩
        · have hv' : v = lM1 := hv
          subst hv'
          refine ⟨xc 0, ?_, Or.inr ⟨?_, rfl⟩⟩
          · have := leadN_m1 (μ := μ) (p := p) (q := q) 5 0
            rw [show nI 0 = xc 0 from rfl] at this
            simp only [fL_isWithin_L20, hp.headLen cp, Option.bind_some, Int32.le_refl, if_true, fL_isWithin_54, pf hq, e7', this, xc0T, Option.map_some]
          · rintro ⟨g2, z1, _⟩
            rw [hpl] at z1
            cases z1
  · right
    refine ⟨fun h => q0 h.1, ?_⟩
    rw [if_neg (fun z => q0 ((nI_eq (by omega) (by omega)).mp z))]
end LEADN
