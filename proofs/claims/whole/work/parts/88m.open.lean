section OPENW
/-- tables hold a world's keys -/
def KeyW (K n w : Nat) : Prop := ∀ t, t < n → K.testBit t = true → ∀ x, x < 2 → ¬ (w.testBit (4 * t + 2 * x) = true ∧ w.testBit (4 * t + 2 * x + 1) = true)
/-- a world -/
def IsW (V : Nat → xPic) (nv K kb : Nat) (kp : Nat → Int32) (w : Nat) : Prop := KeyW K 3 w ∧ ∀ v, v < nv → kb.testBit v = true → kp v = nI (pAns (V v) w)
def OBase (μ : xM) (V : Nat → xPic) (nv K kb : Nat) : Prop := Sh μ ∧ (∀ i, i < 6 → xL μ 1 i = xhold i) ∧ nv ≤ 6 ∧ (∀ v, v < nv → PicWf (V v) ∧ PicC μ (62 + 5 * v) (V v)) ∧ K < 8 ∧ xI μ 3 1 = nI K ∧ xI μ 3 3 = nI nv ∧ xI μ 3 4 = nI kb ∧ kb < 2 ^ nv ∧ ∀ v, v < nv → kb.testBit v = true → ∃ a, a < 256 ∧ xI μ 6 v = nI a
def WV (b k : Nat) : Prop := 193 ≤ b ∧ b < 212
theorem OBase.fr {μ μ' : xM} {V : Nat → xPic} {nv K kb : Nat} (h : OBase μ V nv K kb) (f : Fr WV μ μ') : OBase μ' V nv K kb := by
  obtain ⟨a, b, c, d, e, g, i, j, k, l⟩ := h
  exact ⟨f.sh a, fun i hi => by rw [f.L (by unfold WV; omega)]; exact b i hi, c, fun v hv => ⟨(d v hv).1, picC_fr (d v hv).2 f (fun x y q r => by unfold WV; omega)⟩, e, (f.I (by unfold WV; omega)).trans g, (f.I (by unfold WV; omega)).trans i, (f.I (by unfold WV; omega)).trans j, k, fun v hv q => by rw [f.I (by unfold WV; omega)]; exact l v hv q⟩
theorem SimA.obase {L : Nat} {xs : Nat → Int32} {μ : xM} {A V : Nat → xPic} {na nv T K kb gb : Nat} (h : SimA L xs μ A V na nv T K kb gb) : OBase μ V nv K kb :=
  have all := h.all
  ⟨h.sh, h.1.2.2, h.nv6, fun v hv => ⟨h.wfV hv, h.cV hv⟩, h.K8, all.2.1.2.1, all.2.1.2.2.2.1, all.2.1.2.2.2.2.1, all.1.2.2.2.2.1, fun v hv q => by obtain ⟨a, a1, a2, _⟩ := (all.2.2.2.2.1 v hv).1 q; exact ⟨a, a1, a2⟩⟩
variable {μ : xM} {V : Nat → xPic} {nv K kb : Nat}
def WO (b k : Nat) : Prop := b = 194 ∨ 203 ≤ b ∧ b < 212
theorem WO_WV {b k : Nat} (h : WO b k) : WV b k := by unfold WO at h; unfold WV; omega
theorem dropX_ok (hh : Sh μ) (hH : ∀ i, i < 6 → xL μ 1 i = xhold i) {t x : Nat} (ht : t < 3) (hx : x < 2) : ∃ μ1, fW_dropDoubleX 193 (nI t) (nI x) μ = some μ1 ∧ Fr WO μ μ1 ∧ ∀ w, w < 4096 → (InW μ1 194 w ↔ InW μ 194 w ∧ ¬ (w.testBit (4 * t + 2 * x) = true ∧ w.testBit (4 * t + 2 * x + 1) = true)) := by
  obtain ⟨μ1, a1, a2, a3⟩ := fill_ok (kw hh (a := 211) (by omega)) (by omega) (by decide) (Int64.ofNat 0)
  have h1 := a2.sh hh
  have rl : 2 ^ (4 * t + 2 * x) ||| 2 ^ (4 * t + 2 * x + 1) < 4096 := Nat.or_lt_two_pow (n := 12) (Nat.pow_lt_pow_right (by decide) (by omega)) (Nat.pow_lt_pow_right (by decide) (by omega))
  obtain ⟨μ2, b1, b2, b3⟩ := addWith_ok (μ := μ1) (a := 211) (kd1 h1) (fun i hi => by rw [a2.L (by omega)]; exact hH i hi) (kw h1 (by omega)) (by omega) rl
  have h2 := b2.sh h1
  obtain ⟨μ3, c1, c2, c3⟩ := keepAlike_ok (μ := μ2) (a := 194) (b := 211) (kw h2 (by omega)) (kw h2 (by omega)) (by omega) (by omega) (Or.inl rfl : xc 0 = xc 0 ∨ xc 0 = xc 1)
  have r0 : ∀ z, fX_rowBit (nI t) (nI x) (xc 0) z = some (nI (4 * t + 2 * x)) := fun z => by
    unfold fX_rowBit fX_rowBit_0
    rw [show xc 4 = nI 4 from rfl, show xc 2 = nI 2 from rfl, show xc 0 = nI 0 from rfl, pk_mul, pk_mul, nI_add, nI_add]
    rfl
  have r1 : ∀ z, fX_rowBit (nI t) (nI x) (xc 1) z = some (nI (4 * t + 2 * x + 1)) := fun z => by
    unfold fX_rowBit fX_rowBit_0
    rw [show xc 4 = nI 4 from rfl, show xc 2 = nI 2 from rfl, show xc 1 = nI 1 from rfl, pk_mul, pk_mul, nI_add, nI_add]
  refine ⟨μ3, ?_, ((a2.mono (fun b k q => by unfold WO; omega)).trans (b2.mono (fun b k q => by unfold WO; omega))).trans (c2.mono (fun b k q => by unfold WO; omega)), fun w hw => ?_⟩
  · simp only [fW_dropDoubleX, fW_dropDoubleX_0, gd193 hh, g193_3 hh, Option.bind_some, a1, g193_3 h1, r0, r1, nI_bit (show 4 * t + 2 * x < 32 by omega), nI_bit (show 4 * t + 2 * x + 1 < 32 by omega), nI_or, b1, g193_0 h2, g193_3 h2, c1]
  · rw [c3 w hw, InW.fr b2 (fun k => by omega), InW.fr a2 (fun k => by omega), b3 w hw]
    refine and_congr_right (fun _ => ?_)
    have z : ¬ InW μ1 211 w := by
      unfold InW
      rw [a3 _ (by omega), lb_N, Nat.zero_testBit, Bool.and_false]
      decide
    have e : (∀ j, (2 ^ (4 * t + 2 * x) ||| 2 ^ (4 * t + 2 * x + 1)).testBit j = true → w.testBit j = true) ↔ (w.testBit (4 * t + 2 * x) = true ∧ w.testBit (4 * t + 2 * x + 1) = true) := by
      constructor
      · intro y
        exact ⟨y _ (by rw [Nat.testBit_or, Nat.testBit_two_pow_self, Bool.true_or]), y _ (by rw [Nat.testBit_or, Nat.testBit_two_pow_self, Bool.or_true])⟩
      · rintro ⟨y1, y2⟩ j hj
        rw [Nat.testBit_or, Nat.testBit_two_pow, Nat.testBit_two_pow, Bool.or_eq_true, decide_eq_true_eq, decide_eq_true_eq] at hj
        rcases hj with rfl | rfl
        · exact y1
        · exact y2
    rw [e]
    constructor
    · exact fun y q => absurd (y.mp (Or.inr q)) (by decide)
    · exact fun y => ⟨fun q => q.elim (fun q => absurd q z) (fun q => absurd q y), fun q => absurd q (by decide)⟩
theorem findOpen_ok (hB : OBase μ V nv K kb) : ∃ μ1, fW_findOpen 193 3 μ = some μ1 ∧ Fr WO μ μ1 ∧ ∀ w, w < 4096 → (InW μ1 194 w ↔ IsW V nv K kb (fun v => xI μ 6 v) w) := by
  obtain ⟨hh, hH, n6, hV, hK, e1, e3, e4, hkb, hkp⟩ := hB
  have holdF : ∀ {μ'}, Fr WO μ μ' → ∀ i, i < 6 → xL μ' 1 i = xhold i := fun f i hi => by rw [f.L (by unfold WO; omega)]; exact hH i hi
  obtain ⟨μ0, a1, a2, a3⟩ := fill_ok (kw hh (a := 194) (by omega)) (by omega) (by decide) (Int64.ofNat 18446744073709551615)
  have all0 : ∀ w, w < 4096 → InW μ0 194 w := fun w hw => by
    unfold InW
    rw [a3 _ (by omega), lb_m1 (Nat.mod_lt _ (by decide))]
  have part2 : ∀ μ', Fr WO μ μ' → (∀ w, w < 4096 → (InW μ' 194 w ↔ KeyW K 3 w)) → ∃ μ1, fW_findOpen_43 193 3 μ' = some μ1 ∧ Fr WO μ μ1 ∧ ∀ w, w < 4096 → (InW μ1 194 w ↔ IsW V nv K kb (fun v => xI μ 6 v) w) := fun μ' f0 k0 => by
    unfold fW_findOpen_43
    refine xwh_inv (body := fun z : Int32 × xM => fW_findOpen_L45 193 3 z.1 z.2) (fun i z => z.1 = nI i ∧ Fr WO μ z.2 ∧ ∀ w, w < 4096 → (InW z.2 194 w ↔ KeyW K 3 w ∧ ∀ v, v < i → kb.testBit v = true → xI μ 6 v = nI (pAns (V v) w))) _ nv ?_ ?_ nv 0 _ (by omega) ⟨rfl, f0, fun w hw => (k0 w hw).trans ⟨fun y => ⟨y, fun v hv => absurd hv (Nat.not_lt_zero v)⟩, fun y => y.1⟩⟩
    · rintro i ⟨x, μ2⟩ hi ⟨rfl, f, e⟩
      left
      have h2 := f.sh hh
      have c0 : ¬ nI nv ≤ nI i := nI_ge hi (by omega)
      have ee3 : ldF μ2 3 3 3 = some (nI nv) := (f3 h2 3).trans (by rw [f.I (by unfold WO; omega), e3])
      have ee4 : ldF μ2 3 3 4 = some (nI kb) := (f3 h2 4).trans (by rw [f.I (by unfold WO; omega), e4])
      have kbl : kb < 2 ^ 31 := Nat.lt_of_lt_of_le hkb (Nat.pow_le_pow_right (by decide) (by omega))
      have b1 := bitAt0 kbl (r := i) (by omega)
      by_cases q : kb.testBit i = false
      · refine ⟨(nI (i + 1), μ2), ?_, rfl, f, fun w hw => (e w hw).trans (and_congr_right (fun _ => ⟨fun y v hv hb => ?_, fun y v hv => y v (by omega)⟩))⟩
        · simp only [fW_findOpen_L45, ee3, Option.bind_some, c0, if_false, ee4, b1, eq_true q, if_true, fW_findOpen_84, inc1]
        · by_cases z : v = i
          · subst z; rw [q] at hb; exact absurd hb (by decide)
          · exact y v (by omega) hb
      · have q' : kb.testBit i = true := by simpa using q
        obtain ⟨an, an1, an2⟩ := hkp i hi q'
        have tk : ldA μ2 6 (nI i) = some (nI an) := by rw [la6 h2 (by omega), f.I (by unfold WO; omega), an2]
        obtain ⟨μ3, g1, g2, g3⟩ := keepAgr_ok (μ := μ2) (a := 194) (p := 62 + 5 * i) (P := V i) h2 (kd1 h2) (holdF f) (f.pic (pic_view hh i (by omega))) (picC_fr (hV i hi).2 f (fun b k q r => by unfold WO; omega)) (hV i hi).1.2.1 (hV i hi).1 (by omega) (Or.inl rfl) an1
        refine ⟨(nI (i + 1), μ3), ?_, rfl, f.trans (g2.mono (fun b k q => by unfold WO; unfold WG at q; omega)), fun w hw => ?_⟩
        · simp only [fW_findOpen_L45, ee3, Option.bind_some, c0, if_false, ee4, b1, eq_false q, g193_0 h2, g3_9 h2, ar_view h2 (show i < 6 by omega), g3_10 h2, tk, g1, fW_findOpen_84, inc1]
        · rw [g3 w hw, e w hw, and_assoc]
          refine and_congr_right (fun _ => ?_)
          have pl := pAns_lt (P := V i) (W := w) (hV i hi).1.2.2.1
          constructor
          · rintro ⟨y1, y2⟩ v hv hb
            by_cases z : v = i
            · subst z; rw [an2, y2]
            · exact y1 v (by omega) hb
          · intro y
            refine ⟨fun v hv => y v (by omega), ?_⟩
            have := y i (by omega) q'
            rw [an2] at this
            exact (nI_inj (by omega) (by omega) this).symm
    · rintro ⟨x, μ2⟩ ⟨rfl, f, e⟩
      have h2 := f.sh hh
      have ee3 : ldF μ2 3 3 3 = some (nI nv) := (f3 h2 3).trans (by rw [f.I (by unfold WO; omega), e3])
      refine ⟨μ2, ?_, f, e⟩
      simp only [fW_findOpen_L45, ee3, Option.bind_some, Int32.le_refl, if_true]
  unfold fW_findOpen fW_findOpen_0
  rw [gd193 hh, g193_0 hh, Option.bind_some, a1, Option.bind_some]
  refine xwh_inv (body := fun z : Int32 × xM => fW_findOpen_L12 193 3 z.1 z.2) (fun i z => z.1 = nI i ∧ Fr WO μ z.2 ∧ ∀ w, w < 4096 → (InW z.2 194 w ↔ KeyW K i w)) _ 3 ?_ ?_ 3 0 _ (by omega) ⟨rfl, a2.mono (fun b k q => by unfold WO; omega), fun w hw => ⟨fun _ t ht => absurd ht (Nat.not_lt_zero t), fun _ => all0 w hw⟩⟩
  · rintro i ⟨x, μ2⟩ hi ⟨rfl, f, e⟩
    left
    have h2 := f.sh hh
    have c0 : ¬ xc 3 ≤ nI i := nI_ge (b := 3) hi (by decide)
    have ee1 : ldF μ2 3 3 1 = some (nI K) := (f3 h2 1).trans (by rw [f.I (by unfold WO; omega), e1])
    have b1 := bitAt0 (n := K) (by omega) (r := i) (by omega)
    by_cases q : K.testBit i = false
    · refine ⟨(nI (i + 1), μ2), ?_, rfl, f, fun w hw => (e w hw).trans ⟨fun y t ht hb => ?_, fun y t ht => y t (by omega)⟩⟩
      · simp only [fW_findOpen_L12, c0, if_false, fH_hasKey, fH_hasKey_0, gd3 h2, ee1, Option.bind_some, b1, eq_true q, if_true, xc0T, fW_findOpen_37, inc1]
      · by_cases z : t = i
        · subst z; rw [q] at hb; exact absurd hb (by decide)
        · exact y t (by omega) hb
    · have q' : K.testBit i = true := by simpa using q
      obtain ⟨μ3, b1', b2, b3⟩ := dropX_ok (μ := μ2) h2 (holdF f) (t := i) (x := 0) hi (by decide)
      have h3 := b2.sh h2
      obtain ⟨μ4, c1, c2, c3⟩ := dropX_ok (μ := μ3) h3 (holdF (f.trans b2)) (t := i) (x := 1) hi (by decide)
      have b1'' : fW_dropDoubleX 193 (nI i) (xc 0) μ2 = some μ3 := b1'
      have c1'' : fW_dropDoubleX 193 (nI i) (xc 1) μ3 = some μ4 := c1
      refine ⟨(nI (i + 1), μ4), ?_, rfl, (f.trans b2).trans c2, fun w hw => ?_⟩
      · simp only [fW_findOpen_L12, c0, if_false, fH_hasKey, fH_hasKey_0, gd3 h2, ee1, Option.bind_some, b1, eq_false q, xc1F, b1'', c1'', fW_findOpen_37, inc1]
      · rw [c3 w hw, b3 w hw, e w hw]
        constructor
        · rintro ⟨⟨y1, y2⟩, y3⟩ t ht hb x hx
          by_cases z : t = i
          · subst z
            obtain rfl | rfl : x = 0 ∨ x = 1 := by omega
            · exact y2
            · exact y3
          · exact y1 t (by omega) hb x hx
        · intro y
          exact ⟨⟨fun t ht => y t (by omega), y i (by omega) q' 0 (by decide)⟩, y i (by omega) q' 1 (by decide)⟩
  · rintro ⟨x, μ2⟩ ⟨rfl, f, e⟩
    obtain ⟨μ3, g1, g2⟩ := part2 μ2 f e
    refine ⟨μ3, ?_, g2⟩
    simp only [fW_findOpen_L12, show (xc 3 ≤ nI 3) = True from by decide, if_true, g1, Option.map_some]
end OPENW
