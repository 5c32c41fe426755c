section SPREAD
/-- rows of the object for worlds -/
theorem kw {μ : xM} (h : Sh μ) {a : Nat} (ha : a = 194 ∨ (196 ≤ a ∧ a < 202) ∨ (203 ≤ a ∧ a < 212)) : xK μ a = (3, 64) := by
  rw [h.2.1 a (by omega) (by omega)]
  have : ∀ i, i < 212 → (i = 194 ∨ (196 ≤ i ∧ i < 202) ∨ (203 ≤ i ∧ i < 212)) → shK.getD i (0, 0) = (3, 64) := by decide +kernel
  exact this a (by omega) ha
variable {μ : xM} {p m a : Nat} {P : xPic}
def WG (b k : Nat) : Prop := 203 ≤ b ∧ b < 211
def Giv (μ : xM) (P : xPic) : Prop := ∀ r, r < 8 → ∀ w, w < 4096 → (InW μ (203 + r) w ↔ (pAns P w).testBit r = true)
theorem Giv.fr {μ' : xM} {W : Nat → Nat → Prop} (h : Giv μ P) (f : Fr W μ μ') (d : ∀ b k, 203 ≤ b → b < 211 → ¬ W b k) : Giv μ' P := fun r hr w hw => (InW.fr f (fun k => d _ k (by omega) (by omega))).trans (h r hr w hw)
theorem picC_fr {μ' : xM} {W : Nat → Nat → Prop} (c : PicC μ p P) (f : Fr W μ μ') (d : ∀ b k, p ≤ b → b < p + 5 → ¬ W b k) : PicC μ' p P := c.fr (fun b k q r => f.I (d b k q r))
theorem spread_ok (hh : Sh μ) (h1 : xK μ 1 = (3, 6)) (hH : ∀ i, i < 6 → xL μ 1 i = xhold i) (hp : IsPic μ p m) (c : PicC μ p P) (hm : P.1.length ≤ m) (hw : PicWf P) (hd : p + 5 ≤ 193) : ∃ μ1, fW_spread 193 p μ = some μ1 ∧ Fr WG μ μ1 ∧ Giv μ1 P := by
  have hr := hw.rows
  have h3 := hw.2.2.1
  have part2 : ∀ μ0, Fr WG μ μ0 → (∀ r, r < 8 → ∀ w, w < 4096 → ¬ InW μ0 (203 + r) w) → ∃ μ1, fW_spread_24 193 p μ0 = some μ1 ∧ Fr WG μ μ1 ∧ Giv μ1 P := fun μ0 f0 z0 => by
    have hp0 := f0.pic hp
    have c0' := picC_fr c f0 (fun b k q r => by unfold WG; omega)
    unfold fW_spread_24
    rw [names_ok hp0 c0' hm hr, Option.bind_some]
    refine xwh_inv (body := fun z : Int32 × xM => fW_spread_L31 193 p (nI (4 * pnamesB P)) z.1 z.2) (fun g z => z.1 = nI (4 * g) ∧ Fr WG μ z.2 ∧ ∀ r, r < 8 → ∀ w, w < 4096 → (InW z.2 (203 + r) w ↔ ∃ g', g' < g ∧ (g' &&& pnamesB P = g' ∧ pAll P g' w) ∧ pheadB P g' = r)) _ 32 ?_ ?_ 32 0 _ (by omega) ⟨rfl, f0, fun r hr w hw => ⟨fun y => absurd y (z0 r hr w hw), fun ⟨g', y, _⟩ => absurd y (Nat.not_lt_zero g')⟩⟩
    · rintro g ⟨x, μ'⟩ hg ⟨rfl, f, e⟩
      left
      have e4 : nI (4 * g) + xc 4 = nI (4 * (g + 1)) := nI_add (4 * g) 4
      have c0 : ¬ xc 128 ≤ nI (4 * g) := nI_ge (b := 128) (by omega) (by decide)
      have h' := f.sh hh
      have hp' := f.pic hp
      have c' := picC_fr c f (fun b k q r => by unfold WG; omega)
      have hh8 := pheadB_lt (P := P) (g := g) h3
      have hpb := prowsB_lt (g := g) hr
      have fit : (nI (4 * g) &&& (nI (4 * pnamesB P) ^^^ xc (-1)) = 0) = (g &&& pnamesB P = g) := propext ((pSub_w (by omega)).trans (pSub_names hg))
      by_cases f1 : g &&& pnamesB P = g
      · obtain ⟨μ1, g1, g2, g3⟩ := addWith_ok (μ := μ') (a := 203 + pheadB P g) ((f.K 1).trans h1) (fun i hi => by rw [f.L (by unfold WG; omega)]; exact hH i hi) (kw h' (by omega)) (by omega) hpb
        refine ⟨(nI (4 * (g + 1)), μ1), ?_, rfl, f.trans (g2.mono (fun b k q => by unfold WG; omega)), fun r hr' w hw' => ?_⟩
        · simp only [fW_spread_L31, c0, if_false, fP_fits, fP_fits_0, fit, eq_true f1, if_true, Option.bind_some, xc1F, g193_2 h', headBy_ok hp' c' h3 hg (fun i hi => (hw.head hi).2), ar_giv h' hh8, rowsBy_ok hp' c' hm hg hr, g1, fW_spread_64, e4]
        · by_cases q : r = pheadB P g
          · subst q
            rw [g3 w hw', e _ hr' w hw']
            have pa : (∀ j, (prowsB P g).testBit j = true → w.testBit j = true) ↔ pAll P g w := ((pSub_iff (by omega)).symm.trans (pAll_iff hr))
            rw [pa]
            constructor
            · rintro (⟨g', y1, y2⟩ | y)
              · exact ⟨g', by omega, y2⟩
              · exact ⟨g, by omega, ⟨f1, y⟩, rfl⟩
            · rintro ⟨g', y1, y2, y3⟩
              by_cases z : g' = g
              · subst z; exact Or.inr y2.2
              · exact Or.inl ⟨g', by omega, y2, y3⟩
          · rw [InW.fr g2 (fun k => by omega), e r hr' w hw']
            constructor
            · rintro ⟨g', y1, y2⟩
              exact ⟨g', by omega, y2⟩
            · rintro ⟨g', y1, y2, y3⟩
              by_cases z : g' = g
              · subst z; exact absurd y3.symm q
              · exact ⟨g', by omega, y2, y3⟩
      · refine ⟨(nI (4 * (g + 1)), μ'), ?_, rfl, f, fun r hr' w hw' => (e r hr' w hw').trans ⟨fun ⟨g', y1, y2⟩ => ⟨g', by omega, y2⟩, fun ⟨g', y1, y2, y3⟩ => ⟨g', ?_, y2, y3⟩⟩⟩
        · simp only [fW_spread_L31, c0, if_false, fP_fits, fP_fits_0, fit, eq_false f1, Option.bind_some, xc0T, if_true, fW_spread_64, e4]
        · by_cases z : g' = g
          · subst z; exact absurd y2.1 f1
          · omega
    · rintro ⟨x, μ'⟩ ⟨rfl, f, e⟩
      refine ⟨μ', ?_, f, fun r hr' w hw' => ?_⟩
      · simp only [fW_spread_L31, show (xc 128 ≤ nI (4 * 32)) = True from by decide, if_true]
      · rw [e r hr' w hw', ← pAns_fit hw, orUp_bit]
        constructor
        · rintro ⟨g, y1, y2, y3⟩
          exact ⟨g, y1, by rw [if_pos y2, y3, Nat.testBit_two_pow_self]⟩
        · rintro ⟨g, y1, y2⟩
          by_cases q : g &&& pnamesB P = g ∧ pAll P g w
          · rw [if_pos q, Nat.testBit_two_pow, decide_eq_true_eq] at y2
            exact ⟨g, y1, q, y2⟩
          · rw [if_neg q, Nat.zero_testBit] at y2
            exact absurd y2 (by decide)
  unfold fW_spread fW_spread_0
  rw [gd193 hh]
  refine xwh_inv (body := fun z : Int32 × xM => fW_spread_L2 193 p z.1 z.2) (fun i z => z.1 = nI i ∧ Fr WG μ z.2 ∧ ∀ r, r < i → ∀ w, w < 4096 → ¬ InW z.2 (203 + r) w) _ 8 ?_ ?_ 8 0 _ (by omega) ⟨rfl, Fr.refl μ, fun r hr => absurd hr (Nat.not_lt_zero r)⟩
  · rintro i ⟨x, μ'⟩ hi ⟨rfl, f, e⟩
    left
    have c0 : ¬ xc 8 ≤ nI i := nI_ge (b := 8) hi (by decide)
    have h' := f.sh hh
    obtain ⟨μ1, g1, g2, g3⟩ := fill_ok (kw h' (a := 203 + i) (by omega)) (by omega) (by decide) (Int64.ofNat 0)
    refine ⟨(nI (i + 1), μ1), ?_, rfl, f.trans (g2.mono (fun b k q => by unfold WG; omega)), fun r hr' w hw' => ?_⟩
    · simp only [fW_spread_L2, c0, if_false, g193_2 h', Option.bind_some, ar_giv h' hi, g1, inc1]
    · by_cases q : r = i
      · subst q
        unfold InW
        rw [g3 _ (by omega), lb_N, Nat.zero_testBit, Bool.and_false]
        decide
      · rw [InW.fr g2 (fun k => by omega)]
        exact e r (by omega) w hw'
  · rintro ⟨x, μ'⟩ ⟨rfl, f, e⟩
    obtain ⟨μ1, g1, g2⟩ := part2 μ' f e
    refine ⟨μ1, ?_, g2⟩
    simp only [fW_spread_L2, show (xc 8 ≤ nI 8) = True from by decide, if_true, g1, Option.map_some]
theorem ans_bits {P : xPic} {w an : Nat} (hw : PicWf P) (ha : an < 256) : (∀ r, r < 8 → (pAns P w).testBit r = an.testBit r) ↔ pAns P w = an := by
  constructor
  · intro h
    apply Nat.eq_of_testBit_eq
    intro j
    by_cases q : j < 8
    · exact h j q
    · rw [Nat.testBit_lt_two_pow (Nat.lt_of_lt_of_le (pAns_lt hw.2.2.1) (show 2 ^ 8 ≤ 2 ^ j from Nat.pow_le_pow_right (by decide) (by omega))), Nat.testBit_lt_two_pow (Nat.lt_of_lt_of_le (show an < 2 ^ 8 from ha) (Nat.pow_le_pow_right (by decide) (by omega)))]
  · intro h r _
    rw [h]
theorem keepAgr_ok (hh : Sh μ) (h1 : xK μ 1 = (3, 6)) (hH : ∀ i, i < 6 → xL μ 1 i = xhold i) (hp : IsPic μ p m) (c : PicC μ p P) (hm : P.1.length ≤ m) (hw : PicWf P) (hd : p + 5 ≤ 193) (ha : a = 194 ∨ (196 ≤ a ∧ a < 202)) {an : Nat} (han : an < 256) : ∃ μ1, fW_keepAgreeing 193 a p (nI an) μ = some μ1 ∧ Fr (fun b k => b = a ∨ WG b k) μ μ1 ∧ ∀ w, w < 4096 → (InW μ1 a w ↔ InW μ a w ∧ pAns P w = an) := by
  obtain ⟨μ0, s1, s2, s3⟩ := spread_ok hh h1 hH hp c hm hw hd
  have goal : ∃ μ1, fW_keepAgreeing 193 a p (nI an) μ = some μ1 ∧ Fr (fun b k => b = a ∨ WG b k) μ μ1 ∧ ∀ w, w < 4096 → (InW μ1 a w ↔ InW μ a w ∧ ∀ r, r < 8 → (pAns P w).testBit r = an.testBit r) := by
    unfold fW_keepAgreeing fW_keepAgreeing_0
    rw [gd193 hh, s1, Option.bind_some]
    refine xwh_inv (body := fun z : Int32 × xM => fW_keepAgreeing_L8 193 a (nI an) z.1 z.2) (fun i z => z.1 = nI i ∧ Fr (fun b k => b = a ∨ WG b k) μ z.2 ∧ Giv z.2 P ∧ ∀ w, w < 4096 → (InW z.2 a w ↔ InW μ a w ∧ ∀ r, r < i → (pAns P w).testBit r = an.testBit r)) _ 8 ?_ ?_ 8 0 _ (by omega) ⟨rfl, s2.mono (fun b k q => Or.inr q), s3, fun w hw' => ?_⟩
    · rintro i ⟨x, μ'⟩ hi ⟨rfl, f, gv, e⟩
      left
      have c0 : ¬ xc 8 ≤ nI i := nI_ge (b := 8) hi (by decide)
      have h' := f.sh hh
      have b1 := bitAt0 (n := an) (by omega) (r := i) (by omega)
      have step : ∀ ins, (ins = xc 0 ∨ ins = xc 1) → (ins = xc 1 ↔ an.testBit i = true) → ∃ μ1, fW_keepAgreeing_37 193 a (nI an) (nI i) ins (203 + i) a μ' = some (.inl (nI (i + 1), μ1)) ∧ Fr (fun b k => b = a ∨ WG b k) μ μ1 ∧ Giv μ1 P ∧ ∀ w, w < 4096 → (InW μ1 a w ↔ InW μ a w ∧ ∀ r, r < i + 1 → (pAns P w).testBit r = an.testBit r) := fun ins hins hb => by
        obtain ⟨μ1, g1, g2, g3⟩ := keepAlike_ok (μ := μ') (a := a) (b := 203 + i) (kw h' (by omega)) (kw h' (by omega)) (by omega) (by omega) hins
        refine ⟨μ1, ?_, f.trans (g2.mono (fun b k q => Or.inl q)), gv.fr g2 (fun b k q r => by omega), fun w hw' => ?_⟩
        · simp only [fW_keepAgreeing_37, g1, Option.bind_some, inc1]
        · rw [g3 w hw', e w hw', gv i hi w hw', hb, and_assoc]
          refine and_congr_right (fun _ => ?_)
          constructor
          · rintro ⟨y1, y2⟩ r hr
            by_cases q : r = i
            · subst q
              cases z1 : (pAns P w).testBit r <;> cases z2 : an.testBit r <;> simp_all
            · exact y1 r (by omega)
          · intro y
            exact ⟨fun r hr => y r (by omega), by rw [y i (by omega)]⟩
      by_cases q : an.testBit i = false
      · obtain ⟨μ1, g1, g2⟩ := step (xc 0) (Or.inl rfl) (by rw [q]; decide)
        refine ⟨(nI (i + 1), μ1), ?_, rfl, g2⟩
        simp only [fW_keepAgreeing_L8, c0, if_false, g193_2 h', Option.bind_some, ar_giv h' hi, b1, eq_true q, if_true, g1]
      · obtain ⟨μ1, g1, g2⟩ := step (xc 1) (Or.inr rfl) (by simpa using q)
        refine ⟨(nI (i + 1), μ1), ?_, rfl, g2⟩
        simp only [fW_keepAgreeing_L8, c0, if_false, g193_2 h', Option.bind_some, ar_giv h' hi, b1, eq_false q, g1]
    · rintro ⟨x, μ'⟩ ⟨rfl, f, gv, e⟩
      refine ⟨μ', ?_, f, e⟩
      simp only [fW_keepAgreeing_L8, show (xc 8 ≤ nI 8) = True from by decide, if_true]
    · rw [InW.fr s2 (fun k => by unfold WG; omega)]
      exact ⟨fun z => ⟨z, fun r hr => absurd hr (Nat.not_lt_zero r)⟩, fun z => z.1⟩
  obtain ⟨μ1, g1, g2, g3⟩ := goal
  exact ⟨μ1, g1, g2, fun w hw' => by rw [g3 w hw', ans_bits hw han]⟩
end SPREAD
