/-! plan -/
section PLANL
theorem nI_inj {a b : Nat} (ha : a < 2 ^ 31) (hb : b < 2 ^ 31) (h : nI a = nI b) : a = b := by
  have x := nI_toInt ha
  have y := nI_toInt hb
  rw [h] at x
  omega
theorem nI_iff {a b : Nat} (ha : a < 2 ^ 31) (hb : b < 2 ^ 31) : (nI a = nI b) = (a = b) := propext ⟨nI_inj ha hb, fun h => by rw [h]⟩
/-- the first below n that may be next, or none -/
def NextOf (n : Nat) (P : Nat → Prop) (r : Int32) : Prop := (∃ i, i < n ∧ P i ∧ (∀ k, k < i → ¬ P k) ∧ r = nI i) ∨ ((∀ i, i < n → ¬ P i) ∧ r = xc (-1))
theorem next_uni {n : Nat} {P P' : Nat → Prop} {r r' : Int32} (e : ∀ i, i < n → (P i ↔ P' i)) (h : NextOf n P r) (h' : NextOf n P' r') : r = r' := by
  rcases h with ⟨i, h1, h2, h3, h4⟩ | ⟨h1, h2⟩
  · rcases h' with ⟨k, k1, k2, k3, k4⟩ | ⟨k1, k2⟩
    · have a : ¬ k < i := fun z => h3 k z ((e k k1).mpr k2)
      have b : ¬ i < k := fun z => k3 i z ((e i h1).mp h2)
      rw [h4, k4, show i = k by omega]
    · exact absurd ((e i h1).mp h2) (k1 i h1)
  · rcases h' with ⟨k, k1, k2, k3, k4⟩ | ⟨k1, k2⟩
    · exact absurd ((e k k1).mpr k2) (h1 k k1)
    · rw [h2, k2]
/-- a show is open to be asked -/
def Nx (sh : List Nat) (gb left kn i : Nat) : Prop := left.testBit i = true ∧ (gb.testBit (sh.getD i 0 / 512) = false ∨ kn.testBit (pterm (sh.getD i 0) 0) = true)
theorem bitAt0 {n r : Nat} (h : n < 2 ^ 31) (hr : r < 32) : ((nI n >>> (nI r &&& 31)) &&& xc 1 = 0) = (n.testBit r = false) := by
  rw [nI_bitAt h hr]
  by_cases q : n.testBit r = true
  · rw [if_pos q, q]; decide
  · rw [if_neg q]
    exact propext ⟨fun _ => Bool.eq_false_iff.mpr q, fun _ => rfl⟩
theorem xnext_ok {μ : xM} {s : Nat} {sh : List Nat} (h : IsSight μ s) (hF : FoundS μ s sh) (hv : ∀ x, x ∈ sh → x < 3072) (h7 : ∀ x, x ∈ sh → ∀ k, pterm x k < 7) {left kn gb : Nat} (hl : left < 2 ^ 31) (hk : kn < 2 ^ 31) (hg : gb < 2 ^ 31) : ∃ r, fS_nextToAsk s (nI left) (nI kn) (nI gb) μ = some r ∧ NextOf sh.length (Nx sh gb left kn) r := by
  have l12 := hF.1
  unfold fS_nextToAsk fS_nextToAsk_0
  rw [gd_k (ci := 6) h.2.1]
  refine xwh_inv (body := fun z : Int32 => fS_nextToAsk_L3 s (nI left) (nI kn) (nI gb) z μ) (fun i z => z = nI i ∧ ∀ k, k < i → ¬ Nx sh gb left kn k) _ sh.length ?_ ?_ sh.length 0 _ (by omega) ⟨rfl, fun k hk => absurd hk (Nat.not_lt_zero k)⟩
  · rintro i z hi ⟨rfl, m⟩
    have c0 : ¬ nI sh.length ≤ nI i := nI_ge hi (by omega)
    have mm := getD_memD (d := 0) hi
    have x1 := hv _ mm
    have vo := xviewOf_ok h (i := i) (by omega) (hF.2.2 i hi) (by omega)
    have to : fS_termOf s (nI i) (xc 0) μ = some (nI (pterm (sh.getD i 0) 0)) := xtermOf_ok h (i := i) (k := 0) (by omega) (hF.2.2 i hi) (by omega) (by decide)
    have t7 := h7 _ mm 0
    have b1 := bitAt0 hg (r := sh.getD i 0 / 512) (by omega)
    have b2 := bitAt0 hk (r := pterm (sh.getD i 0) 0) (by omega)
    have b3 := bitAt0 hl (r := i) (by omega)
    have go : ∀ s0, (left.testBit i = false ∨ s0 = 0) → fS_nextToAsk_44 s (nI left) (nI kn) (nI gb) (nI i) s0 μ = some (.inl (nI (i + 1))) := fun s0 q => by
      rcases q with q | q
      · simp only [fS_nextToAsk_44, b3, eq_true q, if_true, fS_nextToAsk_63, inc1]
      · by_cases q2 : left.testBit i = false
        · simp only [fS_nextToAsk_44, b3, eq_true q2, if_true, fS_nextToAsk_63, inc1]
        · simp only [fS_nextToAsk_44, b3, eq_false q2, eq_true q, if_false, if_true, fS_nextToAsk_63, inc1]
    have st : left.testBit i = true → fS_nextToAsk_44 s (nI left) (nI kn) (nI gb) (nI i) (xc 1) μ = some (.inr (nI i)) := fun q => by
      have q' : ¬ left.testBit i = false := by rw [q]; decide
      simp only [fS_nextToAsk_44, b3, eq_false q', xc1F, if_false, fS_nextToAsk_60, Option.map_some]
    have nxt : ¬ Nx sh gb left kn i → ∀ k, k < i + 1 → ¬ Nx sh gb left kn k := fun q k hk => by
      by_cases e : k = i
      · rw [e]; exact q
      · exact m k (by omega)
    by_cases q1 : gb.testBit (sh.getD i 0 / 512) = false
    · by_cases q3 : left.testBit i = true
      · right
        refine ⟨nI i, ?_, Or.inl ⟨i, hi, ⟨q3, Or.inl q1⟩, m, rfl⟩⟩
        simp only [fS_nextToAsk_L3, sf h, hF.2.1, Option.bind_some, c0, if_false, vo, b1, eq_true q1, if_true, fS_nextToAsk_39, st q3]
      · left
        refine ⟨nI (i + 1), ?_, rfl, nxt (fun z => q3 z.1)⟩
        simp only [fS_nextToAsk_L3, sf h, hF.2.1, Option.bind_some, c0, if_false, vo, b1, eq_true q1, if_true, fS_nextToAsk_39, go _ (Or.inl (Bool.eq_false_iff.mpr q3))]
    · by_cases q2 : kn.testBit (pterm (sh.getD i 0) 0) = false
      · left
        refine ⟨nI (i + 1), ?_, rfl, nxt (fun z => z.2.elim q1 (fun w => by rw [q2] at w; exact absurd w (by decide)))⟩
        simp only [fS_nextToAsk_L3, sf h, hF.2.1, Option.bind_some, c0, if_false, vo, b1, eq_false q1, to, Option.bind_some, b2, eq_true q2, if_true, go (xc 0) (Or.inr rfl)]
      · have q2' : kn.testBit (pterm (sh.getD i 0) 0) = true := by simpa using q2
        by_cases q3 : left.testBit i = true
        · right
          refine ⟨nI i, ?_, Or.inl ⟨i, hi, ⟨q3, Or.inr q2'⟩, m, rfl⟩⟩
          simp only [fS_nextToAsk_L3, sf h, hF.2.1, Option.bind_some, c0, if_false, vo, b1, eq_false q1, to, b2, eq_false q2, if_false, fS_nextToAsk_39, st q3]
        · left
          refine ⟨nI (i + 1), ?_, rfl, nxt (fun z => q3 z.1)⟩
          simp only [fS_nextToAsk_L3, sf h, hF.2.1, Option.bind_some, c0, if_false, vo, b1, eq_false q1, to, b2, eq_false q2, if_false, fS_nextToAsk_39]
          exact go _ (Or.inl (Bool.eq_false_iff.mpr q3))
  · rintro z ⟨rfl, m⟩
    refine ⟨xc (-1), ?_, Or.inr ⟨m, rfl⟩⟩
    simp only [fS_nextToAsk_L3, sf h, hF.2.1, Option.bind_some, Int32.le_refl, if_true, fS_nextToAsk_69, Option.map_some]
/-- the first term of a show, also of a view with an empty head -/
theorem MBase.term0 {μ : xM} {V : Nat → xPic} {nv : Nat} {sh : List Nat} (h : MBase μ V nv sh) {i : Nat} (hi : i < sh.length) : fM_termOf 293 (nI i) (xc 0) μ = some (nI (pterm (sh.getD i 0) 0)) := by
  by_cases q : 0 < (V (sh.getD i 0 / 512)).2.length
  · exact h.term hi q
  · have hh := h.1
    have l12 := h.2.1.1
    have xx := h.2.2.2.1 _ (getD_memD (d := 0) hi)
    have q0 : (V (sh.getD i 0 / 512)).2.length = 0 := by omega
    obtain ⟨g1, g2⟩ := h.2.1.2.2 i hi
    have v6 := xx.1
    have n6 := h.2.2.1
    have t1 : ldA μ 320 (nI i) = some (nI 0) := by rw [la320 hh (by omega), g2, q0]; rfl
    have t2 : ldA μ 319 (nI i) = some (nI (sh.getD i 0 / 512)) := h.view hi
    have t3 : ldA μ 303 (nI (10 + sh.getD i 0 / 512)) = some (nI 0) := by rw [h.head xx.1, q0]
    have p0 : pterm (sh.getD i 0) 0 = 0 := by
      obtain ⟨a, b, c, ha, hb, hc, e, h1, h2, h3⟩ := xx.2.2.1
      rw [e, (pterm_code ha hb hc).1]
      exact h1 (by omega)
    rw [p0]
    simp only [fM_termOf, fM_termOf_0, gd293 hh, g293_42 hh, Option.bind_some, t1, g293_14 hh, g293_41 hh, t2, ix10, t3]
    refine xwh_stop ?_
    simp only [fM_termOf_L25, show (nI 0 - xc 1 ≤ xc 0) = True from by decide, if_true, fM_termOf_42, rmI, show (xc 7 = 0) = False from by decide, if_false, Option.bind_some, Option.map_some]
    rfl
/-- the reference's word -/
def NxM (V : Nat → xPic) (sh : List Nat) (gb set asked i : Nat) : Prop := set.testBit i = true ∧ asked.testBit i = false ∧ (gb.testBit (sh.getD i 0 / 512) = false ∨ pshown V (lsOf sh asked sh.length) (pterm (sh.getD i 0) 0))
theorem mnext_ok {μ : xM} {V : Nat → xPic} {nv : Nat} {sh : List Nat} (h : MBase μ V nv sh) {gb : Nat} (hg : HG μ nv gb) {set asked : Nat} (hs : set < 2 ^ 31) (ha : asked < 2 ^ 31) (v3 v4 : Int32) : ∃ r, NextOf sh.length (NxM V sh gb set asked) r ∧ xwh (fun s : Int32 × Int32 => fM_orderOf_L23 293 (nI set) (nI asked) v3 v4 s.1 s.2 μ) (xc (-1), nI sh.length - xc 1) = fM_orderOf_116 293 (nI set) (nI asked) v3 v4 r μ := by
  have hh := h.1
  have l12 := h.2.1.1
  have n6 := h.2.2.1
  have goal : ∃ a, xwh (fun s : Int32 × Int32 => fM_orderOf_L23 293 (nI set) (nI asked) v3 v4 s.1 s.2 μ) (xc (-1), nI sh.length - xc 1) = some a ∧ ∃ r, NextOf sh.length (NxM V sh gb set asked) r ∧ some a = fM_orderOf_116 293 (nI set) (nI asked) v3 v4 r μ := by
    refine xwh_dec (fun m z => m ≤ sh.length ∧ z.2 = nI m - xc 1 ∧ ((∃ i, m ≤ i ∧ i < sh.length ∧ NxM V sh gb set asked i ∧ (∀ k, m ≤ k → k < i → ¬ NxM V sh gb set asked k) ∧ z.1 = nI i) ∨ ((∀ i, m ≤ i → i < sh.length → ¬ NxM V sh gb set asked i) ∧ z.1 = xc (-1)))) _ ?_ (sh.length + 1) sh.length _ (by omega) ⟨Nat.le_refl _, rfl, Or.inr ⟨fun i h1 h2 => absurd h1 (by omega), rfl⟩⟩
    rintro m ⟨v5, v6⟩ ⟨hm, rfl, hI⟩
    dsimp only at hI
    cases m with
    | zero =>
      right
      have c0 : nI 0 - xc 1 < 0 := by decide
      have fin : ∃ a, fM_orderOf_116 293 (nI set) (nI asked) v3 v4 v5 μ = some a := by
        unfold fM_orderOf_116
        split
        · exact ⟨_, rfl⟩
        · exact ⟨_, rfl⟩
      obtain ⟨a, ea⟩ := fin
      refine ⟨a, ?_, v5, ?_, ea.symm⟩
      · simp only [fM_orderOf_L23, c0, if_true, ea, Option.map_some]
      · rcases hI with ⟨i, _, i2, i3, i4, i5⟩ | ⟨i1, i2⟩
        · exact Or.inl ⟨i, i2, i3, fun k hk => i4 k (Nat.zero_le k) hk, i5⟩
        · exact Or.inr ⟨fun i hi => i1 i (Nat.zero_le i) hi, i2⟩
    | succ m =>
      left
      have hi : m < sh.length := by omega
      have em : nI (m + 1) - xc 1 = nI m := pk_sub (a := m + 1) (b := 1) (by omega)
      have en : nI m + xc (-1) = nI m - xc 1 := by rw [Int32.sub_eq_add_neg]; rfl
      have c0 : ¬ nI m < 0 := nI_pos (by omega)
      have xx := h.2.2.2.1 _ (getD_memD (d := 0) hi)
      have t7 := xx.2.2.2.1 0
      have tv := h.view hi
      have tg : ldAZ μ 311 (nI (sh.getD m 0 / 512)) = some (if gb.testBit (sh.getD m 0 / 512) then xc 1 else xc 0) := by
        rw [lz311 hh (by have := xx.1; omega), hg _ xx.1, div_mod2]
        split <;> rfl
      have tt := h.term0 hi
      obtain ⟨v, ev, tv2⟩ := mshown_ok h ha (t := pterm (sh.getD m 0) 0) (by omega)
      have b1 := bitAt0 hs (r := m) (by omega)
      have b2 := bitAt0 ha (r := m) (by omega)
      have b1' : ((nI set >>> (nI m &&& 31)) &&& xc 1 = xc 1) = (set.testBit m = true) := propext (mbit hs (by omega))
      by_cases q : NxM V sh gb set asked m
      · refine ⟨(nI m, nI m - xc 1), m, Nat.lt_succ_self m, ?_, by omega, rfl, Or.inl ⟨m, Nat.le_refl _, hi, q, fun k h1 h2 => absurd h1 (by omega), rfl⟩⟩
        obtain ⟨q1, q2, q3⟩ := q
        by_cases q4 : gb.testBit (sh.getD m 0 / 512) = false
        · simp only [fM_orderOf_L23, em, c0, if_false, b1', eq_true q1, b2, eq_true q2, if_true, fM_orderOf_52, g293_22 hh, g293_41 hh, Option.bind_some, tv, tg, q4, Bool.false_eq_true, xc0T, fM_orderOf_84, fM_orderOf_89, xc1F, fM_orderOf_108, en]
        · have q4' : gb.testBit (sh.getD m 0 / 512) = true := by simpa using q4
          have v1 : v = xc 1 := by
            rcases tv2 with ⟨z, _⟩ | ⟨_, z⟩
            · exact z
            · exact absurd (q3.resolve_left q4) z
          rw [v1] at ev
          simp only [fM_orderOf_L23, em, c0, if_false, b1', eq_true q1, b2, eq_true q2, if_true, fM_orderOf_52, g293_22 hh, g293_41 hh, Option.bind_some, tv, tg, q4', xc1F, tt, ev, fM_orderOf_84, fM_orderOf_89, fM_orderOf_108, en]
      · refine ⟨(v5, nI m - xc 1), m, Nat.lt_succ_self m, ?_, by omega, rfl, ?_⟩
        · have none : ∀ s0 v7, (v7 = xc 0 ∨ s0 = xc 0) → fM_orderOf_89 293 (nI set) (nI asked) v3 v4 v5 (nI m) v7 s0 μ = some (.inl (v5, nI m - xc 1)) := fun s0 v7 z => by
            rcases z with z | z
            · rw [z]
              simp only [fM_orderOf_89, xc0T, if_true, fM_orderOf_106, fM_orderOf_108, en]
            · rw [z]
              unfold fM_orderOf_89
              split
              · simp only [fM_orderOf_106, fM_orderOf_108, en]
              · simp only [xc0T, if_true, fM_orderOf_106, fM_orderOf_108, en]
          have c52 : ∀ s0, (s0 = xc 0 ∨ (gb.testBit (sh.getD m 0 / 512) = true ∧ v = xc 0)) → fM_orderOf_52 293 (nI set) (nI asked) v3 v4 v5 (nI m) s0 μ = some (.inl (v5, nI m - xc 1)) := fun s0 z => by
            by_cases q4 : gb.testBit (sh.getD m 0 / 512) = true
            · rcases tv2 with ⟨w, _⟩ | ⟨w, _⟩
              · rcases z with z | z
                · rw [w] at ev
                  simp only [fM_orderOf_52, g293_22 hh, g293_41 hh, Option.bind_some, tv, tg, q4, if_true, xc1F, if_false, tt, ev, fM_orderOf_84]
                  exact none _ _ (Or.inl z)
                · rw [z.2] at w; exact absurd w (by decide)
              · rw [w] at ev
                simp only [fM_orderOf_52, g293_22 hh, g293_41 hh, Option.bind_some, tv, tg, q4, if_true, xc1F, if_false, tt, ev, xc0T]
                exact none _ _ (Or.inr rfl)
            · have z' := z.resolve_right (fun w => q4 w.1)
              simp only [fM_orderOf_52, g293_22 hh, g293_41 hh, Option.bind_some, tv, tg, q4, if_false, xc0T, if_true, fM_orderOf_84]
              exact none _ _ (Or.inl z')
          by_cases q1 : set.testBit m = true
          · by_cases q2 : asked.testBit m = false
            · have q5 : gb.testBit (sh.getD m 0 / 512) = true ∧ v = xc 0 := by
                constructor
                · by_cases w : gb.testBit (sh.getD m 0 / 512) = true
                  · exact w
                  · exact absurd ⟨q1, q2, Or.inl (Bool.eq_false_iff.mpr w)⟩ q
                · rcases tv2 with ⟨_, w⟩ | ⟨w, _⟩
                  · exact absurd ⟨q1, q2, Or.inr w⟩ q
                  · exact w
              simp only [fM_orderOf_L23, em, c0, if_false, b1', eq_true q1, b2, eq_true q2, if_true]
              exact c52 _ (Or.inr q5)
            · simp only [fM_orderOf_L23, em, c0, if_false, b1', eq_true q1, b2, eq_false q2, if_true, fM_orderOf_51]
              exact c52 _ (Or.inl rfl)
          · simp only [fM_orderOf_L23, em, c0, if_false, b1', eq_false q1, fM_orderOf_51]
            exact c52 _ (Or.inl rfl)
        · rcases hI with ⟨i, i1, i2, i3, i4, i5⟩ | ⟨i1, i2⟩
          · refine Or.inl ⟨i, by omega, i2, i3, fun k h1 h2 => ?_, i5⟩
            by_cases e : k = m
            · rw [e]; exact q
            · exact i4 k (by omega) h2
          · refine Or.inr ⟨fun i h1 h2 => ?_, i2⟩
            by_cases e : i = m
            · rw [e]; exact q
            · exact i1 i (by omega) h2
  obtain ⟨a, g1, r, g2, g3⟩ := goal
  exact ⟨r, g2, g1.trans g3⟩
end PLANL
