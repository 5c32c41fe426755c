section BESIDESC
theorem copyL_ok {μ : xM} {a b : Nat} (ka : xK μ a = (3, 64)) (kb : xK μ b = (3, 64)) (ha : 2 ≤ a) (hb : 2 ≤ b) : ∃ μ1, xcopyL μ a (xc 0) b (xc 0) (xc 64) = some μ1 ∧ Fr (fun c _ => c = b) μ μ1 ∧ ∀ w, w < 4096 → (InW μ1 b w ↔ InW μ a w) := by
  let μc : xM := (μ.1, μ.2.1, μ.2.2.1, μ.2.2.2.1, (fun c j => if c = b then va_cpy (μ.2.2.2.2 a) (μ.2.2.2.2 b) 0 0 64 j else μ.2.2.2.2 c j))
  refine ⟨μc, ?_, ⟨rfl, rfl, rfl, fun c k _ => rfl, fun c k q => ?_⟩, fun w hw => ?_⟩
  · unfold xcopyL
    rw [if_pos]
    · rfl
    · rw [ka, kb]
      exact ⟨⟨⟨rfl, ha⟩, rfl, hb⟩, by decide, by decide, by decide, by decide, by decide⟩
  · show (if c = b then va_cpy (μ.2.2.2.2 a) (μ.2.2.2.2 b) 0 0 64 k else μ.2.2.2.2 c k) = _
    rw [if_neg q]
    rfl
  · unfold InW
    have : xL μc b (w / 64) = xL μ a (w / 64) := by
      show (if b = b then va_cpy (μ.2.2.2.2 a) (μ.2.2.2.2 b) 0 0 64 (w / 64) else μ.2.2.2.2 b (w / 64)) = _
      rw [if_pos rfl]
      unfold va_cpy
      rw [if_pos ⟨by omega, by omega⟩, Nat.sub_zero, Nat.zero_add]
      rfl
    rw [this]
/-- the least set, by many and then by value -/
def LeastOn (Q : Nat → Prop) (r : Int32) : Prop := (∃ u, Q u ∧ r = nI u ∧ ∀ x, Q x → onesN 12 u < onesN 12 x ∨ onesN 12 u = onesN 12 x ∧ u ≤ x) ∨ ((∀ x, ¬ Q x) ∧ r = xc (-9))
theorem least_uni {Q Q' : Nat → Prop} {r r' : Int32} (e : ∀ x, Q x ↔ Q' x) (h : LeastOn Q r) (h' : LeastOn Q' r') : r = r' := by
  rcases h with ⟨u, h1, h2, h3⟩ | ⟨h1, h2⟩
  · rcases h' with ⟨u', k1, k2, k3⟩ | ⟨k1, k2⟩
    · have x := h3 u' ((e u').mpr k1)
      have y := k3 u ((e u).mp h1)
      rw [h2, k2, show u = u' by omega]
    · exact absurd ((e u).mp h1) (k1 u)
  · rcases h' with ⟨u', k1, k2, k3⟩ | ⟨k1, k2⟩
    · exact absurd ((e u').mpr k1) (h1 u')
    · rw [h2, k2]
/-- a world that agrees with views -/
def AgrW (V : Nat → xPic) (nv T u w : Nat) : Prop := ∀ v, v < nv → u.testBit v = true → pAns (V v) w = pAns (V v) T
/-- views settle a picture's answer -/
def SetW (V : Nat → xPic) (nv T : Nat) (P : xPic) (W : Nat → Prop) (u : Nat) : Prop := (∃ w, w < 4096 ∧ W w ∧ AgrW V nv T u w) ∧ ∀ w w', w < 4096 → w' < 4096 → W w → AgrW V nv T u w → W w' → AgrW V nv T u w' → pAns P w = pAns P w'
variable {μ : xM} {V : Nat → xPic} {nv K kb T : Nat} {P : xPic} {W : Nat → Prop}
def Bes (μ : xM) (V : Nat → xPic) (nv T : Nat) (P : xPic) (W : Nat → Prop) : Prop := Sh μ ∧ nv ≤ 6 ∧ PicWf P ∧ (∀ w, w < 4096 → (InW μ 194 w ↔ W w)) ∧ (∀ v, v < nv → ∀ w, w < 4096 → (InW μ (196 + v) w ↔ pAns (V v) w = pAns (V v) T)) ∧ Giv μ P
theorem Bes.fr {μ' : xM} (h : Bes μ V nv T P W) (f : Fr (fun b _ => b = 211) μ μ') : Bes μ' V nv T P W := by
  obtain ⟨a, b, c, d, e, g⟩ := h
  exact ⟨f.sh a, b, c, fun w hw => (InW.fr f (fun k => by omega)).trans (d w hw), fun v hv w hw => (InW.fr f (fun k => by omega)).trans (e v hv w hw), g.fr f (fun b k q r => by omega)⟩
theorem settles_ok (h : Bes μ V nv T P W) {u : Nat} (hu : u < 2 ^ nv) : ∃ r μ1, fW_settles 193 (nI u) μ = some (r, μ1) ∧ Fr (fun b _ => b = 211) μ μ1 ∧ Tells r (SetW V nv T P W u) := by
  obtain ⟨hh, n6, wP, hO, hAg, hG⟩ := h
  have p64 : 2 ^ nv ≤ 64 := Nat.pow_le_pow_right (n := 2) (by decide) n6
  have part2 : ∀ μ', Fr (fun b _ => b = 211) μ μ' → (∀ w, w < 4096 → (InW μ' 211 w ↔ W w ∧ AgrW V nv T u w)) → ∃ r, fW_settles_51 193 μ' = some (r, μ') ∧ Tells r (SetW V nv T P W u) := fun μ' f hL => by
    have h' := f.sh hh
    have g' := hG.fr f (fun b k q r => by omega)
    obtain ⟨r, a1, a2⟩ := isEmpty_ok (μ := μ') (a := 211) (kw h' (by omega))
    have e1 : fW_settles_51 193 μ' = if r = 0 then (xwh (fun s : Int32 => fW_settles_L65 193 s μ') (xc 0)) else (some ((xc 0, μ'))) := by
      simp only [fW_settles_51, g193_3 h', Option.bind_some, a1]
    have ex : (∃ w, w < 4096 ∧ InW μ' 211 w) ↔ ∃ w, w < 4096 ∧ W w ∧ AgrW V nv T u w := ⟨fun ⟨w, y1, y2⟩ => ⟨w, y1, (hL w y1).mp y2⟩, fun ⟨w, y1, y2⟩ => ⟨w, y1, (hL w y1).mpr y2⟩⟩
    rcases a2 with ⟨rfl, a2⟩ | ⟨rfl, a2⟩
    · exact ⟨xc 0, by rw [e1, if_neg (by decide)], Or.inr ⟨rfl, fun z => a2 (ex.mpr z.1)⟩⟩
    · have hex := ex.mp (Classical.not_not.mp a2)
      rw [if_pos (by decide)] at e1
      have goal : ∃ a, xwh (fun s : Int32 => fW_settles_L65 193 s μ') (xc 0) = some a ∧ a.2 = μ' ∧ Tells a.1 (SetW V nv T P W u) := by
        refine xwh_inv (body := fun s : Int32 => fW_settles_L65 193 s μ') (fun i z => z = nI i ∧ ∀ j, j < i → ∀ w w', w < 4096 → w' < 4096 → W w → AgrW V nv T u w → W w' → AgrW V nv T u w' → (pAns P w).testBit j = (pAns P w').testBit j) _ 8 ?_ ?_ 8 0 _ (by omega) ⟨rfl, fun j hj => absurd hj (Nat.not_lt_zero j)⟩
        · rintro i z hi ⟨rfl, I⟩
          have c0 : ¬ xc 8 ≤ nI i := nI_ge (b := 8) hi (by decide)
          obtain ⟨r, l1, l2⟩ := meets_ok (μ := μ') (a := 211) (b := 203 + i) (kw h' (by omega)) (kw h' (by omega))
          obtain ⟨r2, m1, m2⟩ := leaves_ok (μ := μ') (a := 211) (b := 203 + i) (kw h' (by omega)) (kw h' (by omega))
          have cont : (¬ (∃ w, w < 4096 ∧ InW μ' 211 w ∧ InW μ' (203 + i) w) ∨ ¬ (∃ w, w < 4096 ∧ InW μ' 211 w ∧ ¬ InW μ' (203 + i) w)) → ∀ j, j < i + 1 → ∀ w w', w < 4096 → w' < 4096 → W w → AgrW V nv T u w → W w' → AgrW V nv T u w' → (pAns P w).testBit j = (pAns P w').testBit j := fun q j hj w w' hw hw' x1 x2 y1 y2 => by
            by_cases z : j = i
            · subst z
              have b1 := g' j hi w hw
              have b2 := g' j hi w' hw'
              have i1 := (hL w hw).mpr ⟨x1, x2⟩
              have i2 := (hL w' hw').mpr ⟨y1, y2⟩
              rcases q with q | q
              · have n1 : ¬ InW μ' (203 + j) w := fun z => q ⟨w, hw, i1, z⟩
                have n2 : ¬ InW μ' (203 + j) w' := fun z => q ⟨w', hw', i2, z⟩
                rw [b1] at n1
                rw [b2] at n2
                rw [Bool.eq_false_iff.mpr n1, Bool.eq_false_iff.mpr n2]
              · have n1 : InW μ' (203 + j) w := Classical.byContradiction (fun z => q ⟨w, hw, i1, z⟩)
                have n2 : InW μ' (203 + j) w' := Classical.byContradiction (fun z => q ⟨w', hw', i2, z⟩)
                rw [b1.mp n1, b2.mp n2]
            · exact I j (by omega) w w' hw hw' x1 x2 y1 y2
          rcases l2 with ⟨rfl, l2⟩ | ⟨rfl, l2⟩
          · rcases m2 with ⟨rfl, m2⟩ | ⟨rfl, m2⟩
            · right
              refine ⟨(xc 0, μ'), ?_, rfl, Or.inr ⟨rfl, fun z => ?_⟩⟩
              · simp only [fW_settles_L65, c0, if_false, g193_3 h', g193_2 h', Option.bind_some, ar_giv h' hi, l1, xc1F, m1, fW_settles_103, Option.map_some]
              · obtain ⟨w, w1, w2, w3⟩ := l2
                obtain ⟨w', w1', w2', w3'⟩ := m2
                have a := (hL w w1).mp w2
                have b := (hL w' w1').mp w2'
                have e := z.2 w w' w1 w1' a.1 a.2 b.1 b.2
                rw [g' i hi w w1, e] at w3
                exact w3' ((g' i hi w' w1').mpr w3)
            · left
              refine ⟨nI (i + 1), ?_, rfl, cont (Or.inr m2)⟩
              simp only [fW_settles_L65, c0, if_false, g193_3 h', g193_2 h', Option.bind_some, ar_giv h' hi, l1, xc1F, m1, xc0T, if_true, fW_settles_105, inc1]
          · left
            refine ⟨nI (i + 1), ?_, rfl, cont (Or.inl l2)⟩
            simp only [fW_settles_L65, c0, if_false, g193_3 h', g193_2 h', Option.bind_some, ar_giv h' hi, l1, xc0T, if_true, fW_settles_105, inc1]
        · rintro z ⟨rfl, I⟩
          refine ⟨(xc 1, μ'), ?_, rfl, Or.inl ⟨rfl, hex, fun w w' hw hw' x1 x2 y1 y2 => ?_⟩⟩
          · simp only [fW_settles_L65, show (xc 8 ≤ nI 8) = True from by decide, if_true, fW_settles_111, Option.map_some]
          · exact (ans_bits wP (pAns_lt wP.2.2.1)).mp (fun r hr => I r hr w w' hw hw' x1 x2 y1 y2)
      obtain ⟨⟨r, μ''⟩, g1, rfl, g2⟩ := goal
      exact ⟨r, e1.trans g1, g2⟩
  obtain ⟨μ0, c1, c2, c3⟩ := copyL_ok (μ := μ) (a := 194) (b := 211) (kw hh (by omega)) (kw hh (by omega)) (by omega) (by omega)
  have goal : ∃ a, xwh (fun s : Int32 × xM => fW_settles_L17 193 (nI u) s.1 s.2) (xc 0, μ0) = some a ∧ ∃ r μ1, a = (r, μ1) ∧ Fr (fun b _ => b = 211) μ μ1 ∧ Tells r (SetW V nv T P W u) := by
    refine xwh_inv (body := fun s : Int32 × xM => fW_settles_L17 193 (nI u) s.1 s.2) (fun i z => z.1 = nI i ∧ Fr (fun b _ => b = 211) μ z.2 ∧ ∀ w, w < 4096 → (InW z.2 211 w ↔ W w ∧ ∀ v, v < nv → v < i → u.testBit v = true → pAns (V v) w = pAns (V v) T)) _ 6 ?_ ?_ 6 0 _ (by omega) ⟨rfl, c2, fun w hw => (c3 w hw).trans ((hO w hw).trans ⟨fun y => ⟨y, fun v _ hv => absurd hv (Nat.not_lt_zero v)⟩, fun y => y.1⟩)⟩
    · rintro i ⟨x, μ'⟩ hi ⟨rfl, f, e⟩
      left
      have h' := f.sh hh
      have c0 : ¬ xc 6 ≤ nI i := nI_ge (b := 6) hi (by decide)
      have b1 := bitAt0 (n := u) (by omega) (r := i) (by omega)
      by_cases q : u.testBit i = false
      · refine ⟨(nI (i + 1), μ'), ?_, rfl, f, fun w hw => (e w hw).trans (and_congr_right (fun _ => ⟨fun y v hv hv2 hb => ?_, fun y v hv hv2 => y v hv (by omega)⟩))⟩
        · simp only [fW_settles_L17, c0, if_false, b1, eq_true q, if_true, fW_settles_45, inc1]
        · by_cases z : v = i
          · subst z; rw [q] at hb; exact absurd hb (by decide)
          · exact y v hv (by omega) hb
      · have q' : u.testBit i = true := by simpa using q
        have inv : i < nv := by
          apply Classical.byContradiction
          intro n
          rw [Nat.testBit_lt_two_pow (Nat.lt_of_lt_of_le hu (Nat.pow_le_pow_right (by decide) (by omega)))] at q'
          exact absurd q' (by decide)
        obtain ⟨μ2, g1, g2, g3⟩ := keepAlike_ok (μ := μ') (a := 211) (b := 196 + i) (kw h' (by omega)) (kw h' (by omega)) (by omega) (by omega) (Or.inr rfl : xc 1 = xc 0 ∨ xc 1 = xc 1)
        refine ⟨(nI (i + 1), μ2), ?_, rfl, f.trans g2, fun w hw => ?_⟩
        · simp only [fW_settles_L17, c0, if_false, b1, eq_false q, g193_3 h', g193_1 h', Option.bind_some, ar_agr h' hi, g1, fW_settles_45, inc1]
        · have ag : InW μ' (196 + i) w ↔ pAns (V i) w = pAns (V i) T := (InW.fr f (fun k => by omega)).trans (hAg i inv w hw)
          rw [g3 w hw, e w hw, and_assoc]
          refine and_congr_right (fun _ => ?_)
          constructor
          · rintro ⟨y1, y2⟩ v hv hv2 hb
            by_cases z : v = i
            · subst z; exact ag.mp (y2.mpr rfl)
            · exact y1 v hv (by omega) hb
          · exact fun y => ⟨fun v hv hv2 => y v hv (by omega), ⟨fun _ => rfl, fun _ => ag.mpr (y i inv (by omega) q')⟩⟩
    · rintro ⟨x, μ'⟩ ⟨rfl, f, e⟩
      obtain ⟨r, g1, g2⟩ := part2 μ' f (fun w hw => (e w hw).trans (and_congr_right (fun _ => ⟨fun y v hv => y v hv (by omega), fun y v hv _ => y v hv⟩)))
      refine ⟨(r, μ'), ?_, r, μ', rfl, f, g2⟩
      simp only [fW_settles_L17, show (xc 6 ≤ nI 6) = True from by decide, if_true, g1, Option.map_some]
  obtain ⟨a, g1, r, μ1, rfl, g2, g3⟩ := goal
  refine ⟨r, μ1, ?_, g2, g3⟩
  simp only [fW_settles, fW_settles_0, gd193 hh, g193_0 hh, g193_3 hh, Option.bind_some, c1]
  exact g1
/-- a set of views that may be besides -/
def BesQ (V : Nat → xPic) (nv T kb : Nat) (P : xPic) (W : Nat → Prop) (u : Nat) : Prop := u < 2 ^ nv ∧ u &&& kb = 0 ∧ SetW V nv T P W u
theorem fewest_ok (h : Bes μ V nv T P W) (e3 : xI μ 3 3 = nI nv) (e4 : xI μ 3 4 = nI kb) (hkb : kb < 2 ^ nv) : ∃ r μ1, xwh (fun s : Int32 × xM => fW_fewestBesides_L69 193 3 s.1 s.2) (xc 0, μ) = some (r, μ1) ∧ Fr (fun b _ => b = 211) μ μ1 ∧ LeastOn (BesQ V nv T kb P W) r := by
  have n6 := h.2.1
  have p64 : 2 ^ nv ≤ 64 := Nat.pow_le_pow_right (n := 2) (by decide) n6
  have p1 : 1 ≤ 2 ^ nv := Nat.one_le_two_pow
  have many : ∀ m, m ≤ nv → ∀ μ0, Fr (fun b _ => b = 211) μ μ0 → (∀ x, BesQ V nv T kb P W x → m ≤ onesN 12 x) → ∃ a, xwh (fun s : Int32 × xM => fW_fewestBesides_L80 193 3 (nI m) s.1 s.2) (xc 0, μ0) = some a ∧ ∃ μ1, Fr (fun b _ => b = 211) μ μ1 ∧ ((∃ r, a = .inr (r, μ1) ∧ LeastOn (BesQ V nv T kb P W) r) ∨ (a = .inl (nI (m + 1), μ1) ∧ ∀ x, BesQ V nv T kb P W x → m + 1 ≤ onesN 12 x)) := fun m hm μ0 f0 I0 => by
    refine xwh_inv (body := fun s : Int32 × xM => fW_fewestBesides_L80 193 3 (nI m) s.1 s.2) (fun i z => z.1 = nI i ∧ Fr (fun b _ => b = 211) μ z.2 ∧ ∀ x, BesQ V nv T kb P W x → m + 1 ≤ onesN 12 x ∨ m = onesN 12 x ∧ i ≤ x) _ (2 ^ nv) ?_ ?_ (2 ^ nv) 0 _ (by omega) ⟨rfl, f0, fun x hx => by have := I0 x hx; omega⟩
    · rintro i ⟨x, μ'⟩ hi ⟨rfl, f, I⟩
      have hB := h.fr f
      have h' := hB.1
      have ee3 : ldF μ' 3 3 3 = some (nI nv) := (f3 h' 3).trans (by rw [f.I (by omega), e3])
      have ee4 : ldF μ' 3 3 4 = some (nI kb) := (f3 h' 4).trans (by rw [f.I (by omega), e4])
      have c0 : ¬ nI (2 ^ nv) ≤ nI i := nI_ge hi (by omega)
      have bc := bitc_ok (n := i) (by omega) μ'
      have o1 := onesN_le 12 i
      have al : i &&& kb ≤ i := Nat.and_le_left
      have ak : (nI i &&& nI kb = 0) = (i &&& kb = 0) := by
        rw [nI_and, show (0 : Int32) = nI 0 from rfl, nI_iff (by omega) (by omega)]
      have nx : ¬ (BesQ V nv T kb P W i ∧ onesN 12 i = m) → ∀ x, BesQ V nv T kb P W x → m + 1 ≤ onesN 12 x ∨ m = onesN 12 x ∧ i + 1 ≤ x := fun q x hx => by
        rcases I x hx with y | ⟨y, z⟩
        · exact Or.inl y
        · by_cases e : x = i
          · subst e; exact absurd ⟨hx, y.symm⟩ q
          · exact Or.inr ⟨y, by omega⟩
      by_cases q1 : onesN 12 i = m
      · by_cases q2 : i &&& kb = 0
        · obtain ⟨r, μ1, s1, s2, s3⟩ := settles_ok hB hi
          rcases s3 with ⟨rfl, s3⟩ | ⟨rfl, s3⟩
          · right
            refine ⟨.inr (nI i, μ1), ?_, μ1, f.trans s2, Or.inl ⟨nI i, rfl, Or.inl ⟨i, ⟨hi, q2, s3⟩, rfl, fun x hx => ?_⟩⟩⟩
            · simp only [fW_fewestBesides_L80, ee3, Option.bind_some, nI_bit (show nv < 32 by omega), c0, if_false, bc, eq_true (show nI (onesN 12 i) = nI m by rw [q1]), if_true, ee4, ak, eq_true q2, fW_fewestBesides_115, xc1F, s1, fW_fewestBesides_131, Option.map_some]
            · have := I x hx; omega
          · left
            refine ⟨(nI (i + 1), μ1), ?_, rfl, f.trans s2, nx (fun z => s3 z.1.2.2)⟩
            simp only [fW_fewestBesides_L80, ee3, Option.bind_some, nI_bit (show nv < 32 by omega), c0, if_false, bc, eq_true (show nI (onesN 12 i) = nI m by rw [q1]), if_true, ee4, ak, eq_true q2, fW_fewestBesides_115, xc1F, s1, xc0T, fW_fewestBesides_134, inc1]
        · left
          refine ⟨(nI (i + 1), μ'), ?_, rfl, f, nx (fun z => q2 z.1.2.1)⟩
          simp only [fW_fewestBesides_L80, ee3, Option.bind_some, nI_bit (show nv < 32 by omega), c0, if_false, bc, eq_true (show nI (onesN 12 i) = nI m by rw [q1]), if_true, ee4, ak, eq_false q2, fW_fewestBesides_114, fW_fewestBesides_115, xc0T, fW_fewestBesides_134, inc1]
      · left
        refine ⟨(nI (i + 1), μ'), ?_, rfl, f, nx (fun z => q1 z.2)⟩
        simp only [fW_fewestBesides_L80, ee3, Option.bind_some, nI_bit (show nv < 32 by omega), c0, if_false, bc, eq_false (fun z => q1 (nI_inj (by omega) (by omega) z) : ¬ nI (onesN 12 i) = nI m), fW_fewestBesides_114, fW_fewestBesides_115, xc0T, if_true, fW_fewestBesides_134, inc1]
    · rintro ⟨x, μ'⟩ ⟨rfl, f, I⟩
      have h' := (h.fr f).1
      have ee3 : ldF μ' 3 3 3 = some (nI nv) := (f3 h' 3).trans (by rw [f.I (by omega), e3])
      refine ⟨.inl (nI (m + 1), μ'), ?_, μ', f, Or.inr ⟨rfl, fun x hx => ?_⟩⟩
      · simp only [fW_fewestBesides_L80, ee3, Option.bind_some, nI_bit (show nv < 32 by omega), Int32.le_refl, if_true, fW_fewestBesides_140, Option.map_some, inc1]
      · have := I x hx
        have := hx.1
        omega
  have ol : ∀ x, x < 2 ^ nv → onesN 12 x ≤ nv := fun x hx => by
    rw [ones_pbits, pbits_wide hx (by omega)]
    have := List.length_filter_le (fun s => x.testBit s) (List.range nv)
    rw [List.length_range] at this
    exact this
  have goal : ∃ a, xwh (fun s : Int32 × xM => fW_fewestBesides_L69 193 3 s.1 s.2) (xc 0, μ) = some a ∧ Fr (fun b _ => b = 211) μ a.2 ∧ LeastOn (BesQ V nv T kb P W) a.1 := by
    refine xwh_inv (body := fun s : Int32 × xM => fW_fewestBesides_L69 193 3 s.1 s.2) (fun m z => z.1 = nI m ∧ Fr (fun b _ => b = 211) μ z.2 ∧ ∀ x, BesQ V nv T kb P W x → m ≤ onesN 12 x) _ (nv + 1) ?_ ?_ (nv + 1) 0 _ (by omega) ⟨rfl, Fr.refl μ, fun x _ => Nat.zero_le _⟩
    · rintro m ⟨x, μ'⟩ hm ⟨rfl, f, I⟩
      have h' := (h.fr f).1
      have ee3 : ldF μ' 3 3 3 = some (nI nv) := (f3 h' 3).trans (by rw [f.I (by omega), e3])
      have c0 : ¬ nI nv < nI m := nI_nlt (by omega) (by omega)
      obtain ⟨a, a1, μ1, a2, a3⟩ := many m (by omega) μ' f I
      rcases a3 with ⟨r, rfl, a3⟩ | ⟨rfl, a3⟩
      · right
        refine ⟨(r, μ1), ?_, a2, a3⟩
        simp only [fW_fewestBesides_L69, ee3, Option.bind_some, c0, if_false]
        exact a1
      · left
        refine ⟨(nI (m + 1), μ1), ?_, rfl, a2, a3⟩
        simp only [fW_fewestBesides_L69, ee3, Option.bind_some, c0, if_false]
        exact a1
    · rintro ⟨x, μ'⟩ ⟨rfl, f, I⟩
      have h' := (h.fr f).1
      have ee3 : ldF μ' 3 3 3 = some (nI nv) := (f3 h' 3).trans (by rw [f.I (by omega), e3])
      have c0 : nI nv < nI (nv + 1) := nI_lt (by omega) (by omega)
      refine ⟨(xc (-9), μ'), ?_, f, Or.inr ⟨fun x hx => ?_, rfl⟩⟩
      · simp only [fW_fewestBesides_L69, ee3, Option.bind_some, c0, if_true, fW_fewestBesides_146, Option.map_some]
      · have := I x hx
        have := ol x hx.1
        omega
  obtain ⟨⟨r, μ1⟩, g1, g2, g3⟩ := goal
  exact ⟨r, μ1, g1, g2, g3⟩
end BESIDESC
