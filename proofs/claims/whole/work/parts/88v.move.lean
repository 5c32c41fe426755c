/-! the reference's values move -/
section MOVE
def locM (j : Nat) : Nat × Nat :=
  if j = 0 then (293, 8) else if j = 1 then (293, 9) else if j = 2 then (293, 23) else if j = 3 then (293, 24)
  else if j < 10 then (if j % 2 = 0 then (294, (j - 4) / 2) else (295, (j - 4) / 2))
  else if j < 46 then (if (j - 10) % 6 = 0 then (305, (j - 10) / 6) else if (j - 10) % 6 = 1 then (307, (j - 10) / 6) else if (j - 10) % 6 = 2 then (308, (j - 10) / 6) else if (j - 10) % 6 = 3 then (309, (j - 10) / 6) else if (j - 10) % 6 = 4 then (310, (j - 10) / 6) else (311, (j - 10) / 6))
  else (306, j - 46)
theorem vM_loc (μ : xM) (j : Nat) : vM μ j = xI μ (locM j).1 (locM j).2 := by
  unfold vM locM
  by_cases h0 : j = 0
  · rw [if_pos h0, if_pos h0]
  rw [if_neg h0, if_neg h0]
  by_cases h1 : j = 1
  · rw [if_pos h1, if_pos h1]
  rw [if_neg h1, if_neg h1]
  by_cases h2 : j = 2
  · rw [if_pos h2, if_pos h2]
  rw [if_neg h2, if_neg h2]
  by_cases h3 : j = 3
  · rw [if_pos h3, if_pos h3]
  rw [if_neg h3, if_neg h3]
  by_cases h4 : j < 10
  · rw [if_pos h4, if_pos h4]
    by_cases q : j % 2 = 0
    · rw [if_pos q, if_pos q]
    · rw [if_neg q, if_neg q]
  rw [if_neg h4, if_neg h4]
  by_cases h5 : j < 46
  · rw [if_pos h5, if_pos h5]
    by_cases q0 : (j - 10) % 6 = 0
    · rw [if_pos q0, if_pos q0]
    rw [if_neg q0, if_neg q0]
    by_cases q1 : (j - 10) % 6 = 1
    · rw [if_pos q1, if_pos q1]
    rw [if_neg q1, if_neg q1]
    by_cases q2 : (j - 10) % 6 = 2
    · rw [if_pos q2, if_pos q2]
    rw [if_neg q2, if_neg q2]
    by_cases q3 : (j - 10) % 6 = 3
    · rw [if_pos q3, if_pos q3]
    rw [if_neg q3, if_neg q3]
    by_cases q4 : (j - 10) % 6 = 4
    · rw [if_pos q4, if_pos q4]
    · rw [if_neg q4, if_neg q4]
  · rw [if_neg h5, if_neg h5]
def boolM (j : Nat) : Bool := (decide (5 ≤ j) && decide (j < 10) && decide (j % 2 = 1)) || (decide (10 ≤ j) && decide (j < 46) && decide ((j - 10) % 6 = 5))
theorem locM_inj : ∀ i, i < 56 → ∀ j, j < 56 → locM i = locM j → i = j := by decide +kernel
theorem locM_in : ∀ i, i < 56 → ((locM i).1 = 293 ∧ ((locM i).2 = 8 ∨ (locM i).2 = 9 ∨ (locM i).2 = 23 ∨ (locM i).2 = 24) ∨ ((locM i).1 = 294 ∨ (locM i).1 = 295) ∨ (305 ≤ (locM i).1 ∧ (locM i).1 ≤ 311)) := by decide +kernel
def WMv (a k : Nat) : Prop := a = 293 ∧ (k = 8 ∨ k = 9 ∨ k = 23 ∨ k = 24 ∨ k = 63) ∨ a = 294 ∨ a = 295 ∨ 305 ≤ a ∧ a ≤ 311 ∨ a = 332
def nz (x : Int32) : Int32 := if x = 0 then xc 0 else xc 1
def on1 (x : Int32) : Int32 := if x = xc 1 then xc 1 else xc 0
def sM (out : Bool) (μ : xM) (j : Nat) : Int32 := if boolM j = true then (if out = true then nz (vM μ j) else on1 (xI μ 332 j)) else (if out = true then vM μ j else xI μ 332 j)
def cM (out : Bool) (μ : xM) (j : Nat) : Int32 := if out = true then (if boolM j = true then nz (vM μ j) else vM μ j) else xI μ 332 j
def DoneM (out : Bool) (μ0 : xM) (j : Nat) (μ : xM) : Prop := Sh μ0 ∧ Fr WMv μ0 μ ∧ xI μ 293 63 = nI j ∧ xI μ0 293 64 = (if out = true then xc 1 else xc 0) ∧ (∀ i, i < 56 → xI μ (locM i).1 (locM i).2 = if i < j then sM out μ0 i else vM μ0 i) ∧ ∀ i, i < 56 → xI μ 332 i = if i < j then cM out μ0 i else xI μ0 332 i
variable {μ0 μ : xM} {out : Bool} {j : Nat}
theorem DoneM.sh (D : DoneM out μ0 j μ) : Sh μ := D.2.1.sh D.1
theorem move_ok (D : DoneM out μ0 j μ) (hj : j < 56) (v : Int32) : fM_move 293 v μ = some (if out = true then v else xI μ 332 j, xsI (if out = true then xsI μ 332 j v else μ) 293 63 (nI (j + 1))) := by
  have hh := D.sh
  have e64 : xI μ 293 64 = (if out = true then xc 1 else xc 0) := (D.2.1.I (by unfold WMv; omega)).trans D.2.2.2.1
  have e63 := D.2.2.1
  have em : nI (j + 1) - xc 1 = nI j := pk_sub (a := j + 1) (b := 1) (by omega)
  cases out with
  | true =>
    rw [if_pos rfl] at e64
    have s1 : Sh (xsI μ 332 j v) := hh
    have s2 : Sh (xsI (xsI μ 332 j v) 293 63 (nI (j + 1))) := hh
    have v1 : xI (xsI μ 332 j v) 293 63 = nI j := (xI_ne (by omega)).trans e63
    have v2 : xI (xsI (xsI μ 332 j v) 293 63 (nI (j + 1))) 293 63 = nI (j + 1) := xI_eq _ _ _ _
    have v3 : xI (xsI (xsI μ 332 j v) 293 63 (nI (j + 1))) 332 j = v := (xI_ne (by omega)).trans (xI_eq _ _ _ _)
    simp only [fM_move, fM_move_0, gd293 hh, f293 hh, e64, Option.bind_some, xc1F, if_false, g293_62 hh, e63, sa332 hh v (show j < 100 by omega), fM_move_17, f293 s1, v1, inc1, fs293 s1, g293_62 s2, f293 s2, v2, em, la332 s2 (show j < 100 by omega), v3, if_true]
  | false =>
    rw [if_neg (by decide)] at e64
    have s2 : Sh (xsI μ 293 63 (nI (j + 1))) := hh
    have v2 : xI (xsI μ 293 63 (nI (j + 1))) 293 63 = nI (j + 1) := xI_eq _ _ _ _
    have v3 : xI (xsI μ 293 63 (nI (j + 1))) 332 j = xI μ 332 j := xI_ne (by omega)
    simp only [fM_move, fM_move_0, gd293 hh, f293 hh, e64, Option.bind_some, xc0T, if_true, e63, fM_move_17, inc1, fs293 hh, g293_62 s2, f293 s2, v2, em, la332 s2 (show j < 100 by omega), v3, Bool.false_eq_true, if_false]
theorem mv_put (D : DoneM out μ0 j μ) (hj : j < 56) {v w : Int32} (hw : w = sM out μ0 j) (hc : (if out = true then v else xI μ 332 j) = cM out μ0 j) : DoneM out μ0 (j + 1) (xsI (xsI (if out = true then xsI μ 332 j v else μ) 293 63 (nI (j + 1))) (locM j).1 (locM j).2 w) := by
  obtain ⟨h0, f, e63, e64, sl, cl⟩ := D
  have lj := locM_in j hj
  have f1 : Fr WMv μ0 (if out = true then xsI μ 332 j v else μ) := by
    split
    · exact f.s _ (by unfold WMv; omega)
    · exact f
  have ic : ∀ a k, ¬ a = 332 → xI (if out = true then xsI μ 332 j v else μ) a k = xI μ a k := fun a k ha => by
    split
    · exact xI_ne (fun z => ha z.1)
    · rfl
  refine ⟨h0, (f1.s _ (by unfold WMv; omega)).s _ (by unfold WMv; omega), ?_, e64, fun i hi => ?_, fun i hi => ?_⟩
  · rw [xI_ne (by omega), xI_eq]
  · have li := locM_in i hi
    by_cases z : i = j
    · subst z
      rw [xI_eq, if_pos (by omega)]
      exact hw
    · rw [xI_ne (fun y => z (locM_inj i hi j hj (Prod.ext y.1 y.2))), xI_ne (by omega), ic _ _ (by omega), sl i hi]
      by_cases y : i < j
      · rw [if_pos y, if_pos (by omega)]
      · rw [if_neg y, if_neg (by omega)]
  · rw [xI_ne (by omega), xI_ne (by omega)]
    by_cases z : i = j
    · subst z
      rw [show (if i < i + 1 then cM out μ0 i else xI μ0 332 i) = cM out μ0 i from if_pos (by omega), ← hc]
      split
      · exact xI_eq _ _ _ _
      · rfl
    · have : xI (if out = true then xsI μ 332 j v else μ) 332 i = xI μ 332 i := by
        split
        · exact xI_ne (fun y => z y.2)
        · rfl
      rw [this, cl i hi]
      by_cases y : i < j
      · rw [if_pos y, if_pos (by omega)]
      · rw [if_neg y, if_neg (by omega)]
theorem mv_int (D : DoneM out μ0 j μ) (hj : j < 56) (hb : boolM j = false) {a k : Nat} (hl : locM j = (a, k)) : ∃ r μ1, fM_move 293 (xI μ a k) μ = some (r, μ1) ∧ Sh μ1 ∧ DoneM out μ0 (j + 1) (xsI μ1 a k r) := by
  have sl := D.2.2.2.2.1 j hj
  have cl := D.2.2.2.2.2 j hj
  rw [if_neg (Nat.lt_irrefl j)] at sl cl
  rw [hl] at sl
  dsimp only at sl
  have hp := mv_put D hj (v := xI μ a k) (w := if out = true then xI μ a k else xI μ 332 j) (by
    unfold sM
    rw [hb, sl, cl]
    rfl) (by
    unfold cM
    rw [hb, sl, cl]
    cases out <;> rfl)
  rw [hl] at hp
  exact ⟨_, _, move_ok D hj _, by cases out <;> exact D.sh, hp⟩
theorem mv_bool (D : DoneM out μ0 j μ) (hj : j < 56) (hb : boolM j = true) {a k : Nat} (hl : locM j = (a, k)) : ∃ r μ1, fM_move 293 (nz (xI μ a k)) μ = some (r, μ1) ∧ Sh μ1 ∧ DoneM out μ0 (j + 1) (xsI μ1 a k (on1 r)) := by
  have sl := D.2.2.2.2.1 j hj
  have cl := D.2.2.2.2.2 j hj
  rw [if_neg (Nat.lt_irrefl j)] at sl cl
  rw [hl] at sl
  dsimp only at sl
  have onz : ∀ x, on1 (nz x) = nz x := fun x => by
    unfold on1 nz
    by_cases q : x = 0
    · rw [if_pos q]; rfl
    · rw [if_neg q]; rfl
  have hp := mv_put D hj (v := nz (xI μ a k)) (w := on1 (if out = true then nz (xI μ a k) else xI μ 332 j)) (by
    unfold sM
    rw [hb, sl, cl]
    cases out with
    | true => exact onz _
    | false => rfl) (by
    unfold cM
    rw [hb, sl, cl]
    cases out <;> rfl)
  rw [hl] at hp
  exact ⟨_, _, move_ok D hj _, by cases out <;> exact D.sh, hp⟩
theorem moveAll_ok (hh : Sh μ) (e64 : xI μ 293 64 = (if out = true then xc 1 else xc 0)) : ∃ μ1, fM_moveAll 293 μ = some μ1 ∧ DoneM out μ 56 μ1 := by
  have l4 : ∀ i, i < 3 → locM (4 + 2 * i) = (294, i) ∧ boolM (4 + 2 * i) = false ∧ locM (4 + 2 * i + 1) = (295, i) ∧ boolM (4 + 2 * i + 1) = true := by decide +kernel
  have l10 : ∀ i, i < 6 → locM (10 + 6 * i) = (305, i) ∧ boolM (10 + 6 * i) = false ∧ locM (10 + 6 * i + 1) = (307, i) ∧ boolM (10 + 6 * i + 1) = false ∧ locM (10 + 6 * i + 1 + 1) = (308, i) ∧ boolM (10 + 6 * i + 1 + 1) = false ∧ locM (10 + 6 * i + 1 + 1 + 1) = (309, i) ∧ boolM (10 + 6 * i + 1 + 1 + 1) = false ∧ locM (10 + 6 * i + 1 + 1 + 1 + 1) = (310, i) ∧ boolM (10 + 6 * i + 1 + 1 + 1 + 1) = false ∧ locM (10 + 6 * i + 1 + 1 + 1 + 1 + 1) = (311, i) ∧ boolM (10 + 6 * i + 1 + 1 + 1 + 1 + 1) = true := by decide +kernel
  have l46 : ∀ i, i < 10 → locM (46 + i) = (306, i) ∧ boolM (46 + i) = false := by decide +kernel
  have o01 : ∀ r, on1 r = 0 ∨ on1 r = 1 := fun r => by
    unfold on1
    split
    · exact Or.inr rfl
    · exact Or.inl rfl
  have part4 : ∀ μ', DoneM out μ 46 μ' → ∃ μ1, fM_moveAll_242 293 μ' = some μ1 ∧ DoneM out μ 56 μ1 := fun μ' D0 => by
    unfold fM_moveAll_242
    refine xwh_inv (body := fun z : Int32 × xM => fM_moveAll_L244 293 z.1 z.2) (fun i z => z.1 = nI i ∧ DoneM out μ (46 + i) z.2) _ 10 ?_ ?_ 10 0 _ (by omega) ⟨rfl, D0⟩
    · rintro i ⟨x, μ2⟩ hi ⟨rfl, D⟩
      left
      have h2 := D.sh
      have c0 : ¬ xc 10 ≤ nI i := nI_ge (b := 10) hi (by decide)
      obtain ⟨l1, l2⟩ := l46 i hi
      obtain ⟨r, μ3, m1, m2, m3⟩ := mv_int D (by omega) l2 l1
      refine ⟨(nI (i + 1), xsI μ3 306 i r), ?_, rfl, m3⟩
      simp only [fM_moveAll_L244, c0, if_false, g293_17 h2, Option.bind_some, la306 h2 hi, m1, sa306 m2 _ hi, inc1]
    · rintro ⟨x, μ2⟩ ⟨rfl, D⟩
      refine ⟨μ2, ?_, D⟩
      simp only [fM_moveAll_L244, show (xc 10 ≤ nI 10) = True from by decide, if_true]
  have part3 : ∀ μ', DoneM out μ 10 μ' → ∃ μ1, fM_moveAll_115 293 μ' = some μ1 ∧ DoneM out μ 56 μ1 := fun μ' D0 => by
    unfold fM_moveAll_115
    refine xwh_inv (body := fun z : Int32 × xM => fM_moveAll_L117 293 z.1 z.2) (fun i z => z.1 = nI i ∧ DoneM out μ (10 + 6 * i) z.2) _ 6 ?_ ?_ 6 0 _ (by omega) ⟨rfl, D0⟩
    · rintro i ⟨x, μ2⟩ hi ⟨rfl, D⟩
      left
      dsimp only at D
      have h2 := D.sh
      have c0 : ¬ xc 6 ≤ nI i := nI_ge (b := 6) hi (by decide)
      obtain ⟨a1, a2, b1, b2, c1, c2, d1, d2, e1, e2, f1, f2⟩ := l10 i hi
      obtain ⟨r, μ3, m1, m2, m3⟩ := mv_int D (by omega) a2 a1
      have h3 := m3.sh
      obtain ⟨r', μ4, n1, n2, n3⟩ := mv_int m3 (by omega) b2 b1
      have h4 := n3.sh
      obtain ⟨r2, μ5, p1, p2, p3⟩ := mv_int n3 (by omega) c2 c1
      have h5 := p3.sh
      obtain ⟨r3, μ6, q1, q2, q3⟩ := mv_int p3 (by omega) d2 d1
      have h6 := q3.sh
      obtain ⟨r4, μ7, s1, s2, s3⟩ := mv_int q3 (by omega) e2 e1
      have h7 := s3.sh
      obtain ⟨r5, μ8, t1, t2, t3⟩ := mv_bool s3 (by omega) f2 f1
      refine ⟨(nI (i + 1), xsI μ8 311 i (on1 r5)), ?_, rfl, t3⟩
      have st := sz311 t2 hi (o01 r5)
      have last : ∀ y, fM_move 293 (nz y) (xsI μ7 310 i r4) = some (r5, μ8) → (if y = 0 then fM_moveAll_223 293 (nI i) (xc 0) 293 (nI i) 311 (xsI μ7 310 i r4) else fM_moveAll_223 293 (nI i) (xc 1) 293 (nI i) 311 (xsI μ7 310 i r4)) = some (.inl (nI (i + 1), xsI μ8 311 i (on1 r5))) := fun y hy => by
        have go : ∀ v, fM_move 293 v (xsI μ7 310 i r4) = some (r5, μ8) → fM_moveAll_223 293 (nI i) v 293 (nI i) 311 (xsI μ7 310 i r4) = some (.inl (nI (i + 1), xsI μ8 311 i (on1 r5))) := fun v hv => by
          unfold on1 at st ⊢
          by_cases z : r5 = xc 1
          · rw [if_pos z] at st ⊢
            simp only [fM_moveAll_223, hv, Option.bind_some, eq_true z, if_true, fM_moveAll_235, st, inc1]
          · rw [if_neg z] at st ⊢
            simp only [fM_moveAll_223, hv, Option.bind_some, eq_false z, if_false, fM_moveAll_235, st, inc1]
        unfold nz at hy
        by_cases z : y = 0
        · rw [if_pos z] at hy ⊢
          exact go _ hy
        · rw [if_neg z] at hy ⊢
          exact go _ hy
      simp only [fM_moveAll_L117, c0, if_false, g293_16 h2, Option.bind_some, la305 h2 hi, m1, sa305 m2 _ hi, g293_18 h3, la307 h3 hi, n1, sa307 n2 _ hi, g293_19 h4, la308 h4 hi, p1, sa308 p2 _ hi, g293_20 h5, la309 h5 hi, q1, sa309 q2 _ hi, g293_21 h6, la310 h6 hi, s1, sa310 s2 _ hi, g293_22 h7, lz311 h7 hi]
      exact last _ t1
    · rintro ⟨x, μ2⟩ ⟨rfl, D⟩
      obtain ⟨μ3, g1, g2⟩ := part4 μ2 D
      refine ⟨μ3, ?_, g2⟩
      simp only [fM_moveAll_L117, show (xc 6 ≤ nI 6) = True from by decide, if_true, g1, Option.map_some]
  have part2 : ∀ μ', DoneM out μ 4 μ' → ∃ μ1, xwh (fun z : Int32 × xM => fM_moveAll_L55 293 z.1 z.2) (xc 0, μ') = some μ1 ∧ DoneM out μ 56 μ1 := fun μ' D0 => by
    refine xwh_inv (body := fun z : Int32 × xM => fM_moveAll_L55 293 z.1 z.2) (fun i z => z.1 = nI i ∧ DoneM out μ (4 + 2 * i) z.2) _ 3 ?_ ?_ 3 0 _ (by omega) ⟨rfl, D0⟩
    · rintro i ⟨x, μ2⟩ hi ⟨rfl, D⟩
      left
      dsimp only at D
      have h2 := D.sh
      have c0 : ¬ xc 3 ≤ nI i := nI_ge (b := 3) hi (by decide)
      obtain ⟨a1, a2, b1, b2⟩ := l4 i hi
      obtain ⟨r, μ3, m1, m2, m3⟩ := mv_int D (by omega) a2 a1
      have h3 := m3.sh
      obtain ⟨r5, μ8, t1, t2, t3⟩ := mv_bool m3 (by omega) b2 b1
      refine ⟨(nI (i + 1), xsI μ8 295 i (on1 r5)), ?_, rfl, t3⟩
      have st := sz295 t2 hi (o01 r5)
      have last : ∀ y, fM_move 293 (nz y) (xsI μ3 294 i r) = some (r5, μ8) → (if y = 0 then fM_moveAll_96 293 (nI i) (xc 0) 293 (nI i) 295 (xsI μ3 294 i r) else fM_moveAll_96 293 (nI i) (xc 1) 293 (nI i) 295 (xsI μ3 294 i r)) = some (.inl (nI (i + 1), xsI μ8 295 i (on1 r5))) := fun y hy => by
        have go : ∀ v, fM_move 293 v (xsI μ3 294 i r) = some (r5, μ8) → fM_moveAll_96 293 (nI i) v 293 (nI i) 295 (xsI μ3 294 i r) = some (.inl (nI (i + 1), xsI μ8 295 i (on1 r5))) := fun v hv => by
          unfold on1 at st ⊢
          by_cases z : r5 = xc 1
          · rw [if_pos z] at st ⊢
            simp only [fM_moveAll_96, hv, Option.bind_some, eq_true z, if_true, fM_moveAll_108, st, inc1]
          · rw [if_neg z] at st ⊢
            simp only [fM_moveAll_96, hv, Option.bind_some, eq_false z, if_false, fM_moveAll_108, st, inc1]
        unfold nz at hy
        by_cases z : y = 0
        · rw [if_pos z] at hy ⊢
          exact go _ hy
        · rw [if_neg z] at hy ⊢
          exact go _ hy
      simp only [fM_moveAll_L55, c0, if_false, g293_0 h2, Option.bind_some, la294 h2 hi, m1, sa294 m2 _ hi, g293_1 h3, lz295 h3 hi]
      exact last _ t1
    · rintro ⟨x, μ2⟩ ⟨rfl, D⟩
      obtain ⟨μ3, g1, g2⟩ := part3 μ2 D
      refine ⟨μ3, ?_, g2⟩
      simp only [fM_moveAll_L55, show (xc 3 ≤ nI 3) = True from by decide, if_true, g1, Option.map_some]
  have D0 : DoneM out μ 0 (xsI μ 293 63 (nI 0)) := ⟨hh, (Fr.refl μ).s _ (by unfold WMv; omega), xI_eq _ _ _ _, e64, fun i hi => by
    have := locM_in i hi
    rw [xI_ne (by omega), if_neg (Nat.not_lt_zero i), vM_loc], fun i hi => by rw [xI_ne (by omega), if_neg (Nat.not_lt_zero i)]⟩
  have h0 := D0.sh
  obtain ⟨r, μ3, m1, m2, m3⟩ := mv_int D0 (by omega) (a := 293) (k := 8) (by decide) (by decide)
  have h3 := m3.sh
  obtain ⟨r', μ4, n1, n2, n3⟩ := mv_int m3 (by omega) (a := 293) (k := 9) (by decide) (by decide)
  have h4 := n3.sh
  obtain ⟨r2, μ5, p1, p2, p3⟩ := mv_int n3 (by omega) (a := 293) (k := 23) (by decide) (by decide)
  have h5 := p3.sh
  obtain ⟨r3, μ6, q1, q2, q3⟩ := mv_int p3 (by omega) (a := 293) (k := 24) (by decide) (by decide)
  obtain ⟨μ1, g1, g2⟩ := part2 _ q3
  refine ⟨μ1, ?_, g2⟩
  simp only [fM_moveAll, fM_moveAll_0, gd293 hh, fs293 hh, Option.bind_some, show xc 0 = nI 0 from rfl, f293 h0, m1, fs293 m2, f293 h3, n1, fs293 n2, f293 h4, p1, fs293 p2, f293 h5, q1, fs293 q2]
  exact g1
end MOVE
