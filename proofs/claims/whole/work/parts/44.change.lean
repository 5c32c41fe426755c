/-! wrong rows; what changed is noted -/
theorem wrong_or (a1 a2 a3 : Int32) : (∃ k : Nat, 1 ≤ k ∧ k ≤ 6 ∧ (∀ μ, fX_rowRefusal a1 a2 a3 μ = some (xc (-(k : Int)))) ∧ ∀ μ, Sh μ → fM_wrongRow 293 a1 a2 a3 μ = some (xc (-(k : Int)))) ∨ ∃ t x y, t < 3 ∧ x < 2 ∧ y < 2 ∧ a1 = nI t ∧ a2 = nI x ∧ a3 = nI y ∧ (∀ μ, fX_rowRefusal a1 a2 a3 μ = some (xc 0)) ∧ ∀ μ, Sh μ → fM_wrongRow 293 a1 a2 a3 μ = some (xc 0) := by
  have ii : ∀ μ1, fM_isIn (Int32.toInt64 a1) (Int64.ofNat 0) (Int64.ofNat 2) μ1 = some (if a1 < nI 0 ∨ nI 2 < a1 then xc 0 else xc 1) := fun μ1 => isIn_n a1 0 2 (by decide) (by decide) μ1
  have e2 : nI 2 < a1 ↔ nI 3 ≤ a1 := by rw [lt_toInt, le_toInt, nI_toInt (by decide), nI_toInt (by decide)]; omega
  have tb : ∀ μ1, fX_isTable a1 μ1 = some (if a1 < 0 ∨ nI 3 ≤ a1 then xc 0 else xc 1) := fun μ1 => by
    unfold fX_isTable fX_isTable_0 fX_isTable_13
    by_cases q : a1 < 0
    · simp only [q, if_true, true_or]
    · by_cases q2 : nI 3 ≤ a1
      · simp only [q, if_false, false_or, q2, if_true, show xc 3 = nI 3 from rfl]
      · simp only [q, if_false, false_or, q2, show xc 3 = nI 3 from rfl]
  rw [show (nI 0 : Int32) = 0 from rfl] at ii
  simp only [e2] at ii
  rcases off_or 3 (by decide) a1 with q | ⟨t, ht, rfl⟩
  · left
    refine ⟨1, by decide, by decide, fun μ => ?_, fun μ h => ?_⟩
    · unfold fX_rowRefusal fX_rowRefusal_0
      rw [tb, if_pos (show a1 < 0 ∨ nI 3 ≤ a1 from q)]
      rfl
    · unfold fM_wrongRow fM_wrongRow_0
      rw [gd293 h, ii, if_pos (show a1 < 0 ∨ nI 3 ≤ a1 from q)]
      rfl
  · rw [if_neg (off_not (by decide) ht)] at ii tb
    by_cases q1 : a2 < 0
    · left
      refine ⟨4, by decide, by decide, fun μ => ?_, fun μ h => ?_⟩
      · unfold fX_rowRefusal fX_rowRefusal_0 fX_rowRefusal_17
        rw [tb, Option.bind_some, if_neg xc_1_0, if_pos q1]
        rfl
      · unfold fM_wrongRow fM_wrongRow_0 fM_wrongRow_24
        rw [gd293 h, ii, Option.bind_some, if_neg xc_1_0, if_pos q1]
        rfl
    by_cases q2 : 0 ≤ a3
    rotate_left
    · left
      refine ⟨4, by decide, by decide, fun μ => ?_, fun μ h => ?_⟩
      · unfold fX_rowRefusal fX_rowRefusal_0 fX_rowRefusal_17
        rw [tb, Option.bind_some, if_neg xc_1_0, if_neg q1, if_neg q2]
        rfl
      · unfold fM_wrongRow fM_wrongRow_0 fM_wrongRow_24
        rw [gd293 h, ii, Option.bind_some, if_neg xc_1_0, if_neg q1, if_neg q2]
        rfl
    by_cases q3 : xc 1 < a2
    · left
      refine ⟨6, by decide, by decide, fun μ => ?_, fun μ h => ?_⟩
      · unfold fX_rowRefusal fX_rowRefusal_0 fX_rowRefusal_30
        rw [tb, Option.bind_some, if_neg xc_1_0, if_neg q1, if_pos q2, if_pos q3]
        rfl
      · unfold fM_wrongRow fM_wrongRow_0 fM_wrongRow_39
        rw [gd293 h, ii, Option.bind_some, if_neg xc_1_0, if_neg q1, if_pos q2, if_pos q3]
        rfl
    by_cases q4 : a3 ≤ xc 1
    rotate_left
    · left
      refine ⟨6, by decide, by decide, fun μ => ?_, fun μ h => ?_⟩
      · unfold fX_rowRefusal fX_rowRefusal_0 fX_rowRefusal_30
        rw [tb, Option.bind_some, if_neg xc_1_0, if_neg q1, if_pos q2, if_neg q3, if_neg q4]
        rfl
      · unfold fM_wrongRow fM_wrongRow_0 fM_wrongRow_39
        rw [gd293 h, ii, Option.bind_some, if_neg xc_1_0, if_neg q1, if_pos q2, if_neg q3, if_neg q4]
        rfl
    right
    obtain ⟨x, hx, rfl⟩ := nI_of2 (M := xc 1) (n := 1) rfl q1 (Int32.not_lt.mp q3)
    obtain ⟨y, hy, rfl⟩ := nI_of2 (M := xc 1) (n := 1) rfl (Int32.not_lt.mpr q2) q4
    refine ⟨t, x, y, ht, by omega, by omega, rfl, rfl, rfl, fun μ => ?_, fun μ h => ?_⟩
    · unfold fX_rowRefusal fX_rowRefusal_0
      rw [tb, Option.bind_some, if_neg xc_1_0, if_neg q1, if_pos q2, if_neg q3, if_pos q4]
    · unfold fM_wrongRow fM_wrongRow_0
      rw [gd293 h, ii, Option.bind_some, if_neg xc_1_0, if_neg q1, if_pos q2, if_neg q3, if_pos q4]
theorem note_ok {μ : xM} {c : Nat} (v : Int32) (h : Sh μ) (e : xI μ 185 1 = nI c) (hc : c ≤ 40) : ∃ μ1, fC_note 185 v μ = some μ1 ∧ Fr (fun a _ => a = 185 ∨ a = 186) μ μ1 ∧ xI μ1 185 1 = nI (if c = 40 then 40 else c + 1) ∧ ∀ j, j < (if c = 40 then 40 else c + 1) → xI μ1 186 j = if j + 1 = (if c = 40 then 40 else c + 1) then v else xI μ 186 (j + (if c = 40 then 1 else 0)) := by
  have st : ∀ μ2 n, Sh μ2 → n < 40 → xI μ2 185 1 = nI n → fC_note_30 185 v μ2 = some (xsI (xsI μ2 186 n v) 185 1 (nI (n + 1))) := fun μ2 n h2 hn e2 => by
    unfold fC_note_30
    simp (disch := omega) only [g185_0 h2, f185 h2, Option.bind_some, e2, sa186 h2 _ hn, f185 (show Sh (xsI μ2 186 n v) from h2), fs185 (show Sh (xsI μ2 186 n v) from h2), xI_ne]
    rw [show nI n + xc 1 = nI (n + 1) from nI_add n 1]
  unfold fC_note fC_note_0
  rw [gd185 h, f185 h, Option.bind_some, e]
  by_cases q : c = 40
  · subst q
    have hcp : xcopy μ 186 (xc 1) 186 (xc 0) (xc 39) = some (μ.1, μ.2.1, μ.2.2.1, (fun c j => if c = 186 then va_cpy (μ.2.2.2.1 186) (μ.2.2.2.1 186) 1 0 39 j else μ.2.2.2.1 c j), μ.2.2.2.2) := by
      unfold xcopy
      rw [kd186 h]
      exact if_pos (by decide)
    rw [if_neg (by decide), g185_0 h, Option.bind_some, Option.bind_some, hcp, Option.bind_some]
    generalize hm : (μ.1, μ.2.1, μ.2.2.1, (fun c j => if c = 186 then va_cpy (μ.2.2.2.1 186) (μ.2.2.2.1 186) 1 0 39 j else μ.2.2.2.1 c j), μ.2.2.2.2) = μa
    have fa : Fr (fun a _ => a = 185 ∨ a = 186) μ μa := by
      subst hm
      exact ⟨rfl, rfl, rfl, fun a k w => if_neg (fun w2 => w (Or.inr w2)), fun _ _ _ => rfl⟩
    have ea : ∀ j, j < 39 → xI μa 186 j = xI μ 186 (j + 1) := fun j hj => by
      subst hm
      show (if (186 : Nat) = 186 then va_cpy (μ.2.2.2.1 186) (μ.2.2.2.1 186) 1 0 39 j else μ.2.2.2.1 186 j) = _
      rw [if_pos rfl, pk_cpy_in (by omega) (by omega)]
      show xI μ 186 _ = _
      congr 1
      omega
    have ha := fa.sh h
    rw [fs185 ha, Option.bind_some, st (xsI μa 185 1 (xc 39)) 39 ha (by decide) (by rw [xI_eq]; rfl)]
    refine ⟨_, rfl, ((fa.s _ (Or.inl rfl)).s _ (Or.inr rfl)).s _ (Or.inl rfl), by rw [xI_eq, if_pos rfl], fun j hj => ?_⟩
    rw [if_pos rfl] at hj ⊢
    rw [if_pos rfl]
    by_cases e2 : j = 39
    · subst e2
      rw [xI_ne (by omega), xI_eq, if_pos rfl]
    · rw [xI_ne (by omega), xI_ne (by omega), xI_ne (by omega), if_neg (by omega)]
      exact ea j (by omega)
  · rw [if_pos (show nI c < xc 40 from nI_lt (b := 40) (by omega) (by decide)), st μ c h (by omega) e]
    refine ⟨_, rfl, ((Fr.refl μ).s _ (Or.inr rfl)).s _ (Or.inl rfl), by rw [xI_eq, if_neg q], fun j hj => ?_⟩
    rw [if_neg q] at hj ⊢
    rw [if_neg q]
    by_cases e2 : j = c
    · subst e2
      rw [xI_ne (by omega), xI_eq, if_pos rfl]
    · rw [xI_ne (by omega), xI_ne (by omega), if_neg (by omega)]
      rfl
theorem rem_ok {μ : xM} {c : Nat} (v : Int32) (h : Sh μ) (e : xI μ 293 3 = nI c) (hc : c ≤ 40) : ∃ μ1, fM_remember 293 v μ = some μ1 ∧ Fr (fun a k => a = 293 ∧ k = 3 ∨ a = 296) μ μ1 ∧ xI μ1 293 3 = nI (if c = 40 then 40 else c + 1) ∧ ∀ j, j < (if c = 40 then 40 else c + 1) → xI μ1 296 j = if j + 1 = (if c = 40 then 40 else c + 1) then v else xI μ 296 (j + (if c = 40 then 1 else 0)) := by
  have st : ∀ μ2 n, Sh μ2 → n < 40 → xI μ2 293 3 = nI n → fM_remember_43 293 v μ2 = some (xsI (xsI μ2 296 n v) 293 3 (nI (n + 1))) := fun μ2 n h2 hn e2 => by
    unfold fM_remember_43
    simp (disch := omega) only [g293_2 h2, f293 h2, Option.bind_some, e2, sa296 h2 _ hn, f293 (show Sh (xsI μ2 296 n v) from h2), fs293 (show Sh (xsI μ2 296 n v) from h2), xI_ne]
    rw [show nI n + xc 1 = nI (n + 1) from nI_add n 1]
  unfold fM_remember fM_remember_0
  rw [gd293 h, f293 h, Option.bind_some, e]
  by_cases q : c = 40
  · subst q
    rw [if_pos rfl]
    simp only [if_true]
    refine xwh_inv (fun i s => s.1 = nI i ∧ Fr (fun a k => a = 293 ∧ k = 3 ∨ a = 296) μ s.2 ∧ (∀ j, j < i → xI s.2 296 j = xI μ 296 (j + 1)) ∧ ∀ j, i ≤ j → xI s.2 296 j = xI μ 296 j) _ 39 ?_ ?_ 39 0 _ (by omega) ⟨rfl, Fr.refl μ, fun _ q => absurd q (by omega), fun _ _ => rfl⟩
    · rintro i ⟨x, μ'⟩ hi ⟨rfl, f, e1, e2⟩
      left
      have h1 := f.sh h
      have c1 : ¬ xc 39 ≤ nI i := show ¬ nI 39 ≤ nI i from nI_ge hi (by decide)
      have c2 : nI i + xc 1 = nI (i + 1) := nI_add i 1
      refine ⟨(nI (i + 1), xsI μ' 296 i (xI μ' 296 (i + 1))), ?_, rfl, f.s _ (Or.inr rfl), fun j hj => ?_, fun j hj => ?_⟩
      · unfold fM_remember_L11
        simp only [c1, if_false, g293_2 h1, Option.bind_some, c2, la296 h1 (show i + 1 < 40 by omega), sa296 h1 _ (show i < 40 by omega)]
      · by_cases q : j = i
        · subst q
          rw [xI_eq]
          exact e2 _ (by omega)
        · rw [xI_ne (by omega)]
          exact e1 j (by omega)
      · rw [xI_ne (by omega)]
        exact e2 j (by omega)
    · rintro ⟨x, μ'⟩ ⟨rfl, f, e1, e2⟩
      have h1 := f.sh h
      refine ⟨xsI (xsI (xsI μ' 293 3 (xc 39)) 296 39 v) 293 3 (nI 40), ?_, ((f.s _ (Or.inl ⟨rfl, rfl⟩)).s _ (Or.inr rfl)).s _ (Or.inl ⟨rfl, rfl⟩), by rw [xI_eq], fun j hj => ?_⟩
      · unfold fM_remember_L11 fM_remember_37
        dsimp only
        rw [if_pos (show xc 39 ≤ nI 39 from Int32.le_refl _), fs293 h1, Option.bind_some, st (xsI μ' 293 3 (xc 39)) 39 h1 (by decide) (by rw [xI_eq]; rfl)]
        rfl
      · by_cases q : j = 39
        · subst q
          rw [xI_ne (by omega), xI_eq, if_pos rfl]
        · rw [xI_ne (by omega), xI_ne (by omega), xI_ne (by omega), if_neg (by omega)]
          exact e1 j (by omega)
  · rw [if_neg (show ¬ nI c = xc 40 from fun w => q ((nI_eq (b := 40) (by omega) (by decide)).mp w)), st μ c h (by omega) e]
    refine ⟨_, rfl, ((Fr.refl μ).s _ (Or.inr rfl)).s _ (Or.inl ⟨rfl, rfl⟩), by rw [xI_eq, if_neg q], fun j hj => ?_⟩
    rw [if_neg q] at hj ⊢
    rw [if_neg q]
    by_cases e2 : j = c
    · subst e2
      rw [xI_ne (by omega), xI_eq, if_pos rfl]
    · rw [xI_ne (by omega), xI_ne (by omega), if_neg (by omega)]
      rfl
