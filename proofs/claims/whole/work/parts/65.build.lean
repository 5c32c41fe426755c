/-! pictures are built -/
theorem getD_app_l {α : Type} {l : List α} {x d : α} {i : Nat} (h : i < l.length) : (l ++ [x]).getD i d = l.getD i d := by
  rw [List.getD_eq_getElem?_getD, List.getD_eq_getElem?_getD, List.getElem?_append_left h]
theorem getD_app_r {α : Type} {l : List α} {x d : α} : (l ++ [x]).getD l.length d = x := by
  rw [List.getD_eq_getElem?_getD, List.getElem?_append_right (Nat.le_refl _), Nat.sub_self]
  rfl
section BUILD
variable {μ : xM} {p m : Nat} {R : List xRow} {H : List Nat}
theorem clear_ok (h : IsPic μ p m) : ∃ μ1, fP_clear p μ = some μ1 ∧ Fr (fun a k => a = p ∧ (k = 0 ∨ k = 4 ∨ k = 6 ∨ k = 7)) μ μ1 ∧ PicC μ1 p ([], []) ∧ xI μ1 p 6 = nI 0 ∧ xI μ1 p 7 = nI 0 := by
  have k := h.2.2.1
  have h2 := h.1
  refine ⟨xsI (xsI (xsI (xsI μ p 0 (xc 0)) p 4 (xc 0)) p 6 (xc 0)) p 7 (xc 0), ?_, ((((Fr.refl μ).s _ (by omega)).s _ (by omega)).s _ (by omega)).s _ (by omega), ⟨?_, ?_, fun i hi => absurd hi (Nat.not_lt_zero i), fun i hi => absurd hi (Nat.not_lt_zero i)⟩, ?_, ?_⟩
  · unfold fP_clear fP_clear_0
    rw [gd_k k, stF_k (ci := 5) 0 _ k h2, Option.bind_some, stF_k (ci := 5) (μ := xsI μ p 0 (xc 0)) 4 _ k h2, Option.bind_some, stF_k (ci := 5) (μ := xsI (xsI μ p 0 (xc 0)) p 4 (xc 0)) 6 _ k h2, Option.bind_some, stFZ_k (ci := 5) (v := xc 0) (μ := xsI (xsI (xsI μ p 0 (xc 0)) p 4 (xc 0)) p 6 (xc 0)) 7 k h2 (Or.inl rfl), Option.bind_some]
  · simp (disch := omega) only [xI_ne, xI_eq]; rfl
  · simp (disch := omega) only [xI_ne, xI_eq]; rfl
  · simp (disch := omega) only [xI_ne, xI_eq]; rfl
  · rw [xI_eq]; rfl
theorem addRow_ok (h : IsPic μ p m) (c : PicC μ p (R, H)) (t a b : Nat) (hm : R.length < m) : ∃ μ1, fP_addRow p (nI t) (nI a) (nI b) μ = some μ1 ∧ Fr (fun x k => x = p ∧ k = 0 ∨ p + 2 ≤ x ∧ x < p + 5) μ μ1 ∧ PicC μ1 p (R ++ [(t, a, b)], H) := by
  have k := h.2.2.1
  have h2 := h.1
  have hm12 := h.2.1
  obtain ⟨c1, c2, c3, c4⟩ := c
  dsimp only at c1 c2 c3 c4
  have s1 : IsPic (xsI μ (p + 2) R.length (nI t)) p m := h
  have s2 : IsPic (xsI (xsI μ (p + 2) R.length (nI t)) (p + 3) R.length (nI a)) p m := h
  have s3 : IsPic (xsI (xsI (xsI μ (p + 2) R.length (nI t)) (p + 3) R.length (nI a)) (p + 4) R.length (nI b)) p m := h
  have e1 : ldF μ p 5 0 = some (nI R.length) := by rw [ldF_k (ci := 5) 0 k, c1]
  have e2 : ldF (xsI μ (p + 2) R.length (nI t)) p 5 0 = some (nI R.length) := by rw [ldF_k (ci := 5) 0 s1.2.2.1, xI_ne (by omega), c1]
  have e3 : ldF (xsI (xsI μ (p + 2) R.length (nI t)) (p + 3) R.length (nI a)) p 5 0 = some (nI R.length) := by rw [ldF_k (ci := 5) 0 s2.2.2.1, xI_ne (by omega), xI_ne (by omega), c1]
  have e4 : ldF (xsI (xsI (xsI μ (p + 2) R.length (nI t)) (p + 3) R.length (nI a)) (p + 4) R.length (nI b)) p 5 0 = some (nI R.length) := by rw [ldF_k (ci := 5) 0 s3.2.2.1, xI_ne (by omega), xI_ne (by omega), xI_ne (by omega), c1]
  refine ⟨xsI (xsI (xsI (xsI μ (p + 2) R.length (nI t)) (p + 3) R.length (nI a)) (p + 4) R.length (nI b)) p 0 (nI (R.length + 1)), ?_, ((((Fr.refl μ).s _ (by omega)).s _ (by omega)).s _ (by omega)).s _ (by omega), ⟨?_, ?_, fun i hi => ?_, fun i hi => ?_⟩⟩
  · unfold fP_addRow fP_addRow_0
    rw [gd_k k, e1, Option.bind_some, pic_t h, Option.bind_some, alen_k h.2.2.2.2.1 (by decide), Option.bind_some, if_neg (nI_ge hm (by omega)), Option.bind_some, Option.bind_some, stA_k _ h.2.2.2.2.1 hm (by omega) (by omega), Option.bind_some, pic_a s1, Option.bind_some, e2, Option.bind_some, stA_k _ s1.2.2.2.2.2.1 hm (by omega) (by omega), Option.bind_some, pic_b s2, Option.bind_some, e3, Option.bind_some, stA_k _ s2.2.2.2.2.2.2.1 hm (by omega) (by omega), Option.bind_some, e4, Option.bind_some, stF_k (ci := 5) 0 _ s3.2.2.1 h2, Option.bind_some, show nI R.length + xc 1 = nI (R.length + 1) from nI_add _ 1]
  · rw [xI_eq, List.length_append]; rfl
  · simp (disch := omega) only [xI_ne]; exact c2
  · rw [List.length_append] at hi
    dsimp only at hi ⊢
    by_cases e : i = R.length
    · subst e
      rw [getD_app_r]
      simp (disch := omega) only [xI_ne, xI_eq, and_self]
    · have hl : i < R.length := by
        have : i < R.length + 1 := hi
        omega
      rw [getD_app_l hl]
      simp (disch := omega) only [xI_ne]
      exact c3 i hl
  · simp (disch := omega) only [xI_ne]
    exact c4 i hi
end BUILD
