/-! pictures are copied -/
theorem take_succD {α : Type} (l : List α) (i : Nat) (d : α) (h : i < l.length) : l.take (i + 1) = l.take i ++ [l.getD i d] := by
  rw [List.take_succ, List.getD_eq_getElem?_getD, List.getElem?_eq_getElem h]
  rfl
section COPY
variable {μ : xM} {p m q mq : Nat} {R : List xRow} {H : List Nat} {Q : xPic}
theorem addHead_ok (h : IsPic μ p m) (c : PicC μ p (R, H)) (t : Nat) (hm : H.length < 3) : ∃ μ1, fP_addToHead p (nI t) μ = some μ1 ∧ Fr (fun x k => x = p ∧ k = 4 ∨ x = p + 1) μ μ1 ∧ PicC μ1 p (R, H ++ [t]) := by
  have k := h.2.2.1
  have h2 := h.1
  obtain ⟨c1, c2, c3, c4⟩ := c
  dsimp only at c1 c2 c3 c4
  have s1 : IsPic (xsI μ (p + 1) H.length (nI t)) p m := h
  have e1 : ldF μ p 5 4 = some (nI H.length) := by rw [ldF_k (ci := 5) 4 k, c2]
  have e2 : ldF (xsI μ (p + 1) H.length (nI t)) p 5 4 = some (nI H.length) := by rw [ldF_k (ci := 5) 4 s1.2.2.1, xI_ne (by omega), c2]
  refine ⟨xsI (xsI μ (p + 1) H.length (nI t)) p 4 (nI (H.length + 1)), ?_, ((Fr.refl μ).s _ (by omega)).s _ (by omega), ⟨?_, ?_, fun i hi => ?_, fun i hi => ?_⟩⟩
  · unfold fP_addToHead fP_addToHead_0
    rw [gd_k k, e1, Option.bind_some, if_neg (show ¬ xc 3 ≤ nI H.length from nI_ge (b := 3) hm (by decide)), pic_h h, Option.bind_some, Option.bind_some, stA_k _ h.2.2.2.1 hm (by omega) (by omega), Option.bind_some, e2, Option.bind_some, stF_k (ci := 5) 4 _ s1.2.2.1 h2, Option.bind_some, show nI H.length + xc 1 = nI (H.length + 1) from nI_add _ 1]
  · simp (disch := omega) only [xI_ne]; exact c1
  · rw [xI_eq, List.length_append]; rfl
  · simp (disch := omega) only [xI_ne]
    exact c3 i hi
  · rw [List.length_append] at hi
    dsimp only at hi ⊢
    by_cases e : i = H.length
    · subst e
      rw [getD_app_r]
      simp (disch := omega) only [xI_ne, xI_eq]
    · have hl : i < H.length := by
        have : i < H.length + 1 := hi
        omega
      rw [getD_app_l hl]
      simp (disch := omega) only [xI_ne]
      exact c4 i hl
theorem copyHead_ok (h : IsPic μ p m) (hq : IsPic μ q mq) (c : PicC μ p (R, [])) (cq : PicC μ q Q) (hl : Q.2.length ≤ 3) (d : p + 5 ≤ q ∨ q + 5 ≤ p) : ∃ μ1, fP_copyHead p q μ = some μ1 ∧ Fr (fun x k => x = p ∧ k = 4 ∨ x = p + 1) μ μ1 ∧ PicC μ1 p (R, Q.2) := by
  unfold fP_copyHead fP_copyHead_0
  rw [gd_k h.2.2.1]
  refine xwh_inv (fun i s => s.1 = nI i ∧ Fr (fun x k => x = p ∧ k = 4 ∨ x = p + 1) μ s.2 ∧ PicC s.2 p (R, Q.2.take i)) _ Q.2.length ?_ ?_ Q.2.length 0 _ (by omega) ⟨rfl, Fr.refl μ, c⟩
  · rintro i ⟨x, μ'⟩ hi ⟨rfl, f, e1⟩
    left
    have hq' := f.pic hq
    have cq' : PicC μ' q Q := cq.fr (fun a k q r => f.I (by omega))
    have tl : (Q.2.take i).length = i := List.length_take_of_le (by omega)
    obtain ⟨μ2, r1, f2, r2⟩ := addHead_ok (f.pic h) e1 (Q.2.getD i 0) (by rw [tl]; omega)
    refine ⟨(nI (i + 1), μ2), ?_, rfl, f.trans f2, by rw [take_succD _ _ 0 hi]; exact r2⟩
    unfold fP_copyHead_L2
    dsimp only
    rw [hq'.headLen cq', Option.bind_some, if_neg (nI_ge hi (by omega)), pic_h hq', Option.bind_some, pic_hv hq' cq' hl hi, Option.bind_some, r1, Option.bind_some, show nI i + xc 1 = nI (i + 1) from nI_add i 1]
  · rintro ⟨x, μ'⟩ ⟨rfl, f, e1⟩
    have cq' : PicC μ' q Q := cq.fr (fun a k q r => f.I (by omega))
    refine ⟨μ', ?_, f, by rw [List.take_length] at e1; exact e1⟩
    unfold fP_copyHead_L2
    dsimp only
    rw [(f.pic hq).headLen cq', Option.bind_some, if_pos (Int32.le_refl _)]
theorem copy_ok (h : IsPic μ p m) (hq : IsPic μ q mq) (cq : PicC μ q Q) (hr : Q.1.length ≤ m) (hrq : Q.1.length ≤ mq) (hl : Q.2.length ≤ 3) (d : p + 5 ≤ q ∨ q + 5 ≤ p) : ∃ μ1, fP_copyFrom p q μ = some μ1 ∧ Fr (fun x _ => p ≤ x ∧ x < p + 5) μ μ1 ∧ PicC μ1 p Q ∧ xI μ1 p 6 = nI 0 ∧ xI μ1 p 7 = nI 0 := by
  have hm12 := h.2.1
  obtain ⟨μ0, r0, f0, r1, r2, r3⟩ := clear_ok h
  unfold fP_copyFrom fP_copyFrom_0
  rw [gd_k h.2.2.1, r0, Option.bind_some]
  have := xwh_inv (body := fun s : Int32 × xM => fP_copyFrom_L6 p q s.1 s.2) (fun i s => s.1 = nI i ∧ Fr (fun x k => x = p ∧ k = 0 ∨ p + 2 ≤ x ∧ x < p + 5) μ0 s.2 ∧ PicC s.2 p (Q.1.take i, [])) (fun μ1 => Fr (fun x k => x = p ∧ (k = 0 ∨ k = 4) ∨ p + 1 ≤ x ∧ x < p + 5) μ0 μ1 ∧ PicC μ1 p Q) Q.1.length ?_ ?_ Q.1.length 0 (xc 0, μ0) (by omega) ⟨rfl, Fr.refl μ0, r1⟩
  · obtain ⟨μ1, e1, f1, e2⟩ := this
    refine ⟨μ1, e1, (f0.mono (fun a k q => by omega)).trans (f1.mono (fun a k q => by omega)), e2, ?_, ?_⟩
    · rw [f1.I (by omega)]; exact r2
    · rw [f1.I (by omega)]; exact r3
  · rintro i ⟨x, μ'⟩ hi ⟨rfl, f, e1⟩
    left
    have hq' := f.pic (f0.pic hq)
    have cq' : PicC μ' q Q := cq.fr (fun a k q r => (f.I (by omega)).trans (f0.I (by omega)))
    have tl : (Q.1.take i).length = i := List.length_take_of_le (by omega)
    obtain ⟨μ2, g1, f2, g2⟩ := addRow_ok (f.pic (f0.pic h)) e1 (prow Q i).1 (prow Q i).2.1 (prow Q i).2.2 (by rw [tl]; omega)
    refine ⟨(nI (i + 1), μ2), ?_, rfl, f.trans f2, by rw [take_succD _ _ (0, 0, 0) hi]; exact g2⟩
    unfold fP_copyFrom_L6
    dsimp only
    rw [hq'.rowCount cq', Option.bind_some, if_neg (nI_ge hi (by omega)), pic_t hq', Option.bind_some, pic_tv hq' cq' hrq hi, Option.bind_some, pic_a hq', Option.bind_some, pic_av hq' cq' hrq hi, Option.bind_some, pic_b hq', Option.bind_some, pic_bv hq' cq' hrq hi, Option.bind_some, g1, Option.bind_some, show nI i + xc 1 = nI (i + 1) from nI_add i 1]
  · rintro ⟨x, μ'⟩ ⟨rfl, f, e1⟩
    have hq' := f.pic (f0.pic hq)
    have cq' : PicC μ' q Q := cq.fr (fun a k q r => (f.I (by omega)).trans (f0.I (by omega)))
    rw [List.take_length] at e1
    obtain ⟨μ2, g1, f2, g2⟩ := copyHead_ok (f.pic (f0.pic h)) hq' e1 cq' hl d
    refine ⟨μ2, ?_, (f.mono (fun a k q => by omega)).trans (f2.mono (fun a k q => by omega)), g2⟩
    unfold fP_copyFrom_L6 fP_copyFrom_42
    dsimp only
    rw [hq'.rowCount cq', Option.bind_some, if_pos (Int32.le_refl _), g1]
    rfl
end COPY
