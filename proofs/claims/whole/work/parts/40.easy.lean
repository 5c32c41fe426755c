/-! the calls that only set numbers -/
theorem bind_eta {α β : Type} (o : Option (α × β)) : (o.bind fun r => some ((r.1, r.2))) = o := by cases o <;> rfl
theorem xc0T : (xc 0 = 0) = True := eq_true rfl
theorem xc1F : (xc 1 = 0) = False := eq_false (by decide)
theorem nI0T : (nI 0 = 0) = True := eq_true rfl
def WH (a k : Nat) : Prop := 3 ≤ a ∧ a < 12 ∨ FMo a k
/-- numbers of the holding change -/
theorem sim_small {L : Nat} {xs : Nat → Int32} {μ μ' : xM} (h : Sim L xs μ) (f : Fr WH μ μ') (g : ∀ A V na nv T K kb gb, HB na nv T K kb gb → HS μ na nv T K kb gb → HM μ na nv → HT μ T K → HKp μ nv kb → HSz μ nv → HG μ nv gb → HZ μ nv → HW μ na → SimP μ A V na nv → ∃ T' kb' gb', HB na nv T' K kb' gb' ∧ HS μ' na nv T' K kb' gb' ∧ HM μ' na nv ∧ HT μ' T' K ∧ HKp μ' nv kb' ∧ HSz μ' nv ∧ HG μ' nv gb' ∧ HZ μ' nv ∧ HW μ' na) : Sim L xs μ' := by
  obtain ⟨o', A, V, na, nv, T, K, kb, gb, ⟨hB, hs, hm, ht, hk, hz, hg, hzz, hw, hp⟩, hP, hC, hBk, hT, hF, hI, hS⟩ := sim_all.mp h
  obtain ⟨T', kb', gb', b1, b2, b3, b4, b5, b6, b7, b8, b9⟩ := g A V na nv T K kb gb hB hs hm ht hk hz hg hzz hw hP
  have hn := hB.1
  have hv := hB.2.1
  exact sim_all.mpr ⟨o'.fr f (fun a k q => by unfold WH FMo; omega), A, V, na, nv, T', K, kb', gb', ⟨b1, b2, b3, b4, b5, b6, b7, b8, b9, hp.fr f hn hv (fun a k q r => by unfold WH FMo; omega)⟩, hP.fr f (fun a k q => by unfold FP at q; unfold WH FMo; omega), hC.fr f (fun a k q => by unfold FC at q; unfold WH FMo; omega), hBk.fr f (fun a k q => by unfold FB at q; unfold WH FMo; omega), hT.fr f (fun a k q => by unfold FT at q; unfold WH FMo; omega), hF.fr f (fun a k q => by unfold FF at q; unfold WH FMo; omega), hI.fr f (fun a k q => by unfold FI at q; unfold WH FMo; omega), hS.fr f hn (fun a k q => by unfold FS at q; unfold WH FMo; omega)⟩
theorem sim_weight {L : Nat} {xs : Nat → Int32} {μ : xM} (a1 : Int32) (a2 : Int32) (hS : Sim L xs μ) : SimR L xs (fX_weight 2 a1 a2 μ) (fun μ => fM_weight 293 a1 a2 μ) := by
  have hh := hS.sh
  obtain ⟨o', A, V, na, nv, T, K, kb, gb, ⟨hB, hs, hm, ht, hk, hz, hg, hzz, hw, hp⟩, hP, hC, hBk, hT, hF, hI, hSS⟩ := sim_all.mp hS
  have hn := hB.1
  rcases off_or na (by omega) a1 with q | ⟨j, hj, rfl⟩
  · refine sim_refuse 1 hS (by decide) (by decide) ?_ (fun μ1 h1 h2 => ?_)
    · unfold fX_weight fX_weight_0
      rw [gd2 hh, xask_no hh hs.2.2.1 q]
      simp only [Option.bind_some, xc0T, if_true, bind_eta]
      rfl
    · unfold fM_weight fM_weight_0
      rw [gd293 h1, mask_no h1 ((h2 _ _ (by decide)).trans hm.1) (by omega) q]
      simp only [Option.bind_some, xc0T, if_true, bind_eta]
      rfl
  · have hj' : j < 10 := by omega
    have e1 := xask_yes hh hs.2.2.1 (by omega) hj
    have e2 : ∀ μ1, Sh μ1 → (∀ a j, 293 ≤ a → xI μ1 a j = xI μ a j) → fM_isAsk 293 (nI j) μ1 = some (xc 1) := fun μ1 h1 h2 => mask_yes h1 ((h2 _ _ (by decide)).trans hm.1) (by omega) hj
    by_cases q1 : 0 ≤ a2
    · by_cases q2 : a2 ≤ xc 99
      · refine ⟨xI μ 7 j, xsI μ 7 j a2, xsI (xsI μ 7 j a2) 306 j a2, ?_, o'.2.1, ?_, ?_⟩
        · unfold fX_weight fX_weight_0
          simp only [gd2 hh, e1, Option.bind_some, xc1F, if_false, q1, q2, if_true, g2_0 hh, g3_11 hh, la7 hh hj', sa7 hh _ hj']
        · have h1 : Sh (xsI μ 7 j a2) := hh
          unfold fM_weight fM_weight_0
          simp only [gd293 h1, e2 _ h1 (fun a j q => xI_ne (by omega)), Option.bind_some, xc1F, if_false, q1, q2, if_true, g293_17 h1, la306 h1 hj', sa306 h1 _ hj']
          rw [xI_ne (by omega), hw.1 j hj]
        · have f : Fr (fun a _ => a = 7 ∨ a = 306) μ (xsI (xsI μ 7 j a2) 306 j a2) := ((Fr.refl μ).s _ (Or.inl rfl)).s _ (Or.inr rfl)
          refine sim_small hS (f.mono (fun a k q => by unfold WH FMo; omega)) (fun A V na' nv' T' K' kb' gb' g1 g2 g3 g4 g5 g6 g7 g8 g9 _ => ⟨T', kb', gb', g1, g2.fr f (fun k _ => by omega), g3.fr f (fun a k _ => by omega), g4.fr f (fun k _ => by omega), g5.fr f (fun k _ => by omega), g6.fr f (fun a k _ _ => by omega), g7.fr f (fun k _ => by omega), g8.fr f (fun a k _ _ _ _ => by omega), fun a ha => ?_, fun a ha ha2 => ?_⟩)
          · by_cases e : a = j
            · subst e
              rw [xI_eq, xI_ne (by omega), xI_eq]
            · rw [xI_ne (by omega), xI_ne (by omega), xI_ne (by omega), xI_ne (by omega)]
              exact g9.1 a ha
          · have en : na' = na := (nI_eq (by have := g1.1; omega) (by omega)).mp (g2.2.2.1.symm.trans hs.2.2.1)
            rw [xI_ne (by omega), xI_ne (by omega)]
            exact g9.2 a ha ha2
      · refine sim_refuse 6 hS (by decide) (by decide) ?_ (fun μ1 h1 h2 => ?_)
        · unfold fX_weight fX_weight_0
          simp only [gd2 hh, e1, Option.bind_some, xc1F, if_false, q1, q2, if_true, bind_eta]
          rfl
        · unfold fM_weight fM_weight_0
          simp only [gd293 h1, e2 _ h1 h2, Option.bind_some, xc1F, if_false, q1, q2, if_true, bind_eta]
          rfl
    · refine sim_refuse 4 hS (by decide) (by decide) ?_ (fun μ1 h1 h2 => ?_)
      · unfold fX_weight fX_weight_0
        simp only [gd2 hh, e1, Option.bind_some, xc1F, if_false, q1, bind_eta]
        rfl
      · unfold fM_weight fM_weight_0
        simp only [gd293 h1, e2 _ h1 h2, Option.bind_some, xc1F, if_false, q1, bind_eta]
        rfl
