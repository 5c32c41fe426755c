/-! methods as functions, printed with their proofs -/
-- KeptAnswers$Picture.clear()V 
def fP_clear_K (rv : Option Value) (μf : xM) : (xM) → Prop := fun o => rv = none ∧ μf = o
noncomputable def fP_clear_0  (v0 : Nat) (μ : xM) : Option (xM) := (stF μ v0 5 0 (xc 0)).bind fun μ1 => (stF μ1 v0 5 4 (xc 0)).bind fun μ2 => (stF μ2 v0 5 6 (xc 0)).bind fun μ3 => (stFZ μ3 v0 5 7 (xc 0)).bind fun μ4 => some μ4
theorem fP_clear_0_ok {d : Nat} {v0 : Nat} {μ : xM} {rv : Option Value} {μf : xM} {out : xM} (h : fP_clear_0 v0 μ = some out) (hK : fP_clear_K rv μf out) : xRun (d + 0) 77 0 [some (.ref v0)] [] μ rv μf := by
  unfold fP_clear_0 at h
  refine xr_go 2 (pc' := 2) (lo' := [some (.ref v0)]) (st' := [.int (xc 0), .ref v0]) (μ' := μ) rfl ?_
  obtain ⟨μ1, hμ1, h⟩ := Option.bind_eq_some_iff.mp h
  refine xr_opM (pc' := 5) (lo' := [some (.ref v0)]) (st' := []) (o := stF μ v0 5 0 (xc 0)) rfl hμ1 ?_
  refine xr_go 2 (pc' := 7) (lo' := [some (.ref v0)]) (st' := [.int (xc 0), .ref v0]) (μ' := μ1) rfl ?_
  obtain ⟨μ2, hμ2, h⟩ := Option.bind_eq_some_iff.mp h
  refine xr_opM (pc' := 10) (lo' := [some (.ref v0)]) (st' := []) (o := stF μ1 v0 5 4 (xc 0)) rfl hμ2 ?_
  refine xr_go 2 (pc' := 12) (lo' := [some (.ref v0)]) (st' := [.int (xc 0), .ref v0]) (μ' := μ2) rfl ?_
  obtain ⟨μ3, hμ3, h⟩ := Option.bind_eq_some_iff.mp h
  refine xr_opM (pc' := 15) (lo' := [some (.ref v0)]) (st' := []) (o := stF μ2 v0 5 6 (xc 0)) rfl hμ3 ?_
  refine xr_go 2 (pc' := 17) (lo' := [some (.ref v0)]) (st' := [.int (xc 0), .ref v0]) (μ' := μ3) rfl ?_
  obtain ⟨μ4, hμ4, h⟩ := Option.bind_eq_some_iff.mp h
  refine xr_opM (pc' := 20) (lo' := [some (.ref v0)]) (st' := []) (o := stFZ μ3 v0 5 7 (xc 0)) rfl hμ4 ?_
  have ho := Option.some.inj h
  subst ho
  obtain ⟨rfl, rfl⟩ := hK
  exact xr_ret (rv := none) rfl rfl (rfl)
noncomputable def fP_clear (a0 : Nat) (μ : xM) : Option (xM) := xgd μ a0 5 (fP_clear_0 a0 μ)
theorem fP_clear_kd {a0 : Nat} {μ : xM} {o : xM} (h : fP_clear a0 μ = some o) : (xK μ a0).1 = 10 + 5 := (xgd_some h).1
theorem fP_clear_ok {d : Nat} {a0 : Nat} {μ : xM} {o : xM} (h : fP_clear a0 μ = some o) : xRun (d + 0) 77 0 [some (.ref a0)] [] μ none o :=
  xr_forget (lo := [some (.ref a0)]) (⟨rfl, trivial⟩) (fP_clear_0_ok (d := d) (xgd_some h).2 (show fP_clear_K _ _ o from ⟨rfl, rfl⟩))
-- KeptAnswers$Text.termAt(I)I 
def fT_termAt_K (μ : xM) (rv : Option Value) (μf : xM) : (Int32) → Prop := fun o => rv = some (.int o) ∧ μf = μ
noncomputable def fT_termAt_55  (μ : xM) : Option (Int32) := some (xc (-1))
theorem fT_termAt_55_ok {d : Nat} {μ : xM} {rv : Option Value} {μf : xM} {out : Int32} (h : fT_termAt_55 μ = some out) (hK : fT_termAt_K μ rv μf out) : xRun (d + 0) 121 55 [none, none, none] [] μ rv μf := by
  unfold fT_termAt_55 at h
  refine xr_go 1 (pc' := 56) (lo' := [none, none, none]) (st' := [.int (xc (-1))]) (μ' := μ) rfl ?_
  have ho := Option.some.inj h
  subst ho
  obtain ⟨rfl, rfl⟩ := hK
  exact xr_ret (rv := some (.int (xc (-1)))) rfl rfl (Or.inl rfl)
noncomputable def fT_termAt_29  (v2 : Int32) (μ : xM) : Option (Int32) := some (v2 - (xc 48))
theorem fT_termAt_29_ok {d : Nat} {v2 : Int32} {μ : xM} {rv : Option Value} {μf : xM} {out : Int32} (h : fT_termAt_29 v2 μ = some out) (hK : fT_termAt_K μ rv μf out) : xRun (d + 0) 121 29 [none, none, some (.int v2)] [] μ rv μf := by
  unfold fT_termAt_29 at h
  refine xr_go 3 (pc' := 33) (lo' := [none, none, some (.int v2)]) (st' := [.int (v2 - (xc 48))]) (μ' := μ) rfl ?_
  have ho := Option.some.inj h
  subst ho
  obtain ⟨rfl, rfl⟩ := hK
  exact xr_ret (rv := some (.int (v2 - (xc 48)))) rfl rfl (Or.inl rfl)
noncomputable def fT_termAt_0  (v0 : Nat) (v1 : Int32) (μ : xM) : Option (Int32) := (ldF μ v0 7 1).bind fun x1 => if v1 < x1 then ((ldFR μ v0 7 0).bind fun x2 => (ldA μ x2 v1).bind fun x3 => if x3 = (xc 48) then (fT_termAt_29 x3 μ) else (if x3 = (xc 49) then (fT_termAt_29 x3 μ) else (if x3 < (xc 97) then (fT_termAt_55 μ) else (if (xc 102) ≤ x3 then (fT_termAt_55 μ) else (some ((x3 - (xc 97)) + (xc 2))))))) else (some (xc (-1)))
theorem fT_termAt_0_ok {d : Nat} {v0 : Nat} {v1 : Int32} {μ : xM} {rv : Option Value} {μf : xM} {out : Int32} (h : fT_termAt_0 v0 v1 μ = some out) (hK : fT_termAt_K μ rv μf out) : xRun (d + 0) 121 0 [some (.ref v0), some (.int v1), none] [] μ rv μf := by
  unfold fT_termAt_0 at h
  refine xr_go 2 (pc' := 2) (lo' := [some (.ref v0), some (.int v1), none]) (st' := [.ref v0, .int v1]) (μ' := μ) rfl ?_
  obtain ⟨x1, hx1, h⟩ := Option.bind_eq_some_iff.mp h
  refine xr_opI (pc' := 5) (lo' := [some (.ref v0), some (.int v1), none]) (st' := [.int v1]) (o := ldF μ v0 7 1) rfl hx1 ?_
  refine xr_icmp (pct := 10) rfl rfl rfl (fun hc => ?_) (fun hc => ?_)
  · replace h := (if_pos (of_decide_eq_true hc)).symm.trans h
    refine xr_go 1 (pc' := 11) (lo' := [some (.ref v0), some (.int v1), none]) (st' := [.ref v0]) (μ' := μ) rfl ?_
    obtain ⟨x2, hx2, h⟩ := Option.bind_eq_some_iff.mp h
    refine xr_opA (pc' := 14) (lo' := [some (.ref v0), some (.int v1), none]) (st' := []) (o := ldFR μ v0 7 0) rfl hx2 ?_
    refine xr_go 1 (pc' := 15) (lo' := [some (.ref v0), some (.int v1), none]) (st' := [.int v1, .ref x2]) (μ' := μ) rfl ?_
    obtain ⟨x3, hx3, h⟩ := Option.bind_eq_some_iff.mp h
    refine xr_opI (pc' := 16) (lo' := [some (.ref v0), some (.int v1), none]) (st' := []) (o := ldA μ x2 v1) rfl hx3 ?_
    refine xr_go 3 (pc' := 20) (lo' := [some (.ref v0), some (.int v1), some (.int x3)]) (st' := [.int (xc 48), .int x3]) (μ' := μ) rfl ?_
    refine xr_icmp (pct := 29) rfl rfl rfl (fun hc => ?_) (fun hc => ?_)
    · replace h := (if_pos (of_decide_eq_true hc)).symm.trans h
      refine xr_forget (lo := [none, none, some (.int x3)]) ⟨rfl, trivial⟩ ?_
      exact fT_termAt_29_ok h hK
    · replace h := (if_neg (of_decide_eq_false hc)).symm.trans h
      refine xr_go 2 (pc' := 26) (lo' := [some (.ref v0), some (.int v1), some (.int x3)]) (st' := [.int (xc 49), .int x3]) (μ' := μ) rfl ?_
      refine xr_icmp (pct := 34) rfl rfl rfl (fun hc => ?_) (fun hc => ?_)
      · replace h := (if_neg (of_decide_eq_true hc)).symm.trans h
        refine xr_go 2 (pc' := 37) (lo' := [some (.ref v0), some (.int v1), some (.int x3)]) (st' := [.int (xc 97), .int x3]) (μ' := μ) rfl ?_
        refine xr_icmp (pct := 55) rfl rfl rfl (fun hc => ?_) (fun hc => ?_)
        · replace h := (if_pos (of_decide_eq_true hc)).symm.trans h
          refine xr_forget (lo := [none, none, none]) trivial ?_
          exact fT_termAt_55_ok h hK
        · replace h := (if_neg (of_decide_eq_false hc)).symm.trans h
          refine xr_go 2 (pc' := 43) (lo' := [some (.ref v0), some (.int v1), some (.int x3)]) (st' := [.int (xc 102), .int x3]) (μ' := μ) rfl ?_
          refine xr_icmp (pct := 55) rfl rfl rfl (fun hc => ?_) (fun hc => ?_)
          · replace h := (if_pos (of_decide_eq_true hc)).symm.trans h
            refine xr_forget (lo := [none, none, none]) trivial ?_
            exact fT_termAt_55_ok h hK
          · replace h := (if_neg (of_decide_eq_false hc)).symm.trans h
            refine xr_go 6 (pc' := 56) (lo' := [some (.ref v0), some (.int v1), some (.int x3)]) (st' := [.int ((x3 - (xc 97)) + (xc 2))]) (μ' := μ) rfl ?_
            have ho := Option.some.inj h
            subst ho
            obtain ⟨rfl, rfl⟩ := hK
            exact xr_ret (rv := some (.int ((x3 - (xc 97)) + (xc 2)))) rfl rfl (Or.inl rfl)
      · replace h := (if_pos (Decidable.of_not_not (of_decide_eq_false hc))).symm.trans h
        refine xr_forget (lo := [none, none, some (.int x3)]) ⟨rfl, trivial⟩ ?_
        exact fT_termAt_29_ok h hK
  · replace h := (if_neg (of_decide_eq_false hc)).symm.trans h
    refine xr_go 1 (pc' := 9) (lo' := [some (.ref v0), some (.int v1), none]) (st' := [.int (xc (-1))]) (μ' := μ) rfl ?_
    have ho := Option.some.inj h
    subst ho
    obtain ⟨rfl, rfl⟩ := hK
    exact xr_ret (rv := some (.int (xc (-1)))) rfl rfl (Or.inl rfl)
noncomputable def fT_termAt (a0 : Nat) (a1 : Int32) (μ : xM) : Option (Int32) := xgd μ a0 7 (fT_termAt_0 a0 a1 μ)
theorem fT_termAt_kd {a0 : Nat} {a1 : Int32} {μ : xM} {o : Int32} (h : fT_termAt a0 a1 μ = some o) : (xK μ a0).1 = 10 + 7 := (xgd_some h).1
theorem fT_termAt_ok {d : Nat} {a0 : Nat} {a1 : Int32} {μ : xM} {o : Int32} (h : fT_termAt a0 a1 μ = some o) : xRun (d + 0) 121 0 [some (.ref a0), some (.int a1), none] [] μ (some (.int o)) μ :=
  xr_forget (lo := [some (.ref a0), some (.int a1), none]) (⟨rfl, rfl, trivial⟩) (fT_termAt_0_ok (d := d) (xgd_some h).2 (show fT_termAt_K μ _ _ o from ⟨rfl, rfl⟩))
-- KeptAnswers$Picture.addRow(III)V 
def fP_addRow_K (rv : Option Value) (μf : xM) : (xM) → Prop := fun o => rv = none ∧ μf = o
noncomputable def fP_addRow_0  (v0 : Nat) (v1 : Int32) (v2 : Int32) (v3 : Int32) (μ : xM) : Option (xM) := (ldF μ v0 5 0).bind fun x1 => (ldFR μ v0 5 1).bind fun x2 => (alen μ x2).bind fun x3 => if x3 ≤ x1 then (some μ) else ((ldFR μ v0 5 1).bind fun x4 => (ldF μ v0 5 0).bind fun x5 => (stA μ x4 x5 v1).bind fun μ6 => (ldFR μ6 v0 5 2).bind fun x7 => (ldF μ6 v0 5 0).bind fun x8 => (stA μ6 x7 x8 v2).bind fun μ9 => (ldFR μ9 v0 5 3).bind fun x10 => (ldF μ9 v0 5 0).bind fun x11 => (stA μ9 x10 x11 v3).bind fun μ12 => (ldF μ12 v0 5 0).bind fun x13 => (stF μ12 v0 5 0 (x13 + (xc 1))).bind fun μ14 => some μ14)
theorem fP_addRow_0_ok {d : Nat} {v0 : Nat} {v1 : Int32} {v2 : Int32} {v3 : Int32} {μ : xM} {rv : Option Value} {μf : xM} {out : xM} (h : fP_addRow_0 v0 v1 v2 v3 μ = some out) (hK : fP_addRow_K rv μf out) : xRun (d + 0) 78 0 [some (.ref v0), some (.int v1), some (.int v2), some (.int v3)] [] μ rv μf := by
  unfold fP_addRow_0 at h
  refine xr_go 1 (pc' := 1) (lo' := [some (.ref v0), some (.int v1), some (.int v2), some (.int v3)]) (st' := [.ref v0]) (μ' := μ) rfl ?_
  obtain ⟨x1, hx1, h⟩ := Option.bind_eq_some_iff.mp h
  refine xr_opI (pc' := 4) (lo' := [some (.ref v0), some (.int v1), some (.int v2), some (.int v3)]) (st' := []) (o := ldF μ v0 5 0) rfl hx1 ?_
  refine xr_go 1 (pc' := 5) (lo' := [some (.ref v0), some (.int v1), some (.int v2), some (.int v3)]) (st' := [.ref v0, .int x1]) (μ' := μ) rfl ?_
  obtain ⟨x2, hx2, h⟩ := Option.bind_eq_some_iff.mp h
  refine xr_opA (pc' := 8) (lo' := [some (.ref v0), some (.int v1), some (.int v2), some (.int v3)]) (st' := [.int x1]) (o := ldFR μ v0 5 1) rfl hx2 ?_
  obtain ⟨x3, hx3, h⟩ := Option.bind_eq_some_iff.mp h
  refine xr_opI (pc' := 9) (lo' := [some (.ref v0), some (.int v1), some (.int v2), some (.int v3)]) (st' := [.int x1]) (o := alen μ x2) rfl hx3 ?_
  refine xr_icmp (pct := 52) rfl rfl rfl (fun hc => ?_) (fun hc => ?_)
  · replace h := (if_pos (of_decide_eq_true hc)).symm.trans h
    have ho := Option.some.inj h
    subst ho
    obtain ⟨rfl, rfl⟩ := hK
    exact xr_ret (rv := none) rfl rfl (rfl)
  · replace h := (if_neg (of_decide_eq_false hc)).symm.trans h
    refine xr_go 1 (pc' := 13) (lo' := [some (.ref v0), some (.int v1), some (.int v2), some (.int v3)]) (st' := [.ref v0]) (μ' := μ) rfl ?_
    obtain ⟨x4, hx4, h⟩ := Option.bind_eq_some_iff.mp h
    refine xr_opA (pc' := 16) (lo' := [some (.ref v0), some (.int v1), some (.int v2), some (.int v3)]) (st' := []) (o := ldFR μ v0 5 1) rfl hx4 ?_
    refine xr_go 1 (pc' := 17) (lo' := [some (.ref v0), some (.int v1), some (.int v2), some (.int v3)]) (st' := [.ref v0, .ref x4]) (μ' := μ) rfl ?_
    obtain ⟨x5, hx5, h⟩ := Option.bind_eq_some_iff.mp h
    refine xr_opI (pc' := 20) (lo' := [some (.ref v0), some (.int v1), some (.int v2), some (.int v3)]) (st' := [.ref x4]) (o := ldF μ v0 5 0) rfl hx5 ?_
    refine xr_go 1 (pc' := 21) (lo' := [some (.ref v0), some (.int v1), some (.int v2), some (.int v3)]) (st' := [.int v1, .int x5, .ref x4]) (μ' := μ) rfl ?_
    obtain ⟨μ6, hμ6, h⟩ := Option.bind_eq_some_iff.mp h
    refine xr_opM (pc' := 22) (lo' := [some (.ref v0), some (.int v1), some (.int v2), some (.int v3)]) (st' := []) (o := stA μ x4 x5 v1) rfl hμ6 ?_
    refine xr_go 1 (pc' := 23) (lo' := [some (.ref v0), some (.int v1), some (.int v2), some (.int v3)]) (st' := [.ref v0]) (μ' := μ6) rfl ?_
    obtain ⟨x7, hx7, h⟩ := Option.bind_eq_some_iff.mp h
    refine xr_opA (pc' := 26) (lo' := [some (.ref v0), some (.int v1), some (.int v2), some (.int v3)]) (st' := []) (o := ldFR μ6 v0 5 2) rfl hx7 ?_
    refine xr_go 1 (pc' := 27) (lo' := [some (.ref v0), some (.int v1), some (.int v2), some (.int v3)]) (st' := [.ref v0, .ref x7]) (μ' := μ6) rfl ?_
    obtain ⟨x8, hx8, h⟩ := Option.bind_eq_some_iff.mp h
    refine xr_opI (pc' := 30) (lo' := [some (.ref v0), some (.int v1), some (.int v2), some (.int v3)]) (st' := [.ref x7]) (o := ldF μ6 v0 5 0) rfl hx8 ?_
    refine xr_go 1 (pc' := 31) (lo' := [some (.ref v0), some (.int v1), some (.int v2), some (.int v3)]) (st' := [.int v2, .int x8, .ref x7]) (μ' := μ6) rfl ?_
    obtain ⟨μ9, hμ9, h⟩ := Option.bind_eq_some_iff.mp h
    refine xr_opM (pc' := 32) (lo' := [some (.ref v0), some (.int v1), some (.int v2), some (.int v3)]) (st' := []) (o := stA μ6 x7 x8 v2) rfl hμ9 ?_
    refine xr_go 1 (pc' := 33) (lo' := [some (.ref v0), some (.int v1), some (.int v2), some (.int v3)]) (st' := [.ref v0]) (μ' := μ9) rfl ?_
    obtain ⟨x10, hx10, h⟩ := Option.bind_eq_some_iff.mp h
    refine xr_opA (pc' := 36) (lo' := [some (.ref v0), some (.int v1), some (.int v2), some (.int v3)]) (st' := []) (o := ldFR μ9 v0 5 3) rfl hx10 ?_
    refine xr_go 1 (pc' := 37) (lo' := [some (.ref v0), some (.int v1), some (.int v2), some (.int v3)]) (st' := [.ref v0, .ref x10]) (μ' := μ9) rfl ?_
    obtain ⟨x11, hx11, h⟩ := Option.bind_eq_some_iff.mp h
    refine xr_opI (pc' := 40) (lo' := [some (.ref v0), some (.int v1), some (.int v2), some (.int v3)]) (st' := [.ref x10]) (o := ldF μ9 v0 5 0) rfl hx11 ?_
    refine xr_go 1 (pc' := 41) (lo' := [some (.ref v0), some (.int v1), some (.int v2), some (.int v3)]) (st' := [.int v3, .int x11, .ref x10]) (μ' := μ9) rfl ?_
    obtain ⟨μ12, hμ12, h⟩ := Option.bind_eq_some_iff.mp h
    refine xr_opM (pc' := 42) (lo' := [some (.ref v0), some (.int v1), some (.int v2), some (.int v3)]) (st' := []) (o := stA μ9 x10 x11 v3) rfl hμ12 ?_
    refine xr_go 2 (pc' := 44) (lo' := [some (.ref v0), some (.int v1), some (.int v2), some (.int v3)]) (st' := [.ref v0, .ref v0]) (μ' := μ12) rfl ?_
    obtain ⟨x13, hx13, h⟩ := Option.bind_eq_some_iff.mp h
    refine xr_opI (pc' := 47) (lo' := [some (.ref v0), some (.int v1), some (.int v2), some (.int v3)]) (st' := [.ref v0]) (o := ldF μ12 v0 5 0) rfl hx13 ?_
    refine xr_go 2 (pc' := 49) (lo' := [some (.ref v0), some (.int v1), some (.int v2), some (.int v3)]) (st' := [.int (x13 + (xc 1)), .ref v0]) (μ' := μ12) rfl ?_
    obtain ⟨μ14, hμ14, h⟩ := Option.bind_eq_some_iff.mp h
    refine xr_opM (pc' := 52) (lo' := [some (.ref v0), some (.int v1), some (.int v2), some (.int v3)]) (st' := []) (o := stF μ12 v0 5 0 (x13 + (xc 1))) rfl hμ14 ?_
    have ho := Option.some.inj h
    subst ho
    obtain ⟨rfl, rfl⟩ := hK
    exact xr_ret (rv := none) rfl rfl (rfl)
noncomputable def fP_addRow (a0 : Nat) (a1 : Int32) (a2 : Int32) (a3 : Int32) (μ : xM) : Option (xM) := xgd μ a0 5 (fP_addRow_0 a0 a1 a2 a3 μ)
theorem fP_addRow_kd {a0 : Nat} {a1 : Int32} {a2 : Int32} {a3 : Int32} {μ : xM} {o : xM} (h : fP_addRow a0 a1 a2 a3 μ = some o) : (xK μ a0).1 = 10 + 5 := (xgd_some h).1
theorem fP_addRow_ok {d : Nat} {a0 : Nat} {a1 : Int32} {a2 : Int32} {a3 : Int32} {μ : xM} {o : xM} (h : fP_addRow a0 a1 a2 a3 μ = some o) : xRun (d + 0) 78 0 [some (.ref a0), some (.int a1), some (.int a2), some (.int a3)] [] μ none o :=
  xr_forget (lo := [some (.ref a0), some (.int a1), some (.int a2), some (.int a3)]) (⟨rfl, rfl, rfl, rfl, trivial⟩) (fP_addRow_0_ok (d := d) (xgd_some h).2 (show fP_addRow_K _ _ o from ⟨rfl, rfl⟩))
-- KeptAnswers$Text.parseRow(LKeptAnswers$Picture;I)I 
def fT_parseRow_K (rv : Option Value) (μf : xM) : (Int32 × xM) → Prop := fun o => rv = some (.int o.1) ∧ μf = o.2
noncomputable def fT_parseRow_21  (v0 : Nat) (v1 : Nat) (v2 : Int32) (s0 : Int32) (μ : xM) : Option (Int32 × xM) := (fX_isTable s0 μ).bind fun r1 => if r1 = 0 then (some ((v2, μ))) else ((fT_termAt v0 (v2 + (xc 1)) μ).bind fun r2 => if 0 ≤ r2 then ((fT_termAt v0 (v2 + (xc 2)) μ).bind fun r3 => if 0 ≤ r3 then ((fP_addRow v1 s0 r2 r3 μ).bind fun r4 => some ((xc (-1), r4))) else (some ((v2 + (xc 2), μ)))) else (some ((v2 + (xc 1), μ))))
theorem fT_parseRow_21_ok {d : Nat} {v0 : Nat} {v1 : Nat} {v2 : Int32} {s0 : Int32} {μ : xM} {rv : Option Value} {μf : xM} {out : Int32 × xM} (h : fT_parseRow_21 v0 v1 v2 s0 μ = some out) (hK : fT_parseRow_K rv μf out) : xRun (d + 1) 119 21 [some (.ref v0), some (.ref v1), some (.int v2), none, none, none] [.int s0] μ rv μf := by
  unfold fT_parseRow_21 at h
  refine xr_go 2 (pc' := 23) (lo' := [some (.ref v0), some (.ref v1), some (.int v2), some (.int s0), none, none]) (st' := [.int s0]) (μ' := μ) rfl ?_
  obtain ⟨r1, hr1, h⟩ := Option.bind_eq_some_iff.mp h
  refine xr_callS (j := 38) (d' := (d + 0)) (rv1 := some (.int r1)) (μ1 := μ) (rest := []) (As := [.int s0]) rfl rfl rfl rfl (Nat.le_of_ble_eq_true rfl) rfl (by exact (fX_isTable_ok (d := d + (0)) hr1)) ?_
  refine xr_ifc (pct := 31) rfl rfl rfl (fun hc => ?_) (fun hc => ?_)
  · replace h := (if_neg (of_decide_eq_true hc)).symm.trans h
    refine xr_go 4 (pc' := 35) (lo' := [some (.ref v0), some (.ref v1), some (.int v2), some (.int s0), none, none]) (st' := [.int (v2 + (xc 1)), .ref v0]) (μ' := μ) rfl ?_
    obtain ⟨r2, hr2, h⟩ := Option.bind_eq_some_iff.mp h
    refine xr_callV (j := 121) (d' := (d + 0)) (rv1 := some (.int r2)) (μ1 := μ) (rest := []) (As := [.int (v2 + (xc 1))]) rfl rfl rfl rfl (Nat.le_of_ble_eq_true rfl) (fT_termAt_kd hr2) rfl (by exact (fT_termAt_ok (d := d + (0)) hr2)) ?_
    refine xr_go 2 (pc' := 42) (lo' := [some (.ref v0), some (.ref v1), some (.int v2), some (.int s0), some (.int r2), none]) (st' := [.int r2]) (μ' := μ) rfl ?_
    refine xr_ifc (pct := 49) rfl rfl rfl (fun hc => ?_) (fun hc => ?_)
    · replace h := (if_pos (of_decide_eq_true hc)).symm.trans h
      refine xr_go 4 (pc' := 53) (lo' := [some (.ref v0), some (.ref v1), some (.int v2), some (.int s0), some (.int r2), none]) (st' := [.int (v2 + (xc 2)), .ref v0]) (μ' := μ) rfl ?_
      obtain ⟨r3, hr3, h⟩ := Option.bind_eq_some_iff.mp h
      refine xr_callV (j := 121) (d' := (d + 0)) (rv1 := some (.int r3)) (μ1 := μ) (rest := []) (As := [.int (v2 + (xc 2))]) rfl rfl rfl rfl (Nat.le_of_ble_eq_true rfl) (fT_termAt_kd hr3) rfl (by exact (fT_termAt_ok (d := d + (0)) hr3)) ?_
      refine xr_go 2 (pc' := 60) (lo' := [some (.ref v0), some (.ref v1), some (.int v2), some (.int s0), some (.int r2), some (.int r3)]) (st' := [.int r3]) (μ' := μ) rfl ?_
      refine xr_ifc (pct := 67) rfl rfl rfl (fun hc => ?_) (fun hc => ?_)
      · replace h := (if_pos (of_decide_eq_true hc)).symm.trans h
        refine xr_go 4 (pc' := 73) (lo' := [some (.ref v0), some (.ref v1), some (.int v2), some (.int s0), some (.int r2), some (.int r3)]) (st' := [.int r3, .int r2, .int s0, .ref v1]) (μ' := μ) rfl ?_
        obtain ⟨r4, hr4, h⟩ := Option.bind_eq_some_iff.mp h
        refine xr_callV (j := 78) (d' := (d + 0)) (rv1 := none) (μ1 := r4) (rest := []) (As := [.int s0, .int r2, .int r3]) rfl rfl rfl rfl (Nat.le_of_ble_eq_true rfl) (fP_addRow_kd hr4) rfl (by exact (fP_addRow_ok (d := d + (0)) hr4)) ?_
        refine xr_go 1 (pc' := 77) (lo' := [some (.ref v0), some (.ref v1), some (.int v2), some (.int s0), some (.int r2), some (.int r3)]) (st' := [.int (xc (-1))]) (μ' := r4) rfl ?_
        have ho := Option.some.inj h
        subst ho
        obtain ⟨rfl, rfl⟩ := hK
        exact xr_ret (rv := some (.int (xc (-1)))) rfl rfl (Or.inl rfl)
      · replace h := (if_neg (of_decide_eq_false hc)).symm.trans h
        refine xr_go 3 (pc' := 66) (lo' := [some (.ref v0), some (.ref v1), some (.int v2), some (.int s0), some (.int r2), some (.int r3)]) (st' := [.int (v2 + (xc 2))]) (μ' := μ) rfl ?_
        have ho := Option.some.inj h
        subst ho
        obtain ⟨rfl, rfl⟩ := hK
        exact xr_ret (rv := some (.int (v2 + (xc 2)))) rfl rfl (Or.inl rfl)
    · replace h := (if_neg (of_decide_eq_false hc)).symm.trans h
      refine xr_go 3 (pc' := 48) (lo' := [some (.ref v0), some (.ref v1), some (.int v2), some (.int s0), some (.int r2), none]) (st' := [.int (v2 + (xc 1))]) (μ' := μ) rfl ?_
      have ho := Option.some.inj h
      subst ho
      obtain ⟨rfl, rfl⟩ := hK
      exact xr_ret (rv := some (.int (v2 + (xc 1)))) rfl rfl (Or.inl rfl)
  · replace h := (if_pos (Decidable.of_not_not (of_decide_eq_false hc))).symm.trans h
    refine xr_go 1 (pc' := 30) (lo' := [some (.ref v0), some (.ref v1), some (.int v2), some (.int s0), none, none]) (st' := [.int v2]) (μ' := μ) rfl ?_
    have ho := Option.some.inj h
    subst ho
    obtain ⟨rfl, rfl⟩ := hK
    exact xr_ret (rv := some (.int v2)) rfl rfl (Or.inl rfl)
noncomputable def fT_parseRow_0  (v0 : Nat) (v1 : Nat) (v2 : Int32) (μ : xM) : Option (Int32 × xM) := (ldF μ v0 7 1).bind fun x5 => if x5 ≤ v2 then (fT_parseRow_21 v0 v1 v2 (xc (-1)) μ) else ((ldFR μ v0 7 0).bind fun x6 => (ldA μ x6 v2).bind fun x7 => fT_parseRow_21 v0 v1 v2 (x7 - (xc 48)) μ)
theorem fT_parseRow_0_ok {d : Nat} {v0 : Nat} {v1 : Nat} {v2 : Int32} {μ : xM} {rv : Option Value} {μf : xM} {out : Int32 × xM} (h : fT_parseRow_0 v0 v1 v2 μ = some out) (hK : fT_parseRow_K rv μf out) : xRun (d + 1) 119 0 [some (.ref v0), some (.ref v1), some (.int v2), none, none, none] [] μ rv μf := by
  unfold fT_parseRow_0 at h
  refine xr_go 2 (pc' := 2) (lo' := [some (.ref v0), some (.ref v1), some (.int v2), none, none, none]) (st' := [.ref v0, .int v2]) (μ' := μ) rfl ?_
  obtain ⟨x5, hx5, h⟩ := Option.bind_eq_some_iff.mp h
  refine xr_opI (pc' := 5) (lo' := [some (.ref v0), some (.ref v1), some (.int v2), none, none, none]) (st' := [.int v2]) (o := ldF μ v0 7 1) rfl hx5 ?_
  refine xr_icmp (pct := 20) rfl rfl rfl (fun hc => ?_) (fun hc => ?_)
  · replace h := (if_pos (of_decide_eq_true hc)).symm.trans h
    refine xr_go 1 (pc' := 21) (lo' := [some (.ref v0), some (.ref v1), some (.int v2), none, none, none]) (st' := [.int (xc (-1))]) (μ' := μ) rfl ?_
    refine xr_forget (lo := [some (.ref v0), some (.ref v1), some (.int v2), none, none, none]) ⟨rfl, rfl, rfl, trivial⟩ ?_
    exact fT_parseRow_21_ok h hK
  · replace h := (if_neg (of_decide_eq_false hc)).symm.trans h
    refine xr_go 1 (pc' := 9) (lo' := [some (.ref v0), some (.ref v1), some (.int v2), none, none, none]) (st' := [.ref v0]) (μ' := μ) rfl ?_
    obtain ⟨x6, hx6, h⟩ := Option.bind_eq_some_iff.mp h
    refine xr_opA (pc' := 12) (lo' := [some (.ref v0), some (.ref v1), some (.int v2), none, none, none]) (st' := []) (o := ldFR μ v0 7 0) rfl hx6 ?_
    refine xr_go 1 (pc' := 13) (lo' := [some (.ref v0), some (.ref v1), some (.int v2), none, none, none]) (st' := [.int v2, .ref x6]) (μ' := μ) rfl ?_
    obtain ⟨x7, hx7, h⟩ := Option.bind_eq_some_iff.mp h
    refine xr_opI (pc' := 14) (lo' := [some (.ref v0), some (.ref v1), some (.int v2), none, none, none]) (st' := []) (o := ldA μ x6 v2) rfl hx7 ?_
    refine xr_go 3 (pc' := 21) (lo' := [some (.ref v0), some (.ref v1), some (.int v2), none, none, none]) (st' := [.int (x7 - (xc 48))]) (μ' := μ) rfl ?_
    refine xr_forget (lo := [some (.ref v0), some (.ref v1), some (.int v2), none, none, none]) ⟨rfl, rfl, rfl, trivial⟩ ?_
    exact fT_parseRow_21_ok h hK
noncomputable def fT_parseRow (a0 : Nat) (a1 : Nat) (a2 : Int32) (μ : xM) : Option (Int32 × xM) := xgd μ a0 7 (fT_parseRow_0 a0 a1 a2 μ)
theorem fT_parseRow_kd {a0 : Nat} {a1 : Nat} {a2 : Int32} {μ : xM} {o : Int32 × xM} (h : fT_parseRow a0 a1 a2 μ = some o) : (xK μ a0).1 = 10 + 7 := (xgd_some h).1
theorem fT_parseRow_ok {d : Nat} {a0 : Nat} {a1 : Nat} {a2 : Int32} {μ : xM} {o : Int32 × xM} (h : fT_parseRow a0 a1 a2 μ = some o) : xRun (d + 1) 119 0 [some (.ref a0), some (.ref a1), some (.int a2), none, none, none] [] μ (some (.int o.1)) o.2 :=
  xr_forget (lo := [some (.ref a0), some (.ref a1), some (.int a2), none, none, none]) (⟨rfl, rfl, rfl, trivial⟩) (fT_parseRow_0_ok (d := d) (xgd_some h).2 (show fT_parseRow_K _ _ o from ⟨rfl, rfl⟩))
-- KeptAnswers$Picture.names()I 
def fP_names_K (μ : xM) (rv : Option Value) (μf : xM) : (Int32) → Prop := fun o => rv = some (.int o) ∧ μf = μ
def fP_names_K4 (v0 : Nat) (μ : xM) (d : Nat) (rv : Option Value) (μf : xM) : ((Int32 × Int32) ⊕ (Int32)) → Prop := Sum.elim (fun s : Int32 × Int32 => xRun (d + 0) 82 4 [some (.ref v0), some (.int s.1), some (.int s.2)] [] μ rv μf) (fP_names_K μ rv μf)
noncomputable def fP_names_38  (v1 : Int32) (μ : xM) : Option (Int32) := some ((v1 >>> ((xc 2) &&& 31)) <<< ((xc 2) &&& 31))
theorem fP_names_38_ok {d : Nat} {v1 : Int32} {μ : xM} {rv : Option Value} {μf : xM} {out : Int32} (h : fP_names_38 v1 μ = some out) (hK : fP_names_K μ rv μf out) : xRun (d + 0) 82 38 [none, some (.int v1), none] [] μ rv μf := by
  unfold fP_names_38 at h
  refine xr_go 5 (pc' := 43) (lo' := [none, some (.int v1), none]) (st' := [.int ((v1 >>> ((xc 2) &&& 31)) <<< ((xc 2) &&& 31))]) (μ' := μ) rfl ?_
  have ho := Option.some.inj h
  subst ho
  obtain ⟨rfl, rfl⟩ := hK
  exact xr_ret (rv := some (.int ((v1 >>> ((xc 2) &&& 31)) <<< ((xc 2) &&& 31)))) rfl rfl (Or.inl rfl)
noncomputable def fP_names_L4  (v0 : Nat) (v1 : Int32) (v2 : Int32) (μ : xM) : Option ((Int32 × Int32) ⊕ (Int32)) := (ldF μ v0 5 0).bind fun x1 => if x1 ≤ v2 then ((fP_names_38 v1 μ).map (fun o => .inr o)) else ((ldFR μ v0 5 2).bind fun x2 => (ldA μ x2 v2).bind fun x3 => (ldFR μ v0 5 3).bind fun x4 => (ldA μ x4 v2).bind fun x5 => some (.inl ((v1 ||| (((xc 1) <<< (x3 &&& 31)) ||| ((xc 1) <<< (x5 &&& 31))), v2 + xc 1))))
theorem fP_names_L4_ok {d : Nat} {v0 : Nat} {v1 : Int32} {v2 : Int32} {μ : xM} {rv : Option Value} {μf : xM} {out : (Int32 × Int32) ⊕ (Int32)} (h : fP_names_L4 v0 v1 v2 μ = some out) (hK : fP_names_K4 v0 μ d rv μf out) : xRun (d + 0) 82 4 [some (.ref v0), some (.int v1), some (.int v2)] [] μ rv μf := by
  unfold fP_names_L4 at h
  refine xr_go 2 (pc' := 6) (lo' := [some (.ref v0), some (.int v1), some (.int v2)]) (st' := [.ref v0, .int v2]) (μ' := μ) rfl ?_
  obtain ⟨x1, hx1, h⟩ := Option.bind_eq_some_iff.mp h
  refine xr_opI (pc' := 9) (lo' := [some (.ref v0), some (.int v1), some (.int v2)]) (st' := [.int v2]) (o := ldF μ v0 5 0) rfl hx1 ?_
  refine xr_icmp (pct := 38) rfl rfl rfl (fun hc => ?_) (fun hc => ?_)
  · replace h := (if_pos (of_decide_eq_true hc)).symm.trans h
    refine xr_forget (lo := [none, some (.int v1), none]) ⟨rfl, trivial⟩ ?_
    obtain ⟨o, h2, rfl⟩ := Option.map_eq_some_iff.mp h
    exact fP_names_38_ok h2 hK
  · replace h := (if_neg (of_decide_eq_false hc)).symm.trans h
    refine xr_go 3 (pc' := 15) (lo' := [some (.ref v0), some (.int v1), some (.int v2)]) (st' := [.ref v0, .int (xc 1), .int v1]) (μ' := μ) rfl ?_
    obtain ⟨x2, hx2, h⟩ := Option.bind_eq_some_iff.mp h
    refine xr_opA (pc' := 18) (lo' := [some (.ref v0), some (.int v1), some (.int v2)]) (st' := [.int (xc 1), .int v1]) (o := ldFR μ v0 5 2) rfl hx2 ?_
    refine xr_go 1 (pc' := 19) (lo' := [some (.ref v0), some (.int v1), some (.int v2)]) (st' := [.int v2, .ref x2, .int (xc 1), .int v1]) (μ' := μ) rfl ?_
    obtain ⟨x3, hx3, h⟩ := Option.bind_eq_some_iff.mp h
    refine xr_opI (pc' := 20) (lo' := [some (.ref v0), some (.int v1), some (.int v2)]) (st' := [.int (xc 1), .int v1]) (o := ldA μ x2 v2) rfl hx3 ?_
    refine xr_go 3 (pc' := 23) (lo' := [some (.ref v0), some (.int v1), some (.int v2)]) (st' := [.ref v0, .int (xc 1), .int ((xc 1) <<< (x3 &&& 31)), .int v1]) (μ' := μ) rfl ?_
    obtain ⟨x4, hx4, h⟩ := Option.bind_eq_some_iff.mp h
    refine xr_opA (pc' := 26) (lo' := [some (.ref v0), some (.int v1), some (.int v2)]) (st' := [.int (xc 1), .int ((xc 1) <<< (x3 &&& 31)), .int v1]) (o := ldFR μ v0 5 3) rfl hx4 ?_
    refine xr_go 1 (pc' := 27) (lo' := [some (.ref v0), some (.int v1), some (.int v2)]) (st' := [.int v2, .ref x4, .int (xc 1), .int ((xc 1) <<< (x3 &&& 31)), .int v1]) (μ' := μ) rfl ?_
    obtain ⟨x5, hx5, h⟩ := Option.bind_eq_some_iff.mp h
    refine xr_opI (pc' := 28) (lo' := [some (.ref v0), some (.int v1), some (.int v2)]) (st' := [.int (xc 1), .int ((xc 1) <<< (x3 &&& 31)), .int v1]) (o := ldA μ x4 v2) rfl hx5 ?_
    refine xr_go 6 (pc' := 4) (lo' := [some (.ref v0), some (.int (v1 ||| (((xc 1) <<< (x3 &&& 31)) ||| ((xc 1) <<< (x5 &&& 31))))), some (.int (v2 + xc 1))]) (st' := []) (μ' := μ) rfl ?_
    refine xr_forget (lo := [some (.ref v0), some (.int (v1 ||| (((xc 1) <<< (x3 &&& 31)) ||| ((xc 1) <<< (x5 &&& 31))))), some (.int (v2 + xc 1))]) ⟨rfl, rfl, rfl, trivial⟩ ?_
    have ho := Option.some.inj h
    subst ho
    exact hK
theorem fP_names_L4_lp {d : Nat} {v0 : Nat} {v1 : Int32} {v2 : Int32} {μ : xM} {rv : Option Value} {μf : xM} {out : Int32} (h : xwh (fun s : Int32 × Int32 => fP_names_L4 v0 s.1 s.2 μ) (v1, v2) = some out) (hK : fP_names_K μ rv μf out) : xRun (d + 0) 82 4 [some (.ref v0), some (.int v1), some (.int v2)] [] μ rv μf :=
  xwh_ind (Rh := fun s : Int32 × Int32 => xRun (d + 0) 82 4 [some (.ref v0), some (.int s.1), some (.int s.2)] [] μ rv μf) (Co := fP_names_K μ rv μf) (fun s o hb hk => fP_names_L4_ok hb hk) h hK
noncomputable def fP_names_0  (v0 : Nat) (μ : xM) : Option (Int32) := xwh (fun s : Int32 × Int32 => fP_names_L4 v0 s.1 s.2 μ) (xc 0, xc 0)
theorem fP_names_0_ok {d : Nat} {v0 : Nat} {μ : xM} {rv : Option Value} {μf : xM} {out : Int32} (h : fP_names_0 v0 μ = some out) (hK : fP_names_K μ rv μf out) : xRun (d + 0) 82 0 [some (.ref v0), none, none] [] μ rv μf := by
  unfold fP_names_0 at h
  refine xr_go 4 (pc' := 4) (lo' := [some (.ref v0), some (.int (xc 0)), some (.int (xc 0))]) (st' := []) (μ' := μ) rfl ?_
  refine xr_forget (lo := [some (.ref v0), some (.int (xc 0)), some (.int (xc 0))]) ⟨rfl, rfl, rfl, trivial⟩ ?_
  exact fP_names_L4_lp h hK
noncomputable def fP_names (a0 : Nat) (μ : xM) : Option (Int32) := xgd μ a0 5 (fP_names_0 a0 μ)
theorem fP_names_kd {a0 : Nat} {μ : xM} {o : Int32} (h : fP_names a0 μ = some o) : (xK μ a0).1 = 10 + 5 := (xgd_some h).1
theorem fP_names_ok {d : Nat} {a0 : Nat} {μ : xM} {o : Int32} (h : fP_names a0 μ = some o) : xRun (d + 0) 82 0 [some (.ref a0), none, none] [] μ (some (.int o)) μ :=
  xr_forget (lo := [some (.ref a0), none, none]) (⟨rfl, trivial⟩) (fP_names_0_ok (d := d) (xgd_some h).2 (show fP_names_K μ _ _ o from ⟨rfl, rfl⟩))
-- KeptAnswers$Picture.addToHead(I)V 
def fP_addToHead_K (rv : Option Value) (μf : xM) : (xM) → Prop := fun o => rv = none ∧ μf = o
noncomputable def fP_addToHead_0  (v0 : Nat) (v1 : Int32) (μ : xM) : Option (xM) := (ldF μ v0 5 4).bind fun x1 => if (xc 3) ≤ x1 then (some μ) else ((ldFR μ v0 5 5).bind fun x2 => (ldF μ v0 5 4).bind fun x3 => (stA μ x2 x3 v1).bind fun μ4 => (ldF μ4 v0 5 4).bind fun x5 => (stF μ4 v0 5 4 (x5 + (xc 1))).bind fun μ6 => some μ6)
theorem fP_addToHead_0_ok {d : Nat} {v0 : Nat} {v1 : Int32} {μ : xM} {rv : Option Value} {μf : xM} {out : xM} (h : fP_addToHead_0 v0 v1 μ = some out) (hK : fP_addToHead_K rv μf out) : xRun (d + 0) 79 0 [some (.ref v0), some (.int v1)] [] μ rv μf := by
  unfold fP_addToHead_0 at h
  refine xr_go 1 (pc' := 1) (lo' := [some (.ref v0), some (.int v1)]) (st' := [.ref v0]) (μ' := μ) rfl ?_
  obtain ⟨x1, hx1, h⟩ := Option.bind_eq_some_iff.mp h
  refine xr_opI (pc' := 4) (lo' := [some (.ref v0), some (.int v1)]) (st' := []) (o := ldF μ v0 5 4) rfl hx1 ?_
  refine xr_go 1 (pc' := 5) (lo' := [some (.ref v0), some (.int v1)]) (st' := [.int (xc 3), .int x1]) (μ' := μ) rfl ?_
  refine xr_icmp (pct := 28) rfl rfl rfl (fun hc => ?_) (fun hc => ?_)
  · replace h := (if_pos (of_decide_eq_true hc)).symm.trans h
    have ho := Option.some.inj h
    subst ho
    obtain ⟨rfl, rfl⟩ := hK
    exact xr_ret (rv := none) rfl rfl (rfl)
  · replace h := (if_neg (of_decide_eq_false hc)).symm.trans h
    refine xr_go 1 (pc' := 9) (lo' := [some (.ref v0), some (.int v1)]) (st' := [.ref v0]) (μ' := μ) rfl ?_
    obtain ⟨x2, hx2, h⟩ := Option.bind_eq_some_iff.mp h
    refine xr_opA (pc' := 12) (lo' := [some (.ref v0), some (.int v1)]) (st' := []) (o := ldFR μ v0 5 5) rfl hx2 ?_
    refine xr_go 1 (pc' := 13) (lo' := [some (.ref v0), some (.int v1)]) (st' := [.ref v0, .ref x2]) (μ' := μ) rfl ?_
    obtain ⟨x3, hx3, h⟩ := Option.bind_eq_some_iff.mp h
    refine xr_opI (pc' := 16) (lo' := [some (.ref v0), some (.int v1)]) (st' := [.ref x2]) (o := ldF μ v0 5 4) rfl hx3 ?_
    refine xr_go 1 (pc' := 17) (lo' := [some (.ref v0), some (.int v1)]) (st' := [.int v1, .int x3, .ref x2]) (μ' := μ) rfl ?_
    obtain ⟨μ4, hμ4, h⟩ := Option.bind_eq_some_iff.mp h
    refine xr_opM (pc' := 18) (lo' := [some (.ref v0), some (.int v1)]) (st' := []) (o := stA μ x2 x3 v1) rfl hμ4 ?_
    refine xr_go 2 (pc' := 20) (lo' := [some (.ref v0), some (.int v1)]) (st' := [.ref v0, .ref v0]) (μ' := μ4) rfl ?_
    obtain ⟨x5, hx5, h⟩ := Option.bind_eq_some_iff.mp h
    refine xr_opI (pc' := 23) (lo' := [some (.ref v0), some (.int v1)]) (st' := [.ref v0]) (o := ldF μ4 v0 5 4) rfl hx5 ?_
    refine xr_go 2 (pc' := 25) (lo' := [some (.ref v0), some (.int v1)]) (st' := [.int (x5 + (xc 1)), .ref v0]) (μ' := μ4) rfl ?_
    obtain ⟨μ6, hμ6, h⟩ := Option.bind_eq_some_iff.mp h
    refine xr_opM (pc' := 28) (lo' := [some (.ref v0), some (.int v1)]) (st' := []) (o := stF μ4 v0 5 4 (x5 + (xc 1))) rfl hμ6 ?_
    have ho := Option.some.inj h
    subst ho
    obtain ⟨rfl, rfl⟩ := hK
    exact xr_ret (rv := none) rfl rfl (rfl)
noncomputable def fP_addToHead (a0 : Nat) (a1 : Int32) (μ : xM) : Option (xM) := xgd μ a0 5 (fP_addToHead_0 a0 a1 μ)
theorem fP_addToHead_kd {a0 : Nat} {a1 : Int32} {μ : xM} {o : xM} (h : fP_addToHead a0 a1 μ = some o) : (xK μ a0).1 = 10 + 5 := (xgd_some h).1
theorem fP_addToHead_ok {d : Nat} {a0 : Nat} {a1 : Int32} {μ : xM} {o : xM} (h : fP_addToHead a0 a1 μ = some o) : xRun (d + 0) 79 0 [some (.ref a0), some (.int a1)] [] μ none o :=
  xr_forget (lo := [some (.ref a0), some (.int a1)]) (⟨rfl, rfl, trivial⟩) (fP_addToHead_0_ok (d := d) (xgd_some h).2 (show fP_addToHead_K _ _ o from ⟨rfl, rfl⟩))
-- KeptAnswers$Text.parseHead(LKeptAnswers$Picture;I)I 
def fT_parseHead_K (rv : Option Value) (μf : xM) : (Int32 × xM) → Prop := fun o => rv = some (.int o.1) ∧ μf = o.2
def fT_parseHead_K2 (v0 : Nat) (v1 : Nat) (v2 : Int32) (d : Nat) (rv : Option Value) (μf : xM) : ((Int32 × xM) ⊕ (Int32 × xM)) → Prop := Sum.elim (fun s : Int32 × xM => xRun (d + 1) 120 2 [some (.ref v0), some (.ref v1), some (.int v2), some (.int s.1), none, none] [] s.2 rv μf) (fT_parseHead_K rv μf)
noncomputable def fT_parseHead_68  (v0 : Nat) (v2 : Int32) (μ : xM) : Option (Int32 × xM) := (ldF μ v0 7 1).bind fun x1 => if x1 = v2 then (some ((v2, μ))) else (some ((xc (-1), μ)))
theorem fT_parseHead_68_ok {d : Nat} {v0 : Nat} {v2 : Int32} {μ : xM} {rv : Option Value} {μf : xM} {out : Int32 × xM} (h : fT_parseHead_68 v0 v2 μ = some out) (hK : fT_parseHead_K rv μf out) : xRun (d + 1) 120 68 [some (.ref v0), none, some (.int v2), none, none, none] [] μ rv μf := by
  unfold fT_parseHead_68 at h
  refine xr_go 1 (pc' := 69) (lo' := [some (.ref v0), none, some (.int v2), none, none, none]) (st' := [.ref v0]) (μ' := μ) rfl ?_
  obtain ⟨x1, hx1, h⟩ := Option.bind_eq_some_iff.mp h
  refine xr_opI (pc' := 72) (lo' := [some (.ref v0), none, some (.int v2), none, none, none]) (st' := []) (o := ldF μ v0 7 1) rfl hx1 ?_
  refine xr_go 1 (pc' := 73) (lo' := [some (.ref v0), none, some (.int v2), none, none, none]) (st' := [.int v2, .int x1]) (μ' := μ) rfl ?_
  refine xr_icmp (pct := 80) rfl rfl rfl (fun hc => ?_) (fun hc => ?_)
  · replace h := (if_neg (of_decide_eq_true hc)).symm.trans h
    refine xr_go 1 (pc' := 81) (lo' := [some (.ref v0), none, some (.int v2), none, none, none]) (st' := [.int (xc (-1))]) (μ' := μ) rfl ?_
    have ho := Option.some.inj h
    subst ho
    obtain ⟨rfl, rfl⟩ := hK
    exact xr_ret (rv := some (.int (xc (-1)))) rfl rfl (Or.inl rfl)
  · replace h := (if_pos (Decidable.of_not_not (of_decide_eq_false hc))).symm.trans h
    refine xr_go 2 (pc' := 81) (lo' := [some (.ref v0), none, some (.int v2), none, none, none]) (st' := [.int v2]) (μ' := μ) rfl ?_
    have ho := Option.some.inj h
    subst ho
    obtain ⟨rfl, rfl⟩ := hK
    exact xr_ret (rv := some (.int v2)) rfl rfl (Or.inl rfl)
noncomputable def fT_parseHead_54  (v3 : Int32) (μ : xM) : Option (Int32 × xM) := some ((v3, μ))
theorem fT_parseHead_54_ok {d : Nat} {v3 : Int32} {μ : xM} {rv : Option Value} {μf : xM} {out : Int32 × xM} (h : fT_parseHead_54 v3 μ = some out) (hK : fT_parseHead_K rv μf out) : xRun (d + 1) 120 54 [none, none, none, some (.int v3), none, none] [] μ rv μf := by
  unfold fT_parseHead_54 at h
  refine xr_go 1 (pc' := 55) (lo' := [none, none, none, some (.int v3), none, none]) (st' := [.int v3]) (μ' := μ) rfl ?_
  have ho := Option.some.inj h
  subst ho
  obtain ⟨rfl, rfl⟩ := hK
  exact xr_ret (rv := some (.int v3)) rfl rfl (Or.inl rfl)
noncomputable def fT_parseHead_40  (v0 : Nat) (v1 : Nat) (v2 : Int32) (v3 : Int32) (v4 : Int32) (s0 : Int32) (μ : xM) : Option ((Int32 × xM) ⊕ (Int32 × xM)) := if (xc 3) ≤ (v3 - v2) then ((fT_parseHead_54 v3 μ).map (fun o => .inr o)) else (if s0 = 0 then ((fT_parseHead_54 v3 μ).map (fun o => .inr o)) else ((fP_addToHead v1 v4 μ).bind fun r2 => some (.inl ((v3 + xc 1, r2)))))
theorem fT_parseHead_40_ok {d : Nat} {v0 : Nat} {v1 : Nat} {v2 : Int32} {v3 : Int32} {v4 : Int32} {s0 : Int32} {μ : xM} {rv : Option Value} {μf : xM} {out : (Int32 × xM) ⊕ (Int32 × xM)} (h : fT_parseHead_40 v0 v1 v2 v3 v4 s0 μ = some out) (hK : fT_parseHead_K2 v0 v1 v2 d rv μf out) : xRun (d + 1) 120 40 [some (.ref v0), some (.ref v1), some (.int v2), some (.int v3), some (.int v4), none] [.int s0] μ rv μf := by
  unfold fT_parseHead_40 at h
  refine xr_go 5 (pc' := 46) (lo' := [some (.ref v0), some (.ref v1), some (.int v2), some (.int v3), some (.int v4), some (.int s0)]) (st' := [.int (xc 3), .int (v3 - v2)]) (μ' := μ) rfl ?_
  refine xr_icmp (pct := 54) rfl rfl rfl (fun hc => ?_) (fun hc => ?_)
  · replace h := (if_pos (of_decide_eq_true hc)).symm.trans h
    refine xr_forget (lo := [none, none, none, some (.int v3), none, none]) ⟨rfl, trivial⟩ ?_
    obtain ⟨o, h2, rfl⟩ := Option.map_eq_some_iff.mp h
    exact fT_parseHead_54_ok h2 hK
  · replace h := (if_neg (of_decide_eq_false hc)).symm.trans h
    refine xr_go 1 (pc' := 51) (lo' := [some (.ref v0), some (.ref v1), some (.int v2), some (.int v3), some (.int v4), some (.int s0)]) (st' := [.int s0]) (μ' := μ) rfl ?_
    refine xr_ifc (pct := 56) rfl rfl rfl (fun hc => ?_) (fun hc => ?_)
    · replace h := (if_neg (of_decide_eq_true hc)).symm.trans h
      refine xr_go 2 (pc' := 59) (lo' := [some (.ref v0), some (.ref v1), some (.int v2), some (.int v3), some (.int v4), some (.int s0)]) (st' := [.int v4, .ref v1]) (μ' := μ) rfl ?_
      obtain ⟨r2, hr2, h⟩ := Option.bind_eq_some_iff.mp h
      refine xr_callV (j := 79) (d' := (d + 0)) (rv1 := none) (μ1 := r2) (rest := []) (As := [.int v4]) rfl rfl rfl rfl (Nat.le_of_ble_eq_true rfl) (fP_addToHead_kd hr2) rfl (by exact (fP_addToHead_ok (d := d + (0)) hr2)) ?_
      refine xr_go 2 (pc' := 2) (lo' := [some (.ref v0), some (.ref v1), some (.int v2), some (.int (v3 + xc 1)), some (.int v4), some (.int s0)]) (st' := []) (μ' := r2) rfl ?_
      refine xr_forget (lo := [some (.ref v0), some (.ref v1), some (.int v2), some (.int (v3 + xc 1)), none, none]) ⟨rfl, rfl, rfl, rfl, trivial⟩ ?_
      have ho := Option.some.inj h
      subst ho
      exact hK
    · replace h := (if_pos (Decidable.of_not_not (of_decide_eq_false hc))).symm.trans h
      refine xr_forget (lo := [none, none, none, some (.int v3), none, none]) ⟨rfl, trivial⟩ ?_
      obtain ⟨o, h2, rfl⟩ := Option.map_eq_some_iff.mp h
      exact fT_parseHead_54_ok h2 hK
noncomputable def fT_parseHead_39  (v0 : Nat) (v1 : Nat) (v2 : Int32) (v3 : Int32) (v4 : Int32) (μ : xM) : Option ((Int32 × xM) ⊕ (Int32 × xM)) := fT_parseHead_40 v0 v1 v2 v3 v4 (xc 0) μ
theorem fT_parseHead_39_ok {d : Nat} {v0 : Nat} {v1 : Nat} {v2 : Int32} {v3 : Int32} {v4 : Int32} {μ : xM} {rv : Option Value} {μf : xM} {out : (Int32 × xM) ⊕ (Int32 × xM)} (h : fT_parseHead_39 v0 v1 v2 v3 v4 μ = some out) (hK : fT_parseHead_K2 v0 v1 v2 d rv μf out) : xRun (d + 1) 120 39 [some (.ref v0), some (.ref v1), some (.int v2), some (.int v3), some (.int v4), none] [] μ rv μf := by
  unfold fT_parseHead_39 at h
  refine xr_go 1 (pc' := 40) (lo' := [some (.ref v0), some (.ref v1), some (.int v2), some (.int v3), some (.int v4), none]) (st' := [.int (xc 0)]) (μ' := μ) rfl ?_
  refine xr_forget (lo := [some (.ref v0), some (.ref v1), some (.int v2), some (.int v3), some (.int v4), none]) ⟨rfl, rfl, rfl, rfl, rfl, trivial⟩ ?_
  exact fT_parseHead_40_ok h hK
noncomputable def fT_parseHead_L2  (v0 : Nat) (v1 : Nat) (v2 : Int32) (v3 : Int32) (μ : xM) : Option ((Int32 × xM) ⊕ (Int32 × xM)) := (ldF μ v0 7 1).bind fun x3 => if x3 ≤ v3 then ((fT_parseHead_68 v0 v2 μ).map (fun o => .inr o)) else ((fT_termAt v0 v3 μ).bind fun r4 => if r4 < (xc 2) then (fT_parseHead_39 v0 v1 v2 v3 r4 μ) else ((fP_names v1 μ).bind fun r5 => if ((r5 >>> (r4 &&& 31)) &&& (xc 1)) = 0 then (fT_parseHead_39 v0 v1 v2 v3 r4 μ) else (fT_parseHead_40 v0 v1 v2 v3 r4 (xc 1) μ)))
theorem fT_parseHead_L2_ok {d : Nat} {v0 : Nat} {v1 : Nat} {v2 : Int32} {v3 : Int32} {μ : xM} {rv : Option Value} {μf : xM} {out : (Int32 × xM) ⊕ (Int32 × xM)} (h : fT_parseHead_L2 v0 v1 v2 v3 μ = some out) (hK : fT_parseHead_K2 v0 v1 v2 d rv μf out) : xRun (d + 1) 120 2 [some (.ref v0), some (.ref v1), some (.int v2), some (.int v3), none, none] [] μ rv μf := by
  unfold fT_parseHead_L2 at h
  refine xr_go 2 (pc' := 4) (lo' := [some (.ref v0), some (.ref v1), some (.int v2), some (.int v3), none, none]) (st' := [.ref v0, .int v3]) (μ' := μ) rfl ?_
  obtain ⟨x3, hx3, h⟩ := Option.bind_eq_some_iff.mp h
  refine xr_opI (pc' := 7) (lo' := [some (.ref v0), some (.ref v1), some (.int v2), some (.int v3), none, none]) (st' := [.int v3]) (o := ldF μ v0 7 1) rfl hx3 ?_
  refine xr_icmp (pct := 68) rfl rfl rfl (fun hc => ?_) (fun hc => ?_)
  · replace h := (if_pos (of_decide_eq_true hc)).symm.trans h
    refine xr_forget (lo := [some (.ref v0), none, some (.int v2), none, none, none]) ⟨rfl, rfl, trivial⟩ ?_
    obtain ⟨o, h2, rfl⟩ := Option.map_eq_some_iff.mp h
    exact fT_parseHead_68_ok h2 hK
  · replace h := (if_neg (of_decide_eq_false hc)).symm.trans h
    refine xr_go 2 (pc' := 12) (lo' := [some (.ref v0), some (.ref v1), some (.int v2), some (.int v3), none, none]) (st' := [.int v3, .ref v0]) (μ' := μ) rfl ?_
    obtain ⟨r4, hr4, h⟩ := Option.bind_eq_some_iff.mp h
    refine xr_callV (j := 121) (d' := (d + 0)) (rv1 := some (.int r4)) (μ1 := μ) (rest := []) (As := [.int v3]) rfl rfl rfl rfl (Nat.le_of_ble_eq_true rfl) (fT_termAt_kd hr4) rfl (by exact (fT_termAt_ok (d := d + (0)) hr4)) ?_
    refine xr_go 3 (pc' := 20) (lo' := [some (.ref v0), some (.ref v1), some (.int v2), some (.int v3), some (.int r4), none]) (st' := [.int (xc 2), .int r4]) (μ' := μ) rfl ?_
    refine xr_icmp (pct := 39) rfl rfl rfl (fun hc => ?_) (fun hc => ?_)
    · replace h := (if_pos (of_decide_eq_true hc)).symm.trans h
      refine xr_forget (lo := [some (.ref v0), some (.ref v1), some (.int v2), some (.int v3), some (.int r4), none]) ⟨rfl, rfl, rfl, rfl, rfl, trivial⟩ ?_
      exact fT_parseHead_39_ok h hK
    · replace h := (if_neg (of_decide_eq_false hc)).symm.trans h
      refine xr_go 1 (pc' := 24) (lo' := [some (.ref v0), some (.ref v1), some (.int v2), some (.int v3), some (.int r4), none]) (st' := [.ref v1]) (μ' := μ) rfl ?_
      obtain ⟨r5, hr5, h⟩ := Option.bind_eq_some_iff.mp h
      refine xr_callV (j := 82) (d' := (d + 0)) (rv1 := some (.int r5)) (μ1 := μ) (rest := []) (As := []) rfl rfl rfl rfl (Nat.le_of_ble_eq_true rfl) (fP_names_kd hr5) rfl (by exact (fP_names_ok (d := d + (0)) hr5)) ?_
      refine xr_go 4 (pc' := 32) (lo' := [some (.ref v0), some (.ref v1), some (.int v2), some (.int v3), some (.int r4), none]) (st' := [.int ((r5 >>> (r4 &&& 31)) &&& (xc 1))]) (μ' := μ) rfl ?_
      refine xr_ifc (pct := 39) rfl rfl rfl (fun hc => ?_) (fun hc => ?_)
      · replace h := (if_pos (of_decide_eq_true hc)).symm.trans h
        refine xr_forget (lo := [some (.ref v0), some (.ref v1), some (.int v2), some (.int v3), some (.int r4), none]) ⟨rfl, rfl, rfl, rfl, rfl, trivial⟩ ?_
        exact fT_parseHead_39_ok h hK
      · replace h := (if_neg (of_decide_eq_false hc)).symm.trans h
        refine xr_go 2 (pc' := 40) (lo' := [some (.ref v0), some (.ref v1), some (.int v2), some (.int v3), some (.int r4), none]) (st' := [.int (xc 1)]) (μ' := μ) rfl ?_
        refine xr_forget (lo := [some (.ref v0), some (.ref v1), some (.int v2), some (.int v3), some (.int r4), none]) ⟨rfl, rfl, rfl, rfl, rfl, trivial⟩ ?_
        exact fT_parseHead_40_ok h hK
theorem fT_parseHead_L2_lp {d : Nat} {v0 : Nat} {v1 : Nat} {v2 : Int32} {v3 : Int32} {μ : xM} {rv : Option Value} {μf : xM} {out : Int32 × xM} (h : xwh (fun s : Int32 × xM => fT_parseHead_L2 v0 v1 v2 s.1 s.2) (v3, μ) = some out) (hK : fT_parseHead_K rv μf out) : xRun (d + 1) 120 2 [some (.ref v0), some (.ref v1), some (.int v2), some (.int v3), none, none] [] μ rv μf :=
  xwh_ind (Rh := fun s : Int32 × xM => xRun (d + 1) 120 2 [some (.ref v0), some (.ref v1), some (.int v2), some (.int s.1), none, none] [] s.2 rv μf) (Co := fT_parseHead_K rv μf) (fun s o hb hk => fT_parseHead_L2_ok hb hk) h hK
noncomputable def fT_parseHead_0  (v0 : Nat) (v1 : Nat) (v2 : Int32) (μ : xM) : Option (Int32 × xM) := xwh (fun s : Int32 × xM => fT_parseHead_L2 v0 v1 v2 s.1 s.2) (v2, μ)
theorem fT_parseHead_0_ok {d : Nat} {v0 : Nat} {v1 : Nat} {v2 : Int32} {μ : xM} {rv : Option Value} {μf : xM} {out : Int32 × xM} (h : fT_parseHead_0 v0 v1 v2 μ = some out) (hK : fT_parseHead_K rv μf out) : xRun (d + 1) 120 0 [some (.ref v0), some (.ref v1), some (.int v2), none, none, none] [] μ rv μf := by
  unfold fT_parseHead_0 at h
  refine xr_go 2 (pc' := 2) (lo' := [some (.ref v0), some (.ref v1), some (.int v2), some (.int v2), none, none]) (st' := []) (μ' := μ) rfl ?_
  refine xr_forget (lo := [some (.ref v0), some (.ref v1), some (.int v2), some (.int v2), none, none]) ⟨rfl, rfl, rfl, rfl, trivial⟩ ?_
  exact fT_parseHead_L2_lp h hK
noncomputable def fT_parseHead (a0 : Nat) (a1 : Nat) (a2 : Int32) (μ : xM) : Option (Int32 × xM) := xgd μ a0 7 (fT_parseHead_0 a0 a1 a2 μ)
theorem fT_parseHead_kd {a0 : Nat} {a1 : Nat} {a2 : Int32} {μ : xM} {o : Int32 × xM} (h : fT_parseHead a0 a1 a2 μ = some o) : (xK μ a0).1 = 10 + 7 := (xgd_some h).1
theorem fT_parseHead_ok {d : Nat} {a0 : Nat} {a1 : Nat} {a2 : Int32} {μ : xM} {o : Int32 × xM} (h : fT_parseHead a0 a1 a2 μ = some o) : xRun (d + 1) 120 0 [some (.ref a0), some (.ref a1), some (.int a2), none, none, none] [] μ (some (.int o.1)) o.2 :=
  xr_forget (lo := [some (.ref a0), some (.ref a1), some (.int a2), none, none, none]) (⟨rfl, rfl, rfl, trivial⟩) (fT_parseHead_0_ok (d := d) (xgd_some h).2 (show fT_parseHead_K _ _ o from ⟨rfl, rfl⟩))
-- KeptAnswers$Text.parseInto(LKeptAnswers$Picture;)I 
def fT_parseInto_K (rv : Option Value) (μf : xM) : (Int32 × xM) → Prop := fun o => rv = some (.int o.1) ∧ μf = o.2
def fT_parseInto_K8 (v0 : Nat) (v1 : Nat) (d : Nat) (rv : Option Value) (μf : xM) : ((Int32 × Int32 × xM) ⊕ (Int32 × xM)) → Prop := Sum.elim (fun s : Int32 × Int32 × xM => xRun (d + 2) 118 8 [some (.ref v0), some (.ref v1), some (.int s.1), some (.int s.2.1), none] [] s.2.2 rv μf) (fT_parseInto_K rv μf)
noncomputable def fT_parseInto_84  (v2 : Int32) (μ : xM) : Option (Int32 × xM) := some ((v2, μ))
theorem fT_parseInto_84_ok {d : Nat} {v2 : Int32} {μ : xM} {rv : Option Value} {μf : xM} {out : Int32 × xM} (h : fT_parseInto_84 v2 μ = some out) (hK : fT_parseInto_K rv μf out) : xRun (d + 2) 118 84 [none, none, some (.int v2), none, none] [] μ rv μf := by
  unfold fT_parseInto_84 at h
  refine xr_go 1 (pc' := 85) (lo' := [none, none, some (.int v2), none, none]) (st' := [.int v2]) (μ' := μ) rfl ?_
  have ho := Option.some.inj h
  subst ho
  obtain ⟨rfl, rfl⟩ := hK
  exact xr_ret (rv := some (.int v2)) rfl rfl (Or.inl rfl)
noncomputable def fT_parseInto_73  (v2 : Int32) (μ : xM) : Option (Int32 × xM) := some ((v2, μ))
theorem fT_parseInto_73_ok {d : Nat} {v2 : Int32} {μ : xM} {rv : Option Value} {μf : xM} {out : Int32 × xM} (h : fT_parseInto_73 v2 μ = some out) (hK : fT_parseInto_K rv μf out) : xRun (d + 2) 118 73 [none, none, some (.int v2), none, none] [] μ rv μf := by
  unfold fT_parseInto_73 at h
  refine xr_go 1 (pc' := 74) (lo' := [none, none, some (.int v2), none, none]) (st' := [.int v2]) (μ' := μ) rfl ?_
  have ho := Option.some.inj h
  subst ho
  obtain ⟨rfl, rfl⟩ := hK
  exact xr_ret (rv := some (.int v2)) rfl rfl (Or.inl rfl)
noncomputable def fT_parseInto_53  (v0 : Nat) (v1 : Nat) (v2 : Int32) (μ : xM) : Option (Int32 × xM) := (fT_parseHead v0 v1 (v2 + (xc 1)) μ).bind fun r1 => some ((r1.1, r1.2))
theorem fT_parseInto_53_ok {d : Nat} {v0 : Nat} {v1 : Nat} {v2 : Int32} {μ : xM} {rv : Option Value} {μf : xM} {out : Int32 × xM} (h : fT_parseInto_53 v0 v1 v2 μ = some out) (hK : fT_parseInto_K rv μf out) : xRun (d + 2) 118 53 [some (.ref v0), some (.ref v1), some (.int v2), none, none] [] μ rv μf := by
  unfold fT_parseInto_53 at h
  refine xr_go 5 (pc' := 58) (lo' := [some (.ref v0), some (.ref v1), some (.int v2), none, none]) (st' := [.int (v2 + (xc 1)), .ref v1, .ref v0]) (μ' := μ) rfl ?_
  obtain ⟨r1, hr1, h⟩ := Option.bind_eq_some_iff.mp h
  refine xr_callV (j := 120) (d' := (d + 1)) (rv1 := some (.int r1.1)) (μ1 := r1.2) (rest := []) (As := [.ref v1, .int (v2 + (xc 1))]) rfl rfl rfl rfl (Nat.le_of_ble_eq_true rfl) (fT_parseHead_kd hr1) rfl (by exact (fT_parseHead_ok (d := d + (0)) hr1)) ?_
  have ho := Option.some.inj h
  subst ho
  obtain ⟨rfl, rfl⟩ := hK
  exact xr_ret (rv := some (.int r1.1)) rfl rfl (Or.inl rfl)
noncomputable def fT_parseInto_40  (μ : xM) : Option (Int32 × xM) := some ((xc (-1), μ))
theorem fT_parseInto_40_ok {d : Nat} {μ : xM} {rv : Option Value} {μf : xM} {out : Int32 × xM} (h : fT_parseInto_40 μ = some out) (hK : fT_parseInto_K rv μf out) : xRun (d + 2) 118 40 [none, none, none, none, none] [] μ rv μf := by
  unfold fT_parseInto_40 at h
  refine xr_go 1 (pc' := 41) (lo' := [none, none, none, none, none]) (st' := [.int (xc (-1))]) (μ' := μ) rfl ?_
  have ho := Option.some.inj h
  subst ho
  obtain ⟨rfl, rfl⟩ := hK
  exact xr_ret (rv := some (.int (xc (-1)))) rfl rfl (Or.inl rfl)
noncomputable def fT_parseInto_26  (v4 : Int32) (μ : xM) : Option (Int32 × xM) := some ((v4, μ))
theorem fT_parseInto_26_ok {d : Nat} {v4 : Int32} {μ : xM} {rv : Option Value} {μf : xM} {out : Int32 × xM} (h : fT_parseInto_26 v4 μ = some out) (hK : fT_parseInto_K rv μf out) : xRun (d + 2) 118 26 [none, none, none, none, some (.int v4)] [] μ rv μf := by
  unfold fT_parseInto_26 at h
  refine xr_go 1 (pc' := 28) (lo' := [none, none, none, none, some (.int v4)]) (st' := [.int v4]) (μ' := μ) rfl ?_
  have ho := Option.some.inj h
  subst ho
  obtain ⟨rfl, rfl⟩ := hK
  exact xr_ret (rv := some (.int v4)) rfl rfl (Or.inl rfl)
noncomputable def fT_parseInto_L8  (v0 : Nat) (v1 : Nat) (v2 : Int32) (v3 : Int32) (μ : xM) : Option ((Int32 × Int32 × xM) ⊕ (Int32 × xM)) := if (xc 4) ≤ v3 then ((fT_parseInto_84 v2 μ).map (fun o => .inr o)) else ((fT_parseRow v0 v1 v2 μ).bind fun r2 => if r2.1 < 0 then ((ldF r2.2 v0 7 1).bind fun x3 => if (v2 + xc 3) < x3 then ((ldFR r2.2 v0 7 0).bind fun x4 => (ldA r2.2 x4 (v2 + xc 3)).bind fun x5 => if x5 = (xc 58) then ((fT_parseInto_53 v0 v1 (v2 + xc 3) r2.2).map (fun o => .inr o)) else ((ldFR r2.2 v0 7 0).bind fun x6 => (ldA r2.2 x6 (v2 + xc 3)).bind fun x7 => if x7 = (xc 44) then (some (.inl (((v2 + xc 3) + xc 1, v3 + xc 1, r2.2)))) else ((fT_parseInto_73 (v2 + xc 3) r2.2).map (fun o => .inr o)))) else ((fT_parseInto_40 r2.2).map (fun o => .inr o))) else ((fT_parseInto_26 r2.1 r2.2).map (fun o => .inr o)))
theorem fT_parseInto_L8_ok {d : Nat} {v0 : Nat} {v1 : Nat} {v2 : Int32} {v3 : Int32} {μ : xM} {rv : Option Value} {μf : xM} {out : (Int32 × Int32 × xM) ⊕ (Int32 × xM)} (h : fT_parseInto_L8 v0 v1 v2 v3 μ = some out) (hK : fT_parseInto_K8 v0 v1 d rv μf out) : xRun (d + 2) 118 8 [some (.ref v0), some (.ref v1), some (.int v2), some (.int v3), none] [] μ rv μf := by
  unfold fT_parseInto_L8 at h
  refine xr_go 2 (pc' := 10) (lo' := [some (.ref v0), some (.ref v1), some (.int v2), some (.int v3), none]) (st' := [.int (xc 4), .int v3]) (μ' := μ) rfl ?_
  refine xr_icmp (pct := 84) rfl rfl rfl (fun hc => ?_) (fun hc => ?_)
  · replace h := (if_pos (of_decide_eq_true hc)).symm.trans h
    refine xr_forget (lo := [none, none, some (.int v2), none, none]) ⟨rfl, trivial⟩ ?_
    obtain ⟨o, h2, rfl⟩ := Option.map_eq_some_iff.mp h
    exact fT_parseInto_84_ok h2 hK
  · replace h := (if_neg (of_decide_eq_false hc)).symm.trans h
    refine xr_go 3 (pc' := 16) (lo' := [some (.ref v0), some (.ref v1), some (.int v2), some (.int v3), none]) (st' := [.int v2, .ref v1, .ref v0]) (μ' := μ) rfl ?_
    obtain ⟨r2, hr2, h⟩ := Option.bind_eq_some_iff.mp h
    refine xr_callV (j := 119) (d' := (d + 1)) (rv1 := some (.int r2.1)) (μ1 := r2.2) (rest := []) (As := [.ref v1, .int v2]) rfl rfl rfl rfl (Nat.le_of_ble_eq_true rfl) (fT_parseRow_kd hr2) rfl (by exact (fT_parseRow_ok (d := d + (0)) hr2)) ?_
    refine xr_go 2 (pc' := 23) (lo' := [some (.ref v0), some (.ref v1), some (.int v2), some (.int v3), some (.int r2.1)]) (st' := [.int r2.1]) (μ' := r2.2) rfl ?_
    refine xr_ifc (pct := 29) rfl rfl rfl (fun hc => ?_) (fun hc => ?_)
    · replace h := (if_pos (of_decide_eq_true hc)).symm.trans h
      refine xr_go 3 (pc' := 34) (lo' := [some (.ref v0), some (.ref v1), some (.int (v2 + xc 3)), some (.int v3), some (.int r2.1)]) (st' := [.ref v0, .int (v2 + xc 3)]) (μ' := r2.2) rfl ?_
      obtain ⟨x3, hx3, h⟩ := Option.bind_eq_some_iff.mp h
      refine xr_opI (pc' := 37) (lo' := [some (.ref v0), some (.ref v1), some (.int (v2 + xc 3)), some (.int v3), some (.int r2.1)]) (st' := [.int (v2 + xc 3)]) (o := ldF r2.2 v0 7 1) rfl hx3 ?_
      refine xr_icmp (pct := 42) rfl rfl rfl (fun hc => ?_) (fun hc => ?_)
      · replace h := (if_pos (of_decide_eq_true hc)).symm.trans h
        refine xr_go 1 (pc' := 43) (lo' := [some (.ref v0), some (.ref v1), some (.int (v2 + xc 3)), some (.int v3), some (.int r2.1)]) (st' := [.ref v0]) (μ' := r2.2) rfl ?_
        obtain ⟨x4, hx4, h⟩ := Option.bind_eq_some_iff.mp h
        refine xr_opA (pc' := 46) (lo' := [some (.ref v0), some (.ref v1), some (.int (v2 + xc 3)), some (.int v3), some (.int r2.1)]) (st' := []) (o := ldFR r2.2 v0 7 0) rfl hx4 ?_
        refine xr_go 1 (pc' := 47) (lo' := [some (.ref v0), some (.ref v1), some (.int (v2 + xc 3)), some (.int v3), some (.int r2.1)]) (st' := [.int (v2 + xc 3), .ref x4]) (μ' := r2.2) rfl ?_
        obtain ⟨x5, hx5, h⟩ := Option.bind_eq_some_iff.mp h
        refine xr_opI (pc' := 48) (lo' := [some (.ref v0), some (.ref v1), some (.int (v2 + xc 3)), some (.int v3), some (.int r2.1)]) (st' := []) (o := ldA r2.2 x4 (v2 + xc 3)) rfl hx5 ?_
        refine xr_go 1 (pc' := 50) (lo' := [some (.ref v0), some (.ref v1), some (.int (v2 + xc 3)), some (.int v3), some (.int r2.1)]) (st' := [.int (xc 58), .int x5]) (μ' := r2.2) rfl ?_
        refine xr_icmp (pct := 62) rfl rfl rfl (fun hc => ?_) (fun hc => ?_)
        · replace h := (if_neg (of_decide_eq_true hc)).symm.trans h
          refine xr_go 1 (pc' := 63) (lo' := [some (.ref v0), some (.ref v1), some (.int (v2 + xc 3)), some (.int v3), some (.int r2.1)]) (st' := [.ref v0]) (μ' := r2.2) rfl ?_
          obtain ⟨x6, hx6, h⟩ := Option.bind_eq_some_iff.mp h
          refine xr_opA (pc' := 66) (lo' := [some (.ref v0), some (.ref v1), some (.int (v2 + xc 3)), some (.int v3), some (.int r2.1)]) (st' := []) (o := ldFR r2.2 v0 7 0) rfl hx6 ?_
          refine xr_go 1 (pc' := 67) (lo' := [some (.ref v0), some (.ref v1), some (.int (v2 + xc 3)), some (.int v3), some (.int r2.1)]) (st' := [.int (v2 + xc 3), .ref x6]) (μ' := r2.2) rfl ?_
          obtain ⟨x7, hx7, h⟩ := Option.bind_eq_some_iff.mp h
          refine xr_opI (pc' := 68) (lo' := [some (.ref v0), some (.ref v1), some (.int (v2 + xc 3)), some (.int v3), some (.int r2.1)]) (st' := []) (o := ldA r2.2 x6 (v2 + xc 3)) rfl hx7 ?_
          refine xr_go 1 (pc' := 70) (lo' := [some (.ref v0), some (.ref v1), some (.int (v2 + xc 3)), some (.int v3), some (.int r2.1)]) (st' := [.int (xc 44), .int x7]) (μ' := r2.2) rfl ?_
          refine xr_icmp (pct := 75) rfl rfl rfl (fun hc => ?_) (fun hc => ?_)
          · replace h := (if_pos (of_decide_eq_true hc)).symm.trans h
            refine xr_go 3 (pc' := 8) (lo' := [some (.ref v0), some (.ref v1), some (.int ((v2 + xc 3) + xc 1)), some (.int (v3 + xc 1)), some (.int r2.1)]) (st' := []) (μ' := r2.2) rfl ?_
            refine xr_forget (lo := [some (.ref v0), some (.ref v1), some (.int ((v2 + xc 3) + xc 1)), some (.int (v3 + xc 1)), none]) ⟨rfl, rfl, rfl, rfl, trivial⟩ ?_
            have ho := Option.some.inj h
            subst ho
            exact hK
          · replace h := (if_neg (of_decide_eq_false hc)).symm.trans h
            refine xr_forget (lo := [none, none, some (.int (v2 + xc 3)), none, none]) ⟨rfl, trivial⟩ ?_
            obtain ⟨o, h2, rfl⟩ := Option.map_eq_some_iff.mp h
            exact fT_parseInto_73_ok h2 hK
        · replace h := (if_pos (Decidable.of_not_not (of_decide_eq_false hc))).symm.trans h
          refine xr_forget (lo := [some (.ref v0), some (.ref v1), some (.int (v2 + xc 3)), none, none]) ⟨rfl, rfl, rfl, trivial⟩ ?_
          obtain ⟨o, h2, rfl⟩ := Option.map_eq_some_iff.mp h
          exact fT_parseInto_53_ok h2 hK
      · replace h := (if_neg (of_decide_eq_false hc)).symm.trans h
        refine xr_forget (lo := [none, none, none, none, none]) trivial ?_
        obtain ⟨o, h2, rfl⟩ := Option.map_eq_some_iff.mp h
        exact fT_parseInto_40_ok h2 hK
    · replace h := (if_neg (of_decide_eq_false hc)).symm.trans h
      refine xr_forget (lo := [none, none, none, none, some (.int r2.1)]) ⟨rfl, trivial⟩ ?_
      obtain ⟨o, h2, rfl⟩ := Option.map_eq_some_iff.mp h
      exact fT_parseInto_26_ok h2 hK
theorem fT_parseInto_L8_lp {d : Nat} {v0 : Nat} {v1 : Nat} {v2 : Int32} {v3 : Int32} {μ : xM} {rv : Option Value} {μf : xM} {out : Int32 × xM} (h : xwh (fun s : Int32 × Int32 × xM => fT_parseInto_L8 v0 v1 s.1 s.2.1 s.2.2) (v2, v3, μ) = some out) (hK : fT_parseInto_K rv μf out) : xRun (d + 2) 118 8 [some (.ref v0), some (.ref v1), some (.int v2), some (.int v3), none] [] μ rv μf :=
  xwh_ind (Rh := fun s : Int32 × Int32 × xM => xRun (d + 2) 118 8 [some (.ref v0), some (.ref v1), some (.int s.1), some (.int s.2.1), none] [] s.2.2 rv μf) (Co := fT_parseInto_K rv μf) (fun s o hb hk => fT_parseInto_L8_ok hb hk) h hK
noncomputable def fT_parseInto_0  (v0 : Nat) (v1 : Nat) (μ : xM) : Option (Int32 × xM) := (fP_clear v1 μ).bind fun r8 => xwh (fun s : Int32 × Int32 × xM => fT_parseInto_L8 v0 v1 s.1 s.2.1 s.2.2) (xc 0, xc 0, r8)
theorem fT_parseInto_0_ok {d : Nat} {v0 : Nat} {v1 : Nat} {μ : xM} {rv : Option Value} {μf : xM} {out : Int32 × xM} (h : fT_parseInto_0 v0 v1 μ = some out) (hK : fT_parseInto_K rv μf out) : xRun (d + 2) 118 0 [some (.ref v0), some (.ref v1), none, none, none] [] μ rv μf := by
  unfold fT_parseInto_0 at h
  refine xr_go 1 (pc' := 1) (lo' := [some (.ref v0), some (.ref v1), none, none, none]) (st' := [.ref v1]) (μ' := μ) rfl ?_
  obtain ⟨r8, hr8, h⟩ := Option.bind_eq_some_iff.mp h
  refine xr_callV (j := 77) (d' := (d + 1)) (rv1 := none) (μ1 := r8) (rest := []) (As := []) rfl rfl rfl rfl (Nat.le_of_ble_eq_true rfl) (fP_clear_kd hr8) rfl (by exact (fP_clear_ok (d := d + (1)) hr8)) ?_
  refine xr_go 4 (pc' := 8) (lo' := [some (.ref v0), some (.ref v1), some (.int (xc 0)), some (.int (xc 0)), none]) (st' := []) (μ' := r8) rfl ?_
  refine xr_forget (lo := [some (.ref v0), some (.ref v1), some (.int (xc 0)), some (.int (xc 0)), none]) ⟨rfl, rfl, rfl, rfl, trivial⟩ ?_
  exact fT_parseInto_L8_lp h hK
noncomputable def fT_parseInto (a0 : Nat) (a1 : Nat) (μ : xM) : Option (Int32 × xM) := xgd μ a0 7 (fT_parseInto_0 a0 a1 μ)
theorem fT_parseInto_kd {a0 : Nat} {a1 : Nat} {μ : xM} {o : Int32 × xM} (h : fT_parseInto a0 a1 μ = some o) : (xK μ a0).1 = 10 + 7 := (xgd_some h).1
theorem fT_parseInto_ok {d : Nat} {a0 : Nat} {a1 : Nat} {μ : xM} {o : Int32 × xM} (h : fT_parseInto a0 a1 μ = some o) : xRun (d + 2) 118 0 [some (.ref a0), some (.ref a1), none, none, none] [] μ (some (.int o.1)) o.2 :=
  xr_forget (lo := [some (.ref a0), some (.ref a1), none, none, none]) (⟨rfl, rfl, trivial⟩) (fT_parseInto_0_ok (d := d) (xgd_some h).2 (show fT_parseInto_K _ _ o from ⟨rfl, rfl⟩))
-- KeptAnswers.ask()I 
def fX_ask_K (rv : Option Value) (μf : xM) : (Int32 × xM) → Prop := fun o => rv = some (.int o.1) ∧ μf = o.2
noncomputable def fX_ask_0  (v0 : Nat) (μ : xM) : Option (Int32 × xM) := (ldFR μ v0 0 0).bind fun x1 => (ldF μ x1 3 2).bind fun x2 => if x2 < (xc 10) then ((ldFR μ v0 0 3).bind fun x3 => (ldFR μ v0 0 0).bind fun x4 => (ldFR μ x4 3 8).bind fun x5 => (ldFR μ v0 0 0).bind fun x6 => (ldF μ x6 3 2).bind fun x7 => (ldAR μ x5 x7).bind fun x8 => (fT_parseInto x3 x8 μ).bind fun r9 => (ldFR r9.2 v0 0 3).bind fun x10 => (stF r9.2 x10 7 1 (xc 0)).bind fun μ11 => if r9.1 < 0 then ((ldFR μ11 v0 0 0).bind fun x12 => (ldF μ11 x12 3 2).bind fun x13 => (stF μ11 x12 3 2 (x13 + (xc 1))).bind fun μ14 => (ldFR μ14 v0 0 0).bind fun x15 => (ldF μ14 x15 3 2).bind fun x16 => some ((x16 - (xc 1), μ14))) else (some (((xc (-20)) - r9.1, μ11)))) else ((fX_refuse v0 (xc (-6)) μ).bind fun r17 => some ((r17.1, r17.2)))
theorem fX_ask_0_ok {d : Nat} {v0 : Nat} {μ : xM} {rv : Option Value} {μf : xM} {out : Int32 × xM} (h : fX_ask_0 v0 μ = some out) (hK : fX_ask_K rv μf out) : xRun (d + 3) 9 0 [some (.ref v0), none] [] μ rv μf := by
  unfold fX_ask_0 at h
  refine xr_go 1 (pc' := 1) (lo' := [some (.ref v0), none]) (st' := [.ref v0]) (μ' := μ) rfl ?_
  obtain ⟨x1, hx1, h⟩ := Option.bind_eq_some_iff.mp h
  refine xr_opA (pc' := 4) (lo' := [some (.ref v0), none]) (st' := []) (o := ldFR μ v0 0 0) rfl hx1 ?_
  obtain ⟨x2, hx2, h⟩ := Option.bind_eq_some_iff.mp h
  refine xr_opI (pc' := 7) (lo' := [some (.ref v0), none]) (st' := []) (o := ldF μ x1 3 2) rfl hx2 ?_
  refine xr_go 1 (pc' := 9) (lo' := [some (.ref v0), none]) (st' := [.int (xc 10), .int x2]) (μ' := μ) rfl ?_
  refine xr_icmp (pct := 19) rfl rfl rfl (fun hc => ?_) (fun hc => ?_)
  · replace h := (if_pos (of_decide_eq_true hc)).symm.trans h
    refine xr_go 1 (pc' := 20) (lo' := [some (.ref v0), none]) (st' := [.ref v0]) (μ' := μ) rfl ?_
    obtain ⟨x3, hx3, h⟩ := Option.bind_eq_some_iff.mp h
    refine xr_opA (pc' := 23) (lo' := [some (.ref v0), none]) (st' := []) (o := ldFR μ v0 0 3) rfl hx3 ?_
    refine xr_go 1 (pc' := 24) (lo' := [some (.ref v0), none]) (st' := [.ref v0, .ref x3]) (μ' := μ) rfl ?_
    obtain ⟨x4, hx4, h⟩ := Option.bind_eq_some_iff.mp h
    refine xr_opA (pc' := 27) (lo' := [some (.ref v0), none]) (st' := [.ref x3]) (o := ldFR μ v0 0 0) rfl hx4 ?_
    obtain ⟨x5, hx5, h⟩ := Option.bind_eq_some_iff.mp h
    refine xr_opA (pc' := 30) (lo' := [some (.ref v0), none]) (st' := [.ref x3]) (o := ldFR μ x4 3 8) rfl hx5 ?_
    refine xr_go 1 (pc' := 31) (lo' := [some (.ref v0), none]) (st' := [.ref v0, .ref x5, .ref x3]) (μ' := μ) rfl ?_
    obtain ⟨x6, hx6, h⟩ := Option.bind_eq_some_iff.mp h
    refine xr_opA (pc' := 34) (lo' := [some (.ref v0), none]) (st' := [.ref x5, .ref x3]) (o := ldFR μ v0 0 0) rfl hx6 ?_
    obtain ⟨x7, hx7, h⟩ := Option.bind_eq_some_iff.mp h
    refine xr_opI (pc' := 37) (lo' := [some (.ref v0), none]) (st' := [.ref x5, .ref x3]) (o := ldF μ x6 3 2) rfl hx7 ?_
    obtain ⟨x8, hx8, h⟩ := Option.bind_eq_some_iff.mp h
    refine xr_opA (pc' := 38) (lo' := [some (.ref v0), none]) (st' := [.ref x3]) (o := ldAR μ x5 x7) rfl hx8 ?_
    obtain ⟨r9, hr9, h⟩ := Option.bind_eq_some_iff.mp h
    refine xr_callV (j := 118) (d' := (d + 2)) (rv1 := some (.int r9.1)) (μ1 := r9.2) (rest := []) (As := [.ref x8]) rfl rfl rfl rfl (Nat.le_of_ble_eq_true rfl) (fT_parseInto_kd hr9) rfl (by exact (fT_parseInto_ok (d := d + (0)) hr9)) ?_
    refine xr_go 2 (pc' := 43) (lo' := [some (.ref v0), some (.int r9.1)]) (st' := [.ref v0]) (μ' := r9.2) rfl ?_
    obtain ⟨x10, hx10, h⟩ := Option.bind_eq_some_iff.mp h
    refine xr_opA (pc' := 46) (lo' := [some (.ref v0), some (.int r9.1)]) (st' := []) (o := ldFR r9.2 v0 0 3) rfl hx10 ?_
    refine xr_go 1 (pc' := 47) (lo' := [some (.ref v0), some (.int r9.1)]) (st' := [.int (xc 0), .ref x10]) (μ' := r9.2) rfl ?_
    obtain ⟨μ11, hμ11, h⟩ := Option.bind_eq_some_iff.mp h
    refine xr_opM (pc' := 50) (lo' := [some (.ref v0), some (.int r9.1)]) (st' := []) (o := stF r9.2 x10 7 1 (xc 0)) rfl hμ11 ?_
    refine xr_go 1 (pc' := 51) (lo' := [some (.ref v0), some (.int r9.1)]) (st' := [.int r9.1]) (μ' := μ11) rfl ?_
    refine xr_ifc (pct := 59) rfl rfl rfl (fun hc => ?_) (fun hc => ?_)
    · replace h := (if_pos (of_decide_eq_true hc)).symm.trans h
      refine xr_go 1 (pc' := 60) (lo' := [some (.ref v0), some (.int r9.1)]) (st' := [.ref v0]) (μ' := μ11) rfl ?_
      obtain ⟨x12, hx12, h⟩ := Option.bind_eq_some_iff.mp h
      refine xr_opA (pc' := 63) (lo' := [some (.ref v0), some (.int r9.1)]) (st' := []) (o := ldFR μ11 v0 0 0) rfl hx12 ?_
      refine xr_go 1 (pc' := 64) (lo' := [some (.ref v0), some (.int r9.1)]) (st' := [.ref x12, .ref x12]) (μ' := μ11) rfl ?_
      obtain ⟨x13, hx13, h⟩ := Option.bind_eq_some_iff.mp h
      refine xr_opI (pc' := 67) (lo' := [some (.ref v0), some (.int r9.1)]) (st' := [.ref x12]) (o := ldF μ11 x12 3 2) rfl hx13 ?_
      refine xr_go 2 (pc' := 69) (lo' := [some (.ref v0), some (.int r9.1)]) (st' := [.int (x13 + (xc 1)), .ref x12]) (μ' := μ11) rfl ?_
      obtain ⟨μ14, hμ14, h⟩ := Option.bind_eq_some_iff.mp h
      refine xr_opM (pc' := 72) (lo' := [some (.ref v0), some (.int r9.1)]) (st' := []) (o := stF μ11 x12 3 2 (x13 + (xc 1))) rfl hμ14 ?_
      refine xr_go 1 (pc' := 73) (lo' := [some (.ref v0), some (.int r9.1)]) (st' := [.ref v0]) (μ' := μ14) rfl ?_
      obtain ⟨x15, hx15, h⟩ := Option.bind_eq_some_iff.mp h
      refine xr_opA (pc' := 76) (lo' := [some (.ref v0), some (.int r9.1)]) (st' := []) (o := ldFR μ14 v0 0 0) rfl hx15 ?_
      obtain ⟨x16, hx16, h⟩ := Option.bind_eq_some_iff.mp h
      refine xr_opI (pc' := 79) (lo' := [some (.ref v0), some (.int r9.1)]) (st' := []) (o := ldF μ14 x15 3 2) rfl hx16 ?_
      refine xr_go 2 (pc' := 81) (lo' := [some (.ref v0), some (.int r9.1)]) (st' := [.int (x16 - (xc 1))]) (μ' := μ14) rfl ?_
      have ho := Option.some.inj h
      subst ho
      obtain ⟨rfl, rfl⟩ := hK
      exact xr_ret (rv := some (.int (x16 - (xc 1)))) rfl rfl (Or.inl rfl)
    · replace h := (if_neg (of_decide_eq_false hc)).symm.trans h
      refine xr_go 3 (pc' := 58) (lo' := [some (.ref v0), some (.int r9.1)]) (st' := [.int ((xc (-20)) - r9.1)]) (μ' := μ11) rfl ?_
      have ho := Option.some.inj h
      subst ho
      obtain ⟨rfl, rfl⟩ := hK
      exact xr_ret (rv := some (.int ((xc (-20)) - r9.1))) rfl rfl (Or.inl rfl)
  · replace h := (if_neg (of_decide_eq_false hc)).symm.trans h
    refine xr_go 2 (pc' := 15) (lo' := [some (.ref v0), none]) (st' := [.int (xc (-6)), .ref v0]) (μ' := μ) rfl ?_
    obtain ⟨r17, hr17, h⟩ := Option.bind_eq_some_iff.mp h
    refine xr_callV (j := 37) (d' := (d + 2)) (rv1 := some (.int r17.1)) (μ1 := r17.2) (rest := []) (As := [.int (xc (-6))]) rfl rfl rfl rfl (Nat.le_of_ble_eq_true rfl) (fX_refuse_kd hr17) rfl (by exact (fX_refuse_ok (d := d + (2)) hr17)) ?_
    have ho := Option.some.inj h
    subst ho
    obtain ⟨rfl, rfl⟩ := hK
    exact xr_ret (rv := some (.int r17.1)) rfl rfl (Or.inl rfl)
noncomputable def fX_ask (a0 : Nat) (μ : xM) : Option (Int32 × xM) := xgd μ a0 0 (fX_ask_0 a0 μ)
theorem fX_ask_kd {a0 : Nat} {μ : xM} {o : Int32 × xM} (h : fX_ask a0 μ = some o) : (xK μ a0).1 = 10 + 0 := (xgd_some h).1
theorem fX_ask_ok {d : Nat} {a0 : Nat} {μ : xM} {o : Int32 × xM} (h : fX_ask a0 μ = some o) : xRun (d + 3) 9 0 [some (.ref a0), none] [] μ (some (.int o.1)) o.2 :=
  xr_forget (lo := [some (.ref a0), none]) (⟨rfl, trivial⟩) (fX_ask_0_ok (d := d) (xgd_some h).2 (show fX_ask_K _ _ o from ⟨rfl, rfl⟩))
-- KeptAnswersModel.here()I 
def fM_here_K (μ : xM) (rv : Option Value) (μf : xM) : (Int32) → Prop := fun o => rv = some (.int o) ∧ μf = μ
noncomputable def fM_here_0  (v0 : Nat) (μ : xM) : Option (Int32) := (ldF μ v0 9 26).bind fun x1 => (ldF μ v0 9 27).bind fun x2 => if x1 < x2 then ((ldFR μ v0 9 6).bind fun x3 => (ldF μ v0 9 26).bind fun x4 => (ldA μ x3 x4).bind fun x5 => some x5) else (some (xc (-1)))
theorem fM_here_0_ok {d : Nat} {v0 : Nat} {μ : xM} {rv : Option Value} {μf : xM} {out : Int32} (h : fM_here_0 v0 μ = some out) (hK : fM_here_K μ rv μf out) : xRun (d + 0) 154 0 [some (.ref v0)] [] μ rv μf := by
  unfold fM_here_0 at h
  refine xr_go 1 (pc' := 1) (lo' := [some (.ref v0)]) (st' := [.ref v0]) (μ' := μ) rfl ?_
  obtain ⟨x1, hx1, h⟩ := Option.bind_eq_some_iff.mp h
  refine xr_opI (pc' := 4) (lo' := [some (.ref v0)]) (st' := []) (o := ldF μ v0 9 26) rfl hx1 ?_
  refine xr_go 1 (pc' := 5) (lo' := [some (.ref v0)]) (st' := [.ref v0, .int x1]) (μ' := μ) rfl ?_
  obtain ⟨x2, hx2, h⟩ := Option.bind_eq_some_iff.mp h
  refine xr_opI (pc' := 8) (lo' := [some (.ref v0)]) (st' := [.int x1]) (o := ldF μ v0 9 27) rfl hx2 ?_
  refine xr_icmp (pct := 15) rfl rfl rfl (fun hc => ?_) (fun hc => ?_)
  · replace h := (if_pos (of_decide_eq_true hc)).symm.trans h
    refine xr_go 1 (pc' := 16) (lo' := [some (.ref v0)]) (st' := [.ref v0]) (μ' := μ) rfl ?_
    obtain ⟨x3, hx3, h⟩ := Option.bind_eq_some_iff.mp h
    refine xr_opA (pc' := 19) (lo' := [some (.ref v0)]) (st' := []) (o := ldFR μ v0 9 6) rfl hx3 ?_
    refine xr_go 1 (pc' := 20) (lo' := [some (.ref v0)]) (st' := [.ref v0, .ref x3]) (μ' := μ) rfl ?_
    obtain ⟨x4, hx4, h⟩ := Option.bind_eq_some_iff.mp h
    refine xr_opI (pc' := 23) (lo' := [some (.ref v0)]) (st' := [.ref x3]) (o := ldF μ v0 9 26) rfl hx4 ?_
    obtain ⟨x5, hx5, h⟩ := Option.bind_eq_some_iff.mp h
    refine xr_opI (pc' := 24) (lo' := [some (.ref v0)]) (st' := []) (o := ldA μ x3 x4) rfl hx5 ?_
    have ho := Option.some.inj h
    subst ho
    obtain ⟨rfl, rfl⟩ := hK
    exact xr_ret (rv := some (.int x5)) rfl rfl (Or.inl rfl)
  · replace h := (if_neg (of_decide_eq_false hc)).symm.trans h
    refine xr_go 2 (pc' := 24) (lo' := [some (.ref v0)]) (st' := [.int (xc (-1))]) (μ' := μ) rfl ?_
    have ho := Option.some.inj h
    subst ho
    obtain ⟨rfl, rfl⟩ := hK
    exact xr_ret (rv := some (.int (xc (-1)))) rfl rfl (Or.inl rfl)
noncomputable def fM_here (a0 : Nat) (μ : xM) : Option (Int32) := xgd μ a0 9 (fM_here_0 a0 μ)
theorem fM_here_kd {a0 : Nat} {μ : xM} {o : Int32} (h : fM_here a0 μ = some o) : (xK μ a0).1 = 10 + 9 := (xgd_some h).1
theorem fM_here_ok {d : Nat} {a0 : Nat} {μ : xM} {o : Int32} (h : fM_here a0 μ = some o) : xRun (d + 0) 154 0 [some (.ref a0)] [] μ (some (.int o)) μ :=
  xr_forget (lo := [some (.ref a0)]) (⟨rfl, trivial⟩) (fM_here_0_ok (d := d) (xgd_some h).2 (show fM_here_K μ _ _ o from ⟨rfl, rfl⟩))
-- KeptAnswersModel.isName(I)Z 
def fM_isName_K (μ : xM) (rv : Option Value) (μf : xM) : (Int32) → Prop := fun o => rv = some (.int o) ∧ μf = μ
noncomputable def fM_isName_16  (μ : xM) : Option (Int32) := some (xc 0)
theorem fM_isName_16_ok {d : Nat} {μ : xM} {rv : Option Value} {μf : xM} {out : Int32} (h : fM_isName_16 μ = some out) (hK : fM_isName_K μ rv μf out) : xRun (d + 0) 155 16 [none] [] μ rv μf := by
  unfold fM_isName_16 at h
  refine xr_go 1 (pc' := 17) (lo' := [none]) (st' := [.int (xc 0)]) (μ' := μ) rfl ?_
  have ho := Option.some.inj h
  subst ho
  obtain ⟨rfl, rfl⟩ := hK
  exact xr_ret (rv := some (.int (xc 0))) rfl rfl (Or.inr ⟨rfl, Or.inl rfl⟩)
noncomputable def fM_isName_0  (v0 : Int32) (μ : xM) : Option (Int32) := if v0 < (xc 97) then (fM_isName_16 μ) else (if (xc 101) < v0 then (fM_isName_16 μ) else (some (xc 1)))
theorem fM_isName_0_ok {d : Nat} {v0 : Int32} {μ : xM} {rv : Option Value} {μf : xM} {out : Int32} (h : fM_isName_0 v0 μ = some out) (hK : fM_isName_K μ rv μf out) : xRun (d + 0) 155 0 [some (.int v0)] [] μ rv μf := by
  unfold fM_isName_0 at h
  refine xr_go 2 (pc' := 3) (lo' := [some (.int v0)]) (st' := [.int (xc 97), .int v0]) (μ' := μ) rfl ?_
  refine xr_icmp (pct := 16) rfl rfl rfl (fun hc => ?_) (fun hc => ?_)
  · replace h := (if_pos (of_decide_eq_true hc)).symm.trans h
    refine xr_forget (lo := [none]) trivial ?_
    exact fM_isName_16_ok h hK
  · replace h := (if_neg (of_decide_eq_false hc)).symm.trans h
    refine xr_go 2 (pc' := 9) (lo' := [some (.int v0)]) (st' := [.int (xc 101), .int v0]) (μ' := μ) rfl ?_
    refine xr_icmp (pct := 16) rfl rfl rfl (fun hc => ?_) (fun hc => ?_)
    · replace h := (if_pos (of_decide_eq_true hc)).symm.trans h
      refine xr_forget (lo := [none]) trivial ?_
      exact fM_isName_16_ok h hK
    · replace h := (if_neg (of_decide_eq_false hc)).symm.trans h
      refine xr_go 2 (pc' := 17) (lo' := [some (.int v0)]) (st' := [.int (xc 1)]) (μ' := μ) rfl ?_
      have ho := Option.some.inj h
      subst ho
      obtain ⟨rfl, rfl⟩ := hK
      exact xr_ret (rv := some (.int (xc 1))) rfl rfl (Or.inr ⟨rfl, Or.inr rfl⟩)
noncomputable def fM_isName (a0 : Int32) (μ : xM) : Option (Int32) := fM_isName_0 a0 μ
theorem fM_isName_ok {d : Nat} {a0 : Int32} {μ : xM} {o : Int32} (h : fM_isName a0 μ = some o) : xRun (d + 0) 155 0 [some (.int a0)] [] μ (some (.int o)) μ :=
  xr_forget (lo := [some (.int a0)]) (⟨rfl, trivial⟩) (fM_isName_0_ok (d := d) h (show fM_isName_K μ _ _ o from ⟨rfl, rfl⟩))
-- KeptAnswersModel.readTerm()I 
def fM_readTerm_K (rv : Option Value) (μf : xM) : (Int32 × xM) → Prop := fun o => rv = some (.int o.1) ∧ μf = o.2
noncomputable def fM_readTerm_57  (v1 : Int32) (s0 : Int32) (s1 : Int32) (s2 : Nat) (μ : xM) : Option (Int32 × xM) := (stF μ s2 9 26 (s1 + s0)).bind fun μ1 => (fM_isName v1 μ1).bind fun r2 => if r2 = 0 then (some ((v1 - (xc 48), μ1))) else (some (((v1 - (xc 97)) + (xc 2), μ1)))
theorem fM_readTerm_57_ok {d : Nat} {v1 : Int32} {s0 : Int32} {s1 : Int32} {s2 : Nat} {μ : xM} {rv : Option Value} {μf : xM} {out : Int32 × xM} (h : fM_readTerm_57 v1 s0 s1 s2 μ = some out) (hK : fM_readTerm_K rv μf out) : xRun (d + 1) 156 57 [none, some (.int v1)] [.int s0, .int s1, .ref s2] μ rv μf := by
  unfold fM_readTerm_57 at h
  refine xr_go 1 (pc' := 58) (lo' := [none, some (.int v1)]) (st' := [.int (s1 + s0), .ref s2]) (μ' := μ) rfl ?_
  obtain ⟨μ1, hμ1, h⟩ := Option.bind_eq_some_iff.mp h
  refine xr_opM (pc' := 61) (lo' := [none, some (.int v1)]) (st' := []) (o := stF μ s2 9 26 (s1 + s0)) rfl hμ1 ?_
  refine xr_go 1 (pc' := 62) (lo' := [none, some (.int v1)]) (st' := [.int v1]) (μ' := μ1) rfl ?_
  obtain ⟨r2, hr2, h⟩ := Option.bind_eq_some_iff.mp h
  refine xr_callS (j := 155) (d' := (d + 0)) (rv1 := some (.int r2)) (μ1 := μ1) (rest := []) (As := [.int v1]) rfl rfl rfl rfl (Nat.le_of_ble_eq_true rfl) rfl (by exact (fM_isName_ok (d := d + (0)) hr2)) ?_
  refine xr_ifc (pct := 77) rfl rfl rfl (fun hc => ?_) (fun hc => ?_)
  · replace h := (if_pos (of_decide_eq_true hc)).symm.trans h
    refine xr_go 3 (pc' := 81) (lo' := [none, some (.int v1)]) (st' := [.int (v1 - (xc 48))]) (μ' := μ1) rfl ?_
    have ho := Option.some.inj h
    subst ho
    obtain ⟨rfl, rfl⟩ := hK
    exact xr_ret (rv := some (.int (v1 - (xc 48)))) rfl rfl (Or.inl rfl)
  · replace h := (if_neg (of_decide_eq_false hc)).symm.trans h
    refine xr_go 6 (pc' := 81) (lo' := [none, some (.int v1)]) (st' := [.int ((v1 - (xc 97)) + (xc 2))]) (μ' := μ1) rfl ?_
    have ho := Option.some.inj h
    subst ho
    obtain ⟨rfl, rfl⟩ := hK
    exact xr_ret (rv := some (.int ((v1 - (xc 97)) + (xc 2)))) rfl rfl (Or.inl rfl)
noncomputable def fM_readTerm_37  (v0 : Nat) (v1 : Int32) (s0 : Int32) (s1 : Nat) (μ : xM) : Option (Int32 × xM) := (stFZ μ s1 9 28 s0).bind fun μ3 => (ldF μ3 v0 9 26).bind fun x4 => (ldF μ3 v0 9 28).bind fun x5 => if x5 = 0 then (fM_readTerm_57 v1 (xc 1) x4 v0 μ3) else (fM_readTerm_57 v1 (xc 0) x4 v0 μ3)
theorem fM_readTerm_37_ok {d : Nat} {v0 : Nat} {v1 : Int32} {s0 : Int32} {s1 : Nat} {μ : xM} {rv : Option Value} {μf : xM} {out : Int32 × xM} (h : fM_readTerm_37 v0 v1 s0 s1 μ = some out) (hK : fM_readTerm_K rv μf out) : xRun (d + 1) 156 37 [some (.ref v0), some (.int v1)] [.int s0, .ref s1] μ rv μf := by
  unfold fM_readTerm_37 at h
  obtain ⟨μ3, hμ3, h⟩ := Option.bind_eq_some_iff.mp h
  refine xr_opM (pc' := 40) (lo' := [some (.ref v0), some (.int v1)]) (st' := []) (o := stFZ μ s1 9 28 s0) rfl hμ3 ?_
  refine xr_go 2 (pc' := 42) (lo' := [some (.ref v0), some (.int v1)]) (st' := [.ref v0, .ref v0]) (μ' := μ3) rfl ?_
  obtain ⟨x4, hx4, h⟩ := Option.bind_eq_some_iff.mp h
  refine xr_opI (pc' := 45) (lo' := [some (.ref v0), some (.int v1)]) (st' := [.ref v0]) (o := ldF μ3 v0 9 26) rfl hx4 ?_
  refine xr_go 1 (pc' := 46) (lo' := [some (.ref v0), some (.int v1)]) (st' := [.ref v0, .int x4, .ref v0]) (μ' := μ3) rfl ?_
  obtain ⟨x5, hx5, h⟩ := Option.bind_eq_some_iff.mp h
  refine xr_opI (pc' := 49) (lo' := [some (.ref v0), some (.int v1)]) (st' := [.int x4, .ref v0]) (o := ldF μ3 v0 9 28) rfl hx5 ?_
  refine xr_ifc (pct := 56) rfl rfl rfl (fun hc => ?_) (fun hc => ?_)
  · replace h := (if_pos (of_decide_eq_true hc)).symm.trans h
    refine xr_go 1 (pc' := 57) (lo' := [some (.ref v0), some (.int v1)]) (st' := [.int (xc 1), .int x4, .ref v0]) (μ' := μ3) rfl ?_
    refine xr_forget (lo := [none, some (.int v1)]) ⟨rfl, trivial⟩ ?_
    exact fM_readTerm_57_ok h hK
  · replace h := (if_neg (of_decide_eq_false hc)).symm.trans h
    refine xr_go 2 (pc' := 57) (lo' := [some (.ref v0), some (.int v1)]) (st' := [.int (xc 0), .int x4, .ref v0]) (μ' := μ3) rfl ?_
    refine xr_forget (lo := [none, some (.int v1)]) ⟨rfl, trivial⟩ ?_
    exact fM_readTerm_57_ok h hK
noncomputable def fM_readTerm_36  (v0 : Nat) (v1 : Int32) (s0 : Nat) (μ : xM) : Option (Int32 × xM) := fM_readTerm_37 v0 v1 (xc 0) s0 μ
theorem fM_readTerm_36_ok {d : Nat} {v0 : Nat} {v1 : Int32} {s0 : Nat} {μ : xM} {rv : Option Value} {μf : xM} {out : Int32 × xM} (h : fM_readTerm_36 v0 v1 s0 μ = some out) (hK : fM_readTerm_K rv μf out) : xRun (d + 1) 156 36 [some (.ref v0), some (.int v1)] [.ref s0] μ rv μf := by
  unfold fM_readTerm_36 at h
  refine xr_go 1 (pc' := 37) (lo' := [some (.ref v0), some (.int v1)]) (st' := [.int (xc 0), .ref s0]) (μ' := μ) rfl ?_
  refine xr_forget (lo := [some (.ref v0), some (.int v1)]) ⟨rfl, rfl, trivial⟩ ?_
  exact fM_readTerm_37_ok h hK
noncomputable def fM_readTerm_32  (v0 : Nat) (v1 : Int32) (s0 : Nat) (μ : xM) : Option (Int32 × xM) := fM_readTerm_37 v0 v1 (xc 1) s0 μ
theorem fM_readTerm_32_ok {d : Nat} {v0 : Nat} {v1 : Int32} {s0 : Nat} {μ : xM} {rv : Option Value} {μf : xM} {out : Int32 × xM} (h : fM_readTerm_32 v0 v1 s0 μ = some out) (hK : fM_readTerm_K rv μf out) : xRun (d + 1) 156 32 [some (.ref v0), some (.int v1)] [.ref s0] μ rv μf := by
  unfold fM_readTerm_32 at h
  refine xr_go 2 (pc' := 37) (lo' := [some (.ref v0), some (.int v1)]) (st' := [.int (xc 1), .ref s0]) (μ' := μ) rfl ?_
  refine xr_forget (lo := [some (.ref v0), some (.int v1)]) ⟨rfl, rfl, trivial⟩ ?_
  exact fM_readTerm_37_ok h hK
noncomputable def fM_readTerm_0  (v0 : Nat) (μ : xM) : Option (Int32 × xM) := (fM_here v0 μ).bind fun r6 => (ldF μ v0 9 28).bind fun x7 => if x7 = 0 then ((fM_isName r6 μ).bind fun r8 => if r8 = 0 then (if r6 = (xc 48) then (fM_readTerm_36 v0 r6 v0 μ) else (if r6 = (xc 49) then (fM_readTerm_36 v0 r6 v0 μ) else (fM_readTerm_32 v0 r6 v0 μ))) else (fM_readTerm_36 v0 r6 v0 μ)) else (fM_readTerm_32 v0 r6 v0 μ)
theorem fM_readTerm_0_ok {d : Nat} {v0 : Nat} {μ : xM} {rv : Option Value} {μf : xM} {out : Int32 × xM} (h : fM_readTerm_0 v0 μ = some out) (hK : fM_readTerm_K rv μf out) : xRun (d + 1) 156 0 [some (.ref v0), none] [] μ rv μf := by
  unfold fM_readTerm_0 at h
  refine xr_go 1 (pc' := 1) (lo' := [some (.ref v0), none]) (st' := [.ref v0]) (μ' := μ) rfl ?_
  obtain ⟨r6, hr6, h⟩ := Option.bind_eq_some_iff.mp h
  refine xr_callV (j := 154) (d' := (d + 0)) (rv1 := some (.int r6)) (μ1 := μ) (rest := []) (As := []) rfl rfl rfl rfl (Nat.le_of_ble_eq_true rfl) (fM_here_kd hr6) rfl (by exact (fM_here_ok (d := d + (0)) hr6)) ?_
  refine xr_go 3 (pc' := 7) (lo' := [some (.ref v0), some (.int r6)]) (st' := [.ref v0, .ref v0]) (μ' := μ) rfl ?_
  obtain ⟨x7, hx7, h⟩ := Option.bind_eq_some_iff.mp h
  refine xr_opI (pc' := 10) (lo' := [some (.ref v0), some (.int r6)]) (st' := [.ref v0]) (o := ldF μ v0 9 28) rfl hx7 ?_
  refine xr_ifc (pct := 32) rfl rfl rfl (fun hc => ?_) (fun hc => ?_)
  · replace h := (if_neg (of_decide_eq_true hc)).symm.trans h
    refine xr_forget (lo := [some (.ref v0), some (.int r6)]) ⟨rfl, rfl, trivial⟩ ?_
    exact fM_readTerm_32_ok h hK
  · replace h := (if_pos (Decidable.of_not_not (of_decide_eq_false hc))).symm.trans h
    refine xr_go 1 (pc' := 14) (lo' := [some (.ref v0), some (.int r6)]) (st' := [.int r6, .ref v0]) (μ' := μ) rfl ?_
    obtain ⟨r8, hr8, h⟩ := Option.bind_eq_some_iff.mp h
    refine xr_callS (j := 155) (d' := (d + 0)) (rv1 := some (.int r8)) (μ1 := μ) (rest := [.ref v0]) (As := [.int r6]) rfl rfl rfl rfl (Nat.le_of_ble_eq_true rfl) rfl (by exact (fM_isName_ok (d := d + (0)) hr8)) ?_
    refine xr_ifc (pct := 36) rfl rfl rfl (fun hc => ?_) (fun hc => ?_)
    · replace h := (if_neg (of_decide_eq_true hc)).symm.trans h
      refine xr_forget (lo := [some (.ref v0), some (.int r6)]) ⟨rfl, rfl, trivial⟩ ?_
      exact fM_readTerm_36_ok h hK
    · replace h := (if_pos (Decidable.of_not_not (of_decide_eq_false hc))).symm.trans h
      refine xr_go 2 (pc' := 23) (lo' := [some (.ref v0), some (.int r6)]) (st' := [.int (xc 48), .int r6, .ref v0]) (μ' := μ) rfl ?_
      refine xr_icmp (pct := 36) rfl rfl rfl (fun hc => ?_) (fun hc => ?_)
      · replace h := (if_pos (of_decide_eq_true hc)).symm.trans h
        refine xr_forget (lo := [some (.ref v0), some (.int r6)]) ⟨rfl, rfl, trivial⟩ ?_
        exact fM_readTerm_36_ok h hK
      · replace h := (if_neg (of_decide_eq_false hc)).symm.trans h
        refine xr_go 2 (pc' := 29) (lo' := [some (.ref v0), some (.int r6)]) (st' := [.int (xc 49), .int r6, .ref v0]) (μ' := μ) rfl ?_
        refine xr_icmp (pct := 36) rfl rfl rfl (fun hc => ?_) (fun hc => ?_)
        · replace h := (if_pos (of_decide_eq_true hc)).symm.trans h
          refine xr_forget (lo := [some (.ref v0), some (.int r6)]) ⟨rfl, rfl, trivial⟩ ?_
          exact fM_readTerm_36_ok h hK
        · replace h := (if_neg (of_decide_eq_false hc)).symm.trans h
          refine xr_forget (lo := [some (.ref v0), some (.int r6)]) ⟨rfl, rfl, trivial⟩ ?_
          exact fM_readTerm_32_ok h hK
noncomputable def fM_readTerm (a0 : Nat) (μ : xM) : Option (Int32 × xM) := xgd μ a0 9 (fM_readTerm_0 a0 μ)
theorem fM_readTerm_kd {a0 : Nat} {μ : xM} {o : Int32 × xM} (h : fM_readTerm a0 μ = some o) : (xK μ a0).1 = 10 + 9 := (xgd_some h).1
theorem fM_readTerm_ok {d : Nat} {a0 : Nat} {μ : xM} {o : Int32 × xM} (h : fM_readTerm a0 μ = some o) : xRun (d + 1) 156 0 [some (.ref a0), none] [] μ (some (.int o.1)) o.2 :=
  xr_forget (lo := [some (.ref a0), none]) (⟨rfl, trivial⟩) (fM_readTerm_0_ok (d := d) (xgd_some h).2 (show fM_readTerm_K _ _ o from ⟨rfl, rfl⟩))
-- KeptAnswersModel.readRow(I)V 
def fM_readRow_K (rv : Option Value) (μf : xM) : (xM) → Prop := fun o => rv = none ∧ μf = o
noncomputable def fM_readRow_55  (v0 : Nat) (v1 : Int32) (v2 : Int32) (s0 : Int32) (s1 : Int32) (s2 : Nat) (μ : xM) : Option (xM) := (stF μ s2 9 26 (s1 + s0)).bind fun μ1 => (fM_readTerm v0 μ1).bind fun r2 => (fM_readTerm v0 r2.2).bind fun r3 => (ldF r3.2 v0 9 28).bind fun x4 => if x4 = 0 then ((ldFR r3.2 v0 9 10).bind fun x5 => (ldA r3.2 x5 v1).bind fun x6 => (ldFR r3.2 v0 9 11).bind fun x7 => (stA r3.2 x7 (((xc 4) * v1) + x6) (v2 - (xc 48))).bind fun μ8 => (ldFR μ8 v0 9 12).bind fun x9 => (stA μ8 x9 (((xc 4) * v1) + x6) r2.1).bind fun μ10 => (ldFR μ10 v0 9 13).bind fun x11 => (stA μ10 x11 (((xc 4) * v1) + x6) r3.1).bind fun μ12 => (ldFR μ12 v0 9 10).bind fun x13 => (ldA μ12 x13 v1).bind fun x14 => (stA μ12 x13 v1 (x14 + (xc 1))).bind fun μ15 => some μ15) else (some r3.2)
theorem fM_readRow_55_ok {d : Nat} {v0 : Nat} {v1 : Int32} {v2 : Int32} {s0 : Int32} {s1 : Int32} {s2 : Nat} {μ : xM} {rv : Option Value} {μf : xM} {out : xM} (h : fM_readRow_55 v0 v1 v2 s0 s1 s2 μ = some out) (hK : fM_readRow_K rv μf out) : xRun (d + 2) 157 55 [some (.ref v0), some (.int v1), some (.int v2), none, none, none] [.int s0, .int s1, .ref s2] μ rv μf := by
  unfold fM_readRow_55 at h
  refine xr_go 1 (pc' := 56) (lo' := [some (.ref v0), some (.int v1), some (.int v2), none, none, none]) (st' := [.int (s1 + s0), .ref s2]) (μ' := μ) rfl ?_
  obtain ⟨μ1, hμ1, h⟩ := Option.bind_eq_some_iff.mp h
  refine xr_opM (pc' := 59) (lo' := [some (.ref v0), some (.int v1), some (.int v2), none, none, none]) (st' := []) (o := stF μ s2 9 26 (s1 + s0)) rfl hμ1 ?_
  refine xr_go 1 (pc' := 60) (lo' := [some (.ref v0), some (.int v1), some (.int v2), none, none, none]) (st' := [.ref v0]) (μ' := μ1) rfl ?_
  obtain ⟨r2, hr2, h⟩ := Option.bind_eq_some_iff.mp h
  refine xr_callV (j := 156) (d' := (d + 1)) (rv1 := some (.int r2.1)) (μ1 := r2.2) (rest := []) (As := []) rfl rfl rfl rfl (Nat.le_of_ble_eq_true rfl) (fM_readTerm_kd hr2) rfl (by exact (fM_readTerm_ok (d := d + (0)) hr2)) ?_
  refine xr_go 2 (pc' := 65) (lo' := [some (.ref v0), some (.int v1), some (.int v2), some (.int r2.1), none, none]) (st' := [.ref v0]) (μ' := r2.2) rfl ?_
  obtain ⟨r3, hr3, h⟩ := Option.bind_eq_some_iff.mp h
  refine xr_callV (j := 156) (d' := (d + 1)) (rv1 := some (.int r3.1)) (μ1 := r3.2) (rest := []) (As := []) rfl rfl rfl rfl (Nat.le_of_ble_eq_true rfl) (fM_readTerm_kd hr3) rfl (by exact (fM_readTerm_ok (d := d + (0)) hr3)) ?_
  refine xr_go 2 (pc' := 71) (lo' := [some (.ref v0), some (.int v1), some (.int v2), some (.int r2.1), some (.int r3.1), none]) (st' := [.ref v0]) (μ' := r3.2) rfl ?_
  obtain ⟨x4, hx4, h⟩ := Option.bind_eq_some_iff.mp h
  refine xr_opI (pc' := 74) (lo' := [some (.ref v0), some (.int v1), some (.int v2), some (.int r2.1), some (.int r3.1), none]) (st' := []) (o := ldF r3.2 v0 9 28) rfl hx4 ?_
  refine xr_ifc (pct := 127) rfl rfl rfl (fun hc => ?_) (fun hc => ?_)
  · replace h := (if_neg (of_decide_eq_true hc)).symm.trans h
    have ho := Option.some.inj h
    subst ho
    obtain ⟨rfl, rfl⟩ := hK
    exact xr_ret (rv := none) rfl rfl (rfl)
  · replace h := (if_pos (Decidable.of_not_not (of_decide_eq_false hc))).symm.trans h
    refine xr_go 4 (pc' := 81) (lo' := [some (.ref v0), some (.int v1), some (.int v2), some (.int r2.1), some (.int r3.1), none]) (st' := [.ref v0, .int ((xc 4) * v1)]) (μ' := r3.2) rfl ?_
    obtain ⟨x5, hx5, h⟩ := Option.bind_eq_some_iff.mp h
    refine xr_opA (pc' := 84) (lo' := [some (.ref v0), some (.int v1), some (.int v2), some (.int r2.1), some (.int r3.1), none]) (st' := [.int ((xc 4) * v1)]) (o := ldFR r3.2 v0 9 10) rfl hx5 ?_
    refine xr_go 1 (pc' := 85) (lo' := [some (.ref v0), some (.int v1), some (.int v2), some (.int r2.1), some (.int r3.1), none]) (st' := [.int v1, .ref x5, .int ((xc 4) * v1)]) (μ' := r3.2) rfl ?_
    obtain ⟨x6, hx6, h⟩ := Option.bind_eq_some_iff.mp h
    refine xr_opI (pc' := 86) (lo' := [some (.ref v0), some (.int v1), some (.int v2), some (.int r2.1), some (.int r3.1), none]) (st' := [.int ((xc 4) * v1)]) (o := ldA r3.2 x5 v1) rfl hx6 ?_
    refine xr_go 3 (pc' := 90) (lo' := [some (.ref v0), some (.int v1), some (.int v2), some (.int r2.1), some (.int r3.1), some (.int (((xc 4) * v1) + x6))]) (st' := [.ref v0]) (μ' := r3.2) rfl ?_
    obtain ⟨x7, hx7, h⟩ := Option.bind_eq_some_iff.mp h
    refine xr_opA (pc' := 93) (lo' := [some (.ref v0), some (.int v1), some (.int v2), some (.int r2.1), some (.int r3.1), some (.int (((xc 4) * v1) + x6))]) (st' := []) (o := ldFR r3.2 v0 9 11) rfl hx7 ?_
    refine xr_go 4 (pc' := 99) (lo' := [some (.ref v0), some (.int v1), some (.int v2), some (.int r2.1), some (.int r3.1), some (.int (((xc 4) * v1) + x6))]) (st' := [.int (v2 - (xc 48)), .int (((xc 4) * v1) + x6), .ref x7]) (μ' := r3.2) rfl ?_
    obtain ⟨μ8, hμ8, h⟩ := Option.bind_eq_some_iff.mp h
    refine xr_opM (pc' := 100) (lo' := [some (.ref v0), some (.int v1), some (.int v2), some (.int r2.1), some (.int r3.1), some (.int (((xc 4) * v1) + x6))]) (st' := []) (o := stA r3.2 x7 (((xc 4) * v1) + x6) (v2 - (xc 48))) rfl hμ8 ?_
    refine xr_go 1 (pc' := 101) (lo' := [some (.ref v0), some (.int v1), some (.int v2), some (.int r2.1), some (.int r3.1), some (.int (((xc 4) * v1) + x6))]) (st' := [.ref v0]) (μ' := μ8) rfl ?_
    obtain ⟨x9, hx9, h⟩ := Option.bind_eq_some_iff.mp h
    refine xr_opA (pc' := 104) (lo' := [some (.ref v0), some (.int v1), some (.int v2), some (.int r2.1), some (.int r3.1), some (.int (((xc 4) * v1) + x6))]) (st' := []) (o := ldFR μ8 v0 9 12) rfl hx9 ?_
    refine xr_go 2 (pc' := 107) (lo' := [some (.ref v0), some (.int v1), some (.int v2), some (.int r2.1), some (.int r3.1), some (.int (((xc 4) * v1) + x6))]) (st' := [.int r2.1, .int (((xc 4) * v1) + x6), .ref x9]) (μ' := μ8) rfl ?_
    obtain ⟨μ10, hμ10, h⟩ := Option.bind_eq_some_iff.mp h
    refine xr_opM (pc' := 108) (lo' := [some (.ref v0), some (.int v1), some (.int v2), some (.int r2.1), some (.int r3.1), some (.int (((xc 4) * v1) + x6))]) (st' := []) (o := stA μ8 x9 (((xc 4) * v1) + x6) r2.1) rfl hμ10 ?_
    refine xr_go 1 (pc' := 109) (lo' := [some (.ref v0), some (.int v1), some (.int v2), some (.int r2.1), some (.int r3.1), some (.int (((xc 4) * v1) + x6))]) (st' := [.ref v0]) (μ' := μ10) rfl ?_
    obtain ⟨x11, hx11, h⟩ := Option.bind_eq_some_iff.mp h
    refine xr_opA (pc' := 112) (lo' := [some (.ref v0), some (.int v1), some (.int v2), some (.int r2.1), some (.int r3.1), some (.int (((xc 4) * v1) + x6))]) (st' := []) (o := ldFR μ10 v0 9 13) rfl hx11 ?_
    refine xr_go 2 (pc' := 116) (lo' := [some (.ref v0), some (.int v1), some (.int v2), some (.int r2.1), some (.int r3.1), some (.int (((xc 4) * v1) + x6))]) (st' := [.int r3.1, .int (((xc 4) * v1) + x6), .ref x11]) (μ' := μ10) rfl ?_
    obtain ⟨μ12, hμ12, h⟩ := Option.bind_eq_some_iff.mp h
    refine xr_opM (pc' := 117) (lo' := [some (.ref v0), some (.int v1), some (.int v2), some (.int r2.1), some (.int r3.1), some (.int (((xc 4) * v1) + x6))]) (st' := []) (o := stA μ10 x11 (((xc 4) * v1) + x6) r3.1) rfl hμ12 ?_
    refine xr_go 1 (pc' := 118) (lo' := [some (.ref v0), some (.int v1), some (.int v2), some (.int r2.1), some (.int r3.1), some (.int (((xc 4) * v1) + x6))]) (st' := [.ref v0]) (μ' := μ12) rfl ?_
    obtain ⟨x13, hx13, h⟩ := Option.bind_eq_some_iff.mp h
    refine xr_opA (pc' := 121) (lo' := [some (.ref v0), some (.int v1), some (.int v2), some (.int r2.1), some (.int r3.1), some (.int (((xc 4) * v1) + x6))]) (st' := []) (o := ldFR μ12 v0 9 10) rfl hx13 ?_
    refine xr_go 2 (pc' := 123) (lo' := [some (.ref v0), some (.int v1), some (.int v2), some (.int r2.1), some (.int r3.1), some (.int (((xc 4) * v1) + x6))]) (st' := [.int v1, .ref x13, .int v1, .ref x13]) (μ' := μ12) rfl ?_
    obtain ⟨x14, hx14, h⟩ := Option.bind_eq_some_iff.mp h
    refine xr_opI (pc' := 124) (lo' := [some (.ref v0), some (.int v1), some (.int v2), some (.int r2.1), some (.int r3.1), some (.int (((xc 4) * v1) + x6))]) (st' := [.int v1, .ref x13]) (o := ldA μ12 x13 v1) rfl hx14 ?_
    refine xr_go 2 (pc' := 126) (lo' := [some (.ref v0), some (.int v1), some (.int v2), some (.int r2.1), some (.int r3.1), some (.int (((xc 4) * v1) + x6))]) (st' := [.int (x14 + (xc 1)), .int v1, .ref x13]) (μ' := μ12) rfl ?_
    obtain ⟨μ15, hμ15, h⟩ := Option.bind_eq_some_iff.mp h
    refine xr_opM (pc' := 127) (lo' := [some (.ref v0), some (.int v1), some (.int v2), some (.int r2.1), some (.int r3.1), some (.int (((xc 4) * v1) + x6))]) (st' := []) (o := stA μ12 x13 v1 (x14 + (xc 1))) rfl hμ15 ?_
    have ho := Option.some.inj h
    subst ho
    obtain ⟨rfl, rfl⟩ := hK
    exact xr_ret (rv := none) rfl rfl (rfl)
noncomputable def fM_readRow_35  (v0 : Nat) (v1 : Int32) (v2 : Int32) (s0 : Int32) (s1 : Nat) (μ : xM) : Option (xM) := (stFZ μ s1 9 28 s0).bind fun μ16 => (ldF μ16 v0 9 26).bind fun x17 => (ldF μ16 v0 9 28).bind fun x18 => if x18 = 0 then (fM_readRow_55 v0 v1 v2 (xc 1) x17 v0 μ16) else (fM_readRow_55 v0 v1 v2 (xc 0) x17 v0 μ16)
theorem fM_readRow_35_ok {d : Nat} {v0 : Nat} {v1 : Int32} {v2 : Int32} {s0 : Int32} {s1 : Nat} {μ : xM} {rv : Option Value} {μf : xM} {out : xM} (h : fM_readRow_35 v0 v1 v2 s0 s1 μ = some out) (hK : fM_readRow_K rv μf out) : xRun (d + 2) 157 35 [some (.ref v0), some (.int v1), some (.int v2), none, none, none] [.int s0, .ref s1] μ rv μf := by
  unfold fM_readRow_35 at h
  obtain ⟨μ16, hμ16, h⟩ := Option.bind_eq_some_iff.mp h
  refine xr_opM (pc' := 38) (lo' := [some (.ref v0), some (.int v1), some (.int v2), none, none, none]) (st' := []) (o := stFZ μ s1 9 28 s0) rfl hμ16 ?_
  refine xr_go 2 (pc' := 40) (lo' := [some (.ref v0), some (.int v1), some (.int v2), none, none, none]) (st' := [.ref v0, .ref v0]) (μ' := μ16) rfl ?_
  obtain ⟨x17, hx17, h⟩ := Option.bind_eq_some_iff.mp h
  refine xr_opI (pc' := 43) (lo' := [some (.ref v0), some (.int v1), some (.int v2), none, none, none]) (st' := [.ref v0]) (o := ldF μ16 v0 9 26) rfl hx17 ?_
  refine xr_go 1 (pc' := 44) (lo' := [some (.ref v0), some (.int v1), some (.int v2), none, none, none]) (st' := [.ref v0, .int x17, .ref v0]) (μ' := μ16) rfl ?_
  obtain ⟨x18, hx18, h⟩ := Option.bind_eq_some_iff.mp h
  refine xr_opI (pc' := 47) (lo' := [some (.ref v0), some (.int v1), some (.int v2), none, none, none]) (st' := [.int x17, .ref v0]) (o := ldF μ16 v0 9 28) rfl hx18 ?_
  refine xr_ifc (pct := 54) rfl rfl rfl (fun hc => ?_) (fun hc => ?_)
  · replace h := (if_pos (of_decide_eq_true hc)).symm.trans h
    refine xr_go 1 (pc' := 55) (lo' := [some (.ref v0), some (.int v1), some (.int v2), none, none, none]) (st' := [.int (xc 1), .int x17, .ref v0]) (μ' := μ16) rfl ?_
    refine xr_forget (lo := [some (.ref v0), some (.int v1), some (.int v2), none, none, none]) ⟨rfl, rfl, rfl, trivial⟩ ?_
    exact fM_readRow_55_ok h hK
  · replace h := (if_neg (of_decide_eq_false hc)).symm.trans h
    refine xr_go 2 (pc' := 55) (lo' := [some (.ref v0), some (.int v1), some (.int v2), none, none, none]) (st' := [.int (xc 0), .int x17, .ref v0]) (μ' := μ16) rfl ?_
    refine xr_forget (lo := [some (.ref v0), some (.int v1), some (.int v2), none, none, none]) ⟨rfl, rfl, rfl, trivial⟩ ?_
    exact fM_readRow_55_ok h hK
noncomputable def fM_readRow_30  (v0 : Nat) (v1 : Int32) (v2 : Int32) (s0 : Nat) (μ : xM) : Option (xM) := fM_readRow_35 v0 v1 v2 (xc 1) s0 μ
theorem fM_readRow_30_ok {d : Nat} {v0 : Nat} {v1 : Int32} {v2 : Int32} {s0 : Nat} {μ : xM} {rv : Option Value} {μf : xM} {out : xM} (h : fM_readRow_30 v0 v1 v2 s0 μ = some out) (hK : fM_readRow_K rv μf out) : xRun (d + 2) 157 30 [some (.ref v0), some (.int v1), some (.int v2), none, none, none] [.ref s0] μ rv μf := by
  unfold fM_readRow_30 at h
  refine xr_go 2 (pc' := 35) (lo' := [some (.ref v0), some (.int v1), some (.int v2), none, none, none]) (st' := [.int (xc 1), .ref s0]) (μ' := μ) rfl ?_
  refine xr_forget (lo := [some (.ref v0), some (.int v1), some (.int v2), none, none, none]) ⟨rfl, rfl, rfl, trivial⟩ ?_
  exact fM_readRow_35_ok h hK
noncomputable def fM_readRow_0  (v0 : Nat) (v1 : Int32) (μ : xM) : Option (xM) := (fM_here v0 μ).bind fun r19 => (ldFR μ v0 9 10).bind fun x20 => (ldA μ x20 v1).bind fun x21 => if x21 = (xc 4) then (fM_readRow_30 v0 v1 r19 v0 μ) else ((fM_isIn (Int32.toInt64 r19) (Int64.ofNat 48) (Int64.ofNat 50) μ).bind fun r22 => if r22 = 0 then (fM_readRow_30 v0 v1 r19 v0 μ) else (fM_readRow_35 v0 v1 r19 (xc 0) v0 μ))
theorem fM_readRow_0_ok {d : Nat} {v0 : Nat} {v1 : Int32} {μ : xM} {rv : Option Value} {μf : xM} {out : xM} (h : fM_readRow_0 v0 v1 μ = some out) (hK : fM_readRow_K rv μf out) : xRun (d + 2) 157 0 [some (.ref v0), some (.int v1), none, none, none, none] [] μ rv μf := by
  unfold fM_readRow_0 at h
  refine xr_go 1 (pc' := 1) (lo' := [some (.ref v0), some (.int v1), none, none, none, none]) (st' := [.ref v0]) (μ' := μ) rfl ?_
  obtain ⟨r19, hr19, h⟩ := Option.bind_eq_some_iff.mp h
  refine xr_callV (j := 154) (d' := (d + 1)) (rv1 := some (.int r19)) (μ1 := μ) (rest := []) (As := []) rfl rfl rfl rfl (Nat.le_of_ble_eq_true rfl) (fM_here_kd hr19) rfl (by exact (fM_here_ok (d := d + (1)) hr19)) ?_
  refine xr_go 3 (pc' := 7) (lo' := [some (.ref v0), some (.int v1), some (.int r19), none, none, none]) (st' := [.ref v0, .ref v0]) (μ' := μ) rfl ?_
  obtain ⟨x20, hx20, h⟩ := Option.bind_eq_some_iff.mp h
  refine xr_opA (pc' := 10) (lo' := [some (.ref v0), some (.int v1), some (.int r19), none, none, none]) (st' := [.ref v0]) (o := ldFR μ v0 9 10) rfl hx20 ?_
  refine xr_go 1 (pc' := 11) (lo' := [some (.ref v0), some (.int v1), some (.int r19), none, none, none]) (st' := [.int v1, .ref x20, .ref v0]) (μ' := μ) rfl ?_
  obtain ⟨x21, hx21, h⟩ := Option.bind_eq_some_iff.mp h
  refine xr_opI (pc' := 12) (lo' := [some (.ref v0), some (.int v1), some (.int r19), none, none, none]) (st' := [.ref v0]) (o := ldA μ x20 v1) rfl hx21 ?_
  refine xr_go 1 (pc' := 13) (lo' := [some (.ref v0), some (.int v1), some (.int r19), none, none, none]) (st' := [.int (xc 4), .int x21, .ref v0]) (μ' := μ) rfl ?_
  refine xr_icmp (pct := 30) rfl rfl rfl (fun hc => ?_) (fun hc => ?_)
  · replace h := (if_pos (of_decide_eq_true hc)).symm.trans h
    refine xr_forget (lo := [some (.ref v0), some (.int v1), some (.int r19), none, none, none]) ⟨rfl, rfl, rfl, trivial⟩ ?_
    exact fM_readRow_30_ok h hK
  · replace h := (if_neg (of_decide_eq_false hc)).symm.trans h
    refine xr_go 4 (pc' := 24) (lo' := [some (.ref v0), some (.int v1), some (.int r19), none, none, none]) (st' := [.long (Int64.ofNat 50), .long (Int64.ofNat 48), .long (Int32.toInt64 r19), .ref v0]) (μ' := μ) rfl ?_
    obtain ⟨r22, hr22, h⟩ := Option.bind_eq_some_iff.mp h
    refine xr_callS (j := 137) (d' := (d + 1)) (rv1 := some (.int r22)) (μ1 := μ) (rest := [.ref v0]) (As := [.long (Int32.toInt64 r19), .long (Int64.ofNat 48), .long (Int64.ofNat 50)]) rfl rfl rfl rfl (Nat.le_of_ble_eq_true rfl) rfl (by exact (fM_isIn_ok (d := d + (1)) hr22)) ?_
    refine xr_ifc (pct := 34) rfl rfl rfl (fun hc => ?_) (fun hc => ?_)
    · replace h := (if_neg (of_decide_eq_true hc)).symm.trans h
      refine xr_go 1 (pc' := 35) (lo' := [some (.ref v0), some (.int v1), some (.int r19), none, none, none]) (st' := [.int (xc 0), .ref v0]) (μ' := μ) rfl ?_
      refine xr_forget (lo := [some (.ref v0), some (.int v1), some (.int r19), none, none, none]) ⟨rfl, rfl, rfl, trivial⟩ ?_
      exact fM_readRow_35_ok h hK
    · replace h := (if_pos (Decidable.of_not_not (of_decide_eq_false hc))).symm.trans h
      refine xr_forget (lo := [some (.ref v0), some (.int v1), some (.int r19), none, none, none]) ⟨rfl, rfl, rfl, trivial⟩ ?_
      exact fM_readRow_30_ok h hK
noncomputable def fM_readRow (a0 : Nat) (a1 : Int32) (μ : xM) : Option (xM) := xgd μ a0 9 (fM_readRow_0 a0 a1 μ)
theorem fM_readRow_kd {a0 : Nat} {a1 : Int32} {μ : xM} {o : xM} (h : fM_readRow a0 a1 μ = some o) : (xK μ a0).1 = 10 + 9 := (xgd_some h).1
theorem fM_readRow_ok {d : Nat} {a0 : Nat} {a1 : Int32} {μ : xM} {o : xM} (h : fM_readRow a0 a1 μ = some o) : xRun (d + 2) 157 0 [some (.ref a0), some (.int a1), none, none, none, none] [] μ none o :=
  xr_forget (lo := [some (.ref a0), some (.int a1), none, none, none, none]) (⟨rfl, rfl, trivial⟩) (fM_readRow_0_ok (d := d) (xgd_some h).2 (show fM_readRow_K _ _ o from ⟨rfl, rfl⟩))
-- KeptAnswersModel.stands(II)Z 
def fM_stands_K (μ : xM) (rv : Option Value) (μf : xM) : (Int32) → Prop := fun o => rv = some (.int o) ∧ μf = μ
def fM_stands_K7 (v0 : Nat) (v1 : Int32) (v2 : Int32) (μ : xM) (d : Nat) (rv : Option Value) (μf : xM) : ((Int32 × Int32) ⊕ (Int32)) → Prop := Sum.elim (fun s : Int32 × Int32 => xRun (d + 0) 158 7 [some (.ref v0), some (.int v1), some (.int v2), some (.int s.1), some (.int s.2)] [] μ rv μf) (fM_stands_K μ rv μf)
noncomputable def fM_stands_60  (v3 : Int32) (μ : xM) : Option (Int32) := if v3 = 0 ∨ v3 = 1 then some v3 else none
theorem fM_stands_60_ok {d : Nat} {v3 : Int32} {μ : xM} {rv : Option Value} {μf : xM} {out : Int32} (h : fM_stands_60 v3 μ = some out) (hK : fM_stands_K μ rv μf out) : xRun (d + 0) 158 60 [none, none, none, some (.int v3), none] [] μ rv μf := by
  unfold fM_stands_60 at h
  refine xr_go 1 (pc' := 61) (lo' := [none, none, none, some (.int v3), none]) (st' := [.int v3]) (μ' := μ) rfl ?_
  obtain ⟨hb, h⟩ := xifO h
  have ho := Option.some.inj h
  subst ho
  obtain ⟨rfl, rfl⟩ := hK
  exact xr_ret (rv := some (.int v3)) rfl rfl (Or.inr ⟨rfl, hb⟩)
noncomputable def fM_stands_53  (v0 : Nat) (v1 : Int32) (v2 : Int32) (v4 : Int32) (s0 : Int32) (μ : xM) : Option ((Int32 × Int32) ⊕ (Int32)) := some (.inl ((s0, v4 + xc 1)))
theorem fM_stands_53_ok {d : Nat} {v0 : Nat} {v1 : Int32} {v2 : Int32} {v4 : Int32} {s0 : Int32} {μ : xM} {rv : Option Value} {μf : xM} {out : (Int32 × Int32) ⊕ (Int32)} (h : fM_stands_53 v0 v1 v2 v4 s0 μ = some out) (hK : fM_stands_K7 v0 v1 v2 μ d rv μf out) : xRun (d + 0) 158 53 [some (.ref v0), some (.int v1), some (.int v2), none, some (.int v4)] [.int s0] μ rv μf := by
  unfold fM_stands_53 at h
  refine xr_go 3 (pc' := 7) (lo' := [some (.ref v0), some (.int v1), some (.int v2), some (.int s0), some (.int (v4 + xc 1))]) (st' := []) (μ' := μ) rfl ?_
  refine xr_forget (lo := [some (.ref v0), some (.int v1), some (.int v2), some (.int s0), some (.int (v4 + xc 1))]) ⟨rfl, rfl, rfl, rfl, rfl, trivial⟩ ?_
  have ho := Option.some.inj h
  subst ho
  exact hK
noncomputable def fM_stands_48  (v0 : Nat) (v1 : Int32) (v2 : Int32) (v4 : Int32) (μ : xM) : Option ((Int32 × Int32) ⊕ (Int32)) := fM_stands_53 v0 v1 v2 v4 (xc 1) μ
theorem fM_stands_48_ok {d : Nat} {v0 : Nat} {v1 : Int32} {v2 : Int32} {v4 : Int32} {μ : xM} {rv : Option Value} {μf : xM} {out : (Int32 × Int32) ⊕ (Int32)} (h : fM_stands_48 v0 v1 v2 v4 μ = some out) (hK : fM_stands_K7 v0 v1 v2 μ d rv μf out) : xRun (d + 0) 158 48 [some (.ref v0), some (.int v1), some (.int v2), none, some (.int v4)] [] μ rv μf := by
  unfold fM_stands_48 at h
  refine xr_go 2 (pc' := 53) (lo' := [some (.ref v0), some (.int v1), some (.int v2), none, some (.int v4)]) (st' := [.int (xc 1)]) (μ' := μ) rfl ?_
  refine xr_forget (lo := [some (.ref v0), some (.int v1), some (.int v2), none, some (.int v4)]) ⟨rfl, rfl, rfl, rfl, trivial⟩ ?_
  exact fM_stands_53_ok h hK
noncomputable def fM_stands_L7  (v0 : Nat) (v1 : Int32) (v2 : Int32) (v3 : Int32) (v4 : Int32) (μ : xM) : Option ((Int32 × Int32) ⊕ (Int32)) := (ldFR μ v0 9 10).bind fun x1 => (ldA μ x1 v1).bind fun x2 => if (((xc 4) * v1) + x2) ≤ v4 then ((fM_stands_60 v3 μ).map (fun o => .inr o)) else (if v3 = 0 then ((ldFR μ v0 9 12).bind fun x3 => (ldA μ x3 v4).bind fun x4 => if x4 = v2 then (fM_stands_48 v0 v1 v2 v4 μ) else ((ldFR μ v0 9 13).bind fun x5 => (ldA μ x5 v4).bind fun x6 => if x6 = v2 then (fM_stands_48 v0 v1 v2 v4 μ) else (fM_stands_53 v0 v1 v2 v4 (xc 0) μ))) else (fM_stands_48 v0 v1 v2 v4 μ))
theorem fM_stands_L7_ok {d : Nat} {v0 : Nat} {v1 : Int32} {v2 : Int32} {v3 : Int32} {v4 : Int32} {μ : xM} {rv : Option Value} {μf : xM} {out : (Int32 × Int32) ⊕ (Int32)} (h : fM_stands_L7 v0 v1 v2 v3 v4 μ = some out) (hK : fM_stands_K7 v0 v1 v2 μ d rv μf out) : xRun (d + 0) 158 7 [some (.ref v0), some (.int v1), some (.int v2), some (.int v3), some (.int v4)] [] μ rv μf := by
  unfold fM_stands_L7 at h
  refine xr_go 5 (pc' := 13) (lo' := [some (.ref v0), some (.int v1), some (.int v2), some (.int v3), some (.int v4)]) (st' := [.ref v0, .int ((xc 4) * v1), .int v4]) (μ' := μ) rfl ?_
  obtain ⟨x1, hx1, h⟩ := Option.bind_eq_some_iff.mp h
  refine xr_opA (pc' := 16) (lo' := [some (.ref v0), some (.int v1), some (.int v2), some (.int v3), some (.int v4)]) (st' := [.int ((xc 4) * v1), .int v4]) (o := ldFR μ v0 9 10) rfl hx1 ?_
  refine xr_go 1 (pc' := 17) (lo' := [some (.ref v0), some (.int v1), some (.int v2), some (.int v3), some (.int v4)]) (st' := [.int v1, .ref x1, .int ((xc 4) * v1), .int v4]) (μ' := μ) rfl ?_
  obtain ⟨x2, hx2, h⟩ := Option.bind_eq_some_iff.mp h
  refine xr_opI (pc' := 18) (lo' := [some (.ref v0), some (.int v1), some (.int v2), some (.int v3), some (.int v4)]) (st' := [.int ((xc 4) * v1), .int v4]) (o := ldA μ x1 v1) rfl hx2 ?_
  refine xr_go 1 (pc' := 19) (lo' := [some (.ref v0), some (.int v1), some (.int v2), some (.int v3), some (.int v4)]) (st' := [.int (((xc 4) * v1) + x2), .int v4]) (μ' := μ) rfl ?_
  refine xr_icmp (pct := 60) rfl rfl rfl (fun hc => ?_) (fun hc => ?_)
  · replace h := (if_pos (of_decide_eq_true hc)).symm.trans h
    refine xr_forget (lo := [none, none, none, some (.int v3), none]) ⟨rfl, trivial⟩ ?_
    obtain ⟨o, h2, rfl⟩ := Option.map_eq_some_iff.mp h
    exact fM_stands_60_ok h2 hK
  · replace h := (if_neg (of_decide_eq_false hc)).symm.trans h
    refine xr_go 1 (pc' := 23) (lo' := [some (.ref v0), some (.int v1), some (.int v2), some (.int v3), some (.int v4)]) (st' := [.int v3]) (μ' := μ) rfl ?_
    refine xr_ifc (pct := 48) rfl rfl rfl (fun hc => ?_) (fun hc => ?_)
    · replace h := (if_neg (of_decide_eq_true hc)).symm.trans h
      refine xr_forget (lo := [some (.ref v0), some (.int v1), some (.int v2), none, some (.int v4)]) ⟨rfl, rfl, rfl, rfl, trivial⟩ ?_
      exact fM_stands_48_ok h hK
    · replace h := (if_pos (Decidable.of_not_not (of_decide_eq_false hc))).symm.trans h
      refine xr_go 1 (pc' := 27) (lo' := [some (.ref v0), some (.int v1), some (.int v2), some (.int v3), some (.int v4)]) (st' := [.ref v0]) (μ' := μ) rfl ?_
      obtain ⟨x3, hx3, h⟩ := Option.bind_eq_some_iff.mp h
      refine xr_opA (pc' := 30) (lo' := [some (.ref v0), some (.int v1), some (.int v2), some (.int v3), some (.int v4)]) (st' := []) (o := ldFR μ v0 9 12) rfl hx3 ?_
      refine xr_go 1 (pc' := 32) (lo' := [some (.ref v0), some (.int v1), some (.int v2), some (.int v3), some (.int v4)]) (st' := [.int v4, .ref x3]) (μ' := μ) rfl ?_
      obtain ⟨x4, hx4, h⟩ := Option.bind_eq_some_iff.mp h
      refine xr_opI (pc' := 33) (lo' := [some (.ref v0), some (.int v1), some (.int v2), some (.int v3), some (.int v4)]) (st' := []) (o := ldA μ x3 v4) rfl hx4 ?_
      refine xr_go 1 (pc' := 34) (lo' := [some (.ref v0), some (.int v1), some (.int v2), some (.int v3), some (.int v4)]) (st' := [.int v2, .int x4]) (μ' := μ) rfl ?_
      refine xr_icmp (pct := 48) rfl rfl rfl (fun hc => ?_) (fun hc => ?_)
      · replace h := (if_pos (of_decide_eq_true hc)).symm.trans h
        refine xr_forget (lo := [some (.ref v0), some (.int v1), some (.int v2), none, some (.int v4)]) ⟨rfl, rfl, rfl, rfl, trivial⟩ ?_
        exact fM_stands_48_ok h hK
      · replace h := (if_neg (of_decide_eq_false hc)).symm.trans h
        refine xr_go 1 (pc' := 38) (lo' := [some (.ref v0), some (.int v1), some (.int v2), some (.int v3), some (.int v4)]) (st' := [.ref v0]) (μ' := μ) rfl ?_
        obtain ⟨x5, hx5, h⟩ := Option.bind_eq_some_iff.mp h
        refine xr_opA (pc' := 41) (lo' := [some (.ref v0), some (.int v1), some (.int v2), some (.int v3), some (.int v4)]) (st' := []) (o := ldFR μ v0 9 13) rfl hx5 ?_
        refine xr_go 1 (pc' := 43) (lo' := [some (.ref v0), some (.int v1), some (.int v2), some (.int v3), some (.int v4)]) (st' := [.int v4, .ref x5]) (μ' := μ) rfl ?_
        obtain ⟨x6, hx6, h⟩ := Option.bind_eq_some_iff.mp h
        refine xr_opI (pc' := 44) (lo' := [some (.ref v0), some (.int v1), some (.int v2), some (.int v3), some (.int v4)]) (st' := []) (o := ldA μ x5 v4) rfl hx6 ?_
        refine xr_go 1 (pc' := 45) (lo' := [some (.ref v0), some (.int v1), some (.int v2), some (.int v3), some (.int v4)]) (st' := [.int v2, .int x6]) (μ' := μ) rfl ?_
        refine xr_icmp (pct := 52) rfl rfl rfl (fun hc => ?_) (fun hc => ?_)
        · replace h := (if_neg (of_decide_eq_true hc)).symm.trans h
          refine xr_go 1 (pc' := 53) (lo' := [some (.ref v0), some (.int v1), some (.int v2), some (.int v3), some (.int v4)]) (st' := [.int (xc 0)]) (μ' := μ) rfl ?_
          refine xr_forget (lo := [some (.ref v0), some (.int v1), some (.int v2), none, some (.int v4)]) ⟨rfl, rfl, rfl, rfl, trivial⟩ ?_
          exact fM_stands_53_ok h hK
        · replace h := (if_pos (Decidable.of_not_not (of_decide_eq_false hc))).symm.trans h
          refine xr_forget (lo := [some (.ref v0), some (.int v1), some (.int v2), none, some (.int v4)]) ⟨rfl, rfl, rfl, rfl, trivial⟩ ?_
          exact fM_stands_48_ok h hK
theorem fM_stands_L7_lp {d : Nat} {v0 : Nat} {v1 : Int32} {v2 : Int32} {v3 : Int32} {v4 : Int32} {μ : xM} {rv : Option Value} {μf : xM} {out : Int32} (h : xwh (fun s : Int32 × Int32 => fM_stands_L7 v0 v1 v2 s.1 s.2 μ) (v3, v4) = some out) (hK : fM_stands_K μ rv μf out) : xRun (d + 0) 158 7 [some (.ref v0), some (.int v1), some (.int v2), some (.int v3), some (.int v4)] [] μ rv μf :=
  xwh_ind (Rh := fun s : Int32 × Int32 => xRun (d + 0) 158 7 [some (.ref v0), some (.int v1), some (.int v2), some (.int s.1), some (.int s.2)] [] μ rv μf) (Co := fM_stands_K μ rv μf) (fun s o hb hk => fM_stands_L7_ok hb hk) h hK
noncomputable def fM_stands_0  (v0 : Nat) (v1 : Int32) (v2 : Int32) (μ : xM) : Option (Int32) := xwh (fun s : Int32 × Int32 => fM_stands_L7 v0 v1 v2 s.1 s.2 μ) (xc 0, (xc 4) * v1)
theorem fM_stands_0_ok {d : Nat} {v0 : Nat} {v1 : Int32} {v2 : Int32} {μ : xM} {rv : Option Value} {μf : xM} {out : Int32} (h : fM_stands_0 v0 v1 v2 μ = some out) (hK : fM_stands_K μ rv μf out) : xRun (d + 0) 158 0 [some (.ref v0), some (.int v1), some (.int v2), none, none] [] μ rv μf := by
  unfold fM_stands_0 at h
  refine xr_go 6 (pc' := 7) (lo' := [some (.ref v0), some (.int v1), some (.int v2), some (.int (xc 0)), some (.int ((xc 4) * v1))]) (st' := []) (μ' := μ) rfl ?_
  refine xr_forget (lo := [some (.ref v0), some (.int v1), some (.int v2), some (.int (xc 0)), some (.int ((xc 4) * v1))]) ⟨rfl, rfl, rfl, rfl, rfl, trivial⟩ ?_
  exact fM_stands_L7_lp h hK
noncomputable def fM_stands (a0 : Nat) (a1 : Int32) (a2 : Int32) (μ : xM) : Option (Int32) := xgd μ a0 9 (fM_stands_0 a0 a1 a2 μ)
theorem fM_stands_kd {a0 : Nat} {a1 : Int32} {a2 : Int32} {μ : xM} {o : Int32} (h : fM_stands a0 a1 a2 μ = some o) : (xK μ a0).1 = 10 + 9 := (xgd_some h).1
theorem fM_stands_ok {d : Nat} {a0 : Nat} {a1 : Int32} {a2 : Int32} {μ : xM} {o : Int32} (h : fM_stands a0 a1 a2 μ = some o) : xRun (d + 0) 158 0 [some (.ref a0), some (.int a1), some (.int a2), none, none] [] μ (some (.int o)) μ :=
  xr_forget (lo := [some (.ref a0), some (.int a1), some (.int a2), none, none]) (⟨rfl, rfl, rfl, trivial⟩) (fM_stands_0_ok (d := d) (xgd_some h).2 (show fM_stands_K μ _ _ o from ⟨rfl, rfl⟩))
-- KeptAnswersModel.readPicture(I)I 
def fM_readPicture_K (rv : Option Value) (μf : xM) : (Int32 × xM) → Prop := fun o => rv = some (.int o.1) ∧ μf = o.2
def fM_readPicture_K104 (v0 : Nat) (v1 : Int32) (d : Nat) (rv : Option Value) (μf : xM) : ((Int32 × xM) ⊕ (Int32 × xM)) → Prop := Sum.elim (fun s : Int32 × xM => xRun (d + 3) 159 104 [some (.ref v0), some (.int v1), some (.int s.1), none] [] s.2 rv μf) (fM_readPicture_K rv μf)
def fM_readPicture_K42 (v0 : Nat) (v1 : Int32) (d : Nat) (rv : Option Value) (μf : xM) : ((xM) ⊕ (Int32 × xM)) → Prop := Sum.elim (fun s : xM => xRun (d + 3) 159 42 [some (.ref v0), some (.int v1), none, none] [] s rv μf) (fM_readPicture_K rv μf)
noncomputable def fM_readPicture_252  (v0 : Nat) (s0 : Int32) (s1 : Nat) (μ : xM) : Option (Int32 × xM) := (stFZ μ s1 9 28 s0).bind fun μ1 => (ldF μ1 v0 9 28).bind fun x2 => if x2 = 0 then (some ((xc (-1), μ1))) else ((ldF μ1 v0 9 26).bind fun x3 => some ((x3, μ1)))
theorem fM_readPicture_252_ok {d : Nat} {v0 : Nat} {s0 : Int32} {s1 : Nat} {μ : xM} {rv : Option Value} {μf : xM} {out : Int32 × xM} (h : fM_readPicture_252 v0 s0 s1 μ = some out) (hK : fM_readPicture_K rv μf out) : xRun (d + 3) 159 252 [some (.ref v0), none, none, none] [.int s0, .ref s1] μ rv μf := by
  unfold fM_readPicture_252 at h
  obtain ⟨μ1, hμ1, h⟩ := Option.bind_eq_some_iff.mp h
  refine xr_opM (pc' := 255) (lo' := [some (.ref v0), none, none, none]) (st' := []) (o := stFZ μ s1 9 28 s0) rfl hμ1 ?_
  refine xr_go 1 (pc' := 256) (lo' := [some (.ref v0), none, none, none]) (st' := [.ref v0]) (μ' := μ1) rfl ?_
  obtain ⟨x2, hx2, h⟩ := Option.bind_eq_some_iff.mp h
  refine xr_opI (pc' := 259) (lo' := [some (.ref v0), none, none, none]) (st' := []) (o := ldF μ1 v0 9 28) rfl hx2 ?_
  refine xr_ifc (pct := 269) rfl rfl rfl (fun hc => ?_) (fun hc => ?_)
  · replace h := (if_pos (of_decide_eq_true hc)).symm.trans h
    refine xr_go 1 (pc' := 270) (lo' := [some (.ref v0), none, none, none]) (st' := [.int (xc (-1))]) (μ' := μ1) rfl ?_
    have ho := Option.some.inj h
    subst ho
    obtain ⟨rfl, rfl⟩ := hK
    exact xr_ret (rv := some (.int (xc (-1)))) rfl rfl (Or.inl rfl)
  · replace h := (if_neg (of_decide_eq_false hc)).symm.trans h
    refine xr_go 1 (pc' := 263) (lo' := [some (.ref v0), none, none, none]) (st' := [.ref v0]) (μ' := μ1) rfl ?_
    obtain ⟨x3, hx3, h⟩ := Option.bind_eq_some_iff.mp h
    refine xr_opI (pc' := 266) (lo' := [some (.ref v0), none, none, none]) (st' := []) (o := ldF μ1 v0 9 26) rfl hx3 ?_
    refine xr_go 1 (pc' := 270) (lo' := [some (.ref v0), none, none, none]) (st' := [.int x3]) (μ' := μ1) rfl ?_
    have ho := Option.some.inj h
    subst ho
    obtain ⟨rfl, rfl⟩ := hK
    exact xr_ret (rv := some (.int x3)) rfl rfl (Or.inl rfl)
noncomputable def fM_readPicture_247  (v0 : Nat) (s0 : Nat) (μ : xM) : Option (Int32 × xM) := fM_readPicture_252 v0 (xc 1) s0 μ
theorem fM_readPicture_247_ok {d : Nat} {v0 : Nat} {s0 : Nat} {μ : xM} {rv : Option Value} {μf : xM} {out : Int32 × xM} (h : fM_readPicture_247 v0 s0 μ = some out) (hK : fM_readPicture_K rv μf out) : xRun (d + 3) 159 247 [some (.ref v0), none, none, none] [.ref s0] μ rv μf := by
  unfold fM_readPicture_247 at h
  refine xr_go 2 (pc' := 252) (lo' := [some (.ref v0), none, none, none]) (st' := [.int (xc 1), .ref s0]) (μ' := μ) rfl ?_
  refine xr_forget (lo := [some (.ref v0), none, none, none]) ⟨rfl, trivial⟩ ?_
  exact fM_readPicture_252_ok h hK
noncomputable def fM_readPicture_228  (v0 : Nat) (μ : xM) : Option (Int32 × xM) := (ldF μ v0 9 28).bind fun x4 => if x4 = 0 then ((ldF μ v0 9 26).bind fun x5 => (ldF μ v0 9 27).bind fun x6 => if x6 ≤ x5 then (fM_readPicture_252 v0 (xc 0) v0 μ) else (fM_readPicture_247 v0 v0 μ)) else (fM_readPicture_247 v0 v0 μ)
theorem fM_readPicture_228_ok {d : Nat} {v0 : Nat} {μ : xM} {rv : Option Value} {μf : xM} {out : Int32 × xM} (h : fM_readPicture_228 v0 μ = some out) (hK : fM_readPicture_K rv μf out) : xRun (d + 3) 159 228 [some (.ref v0), none, none, none] [] μ rv μf := by
  unfold fM_readPicture_228 at h
  refine xr_go 2 (pc' := 230) (lo' := [some (.ref v0), none, none, none]) (st' := [.ref v0, .ref v0]) (μ' := μ) rfl ?_
  obtain ⟨x4, hx4, h⟩ := Option.bind_eq_some_iff.mp h
  refine xr_opI (pc' := 233) (lo' := [some (.ref v0), none, none, none]) (st' := [.ref v0]) (o := ldF μ v0 9 28) rfl hx4 ?_
  refine xr_ifc (pct := 247) rfl rfl rfl (fun hc => ?_) (fun hc => ?_)
  · replace h := (if_neg (of_decide_eq_true hc)).symm.trans h
    refine xr_forget (lo := [some (.ref v0), none, none, none]) ⟨rfl, trivial⟩ ?_
    exact fM_readPicture_247_ok h hK
  · replace h := (if_pos (Decidable.of_not_not (of_decide_eq_false hc))).symm.trans h
    refine xr_go 1 (pc' := 237) (lo' := [some (.ref v0), none, none, none]) (st' := [.ref v0, .ref v0]) (μ' := μ) rfl ?_
    obtain ⟨x5, hx5, h⟩ := Option.bind_eq_some_iff.mp h
    refine xr_opI (pc' := 240) (lo' := [some (.ref v0), none, none, none]) (st' := [.ref v0]) (o := ldF μ v0 9 26) rfl hx5 ?_
    refine xr_go 1 (pc' := 241) (lo' := [some (.ref v0), none, none, none]) (st' := [.ref v0, .int x5, .ref v0]) (μ' := μ) rfl ?_
    obtain ⟨x6, hx6, h⟩ := Option.bind_eq_some_iff.mp h
    refine xr_opI (pc' := 244) (lo' := [some (.ref v0), none, none, none]) (st' := [.int x5, .ref v0]) (o := ldF μ v0 9 27) rfl hx6 ?_
    refine xr_icmp (pct := 251) rfl rfl rfl (fun hc => ?_) (fun hc => ?_)
    · replace h := (if_pos (of_decide_eq_true hc)).symm.trans h
      refine xr_go 1 (pc' := 252) (lo' := [some (.ref v0), none, none, none]) (st' := [.int (xc 0), .ref v0]) (μ' := μ) rfl ?_
      refine xr_forget (lo := [some (.ref v0), none, none, none]) ⟨rfl, trivial⟩ ?_
      exact fM_readPicture_252_ok h hK
    · replace h := (if_neg (of_decide_eq_false hc)).symm.trans h
      refine xr_forget (lo := [some (.ref v0), none, none, none]) ⟨rfl, trivial⟩ ?_
      exact fM_readPicture_247_ok h hK
noncomputable def fM_readPicture_224  (v0 : Nat) (v1 : Int32) (s0 : Int32) (μ : xM) : Option ((Int32 × xM) ⊕ (Int32 × xM)) := some (.inl ((s0, μ)))
theorem fM_readPicture_224_ok {d : Nat} {v0 : Nat} {v1 : Int32} {s0 : Int32} {μ : xM} {rv : Option Value} {μf : xM} {out : (Int32 × xM) ⊕ (Int32 × xM)} (h : fM_readPicture_224 v0 v1 s0 μ = some out) (hK : fM_readPicture_K104 v0 v1 d rv μf out) : xRun (d + 3) 159 224 [some (.ref v0), some (.int v1), none, none] [.int s0] μ rv μf := by
  unfold fM_readPicture_224 at h
  refine xr_go 2 (pc' := 104) (lo' := [some (.ref v0), some (.int v1), some (.int s0), none]) (st' := []) (μ' := μ) rfl ?_
  refine xr_forget (lo := [some (.ref v0), some (.int v1), some (.int s0), none]) ⟨rfl, rfl, rfl, trivial⟩ ?_
  have ho := Option.some.inj h
  subst ho
  exact hK
noncomputable def fM_readPicture_208  (v0 : Nat) (v1 : Int32) (μ : xM) : Option ((Int32 × xM) ⊕ (Int32 × xM)) := (ldF μ v0 9 26).bind fun x7 => (ldF μ v0 9 27).bind fun x8 => if x8 ≤ x7 then (fM_readPicture_224 v0 v1 (xc 0) μ) else (fM_readPicture_224 v0 v1 (xc 1) μ)
theorem fM_readPicture_208_ok {d : Nat} {v0 : Nat} {v1 : Int32} {μ : xM} {rv : Option Value} {μf : xM} {out : (Int32 × xM) ⊕ (Int32 × xM)} (h : fM_readPicture_208 v0 v1 μ = some out) (hK : fM_readPicture_K104 v0 v1 d rv μf out) : xRun (d + 3) 159 208 [some (.ref v0), some (.int v1), none, none] [] μ rv μf := by
  unfold fM_readPicture_208 at h
  refine xr_go 1 (pc' := 209) (lo' := [some (.ref v0), some (.int v1), none, none]) (st' := [.ref v0]) (μ' := μ) rfl ?_
  obtain ⟨x7, hx7, h⟩ := Option.bind_eq_some_iff.mp h
  refine xr_opI (pc' := 212) (lo' := [some (.ref v0), some (.int v1), none, none]) (st' := []) (o := ldF μ v0 9 26) rfl hx7 ?_
  refine xr_go 1 (pc' := 213) (lo' := [some (.ref v0), some (.int v1), none, none]) (st' := [.ref v0, .int x7]) (μ' := μ) rfl ?_
  obtain ⟨x8, hx8, h⟩ := Option.bind_eq_some_iff.mp h
  refine xr_opI (pc' := 216) (lo' := [some (.ref v0), some (.int v1), none, none]) (st' := [.int x7]) (o := ldF μ v0 9 27) rfl hx8 ?_
  refine xr_icmp (pct := 223) rfl rfl rfl (fun hc => ?_) (fun hc => ?_)
  · replace h := (if_pos (of_decide_eq_true hc)).symm.trans h
    refine xr_go 1 (pc' := 224) (lo' := [some (.ref v0), some (.int v1), none, none]) (st' := [.int (xc 0)]) (μ' := μ) rfl ?_
    refine xr_forget (lo := [some (.ref v0), some (.int v1), none, none]) ⟨rfl, rfl, trivial⟩ ?_
    exact fM_readPicture_224_ok h hK
  · replace h := (if_neg (of_decide_eq_false hc)).symm.trans h
    refine xr_go 2 (pc' := 224) (lo' := [some (.ref v0), some (.int v1), none, none]) (st' := [.int (xc 1)]) (μ' := μ) rfl ?_
    refine xr_forget (lo := [some (.ref v0), some (.int v1), none, none]) ⟨rfl, rfl, trivial⟩ ?_
    exact fM_readPicture_224_ok h hK
noncomputable def fM_readPicture_157  (v0 : Nat) (v1 : Int32) (v3 : Int32) (s0 : Int32) (s1 : Nat) (μ : xM) : Option ((Int32 × xM) ⊕ (Int32 × xM)) := (stFZ μ s1 9 28 s0).bind fun μ9 => (ldF μ9 v0 9 28).bind fun x10 => if x10 = 0 then ((ldFR μ9 v0 9 15).bind fun x11 => (ldFR μ9 v0 9 14).bind fun x12 => (ldA μ9 x12 v1).bind fun x13 => (stA μ9 x11 (((xc 3) * v1) + x13) ((v3 - (xc 97)) + (xc 2))).bind fun μ14 => (ldFR μ14 v0 9 14).bind fun x15 => (ldA μ14 x15 v1).bind fun x16 => (stA μ14 x15 v1 (x16 + (xc 1))).bind fun μ17 => (ldF μ17 v0 9 26).bind fun x18 => (stF μ17 v0 9 26 (x18 + (xc 1))).bind fun μ19 => fM_readPicture_208 v0 v1 μ19) else (fM_readPicture_208 v0 v1 μ9)
theorem fM_readPicture_157_ok {d : Nat} {v0 : Nat} {v1 : Int32} {v3 : Int32} {s0 : Int32} {s1 : Nat} {μ : xM} {rv : Option Value} {μf : xM} {out : (Int32 × xM) ⊕ (Int32 × xM)} (h : fM_readPicture_157 v0 v1 v3 s0 s1 μ = some out) (hK : fM_readPicture_K104 v0 v1 d rv μf out) : xRun (d + 3) 159 157 [some (.ref v0), some (.int v1), none, some (.int v3)] [.int s0, .ref s1] μ rv μf := by
  unfold fM_readPicture_157 at h
  obtain ⟨μ9, hμ9, h⟩ := Option.bind_eq_some_iff.mp h
  refine xr_opM (pc' := 160) (lo' := [some (.ref v0), some (.int v1), none, some (.int v3)]) (st' := []) (o := stFZ μ s1 9 28 s0) rfl hμ9 ?_
  refine xr_go 1 (pc' := 161) (lo' := [some (.ref v0), some (.int v1), none, some (.int v3)]) (st' := [.ref v0]) (μ' := μ9) rfl ?_
  obtain ⟨x10, hx10, h⟩ := Option.bind_eq_some_iff.mp h
  refine xr_opI (pc' := 164) (lo' := [some (.ref v0), some (.int v1), none, some (.int v3)]) (st' := []) (o := ldF μ9 v0 9 28) rfl hx10 ?_
  refine xr_ifc (pct := 208) rfl rfl rfl (fun hc => ?_) (fun hc => ?_)
  · replace h := (if_neg (of_decide_eq_true hc)).symm.trans h
    refine xr_forget (lo := [some (.ref v0), some (.int v1), none, none]) ⟨rfl, rfl, trivial⟩ ?_
    exact fM_readPicture_208_ok h hK
  · replace h := (if_pos (Decidable.of_not_not (of_decide_eq_false hc))).symm.trans h
    refine xr_go 1 (pc' := 168) (lo' := [some (.ref v0), some (.int v1), none, some (.int v3)]) (st' := [.ref v0]) (μ' := μ9) rfl ?_
    obtain ⟨x11, hx11, h⟩ := Option.bind_eq_some_iff.mp h
    refine xr_opA (pc' := 171) (lo' := [some (.ref v0), some (.int v1), none, some (.int v3)]) (st' := []) (o := ldFR μ9 v0 9 15) rfl hx11 ?_
    refine xr_go 4 (pc' := 175) (lo' := [some (.ref v0), some (.int v1), none, some (.int v3)]) (st' := [.ref v0, .int ((xc 3) * v1), .ref x11]) (μ' := μ9) rfl ?_
    obtain ⟨x12, hx12, h⟩ := Option.bind_eq_some_iff.mp h
    refine xr_opA (pc' := 178) (lo' := [some (.ref v0), some (.int v1), none, some (.int v3)]) (st' := [.int ((xc 3) * v1), .ref x11]) (o := ldFR μ9 v0 9 14) rfl hx12 ?_
    refine xr_go 1 (pc' := 179) (lo' := [some (.ref v0), some (.int v1), none, some (.int v3)]) (st' := [.int v1, .ref x12, .int ((xc 3) * v1), .ref x11]) (μ' := μ9) rfl ?_
    obtain ⟨x13, hx13, h⟩ := Option.bind_eq_some_iff.mp h
    refine xr_opI (pc' := 180) (lo' := [some (.ref v0), some (.int v1), none, some (.int v3)]) (st' := [.int ((xc 3) * v1), .ref x11]) (o := ldA μ9 x12 v1) rfl hx13 ?_
    refine xr_go 6 (pc' := 187) (lo' := [some (.ref v0), some (.int v1), none, some (.int v3)]) (st' := [.int ((v3 - (xc 97)) + (xc 2)), .int (((xc 3) * v1) + x13), .ref x11]) (μ' := μ9) rfl ?_
    obtain ⟨μ14, hμ14, h⟩ := Option.bind_eq_some_iff.mp h
    refine xr_opM (pc' := 188) (lo' := [some (.ref v0), some (.int v1), none, some (.int v3)]) (st' := []) (o := stA μ9 x11 (((xc 3) * v1) + x13) ((v3 - (xc 97)) + (xc 2))) rfl hμ14 ?_
    refine xr_go 1 (pc' := 189) (lo' := [some (.ref v0), some (.int v1), none, some (.int v3)]) (st' := [.ref v0]) (μ' := μ14) rfl ?_
    obtain ⟨x15, hx15, h⟩ := Option.bind_eq_some_iff.mp h
    refine xr_opA (pc' := 192) (lo' := [some (.ref v0), some (.int v1), none, some (.int v3)]) (st' := []) (o := ldFR μ14 v0 9 14) rfl hx15 ?_
    refine xr_go 2 (pc' := 194) (lo' := [some (.ref v0), some (.int v1), none, some (.int v3)]) (st' := [.int v1, .ref x15, .int v1, .ref x15]) (μ' := μ14) rfl ?_
    obtain ⟨x16, hx16, h⟩ := Option.bind_eq_some_iff.mp h
    refine xr_opI (pc' := 195) (lo' := [some (.ref v0), some (.int v1), none, some (.int v3)]) (st' := [.int v1, .ref x15]) (o := ldA μ14 x15 v1) rfl hx16 ?_
    refine xr_go 2 (pc' := 197) (lo' := [some (.ref v0), some (.int v1), none, some (.int v3)]) (st' := [.int (x16 + (xc 1)), .int v1, .ref x15]) (μ' := μ14) rfl ?_
    obtain ⟨μ17, hμ17, h⟩ := Option.bind_eq_some_iff.mp h
    refine xr_opM (pc' := 198) (lo' := [some (.ref v0), some (.int v1), none, some (.int v3)]) (st' := []) (o := stA μ14 x15 v1 (x16 + (xc 1))) rfl hμ17 ?_
    refine xr_go 2 (pc' := 200) (lo' := [some (.ref v0), some (.int v1), none, some (.int v3)]) (st' := [.ref v0, .ref v0]) (μ' := μ17) rfl ?_
    obtain ⟨x18, hx18, h⟩ := Option.bind_eq_some_iff.mp h
    refine xr_opI (pc' := 203) (lo' := [some (.ref v0), some (.int v1), none, some (.int v3)]) (st' := [.ref v0]) (o := ldF μ17 v0 9 26) rfl hx18 ?_
    refine xr_go 2 (pc' := 205) (lo' := [some (.ref v0), some (.int v1), none, some (.int v3)]) (st' := [.int (x18 + (xc 1)), .ref v0]) (μ' := μ17) rfl ?_
    obtain ⟨μ19, hμ19, h⟩ := Option.bind_eq_some_iff.mp h
    refine xr_opM (pc' := 208) (lo' := [some (.ref v0), some (.int v1), none, some (.int v3)]) (st' := []) (o := stF μ17 v0 9 26 (x18 + (xc 1))) rfl hμ19 ?_
    refine xr_forget (lo := [some (.ref v0), some (.int v1), none, none]) ⟨rfl, rfl, trivial⟩ ?_
    exact fM_readPicture_208_ok h hK
noncomputable def fM_readPicture_152  (v0 : Nat) (v1 : Int32) (v3 : Int32) (s0 : Nat) (μ : xM) : Option ((Int32 × xM) ⊕ (Int32 × xM)) := fM_readPicture_157 v0 v1 v3 (xc 1) s0 μ
theorem fM_readPicture_152_ok {d : Nat} {v0 : Nat} {v1 : Int32} {v3 : Int32} {s0 : Nat} {μ : xM} {rv : Option Value} {μf : xM} {out : (Int32 × xM) ⊕ (Int32 × xM)} (h : fM_readPicture_152 v0 v1 v3 s0 μ = some out) (hK : fM_readPicture_K104 v0 v1 d rv μf out) : xRun (d + 3) 159 152 [some (.ref v0), some (.int v1), none, some (.int v3)] [.ref s0] μ rv μf := by
  unfold fM_readPicture_152 at h
  refine xr_go 2 (pc' := 157) (lo' := [some (.ref v0), some (.int v1), none, some (.int v3)]) (st' := [.int (xc 1), .ref s0]) (μ' := μ) rfl ?_
  refine xr_forget (lo := [some (.ref v0), some (.int v1), none, some (.int v3)]) ⟨rfl, rfl, rfl, trivial⟩ ?_
  exact fM_readPicture_157_ok h hK
noncomputable def fM_readPicture_L104  (v0 : Nat) (v1 : Int32) (v2 : Int32) (μ : xM) : Option ((Int32 × xM) ⊕ (Int32 × xM)) := (ldF μ v0 9 28).bind fun x20 => if x20 = 0 then (if v2 = 0 then ((fM_readPicture_228 v0 μ).map (fun o => .inr o)) else ((fM_here v0 μ).bind fun r21 => (ldFR μ v0 9 14).bind fun x22 => (ldA μ x22 v1).bind fun x23 => if x23 = (xc 3) then (fM_readPicture_152 v0 v1 r21 v0 μ) else ((fM_isName r21 μ).bind fun r24 => if r24 = 0 then (fM_readPicture_152 v0 v1 r21 v0 μ) else ((fM_stands v0 v1 ((r21 - (xc 97)) + (xc 2)) μ).bind fun r25 => if r25 = 0 then (fM_readPicture_152 v0 v1 r21 v0 μ) else (fM_readPicture_157 v0 v1 r21 (xc 0) v0 μ))))) else ((fM_readPicture_228 v0 μ).map (fun o => .inr o))
theorem fM_readPicture_L104_ok {d : Nat} {v0 : Nat} {v1 : Int32} {v2 : Int32} {μ : xM} {rv : Option Value} {μf : xM} {out : (Int32 × xM) ⊕ (Int32 × xM)} (h : fM_readPicture_L104 v0 v1 v2 μ = some out) (hK : fM_readPicture_K104 v0 v1 d rv μf out) : xRun (d + 3) 159 104 [some (.ref v0), some (.int v1), some (.int v2), none] [] μ rv μf := by
  unfold fM_readPicture_L104 at h
  refine xr_go 1 (pc' := 105) (lo' := [some (.ref v0), some (.int v1), some (.int v2), none]) (st' := [.ref v0]) (μ' := μ) rfl ?_
  obtain ⟨x20, hx20, h⟩ := Option.bind_eq_some_iff.mp h
  refine xr_opI (pc' := 108) (lo' := [some (.ref v0), some (.int v1), some (.int v2), none]) (st' := []) (o := ldF μ v0 9 28) rfl hx20 ?_
  refine xr_ifc (pct := 228) rfl rfl rfl (fun hc => ?_) (fun hc => ?_)
  · replace h := (if_neg (of_decide_eq_true hc)).symm.trans h
    refine xr_forget (lo := [some (.ref v0), none, none, none]) ⟨rfl, trivial⟩ ?_
    obtain ⟨o, h2, rfl⟩ := Option.map_eq_some_iff.mp h
    exact fM_readPicture_228_ok h2 hK
  · replace h := (if_pos (Decidable.of_not_not (of_decide_eq_false hc))).symm.trans h
    refine xr_go 1 (pc' := 112) (lo' := [some (.ref v0), some (.int v1), some (.int v2), none]) (st' := [.int v2]) (μ' := μ) rfl ?_
    refine xr_ifc (pct := 228) rfl rfl rfl (fun hc => ?_) (fun hc => ?_)
    · replace h := (if_pos (of_decide_eq_true hc)).symm.trans h
      refine xr_forget (lo := [some (.ref v0), none, none, none]) ⟨rfl, trivial⟩ ?_
      obtain ⟨o, h2, rfl⟩ := Option.map_eq_some_iff.mp h
      exact fM_readPicture_228_ok h2 hK
    · replace h := (if_neg (of_decide_eq_false hc)).symm.trans h
      refine xr_go 1 (pc' := 116) (lo' := [some (.ref v0), some (.int v1), some (.int v2), none]) (st' := [.ref v0]) (μ' := μ) rfl ?_
      obtain ⟨r21, hr21, h⟩ := Option.bind_eq_some_iff.mp h
      refine xr_callV (j := 154) (d' := (d + 2)) (rv1 := some (.int r21)) (μ1 := μ) (rest := []) (As := []) rfl rfl rfl rfl (Nat.le_of_ble_eq_true rfl) (fM_here_kd hr21) rfl (by exact (fM_here_ok (d := d + (2)) hr21)) ?_
      refine xr_go 3 (pc' := 122) (lo' := [some (.ref v0), some (.int v1), some (.int v2), some (.int r21)]) (st' := [.ref v0, .ref v0]) (μ' := μ) rfl ?_
      obtain ⟨x22, hx22, h⟩ := Option.bind_eq_some_iff.mp h
      refine xr_opA (pc' := 125) (lo' := [some (.ref v0), some (.int v1), some (.int v2), some (.int r21)]) (st' := [.ref v0]) (o := ldFR μ v0 9 14) rfl hx22 ?_
      refine xr_go 1 (pc' := 126) (lo' := [some (.ref v0), some (.int v1), some (.int v2), some (.int r21)]) (st' := [.int v1, .ref x22, .ref v0]) (μ' := μ) rfl ?_
      obtain ⟨x23, hx23, h⟩ := Option.bind_eq_some_iff.mp h
      refine xr_opI (pc' := 127) (lo' := [some (.ref v0), some (.int v1), some (.int v2), some (.int r21)]) (st' := [.ref v0]) (o := ldA μ x22 v1) rfl hx23 ?_
      refine xr_go 1 (pc' := 128) (lo' := [some (.ref v0), some (.int v1), some (.int v2), some (.int r21)]) (st' := [.int (xc 3), .int x23, .ref v0]) (μ' := μ) rfl ?_
      refine xr_icmp (pct := 152) rfl rfl rfl (fun hc => ?_) (fun hc => ?_)
      · replace h := (if_pos (of_decide_eq_true hc)).symm.trans h
        refine xr_forget (lo := [some (.ref v0), some (.int v1), none, some (.int r21)]) ⟨rfl, rfl, rfl, trivial⟩ ?_
        exact fM_readPicture_152_ok h hK
      · replace h := (if_neg (of_decide_eq_false hc)).symm.trans h
        refine xr_go 1 (pc' := 132) (lo' := [some (.ref v0), some (.int v1), some (.int v2), some (.int r21)]) (st' := [.int r21, .ref v0]) (μ' := μ) rfl ?_
        obtain ⟨r24, hr24, h⟩ := Option.bind_eq_some_iff.mp h
        refine xr_callS (j := 155) (d' := (d + 2)) (rv1 := some (.int r24)) (μ1 := μ) (rest := [.ref v0]) (As := [.int r21]) rfl rfl rfl rfl (Nat.le_of_ble_eq_true rfl) rfl (by exact (fM_isName_ok (d := d + (2)) hr24)) ?_
        refine xr_ifc (pct := 152) rfl rfl rfl (fun hc => ?_) (fun hc => ?_)
        · replace h := (if_pos (of_decide_eq_true hc)).symm.trans h
          refine xr_forget (lo := [some (.ref v0), some (.int v1), none, some (.int r21)]) ⟨rfl, rfl, rfl, trivial⟩ ?_
          exact fM_readPicture_152_ok h hK
        · replace h := (if_neg (of_decide_eq_false hc)).symm.trans h
          refine xr_go 7 (pc' := 146) (lo' := [some (.ref v0), some (.int v1), some (.int v2), some (.int r21)]) (st' := [.int ((r21 - (xc 97)) + (xc 2)), .int v1, .ref v0, .ref v0]) (μ' := μ) rfl ?_
          obtain ⟨r25, hr25, h⟩ := Option.bind_eq_some_iff.mp h
          refine xr_callV (j := 158) (d' := (d + 2)) (rv1 := some (.int r25)) (μ1 := μ) (rest := [.ref v0]) (As := [.int v1, .int ((r21 - (xc 97)) + (xc 2))]) rfl rfl rfl rfl (Nat.le_of_ble_eq_true rfl) (fM_stands_kd hr25) rfl (by exact (fM_stands_ok (d := d + (2)) hr25)) ?_
          refine xr_ifc (pct := 156) rfl rfl rfl (fun hc => ?_) (fun hc => ?_)
          · replace h := (if_neg (of_decide_eq_true hc)).symm.trans h
            refine xr_go 1 (pc' := 157) (lo' := [some (.ref v0), some (.int v1), some (.int v2), some (.int r21)]) (st' := [.int (xc 0), .ref v0]) (μ' := μ) rfl ?_
            refine xr_forget (lo := [some (.ref v0), some (.int v1), none, some (.int r21)]) ⟨rfl, rfl, rfl, trivial⟩ ?_
            exact fM_readPicture_157_ok h hK
          · replace h := (if_pos (Decidable.of_not_not (of_decide_eq_false hc))).symm.trans h
            refine xr_forget (lo := [some (.ref v0), some (.int v1), none, some (.int r21)]) ⟨rfl, rfl, rfl, trivial⟩ ?_
            exact fM_readPicture_152_ok h hK
theorem fM_readPicture_L104_lp {d : Nat} {v0 : Nat} {v1 : Int32} {v2 : Int32} {μ : xM} {rv : Option Value} {μf : xM} {out : Int32 × xM} (h : xwh (fun s : Int32 × xM => fM_readPicture_L104 v0 v1 s.1 s.2) (v2, μ) = some out) (hK : fM_readPicture_K rv μf out) : xRun (d + 3) 159 104 [some (.ref v0), some (.int v1), some (.int v2), none] [] μ rv μf :=
  xwh_ind (Rh := fun s : Int32 × xM => xRun (d + 3) 159 104 [some (.ref v0), some (.int v1), some (.int s.1), none] [] s.2 rv μf) (Co := fM_readPicture_K rv μf) (fun s o hb hk => fM_readPicture_L104_ok hb hk) h hK
noncomputable def fM_readPicture_76  (v0 : Nat) (v1 : Int32) (μ : xM) : Option (Int32 × xM) := (ldF μ v0 9 28).bind fun x26 => if x26 = 0 then ((fM_here v0 μ).bind fun r27 => if r27 = (xc 58) then ((ldF μ v0 9 26).bind fun x28 => (stF μ v0 9 26 (x28 + (xc 1))).bind fun μ29 => xwh (fun s : Int32 × xM => fM_readPicture_L104 v0 v1 s.1 s.2) (xc 1, μ29)) else (fM_readPicture_228 v0 μ)) else (fM_readPicture_228 v0 μ)
theorem fM_readPicture_76_ok {d : Nat} {v0 : Nat} {v1 : Int32} {μ : xM} {rv : Option Value} {μf : xM} {out : Int32 × xM} (h : fM_readPicture_76 v0 v1 μ = some out) (hK : fM_readPicture_K rv μf out) : xRun (d + 3) 159 76 [some (.ref v0), some (.int v1), none, none] [] μ rv μf := by
  unfold fM_readPicture_76 at h
  refine xr_go 1 (pc' := 77) (lo' := [some (.ref v0), some (.int v1), none, none]) (st' := [.ref v0]) (μ' := μ) rfl ?_
  obtain ⟨x26, hx26, h⟩ := Option.bind_eq_some_iff.mp h
  refine xr_opI (pc' := 80) (lo' := [some (.ref v0), some (.int v1), none, none]) (st' := []) (o := ldF μ v0 9 28) rfl hx26 ?_
  refine xr_ifc (pct := 228) rfl rfl rfl (fun hc => ?_) (fun hc => ?_)
  · replace h := (if_neg (of_decide_eq_true hc)).symm.trans h
    refine xr_forget (lo := [some (.ref v0), none, none, none]) ⟨rfl, trivial⟩ ?_
    exact fM_readPicture_228_ok h hK
  · replace h := (if_pos (Decidable.of_not_not (of_decide_eq_false hc))).symm.trans h
    refine xr_go 1 (pc' := 84) (lo' := [some (.ref v0), some (.int v1), none, none]) (st' := [.ref v0]) (μ' := μ) rfl ?_
    obtain ⟨r27, hr27, h⟩ := Option.bind_eq_some_iff.mp h
    refine xr_callV (j := 154) (d' := (d + 2)) (rv1 := some (.int r27)) (μ1 := μ) (rest := []) (As := []) rfl rfl rfl rfl (Nat.le_of_ble_eq_true rfl) (fM_here_kd hr27) rfl (by exact (fM_here_ok (d := d + (2)) hr27)) ?_
    refine xr_go 1 (pc' := 89) (lo' := [some (.ref v0), some (.int v1), none, none]) (st' := [.int (xc 58), .int r27]) (μ' := μ) rfl ?_
    refine xr_icmp (pct := 228) rfl rfl rfl (fun hc => ?_) (fun hc => ?_)
    · replace h := (if_neg (of_decide_eq_true hc)).symm.trans h
      refine xr_forget (lo := [some (.ref v0), none, none, none]) ⟨rfl, trivial⟩ ?_
      exact fM_readPicture_228_ok h hK
    · replace h := (if_pos (Decidable.of_not_not (of_decide_eq_false hc))).symm.trans h
      refine xr_go 2 (pc' := 94) (lo' := [some (.ref v0), some (.int v1), none, none]) (st' := [.ref v0, .ref v0]) (μ' := μ) rfl ?_
      obtain ⟨x28, hx28, h⟩ := Option.bind_eq_some_iff.mp h
      refine xr_opI (pc' := 97) (lo' := [some (.ref v0), some (.int v1), none, none]) (st' := [.ref v0]) (o := ldF μ v0 9 26) rfl hx28 ?_
      refine xr_go 2 (pc' := 99) (lo' := [some (.ref v0), some (.int v1), none, none]) (st' := [.int (x28 + (xc 1)), .ref v0]) (μ' := μ) rfl ?_
      obtain ⟨μ29, hμ29, h⟩ := Option.bind_eq_some_iff.mp h
      refine xr_opM (pc' := 102) (lo' := [some (.ref v0), some (.int v1), none, none]) (st' := []) (o := stF μ v0 9 26 (x28 + (xc 1))) rfl hμ29 ?_
      refine xr_go 2 (pc' := 104) (lo' := [some (.ref v0), some (.int v1), some (.int (xc 1)), none]) (st' := []) (μ' := μ29) rfl ?_
      refine xr_forget (lo := [some (.ref v0), some (.int v1), some (.int (xc 1)), none]) ⟨rfl, rfl, rfl, trivial⟩ ?_
      exact fM_readPicture_L104_lp h hK
noncomputable def fM_readPicture_L42  (v0 : Nat) (v1 : Int32) (μ : xM) : Option ((xM) ⊕ (Int32 × xM)) := (ldF μ v0 9 28).bind fun x30 => if x30 = 0 then ((fM_here v0 μ).bind fun r31 => if r31 = (xc 44) then ((ldF μ v0 9 26).bind fun x32 => (stF μ v0 9 26 (x32 + (xc 1))).bind fun μ33 => (fM_readRow v0 v1 μ33).bind fun r34 => some (.inl ((r34)))) else ((fM_readPicture_76 v0 v1 μ).map (fun o => .inr o))) else ((fM_readPicture_76 v0 v1 μ).map (fun o => .inr o))
theorem fM_readPicture_L42_ok {d : Nat} {v0 : Nat} {v1 : Int32} {μ : xM} {rv : Option Value} {μf : xM} {out : (xM) ⊕ (Int32 × xM)} (h : fM_readPicture_L42 v0 v1 μ = some out) (hK : fM_readPicture_K42 v0 v1 d rv μf out) : xRun (d + 3) 159 42 [some (.ref v0), some (.int v1), none, none] [] μ rv μf := by
  unfold fM_readPicture_L42 at h
  refine xr_go 1 (pc' := 43) (lo' := [some (.ref v0), some (.int v1), none, none]) (st' := [.ref v0]) (μ' := μ) rfl ?_
  obtain ⟨x30, hx30, h⟩ := Option.bind_eq_some_iff.mp h
  refine xr_opI (pc' := 46) (lo' := [some (.ref v0), some (.int v1), none, none]) (st' := []) (o := ldF μ v0 9 28) rfl hx30 ?_
  refine xr_ifc (pct := 76) rfl rfl rfl (fun hc => ?_) (fun hc => ?_)
  · replace h := (if_neg (of_decide_eq_true hc)).symm.trans h
    refine xr_forget (lo := [some (.ref v0), some (.int v1), none, none]) ⟨rfl, rfl, trivial⟩ ?_
    obtain ⟨o, h2, rfl⟩ := Option.map_eq_some_iff.mp h
    exact fM_readPicture_76_ok h2 hK
  · replace h := (if_pos (Decidable.of_not_not (of_decide_eq_false hc))).symm.trans h
    refine xr_go 1 (pc' := 50) (lo' := [some (.ref v0), some (.int v1), none, none]) (st' := [.ref v0]) (μ' := μ) rfl ?_
    obtain ⟨r31, hr31, h⟩ := Option.bind_eq_some_iff.mp h
    refine xr_callV (j := 154) (d' := (d + 2)) (rv1 := some (.int r31)) (μ1 := μ) (rest := []) (As := []) rfl rfl rfl rfl (Nat.le_of_ble_eq_true rfl) (fM_here_kd hr31) rfl (by exact (fM_here_ok (d := d + (2)) hr31)) ?_
    refine xr_go 1 (pc' := 55) (lo' := [some (.ref v0), some (.int v1), none, none]) (st' := [.int (xc 44), .int r31]) (μ' := μ) rfl ?_
    refine xr_icmp (pct := 76) rfl rfl rfl (fun hc => ?_) (fun hc => ?_)
    · replace h := (if_neg (of_decide_eq_true hc)).symm.trans h
      refine xr_forget (lo := [some (.ref v0), some (.int v1), none, none]) ⟨rfl, rfl, trivial⟩ ?_
      obtain ⟨o, h2, rfl⟩ := Option.map_eq_some_iff.mp h
      exact fM_readPicture_76_ok h2 hK
    · replace h := (if_pos (Decidable.of_not_not (of_decide_eq_false hc))).symm.trans h
      refine xr_go 2 (pc' := 60) (lo' := [some (.ref v0), some (.int v1), none, none]) (st' := [.ref v0, .ref v0]) (μ' := μ) rfl ?_
      obtain ⟨x32, hx32, h⟩ := Option.bind_eq_some_iff.mp h
      refine xr_opI (pc' := 63) (lo' := [some (.ref v0), some (.int v1), none, none]) (st' := [.ref v0]) (o := ldF μ v0 9 26) rfl hx32 ?_
      refine xr_go 2 (pc' := 65) (lo' := [some (.ref v0), some (.int v1), none, none]) (st' := [.int (x32 + (xc 1)), .ref v0]) (μ' := μ) rfl ?_
      obtain ⟨μ33, hμ33, h⟩ := Option.bind_eq_some_iff.mp h
      refine xr_opM (pc' := 68) (lo' := [some (.ref v0), some (.int v1), none, none]) (st' := []) (o := stF μ v0 9 26 (x32 + (xc 1))) rfl hμ33 ?_
      refine xr_go 2 (pc' := 70) (lo' := [some (.ref v0), some (.int v1), none, none]) (st' := [.int v1, .ref v0]) (μ' := μ33) rfl ?_
      obtain ⟨r34, hr34, h⟩ := Option.bind_eq_some_iff.mp h
      refine xr_callV (j := 157) (d' := (d + 2)) (rv1 := none) (μ1 := r34) (rest := []) (As := [.int v1]) rfl rfl rfl rfl (Nat.le_of_ble_eq_true rfl) (fM_readRow_kd hr34) rfl (by exact (fM_readRow_ok (d := d + (0)) hr34)) ?_
      refine xr_go 1 (pc' := 42) (lo' := [some (.ref v0), some (.int v1), none, none]) (st' := []) (μ' := r34) rfl ?_
      refine xr_forget (lo := [some (.ref v0), some (.int v1), none, none]) ⟨rfl, rfl, trivial⟩ ?_
      have ho := Option.some.inj h
      subst ho
      exact hK
theorem fM_readPicture_L42_lp {d : Nat} {v0 : Nat} {v1 : Int32} {μ : xM} {rv : Option Value} {μf : xM} {out : Int32 × xM} (h : xwh (fun s : xM => fM_readPicture_L42 v0 v1 s) (μ) = some out) (hK : fM_readPicture_K rv μf out) : xRun (d + 3) 159 42 [some (.ref v0), some (.int v1), none, none] [] μ rv μf :=
  xwh_ind (Rh := fun s : xM => xRun (d + 3) 159 42 [some (.ref v0), some (.int v1), none, none] [] s rv μf) (Co := fM_readPicture_K rv μf) (fun s o hb hk => fM_readPicture_L42_ok hb hk) h hK
noncomputable def fM_readPicture_0  (v0 : Nat) (v1 : Int32) (μ : xM) : Option (Int32 × xM) := (ldF μ v0 9 7).bind fun x35 => (stF μ v0 9 27 x35).bind fun μ36 => (stF μ36 v0 9 7 (xc 0)).bind fun μ37 => (stF μ37 v0 9 26 (xc 0)).bind fun μ38 => (stFZ μ38 v0 9 28 (xc 0)).bind fun μ39 => (ldFR μ39 v0 9 10).bind fun x40 => (stA μ39 x40 v1 (xc 0)).bind fun μ41 => (ldFR μ41 v0 9 14).bind fun x42 => (stA μ41 x42 v1 (xc 0)).bind fun μ43 => (fM_readRow v0 v1 μ43).bind fun r44 => xwh (fun s : xM => fM_readPicture_L42 v0 v1 s) (r44)
theorem fM_readPicture_0_ok {d : Nat} {v0 : Nat} {v1 : Int32} {μ : xM} {rv : Option Value} {μf : xM} {out : Int32 × xM} (h : fM_readPicture_0 v0 v1 μ = some out) (hK : fM_readPicture_K rv μf out) : xRun (d + 3) 159 0 [some (.ref v0), some (.int v1), none, none] [] μ rv μf := by
  unfold fM_readPicture_0 at h
  refine xr_go 2 (pc' := 2) (lo' := [some (.ref v0), some (.int v1), none, none]) (st' := [.ref v0, .ref v0]) (μ' := μ) rfl ?_
  obtain ⟨x35, hx35, h⟩ := Option.bind_eq_some_iff.mp h
  refine xr_opI (pc' := 5) (lo' := [some (.ref v0), some (.int v1), none, none]) (st' := [.ref v0]) (o := ldF μ v0 9 7) rfl hx35 ?_
  obtain ⟨μ36, hμ36, h⟩ := Option.bind_eq_some_iff.mp h
  refine xr_opM (pc' := 8) (lo' := [some (.ref v0), some (.int v1), none, none]) (st' := []) (o := stF μ v0 9 27 x35) rfl hμ36 ?_
  refine xr_go 2 (pc' := 10) (lo' := [some (.ref v0), some (.int v1), none, none]) (st' := [.int (xc 0), .ref v0]) (μ' := μ36) rfl ?_
  obtain ⟨μ37, hμ37, h⟩ := Option.bind_eq_some_iff.mp h
  refine xr_opM (pc' := 13) (lo' := [some (.ref v0), some (.int v1), none, none]) (st' := []) (o := stF μ36 v0 9 7 (xc 0)) rfl hμ37 ?_
  refine xr_go 2 (pc' := 15) (lo' := [some (.ref v0), some (.int v1), none, none]) (st' := [.int (xc 0), .ref v0]) (μ' := μ37) rfl ?_
  obtain ⟨μ38, hμ38, h⟩ := Option.bind_eq_some_iff.mp h
  refine xr_opM (pc' := 18) (lo' := [some (.ref v0), some (.int v1), none, none]) (st' := []) (o := stF μ37 v0 9 26 (xc 0)) rfl hμ38 ?_
  refine xr_go 2 (pc' := 20) (lo' := [some (.ref v0), some (.int v1), none, none]) (st' := [.int (xc 0), .ref v0]) (μ' := μ38) rfl ?_
  obtain ⟨μ39, hμ39, h⟩ := Option.bind_eq_some_iff.mp h
  refine xr_opM (pc' := 23) (lo' := [some (.ref v0), some (.int v1), none, none]) (st' := []) (o := stFZ μ38 v0 9 28 (xc 0)) rfl hμ39 ?_
  refine xr_go 1 (pc' := 24) (lo' := [some (.ref v0), some (.int v1), none, none]) (st' := [.ref v0]) (μ' := μ39) rfl ?_
  obtain ⟨x40, hx40, h⟩ := Option.bind_eq_some_iff.mp h
  refine xr_opA (pc' := 27) (lo' := [some (.ref v0), some (.int v1), none, none]) (st' := []) (o := ldFR μ39 v0 9 10) rfl hx40 ?_
  refine xr_go 2 (pc' := 29) (lo' := [some (.ref v0), some (.int v1), none, none]) (st' := [.int (xc 0), .int v1, .ref x40]) (μ' := μ39) rfl ?_
  obtain ⟨μ41, hμ41, h⟩ := Option.bind_eq_some_iff.mp h
  refine xr_opM (pc' := 30) (lo' := [some (.ref v0), some (.int v1), none, none]) (st' := []) (o := stA μ39 x40 v1 (xc 0)) rfl hμ41 ?_
  refine xr_go 1 (pc' := 31) (lo' := [some (.ref v0), some (.int v1), none, none]) (st' := [.ref v0]) (μ' := μ41) rfl ?_
  obtain ⟨x42, hx42, h⟩ := Option.bind_eq_some_iff.mp h
  refine xr_opA (pc' := 34) (lo' := [some (.ref v0), some (.int v1), none, none]) (st' := []) (o := ldFR μ41 v0 9 14) rfl hx42 ?_
  refine xr_go 2 (pc' := 36) (lo' := [some (.ref v0), some (.int v1), none, none]) (st' := [.int (xc 0), .int v1, .ref x42]) (μ' := μ41) rfl ?_
  obtain ⟨μ43, hμ43, h⟩ := Option.bind_eq_some_iff.mp h
  refine xr_opM (pc' := 37) (lo' := [some (.ref v0), some (.int v1), none, none]) (st' := []) (o := stA μ41 x42 v1 (xc 0)) rfl hμ43 ?_
  refine xr_go 2 (pc' := 39) (lo' := [some (.ref v0), some (.int v1), none, none]) (st' := [.int v1, .ref v0]) (μ' := μ43) rfl ?_
  obtain ⟨r44, hr44, h⟩ := Option.bind_eq_some_iff.mp h
  refine xr_callV (j := 157) (d' := (d + 2)) (rv1 := none) (μ1 := r44) (rest := []) (As := [.int v1]) rfl rfl rfl rfl (Nat.le_of_ble_eq_true rfl) (fM_readRow_kd hr44) rfl (by exact (fM_readRow_ok (d := d + (0)) hr44)) ?_
  refine xr_forget (lo := [some (.ref v0), some (.int v1), none, none]) ⟨rfl, rfl, trivial⟩ ?_
  exact fM_readPicture_L42_lp h hK
noncomputable def fM_readPicture (a0 : Nat) (a1 : Int32) (μ : xM) : Option (Int32 × xM) := xgd μ a0 9 (fM_readPicture_0 a0 a1 μ)
theorem fM_readPicture_kd {a0 : Nat} {a1 : Int32} {μ : xM} {o : Int32 × xM} (h : fM_readPicture a0 a1 μ = some o) : (xK μ a0).1 = 10 + 9 := (xgd_some h).1
theorem fM_readPicture_ok {d : Nat} {a0 : Nat} {a1 : Int32} {μ : xM} {o : Int32 × xM} (h : fM_readPicture a0 a1 μ = some o) : xRun (d + 3) 159 0 [some (.ref a0), some (.int a1), none, none] [] μ (some (.int o.1)) o.2 :=
  xr_forget (lo := [some (.ref a0), some (.int a1), none, none]) (⟨rfl, rfl, trivial⟩) (fM_readPicture_0_ok (d := d) (xgd_some h).2 (show fM_readPicture_K _ _ o from ⟨rfl, rfl⟩))
-- KeptAnswersModel.ask()I 
def fM_ask_K (rv : Option Value) (μf : xM) : (Int32 × xM) → Prop := fun o => rv = some (.int o.1) ∧ μf = o.2
noncomputable def fM_ask_0  (v0 : Nat) (μ : xM) : Option (Int32 × xM) := (ldF μ v0 9 8).bind fun x1 => if x1 = (xc 10) then ((fM_refuse v0 (xc (-6)) μ).bind fun r10 => some ((r10.1, r10.2))) else ((ldF μ v0 9 8).bind fun x2 => (fM_readPicture v0 x2 μ).bind fun r3 => if r3.1 < 0 then ((ldFR r3.2 v0 9 17).bind fun x4 => (ldF r3.2 v0 9 8).bind fun x5 => (stA r3.2 x4 x5 (xc 0)).bind fun μ6 => (ldF μ6 v0 9 8).bind fun x7 => (stF μ6 v0 9 8 (x7 + (xc 1))).bind fun μ8 => (ldF μ8 v0 9 8).bind fun x9 => some ((x9 - (xc 1), μ8))) else (some (((xc (-20)) - r3.1, r3.2))))
theorem fM_ask_0_ok {d : Nat} {v0 : Nat} {μ : xM} {rv : Option Value} {μf : xM} {out : Int32 × xM} (h : fM_ask_0 v0 μ = some out) (hK : fM_ask_K rv μf out) : xRun (d + 4) 160 0 [some (.ref v0), none] [] μ rv μf := by
  unfold fM_ask_0 at h
  refine xr_go 1 (pc' := 1) (lo' := [some (.ref v0), none]) (st' := [.ref v0]) (μ' := μ) rfl ?_
  obtain ⟨x1, hx1, h⟩ := Option.bind_eq_some_iff.mp h
  refine xr_opI (pc' := 4) (lo' := [some (.ref v0), none]) (st' := []) (o := ldF μ v0 9 8) rfl hx1 ?_
  refine xr_go 1 (pc' := 6) (lo' := [some (.ref v0), none]) (st' := [.int (xc 10), .int x1]) (μ' := μ) rfl ?_
  refine xr_icmp (pct := 16) rfl rfl rfl (fun hc => ?_) (fun hc => ?_)
  · replace h := (if_neg (of_decide_eq_true hc)).symm.trans h
    refine xr_go 2 (pc' := 18) (lo' := [some (.ref v0), none]) (st' := [.ref v0, .ref v0]) (μ' := μ) rfl ?_
    obtain ⟨x2, hx2, h⟩ := Option.bind_eq_some_iff.mp h
    refine xr_opI (pc' := 21) (lo' := [some (.ref v0), none]) (st' := [.ref v0]) (o := ldF μ v0 9 8) rfl hx2 ?_
    obtain ⟨r3, hr3, h⟩ := Option.bind_eq_some_iff.mp h
    refine xr_callV (j := 159) (d' := (d + 3)) (rv1 := some (.int r3.1)) (μ1 := r3.2) (rest := []) (As := [.int x2]) rfl rfl rfl rfl (Nat.le_of_ble_eq_true rfl) (fM_readPicture_kd hr3) rfl (by exact (fM_readPicture_ok (d := d + (0)) hr3)) ?_
    refine xr_go 2 (pc' := 26) (lo' := [some (.ref v0), some (.int r3.1)]) (st' := [.int r3.1]) (μ' := r3.2) rfl ?_
    refine xr_ifc (pct := 34) rfl rfl rfl (fun hc => ?_) (fun hc => ?_)
    · replace h := (if_pos (of_decide_eq_true hc)).symm.trans h
      refine xr_go 1 (pc' := 35) (lo' := [some (.ref v0), some (.int r3.1)]) (st' := [.ref v0]) (μ' := r3.2) rfl ?_
      obtain ⟨x4, hx4, h⟩ := Option.bind_eq_some_iff.mp h
      refine xr_opA (pc' := 38) (lo' := [some (.ref v0), some (.int r3.1)]) (st' := []) (o := ldFR r3.2 v0 9 17) rfl hx4 ?_
      refine xr_go 1 (pc' := 39) (lo' := [some (.ref v0), some (.int r3.1)]) (st' := [.ref v0, .ref x4]) (μ' := r3.2) rfl ?_
      obtain ⟨x5, hx5, h⟩ := Option.bind_eq_some_iff.mp h
      refine xr_opI (pc' := 42) (lo' := [some (.ref v0), some (.int r3.1)]) (st' := [.ref x4]) (o := ldF r3.2 v0 9 8) rfl hx5 ?_
      refine xr_go 1 (pc' := 43) (lo' := [some (.ref v0), some (.int r3.1)]) (st' := [.int (xc 0), .int x5, .ref x4]) (μ' := r3.2) rfl ?_
      obtain ⟨μ6, hμ6, h⟩ := Option.bind_eq_some_iff.mp h
      refine xr_opM (pc' := 44) (lo' := [some (.ref v0), some (.int r3.1)]) (st' := []) (o := stA r3.2 x4 x5 (xc 0)) rfl hμ6 ?_
      refine xr_go 2 (pc' := 46) (lo' := [some (.ref v0), some (.int r3.1)]) (st' := [.ref v0, .ref v0]) (μ' := μ6) rfl ?_
      obtain ⟨x7, hx7, h⟩ := Option.bind_eq_some_iff.mp h
      refine xr_opI (pc' := 49) (lo' := [some (.ref v0), some (.int r3.1)]) (st' := [.ref v0]) (o := ldF μ6 v0 9 8) rfl hx7 ?_
      refine xr_go 2 (pc' := 51) (lo' := [some (.ref v0), some (.int r3.1)]) (st' := [.int (x7 + (xc 1)), .ref v0]) (μ' := μ6) rfl ?_
      obtain ⟨μ8, hμ8, h⟩ := Option.bind_eq_some_iff.mp h
      refine xr_opM (pc' := 54) (lo' := [some (.ref v0), some (.int r3.1)]) (st' := []) (o := stF μ6 v0 9 8 (x7 + (xc 1))) rfl hμ8 ?_
      refine xr_go 1 (pc' := 55) (lo' := [some (.ref v0), some (.int r3.1)]) (st' := [.ref v0]) (μ' := μ8) rfl ?_
      obtain ⟨x9, hx9, h⟩ := Option.bind_eq_some_iff.mp h
      refine xr_opI (pc' := 58) (lo' := [some (.ref v0), some (.int r3.1)]) (st' := []) (o := ldF μ8 v0 9 8) rfl hx9 ?_
      refine xr_go 2 (pc' := 60) (lo' := [some (.ref v0), some (.int r3.1)]) (st' := [.int (x9 - (xc 1))]) (μ' := μ8) rfl ?_
      have ho := Option.some.inj h
      subst ho
      obtain ⟨rfl, rfl⟩ := hK
      exact xr_ret (rv := some (.int (x9 - (xc 1)))) rfl rfl (Or.inl rfl)
    · replace h := (if_neg (of_decide_eq_false hc)).symm.trans h
      refine xr_go 3 (pc' := 33) (lo' := [some (.ref v0), some (.int r3.1)]) (st' := [.int ((xc (-20)) - r3.1)]) (μ' := r3.2) rfl ?_
      have ho := Option.some.inj h
      subst ho
      obtain ⟨rfl, rfl⟩ := hK
      exact xr_ret (rv := some (.int ((xc (-20)) - r3.1))) rfl rfl (Or.inl rfl)
  · replace h := (if_pos (Decidable.of_not_not (of_decide_eq_false hc))).symm.trans h
    refine xr_go 2 (pc' := 12) (lo' := [some (.ref v0), none]) (st' := [.int (xc (-6)), .ref v0]) (μ' := μ) rfl ?_
    obtain ⟨r10, hr10, h⟩ := Option.bind_eq_some_iff.mp h
    refine xr_callV (j := 138) (d' := (d + 3)) (rv1 := some (.int r10.1)) (μ1 := r10.2) (rest := []) (As := [.int (xc (-6))]) rfl rfl rfl rfl (Nat.le_of_ble_eq_true rfl) (fM_refuse_kd hr10) rfl (by exact (fM_refuse_ok (d := d + (3)) hr10)) ?_
    have ho := Option.some.inj h
    subst ho
    obtain ⟨rfl, rfl⟩ := hK
    exact xr_ret (rv := some (.int r10.1)) rfl rfl (Or.inl rfl)
noncomputable def fM_ask (a0 : Nat) (μ : xM) : Option (Int32 × xM) := xgd μ a0 9 (fM_ask_0 a0 μ)
theorem fM_ask_kd {a0 : Nat} {μ : xM} {o : Int32 × xM} (h : fM_ask a0 μ = some o) : (xK μ a0).1 = 10 + 9 := (xgd_some h).1
theorem fM_ask_ok {d : Nat} {a0 : Nat} {μ : xM} {o : Int32 × xM} (h : fM_ask a0 μ = some o) : xRun (d + 4) 160 0 [some (.ref a0), none] [] μ (some (.int o.1)) o.2 :=
  xr_forget (lo := [some (.ref a0), none]) (⟨rfl, trivial⟩) (fM_ask_0_ok (d := d) (xgd_some h).2 (show fM_ask_K _ _ o from ⟨rfl, rfl⟩))
-- KeptAnswers.view()I 
def fX_view_K (rv : Option Value) (μf : xM) : (Int32 × xM) → Prop := fun o => rv = some (.int o.1) ∧ μf = o.2
noncomputable def fX_view_0  (v0 : Nat) (μ : xM) : Option (Int32 × xM) := (ldFR μ v0 0 0).bind fun x1 => (ldF μ x1 3 3).bind fun x2 => if x2 < (xc 6) then ((ldFR μ v0 0 3).bind fun x3 => (ldFR μ v0 0 0).bind fun x4 => (ldFR μ x4 3 9).bind fun x5 => (ldFR μ v0 0 0).bind fun x6 => (ldF μ x6 3 3).bind fun x7 => (ldAR μ x5 x7).bind fun x8 => (fT_parseInto x3 x8 μ).bind fun r9 => (ldFR r9.2 v0 0 3).bind fun x10 => (stF r9.2 x10 7 1 (xc 0)).bind fun μ11 => if r9.1 < 0 then ((ldFR μ11 v0 0 0).bind fun x12 => (ldF μ11 x12 3 3).bind fun x13 => (stF μ11 x12 3 3 (x13 + (xc 1))).bind fun μ14 => (fX_forgetSights v0 μ14).bind fun r15 => (ldFR r15 v0 0 0).bind fun x16 => (ldF r15 x16 3 3).bind fun x17 => some ((x17 - (xc 1), r15))) else (some (((xc (-20)) - r9.1, μ11)))) else ((fX_refuse v0 (xc (-6)) μ).bind fun r18 => some ((r18.1, r18.2)))
theorem fX_view_0_ok {d : Nat} {v0 : Nat} {μ : xM} {rv : Option Value} {μf : xM} {out : Int32 × xM} (h : fX_view_0 v0 μ = some out) (hK : fX_view_K rv μf out) : xRun (d + 3) 10 0 [some (.ref v0), none] [] μ rv μf := by
  unfold fX_view_0 at h
  refine xr_go 1 (pc' := 1) (lo' := [some (.ref v0), none]) (st' := [.ref v0]) (μ' := μ) rfl ?_
  obtain ⟨x1, hx1, h⟩ := Option.bind_eq_some_iff.mp h
  refine xr_opA (pc' := 4) (lo' := [some (.ref v0), none]) (st' := []) (o := ldFR μ v0 0 0) rfl hx1 ?_
  obtain ⟨x2, hx2, h⟩ := Option.bind_eq_some_iff.mp h
  refine xr_opI (pc' := 7) (lo' := [some (.ref v0), none]) (st' := []) (o := ldF μ x1 3 3) rfl hx2 ?_
  refine xr_go 1 (pc' := 9) (lo' := [some (.ref v0), none]) (st' := [.int (xc 6), .int x2]) (μ' := μ) rfl ?_
  refine xr_icmp (pct := 19) rfl rfl rfl (fun hc => ?_) (fun hc => ?_)
  · replace h := (if_pos (of_decide_eq_true hc)).symm.trans h
    refine xr_go 1 (pc' := 20) (lo' := [some (.ref v0), none]) (st' := [.ref v0]) (μ' := μ) rfl ?_
    obtain ⟨x3, hx3, h⟩ := Option.bind_eq_some_iff.mp h
    refine xr_opA (pc' := 23) (lo' := [some (.ref v0), none]) (st' := []) (o := ldFR μ v0 0 3) rfl hx3 ?_
    refine xr_go 1 (pc' := 24) (lo' := [some (.ref v0), none]) (st' := [.ref v0, .ref x3]) (μ' := μ) rfl ?_
    obtain ⟨x4, hx4, h⟩ := Option.bind_eq_some_iff.mp h
    refine xr_opA (pc' := 27) (lo' := [some (.ref v0), none]) (st' := [.ref x3]) (o := ldFR μ v0 0 0) rfl hx4 ?_
    obtain ⟨x5, hx5, h⟩ := Option.bind_eq_some_iff.mp h
    refine xr_opA (pc' := 30) (lo' := [some (.ref v0), none]) (st' := [.ref x3]) (o := ldFR μ x4 3 9) rfl hx5 ?_
    refine xr_go 1 (pc' := 31) (lo' := [some (.ref v0), none]) (st' := [.ref v0, .ref x5, .ref x3]) (μ' := μ) rfl ?_
    obtain ⟨x6, hx6, h⟩ := Option.bind_eq_some_iff.mp h
    refine xr_opA (pc' := 34) (lo' := [some (.ref v0), none]) (st' := [.ref x5, .ref x3]) (o := ldFR μ v0 0 0) rfl hx6 ?_
    obtain ⟨x7, hx7, h⟩ := Option.bind_eq_some_iff.mp h
    refine xr_opI (pc' := 37) (lo' := [some (.ref v0), none]) (st' := [.ref x5, .ref x3]) (o := ldF μ x6 3 3) rfl hx7 ?_
    obtain ⟨x8, hx8, h⟩ := Option.bind_eq_some_iff.mp h
    refine xr_opA (pc' := 38) (lo' := [some (.ref v0), none]) (st' := [.ref x3]) (o := ldAR μ x5 x7) rfl hx8 ?_
    obtain ⟨r9, hr9, h⟩ := Option.bind_eq_some_iff.mp h
    refine xr_callV (j := 118) (d' := (d + 2)) (rv1 := some (.int r9.1)) (μ1 := r9.2) (rest := []) (As := [.ref x8]) rfl rfl rfl rfl (Nat.le_of_ble_eq_true rfl) (fT_parseInto_kd hr9) rfl (by exact (fT_parseInto_ok (d := d + (0)) hr9)) ?_
    refine xr_go 2 (pc' := 43) (lo' := [some (.ref v0), some (.int r9.1)]) (st' := [.ref v0]) (μ' := r9.2) rfl ?_
    obtain ⟨x10, hx10, h⟩ := Option.bind_eq_some_iff.mp h
    refine xr_opA (pc' := 46) (lo' := [some (.ref v0), some (.int r9.1)]) (st' := []) (o := ldFR r9.2 v0 0 3) rfl hx10 ?_
    refine xr_go 1 (pc' := 47) (lo' := [some (.ref v0), some (.int r9.1)]) (st' := [.int (xc 0), .ref x10]) (μ' := r9.2) rfl ?_
    obtain ⟨μ11, hμ11, h⟩ := Option.bind_eq_some_iff.mp h
    refine xr_opM (pc' := 50) (lo' := [some (.ref v0), some (.int r9.1)]) (st' := []) (o := stF r9.2 x10 7 1 (xc 0)) rfl hμ11 ?_
    refine xr_go 1 (pc' := 51) (lo' := [some (.ref v0), some (.int r9.1)]) (st' := [.int r9.1]) (μ' := μ11) rfl ?_
    refine xr_ifc (pct := 59) rfl rfl rfl (fun hc => ?_) (fun hc => ?_)
    · replace h := (if_pos (of_decide_eq_true hc)).symm.trans h
      refine xr_go 1 (pc' := 60) (lo' := [some (.ref v0), some (.int r9.1)]) (st' := [.ref v0]) (μ' := μ11) rfl ?_
      obtain ⟨x12, hx12, h⟩ := Option.bind_eq_some_iff.mp h
      refine xr_opA (pc' := 63) (lo' := [some (.ref v0), some (.int r9.1)]) (st' := []) (o := ldFR μ11 v0 0 0) rfl hx12 ?_
      refine xr_go 1 (pc' := 64) (lo' := [some (.ref v0), some (.int r9.1)]) (st' := [.ref x12, .ref x12]) (μ' := μ11) rfl ?_
      obtain ⟨x13, hx13, h⟩ := Option.bind_eq_some_iff.mp h
      refine xr_opI (pc' := 67) (lo' := [some (.ref v0), some (.int r9.1)]) (st' := [.ref x12]) (o := ldF μ11 x12 3 3) rfl hx13 ?_
      refine xr_go 2 (pc' := 69) (lo' := [some (.ref v0), some (.int r9.1)]) (st' := [.int (x13 + (xc 1)), .ref x12]) (μ' := μ11) rfl ?_
      obtain ⟨μ14, hμ14, h⟩ := Option.bind_eq_some_iff.mp h
      refine xr_opM (pc' := 72) (lo' := [some (.ref v0), some (.int r9.1)]) (st' := []) (o := stF μ11 x12 3 3 (x13 + (xc 1))) rfl hμ14 ?_
      refine xr_go 1 (pc' := 73) (lo' := [some (.ref v0), some (.int r9.1)]) (st' := [.ref v0]) (μ' := μ14) rfl ?_
      obtain ⟨r15, hr15, h⟩ := Option.bind_eq_some_iff.mp h
      refine xr_callV (j := 46) (d' := (d + 2)) (rv1 := none) (μ1 := r15) (rest := []) (As := []) rfl rfl rfl rfl (Nat.le_of_ble_eq_true rfl) (fX_forgetSights_kd hr15) rfl (by exact (fX_forgetSights_ok (d := d + (1)) hr15)) ?_
      refine xr_go 1 (pc' := 77) (lo' := [some (.ref v0), some (.int r9.1)]) (st' := [.ref v0]) (μ' := r15) rfl ?_
      obtain ⟨x16, hx16, h⟩ := Option.bind_eq_some_iff.mp h
      refine xr_opA (pc' := 80) (lo' := [some (.ref v0), some (.int r9.1)]) (st' := []) (o := ldFR r15 v0 0 0) rfl hx16 ?_
      obtain ⟨x17, hx17, h⟩ := Option.bind_eq_some_iff.mp h
      refine xr_opI (pc' := 83) (lo' := [some (.ref v0), some (.int r9.1)]) (st' := []) (o := ldF r15 x16 3 3) rfl hx17 ?_
      refine xr_go 2 (pc' := 85) (lo' := [some (.ref v0), some (.int r9.1)]) (st' := [.int (x17 - (xc 1))]) (μ' := r15) rfl ?_
      have ho := Option.some.inj h
      subst ho
      obtain ⟨rfl, rfl⟩ := hK
      exact xr_ret (rv := some (.int (x17 - (xc 1)))) rfl rfl (Or.inl rfl)
    · replace h := (if_neg (of_decide_eq_false hc)).symm.trans h
      refine xr_go 3 (pc' := 58) (lo' := [some (.ref v0), some (.int r9.1)]) (st' := [.int ((xc (-20)) - r9.1)]) (μ' := μ11) rfl ?_
      have ho := Option.some.inj h
      subst ho
      obtain ⟨rfl, rfl⟩ := hK
      exact xr_ret (rv := some (.int ((xc (-20)) - r9.1))) rfl rfl (Or.inl rfl)
  · replace h := (if_neg (of_decide_eq_false hc)).symm.trans h
    refine xr_go 2 (pc' := 15) (lo' := [some (.ref v0), none]) (st' := [.int (xc (-6)), .ref v0]) (μ' := μ) rfl ?_
    obtain ⟨r18, hr18, h⟩ := Option.bind_eq_some_iff.mp h
    refine xr_callV (j := 37) (d' := (d + 2)) (rv1 := some (.int r18.1)) (μ1 := r18.2) (rest := []) (As := [.int (xc (-6))]) rfl rfl rfl rfl (Nat.le_of_ble_eq_true rfl) (fX_refuse_kd hr18) rfl (by exact (fX_refuse_ok (d := d + (2)) hr18)) ?_
    have ho := Option.some.inj h
    subst ho
    obtain ⟨rfl, rfl⟩ := hK
    exact xr_ret (rv := some (.int r18.1)) rfl rfl (Or.inl rfl)
noncomputable def fX_view (a0 : Nat) (μ : xM) : Option (Int32 × xM) := xgd μ a0 0 (fX_view_0 a0 μ)
theorem fX_view_kd {a0 : Nat} {μ : xM} {o : Int32 × xM} (h : fX_view a0 μ = some o) : (xK μ a0).1 = 10 + 0 := (xgd_some h).1
theorem fX_view_ok {d : Nat} {a0 : Nat} {μ : xM} {o : Int32 × xM} (h : fX_view a0 μ = some o) : xRun (d + 3) 10 0 [some (.ref a0), none] [] μ (some (.int o.1)) o.2 :=
  xr_forget (lo := [some (.ref a0), none]) (⟨rfl, trivial⟩) (fX_view_0_ok (d := d) (xgd_some h).2 (show fX_view_K _ _ o from ⟨rfl, rfl⟩))
-- KeptAnswersModel.view()I 
def fM_view_K (rv : Option Value) (μf : xM) : (Int32 × xM) → Prop := fun o => rv = some (.int o.1) ∧ μf = o.2
noncomputable def fM_view_0  (v0 : Nat) (μ : xM) : Option (Int32 × xM) := (ldF μ v0 9 9).bind fun x1 => if x1 = (xc 6) then ((fM_refuse v0 (xc (-6)) μ).bind fun r25 => some ((r25.1, r25.2))) else ((ldF μ v0 9 9).bind fun x2 => (fM_readPicture v0 ((xc 10) + x2) μ).bind fun r3 => if r3.1 < 0 then ((ldFR r3.2 v0 9 16).bind fun x4 => (ldF r3.2 v0 9 9).bind fun x5 => (stA r3.2 x4 x5 (xc (-1))).bind fun μ6 => (ldFR μ6 v0 9 18).bind fun x7 => (ldF μ6 v0 9 9).bind fun x8 => (stA μ6 x7 x8 (xc 0)).bind fun μ9 => (ldFR μ9 v0 9 19).bind fun x10 => (ldF μ9 v0 9 9).bind fun x11 => (stA μ9 x10 x11 (xc 0)).bind fun μ12 => (ldFR μ12 v0 9 20).bind fun x13 => (ldF μ12 v0 9 9).bind fun x14 => (stA μ12 x13 x14 (xc 0)).bind fun μ15 => (ldFR μ15 v0 9 21).bind fun x16 => (ldF μ15 v0 9 9).bind fun x17 => (stA μ15 x16 x17 (xc 0)).bind fun μ18 => (ldFR μ18 v0 9 22).bind fun x19 => (ldF μ18 v0 9 9).bind fun x20 => (stAZ μ18 x19 x20 (xc 0)).bind fun μ21 => (ldF μ21 v0 9 9).bind fun x22 => (stF μ21 v0 9 9 (x22 + (xc 1))).bind fun μ23 => (ldF μ23 v0 9 9).bind fun x24 => some ((x24 - (xc 1), μ23))) else (some (((xc (-20)) - r3.1, r3.2))))
theorem fM_view_0_ok {d : Nat} {v0 : Nat} {μ : xM} {rv : Option Value} {μf : xM} {out : Int32 × xM} (h : fM_view_0 v0 μ = some out) (hK : fM_view_K rv μf out) : xRun (d + 4) 161 0 [some (.ref v0), none] [] μ rv μf := by
  unfold fM_view_0 at h
  refine xr_go 1 (pc' := 1) (lo' := [some (.ref v0), none]) (st' := [.ref v0]) (μ' := μ) rfl ?_
  obtain ⟨x1, hx1, h⟩ := Option.bind_eq_some_iff.mp h
  refine xr_opI (pc' := 4) (lo' := [some (.ref v0), none]) (st' := []) (o := ldF μ v0 9 9) rfl hx1 ?_
  refine xr_go 1 (pc' := 6) (lo' := [some (.ref v0), none]) (st' := [.int (xc 6), .int x1]) (μ' := μ) rfl ?_
  refine xr_icmp (pct := 16) rfl rfl rfl (fun hc => ?_) (fun hc => ?_)
  · replace h := (if_neg (of_decide_eq_true hc)).symm.trans h
    refine xr_go 3 (pc' := 20) (lo' := [some (.ref v0), none]) (st' := [.ref v0, .int (xc 10), .ref v0]) (μ' := μ) rfl ?_
    obtain ⟨x2, hx2, h⟩ := Option.bind_eq_some_iff.mp h
    refine xr_opI (pc' := 23) (lo' := [some (.ref v0), none]) (st' := [.int (xc 10), .ref v0]) (o := ldF μ v0 9 9) rfl hx2 ?_
    refine xr_go 1 (pc' := 24) (lo' := [some (.ref v0), none]) (st' := [.int ((xc 10) + x2), .ref v0]) (μ' := μ) rfl ?_
    obtain ⟨r3, hr3, h⟩ := Option.bind_eq_some_iff.mp h
    refine xr_callV (j := 159) (d' := (d + 3)) (rv1 := some (.int r3.1)) (μ1 := r3.2) (rest := []) (As := [.int ((xc 10) + x2)]) rfl rfl rfl rfl (Nat.le_of_ble_eq_true rfl) (fM_readPicture_kd hr3) rfl (by exact (fM_readPicture_ok (d := d + (0)) hr3)) ?_
    refine xr_go 2 (pc' := 29) (lo' := [some (.ref v0), some (.int r3.1)]) (st' := [.int r3.1]) (μ' := r3.2) rfl ?_
    refine xr_ifc (pct := 37) rfl rfl rfl (fun hc => ?_) (fun hc => ?_)
    · replace h := (if_pos (of_decide_eq_true hc)).symm.trans h
      refine xr_go 1 (pc' := 38) (lo' := [some (.ref v0), some (.int r3.1)]) (st' := [.ref v0]) (μ' := r3.2) rfl ?_
      obtain ⟨x4, hx4, h⟩ := Option.bind_eq_some_iff.mp h
      refine xr_opA (pc' := 41) (lo' := [some (.ref v0), some (.int r3.1)]) (st' := []) (o := ldFR r3.2 v0 9 16) rfl hx4 ?_
      refine xr_go 1 (pc' := 42) (lo' := [some (.ref v0), some (.int r3.1)]) (st' := [.ref v0, .ref x4]) (μ' := r3.2) rfl ?_
      obtain ⟨x5, hx5, h⟩ := Option.bind_eq_some_iff.mp h
      refine xr_opI (pc' := 45) (lo' := [some (.ref v0), some (.int r3.1)]) (st' := [.ref x4]) (o := ldF r3.2 v0 9 9) rfl hx5 ?_
      refine xr_go 1 (pc' := 46) (lo' := [some (.ref v0), some (.int r3.1)]) (st' := [.int (xc (-1)), .int x5, .ref x4]) (μ' := r3.2) rfl ?_
      obtain ⟨μ6, hμ6, h⟩ := Option.bind_eq_some_iff.mp h
      refine xr_opM (pc' := 47) (lo' := [some (.ref v0), some (.int r3.1)]) (st' := []) (o := stA r3.2 x4 x5 (xc (-1))) rfl hμ6 ?_
      refine xr_go 1 (pc' := 48) (lo' := [some (.ref v0), some (.int r3.1)]) (st' := [.ref v0]) (μ' := μ6) rfl ?_
      obtain ⟨x7, hx7, h⟩ := Option.bind_eq_some_iff.mp h
      refine xr_opA (pc' := 51) (lo' := [some (.ref v0), some (.int r3.1)]) (st' := []) (o := ldFR μ6 v0 9 18) rfl hx7 ?_
      refine xr_go 1 (pc' := 52) (lo' := [some (.ref v0), some (.int r3.1)]) (st' := [.ref v0, .ref x7]) (μ' := μ6) rfl ?_
      obtain ⟨x8, hx8, h⟩ := Option.bind_eq_some_iff.mp h
      refine xr_opI (pc' := 55) (lo' := [some (.ref v0), some (.int r3.1)]) (st' := [.ref x7]) (o := ldF μ6 v0 9 9) rfl hx8 ?_
      refine xr_go 1 (pc' := 56) (lo' := [some (.ref v0), some (.int r3.1)]) (st' := [.int (xc 0), .int x8, .ref x7]) (μ' := μ6) rfl ?_
      obtain ⟨μ9, hμ9, h⟩ := Option.bind_eq_some_iff.mp h
      refine xr_opM (pc' := 57) (lo' := [some (.ref v0), some (.int r3.1)]) (st' := []) (o := stA μ6 x7 x8 (xc 0)) rfl hμ9 ?_
      refine xr_go 1 (pc' := 58) (lo' := [some (.ref v0), some (.int r3.1)]) (st' := [.ref v0]) (μ' := μ9) rfl ?_
      obtain ⟨x10, hx10, h⟩ := Option.bind_eq_some_iff.mp h
      refine xr_opA (pc' := 61) (lo' := [some (.ref v0), some (.int r3.1)]) (st' := []) (o := ldFR μ9 v0 9 19) rfl hx10 ?_
      refine xr_go 1 (pc' := 62) (lo' := [some (.ref v0), some (.int r3.1)]) (st' := [.ref v0, .ref x10]) (μ' := μ9) rfl ?_
      obtain ⟨x11, hx11, h⟩ := Option.bind_eq_some_iff.mp h
      refine xr_opI (pc' := 65) (lo' := [some (.ref v0), some (.int r3.1)]) (st' := [.ref x10]) (o := ldF μ9 v0 9 9) rfl hx11 ?_
      refine xr_go 1 (pc' := 66) (lo' := [some (.ref v0), some (.int r3.1)]) (st' := [.int (xc 0), .int x11, .ref x10]) (μ' := μ9) rfl ?_
      obtain ⟨μ12, hμ12, h⟩ := Option.bind_eq_some_iff.mp h
      refine xr_opM (pc' := 67) (lo' := [some (.ref v0), some (.int r3.1)]) (st' := []) (o := stA μ9 x10 x11 (xc 0)) rfl hμ12 ?_
      refine xr_go 1 (pc' := 68) (lo' := [some (.ref v0), some (.int r3.1)]) (st' := [.ref v0]) (μ' := μ12) rfl ?_
      obtain ⟨x13, hx13, h⟩ := Option.bind_eq_some_iff.mp h
      refine xr_opA (pc' := 71) (lo' := [some (.ref v0), some (.int r3.1)]) (st' := []) (o := ldFR μ12 v0 9 20) rfl hx13 ?_
      refine xr_go 1 (pc' := 72) (lo' := [some (.ref v0), some (.int r3.1)]) (st' := [.ref v0, .ref x13]) (μ' := μ12) rfl ?_
      obtain ⟨x14, hx14, h⟩ := Option.bind_eq_some_iff.mp h
      refine xr_opI (pc' := 75) (lo' := [some (.ref v0), some (.int r3.1)]) (st' := [.ref x13]) (o := ldF μ12 v0 9 9) rfl hx14 ?_
      refine xr_go 1 (pc' := 76) (lo' := [some (.ref v0), some (.int r3.1)]) (st' := [.int (xc 0), .int x14, .ref x13]) (μ' := μ12) rfl ?_
      obtain ⟨μ15, hμ15, h⟩ := Option.bind_eq_some_iff.mp h
      refine xr_opM (pc' := 77) (lo' := [some (.ref v0), some (.int r3.1)]) (st' := []) (o := stA μ12 x13 x14 (xc 0)) rfl hμ15 ?_
      refine xr_go 1 (pc' := 78) (lo' := [some (.ref v0), some (.int r3.1)]) (st' := [.ref v0]) (μ' := μ15) rfl ?_
      obtain ⟨x16, hx16, h⟩ := Option.bind_eq_some_iff.mp h
      refine xr_opA (pc' := 81) (lo' := [some (.ref v0), some (.int r3.1)]) (st' := []) (o := ldFR μ15 v0 9 21) rfl hx16 ?_
      refine xr_go 1 (pc' := 82) (lo' := [some (.ref v0), some (.int r3.1)]) (st' := [.ref v0, .ref x16]) (μ' := μ15) rfl ?_
      obtain ⟨x17, hx17, h⟩ := Option.bind_eq_some_iff.mp h
      refine xr_opI (pc' := 85) (lo' := [some (.ref v0), some (.int r3.1)]) (st' := [.ref x16]) (o := ldF μ15 v0 9 9) rfl hx17 ?_
      refine xr_go 1 (pc' := 86) (lo' := [some (.ref v0), some (.int r3.1)]) (st' := [.int (xc 0), .int x17, .ref x16]) (μ' := μ15) rfl ?_
      obtain ⟨μ18, hμ18, h⟩ := Option.bind_eq_some_iff.mp h
      refine xr_opM (pc' := 87) (lo' := [some (.ref v0), some (.int r3.1)]) (st' := []) (o := stA μ15 x16 x17 (xc 0)) rfl hμ18 ?_
      refine xr_go 1 (pc' := 88) (lo' := [some (.ref v0), some (.int r3.1)]) (st' := [.ref v0]) (μ' := μ18) rfl ?_
      obtain ⟨x19, hx19, h⟩ := Option.bind_eq_some_iff.mp h
      refine xr_opA (pc' := 91) (lo' := [some (.ref v0), some (.int r3.1)]) (st' := []) (o := ldFR μ18 v0 9 22) rfl hx19 ?_
      refine xr_go 1 (pc' := 92) (lo' := [some (.ref v0), some (.int r3.1)]) (st' := [.ref v0, .ref x19]) (μ' := μ18) rfl ?_
      obtain ⟨x20, hx20, h⟩ := Option.bind_eq_some_iff.mp h
      refine xr_opI (pc' := 95) (lo' := [some (.ref v0), some (.int r3.1)]) (st' := [.ref x19]) (o := ldF μ18 v0 9 9) rfl hx20 ?_
      refine xr_go 1 (pc' := 96) (lo' := [some (.ref v0), some (.int r3.1)]) (st' := [.int (xc 0), .int x20, .ref x19]) (μ' := μ18) rfl ?_
      obtain ⟨μ21, hμ21, h⟩ := Option.bind_eq_some_iff.mp h
      refine xr_opM (pc' := 97) (lo' := [some (.ref v0), some (.int r3.1)]) (st' := []) (o := stAZ μ18 x19 x20 (xc 0)) rfl hμ21 ?_
      refine xr_go 2 (pc' := 99) (lo' := [some (.ref v0), some (.int r3.1)]) (st' := [.ref v0, .ref v0]) (μ' := μ21) rfl ?_
      obtain ⟨x22, hx22, h⟩ := Option.bind_eq_some_iff.mp h
      refine xr_opI (pc' := 102) (lo' := [some (.ref v0), some (.int r3.1)]) (st' := [.ref v0]) (o := ldF μ21 v0 9 9) rfl hx22 ?_
      refine xr_go 2 (pc' := 104) (lo' := [some (.ref v0), some (.int r3.1)]) (st' := [.int (x22 + (xc 1)), .ref v0]) (μ' := μ21) rfl ?_
      obtain ⟨μ23, hμ23, h⟩ := Option.bind_eq_some_iff.mp h
      refine xr_opM (pc' := 107) (lo' := [some (.ref v0), some (.int r3.1)]) (st' := []) (o := stF μ21 v0 9 9 (x22 + (xc 1))) rfl hμ23 ?_
      refine xr_go 1 (pc' := 108) (lo' := [some (.ref v0), some (.int r3.1)]) (st' := [.ref v0]) (μ' := μ23) rfl ?_
      obtain ⟨x24, hx24, h⟩ := Option.bind_eq_some_iff.mp h
      refine xr_opI (pc' := 111) (lo' := [some (.ref v0), some (.int r3.1)]) (st' := []) (o := ldF μ23 v0 9 9) rfl hx24 ?_
      refine xr_go 2 (pc' := 113) (lo' := [some (.ref v0), some (.int r3.1)]) (st' := [.int (x24 - (xc 1))]) (μ' := μ23) rfl ?_
      have ho := Option.some.inj h
      subst ho
      obtain ⟨rfl, rfl⟩ := hK
      exact xr_ret (rv := some (.int (x24 - (xc 1)))) rfl rfl (Or.inl rfl)
    · replace h := (if_neg (of_decide_eq_false hc)).symm.trans h
      refine xr_go 3 (pc' := 36) (lo' := [some (.ref v0), some (.int r3.1)]) (st' := [.int ((xc (-20)) - r3.1)]) (μ' := r3.2) rfl ?_
      have ho := Option.some.inj h
      subst ho
      obtain ⟨rfl, rfl⟩ := hK
      exact xr_ret (rv := some (.int ((xc (-20)) - r3.1))) rfl rfl (Or.inl rfl)
  · replace h := (if_pos (Decidable.of_not_not (of_decide_eq_false hc))).symm.trans h
    refine xr_go 2 (pc' := 12) (lo' := [some (.ref v0), none]) (st' := [.int (xc (-6)), .ref v0]) (μ' := μ) rfl ?_
    obtain ⟨r25, hr25, h⟩ := Option.bind_eq_some_iff.mp h
    refine xr_callV (j := 138) (d' := (d + 3)) (rv1 := some (.int r25.1)) (μ1 := r25.2) (rest := []) (As := [.int (xc (-6))]) rfl rfl rfl rfl (Nat.le_of_ble_eq_true rfl) (fM_refuse_kd hr25) rfl (by exact (fM_refuse_ok (d := d + (3)) hr25)) ?_
    have ho := Option.some.inj h
    subst ho
    obtain ⟨rfl, rfl⟩ := hK
    exact xr_ret (rv := some (.int r25.1)) rfl rfl (Or.inl rfl)
noncomputable def fM_view (a0 : Nat) (μ : xM) : Option (Int32 × xM) := xgd μ a0 9 (fM_view_0 a0 μ)
theorem fM_view_kd {a0 : Nat} {μ : xM} {o : Int32 × xM} (h : fM_view a0 μ = some o) : (xK μ a0).1 = 10 + 9 := (xgd_some h).1
theorem fM_view_ok {d : Nat} {a0 : Nat} {μ : xM} {o : Int32 × xM} (h : fM_view a0 μ = some o) : xRun (d + 4) 161 0 [some (.ref a0), none] [] μ (some (.int o.1)) o.2 :=
  xr_forget (lo := [some (.ref a0), none]) (⟨rfl, trivial⟩) (fM_view_0_ok (d := d) (xgd_some h).2 (show fM_view_K _ _ o from ⟨rfl, rfl⟩))
-- KeptAnswers.isView(I)Z 
def fX_isView_K (μ : xM) (rv : Option Value) (μf : xM) : (Int32) → Prop := fun o => rv = some (.int o) ∧ μf = μ
noncomputable def fX_isView_19  (μ : xM) : Option (Int32) := some (xc 0)
theorem fX_isView_19_ok {d : Nat} {μ : xM} {rv : Option Value} {μf : xM} {out : Int32} (h : fX_isView_19 μ = some out) (hK : fX_isView_K μ rv μf out) : xRun (d + 0) 40 19 [none, none] [] μ rv μf := by
  unfold fX_isView_19 at h
  refine xr_go 1 (pc' := 20) (lo' := [none, none]) (st' := [.int (xc 0)]) (μ' := μ) rfl ?_
  have ho := Option.some.inj h
  subst ho
  obtain ⟨rfl, rfl⟩ := hK
  exact xr_ret (rv := some (.int (xc 0))) rfl rfl (Or.inr ⟨rfl, Or.inl rfl⟩)
noncomputable def fX_isView_0  (v0 : Nat) (v1 : Int32) (μ : xM) : Option (Int32) := if v1 < 0 then (fX_isView_19 μ) else ((ldFR μ v0 0 0).bind fun x1 => (ldF μ x1 3 3).bind fun x2 => if x2 ≤ v1 then (fX_isView_19 μ) else (some (xc 1)))
theorem fX_isView_0_ok {d : Nat} {v0 : Nat} {v1 : Int32} {μ : xM} {rv : Option Value} {μf : xM} {out : Int32} (h : fX_isView_0 v0 v1 μ = some out) (hK : fX_isView_K μ rv μf out) : xRun (d + 0) 40 0 [some (.ref v0), some (.int v1)] [] μ rv μf := by
  unfold fX_isView_0 at h
  refine xr_go 1 (pc' := 1) (lo' := [some (.ref v0), some (.int v1)]) (st' := [.int v1]) (μ' := μ) rfl ?_
  refine xr_ifc (pct := 19) rfl rfl rfl (fun hc => ?_) (fun hc => ?_)
  · replace h := (if_pos (of_decide_eq_true hc)).symm.trans h
    refine xr_forget (lo := [none, none]) trivial ?_
    exact fX_isView_19_ok h hK
  · replace h := (if_neg (of_decide_eq_false hc)).symm.trans h
    refine xr_go 2 (pc' := 6) (lo' := [some (.ref v0), some (.int v1)]) (st' := [.ref v0, .int v1]) (μ' := μ) rfl ?_
    obtain ⟨x1, hx1, h⟩ := Option.bind_eq_some_iff.mp h
    refine xr_opA (pc' := 9) (lo' := [some (.ref v0), some (.int v1)]) (st' := [.int v1]) (o := ldFR μ v0 0 0) rfl hx1 ?_
    obtain ⟨x2, hx2, h⟩ := Option.bind_eq_some_iff.mp h
    refine xr_opI (pc' := 12) (lo' := [some (.ref v0), some (.int v1)]) (st' := [.int v1]) (o := ldF μ x1 3 3) rfl hx2 ?_
    refine xr_icmp (pct := 19) rfl rfl rfl (fun hc => ?_) (fun hc => ?_)
    · replace h := (if_pos (of_decide_eq_true hc)).symm.trans h
      refine xr_forget (lo := [none, none]) trivial ?_
      exact fX_isView_19_ok h hK
    · replace h := (if_neg (of_decide_eq_false hc)).symm.trans h
      refine xr_go 2 (pc' := 20) (lo' := [some (.ref v0), some (.int v1)]) (st' := [.int (xc 1)]) (μ' := μ) rfl ?_
      have ho := Option.some.inj h
      subst ho
      obtain ⟨rfl, rfl⟩ := hK
      exact xr_ret (rv := some (.int (xc 1))) rfl rfl (Or.inr ⟨rfl, Or.inr rfl⟩)
noncomputable def fX_isView (a0 : Nat) (a1 : Int32) (μ : xM) : Option (Int32) := xgd μ a0 0 (fX_isView_0 a0 a1 μ)
theorem fX_isView_kd {a0 : Nat} {a1 : Int32} {μ : xM} {o : Int32} (h : fX_isView a0 a1 μ = some o) : (xK μ a0).1 = 10 + 0 := (xgd_some h).1
theorem fX_isView_ok {d : Nat} {a0 : Nat} {a1 : Int32} {μ : xM} {o : Int32} (h : fX_isView a0 a1 μ = some o) : xRun (d + 0) 40 0 [some (.ref a0), some (.int a1)] [] μ (some (.int o)) μ :=
  xr_forget (lo := [some (.ref a0), some (.int a1)]) (⟨rfl, rfl, trivial⟩) (fX_isView_0_ok (d := d) (xgd_some h).2 (show fX_isView_K μ _ _ o from ⟨rfl, rfl⟩))
-- KeptAnswers.isAsk(I)Z 
def fX_isAsk_K (μ : xM) (rv : Option Value) (μf : xM) : (Int32) → Prop := fun o => rv = some (.int o) ∧ μf = μ
noncomputable def fX_isAsk_19  (μ : xM) : Option (Int32) := some (xc 0)
theorem fX_isAsk_19_ok {d : Nat} {μ : xM} {rv : Option Value} {μf : xM} {out : Int32} (h : fX_isAsk_19 μ = some out) (hK : fX_isAsk_K μ rv μf out) : xRun (d + 0) 39 19 [none, none] [] μ rv μf := by
  unfold fX_isAsk_19 at h
  refine xr_go 1 (pc' := 20) (lo' := [none, none]) (st' := [.int (xc 0)]) (μ' := μ) rfl ?_
  have ho := Option.some.inj h
  subst ho
  obtain ⟨rfl, rfl⟩ := hK
  exact xr_ret (rv := some (.int (xc 0))) rfl rfl (Or.inr ⟨rfl, Or.inl rfl⟩)
noncomputable def fX_isAsk_0  (v0 : Nat) (v1 : Int32) (μ : xM) : Option (Int32) := if v1 < 0 then (fX_isAsk_19 μ) else ((ldFR μ v0 0 0).bind fun x1 => (ldF μ x1 3 2).bind fun x2 => if x2 ≤ v1 then (fX_isAsk_19 μ) else (some (xc 1)))
theorem fX_isAsk_0_ok {d : Nat} {v0 : Nat} {v1 : Int32} {μ : xM} {rv : Option Value} {μf : xM} {out : Int32} (h : fX_isAsk_0 v0 v1 μ = some out) (hK : fX_isAsk_K μ rv μf out) : xRun (d + 0) 39 0 [some (.ref v0), some (.int v1)] [] μ rv μf := by
  unfold fX_isAsk_0 at h
  refine xr_go 1 (pc' := 1) (lo' := [some (.ref v0), some (.int v1)]) (st' := [.int v1]) (μ' := μ) rfl ?_
  refine xr_ifc (pct := 19) rfl rfl rfl (fun hc => ?_) (fun hc => ?_)
  · replace h := (if_pos (of_decide_eq_true hc)).symm.trans h
    refine xr_forget (lo := [none, none]) trivial ?_
    exact fX_isAsk_19_ok h hK
  · replace h := (if_neg (of_decide_eq_false hc)).symm.trans h
    refine xr_go 2 (pc' := 6) (lo' := [some (.ref v0), some (.int v1)]) (st' := [.ref v0, .int v1]) (μ' := μ) rfl ?_
    obtain ⟨x1, hx1, h⟩ := Option.bind_eq_some_iff.mp h
    refine xr_opA (pc' := 9) (lo' := [some (.ref v0), some (.int v1)]) (st' := [.int v1]) (o := ldFR μ v0 0 0) rfl hx1 ?_
    obtain ⟨x2, hx2, h⟩ := Option.bind_eq_some_iff.mp h
    refine xr_opI (pc' := 12) (lo' := [some (.ref v0), some (.int v1)]) (st' := [.int v1]) (o := ldF μ x1 3 2) rfl hx2 ?_
    refine xr_icmp (pct := 19) rfl rfl rfl (fun hc => ?_) (fun hc => ?_)
    · replace h := (if_pos (of_decide_eq_true hc)).symm.trans h
      refine xr_forget (lo := [none, none]) trivial ?_
      exact fX_isAsk_19_ok h hK
    · replace h := (if_neg (of_decide_eq_false hc)).symm.trans h
      refine xr_go 2 (pc' := 20) (lo' := [some (.ref v0), some (.int v1)]) (st' := [.int (xc 1)]) (μ' := μ) rfl ?_
      have ho := Option.some.inj h
      subst ho
      obtain ⟨rfl, rfl⟩ := hK
      exact xr_ret (rv := some (.int (xc 1))) rfl rfl (Or.inr ⟨rfl, Or.inr rfl⟩)
noncomputable def fX_isAsk (a0 : Nat) (a1 : Int32) (μ : xM) : Option (Int32) := xgd μ a0 0 (fX_isAsk_0 a0 a1 μ)
theorem fX_isAsk_kd {a0 : Nat} {a1 : Int32} {μ : xM} {o : Int32} (h : fX_isAsk a0 a1 μ = some o) : (xK μ a0).1 = 10 + 0 := (xgd_some h).1
theorem fX_isAsk_ok {d : Nat} {a0 : Nat} {a1 : Int32} {μ : xM} {o : Int32} (h : fX_isAsk a0 a1 μ = some o) : xRun (d + 0) 39 0 [some (.ref a0), some (.int a1)] [] μ (some (.int o)) μ :=
  xr_forget (lo := [some (.ref a0), some (.int a1)]) (⟨rfl, rfl, trivial⟩) (fX_isAsk_0_ok (d := d) (xgd_some h).2 (show fX_isAsk_K μ _ _ o from ⟨rfl, rfl⟩))
-- KeptAnswers$Picture.fits(II)Z 
def fP_fits_K (μ : xM) (rv : Option Value) (μf : xM) : (Int32) → Prop := fun o => rv = some (.int o) ∧ μf = μ
noncomputable def fP_fits_0  (v0 : Int32) (v1 : Int32) (μ : xM) : Option (Int32) := if (v0 &&& (v1 ^^^ (xc (-1)))) = 0 then (some (xc 1)) else (some (xc 0))
theorem fP_fits_0_ok {d : Nat} {v0 : Int32} {v1 : Int32} {μ : xM} {rv : Option Value} {μf : xM} {out : Int32} (h : fP_fits_0 v0 v1 μ = some out) (hK : fP_fits_K μ rv μf out) : xRun (d + 0) 86 0 [some (.int v0), some (.int v1)] [] μ rv μf := by
  unfold fP_fits_0 at h
  refine xr_go 5 (pc' := 5) (lo' := [some (.int v0), some (.int v1)]) (st' := [.int (v0 &&& (v1 ^^^ (xc (-1))))]) (μ' := μ) rfl ?_
  refine xr_ifc (pct := 12) rfl rfl rfl (fun hc => ?_) (fun hc => ?_)
  · replace h := (if_neg (of_decide_eq_true hc)).symm.trans h
    refine xr_go 1 (pc' := 13) (lo' := [some (.int v0), some (.int v1)]) (st' := [.int (xc 0)]) (μ' := μ) rfl ?_
    have ho := Option.some.inj h
    subst ho
    obtain ⟨rfl, rfl⟩ := hK
    exact xr_ret (rv := some (.int (xc 0))) rfl rfl (Or.inr ⟨rfl, Or.inl rfl⟩)
  · replace h := (if_pos (Decidable.of_not_not (of_decide_eq_false hc))).symm.trans h
    refine xr_go 2 (pc' := 13) (lo' := [some (.int v0), some (.int v1)]) (st' := [.int (xc 1)]) (μ' := μ) rfl ?_
    have ho := Option.some.inj h
    subst ho
    obtain ⟨rfl, rfl⟩ := hK
    exact xr_ret (rv := some (.int (xc 1))) rfl rfl (Or.inr ⟨rfl, Or.inr rfl⟩)
noncomputable def fP_fits (a0 : Int32) (a1 : Int32) (μ : xM) : Option (Int32) := fP_fits_0 a0 a1 μ
theorem fP_fits_ok {d : Nat} {a0 : Int32} {a1 : Int32} {μ : xM} {o : Int32} (h : fP_fits a0 a1 μ = some o) : xRun (d + 0) 86 0 [some (.int a0), some (.int a1)] [] μ (some (.int o)) μ :=
  xr_forget (lo := [some (.int a0), some (.int a1)]) (⟨rfl, rfl, trivial⟩) (fP_fits_0_ok (d := d) h (show fP_fits_K μ _ _ o from ⟨rfl, rfl⟩))
-- KeptAnswers$Picture.valueOf(II)I 
def fP_valueOf_K (μ : xM) (rv : Option Value) (μf : xM) : (Int32) → Prop := fun o => rv = some (.int o) ∧ μf = μ
noncomputable def fP_valueOf_0  (v0 : Int32) (v1 : Int32) (μ : xM) : Option (Int32) := if (xc 2) ≤ v0 then (some ((v1 >>> (v0 &&& 31)) &&& (xc 1))) else (some v0)
theorem fP_valueOf_0_ok {d : Nat} {v0 : Int32} {v1 : Int32} {μ : xM} {rv : Option Value} {μf : xM} {out : Int32} (h : fP_valueOf_0 v0 v1 μ = some out) (hK : fP_valueOf_K μ rv μf out) : xRun (d + 0) 89 0 [some (.int v0), some (.int v1)] [] μ rv μf := by
  unfold fP_valueOf_0 at h
  refine xr_go 2 (pc' := 2) (lo' := [some (.int v0), some (.int v1)]) (st' := [.int (xc 2), .int v0]) (μ' := μ) rfl ?_
  refine xr_icmp (pct := 9) rfl rfl rfl (fun hc => ?_) (fun hc => ?_)
  · replace h := (if_pos (of_decide_eq_true hc)).symm.trans h
    refine xr_go 5 (pc' := 14) (lo' := [some (.int v0), some (.int v1)]) (st' := [.int ((v1 >>> (v0 &&& 31)) &&& (xc 1))]) (μ' := μ) rfl ?_
    have ho := Option.some.inj h
    subst ho
    obtain ⟨rfl, rfl⟩ := hK
    exact xr_ret (rv := some (.int ((v1 >>> (v0 &&& 31)) &&& (xc 1)))) rfl rfl (Or.inl rfl)
  · replace h := (if_neg (of_decide_eq_false hc)).symm.trans h
    refine xr_go 2 (pc' := 14) (lo' := [some (.int v0), some (.int v1)]) (st' := [.int v0]) (μ' := μ) rfl ?_
    have ho := Option.some.inj h
    subst ho
    obtain ⟨rfl, rfl⟩ := hK
    exact xr_ret (rv := some (.int v0)) rfl rfl (Or.inl rfl)
noncomputable def fP_valueOf (a0 : Int32) (a1 : Int32) (μ : xM) : Option (Int32) := fP_valueOf_0 a0 a1 μ
theorem fP_valueOf_ok {d : Nat} {a0 : Int32} {a1 : Int32} {μ : xM} {o : Int32} (h : fP_valueOf a0 a1 μ = some o) : xRun (d + 0) 89 0 [some (.int a0), some (.int a1)] [] μ (some (.int o)) μ :=
  xr_forget (lo := [some (.int a0), some (.int a1)]) (⟨rfl, rfl, trivial⟩) (fP_valueOf_0_ok (d := d) h (show fP_valueOf_K μ _ _ o from ⟨rfl, rfl⟩))
-- KeptAnswers$Picture.rowsBy(I)I 
def fP_rowsBy_K (μ : xM) (rv : Option Value) (μf : xM) : (Int32) → Prop := fun o => rv = some (.int o) ∧ μf = μ
def fP_rowsBy_K4 (v0 : Nat) (v1 : Int32) (μ : xM) (d : Nat) (rv : Option Value) (μf : xM) : ((Int32 × Int32) ⊕ (Int32)) → Prop := Sum.elim (fun s : Int32 × Int32 => xRun (d + 1) 87 4 [some (.ref v0), some (.int v1), some (.int s.1), some (.int s.2)] [] μ rv μf) (fP_rowsBy_K μ rv μf)
noncomputable def fP_rowsBy_52  (v2 : Int32) (μ : xM) : Option (Int32) := some v2
theorem fP_rowsBy_52_ok {d : Nat} {v2 : Int32} {μ : xM} {rv : Option Value} {μf : xM} {out : Int32} (h : fP_rowsBy_52 v2 μ = some out) (hK : fP_rowsBy_K μ rv μf out) : xRun (d + 1) 87 52 [none, none, some (.int v2), none] [] μ rv μf := by
  unfold fP_rowsBy_52 at h
  refine xr_go 1 (pc' := 53) (lo' := [none, none, some (.int v2), none]) (st' := [.int v2]) (μ' := μ) rfl ?_
  have ho := Option.some.inj h
  subst ho
  obtain ⟨rfl, rfl⟩ := hK
  exact xr_ret (rv := some (.int v2)) rfl rfl (Or.inl rfl)
noncomputable def fP_rowsBy_L4  (v0 : Nat) (v1 : Int32) (v2 : Int32) (v3 : Int32) (μ : xM) : Option ((Int32 × Int32) ⊕ (Int32)) := (ldF μ v0 5 0).bind fun x1 => if x1 ≤ v3 then ((fP_rowsBy_52 v2 μ).map (fun o => .inr o)) else ((ldFR μ v0 5 1).bind fun x2 => (ldA μ x2 v3).bind fun x3 => (ldFR μ v0 5 2).bind fun x4 => (ldA μ x4 v3).bind fun x5 => (fP_valueOf x5 v1 μ).bind fun r6 => (ldFR μ v0 5 3).bind fun x7 => (ldA μ x7 v3).bind fun x8 => (fP_valueOf x8 v1 μ).bind fun r9 => (fX_rowBit x3 r6 r9 μ).bind fun r10 => some (.inl ((v2 ||| ((xc 1) <<< (r10 &&& 31)), v3 + xc 1))))
theorem fP_rowsBy_L4_ok {d : Nat} {v0 : Nat} {v1 : Int32} {v2 : Int32} {v3 : Int32} {μ : xM} {rv : Option Value} {μf : xM} {out : (Int32 × Int32) ⊕ (Int32)} (h : fP_rowsBy_L4 v0 v1 v2 v3 μ = some out) (hK : fP_rowsBy_K4 v0 v1 μ d rv μf out) : xRun (d + 1) 87 4 [some (.ref v0), some (.int v1), some (.int v2), some (.int v3)] [] μ rv μf := by
  unfold fP_rowsBy_L4 at h
  refine xr_go 2 (pc' := 6) (lo' := [some (.ref v0), some (.int v1), some (.int v2), some (.int v3)]) (st' := [.ref v0, .int v3]) (μ' := μ) rfl ?_
  obtain ⟨x1, hx1, h⟩ := Option.bind_eq_some_iff.mp h
  refine xr_opI (pc' := 9) (lo' := [some (.ref v0), some (.int v1), some (.int v2), some (.int v3)]) (st' := [.int v3]) (o := ldF μ v0 5 0) rfl hx1 ?_
  refine xr_icmp (pct := 52) rfl rfl rfl (fun hc => ?_) (fun hc => ?_)
  · replace h := (if_pos (of_decide_eq_true hc)).symm.trans h
    refine xr_forget (lo := [none, none, some (.int v2), none]) ⟨rfl, trivial⟩ ?_
    obtain ⟨o, h2, rfl⟩ := Option.map_eq_some_iff.mp h
    exact fP_rowsBy_52_ok h2 hK
  · replace h := (if_neg (of_decide_eq_false hc)).symm.trans h
    refine xr_go 3 (pc' := 15) (lo' := [some (.ref v0), some (.int v1), some (.int v2), some (.int v3)]) (st' := [.ref v0, .int (xc 1), .int v2]) (μ' := μ) rfl ?_
    obtain ⟨x2, hx2, h⟩ := Option.bind_eq_some_iff.mp h
    refine xr_opA (pc' := 18) (lo' := [some (.ref v0), some (.int v1), some (.int v2), some (.int v3)]) (st' := [.int (xc 1), .int v2]) (o := ldFR μ v0 5 1) rfl hx2 ?_
    refine xr_go 1 (pc' := 19) (lo' := [some (.ref v0), some (.int v1), some (.int v2), some (.int v3)]) (st' := [.int v3, .ref x2, .int (xc 1), .int v2]) (μ' := μ) rfl ?_
    obtain ⟨x3, hx3, h⟩ := Option.bind_eq_some_iff.mp h
    refine xr_opI (pc' := 20) (lo' := [some (.ref v0), some (.int v1), some (.int v2), some (.int v3)]) (st' := [.int (xc 1), .int v2]) (o := ldA μ x2 v3) rfl hx3 ?_
    refine xr_go 1 (pc' := 21) (lo' := [some (.ref v0), some (.int v1), some (.int v2), some (.int v3)]) (st' := [.ref v0, .int x3, .int (xc 1), .int v2]) (μ' := μ) rfl ?_
    obtain ⟨x4, hx4, h⟩ := Option.bind_eq_some_iff.mp h
    refine xr_opA (pc' := 24) (lo' := [some (.ref v0), some (.int v1), some (.int v2), some (.int v3)]) (st' := [.int x3, .int (xc 1), .int v2]) (o := ldFR μ v0 5 2) rfl hx4 ?_
    refine xr_go 1 (pc' := 25) (lo' := [some (.ref v0), some (.int v1), some (.int v2), some (.int v3)]) (st' := [.int v3, .ref x4, .int x3, .int (xc 1), .int v2]) (μ' := μ) rfl ?_
    obtain ⟨x5, hx5, h⟩ := Option.bind_eq_some_iff.mp h
    refine xr_opI (pc' := 26) (lo' := [some (.ref v0), some (.int v1), some (.int v2), some (.int v3)]) (st' := [.int x3, .int (xc 1), .int v2]) (o := ldA μ x4 v3) rfl hx5 ?_
    refine xr_go 1 (pc' := 27) (lo' := [some (.ref v0), some (.int v1), some (.int v2), some (.int v3)]) (st' := [.int v1, .int x5, .int x3, .int (xc 1), .int v2]) (μ' := μ) rfl ?_
    obtain ⟨r6, hr6, h⟩ := Option.bind_eq_some_iff.mp h
    refine xr_callS (j := 89) (d' := (d + 0)) (rv1 := some (.int r6)) (μ1 := μ) (rest := [.int x3, .int (xc 1), .int v2]) (As := [.int x5, .int v1]) rfl rfl rfl rfl (Nat.le_of_ble_eq_true rfl) rfl (by exact (fP_valueOf_ok (d := d + (0)) hr6)) ?_
    refine xr_go 1 (pc' := 31) (lo' := [some (.ref v0), some (.int v1), some (.int v2), some (.int v3)]) (st' := [.ref v0, .int r6, .int x3, .int (xc 1), .int v2]) (μ' := μ) rfl ?_
    obtain ⟨x7, hx7, h⟩ := Option.bind_eq_some_iff.mp h
    refine xr_opA (pc' := 34) (lo' := [some (.ref v0), some (.int v1), some (.int v2), some (.int v3)]) (st' := [.int r6, .int x3, .int (xc 1), .int v2]) (o := ldFR μ v0 5 3) rfl hx7 ?_
    refine xr_go 1 (pc' := 35) (lo' := [some (.ref v0), some (.int v1), some (.int v2), some (.int v3)]) (st' := [.int v3, .ref x7, .int r6, .int x3, .int (xc 1), .int v2]) (μ' := μ) rfl ?_
    obtain ⟨x8, hx8, h⟩ := Option.bind_eq_some_iff.mp h
    refine xr_opI (pc' := 36) (lo' := [some (.ref v0), some (.int v1), some (.int v2), some (.int v3)]) (st' := [.int r6, .int x3, .int (xc 1), .int v2]) (o := ldA μ x7 v3) rfl hx8 ?_
    refine xr_go 1 (pc' := 37) (lo' := [some (.ref v0), some (.int v1), some (.int v2), some (.int v3)]) (st' := [.int v1, .int x8, .int r6, .int x3, .int (xc 1), .int v2]) (μ' := μ) rfl ?_
    obtain ⟨r9, hr9, h⟩ := Option.bind_eq_some_iff.mp h
    refine xr_callS (j := 89) (d' := (d + 0)) (rv1 := some (.int r9)) (μ1 := μ) (rest := [.int r6, .int x3, .int (xc 1), .int v2]) (As := [.int x8, .int v1]) rfl rfl rfl rfl (Nat.le_of_ble_eq_true rfl) rfl (by exact (fP_valueOf_ok (d := d + (0)) hr9)) ?_
    obtain ⟨r10, hr10, h⟩ := Option.bind_eq_some_iff.mp h
    refine xr_callS (j := 44) (d' := (d + 0)) (rv1 := some (.int r10)) (μ1 := μ) (rest := [.int (xc 1), .int v2]) (As := [.int x3, .int r6, .int r9]) rfl rfl rfl rfl (Nat.le_of_ble_eq_true rfl) rfl (by exact (fX_rowBit_ok (d := d + (0)) hr10)) ?_
    refine xr_go 5 (pc' := 4) (lo' := [some (.ref v0), some (.int v1), some (.int (v2 ||| ((xc 1) <<< (r10 &&& 31)))), some (.int (v3 + xc 1))]) (st' := []) (μ' := μ) rfl ?_
    refine xr_forget (lo := [some (.ref v0), some (.int v1), some (.int (v2 ||| ((xc 1) <<< (r10 &&& 31)))), some (.int (v3 + xc 1))]) ⟨rfl, rfl, rfl, rfl, trivial⟩ ?_
    have ho := Option.some.inj h
    subst ho
    exact hK
theorem fP_rowsBy_L4_lp {d : Nat} {v0 : Nat} {v1 : Int32} {v2 : Int32} {v3 : Int32} {μ : xM} {rv : Option Value} {μf : xM} {out : Int32} (h : xwh (fun s : Int32 × Int32 => fP_rowsBy_L4 v0 v1 s.1 s.2 μ) (v2, v3) = some out) (hK : fP_rowsBy_K μ rv μf out) : xRun (d + 1) 87 4 [some (.ref v0), some (.int v1), some (.int v2), some (.int v3)] [] μ rv μf :=
  xwh_ind (Rh := fun s : Int32 × Int32 => xRun (d + 1) 87 4 [some (.ref v0), some (.int v1), some (.int s.1), some (.int s.2)] [] μ rv μf) (Co := fP_rowsBy_K μ rv μf) (fun s o hb hk => fP_rowsBy_L4_ok hb hk) h hK
noncomputable def fP_rowsBy_0  (v0 : Nat) (v1 : Int32) (μ : xM) : Option (Int32) := xwh (fun s : Int32 × Int32 => fP_rowsBy_L4 v0 v1 s.1 s.2 μ) (xc 0, xc 0)
theorem fP_rowsBy_0_ok {d : Nat} {v0 : Nat} {v1 : Int32} {μ : xM} {rv : Option Value} {μf : xM} {out : Int32} (h : fP_rowsBy_0 v0 v1 μ = some out) (hK : fP_rowsBy_K μ rv μf out) : xRun (d + 1) 87 0 [some (.ref v0), some (.int v1), none, none] [] μ rv μf := by
  unfold fP_rowsBy_0 at h
  refine xr_go 4 (pc' := 4) (lo' := [some (.ref v0), some (.int v1), some (.int (xc 0)), some (.int (xc 0))]) (st' := []) (μ' := μ) rfl ?_
  refine xr_forget (lo := [some (.ref v0), some (.int v1), some (.int (xc 0)), some (.int (xc 0))]) ⟨rfl, rfl, rfl, rfl, trivial⟩ ?_
  exact fP_rowsBy_L4_lp h hK
noncomputable def fP_rowsBy (a0 : Nat) (a1 : Int32) (μ : xM) : Option (Int32) := xgd μ a0 5 (fP_rowsBy_0 a0 a1 μ)
theorem fP_rowsBy_kd {a0 : Nat} {a1 : Int32} {μ : xM} {o : Int32} (h : fP_rowsBy a0 a1 μ = some o) : (xK μ a0).1 = 10 + 5 := (xgd_some h).1
theorem fP_rowsBy_ok {d : Nat} {a0 : Nat} {a1 : Int32} {μ : xM} {o : Int32} (h : fP_rowsBy a0 a1 μ = some o) : xRun (d + 1) 87 0 [some (.ref a0), some (.int a1), none, none] [] μ (some (.int o)) μ :=
  xr_forget (lo := [some (.ref a0), some (.int a1), none, none]) (⟨rfl, rfl, trivial⟩) (fP_rowsBy_0_ok (d := d) (xgd_some h).2 (show fP_rowsBy_K μ _ _ o from ⟨rfl, rfl⟩))
-- KeptAnswers$Picture.headBy(I)I 
def fP_headBy_K (μ : xM) (rv : Option Value) (μf : xM) : (Int32) → Prop := fun o => rv = some (.int o) ∧ μf = μ
def fP_headBy_K4 (v0 : Nat) (v1 : Int32) (μ : xM) (d : Nat) (rv : Option Value) (μf : xM) : ((Int32 × Int32) ⊕ (Int32)) → Prop := Sum.elim (fun s : Int32 × Int32 => xRun (d + 1) 88 4 [some (.ref v0), some (.int v1), some (.int s.1), some (.int s.2)] [] μ rv μf) (fP_headBy_K μ rv μf)
noncomputable def fP_headBy_33  (v2 : Int32) (μ : xM) : Option (Int32) := some v2
theorem fP_headBy_33_ok {d : Nat} {v2 : Int32} {μ : xM} {rv : Option Value} {μf : xM} {out : Int32} (h : fP_headBy_33 v2 μ = some out) (hK : fP_headBy_K μ rv μf out) : xRun (d + 1) 88 33 [none, none, some (.int v2), none] [] μ rv μf := by
  unfold fP_headBy_33 at h
  refine xr_go 1 (pc' := 34) (lo' := [none, none, some (.int v2), none]) (st' := [.int v2]) (μ' := μ) rfl ?_
  have ho := Option.some.inj h
  subst ho
  obtain ⟨rfl, rfl⟩ := hK
  exact xr_ret (rv := some (.int v2)) rfl rfl (Or.inl rfl)
noncomputable def fP_headBy_L4  (v0 : Nat) (v1 : Int32) (v2 : Int32) (v3 : Int32) (μ : xM) : Option ((Int32 × Int32) ⊕ (Int32)) := (ldF μ v0 5 4).bind fun x1 => if x1 ≤ v3 then ((fP_headBy_33 v2 μ).map (fun o => .inr o)) else ((ldFR μ v0 5 5).bind fun x2 => (ldA μ x2 v3).bind fun x3 => (fP_valueOf x3 v1 μ).bind fun r4 => some (.inl ((v2 ||| (r4 <<< (v3 &&& 31)), v3 + xc 1))))
theorem fP_headBy_L4_ok {d : Nat} {v0 : Nat} {v1 : Int32} {v2 : Int32} {v3 : Int32} {μ : xM} {rv : Option Value} {μf : xM} {out : (Int32 × Int32) ⊕ (Int32)} (h : fP_headBy_L4 v0 v1 v2 v3 μ = some out) (hK : fP_headBy_K4 v0 v1 μ d rv μf out) : xRun (d + 1) 88 4 [some (.ref v0), some (.int v1), some (.int v2), some (.int v3)] [] μ rv μf := by
  unfold fP_headBy_L4 at h
  refine xr_go 2 (pc' := 6) (lo' := [some (.ref v0), some (.int v1), some (.int v2), some (.int v3)]) (st' := [.ref v0, .int v3]) (μ' := μ) rfl ?_
  obtain ⟨x1, hx1, h⟩ := Option.bind_eq_some_iff.mp h
  refine xr_opI (pc' := 9) (lo' := [some (.ref v0), some (.int v1), some (.int v2), some (.int v3)]) (st' := [.int v3]) (o := ldF μ v0 5 4) rfl hx1 ?_
  refine xr_icmp (pct := 33) rfl rfl rfl (fun hc => ?_) (fun hc => ?_)
  · replace h := (if_pos (of_decide_eq_true hc)).symm.trans h
    refine xr_forget (lo := [none, none, some (.int v2), none]) ⟨rfl, trivial⟩ ?_
    obtain ⟨o, h2, rfl⟩ := Option.map_eq_some_iff.mp h
    exact fP_headBy_33_ok h2 hK
  · replace h := (if_neg (of_decide_eq_false hc)).symm.trans h
    refine xr_go 2 (pc' := 14) (lo' := [some (.ref v0), some (.int v1), some (.int v2), some (.int v3)]) (st' := [.ref v0, .int v2]) (μ' := μ) rfl ?_
    obtain ⟨x2, hx2, h⟩ := Option.bind_eq_some_iff.mp h
    refine xr_opA (pc' := 17) (lo' := [some (.ref v0), some (.int v1), some (.int v2), some (.int v3)]) (st' := [.int v2]) (o := ldFR μ v0 5 5) rfl hx2 ?_
    refine xr_go 1 (pc' := 18) (lo' := [some (.ref v0), some (.int v1), some (.int v2), some (.int v3)]) (st' := [.int v3, .ref x2, .int v2]) (μ' := μ) rfl ?_
    obtain ⟨x3, hx3, h⟩ := Option.bind_eq_some_iff.mp h
    refine xr_opI (pc' := 19) (lo' := [some (.ref v0), some (.int v1), some (.int v2), some (.int v3)]) (st' := [.int v2]) (o := ldA μ x2 v3) rfl hx3 ?_
    refine xr_go 1 (pc' := 20) (lo' := [some (.ref v0), some (.int v1), some (.int v2), some (.int v3)]) (st' := [.int v1, .int x3, .int v2]) (μ' := μ) rfl ?_
    obtain ⟨r4, hr4, h⟩ := Option.bind_eq_some_iff.mp h
    refine xr_callS (j := 89) (d' := (d + 0)) (rv1 := some (.int r4)) (μ1 := μ) (rest := [.int v2]) (As := [.int x3, .int v1]) rfl rfl rfl rfl (Nat.le_of_ble_eq_true rfl) rfl (by exact (fP_valueOf_ok (d := d + (0)) hr4)) ?_
    refine xr_go 6 (pc' := 4) (lo' := [some (.ref v0), some (.int v1), some (.int (v2 ||| (r4 <<< (v3 &&& 31)))), some (.int (v3 + xc 1))]) (st' := []) (μ' := μ) rfl ?_
    refine xr_forget (lo := [some (.ref v0), some (.int v1), some (.int (v2 ||| (r4 <<< (v3 &&& 31)))), some (.int (v3 + xc 1))]) ⟨rfl, rfl, rfl, rfl, trivial⟩ ?_
    have ho := Option.some.inj h
    subst ho
    exact hK
theorem fP_headBy_L4_lp {d : Nat} {v0 : Nat} {v1 : Int32} {v2 : Int32} {v3 : Int32} {μ : xM} {rv : Option Value} {μf : xM} {out : Int32} (h : xwh (fun s : Int32 × Int32 => fP_headBy_L4 v0 v1 s.1 s.2 μ) (v2, v3) = some out) (hK : fP_headBy_K μ rv μf out) : xRun (d + 1) 88 4 [some (.ref v0), some (.int v1), some (.int v2), some (.int v3)] [] μ rv μf :=
  xwh_ind (Rh := fun s : Int32 × Int32 => xRun (d + 1) 88 4 [some (.ref v0), some (.int v1), some (.int s.1), some (.int s.2)] [] μ rv μf) (Co := fP_headBy_K μ rv μf) (fun s o hb hk => fP_headBy_L4_ok hb hk) h hK
noncomputable def fP_headBy_0  (v0 : Nat) (v1 : Int32) (μ : xM) : Option (Int32) := xwh (fun s : Int32 × Int32 => fP_headBy_L4 v0 v1 s.1 s.2 μ) (xc 0, xc 0)
theorem fP_headBy_0_ok {d : Nat} {v0 : Nat} {v1 : Int32} {μ : xM} {rv : Option Value} {μf : xM} {out : Int32} (h : fP_headBy_0 v0 v1 μ = some out) (hK : fP_headBy_K μ rv μf out) : xRun (d + 1) 88 0 [some (.ref v0), some (.int v1), none, none] [] μ rv μf := by
  unfold fP_headBy_0 at h
  refine xr_go 4 (pc' := 4) (lo' := [some (.ref v0), some (.int v1), some (.int (xc 0)), some (.int (xc 0))]) (st' := []) (μ' := μ) rfl ?_
  refine xr_forget (lo := [some (.ref v0), some (.int v1), some (.int (xc 0)), some (.int (xc 0))]) ⟨rfl, rfl, rfl, rfl, trivial⟩ ?_
  exact fP_headBy_L4_lp h hK
noncomputable def fP_headBy (a0 : Nat) (a1 : Int32) (μ : xM) : Option (Int32) := xgd μ a0 5 (fP_headBy_0 a0 a1 μ)
theorem fP_headBy_kd {a0 : Nat} {a1 : Int32} {μ : xM} {o : Int32} (h : fP_headBy a0 a1 μ = some o) : (xK μ a0).1 = 10 + 5 := (xgd_some h).1
theorem fP_headBy_ok {d : Nat} {a0 : Nat} {a1 : Int32} {μ : xM} {o : Int32} (h : fP_headBy a0 a1 μ = some o) : xRun (d + 1) 88 0 [some (.ref a0), some (.int a1), none, none] [] μ (some (.int o)) μ :=
  xr_forget (lo := [some (.ref a0), some (.int a1), none, none]) (⟨rfl, rfl, trivial⟩) (fP_headBy_0_ok (d := d) (xgd_some h).2 (show fP_headBy_K μ _ _ o from ⟨rfl, rfl⟩))
-- KeptAnswers$Picture.answerBy(I)I 
def fP_answerBy_K (μ : xM) (rv : Option Value) (μf : xM) : (Int32) → Prop := fun o => rv = some (.int o) ∧ μf = μ
def fP_answerBy_K10 (v0 : Nat) (v1 : Int32) (v2 : Int32) (μ : xM) (d : Nat) (rv : Option Value) (μf : xM) : ((Int32 × Int32) ⊕ (Int32)) → Prop := Sum.elim (fun s : Int32 × Int32 => xRun (d + 2) 85 10 [some (.ref v0), some (.int v1), some (.int v2), some (.int s.1), some (.int s.2)] [] μ rv μf) (fP_answerBy_K μ rv μf)
noncomputable def fP_answerBy_57  (v3 : Int32) (μ : xM) : Option (Int32) := some v3
theorem fP_answerBy_57_ok {d : Nat} {v3 : Int32} {μ : xM} {rv : Option Value} {μf : xM} {out : Int32} (h : fP_answerBy_57 v3 μ = some out) (hK : fP_answerBy_K μ rv μf out) : xRun (d + 2) 85 57 [none, none, none, some (.int v3), none] [] μ rv μf := by
  unfold fP_answerBy_57 at h
  refine xr_go 1 (pc' := 58) (lo' := [none, none, none, some (.int v3), none]) (st' := [.int v3]) (μ' := μ) rfl ?_
  have ho := Option.some.inj h
  subst ho
  obtain ⟨rfl, rfl⟩ := hK
  exact xr_ret (rv := some (.int v3)) rfl rfl (Or.inl rfl)
noncomputable def fP_answerBy_51  (v0 : Nat) (v1 : Int32) (v2 : Int32) (v3 : Int32) (v4 : Int32) (μ : xM) : Option ((Int32 × Int32) ⊕ (Int32)) := some (.inl ((v3, v4 + xc 4)))
theorem fP_answerBy_51_ok {d : Nat} {v0 : Nat} {v1 : Int32} {v2 : Int32} {v3 : Int32} {v4 : Int32} {μ : xM} {rv : Option Value} {μf : xM} {out : (Int32 × Int32) ⊕ (Int32)} (h : fP_answerBy_51 v0 v1 v2 v3 v4 μ = some out) (hK : fP_answerBy_K10 v0 v1 v2 μ d rv μf out) : xRun (d + 2) 85 51 [some (.ref v0), some (.int v1), some (.int v2), some (.int v3), some (.int v4)] [] μ rv μf := by
  unfold fP_answerBy_51 at h
  refine xr_go 2 (pc' := 10) (lo' := [some (.ref v0), some (.int v1), some (.int v2), some (.int v3), some (.int (v4 + xc 4))]) (st' := []) (μ' := μ) rfl ?_
  refine xr_forget (lo := [some (.ref v0), some (.int v1), some (.int v2), some (.int v3), some (.int (v4 + xc 4))]) ⟨rfl, rfl, rfl, rfl, rfl, trivial⟩ ?_
  have ho := Option.some.inj h
  subst ho
  exact hK
noncomputable def fP_answerBy_L10  (v0 : Nat) (v1 : Int32) (v2 : Int32) (v3 : Int32) (v4 : Int32) (μ : xM) : Option ((Int32 × Int32) ⊕ (Int32)) := if (xc 128) ≤ v4 then ((fP_answerBy_57 v3 μ).map (fun o => .inr o)) else ((fP_fits v4 v2 μ).bind fun r1 => if r1 = 0 then (fP_answerBy_51 v0 v1 v2 v3 v4 μ) else ((fP_rowsBy v0 v4 μ).bind fun r2 => if (r2 &&& (v1 ^^^ (xc (-1)))) = 0 then ((fP_headBy v0 v4 μ).bind fun r3 => fP_answerBy_51 v0 v1 v2 (v3 ||| ((xc 1) <<< (r3 &&& 31))) v4 μ) else (fP_answerBy_51 v0 v1 v2 v3 v4 μ)))
theorem fP_answerBy_L10_ok {d : Nat} {v0 : Nat} {v1 : Int32} {v2 : Int32} {v3 : Int32} {v4 : Int32} {μ : xM} {rv : Option Value} {μf : xM} {out : (Int32 × Int32) ⊕ (Int32)} (h : fP_answerBy_L10 v0 v1 v2 v3 v4 μ = some out) (hK : fP_answerBy_K10 v0 v1 v2 μ d rv μf out) : xRun (d + 2) 85 10 [some (.ref v0), some (.int v1), some (.int v2), some (.int v3), some (.int v4)] [] μ rv μf := by
  unfold fP_answerBy_L10 at h
  refine xr_go 2 (pc' := 15) (lo' := [some (.ref v0), some (.int v1), some (.int v2), some (.int v3), some (.int v4)]) (st' := [.int (xc 128), .int v4]) (μ' := μ) rfl ?_
  refine xr_icmp (pct := 57) rfl rfl rfl (fun hc => ?_) (fun hc => ?_)
  · replace h := (if_pos (of_decide_eq_true hc)).symm.trans h
    refine xr_forget (lo := [none, none, none, some (.int v3), none]) ⟨rfl, trivial⟩ ?_
    obtain ⟨o, h2, rfl⟩ := Option.map_eq_some_iff.mp h
    exact fP_answerBy_57_ok h2 hK
  · replace h := (if_neg (of_decide_eq_false hc)).symm.trans h
    refine xr_go 2 (pc' := 21) (lo' := [some (.ref v0), some (.int v1), some (.int v2), some (.int v3), some (.int v4)]) (st' := [.int v2, .int v4]) (μ' := μ) rfl ?_
    obtain ⟨r1, hr1, h⟩ := Option.bind_eq_some_iff.mp h
    refine xr_callS (j := 86) (d' := (d + 1)) (rv1 := some (.int r1)) (μ1 := μ) (rest := []) (As := [.int v4, .int v2]) rfl rfl rfl rfl (Nat.le_of_ble_eq_true rfl) rfl (by exact (fP_fits_ok (d := d + (1)) hr1)) ?_
    refine xr_ifc (pct := 51) rfl rfl rfl (fun hc => ?_) (fun hc => ?_)
    · replace h := (if_pos (of_decide_eq_true hc)).symm.trans h
      refine xr_forget (lo := [some (.ref v0), some (.int v1), some (.int v2), some (.int v3), some (.int v4)]) ⟨rfl, rfl, rfl, rfl, rfl, trivial⟩ ?_
      exact fP_answerBy_51_ok h hK
    · replace h := (if_neg (of_decide_eq_false hc)).symm.trans h
      refine xr_go 2 (pc' := 30) (lo' := [some (.ref v0), some (.int v1), some (.int v2), some (.int v3), some (.int v4)]) (st' := [.int v4, .ref v0]) (μ' := μ) rfl ?_
      obtain ⟨r2, hr2, h⟩ := Option.bind_eq_some_iff.mp h
      refine xr_callV (j := 87) (d' := (d + 1)) (rv1 := some (.int r2)) (μ1 := μ) (rest := []) (As := [.int v4]) rfl rfl rfl rfl (Nat.le_of_ble_eq_true rfl) (fP_rowsBy_kd hr2) rfl (by exact (fP_rowsBy_ok (d := d + (0)) hr2)) ?_
      refine xr_go 4 (pc' := 37) (lo' := [some (.ref v0), some (.int v1), some (.int v2), some (.int v3), some (.int v4)]) (st' := [.int (r2 &&& (v1 ^^^ (xc (-1))))]) (μ' := μ) rfl ?_
      refine xr_ifc (pct := 51) rfl rfl rfl (fun hc => ?_) (fun hc => ?_)
      · replace h := (if_neg (of_decide_eq_true hc)).symm.trans h
        refine xr_forget (lo := [some (.ref v0), some (.int v1), some (.int v2), some (.int v3), some (.int v4)]) ⟨rfl, rfl, rfl, rfl, rfl, trivial⟩ ?_
        exact fP_answerBy_51_ok h hK
      · replace h := (if_pos (Decidable.of_not_not (of_decide_eq_false hc))).symm.trans h
        refine xr_go 4 (pc' := 45) (lo' := [some (.ref v0), some (.int v1), some (.int v2), some (.int v3), some (.int v4)]) (st' := [.int v4, .ref v0, .int (xc 1), .int v3]) (μ' := μ) rfl ?_
        obtain ⟨r3, hr3, h⟩ := Option.bind_eq_some_iff.mp h
        refine xr_callV (j := 88) (d' := (d + 1)) (rv1 := some (.int r3)) (μ1 := μ) (rest := [.int (xc 1), .int v3]) (As := [.int v4]) rfl rfl rfl rfl (Nat.le_of_ble_eq_true rfl) (fP_headBy_kd hr3) rfl (by exact (fP_headBy_ok (d := d + (0)) hr3)) ?_
        refine xr_go 3 (pc' := 51) (lo' := [some (.ref v0), some (.int v1), some (.int v2), some (.int (v3 ||| ((xc 1) <<< (r3 &&& 31)))), some (.int v4)]) (st' := []) (μ' := μ) rfl ?_
        refine xr_forget (lo := [some (.ref v0), some (.int v1), some (.int v2), some (.int (v3 ||| ((xc 1) <<< (r3 &&& 31)))), some (.int v4)]) ⟨rfl, rfl, rfl, rfl, rfl, trivial⟩ ?_
        exact fP_answerBy_51_ok h hK
theorem fP_answerBy_L10_lp {d : Nat} {v0 : Nat} {v1 : Int32} {v2 : Int32} {v3 : Int32} {v4 : Int32} {μ : xM} {rv : Option Value} {μf : xM} {out : Int32} (h : xwh (fun s : Int32 × Int32 => fP_answerBy_L10 v0 v1 v2 s.1 s.2 μ) (v3, v4) = some out) (hK : fP_answerBy_K μ rv μf out) : xRun (d + 2) 85 10 [some (.ref v0), some (.int v1), some (.int v2), some (.int v3), some (.int v4)] [] μ rv μf :=
  xwh_ind (Rh := fun s : Int32 × Int32 => xRun (d + 2) 85 10 [some (.ref v0), some (.int v1), some (.int v2), some (.int s.1), some (.int s.2)] [] μ rv μf) (Co := fP_answerBy_K μ rv μf) (fun s o hb hk => fP_answerBy_L10_ok hb hk) h hK
noncomputable def fP_answerBy_0  (v0 : Nat) (v1 : Int32) (μ : xM) : Option (Int32) := (fP_names v0 μ).bind fun r4 => xwh (fun s : Int32 × Int32 => fP_answerBy_L10 v0 v1 r4 s.1 s.2 μ) (xc 0, xc 0)
theorem fP_answerBy_0_ok {d : Nat} {v0 : Nat} {v1 : Int32} {μ : xM} {rv : Option Value} {μf : xM} {out : Int32} (h : fP_answerBy_0 v0 v1 μ = some out) (hK : fP_answerBy_K μ rv μf out) : xRun (d + 2) 85 0 [some (.ref v0), some (.int v1), none, none, none] [] μ rv μf := by
  unfold fP_answerBy_0 at h
  refine xr_go 1 (pc' := 1) (lo' := [some (.ref v0), some (.int v1), none, none, none]) (st' := [.ref v0]) (μ' := μ) rfl ?_
  obtain ⟨r4, hr4, h⟩ := Option.bind_eq_some_iff.mp h
  refine xr_callV (j := 82) (d' := (d + 1)) (rv1 := some (.int r4)) (μ1 := μ) (rest := []) (As := []) rfl rfl rfl rfl (Nat.le_of_ble_eq_true rfl) (fP_names_kd hr4) rfl (by exact (fP_names_ok (d := d + (1)) hr4)) ?_
  refine xr_go 5 (pc' := 10) (lo' := [some (.ref v0), some (.int v1), some (.int r4), some (.int (xc 0)), some (.int (xc 0))]) (st' := []) (μ' := μ) rfl ?_
  refine xr_forget (lo := [some (.ref v0), some (.int v1), some (.int r4), some (.int (xc 0)), some (.int (xc 0))]) ⟨rfl, rfl, rfl, rfl, rfl, trivial⟩ ?_
  exact fP_answerBy_L10_lp h hK
noncomputable def fP_answerBy (a0 : Nat) (a1 : Int32) (μ : xM) : Option (Int32) := xgd μ a0 5 (fP_answerBy_0 a0 a1 μ)
theorem fP_answerBy_kd {a0 : Nat} {a1 : Int32} {μ : xM} {o : Int32} (h : fP_answerBy a0 a1 μ = some o) : (xK μ a0).1 = 10 + 5 := (xgd_some h).1
theorem fP_answerBy_ok {d : Nat} {a0 : Nat} {a1 : Int32} {μ : xM} {o : Int32} (h : fP_answerBy a0 a1 μ = some o) : xRun (d + 2) 85 0 [some (.ref a0), some (.int a1), none, none, none] [] μ (some (.int o)) μ :=
  xr_forget (lo := [some (.ref a0), some (.int a1), none, none, none]) (⟨rfl, rfl, trivial⟩) (fP_answerBy_0_ok (d := d) (xgd_some h).2 (show fP_answerBy_K μ _ _ o from ⟨rfl, rfl⟩))
-- KeptAnswers.answer(IZ)I 
def fX_answer_K (rv : Option Value) (μf : xM) : (Int32 × xM) → Prop := fun o => rv = some (.int o.1) ∧ μf = o.2
noncomputable def fX_answer_54  (v0 : Nat) (s0 : Nat) (μ : xM) : Option (Int32 × xM) := (ldFR μ v0 0 0).bind fun x1 => (ldF μ x1 3 0).bind fun x2 => (fP_answerBy s0 x2 μ).bind fun r3 => some ((r3, μ))
theorem fX_answer_54_ok {d : Nat} {v0 : Nat} {s0 : Nat} {μ : xM} {rv : Option Value} {μf : xM} {out : Int32 × xM} (h : fX_answer_54 v0 s0 μ = some out) (hK : fX_answer_K rv μf out) : xRun (d + 3) 11 54 [some (.ref v0), none, none, none] [.ref s0] μ rv μf := by
  unfold fX_answer_54 at h
  refine xr_go 3 (pc' := 57) (lo' := [some (.ref v0), none, none, some (.ref s0)]) (st' := [.ref v0, .ref s0]) (μ' := μ) rfl ?_
  obtain ⟨x1, hx1, h⟩ := Option.bind_eq_some_iff.mp h
  refine xr_opA (pc' := 60) (lo' := [some (.ref v0), none, none, some (.ref s0)]) (st' := [.ref s0]) (o := ldFR μ v0 0 0) rfl hx1 ?_
  obtain ⟨x2, hx2, h⟩ := Option.bind_eq_some_iff.mp h
  refine xr_opI (pc' := 63) (lo' := [some (.ref v0), none, none, some (.ref s0)]) (st' := [.ref s0]) (o := ldF μ x1 3 0) rfl hx2 ?_
  obtain ⟨r3, hr3, h⟩ := Option.bind_eq_some_iff.mp h
  refine xr_callV (j := 85) (d' := (d + 2)) (rv1 := some (.int r3)) (μ1 := μ) (rest := []) (As := [.int x2]) rfl rfl rfl rfl (Nat.le_of_ble_eq_true rfl) (fP_answerBy_kd hr3) rfl (by exact (fP_answerBy_ok (d := d + (0)) hr3)) ?_
  have ho := Option.some.inj h
  subst ho
  obtain ⟨rfl, rfl⟩ := hK
  exact xr_ret (rv := some (.int r3)) rfl rfl (Or.inl rfl)
noncomputable def fX_answer_29  (v0 : Nat) (v1 : Int32) (v2 : Int32) (μ : xM) : Option (Int32 × xM) := if v2 = 0 then ((ldFR μ v0 0 0).bind fun x4 => (ldFR μ x4 3 8).bind fun x5 => (ldAR μ x5 v1).bind fun x6 => fX_answer_54 v0 x6 μ) else ((ldFR μ v0 0 0).bind fun x7 => (ldFR μ x7 3 9).bind fun x8 => (ldAR μ x8 v1).bind fun x9 => fX_answer_54 v0 x9 μ)
theorem fX_answer_29_ok {d : Nat} {v0 : Nat} {v1 : Int32} {v2 : Int32} {μ : xM} {rv : Option Value} {μf : xM} {out : Int32 × xM} (h : fX_answer_29 v0 v1 v2 μ = some out) (hK : fX_answer_K rv μf out) : xRun (d + 3) 11 29 [some (.ref v0), some (.int v1), some (.int v2), none] [] μ rv μf := by
  unfold fX_answer_29 at h
  refine xr_go 1 (pc' := 30) (lo' := [some (.ref v0), some (.int v1), some (.int v2), none]) (st' := [.int v2]) (μ' := μ) rfl ?_
  refine xr_ifc (pct := 45) rfl rfl rfl (fun hc => ?_) (fun hc => ?_)
  · replace h := (if_pos (of_decide_eq_true hc)).symm.trans h
    refine xr_go 1 (pc' := 46) (lo' := [some (.ref v0), some (.int v1), some (.int v2), none]) (st' := [.ref v0]) (μ' := μ) rfl ?_
    obtain ⟨x4, hx4, h⟩ := Option.bind_eq_some_iff.mp h
    refine xr_opA (pc' := 49) (lo' := [some (.ref v0), some (.int v1), some (.int v2), none]) (st' := []) (o := ldFR μ v0 0 0) rfl hx4 ?_
    obtain ⟨x5, hx5, h⟩ := Option.bind_eq_some_iff.mp h
    refine xr_opA (pc' := 52) (lo' := [some (.ref v0), some (.int v1), some (.int v2), none]) (st' := []) (o := ldFR μ x4 3 8) rfl hx5 ?_
    refine xr_go 1 (pc' := 53) (lo' := [some (.ref v0), some (.int v1), some (.int v2), none]) (st' := [.int v1, .ref x5]) (μ' := μ) rfl ?_
    obtain ⟨x6, hx6, h⟩ := Option.bind_eq_some_iff.mp h
    refine xr_opA (pc' := 54) (lo' := [some (.ref v0), some (.int v1), some (.int v2), none]) (st' := []) (o := ldAR μ x5 v1) rfl hx6 ?_
    refine xr_forget (lo := [some (.ref v0), none, none, none]) ⟨rfl, trivial⟩ ?_
    exact fX_answer_54_ok h hK
  · replace h := (if_neg (of_decide_eq_false hc)).symm.trans h
    refine xr_go 1 (pc' := 34) (lo' := [some (.ref v0), some (.int v1), some (.int v2), none]) (st' := [.ref v0]) (μ' := μ) rfl ?_
    obtain ⟨x7, hx7, h⟩ := Option.bind_eq_some_iff.mp h
    refine xr_opA (pc' := 37) (lo' := [some (.ref v0), some (.int v1), some (.int v2), none]) (st' := []) (o := ldFR μ v0 0 0) rfl hx7 ?_
    obtain ⟨x8, hx8, h⟩ := Option.bind_eq_some_iff.mp h
    refine xr_opA (pc' := 40) (lo' := [some (.ref v0), some (.int v1), some (.int v2), none]) (st' := []) (o := ldFR μ x7 3 9) rfl hx8 ?_
    refine xr_go 1 (pc' := 41) (lo' := [some (.ref v0), some (.int v1), some (.int v2), none]) (st' := [.int v1, .ref x8]) (μ' := μ) rfl ?_
    obtain ⟨x9, hx9, h⟩ := Option.bind_eq_some_iff.mp h
    refine xr_opA (pc' := 42) (lo' := [some (.ref v0), some (.int v1), some (.int v2), none]) (st' := []) (o := ldAR μ x8 v1) rfl hx9 ?_
    refine xr_go 1 (pc' := 54) (lo' := [some (.ref v0), some (.int v1), some (.int v2), none]) (st' := [.ref x9]) (μ' := μ) rfl ?_
    refine xr_forget (lo := [some (.ref v0), none, none, none]) ⟨rfl, trivial⟩ ?_
    exact fX_answer_54_ok h hK
noncomputable def fX_answer_23  (v0 : Nat) (μ : xM) : Option (Int32 × xM) := (fX_refuse v0 (xc (-1)) μ).bind fun r10 => some ((r10.1, r10.2))
theorem fX_answer_23_ok {d : Nat} {v0 : Nat} {μ : xM} {rv : Option Value} {μf : xM} {out : Int32 × xM} (h : fX_answer_23 v0 μ = some out) (hK : fX_answer_K rv μf out) : xRun (d + 3) 11 23 [some (.ref v0), none, none, none] [] μ rv μf := by
  unfold fX_answer_23 at h
  refine xr_go 2 (pc' := 25) (lo' := [some (.ref v0), none, none, none]) (st' := [.int (xc (-1)), .ref v0]) (μ' := μ) rfl ?_
  obtain ⟨r10, hr10, h⟩ := Option.bind_eq_some_iff.mp h
  refine xr_callV (j := 37) (d' := (d + 2)) (rv1 := some (.int r10.1)) (μ1 := r10.2) (rest := []) (As := [.int (xc (-1))]) rfl rfl rfl rfl (Nat.le_of_ble_eq_true rfl) (fX_refuse_kd hr10) rfl (by exact (fX_refuse_ok (d := d + (2)) hr10)) ?_
  have ho := Option.some.inj h
  subst ho
  obtain ⟨rfl, rfl⟩ := hK
  exact xr_ret (rv := some (.int r10.1)) rfl rfl (Or.inl rfl)
noncomputable def fX_answer_0  (v0 : Nat) (v1 : Int32) (v2 : Int32) (μ : xM) : Option (Int32 × xM) := if v2 = 0 then ((fX_isAsk v0 v1 μ).bind fun r11 => if r11 = 0 then (fX_answer_23 v0 μ) else (fX_answer_29 v0 v1 v2 μ)) else ((fX_isView v0 v1 μ).bind fun r12 => if r12 = 0 then (fX_answer_23 v0 μ) else (fX_answer_29 v0 v1 v2 μ))
theorem fX_answer_0_ok {d : Nat} {v0 : Nat} {v1 : Int32} {v2 : Int32} {μ : xM} {rv : Option Value} {μf : xM} {out : Int32 × xM} (h : fX_answer_0 v0 v1 v2 μ = some out) (hK : fX_answer_K rv μf out) : xRun (d + 3) 11 0 [some (.ref v0), some (.int v1), some (.int v2), none] [] μ rv μf := by
  unfold fX_answer_0 at h
  refine xr_go 1 (pc' := 1) (lo' := [some (.ref v0), some (.int v1), some (.int v2), none]) (st' := [.int v2]) (μ' := μ) rfl ?_
  refine xr_ifc (pct := 15) rfl rfl rfl (fun hc => ?_) (fun hc => ?_)
  · replace h := (if_pos (of_decide_eq_true hc)).symm.trans h
    refine xr_go 2 (pc' := 17) (lo' := [some (.ref v0), some (.int v1), some (.int v2), none]) (st' := [.int v1, .ref v0]) (μ' := μ) rfl ?_
    obtain ⟨r11, hr11, h⟩ := Option.bind_eq_some_iff.mp h
    refine xr_callV (j := 39) (d' := (d + 2)) (rv1 := some (.int r11)) (μ1 := μ) (rest := []) (As := [.int v1]) rfl rfl rfl rfl (Nat.le_of_ble_eq_true rfl) (fX_isAsk_kd hr11) rfl (by exact (fX_isAsk_ok (d := d + (2)) hr11)) ?_
    refine xr_ifc (pct := 29) rfl rfl rfl (fun hc => ?_) (fun hc => ?_)
    · replace h := (if_neg (of_decide_eq_true hc)).symm.trans h
      refine xr_forget (lo := [some (.ref v0), some (.int v1), some (.int v2), none]) ⟨rfl, rfl, rfl, trivial⟩ ?_
      exact fX_answer_29_ok h hK
    · replace h := (if_pos (Decidable.of_not_not (of_decide_eq_false hc))).symm.trans h
      refine xr_forget (lo := [some (.ref v0), none, none, none]) ⟨rfl, trivial⟩ ?_
      exact fX_answer_23_ok h hK
  · replace h := (if_neg (of_decide_eq_false hc)).symm.trans h
    refine xr_go 2 (pc' := 6) (lo' := [some (.ref v0), some (.int v1), some (.int v2), none]) (st' := [.int v1, .ref v0]) (μ' := μ) rfl ?_
    obtain ⟨r12, hr12, h⟩ := Option.bind_eq_some_iff.mp h
    refine xr_callV (j := 40) (d' := (d + 2)) (rv1 := some (.int r12)) (μ1 := μ) (rest := []) (As := [.int v1]) rfl rfl rfl rfl (Nat.le_of_ble_eq_true rfl) (fX_isView_kd hr12) rfl (by exact (fX_isView_ok (d := d + (2)) hr12)) ?_
    refine xr_ifc (pct := 23) rfl rfl rfl (fun hc => ?_) (fun hc => ?_)
    · replace h := (if_pos (of_decide_eq_true hc)).symm.trans h
      refine xr_forget (lo := [some (.ref v0), none, none, none]) ⟨rfl, trivial⟩ ?_
      exact fX_answer_23_ok h hK
    · replace h := (if_neg (of_decide_eq_false hc)).symm.trans h
      refine xr_go 1 (pc' := 29) (lo' := [some (.ref v0), some (.int v1), some (.int v2), none]) (st' := []) (μ' := μ) rfl ?_
      refine xr_forget (lo := [some (.ref v0), some (.int v1), some (.int v2), none]) ⟨rfl, rfl, rfl, trivial⟩ ?_
      exact fX_answer_29_ok h hK
noncomputable def fX_answer (a0 : Nat) (a1 : Int32) (a2 : Int32) (μ : xM) : Option (Int32 × xM) := xgd μ a0 0 (fX_answer_0 a0 a1 a2 μ)
theorem fX_answer_kd {a0 : Nat} {a1 : Int32} {a2 : Int32} {μ : xM} {o : Int32 × xM} (h : fX_answer a0 a1 a2 μ = some o) : (xK μ a0).1 = 10 + 0 := (xgd_some h).1
theorem fX_answer_ok {d : Nat} {a0 : Nat} {a1 : Int32} {a2 : Int32} {μ : xM} {o : Int32 × xM} (h : fX_answer a0 a1 a2 μ = some o) : xRun (d + 3) 11 0 [some (.ref a0), some (.int a1), some (.int a2), none] [] μ (some (.int o.1)) o.2 :=
  xr_forget (lo := [some (.ref a0), some (.int a1), some (.int a2), none]) (⟨rfl, rfl, rfl, trivial⟩) (fX_answer_0_ok (d := d) (xgd_some h).2 (show fX_answer_K _ _ o from ⟨rfl, rfl⟩))
-- KeptAnswersModel.isView(I)Z 
def fM_isView_K (μ : xM) (rv : Option Value) (μf : xM) : (Int32) → Prop := fun o => rv = some (.int o) ∧ μf = μ
noncomputable def fM_isView_0  (v0 : Nat) (v1 : Int32) (μ : xM) : Option (Int32) := (ldF μ v0 9 9).bind fun x1 => (fM_isIn (Int32.toInt64 v1) (Int64.ofNat 0) (Int32.toInt64 (x1 - (xc 1))) μ).bind fun r2 => if r2 = 0 ∨ r2 = 1 then some r2 else none
theorem fM_isView_0_ok {d : Nat} {v0 : Nat} {v1 : Int32} {μ : xM} {rv : Option Value} {μf : xM} {out : Int32} (h : fM_isView_0 v0 v1 μ = some out) (hK : fM_isView_K μ rv μf out) : xRun (d + 1) 140 0 [some (.ref v0), some (.int v1)] [] μ rv μf := by
  unfold fM_isView_0 at h
  refine xr_go 4 (pc' := 4) (lo' := [some (.ref v0), some (.int v1)]) (st' := [.ref v0, .long (Int64.ofNat 0), .long (Int32.toInt64 v1)]) (μ' := μ) rfl ?_
  obtain ⟨x1, hx1, h⟩ := Option.bind_eq_some_iff.mp h
  refine xr_opI (pc' := 7) (lo' := [some (.ref v0), some (.int v1)]) (st' := [.long (Int64.ofNat 0), .long (Int32.toInt64 v1)]) (o := ldF μ v0 9 9) rfl hx1 ?_
  refine xr_go 3 (pc' := 10) (lo' := [some (.ref v0), some (.int v1)]) (st' := [.long (Int32.toInt64 (x1 - (xc 1))), .long (Int64.ofNat 0), .long (Int32.toInt64 v1)]) (μ' := μ) rfl ?_
  obtain ⟨r2, hr2, h⟩ := Option.bind_eq_some_iff.mp h
  refine xr_callS (j := 137) (d' := (d + 0)) (rv1 := some (.int r2)) (μ1 := μ) (rest := []) (As := [.long (Int32.toInt64 v1), .long (Int64.ofNat 0), .long (Int32.toInt64 (x1 - (xc 1)))]) rfl rfl rfl rfl (Nat.le_of_ble_eq_true rfl) rfl (by exact (fM_isIn_ok (d := d + (0)) hr2)) ?_
  obtain ⟨hb, h⟩ := xifO h
  have ho := Option.some.inj h
  subst ho
  obtain ⟨rfl, rfl⟩ := hK
  exact xr_ret (rv := some (.int r2)) rfl rfl (Or.inr ⟨rfl, hb⟩)
noncomputable def fM_isView (a0 : Nat) (a1 : Int32) (μ : xM) : Option (Int32) := xgd μ a0 9 (fM_isView_0 a0 a1 μ)
theorem fM_isView_kd {a0 : Nat} {a1 : Int32} {μ : xM} {o : Int32} (h : fM_isView a0 a1 μ = some o) : (xK μ a0).1 = 10 + 9 := (xgd_some h).1
theorem fM_isView_ok {d : Nat} {a0 : Nat} {a1 : Int32} {μ : xM} {o : Int32} (h : fM_isView a0 a1 μ = some o) : xRun (d + 1) 140 0 [some (.ref a0), some (.int a1)] [] μ (some (.int o)) μ :=
  xr_forget (lo := [some (.ref a0), some (.int a1)]) (⟨rfl, rfl, trivial⟩) (fM_isView_0_ok (d := d) (xgd_some h).2 (show fM_isView_K μ _ _ o from ⟨rfl, rfl⟩))
-- KeptAnswersModel.isAsk(I)Z 
def fM_isAsk_K (μ : xM) (rv : Option Value) (μf : xM) : (Int32) → Prop := fun o => rv = some (.int o) ∧ μf = μ
noncomputable def fM_isAsk_0  (v0 : Nat) (v1 : Int32) (μ : xM) : Option (Int32) := (ldF μ v0 9 8).bind fun x1 => (fM_isIn (Int32.toInt64 v1) (Int64.ofNat 0) (Int32.toInt64 (x1 - (xc 1))) μ).bind fun r2 => if r2 = 0 ∨ r2 = 1 then some r2 else none
theorem fM_isAsk_0_ok {d : Nat} {v0 : Nat} {v1 : Int32} {μ : xM} {rv : Option Value} {μf : xM} {out : Int32} (h : fM_isAsk_0 v0 v1 μ = some out) (hK : fM_isAsk_K μ rv μf out) : xRun (d + 1) 139 0 [some (.ref v0), some (.int v1)] [] μ rv μf := by
  unfold fM_isAsk_0 at h
  refine xr_go 4 (pc' := 4) (lo' := [some (.ref v0), some (.int v1)]) (st' := [.ref v0, .long (Int64.ofNat 0), .long (Int32.toInt64 v1)]) (μ' := μ) rfl ?_
  obtain ⟨x1, hx1, h⟩ := Option.bind_eq_some_iff.mp h
  refine xr_opI (pc' := 7) (lo' := [some (.ref v0), some (.int v1)]) (st' := [.long (Int64.ofNat 0), .long (Int32.toInt64 v1)]) (o := ldF μ v0 9 8) rfl hx1 ?_
  refine xr_go 3 (pc' := 10) (lo' := [some (.ref v0), some (.int v1)]) (st' := [.long (Int32.toInt64 (x1 - (xc 1))), .long (Int64.ofNat 0), .long (Int32.toInt64 v1)]) (μ' := μ) rfl ?_
  obtain ⟨r2, hr2, h⟩ := Option.bind_eq_some_iff.mp h
  refine xr_callS (j := 137) (d' := (d + 0)) (rv1 := some (.int r2)) (μ1 := μ) (rest := []) (As := [.long (Int32.toInt64 v1), .long (Int64.ofNat 0), .long (Int32.toInt64 (x1 - (xc 1)))]) rfl rfl rfl rfl (Nat.le_of_ble_eq_true rfl) rfl (by exact (fM_isIn_ok (d := d + (0)) hr2)) ?_
  obtain ⟨hb, h⟩ := xifO h
  have ho := Option.some.inj h
  subst ho
  obtain ⟨rfl, rfl⟩ := hK
  exact xr_ret (rv := some (.int r2)) rfl rfl (Or.inr ⟨rfl, hb⟩)
noncomputable def fM_isAsk (a0 : Nat) (a1 : Int32) (μ : xM) : Option (Int32) := xgd μ a0 9 (fM_isAsk_0 a0 a1 μ)
theorem fM_isAsk_kd {a0 : Nat} {a1 : Int32} {μ : xM} {o : Int32} (h : fM_isAsk a0 a1 μ = some o) : (xK μ a0).1 = 10 + 9 := (xgd_some h).1
theorem fM_isAsk_ok {d : Nat} {a0 : Nat} {a1 : Int32} {μ : xM} {o : Int32} (h : fM_isAsk a0 a1 μ = some o) : xRun (d + 1) 139 0 [some (.ref a0), some (.int a1)] [] μ (some (.int o)) μ :=
  xr_forget (lo := [some (.ref a0), some (.int a1)]) (⟨rfl, rfl, trivial⟩) (fM_isAsk_0_ok (d := d) (xgd_some h).2 (show fM_isAsk_K μ _ _ o from ⟨rfl, rfl⟩))
-- KeptAnswersModel.worldNow()I 
def fM_worldNow_K (μ : xM) (rv : Option Value) (μf : xM) : (Int32) → Prop := fun o => rv = some (.int o) ∧ μf = μ
noncomputable def fM_worldNow_0  (v0 : Nat) (μ : xM) : Option (Int32) := (ldFR μ v0 9 0).bind fun x1 => (ldA μ x1 (xc 0)).bind fun x2 => (ldFR μ v0 9 0).bind fun x3 => (ldA μ x3 (xc 1)).bind fun x4 => (ldFR μ v0 9 0).bind fun x5 => (ldA μ x5 (xc 2)).bind fun x6 => some ((x2 ||| (x4 <<< ((xc 4) &&& 31))) ||| (x6 <<< ((xc 8) &&& 31)))
theorem fM_worldNow_0_ok {d : Nat} {v0 : Nat} {μ : xM} {rv : Option Value} {μf : xM} {out : Int32} (h : fM_worldNow_0 v0 μ = some out) (hK : fM_worldNow_K μ rv μf out) : xRun (d + 0) 164 0 [some (.ref v0)] [] μ rv μf := by
  unfold fM_worldNow_0 at h
  refine xr_go 1 (pc' := 1) (lo' := [some (.ref v0)]) (st' := [.ref v0]) (μ' := μ) rfl ?_
  obtain ⟨x1, hx1, h⟩ := Option.bind_eq_some_iff.mp h
  refine xr_opA (pc' := 4) (lo' := [some (.ref v0)]) (st' := []) (o := ldFR μ v0 9 0) rfl hx1 ?_
  refine xr_go 1 (pc' := 5) (lo' := [some (.ref v0)]) (st' := [.int (xc 0), .ref x1]) (μ' := μ) rfl ?_
  obtain ⟨x2, hx2, h⟩ := Option.bind_eq_some_iff.mp h
  refine xr_opI (pc' := 6) (lo' := [some (.ref v0)]) (st' := []) (o := ldA μ x1 (xc 0)) rfl hx2 ?_
  refine xr_go 1 (pc' := 7) (lo' := [some (.ref v0)]) (st' := [.ref v0, .int x2]) (μ' := μ) rfl ?_
  obtain ⟨x3, hx3, h⟩ := Option.bind_eq_some_iff.mp h
  refine xr_opA (pc' := 10) (lo' := [some (.ref v0)]) (st' := [.int x2]) (o := ldFR μ v0 9 0) rfl hx3 ?_
  refine xr_go 1 (pc' := 11) (lo' := [some (.ref v0)]) (st' := [.int (xc 1), .ref x3, .int x2]) (μ' := μ) rfl ?_
  obtain ⟨x4, hx4, h⟩ := Option.bind_eq_some_iff.mp h
  refine xr_opI (pc' := 12) (lo' := [some (.ref v0)]) (st' := [.int x2]) (o := ldA μ x3 (xc 1)) rfl hx4 ?_
  refine xr_go 4 (pc' := 16) (lo' := [some (.ref v0)]) (st' := [.ref v0, .int (x2 ||| (x4 <<< ((xc 4) &&& 31)))]) (μ' := μ) rfl ?_
  obtain ⟨x5, hx5, h⟩ := Option.bind_eq_some_iff.mp h
  refine xr_opA (pc' := 19) (lo' := [some (.ref v0)]) (st' := [.int (x2 ||| (x4 <<< ((xc 4) &&& 31)))]) (o := ldFR μ v0 9 0) rfl hx5 ?_
  refine xr_go 1 (pc' := 20) (lo' := [some (.ref v0)]) (st' := [.int (xc 2), .ref x5, .int (x2 ||| (x4 <<< ((xc 4) &&& 31)))]) (μ' := μ) rfl ?_
  obtain ⟨x6, hx6, h⟩ := Option.bind_eq_some_iff.mp h
  refine xr_opI (pc' := 21) (lo' := [some (.ref v0)]) (st' := [.int (x2 ||| (x4 <<< ((xc 4) &&& 31)))]) (o := ldA μ x5 (xc 2)) rfl hx6 ?_
  refine xr_go 3 (pc' := 25) (lo' := [some (.ref v0)]) (st' := [.int ((x2 ||| (x4 <<< ((xc 4) &&& 31))) ||| (x6 <<< ((xc 8) &&& 31)))]) (μ' := μ) rfl ?_
  have ho := Option.some.inj h
  subst ho
  obtain ⟨rfl, rfl⟩ := hK
  exact xr_ret (rv := some (.int ((x2 ||| (x4 <<< ((xc 4) &&& 31))) ||| (x6 <<< ((xc 8) &&& 31))))) rfl rfl (Or.inl rfl)
noncomputable def fM_worldNow (a0 : Nat) (μ : xM) : Option (Int32) := xgd μ a0 9 (fM_worldNow_0 a0 μ)
theorem fM_worldNow_kd {a0 : Nat} {μ : xM} {o : Int32} (h : fM_worldNow a0 μ = some o) : (xK μ a0).1 = 10 + 9 := (xgd_some h).1
theorem fM_worldNow_ok {d : Nat} {a0 : Nat} {μ : xM} {o : Int32} (h : fM_worldNow a0 μ = some o) : xRun (d + 0) 164 0 [some (.ref a0)] [] μ (some (.int o)) μ :=
  xr_forget (lo := [some (.ref a0)]) (⟨rfl, trivial⟩) (fM_worldNow_0_ok (d := d) (xgd_some h).2 (show fM_worldNow_K μ _ _ o from ⟨rfl, rfl⟩))
-- KeptAnswersModel.valueOf(II)I 
def fM_valueOf_K (μ : xM) (rv : Option Value) (μf : xM) : (Int32) → Prop := fun o => rv = some (.int o) ∧ μf = μ
noncomputable def fM_valueOf_0  (v0 : Int32) (v1 : Int32) (μ : xM) : Option (Int32) := if (xc 2) ≤ v0 then (some ((v1 >>> ((v0 - (xc 2)) &&& 31)) &&& (xc 1))) else (some v0)
theorem fM_valueOf_0_ok {d : Nat} {v0 : Int32} {v1 : Int32} {μ : xM} {rv : Option Value} {μf : xM} {out : Int32} (h : fM_valueOf_0 v0 v1 μ = some out) (hK : fM_valueOf_K μ rv μf out) : xRun (d + 0) 162 0 [some (.int v0), some (.int v1)] [] μ rv μf := by
  unfold fM_valueOf_0 at h
  refine xr_go 2 (pc' := 2) (lo' := [some (.int v0), some (.int v1)]) (st' := [.int (xc 2), .int v0]) (μ' := μ) rfl ?_
  refine xr_icmp (pct := 9) rfl rfl rfl (fun hc => ?_) (fun hc => ?_)
  · replace h := (if_pos (of_decide_eq_true hc)).symm.trans h
    refine xr_go 7 (pc' := 16) (lo' := [some (.int v0), some (.int v1)]) (st' := [.int ((v1 >>> ((v0 - (xc 2)) &&& 31)) &&& (xc 1))]) (μ' := μ) rfl ?_
    have ho := Option.some.inj h
    subst ho
    obtain ⟨rfl, rfl⟩ := hK
    exact xr_ret (rv := some (.int ((v1 >>> ((v0 - (xc 2)) &&& 31)) &&& (xc 1)))) rfl rfl (Or.inl rfl)
  · replace h := (if_neg (of_decide_eq_false hc)).symm.trans h
    refine xr_go 2 (pc' := 16) (lo' := [some (.int v0), some (.int v1)]) (st' := [.int v0]) (μ' := μ) rfl ?_
    have ho := Option.some.inj h
    subst ho
    obtain ⟨rfl, rfl⟩ := hK
    exact xr_ret (rv := some (.int v0)) rfl rfl (Or.inl rfl)
noncomputable def fM_valueOf (a0 : Int32) (a1 : Int32) (μ : xM) : Option (Int32) := fM_valueOf_0 a0 a1 μ
theorem fM_valueOf_ok {d : Nat} {a0 : Int32} {a1 : Int32} {μ : xM} {o : Int32} (h : fM_valueOf a0 a1 μ = some o) : xRun (d + 0) 162 0 [some (.int a0), some (.int a1)] [] μ (some (.int o)) μ :=
  xr_forget (lo := [some (.int a0), some (.int a1)]) (⟨rfl, rfl, trivial⟩) (fM_valueOf_0_ok (d := d) h (show fM_valueOf_K μ _ _ o from ⟨rfl, rfl⟩))
-- KeptAnswersModel.answerBy(II)I 
def fM_answerBy_K (μ : xM) (rv : Option Value) (μf : xM) : (Int32) → Prop := fun o => rv = some (.int o) ∧ μf = μ
def fM_answerBy_K5 (v0 : Nat) (v1 : Int32) (v2 : Int32) (μ : xM) (d : Nat) (rv : Option Value) (μf : xM) : ((Int32 × Int32) ⊕ (Int32)) → Prop := Sum.elim (fun s : Int32 × Int32 => xRun (d + 1) 163 5 [some (.ref v0), some (.int v1), some (.int v2), some (.int s.1), some (.int s.2), none, none, none] [] μ rv μf) (fM_answerBy_K μ rv μf)
def fM_answerBy_K20 (v0 : Nat) (v1 : Int32) (v2 : Int32) (v3 : Int32) (v4 : Int32) (μ : xM) (d : Nat) (rv : Option Value) (μf : xM) : ((Int32 × Int32) ⊕ ((Int32 × Int32) ⊕ (Int32))) → Prop := Sum.elim (fun s : Int32 × Int32 => xRun (d + 1) 163 20 [some (.ref v0), some (.int v1), some (.int v2), some (.int v3), some (.int v4), some (.int s.1), some (.int s.2), none] [] μ rv μf) (fM_answerBy_K5 v0 v1 v2 μ d rv μf)
def fM_answerBy_K104 (v0 : Nat) (v1 : Int32) (v2 : Int32) (v3 : Int32) (v4 : Int32) (v5 : Int32) (μ : xM) (d : Nat) (rv : Option Value) (μf : xM) : ((Int32 × Int32) ⊕ ((Int32 × Int32) ⊕ (Int32))) → Prop := Sum.elim (fun s : Int32 × Int32 => xRun (d + 1) 163 104 [some (.ref v0), some (.int v1), some (.int v2), some (.int v3), some (.int v4), some (.int v5), some (.int s.1), some (.int s.2)] [] μ rv μf) (fM_answerBy_K5 v0 v1 v2 μ d rv μf)
noncomputable def fM_answerBy_167  (v3 : Int32) (μ : xM) : Option (Int32) := some v3
theorem fM_answerBy_167_ok {d : Nat} {v3 : Int32} {μ : xM} {rv : Option Value} {μf : xM} {out : Int32} (h : fM_answerBy_167 v3 μ = some out) (hK : fM_answerBy_K μ rv μf out) : xRun (d + 1) 163 167 [none, none, none, some (.int v3), none, none, none, none] [] μ rv μf := by
  unfold fM_answerBy_167 at h
  refine xr_go 1 (pc' := 168) (lo' := [none, none, none, some (.int v3), none, none, none, none]) (st' := [.int v3]) (μ' := μ) rfl ?_
  have ho := Option.some.inj h
  subst ho
  obtain ⟨rfl, rfl⟩ := hK
  exact xr_ret (rv := some (.int v3)) rfl rfl (Or.inl rfl)
noncomputable def fM_answerBy_159  (v0 : Nat) (v1 : Int32) (v2 : Int32) (v4 : Int32) (s0 : Int32) (s1 : Int32) (μ : xM) : Option ((Int32 × Int32) ⊕ (Int32)) := some (.inl ((s1 ||| s0, v4 + xc 1)))
theorem fM_answerBy_159_ok {d : Nat} {v0 : Nat} {v1 : Int32} {v2 : Int32} {v4 : Int32} {s0 : Int32} {s1 : Int32} {μ : xM} {rv : Option Value} {μf : xM} {out : (Int32 × Int32) ⊕ (Int32)} (h : fM_answerBy_159 v0 v1 v2 v4 s0 s1 μ = some out) (hK : fM_answerBy_K5 v0 v1 v2 μ d rv μf out) : xRun (d + 1) 163 159 [some (.ref v0), some (.int v1), some (.int v2), none, some (.int v4), none, none, none] [.int s0, .int s1] μ rv μf := by
  unfold fM_answerBy_159 at h
  refine xr_go 4 (pc' := 5) (lo' := [some (.ref v0), some (.int v1), some (.int v2), some (.int (s1 ||| s0)), some (.int (v4 + xc 1)), none, none, none]) (st' := []) (μ' := μ) rfl ?_
  refine xr_forget (lo := [some (.ref v0), some (.int v1), some (.int v2), some (.int (s1 ||| s0)), some (.int (v4 + xc 1)), none, none, none]) ⟨rfl, rfl, rfl, rfl, rfl, trivial⟩ ?_
  have ho := Option.some.inj h
  subst ho
  exact hK
noncomputable def fM_answerBy_145  (v0 : Nat) (v1 : Int32) (v2 : Int32) (v3 : Int32) (v4 : Int32) (v5 : Int32) (v6 : Int32) (μ : xM) : Option ((Int32 × Int32) ⊕ (Int32)) := if v5 = 0 then (fM_answerBy_159 v0 v1 v2 v4 (xc 0) v3 μ) else (fM_answerBy_159 v0 v1 v2 v4 ((xc 1) <<< (v6 &&& 31)) v3 μ)
theorem fM_answerBy_145_ok {d : Nat} {v0 : Nat} {v1 : Int32} {v2 : Int32} {v3 : Int32} {v4 : Int32} {v5 : Int32} {v6 : Int32} {μ : xM} {rv : Option Value} {μf : xM} {out : (Int32 × Int32) ⊕ (Int32)} (h : fM_answerBy_145 v0 v1 v2 v3 v4 v5 v6 μ = some out) (hK : fM_answerBy_K5 v0 v1 v2 μ d rv μf out) : xRun (d + 1) 163 145 [some (.ref v0), some (.int v1), some (.int v2), some (.int v3), some (.int v4), some (.int v5), some (.int v6), none] [] μ rv μf := by
  unfold fM_answerBy_145 at h
  refine xr_go 2 (pc' := 148) (lo' := [some (.ref v0), some (.int v1), some (.int v2), some (.int v3), some (.int v4), some (.int v5), some (.int v6), none]) (st' := [.int v5, .int v3]) (μ' := μ) rfl ?_
  refine xr_ifc (pct := 158) rfl rfl rfl (fun hc => ?_) (fun hc => ?_)
  · replace h := (if_pos (of_decide_eq_true hc)).symm.trans h
    refine xr_go 1 (pc' := 159) (lo' := [some (.ref v0), some (.int v1), some (.int v2), some (.int v3), some (.int v4), some (.int v5), some (.int v6), none]) (st' := [.int (xc 0), .int v3]) (μ' := μ) rfl ?_
    refine xr_forget (lo := [some (.ref v0), some (.int v1), some (.int v2), none, some (.int v4), none, none, none]) ⟨rfl, rfl, rfl, rfl, trivial⟩ ?_
    exact fM_answerBy_159_ok h hK
  · replace h := (if_neg (of_decide_eq_false hc)).symm.trans h
    refine xr_go 4 (pc' := 159) (lo' := [some (.ref v0), some (.int v1), some (.int v2), some (.int v3), some (.int v4), some (.int v5), some (.int v6), none]) (st' := [.int ((xc 1) <<< (v6 &&& 31)), .int v3]) (μ' := μ) rfl ?_
    refine xr_forget (lo := [some (.ref v0), some (.int v1), some (.int v2), none, some (.int v4), none, none, none]) ⟨rfl, rfl, rfl, rfl, trivial⟩ ?_
    exact fM_answerBy_159_ok h hK
noncomputable def fM_answerBy_L104  (v0 : Nat) (v1 : Int32) (v2 : Int32) (v3 : Int32) (v4 : Int32) (v5 : Int32) (v6 : Int32) (v7 : Int32) (μ : xM) : Option ((Int32 × Int32) ⊕ ((Int32 × Int32) ⊕ (Int32))) := (ldFR μ v0 9 14).bind fun x1 => (ldA μ x1 v1).bind fun x2 => if x2 ≤ v7 then ((fM_answerBy_145 v0 v1 v2 v3 v4 v5 v6 μ).map (fun o => .inr o)) else ((ldFR μ v0 9 15).bind fun x3 => (ldA μ x3 (((xc 3) * v1) + v7)).bind fun x4 => (fM_valueOf x4 v4 μ).bind fun r5 => some (.inl ((v6 ||| (r5 <<< (v7 &&& 31)), v7 + xc 1))))
theorem fM_answerBy_L104_ok {d : Nat} {v0 : Nat} {v1 : Int32} {v2 : Int32} {v3 : Int32} {v4 : Int32} {v5 : Int32} {v6 : Int32} {v7 : Int32} {μ : xM} {rv : Option Value} {μf : xM} {out : (Int32 × Int32) ⊕ ((Int32 × Int32) ⊕ (Int32))} (h : fM_answerBy_L104 v0 v1 v2 v3 v4 v5 v6 v7 μ = some out) (hK : fM_answerBy_K104 v0 v1 v2 v3 v4 v5 μ d rv μf out) : xRun (d + 1) 163 104 [some (.ref v0), some (.int v1), some (.int v2), some (.int v3), some (.int v4), some (.int v5), some (.int v6), some (.int v7)] [] μ rv μf := by
  unfold fM_answerBy_L104 at h
  refine xr_go 2 (pc' := 107) (lo' := [some (.ref v0), some (.int v1), some (.int v2), some (.int v3), some (.int v4), some (.int v5), some (.int v6), some (.int v7)]) (st' := [.ref v0, .int v7]) (μ' := μ) rfl ?_
  obtain ⟨x1, hx1, h⟩ := Option.bind_eq_some_iff.mp h
  refine xr_opA (pc' := 110) (lo' := [some (.ref v0), some (.int v1), some (.int v2), some (.int v3), some (.int v4), some (.int v5), some (.int v6), some (.int v7)]) (st' := [.int v7]) (o := ldFR μ v0 9 14) rfl hx1 ?_
  refine xr_go 1 (pc' := 111) (lo' := [some (.ref v0), some (.int v1), some (.int v2), some (.int v3), some (.int v4), some (.int v5), some (.int v6), some (.int v7)]) (st' := [.int v1, .ref x1, .int v7]) (μ' := μ) rfl ?_
  obtain ⟨x2, hx2, h⟩ := Option.bind_eq_some_iff.mp h
  refine xr_opI (pc' := 112) (lo' := [some (.ref v0), some (.int v1), some (.int v2), some (.int v3), some (.int v4), some (.int v5), some (.int v6), some (.int v7)]) (st' := [.int v7]) (o := ldA μ x1 v1) rfl hx2 ?_
  refine xr_icmp (pct := 145) rfl rfl rfl (fun hc => ?_) (fun hc => ?_)
  · replace h := (if_pos (of_decide_eq_true hc)).symm.trans h
    refine xr_forget (lo := [some (.ref v0), some (.int v1), some (.int v2), some (.int v3), some (.int v4), some (.int v5), some (.int v6), none]) ⟨rfl, rfl, rfl, rfl, rfl, rfl, rfl, trivial⟩ ?_
    obtain ⟨o, h2, rfl⟩ := Option.map_eq_some_iff.mp h
    exact fM_answerBy_145_ok h2 hK
  · replace h := (if_neg (of_decide_eq_false hc)).symm.trans h
    refine xr_go 2 (pc' := 118) (lo' := [some (.ref v0), some (.int v1), some (.int v2), some (.int v3), some (.int v4), some (.int v5), some (.int v6), some (.int v7)]) (st' := [.ref v0, .int v6]) (μ' := μ) rfl ?_
    obtain ⟨x3, hx3, h⟩ := Option.bind_eq_some_iff.mp h
    refine xr_opA (pc' := 121) (lo' := [some (.ref v0), some (.int v1), some (.int v2), some (.int v3), some (.int v4), some (.int v5), some (.int v6), some (.int v7)]) (st' := [.int v6]) (o := ldFR μ v0 9 15) rfl hx3 ?_
    refine xr_go 5 (pc' := 127) (lo' := [some (.ref v0), some (.int v1), some (.int v2), some (.int v3), some (.int v4), some (.int v5), some (.int v6), some (.int v7)]) (st' := [.int (((xc 3) * v1) + v7), .ref x3, .int v6]) (μ' := μ) rfl ?_
    obtain ⟨x4, hx4, h⟩ := Option.bind_eq_some_iff.mp h
    refine xr_opI (pc' := 128) (lo' := [some (.ref v0), some (.int v1), some (.int v2), some (.int v3), some (.int v4), some (.int v5), some (.int v6), some (.int v7)]) (st' := [.int v6]) (o := ldA μ x3 (((xc 3) * v1) + v7)) rfl hx4 ?_
    refine xr_go 1 (pc' := 130) (lo' := [some (.ref v0), some (.int v1), some (.int v2), some (.int v3), some (.int v4), some (.int v5), some (.int v6), some (.int v7)]) (st' := [.int v4, .int x4, .int v6]) (μ' := μ) rfl ?_
    obtain ⟨r5, hr5, h⟩ := Option.bind_eq_some_iff.mp h
    refine xr_callS (j := 162) (d' := (d + 0)) (rv1 := some (.int r5)) (μ1 := μ) (rest := [.int v6]) (As := [.int x4, .int v4]) rfl rfl rfl rfl (Nat.le_of_ble_eq_true rfl) rfl (by exact (fM_valueOf_ok (d := d + (0)) hr5)) ?_
    refine xr_go 6 (pc' := 104) (lo' := [some (.ref v0), some (.int v1), some (.int v2), some (.int v3), some (.int v4), some (.int v5), some (.int (v6 ||| (r5 <<< (v7 &&& 31)))), some (.int (v7 + xc 1))]) (st' := []) (μ' := μ) rfl ?_
    refine xr_forget (lo := [some (.ref v0), some (.int v1), some (.int v2), some (.int v3), some (.int v4), some (.int v5), some (.int (v6 ||| (r5 <<< (v7 &&& 31)))), some (.int (v7 + xc 1))]) ⟨rfl, rfl, rfl, rfl, rfl, rfl, rfl, rfl, trivial⟩ ?_
    have ho := Option.some.inj h
    subst ho
    exact hK
theorem fM_answerBy_L104_lp {d : Nat} {v0 : Nat} {v1 : Int32} {v2 : Int32} {v3 : Int32} {v4 : Int32} {v5 : Int32} {v6 : Int32} {v7 : Int32} {μ : xM} {rv : Option Value} {μf : xM} {out : (Int32 × Int32) ⊕ (Int32)} (h : xwh (fun s : Int32 × Int32 => fM_answerBy_L104 v0 v1 v2 v3 v4 v5 s.1 s.2 μ) (v6, v7) = some out) (hK : fM_answerBy_K5 v0 v1 v2 μ d rv μf out) : xRun (d + 1) 163 104 [some (.ref v0), some (.int v1), some (.int v2), some (.int v3), some (.int v4), some (.int v5), some (.int v6), some (.int v7)] [] μ rv μf :=
  xwh_ind (Rh := fun s : Int32 × Int32 => xRun (d + 1) 163 104 [some (.ref v0), some (.int v1), some (.int v2), some (.int v3), some (.int v4), some (.int v5), some (.int s.1), some (.int s.2)] [] μ rv μf) (Co := fM_answerBy_K5 v0 v1 v2 μ d rv μf) (fun s o hb hk => fM_answerBy_L104_ok hb hk) h hK
noncomputable def fM_answerBy_98  (v0 : Nat) (v1 : Int32) (v2 : Int32) (v3 : Int32) (v4 : Int32) (v5 : Int32) (μ : xM) : Option ((Int32 × Int32) ⊕ (Int32)) := xwh (fun s : Int32 × Int32 => fM_answerBy_L104 v0 v1 v2 v3 v4 v5 s.1 s.2 μ) (xc 0, xc 0)
theorem fM_answerBy_98_ok {d : Nat} {v0 : Nat} {v1 : Int32} {v2 : Int32} {v3 : Int32} {v4 : Int32} {v5 : Int32} {μ : xM} {rv : Option Value} {μf : xM} {out : (Int32 × Int32) ⊕ (Int32)} (h : fM_answerBy_98 v0 v1 v2 v3 v4 v5 μ = some out) (hK : fM_answerBy_K5 v0 v1 v2 μ d rv μf out) : xRun (d + 1) 163 98 [some (.ref v0), some (.int v1), some (.int v2), some (.int v3), some (.int v4), some (.int v5), none, none] [] μ rv μf := by
  unfold fM_answerBy_98 at h
  refine xr_go 4 (pc' := 104) (lo' := [some (.ref v0), some (.int v1), some (.int v2), some (.int v3), some (.int v4), some (.int v5), some (.int (xc 0)), some (.int (xc 0))]) (st' := []) (μ' := μ) rfl ?_
  refine xr_forget (lo := [some (.ref v0), some (.int v1), some (.int v2), some (.int v3), some (.int v4), some (.int v5), some (.int (xc 0)), some (.int (xc 0))]) ⟨rfl, rfl, rfl, rfl, rfl, rfl, rfl, rfl, trivial⟩ ?_
  exact fM_answerBy_L104_lp h hK
noncomputable def fM_answerBy_90  (v0 : Nat) (v1 : Int32) (v2 : Int32) (v3 : Int32) (v4 : Int32) (v6 : Int32) (s0 : Int32) (μ : xM) : Option ((Int32 × Int32) ⊕ ((Int32 × Int32) ⊕ (Int32))) := some (.inl ((s0, v6 + xc 1)))
theorem fM_answerBy_90_ok {d : Nat} {v0 : Nat} {v1 : Int32} {v2 : Int32} {v3 : Int32} {v4 : Int32} {v6 : Int32} {s0 : Int32} {μ : xM} {rv : Option Value} {μf : xM} {out : (Int32 × Int32) ⊕ ((Int32 × Int32) ⊕ (Int32))} (h : fM_answerBy_90 v0 v1 v2 v3 v4 v6 s0 μ = some out) (hK : fM_answerBy_K20 v0 v1 v2 v3 v4 μ d rv μf out) : xRun (d + 1) 163 90 [some (.ref v0), some (.int v1), some (.int v2), some (.int v3), some (.int v4), none, some (.int v6), none] [.int s0] μ rv μf := by
  unfold fM_answerBy_90 at h
  refine xr_go 3 (pc' := 20) (lo' := [some (.ref v0), some (.int v1), some (.int v2), some (.int v3), some (.int v4), some (.int s0), some (.int (v6 + xc 1)), none]) (st' := []) (μ' := μ) rfl ?_
  refine xr_forget (lo := [some (.ref v0), some (.int v1), some (.int v2), some (.int v3), some (.int v4), some (.int s0), some (.int (v6 + xc 1)), none]) ⟨rfl, rfl, rfl, rfl, rfl, rfl, rfl, trivial⟩ ?_
  have ho := Option.some.inj h
  subst ho
  exact hK
noncomputable def fM_answerBy_L20  (v0 : Nat) (v1 : Int32) (v2 : Int32) (v3 : Int32) (v4 : Int32) (v5 : Int32) (v6 : Int32) (μ : xM) : Option ((Int32 × Int32) ⊕ ((Int32 × Int32) ⊕ (Int32))) := (ldFR μ v0 9 10).bind fun x6 => (ldA μ x6 v1).bind fun x7 => if (((xc 4) * v1) + x7) ≤ v6 then ((fM_answerBy_98 v0 v1 v2 v3 v4 v5 μ).map (fun o => .inr o)) else (if v5 = 0 then ((fM_answerBy_98 v0 v1 v2 v3 v4 v5 μ).map (fun o => .inr o)) else ((ldFR μ v0 9 11).bind fun x8 => (ldA μ x8 v6).bind fun x9 => (ldFR μ v0 9 12).bind fun x10 => (ldA μ x10 v6).bind fun x11 => (fM_valueOf x11 v4 μ).bind fun r12 => (ldFR μ v0 9 13).bind fun x13 => (ldA μ x13 v6).bind fun x14 => (fM_valueOf x14 v4 μ).bind fun r15 => if ((v2 >>> (((((xc 4) * x9) + ((xc 2) * r12)) + r15) &&& 31)) &&& (xc 1)) = (xc 1) then (fM_answerBy_90 v0 v1 v2 v3 v4 v6 (xc 1) μ) else (fM_answerBy_90 v0 v1 v2 v3 v4 v6 (xc 0) μ)))
theorem fM_answerBy_L20_ok {d : Nat} {v0 : Nat} {v1 : Int32} {v2 : Int32} {v3 : Int32} {v4 : Int32} {v5 : Int32} {v6 : Int32} {μ : xM} {rv : Option Value} {μf : xM} {out : (Int32 × Int32) ⊕ ((Int32 × Int32) ⊕ (Int32))} (h : fM_answerBy_L20 v0 v1 v2 v3 v4 v5 v6 μ = some out) (hK : fM_answerBy_K20 v0 v1 v2 v3 v4 μ d rv μf out) : xRun (d + 1) 163 20 [some (.ref v0), some (.int v1), some (.int v2), some (.int v3), some (.int v4), some (.int v5), some (.int v6), none] [] μ rv μf := by
  unfold fM_answerBy_L20 at h
  refine xr_go 5 (pc' := 26) (lo' := [some (.ref v0), some (.int v1), some (.int v2), some (.int v3), some (.int v4), some (.int v5), some (.int v6), none]) (st' := [.ref v0, .int ((xc 4) * v1), .int v6]) (μ' := μ) rfl ?_
  obtain ⟨x6, hx6, h⟩ := Option.bind_eq_some_iff.mp h
  refine xr_opA (pc' := 29) (lo' := [some (.ref v0), some (.int v1), some (.int v2), some (.int v3), some (.int v4), some (.int v5), some (.int v6), none]) (st' := [.int ((xc 4) * v1), .int v6]) (o := ldFR μ v0 9 10) rfl hx6 ?_
  refine xr_go 1 (pc' := 30) (lo' := [some (.ref v0), some (.int v1), some (.int v2), some (.int v3), some (.int v4), some (.int v5), some (.int v6), none]) (st' := [.int v1, .ref x6, .int ((xc 4) * v1), .int v6]) (μ' := μ) rfl ?_
  obtain ⟨x7, hx7, h⟩ := Option.bind_eq_some_iff.mp h
  refine xr_opI (pc' := 31) (lo' := [some (.ref v0), some (.int v1), some (.int v2), some (.int v3), some (.int v4), some (.int v5), some (.int v6), none]) (st' := [.int ((xc 4) * v1), .int v6]) (o := ldA μ x6 v1) rfl hx7 ?_
  refine xr_go 1 (pc' := 32) (lo' := [some (.ref v0), some (.int v1), some (.int v2), some (.int v3), some (.int v4), some (.int v5), some (.int v6), none]) (st' := [.int (((xc 4) * v1) + x7), .int v6]) (μ' := μ) rfl ?_
  refine xr_icmp (pct := 98) rfl rfl rfl (fun hc => ?_) (fun hc => ?_)
  · replace h := (if_pos (of_decide_eq_true hc)).symm.trans h
    refine xr_forget (lo := [some (.ref v0), some (.int v1), some (.int v2), some (.int v3), some (.int v4), some (.int v5), none, none]) ⟨rfl, rfl, rfl, rfl, rfl, rfl, trivial⟩ ?_
    obtain ⟨o, h2, rfl⟩ := Option.map_eq_some_iff.mp h
    exact fM_answerBy_98_ok h2 hK
  · replace h := (if_neg (of_decide_eq_false hc)).symm.trans h
    refine xr_go 1 (pc' := 37) (lo' := [some (.ref v0), some (.int v1), some (.int v2), some (.int v3), some (.int v4), some (.int v5), some (.int v6), none]) (st' := [.int v5]) (μ' := μ) rfl ?_
    refine xr_ifc (pct := 98) rfl rfl rfl (fun hc => ?_) (fun hc => ?_)
    · replace h := (if_pos (of_decide_eq_true hc)).symm.trans h
      refine xr_forget (lo := [some (.ref v0), some (.int v1), some (.int v2), some (.int v3), some (.int v4), some (.int v5), none, none]) ⟨rfl, rfl, rfl, rfl, rfl, rfl, trivial⟩ ?_
      obtain ⟨o, h2, rfl⟩ := Option.map_eq_some_iff.mp h
      exact fM_answerBy_98_ok h2 hK
    · replace h := (if_neg (of_decide_eq_false hc)).symm.trans h
      refine xr_go 3 (pc' := 43) (lo' := [some (.ref v0), some (.int v1), some (.int v2), some (.int v3), some (.int v4), some (.int v5), some (.int v6), none]) (st' := [.ref v0, .int (xc 4), .int v2]) (μ' := μ) rfl ?_
      obtain ⟨x8, hx8, h⟩ := Option.bind_eq_some_iff.mp h
      refine xr_opA (pc' := 46) (lo' := [some (.ref v0), some (.int v1), some (.int v2), some (.int v3), some (.int v4), some (.int v5), some (.int v6), none]) (st' := [.int (xc 4), .int v2]) (o := ldFR μ v0 9 11) rfl hx8 ?_
      refine xr_go 1 (pc' := 48) (lo' := [some (.ref v0), some (.int v1), some (.int v2), some (.int v3), some (.int v4), some (.int v5), some (.int v6), none]) (st' := [.int v6, .ref x8, .int (xc 4), .int v2]) (μ' := μ) rfl ?_
      obtain ⟨x9, hx9, h⟩ := Option.bind_eq_some_iff.mp h
      refine xr_opI (pc' := 49) (lo' := [some (.ref v0), some (.int v1), some (.int v2), some (.int v3), some (.int v4), some (.int v5), some (.int v6), none]) (st' := [.int (xc 4), .int v2]) (o := ldA μ x8 v6) rfl hx9 ?_
      refine xr_go 3 (pc' := 52) (lo' := [some (.ref v0), some (.int v1), some (.int v2), some (.int v3), some (.int v4), some (.int v5), some (.int v6), none]) (st' := [.ref v0, .int (xc 2), .int ((xc 4) * x9), .int v2]) (μ' := μ) rfl ?_
      obtain ⟨x10, hx10, h⟩ := Option.bind_eq_some_iff.mp h
      refine xr_opA (pc' := 55) (lo' := [some (.ref v0), some (.int v1), some (.int v2), some (.int v3), some (.int v4), some (.int v5), some (.int v6), none]) (st' := [.int (xc 2), .int ((xc 4) * x9), .int v2]) (o := ldFR μ v0 9 12) rfl hx10 ?_
      refine xr_go 1 (pc' := 57) (lo' := [some (.ref v0), some (.int v1), some (.int v2), some (.int v3), some (.int v4), some (.int v5), some (.int v6), none]) (st' := [.int v6, .ref x10, .int (xc 2), .int ((xc 4) * x9), .int v2]) (μ' := μ) rfl ?_
      obtain ⟨x11, hx11, h⟩ := Option.bind_eq_some_iff.mp h
      refine xr_opI (pc' := 58) (lo' := [some (.ref v0), some (.int v1), some (.int v2), some (.int v3), some (.int v4), some (.int v5), some (.int v6), none]) (st' := [.int (xc 2), .int ((xc 4) * x9), .int v2]) (o := ldA μ x10 v6) rfl hx11 ?_
      refine xr_go 1 (pc' := 60) (lo' := [some (.ref v0), some (.int v1), some (.int v2), some (.int v3), some (.int v4), some (.int v5), some (.int v6), none]) (st' := [.int v4, .int x11, .int (xc 2), .int ((xc 4) * x9), .int v2]) (μ' := μ) rfl ?_
      obtain ⟨r12, hr12, h⟩ := Option.bind_eq_some_iff.mp h
      refine xr_callS (j := 162) (d' := (d + 0)) (rv1 := some (.int r12)) (μ1 := μ) (rest := [.int (xc 2), .int ((xc 4) * x9), .int v2]) (As := [.int x11, .int v4]) rfl rfl rfl rfl (Nat.le_of_ble_eq_true rfl) rfl (by exact (fM_valueOf_ok (d := d + (0)) hr12)) ?_
      refine xr_go 3 (pc' := 66) (lo' := [some (.ref v0), some (.int v1), some (.int v2), some (.int v3), some (.int v4), some (.int v5), some (.int v6), none]) (st' := [.ref v0, .int (((xc 4) * x9) + ((xc 2) * r12)), .int v2]) (μ' := μ) rfl ?_
      obtain ⟨x13, hx13, h⟩ := Option.bind_eq_some_iff.mp h
      refine xr_opA (pc' := 69) (lo' := [some (.ref v0), some (.int v1), some (.int v2), some (.int v3), some (.int v4), some (.int v5), some (.int v6), none]) (st' := [.int (((xc 4) * x9) + ((xc 2) * r12)), .int v2]) (o := ldFR μ v0 9 13) rfl hx13 ?_
      refine xr_go 1 (pc' := 71) (lo' := [some (.ref v0), some (.int v1), some (.int v2), some (.int v3), some (.int v4), some (.int v5), some (.int v6), none]) (st' := [.int v6, .ref x13, .int (((xc 4) * x9) + ((xc 2) * r12)), .int v2]) (μ' := μ) rfl ?_
      obtain ⟨x14, hx14, h⟩ := Option.bind_eq_some_iff.mp h
      refine xr_opI (pc' := 72) (lo' := [some (.ref v0), some (.int v1), some (.int v2), some (.int v3), some (.int v4), some (.int v5), some (.int v6), none]) (st' := [.int (((xc 4) * x9) + ((xc 2) * r12)), .int v2]) (o := ldA μ x13 v6) rfl hx14 ?_
      refine xr_go 1 (pc' := 74) (lo' := [some (.ref v0), some (.int v1), some (.int v2), some (.int v3), some (.int v4), some (.int v5), some (.int v6), none]) (st' := [.int v4, .int x14, .int (((xc 4) * x9) + ((xc 2) * r12)), .int v2]) (μ' := μ) rfl ?_
      obtain ⟨r15, hr15, h⟩ := Option.bind_eq_some_iff.mp h
      refine xr_callS (j := 162) (d' := (d + 0)) (rv1 := some (.int r15)) (μ1 := μ) (rest := [.int (((xc 4) * x9) + ((xc 2) * r12)), .int v2]) (As := [.int x14, .int v4]) rfl rfl rfl rfl (Nat.le_of_ble_eq_true rfl) rfl (by exact (fM_valueOf_ok (d := d + (0)) hr15)) ?_
      refine xr_go 5 (pc' := 82) (lo' := [some (.ref v0), some (.int v1), some (.int v2), some (.int v3), some (.int v4), some (.int v5), some (.int v6), none]) (st' := [.int (xc 1), .int ((v2 >>> (((((xc 4) * x9) + ((xc 2) * r12)) + r15) &&& 31)) &&& (xc 1))]) (μ' := μ) rfl ?_
      refine xr_icmp (pct := 89) rfl rfl rfl (fun hc => ?_) (fun hc => ?_)
      · replace h := (if_neg (of_decide_eq_true hc)).symm.trans h
        refine xr_go 1 (pc' := 90) (lo' := [some (.ref v0), some (.int v1), some (.int v2), some (.int v3), some (.int v4), some (.int v5), some (.int v6), none]) (st' := [.int (xc 0)]) (μ' := μ) rfl ?_
        refine xr_forget (lo := [some (.ref v0), some (.int v1), some (.int v2), some (.int v3), some (.int v4), none, some (.int v6), none]) ⟨rfl, rfl, rfl, rfl, rfl, rfl, trivial⟩ ?_
        exact fM_answerBy_90_ok h hK
      · replace h := (if_pos (Decidable.of_not_not (of_decide_eq_false hc))).symm.trans h
        refine xr_go 2 (pc' := 90) (lo' := [some (.ref v0), some (.int v1), some (.int v2), some (.int v3), some (.int v4), some (.int v5), some (.int v6), none]) (st' := [.int (xc 1)]) (μ' := μ) rfl ?_
        refine xr_forget (lo := [some (.ref v0), some (.int v1), some (.int v2), some (.int v3), some (.int v4), none, some (.int v6), none]) ⟨rfl, rfl, rfl, rfl, rfl, rfl, trivial⟩ ?_
        exact fM_answerBy_90_ok h hK
theorem fM_answerBy_L20_lp {d : Nat} {v0 : Nat} {v1 : Int32} {v2 : Int32} {v3 : Int32} {v4 : Int32} {v5 : Int32} {v6 : Int32} {μ : xM} {rv : Option Value} {μf : xM} {out : (Int32 × Int32) ⊕ (Int32)} (h : xwh (fun s : Int32 × Int32 => fM_answerBy_L20 v0 v1 v2 v3 v4 s.1 s.2 μ) (v5, v6) = some out) (hK : fM_answerBy_K5 v0 v1 v2 μ d rv μf out) : xRun (d + 1) 163 20 [some (.ref v0), some (.int v1), some (.int v2), some (.int v3), some (.int v4), some (.int v5), some (.int v6), none] [] μ rv μf :=
  xwh_ind (Rh := fun s : Int32 × Int32 => xRun (d + 1) 163 20 [some (.ref v0), some (.int v1), some (.int v2), some (.int v3), some (.int v4), some (.int s.1), some (.int s.2), none] [] μ rv μf) (Co := fM_answerBy_K5 v0 v1 v2 μ d rv μf) (fun s o hb hk => fM_answerBy_L20_ok hb hk) h hK
noncomputable def fM_answerBy_L5  (v0 : Nat) (v1 : Int32) (v2 : Int32) (v3 : Int32) (v4 : Int32) (μ : xM) : Option ((Int32 × Int32) ⊕ (Int32)) := if (xc 32) ≤ v4 then ((fM_answerBy_167 v3 μ).map (fun o => .inr o)) else (xwh (fun s : Int32 × Int32 => fM_answerBy_L20 v0 v1 v2 v3 v4 s.1 s.2 μ) (xc 1, (xc 4) * v1))
theorem fM_answerBy_L5_ok {d : Nat} {v0 : Nat} {v1 : Int32} {v2 : Int32} {v3 : Int32} {v4 : Int32} {μ : xM} {rv : Option Value} {μf : xM} {out : (Int32 × Int32) ⊕ (Int32)} (h : fM_answerBy_L5 v0 v1 v2 v3 v4 μ = some out) (hK : fM_answerBy_K5 v0 v1 v2 μ d rv μf out) : xRun (d + 1) 163 5 [some (.ref v0), some (.int v1), some (.int v2), some (.int v3), some (.int v4), none, none, none] [] μ rv μf := by
  unfold fM_answerBy_L5 at h
  refine xr_go 2 (pc' := 9) (lo' := [some (.ref v0), some (.int v1), some (.int v2), some (.int v3), some (.int v4), none, none, none]) (st' := [.int (xc 32), .int v4]) (μ' := μ) rfl ?_
  refine xr_icmp (pct := 167) rfl rfl rfl (fun hc => ?_) (fun hc => ?_)
  · replace h := (if_pos (of_decide_eq_true hc)).symm.trans h
    refine xr_forget (lo := [none, none, none, some (.int v3), none, none, none, none]) ⟨rfl, trivial⟩ ?_
    obtain ⟨o, h2, rfl⟩ := Option.map_eq_some_iff.mp h
    exact fM_answerBy_167_ok h2 hK
  · replace h := (if_neg (of_decide_eq_false hc)).symm.trans h
    refine xr_go 6 (pc' := 20) (lo' := [some (.ref v0), some (.int v1), some (.int v2), some (.int v3), some (.int v4), some (.int (xc 1)), some (.int ((xc 4) * v1)), none]) (st' := []) (μ' := μ) rfl ?_
    refine xr_forget (lo := [some (.ref v0), some (.int v1), some (.int v2), some (.int v3), some (.int v4), some (.int (xc 1)), some (.int ((xc 4) * v1)), none]) ⟨rfl, rfl, rfl, rfl, rfl, rfl, rfl, trivial⟩ ?_
    exact fM_answerBy_L20_lp h hK
theorem fM_answerBy_L5_lp {d : Nat} {v0 : Nat} {v1 : Int32} {v2 : Int32} {v3 : Int32} {v4 : Int32} {μ : xM} {rv : Option Value} {μf : xM} {out : Int32} (h : xwh (fun s : Int32 × Int32 => fM_answerBy_L5 v0 v1 v2 s.1 s.2 μ) (v3, v4) = some out) (hK : fM_answerBy_K μ rv μf out) : xRun (d + 1) 163 5 [some (.ref v0), some (.int v1), some (.int v2), some (.int v3), some (.int v4), none, none, none] [] μ rv μf :=
  xwh_ind (Rh := fun s : Int32 × Int32 => xRun (d + 1) 163 5 [some (.ref v0), some (.int v1), some (.int v2), some (.int s.1), some (.int s.2), none, none, none] [] μ rv μf) (Co := fM_answerBy_K μ rv μf) (fun s o hb hk => fM_answerBy_L5_ok hb hk) h hK
noncomputable def fM_answerBy_0  (v0 : Nat) (v1 : Int32) (v2 : Int32) (μ : xM) : Option (Int32) := xwh (fun s : Int32 × Int32 => fM_answerBy_L5 v0 v1 v2 s.1 s.2 μ) (xc 0, xc 0)
theorem fM_answerBy_0_ok {d : Nat} {v0 : Nat} {v1 : Int32} {v2 : Int32} {μ : xM} {rv : Option Value} {μf : xM} {out : Int32} (h : fM_answerBy_0 v0 v1 v2 μ = some out) (hK : fM_answerBy_K μ rv μf out) : xRun (d + 1) 163 0 [some (.ref v0), some (.int v1), some (.int v2), none, none, none, none, none] [] μ rv μf := by
  unfold fM_answerBy_0 at h
  refine xr_go 4 (pc' := 5) (lo' := [some (.ref v0), some (.int v1), some (.int v2), some (.int (xc 0)), some (.int (xc 0)), none, none, none]) (st' := []) (μ' := μ) rfl ?_
  refine xr_forget (lo := [some (.ref v0), some (.int v1), some (.int v2), some (.int (xc 0)), some (.int (xc 0)), none, none, none]) ⟨rfl, rfl, rfl, rfl, rfl, trivial⟩ ?_
  exact fM_answerBy_L5_lp h hK
noncomputable def fM_answerBy (a0 : Nat) (a1 : Int32) (a2 : Int32) (μ : xM) : Option (Int32) := xgd μ a0 9 (fM_answerBy_0 a0 a1 a2 μ)
theorem fM_answerBy_kd {a0 : Nat} {a1 : Int32} {a2 : Int32} {μ : xM} {o : Int32} (h : fM_answerBy a0 a1 a2 μ = some o) : (xK μ a0).1 = 10 + 9 := (xgd_some h).1
theorem fM_answerBy_ok {d : Nat} {a0 : Nat} {a1 : Int32} {a2 : Int32} {μ : xM} {o : Int32} (h : fM_answerBy a0 a1 a2 μ = some o) : xRun (d + 1) 163 0 [some (.ref a0), some (.int a1), some (.int a2), none, none, none, none, none] [] μ (some (.int o)) μ :=
  xr_forget (lo := [some (.ref a0), some (.int a1), some (.int a2), none, none, none, none, none]) (⟨rfl, rfl, rfl, trivial⟩) (fM_answerBy_0_ok (d := d) (xgd_some h).2 (show fM_answerBy_K μ _ _ o from ⟨rfl, rfl⟩))
-- KeptAnswersModel.answer(IZ)I 
def fM_answer_K (rv : Option Value) (μf : xM) : (Int32 × xM) → Prop := fun o => rv = some (.int o.1) ∧ μf = o.2
noncomputable def fM_answer_42  (v0 : Nat) (s0 : Int32) (s1 : Nat) (μ : xM) : Option (Int32 × xM) := (fM_worldNow v0 μ).bind fun r1 => (fM_answerBy s1 s0 r1 μ).bind fun r2 => some ((r2, μ))
theorem fM_answer_42_ok {d : Nat} {v0 : Nat} {s0 : Int32} {s1 : Nat} {μ : xM} {rv : Option Value} {μf : xM} {out : Int32 × xM} (h : fM_answer_42 v0 s0 s1 μ = some out) (hK : fM_answer_K rv μf out) : xRun (d + 2) 165 42 [some (.ref v0), none, none] [.int s0, .ref s1] μ rv μf := by
  unfold fM_answer_42 at h
  refine xr_go 1 (pc' := 43) (lo' := [some (.ref v0), none, none]) (st' := [.ref v0, .int s0, .ref s1]) (μ' := μ) rfl ?_
  obtain ⟨r1, hr1, h⟩ := Option.bind_eq_some_iff.mp h
  refine xr_callV (j := 164) (d' := (d + 1)) (rv1 := some (.int r1)) (μ1 := μ) (rest := [.int s0, .ref s1]) (As := []) rfl rfl rfl rfl (Nat.le_of_ble_eq_true rfl) (fM_worldNow_kd hr1) rfl (by exact (fM_worldNow_ok (d := d + (1)) hr1)) ?_
  obtain ⟨r2, hr2, h⟩ := Option.bind_eq_some_iff.mp h
  refine xr_callV (j := 163) (d' := (d + 1)) (rv1 := some (.int r2)) (μ1 := μ) (rest := []) (As := [.int s0, .int r1]) rfl rfl rfl rfl (Nat.le_of_ble_eq_true rfl) (fM_answerBy_kd hr2) rfl (by exact (fM_answerBy_ok (d := d + (0)) hr2)) ?_
  have ho := Option.some.inj h
  subst ho
  obtain ⟨rfl, rfl⟩ := hK
  exact xr_ret (rv := some (.int r2)) rfl rfl (Or.inl rfl)
noncomputable def fM_answer_29  (v0 : Nat) (v1 : Int32) (v2 : Int32) (μ : xM) : Option (Int32 × xM) := if v2 = 0 then (fM_answer_42 v0 v1 v0 μ) else (fM_answer_42 v0 ((xc 10) + v1) v0 μ)
theorem fM_answer_29_ok {d : Nat} {v0 : Nat} {v1 : Int32} {v2 : Int32} {μ : xM} {rv : Option Value} {μf : xM} {out : Int32 × xM} (h : fM_answer_29 v0 v1 v2 μ = some out) (hK : fM_answer_K rv μf out) : xRun (d + 2) 165 29 [some (.ref v0), some (.int v1), some (.int v2)] [] μ rv μf := by
  unfold fM_answer_29 at h
  refine xr_go 2 (pc' := 31) (lo' := [some (.ref v0), some (.int v1), some (.int v2)]) (st' := [.int v2, .ref v0]) (μ' := μ) rfl ?_
  refine xr_ifc (pct := 41) rfl rfl rfl (fun hc => ?_) (fun hc => ?_)
  · replace h := (if_pos (of_decide_eq_true hc)).symm.trans h
    refine xr_go 1 (pc' := 42) (lo' := [some (.ref v0), some (.int v1), some (.int v2)]) (st' := [.int v1, .ref v0]) (μ' := μ) rfl ?_
    refine xr_forget (lo := [some (.ref v0), none, none]) ⟨rfl, trivial⟩ ?_
    exact fM_answer_42_ok h hK
  · replace h := (if_neg (of_decide_eq_false hc)).symm.trans h
    refine xr_go 4 (pc' := 42) (lo' := [some (.ref v0), some (.int v1), some (.int v2)]) (st' := [.int ((xc 10) + v1), .ref v0]) (μ' := μ) rfl ?_
    refine xr_forget (lo := [some (.ref v0), none, none]) ⟨rfl, trivial⟩ ?_
    exact fM_answer_42_ok h hK
noncomputable def fM_answer_23  (v0 : Nat) (μ : xM) : Option (Int32 × xM) := (fM_refuse v0 (xc (-1)) μ).bind fun r3 => some ((r3.1, r3.2))
theorem fM_answer_23_ok {d : Nat} {v0 : Nat} {μ : xM} {rv : Option Value} {μf : xM} {out : Int32 × xM} (h : fM_answer_23 v0 μ = some out) (hK : fM_answer_K rv μf out) : xRun (d + 2) 165 23 [some (.ref v0), none, none] [] μ rv μf := by
  unfold fM_answer_23 at h
  refine xr_go 2 (pc' := 25) (lo' := [some (.ref v0), none, none]) (st' := [.int (xc (-1)), .ref v0]) (μ' := μ) rfl ?_
  obtain ⟨r3, hr3, h⟩ := Option.bind_eq_some_iff.mp h
  refine xr_callV (j := 138) (d' := (d + 1)) (rv1 := some (.int r3.1)) (μ1 := r3.2) (rest := []) (As := [.int (xc (-1))]) rfl rfl rfl rfl (Nat.le_of_ble_eq_true rfl) (fM_refuse_kd hr3) rfl (by exact (fM_refuse_ok (d := d + (1)) hr3)) ?_
  have ho := Option.some.inj h
  subst ho
  obtain ⟨rfl, rfl⟩ := hK
  exact xr_ret (rv := some (.int r3.1)) rfl rfl (Or.inl rfl)
noncomputable def fM_answer_0  (v0 : Nat) (v1 : Int32) (v2 : Int32) (μ : xM) : Option (Int32 × xM) := if v2 = 0 then ((fM_isAsk v0 v1 μ).bind fun r4 => if r4 = 0 then (fM_answer_23 v0 μ) else (fM_answer_29 v0 v1 v2 μ)) else ((fM_isView v0 v1 μ).bind fun r5 => if r5 = 0 then (fM_answer_23 v0 μ) else (fM_answer_29 v0 v1 v2 μ))
theorem fM_answer_0_ok {d : Nat} {v0 : Nat} {v1 : Int32} {v2 : Int32} {μ : xM} {rv : Option Value} {μf : xM} {out : Int32 × xM} (h : fM_answer_0 v0 v1 v2 μ = some out) (hK : fM_answer_K rv μf out) : xRun (d + 2) 165 0 [some (.ref v0), some (.int v1), some (.int v2)] [] μ rv μf := by
  unfold fM_answer_0 at h
  refine xr_go 1 (pc' := 1) (lo' := [some (.ref v0), some (.int v1), some (.int v2)]) (st' := [.int v2]) (μ' := μ) rfl ?_
  refine xr_ifc (pct := 15) rfl rfl rfl (fun hc => ?_) (fun hc => ?_)
  · replace h := (if_pos (of_decide_eq_true hc)).symm.trans h
    refine xr_go 2 (pc' := 17) (lo' := [some (.ref v0), some (.int v1), some (.int v2)]) (st' := [.int v1, .ref v0]) (μ' := μ) rfl ?_
    obtain ⟨r4, hr4, h⟩ := Option.bind_eq_some_iff.mp h
    refine xr_callV (j := 139) (d' := (d + 1)) (rv1 := some (.int r4)) (μ1 := μ) (rest := []) (As := [.int v1]) rfl rfl rfl rfl (Nat.le_of_ble_eq_true rfl) (fM_isAsk_kd hr4) rfl (by exact (fM_isAsk_ok (d := d + (0)) hr4)) ?_
    refine xr_ifc (pct := 29) rfl rfl rfl (fun hc => ?_) (fun hc => ?_)
    · replace h := (if_neg (of_decide_eq_true hc)).symm.trans h
      refine xr_forget (lo := [some (.ref v0), some (.int v1), some (.int v2)]) ⟨rfl, rfl, rfl, trivial⟩ ?_
      exact fM_answer_29_ok h hK
    · replace h := (if_pos (Decidable.of_not_not (of_decide_eq_false hc))).symm.trans h
      refine xr_forget (lo := [some (.ref v0), none, none]) ⟨rfl, trivial⟩ ?_
      exact fM_answer_23_ok h hK
  · replace h := (if_neg (of_decide_eq_false hc)).symm.trans h
    refine xr_go 2 (pc' := 6) (lo' := [some (.ref v0), some (.int v1), some (.int v2)]) (st' := [.int v1, .ref v0]) (μ' := μ) rfl ?_
    obtain ⟨r5, hr5, h⟩ := Option.bind_eq_some_iff.mp h
    refine xr_callV (j := 140) (d' := (d + 1)) (rv1 := some (.int r5)) (μ1 := μ) (rest := []) (As := [.int v1]) rfl rfl rfl rfl (Nat.le_of_ble_eq_true rfl) (fM_isView_kd hr5) rfl (by exact (fM_isView_ok (d := d + (0)) hr5)) ?_
    refine xr_ifc (pct := 29) rfl rfl rfl (fun hc => ?_) (fun hc => ?_)
    · replace h := (if_neg (of_decide_eq_true hc)).symm.trans h
      refine xr_forget (lo := [some (.ref v0), some (.int v1), some (.int v2)]) ⟨rfl, rfl, rfl, trivial⟩ ?_
      exact fM_answer_29_ok h hK
    · replace h := (if_pos (Decidable.of_not_not (of_decide_eq_false hc))).symm.trans h
      refine xr_go 1 (pc' := 23) (lo' := [some (.ref v0), some (.int v1), some (.int v2)]) (st' := []) (μ' := μ) rfl ?_
      refine xr_forget (lo := [some (.ref v0), none, none]) ⟨rfl, trivial⟩ ?_
      exact fM_answer_23_ok h hK
noncomputable def fM_answer (a0 : Nat) (a1 : Int32) (a2 : Int32) (μ : xM) : Option (Int32 × xM) := xgd μ a0 9 (fM_answer_0 a0 a1 a2 μ)
theorem fM_answer_kd {a0 : Nat} {a1 : Int32} {a2 : Int32} {μ : xM} {o : Int32 × xM} (h : fM_answer a0 a1 a2 μ = some o) : (xK μ a0).1 = 10 + 9 := (xgd_some h).1
theorem fM_answer_ok {d : Nat} {a0 : Nat} {a1 : Int32} {a2 : Int32} {μ : xM} {o : Int32 × xM} (h : fM_answer a0 a1 a2 μ = some o) : xRun (d + 2) 165 0 [some (.ref a0), some (.int a1), some (.int a2)] [] μ (some (.int o.1)) o.2 :=
  xr_forget (lo := [some (.ref a0), some (.int a1), some (.int a2)]) (⟨rfl, rfl, rfl, trivial⟩) (fM_answer_0_ok (d := d) (xgd_some h).2 (show fM_answer_K _ _ o from ⟨rfl, rfl⟩))
-- KeptAnswers$Picture.copyHead(LKeptAnswers$Picture;)V 
def fP_copyHead_K (rv : Option Value) (μf : xM) : (xM) → Prop := fun o => rv = none ∧ μf = o
def fP_copyHead_K2 (v0 : Nat) (v1 : Nat) (d : Nat) (rv : Option Value) (μf : xM) : ((Int32 × xM) ⊕ (xM)) → Prop := Sum.elim (fun s : Int32 × xM => xRun (d + 1) 81 2 [some (.ref v0), some (.ref v1), some (.int s.1)] [] s.2 rv μf) (fP_copyHead_K rv μf)
noncomputable def fP_copyHead_L2  (v0 : Nat) (v1 : Nat) (v2 : Int32) (μ : xM) : Option ((Int32 × xM) ⊕ (xM)) := (ldF μ v1 5 4).bind fun x1 => if x1 ≤ v2 then (some (.inr μ)) else ((ldFR μ v1 5 5).bind fun x2 => (ldA μ x2 v2).bind fun x3 => (fP_addToHead v0 x3 μ).bind fun r4 => some (.inl ((v2 + xc 1, r4))))
theorem fP_copyHead_L2_ok {d : Nat} {v0 : Nat} {v1 : Nat} {v2 : Int32} {μ : xM} {rv : Option Value} {μf : xM} {out : (Int32 × xM) ⊕ (xM)} (h : fP_copyHead_L2 v0 v1 v2 μ = some out) (hK : fP_copyHead_K2 v0 v1 d rv μf out) : xRun (d + 1) 81 2 [some (.ref v0), some (.ref v1), some (.int v2)] [] μ rv μf := by
  unfold fP_copyHead_L2 at h
  refine xr_go 2 (pc' := 4) (lo' := [some (.ref v0), some (.ref v1), some (.int v2)]) (st' := [.ref v1, .int v2]) (μ' := μ) rfl ?_
  obtain ⟨x1, hx1, h⟩ := Option.bind_eq_some_iff.mp h
  refine xr_opI (pc' := 7) (lo' := [some (.ref v0), some (.ref v1), some (.int v2)]) (st' := [.int v2]) (o := ldF μ v1 5 4) rfl hx1 ?_
  refine xr_icmp (pct := 26) rfl rfl rfl (fun hc => ?_) (fun hc => ?_)
  · replace h := (if_pos (of_decide_eq_true hc)).symm.trans h
    have ho := Option.some.inj h
    subst ho
    obtain ⟨rfl, rfl⟩ := hK
    exact xr_ret (rv := none) rfl rfl (rfl)
  · replace h := (if_neg (of_decide_eq_false hc)).symm.trans h
    refine xr_go 2 (pc' := 12) (lo' := [some (.ref v0), some (.ref v1), some (.int v2)]) (st' := [.ref v1, .ref v0]) (μ' := μ) rfl ?_
    obtain ⟨x2, hx2, h⟩ := Option.bind_eq_some_iff.mp h
    refine xr_opA (pc' := 15) (lo' := [some (.ref v0), some (.ref v1), some (.int v2)]) (st' := [.ref v0]) (o := ldFR μ v1 5 5) rfl hx2 ?_
    refine xr_go 1 (pc' := 16) (lo' := [some (.ref v0), some (.ref v1), some (.int v2)]) (st' := [.int v2, .ref x2, .ref v0]) (μ' := μ) rfl ?_
    obtain ⟨x3, hx3, h⟩ := Option.bind_eq_some_iff.mp h
    refine xr_opI (pc' := 17) (lo' := [some (.ref v0), some (.ref v1), some (.int v2)]) (st' := [.ref v0]) (o := ldA μ x2 v2) rfl hx3 ?_
    obtain ⟨r4, hr4, h⟩ := Option.bind_eq_some_iff.mp h
    refine xr_callV (j := 79) (d' := (d + 0)) (rv1 := none) (μ1 := r4) (rest := []) (As := [.int x3]) rfl rfl rfl rfl (Nat.le_of_ble_eq_true rfl) (fP_addToHead_kd hr4) rfl (by exact (fP_addToHead_ok (d := d + (0)) hr4)) ?_
    refine xr_go 2 (pc' := 2) (lo' := [some (.ref v0), some (.ref v1), some (.int (v2 + xc 1))]) (st' := []) (μ' := r4) rfl ?_
    refine xr_forget (lo := [some (.ref v0), some (.ref v1), some (.int (v2 + xc 1))]) ⟨rfl, rfl, rfl, trivial⟩ ?_
    have ho := Option.some.inj h
    subst ho
    exact hK
theorem fP_copyHead_L2_lp {d : Nat} {v0 : Nat} {v1 : Nat} {v2 : Int32} {μ : xM} {rv : Option Value} {μf : xM} {out : xM} (h : xwh (fun s : Int32 × xM => fP_copyHead_L2 v0 v1 s.1 s.2) (v2, μ) = some out) (hK : fP_copyHead_K rv μf out) : xRun (d + 1) 81 2 [some (.ref v0), some (.ref v1), some (.int v2)] [] μ rv μf :=
  xwh_ind (Rh := fun s : Int32 × xM => xRun (d + 1) 81 2 [some (.ref v0), some (.ref v1), some (.int s.1)] [] s.2 rv μf) (Co := fP_copyHead_K rv μf) (fun s o hb hk => fP_copyHead_L2_ok hb hk) h hK
noncomputable def fP_copyHead_0  (v0 : Nat) (v1 : Nat) (μ : xM) : Option (xM) := xwh (fun s : Int32 × xM => fP_copyHead_L2 v0 v1 s.1 s.2) (xc 0, μ)
theorem fP_copyHead_0_ok {d : Nat} {v0 : Nat} {v1 : Nat} {μ : xM} {rv : Option Value} {μf : xM} {out : xM} (h : fP_copyHead_0 v0 v1 μ = some out) (hK : fP_copyHead_K rv μf out) : xRun (d + 1) 81 0 [some (.ref v0), some (.ref v1), none] [] μ rv μf := by
  unfold fP_copyHead_0 at h
  refine xr_go 2 (pc' := 2) (lo' := [some (.ref v0), some (.ref v1), some (.int (xc 0))]) (st' := []) (μ' := μ) rfl ?_
  refine xr_forget (lo := [some (.ref v0), some (.ref v1), some (.int (xc 0))]) ⟨rfl, rfl, rfl, trivial⟩ ?_
  exact fP_copyHead_L2_lp h hK
noncomputable def fP_copyHead (a0 : Nat) (a1 : Nat) (μ : xM) : Option (xM) := xgd μ a0 5 (fP_copyHead_0 a0 a1 μ)
theorem fP_copyHead_kd {a0 : Nat} {a1 : Nat} {μ : xM} {o : xM} (h : fP_copyHead a0 a1 μ = some o) : (xK μ a0).1 = 10 + 5 := (xgd_some h).1
theorem fP_copyHead_ok {d : Nat} {a0 : Nat} {a1 : Nat} {μ : xM} {o : xM} (h : fP_copyHead a0 a1 μ = some o) : xRun (d + 1) 81 0 [some (.ref a0), some (.ref a1), none] [] μ none o :=
  xr_forget (lo := [some (.ref a0), some (.ref a1), none]) (⟨rfl, rfl, trivial⟩) (fP_copyHead_0_ok (d := d) (xgd_some h).2 (show fP_copyHead_K _ _ o from ⟨rfl, rfl⟩))
-- KeptAnswers$Picture.copyFrom(LKeptAnswers$Picture;)V 
def fP_copyFrom_K (rv : Option Value) (μf : xM) : (xM) → Prop := fun o => rv = none ∧ μf = o
def fP_copyFrom_K6 (v0 : Nat) (v1 : Nat) (d : Nat) (rv : Option Value) (μf : xM) : ((Int32 × xM) ⊕ (xM)) → Prop := Sum.elim (fun s : Int32 × xM => xRun (d + 2) 80 6 [some (.ref v0), some (.ref v1), some (.int s.1)] [] s.2 rv μf) (fP_copyFrom_K rv μf)
noncomputable def fP_copyFrom_42  (v0 : Nat) (v1 : Nat) (μ : xM) : Option (xM) := (fP_copyHead v0 v1 μ).bind fun r1 => some r1
theorem fP_copyFrom_42_ok {d : Nat} {v0 : Nat} {v1 : Nat} {μ : xM} {rv : Option Value} {μf : xM} {out : xM} (h : fP_copyFrom_42 v0 v1 μ = some out) (hK : fP_copyFrom_K rv μf out) : xRun (d + 2) 80 42 [some (.ref v0), some (.ref v1), none] [] μ rv μf := by
  unfold fP_copyFrom_42 at h
  refine xr_go 2 (pc' := 44) (lo' := [some (.ref v0), some (.ref v1), none]) (st' := [.ref v1, .ref v0]) (μ' := μ) rfl ?_
  obtain ⟨r1, hr1, h⟩ := Option.bind_eq_some_iff.mp h
  refine xr_callV (j := 81) (d' := (d + 1)) (rv1 := none) (μ1 := r1) (rest := []) (As := [.ref v1]) rfl rfl rfl rfl (Nat.le_of_ble_eq_true rfl) (fP_copyHead_kd hr1) rfl (by exact (fP_copyHead_ok (d := d + (0)) hr1)) ?_
  have ho := Option.some.inj h
  subst ho
  obtain ⟨rfl, rfl⟩ := hK
  exact xr_ret (rv := none) rfl rfl (rfl)
noncomputable def fP_copyFrom_L6  (v0 : Nat) (v1 : Nat) (v2 : Int32) (μ : xM) : Option ((Int32 × xM) ⊕ (xM)) := (ldF μ v1 5 0).bind fun x2 => if x2 ≤ v2 then ((fP_copyFrom_42 v0 v1 μ).map (fun o => .inr o)) else ((ldFR μ v1 5 1).bind fun x3 => (ldA μ x3 v2).bind fun x4 => (ldFR μ v1 5 2).bind fun x5 => (ldA μ x5 v2).bind fun x6 => (ldFR μ v1 5 3).bind fun x7 => (ldA μ x7 v2).bind fun x8 => (fP_addRow v0 x4 x6 x8 μ).bind fun r9 => some (.inl ((v2 + xc 1, r9))))
theorem fP_copyFrom_L6_ok {d : Nat} {v0 : Nat} {v1 : Nat} {v2 : Int32} {μ : xM} {rv : Option Value} {μf : xM} {out : (Int32 × xM) ⊕ (xM)} (h : fP_copyFrom_L6 v0 v1 v2 μ = some out) (hK : fP_copyFrom_K6 v0 v1 d rv μf out) : xRun (d + 2) 80 6 [some (.ref v0), some (.ref v1), some (.int v2)] [] μ rv μf := by
  unfold fP_copyFrom_L6 at h
  refine xr_go 2 (pc' := 8) (lo' := [some (.ref v0), some (.ref v1), some (.int v2)]) (st' := [.ref v1, .int v2]) (μ' := μ) rfl ?_
  obtain ⟨x2, hx2, h⟩ := Option.bind_eq_some_iff.mp h
  refine xr_opI (pc' := 11) (lo' := [some (.ref v0), some (.ref v1), some (.int v2)]) (st' := [.int v2]) (o := ldF μ v1 5 0) rfl hx2 ?_
  refine xr_icmp (pct := 42) rfl rfl rfl (fun hc => ?_) (fun hc => ?_)
  · replace h := (if_pos (of_decide_eq_true hc)).symm.trans h
    refine xr_forget (lo := [some (.ref v0), some (.ref v1), none]) ⟨rfl, rfl, trivial⟩ ?_
    obtain ⟨o, h2, rfl⟩ := Option.map_eq_some_iff.mp h
    exact fP_copyFrom_42_ok h2 hK
  · replace h := (if_neg (of_decide_eq_false hc)).symm.trans h
    refine xr_go 2 (pc' := 16) (lo' := [some (.ref v0), some (.ref v1), some (.int v2)]) (st' := [.ref v1, .ref v0]) (μ' := μ) rfl ?_
    obtain ⟨x3, hx3, h⟩ := Option.bind_eq_some_iff.mp h
    refine xr_opA (pc' := 19) (lo' := [some (.ref v0), some (.ref v1), some (.int v2)]) (st' := [.ref v0]) (o := ldFR μ v1 5 1) rfl hx3 ?_
    refine xr_go 1 (pc' := 20) (lo' := [some (.ref v0), some (.ref v1), some (.int v2)]) (st' := [.int v2, .ref x3, .ref v0]) (μ' := μ) rfl ?_
    obtain ⟨x4, hx4, h⟩ := Option.bind_eq_some_iff.mp h
    refine xr_opI (pc' := 21) (lo' := [some (.ref v0), some (.ref v1), some (.int v2)]) (st' := [.ref v0]) (o := ldA μ x3 v2) rfl hx4 ?_
    refine xr_go 1 (pc' := 22) (lo' := [some (.ref v0), some (.ref v1), some (.int v2)]) (st' := [.ref v1, .int x4, .ref v0]) (μ' := μ) rfl ?_
    obtain ⟨x5, hx5, h⟩ := Option.bind_eq_some_iff.mp h
    refine xr_opA (pc' := 25) (lo' := [some (.ref v0), some (.ref v1), some (.int v2)]) (st' := [.int x4, .ref v0]) (o := ldFR μ v1 5 2) rfl hx5 ?_
    refine xr_go 1 (pc' := 26) (lo' := [some (.ref v0), some (.ref v1), some (.int v2)]) (st' := [.int v2, .ref x5, .int x4, .ref v0]) (μ' := μ) rfl ?_
    obtain ⟨x6, hx6, h⟩ := Option.bind_eq_some_iff.mp h
    refine xr_opI (pc' := 27) (lo' := [some (.ref v0), some (.ref v1), some (.int v2)]) (st' := [.int x4, .ref v0]) (o := ldA μ x5 v2) rfl hx6 ?_
    refine xr_go 1 (pc' := 28) (lo' := [some (.ref v0), some (.ref v1), some (.int v2)]) (st' := [.ref v1, .int x6, .int x4, .ref v0]) (μ' := μ) rfl ?_
    obtain ⟨x7, hx7, h⟩ := Option.bind_eq_some_iff.mp h
    refine xr_opA (pc' := 31) (lo' := [some (.ref v0), some (.ref v1), some (.int v2)]) (st' := [.int x6, .int x4, .ref v0]) (o := ldFR μ v1 5 3) rfl hx7 ?_
    refine xr_go 1 (pc' := 32) (lo' := [some (.ref v0), some (.ref v1), some (.int v2)]) (st' := [.int v2, .ref x7, .int x6, .int x4, .ref v0]) (μ' := μ) rfl ?_
    obtain ⟨x8, hx8, h⟩ := Option.bind_eq_some_iff.mp h
    refine xr_opI (pc' := 33) (lo' := [some (.ref v0), some (.ref v1), some (.int v2)]) (st' := [.int x6, .int x4, .ref v0]) (o := ldA μ x7 v2) rfl hx8 ?_
    obtain ⟨r9, hr9, h⟩ := Option.bind_eq_some_iff.mp h
    refine xr_callV (j := 78) (d' := (d + 1)) (rv1 := none) (μ1 := r9) (rest := []) (As := [.int x4, .int x6, .int x8]) rfl rfl rfl rfl (Nat.le_of_ble_eq_true rfl) (fP_addRow_kd hr9) rfl (by exact (fP_addRow_ok (d := d + (1)) hr9)) ?_
    refine xr_go 2 (pc' := 6) (lo' := [some (.ref v0), some (.ref v1), some (.int (v2 + xc 1))]) (st' := []) (μ' := r9) rfl ?_
    refine xr_forget (lo := [some (.ref v0), some (.ref v1), some (.int (v2 + xc 1))]) ⟨rfl, rfl, rfl, trivial⟩ ?_
    have ho := Option.some.inj h
    subst ho
    exact hK
theorem fP_copyFrom_L6_lp {d : Nat} {v0 : Nat} {v1 : Nat} {v2 : Int32} {μ : xM} {rv : Option Value} {μf : xM} {out : xM} (h : xwh (fun s : Int32 × xM => fP_copyFrom_L6 v0 v1 s.1 s.2) (v2, μ) = some out) (hK : fP_copyFrom_K rv μf out) : xRun (d + 2) 80 6 [some (.ref v0), some (.ref v1), some (.int v2)] [] μ rv μf :=
  xwh_ind (Rh := fun s : Int32 × xM => xRun (d + 2) 80 6 [some (.ref v0), some (.ref v1), some (.int s.1)] [] s.2 rv μf) (Co := fP_copyFrom_K rv μf) (fun s o hb hk => fP_copyFrom_L6_ok hb hk) h hK
noncomputable def fP_copyFrom_0  (v0 : Nat) (v1 : Nat) (μ : xM) : Option (xM) := (fP_clear v0 μ).bind fun r10 => xwh (fun s : Int32 × xM => fP_copyFrom_L6 v0 v1 s.1 s.2) (xc 0, r10)
theorem fP_copyFrom_0_ok {d : Nat} {v0 : Nat} {v1 : Nat} {μ : xM} {rv : Option Value} {μf : xM} {out : xM} (h : fP_copyFrom_0 v0 v1 μ = some out) (hK : fP_copyFrom_K rv μf out) : xRun (d + 2) 80 0 [some (.ref v0), some (.ref v1), none] [] μ rv μf := by
  unfold fP_copyFrom_0 at h
  refine xr_go 1 (pc' := 1) (lo' := [some (.ref v0), some (.ref v1), none]) (st' := [.ref v0]) (μ' := μ) rfl ?_
  obtain ⟨r10, hr10, h⟩ := Option.bind_eq_some_iff.mp h
  refine xr_callV (j := 77) (d' := (d + 1)) (rv1 := none) (μ1 := r10) (rest := []) (As := []) rfl rfl rfl rfl (Nat.le_of_ble_eq_true rfl) (fP_clear_kd hr10) rfl (by exact (fP_clear_ok (d := d + (1)) hr10)) ?_
  refine xr_go 2 (pc' := 6) (lo' := [some (.ref v0), some (.ref v1), some (.int (xc 0))]) (st' := []) (μ' := r10) rfl ?_
  refine xr_forget (lo := [some (.ref v0), some (.ref v1), some (.int (xc 0))]) ⟨rfl, rfl, rfl, trivial⟩ ?_
  exact fP_copyFrom_L6_lp h hK
noncomputable def fP_copyFrom (a0 : Nat) (a1 : Nat) (μ : xM) : Option (xM) := xgd μ a0 5 (fP_copyFrom_0 a0 a1 μ)
theorem fP_copyFrom_kd {a0 : Nat} {a1 : Nat} {μ : xM} {o : xM} (h : fP_copyFrom a0 a1 μ = some o) : (xK μ a0).1 = 10 + 5 := (xgd_some h).1
theorem fP_copyFrom_ok {d : Nat} {a0 : Nat} {a1 : Nat} {μ : xM} {o : xM} (h : fP_copyFrom a0 a1 μ = some o) : xRun (d + 2) 80 0 [some (.ref a0), some (.ref a1), none] [] μ none o :=
  xr_forget (lo := [some (.ref a0), some (.ref a1), none]) (⟨rfl, rfl, trivial⟩) (fP_copyFrom_0_ok (d := d) (xgd_some h).2 (show fP_copyFrom_K _ _ o from ⟨rfl, rfl⟩))
-- KeptAnswers$Picture.hasRow(III)Z 
def fP_hasRow_K (μ : xM) (rv : Option Value) (μf : xM) : (Int32) → Prop := fun o => rv = some (.int o) ∧ μf = μ
def fP_hasRow_K3 (v0 : Nat) (v1 : Int32) (v2 : Int32) (v3 : Int32) (μ : xM) (d : Nat) (rv : Option Value) (μf : xM) : ((Int32) ⊕ (Int32)) → Prop := Sum.elim (fun s : Int32 => xRun (d + 0) 95 3 [some (.ref v0), some (.int v1), some (.int v2), some (.int v3), some (.int s)] [] μ rv μf) (fP_hasRow_K μ rv μf)
noncomputable def fP_hasRow_53  (μ : xM) : Option (Int32) := some (xc 0)
theorem fP_hasRow_53_ok {d : Nat} {μ : xM} {rv : Option Value} {μf : xM} {out : Int32} (h : fP_hasRow_53 μ = some out) (hK : fP_hasRow_K μ rv μf out) : xRun (d + 0) 95 53 [none, none, none, none, none] [] μ rv μf := by
  unfold fP_hasRow_53 at h
  refine xr_go 1 (pc' := 54) (lo' := [none, none, none, none, none]) (st' := [.int (xc 0)]) (μ' := μ) rfl ?_
  have ho := Option.some.inj h
  subst ho
  obtain ⟨rfl, rfl⟩ := hK
  exact xr_ret (rv := some (.int (xc 0))) rfl rfl (Or.inr ⟨rfl, Or.inl rfl⟩)
noncomputable def fP_hasRow_47  (v0 : Nat) (v1 : Int32) (v2 : Int32) (v3 : Int32) (v4 : Int32) (μ : xM) : Option ((Int32) ⊕ (Int32)) := some (.inl ((v4 + xc 1)))
theorem fP_hasRow_47_ok {d : Nat} {v0 : Nat} {v1 : Int32} {v2 : Int32} {v3 : Int32} {v4 : Int32} {μ : xM} {rv : Option Value} {μf : xM} {out : (Int32) ⊕ (Int32)} (h : fP_hasRow_47 v0 v1 v2 v3 v4 μ = some out) (hK : fP_hasRow_K3 v0 v1 v2 v3 μ d rv μf out) : xRun (d + 0) 95 47 [some (.ref v0), some (.int v1), some (.int v2), some (.int v3), some (.int v4)] [] μ rv μf := by
  unfold fP_hasRow_47 at h
  refine xr_go 2 (pc' := 3) (lo' := [some (.ref v0), some (.int v1), some (.int v2), some (.int v3), some (.int (v4 + xc 1))]) (st' := []) (μ' := μ) rfl ?_
  refine xr_forget (lo := [some (.ref v0), some (.int v1), some (.int v2), some (.int v3), some (.int (v4 + xc 1))]) ⟨rfl, rfl, rfl, rfl, rfl, trivial⟩ ?_
  have ho := Option.some.inj h
  subst ho
  exact hK
noncomputable def fP_hasRow_45  (μ : xM) : Option (Int32) := some (xc 1)
theorem fP_hasRow_45_ok {d : Nat} {μ : xM} {rv : Option Value} {μf : xM} {out : Int32} (h : fP_hasRow_45 μ = some out) (hK : fP_hasRow_K μ rv μf out) : xRun (d + 0) 95 45 [none, none, none, none, none] [] μ rv μf := by
  unfold fP_hasRow_45 at h
  refine xr_go 1 (pc' := 46) (lo' := [none, none, none, none, none]) (st' := [.int (xc 1)]) (μ' := μ) rfl ?_
  have ho := Option.some.inj h
  subst ho
  obtain ⟨rfl, rfl⟩ := hK
  exact xr_ret (rv := some (.int (xc 1))) rfl rfl (Or.inr ⟨rfl, Or.inr rfl⟩)
noncomputable def fP_hasRow_L3  (v0 : Nat) (v1 : Int32) (v2 : Int32) (v3 : Int32) (v4 : Int32) (μ : xM) : Option ((Int32) ⊕ (Int32)) := (ldF μ v0 5 0).bind fun x1 => if x1 ≤ v4 then ((fP_hasRow_53 μ).map (fun o => .inr o)) else ((ldFR μ v0 5 1).bind fun x2 => (ldA μ x2 v4).bind fun x3 => if x3 = v1 then ((ldFR μ v0 5 2).bind fun x4 => (ldA μ x4 v4).bind fun x5 => if x5 = v2 then ((ldFR μ v0 5 3).bind fun x6 => (ldA μ x6 v4).bind fun x7 => if x7 = v3 then ((fP_hasRow_45 μ).map (fun o => .inr o)) else (fP_hasRow_47 v0 v1 v2 v3 v4 μ)) else (fP_hasRow_47 v0 v1 v2 v3 v4 μ)) else (fP_hasRow_47 v0 v1 v2 v3 v4 μ))
theorem fP_hasRow_L3_ok {d : Nat} {v0 : Nat} {v1 : Int32} {v2 : Int32} {v3 : Int32} {v4 : Int32} {μ : xM} {rv : Option Value} {μf : xM} {out : (Int32) ⊕ (Int32)} (h : fP_hasRow_L3 v0 v1 v2 v3 v4 μ = some out) (hK : fP_hasRow_K3 v0 v1 v2 v3 μ d rv μf out) : xRun (d + 0) 95 3 [some (.ref v0), some (.int v1), some (.int v2), some (.int v3), some (.int v4)] [] μ rv μf := by
  unfold fP_hasRow_L3 at h
  refine xr_go 2 (pc' := 6) (lo' := [some (.ref v0), some (.int v1), some (.int v2), some (.int v3), some (.int v4)]) (st' := [.ref v0, .int v4]) (μ' := μ) rfl ?_
  obtain ⟨x1, hx1, h⟩ := Option.bind_eq_some_iff.mp h
  refine xr_opI (pc' := 9) (lo' := [some (.ref v0), some (.int v1), some (.int v2), some (.int v3), some (.int v4)]) (st' := [.int v4]) (o := ldF μ v0 5 0) rfl hx1 ?_
  refine xr_icmp (pct := 53) rfl rfl rfl (fun hc => ?_) (fun hc => ?_)
  · replace h := (if_pos (of_decide_eq_true hc)).symm.trans h
    refine xr_forget (lo := [none, none, none, none, none]) trivial ?_
    obtain ⟨o, h2, rfl⟩ := Option.map_eq_some_iff.mp h
    exact fP_hasRow_53_ok h2 hK
  · replace h := (if_neg (of_decide_eq_false hc)).symm.trans h
    refine xr_go 1 (pc' := 13) (lo' := [some (.ref v0), some (.int v1), some (.int v2), some (.int v3), some (.int v4)]) (st' := [.ref v0]) (μ' := μ) rfl ?_
    obtain ⟨x2, hx2, h⟩ := Option.bind_eq_some_iff.mp h
    refine xr_opA (pc' := 16) (lo' := [some (.ref v0), some (.int v1), some (.int v2), some (.int v3), some (.int v4)]) (st' := []) (o := ldFR μ v0 5 1) rfl hx2 ?_
    refine xr_go 1 (pc' := 18) (lo' := [some (.ref v0), some (.int v1), some (.int v2), some (.int v3), some (.int v4)]) (st' := [.int v4, .ref x2]) (μ' := μ) rfl ?_
    obtain ⟨x3, hx3, h⟩ := Option.bind_eq_some_iff.mp h
    refine xr_opI (pc' := 19) (lo' := [some (.ref v0), some (.int v1), some (.int v2), some (.int v3), some (.int v4)]) (st' := []) (o := ldA μ x2 v4) rfl hx3 ?_
    refine xr_go 1 (pc' := 20) (lo' := [some (.ref v0), some (.int v1), some (.int v2), some (.int v3), some (.int v4)]) (st' := [.int v1, .int x3]) (μ' := μ) rfl ?_
    refine xr_icmp (pct := 47) rfl rfl rfl (fun hc => ?_) (fun hc => ?_)
    · replace h := (if_neg (of_decide_eq_true hc)).symm.trans h
      refine xr_forget (lo := [some (.ref v0), some (.int v1), some (.int v2), some (.int v3), some (.int v4)]) ⟨rfl, rfl, rfl, rfl, rfl, trivial⟩ ?_
      exact fP_hasRow_47_ok h hK
    · replace h := (if_pos (Decidable.of_not_not (of_decide_eq_false hc))).symm.trans h
      refine xr_go 1 (pc' := 24) (lo' := [some (.ref v0), some (.int v1), some (.int v2), some (.int v3), some (.int v4)]) (st' := [.ref v0]) (μ' := μ) rfl ?_
      obtain ⟨x4, hx4, h⟩ := Option.bind_eq_some_iff.mp h
      refine xr_opA (pc' := 27) (lo' := [some (.ref v0), some (.int v1), some (.int v2), some (.int v3), some (.int v4)]) (st' := []) (o := ldFR μ v0 5 2) rfl hx4 ?_
      refine xr_go 1 (pc' := 29) (lo' := [some (.ref v0), some (.int v1), some (.int v2), some (.int v3), some (.int v4)]) (st' := [.int v4, .ref x4]) (μ' := μ) rfl ?_
      obtain ⟨x5, hx5, h⟩ := Option.bind_eq_some_iff.mp h
      refine xr_opI (pc' := 30) (lo' := [some (.ref v0), some (.int v1), some (.int v2), some (.int v3), some (.int v4)]) (st' := []) (o := ldA μ x4 v4) rfl hx5 ?_
      refine xr_go 1 (pc' := 31) (lo' := [some (.ref v0), some (.int v1), some (.int v2), some (.int v3), some (.int v4)]) (st' := [.int v2, .int x5]) (μ' := μ) rfl ?_
      refine xr_icmp (pct := 47) rfl rfl rfl (fun hc => ?_) (fun hc => ?_)
      · replace h := (if_neg (of_decide_eq_true hc)).symm.trans h
        refine xr_forget (lo := [some (.ref v0), some (.int v1), some (.int v2), some (.int v3), some (.int v4)]) ⟨rfl, rfl, rfl, rfl, rfl, trivial⟩ ?_
        exact fP_hasRow_47_ok h hK
      · replace h := (if_pos (Decidable.of_not_not (of_decide_eq_false hc))).symm.trans h
        refine xr_go 1 (pc' := 35) (lo' := [some (.ref v0), some (.int v1), some (.int v2), some (.int v3), some (.int v4)]) (st' := [.ref v0]) (μ' := μ) rfl ?_
        obtain ⟨x6, hx6, h⟩ := Option.bind_eq_some_iff.mp h
        refine xr_opA (pc' := 38) (lo' := [some (.ref v0), some (.int v1), some (.int v2), some (.int v3), some (.int v4)]) (st' := []) (o := ldFR μ v0 5 3) rfl hx6 ?_
        refine xr_go 1 (pc' := 40) (lo' := [some (.ref v0), some (.int v1), some (.int v2), some (.int v3), some (.int v4)]) (st' := [.int v4, .ref x6]) (μ' := μ) rfl ?_
        obtain ⟨x7, hx7, h⟩ := Option.bind_eq_some_iff.mp h
        refine xr_opI (pc' := 41) (lo' := [some (.ref v0), some (.int v1), some (.int v2), some (.int v3), some (.int v4)]) (st' := []) (o := ldA μ x6 v4) rfl hx7 ?_
        refine xr_go 1 (pc' := 42) (lo' := [some (.ref v0), some (.int v1), some (.int v2), some (.int v3), some (.int v4)]) (st' := [.int v3, .int x7]) (μ' := μ) rfl ?_
        refine xr_icmp (pct := 47) rfl rfl rfl (fun hc => ?_) (fun hc => ?_)
        · replace h := (if_neg (of_decide_eq_true hc)).symm.trans h
          refine xr_forget (lo := [some (.ref v0), some (.int v1), some (.int v2), some (.int v3), some (.int v4)]) ⟨rfl, rfl, rfl, rfl, rfl, trivial⟩ ?_
          exact fP_hasRow_47_ok h hK
        · replace h := (if_pos (Decidable.of_not_not (of_decide_eq_false hc))).symm.trans h
          refine xr_forget (lo := [none, none, none, none, none]) trivial ?_
          obtain ⟨o, h2, rfl⟩ := Option.map_eq_some_iff.mp h
          exact fP_hasRow_45_ok h2 hK
theorem fP_hasRow_L3_lp {d : Nat} {v0 : Nat} {v1 : Int32} {v2 : Int32} {v3 : Int32} {v4 : Int32} {μ : xM} {rv : Option Value} {μf : xM} {out : Int32} (h : xwh (fun s : Int32 => fP_hasRow_L3 v0 v1 v2 v3 s μ) (v4) = some out) (hK : fP_hasRow_K μ rv μf out) : xRun (d + 0) 95 3 [some (.ref v0), some (.int v1), some (.int v2), some (.int v3), some (.int v4)] [] μ rv μf :=
  xwh_ind (Rh := fun s : Int32 => xRun (d + 0) 95 3 [some (.ref v0), some (.int v1), some (.int v2), some (.int v3), some (.int s)] [] μ rv μf) (Co := fP_hasRow_K μ rv μf) (fun s o hb hk => fP_hasRow_L3_ok hb hk) h hK
noncomputable def fP_hasRow_0  (v0 : Nat) (v1 : Int32) (v2 : Int32) (v3 : Int32) (μ : xM) : Option (Int32) := xwh (fun s : Int32 => fP_hasRow_L3 v0 v1 v2 v3 s μ) (xc 0)
theorem fP_hasRow_0_ok {d : Nat} {v0 : Nat} {v1 : Int32} {v2 : Int32} {v3 : Int32} {μ : xM} {rv : Option Value} {μf : xM} {out : Int32} (h : fP_hasRow_0 v0 v1 v2 v3 μ = some out) (hK : fP_hasRow_K μ rv μf out) : xRun (d + 0) 95 0 [some (.ref v0), some (.int v1), some (.int v2), some (.int v3), none] [] μ rv μf := by
  unfold fP_hasRow_0 at h
  refine xr_go 2 (pc' := 3) (lo' := [some (.ref v0), some (.int v1), some (.int v2), some (.int v3), some (.int (xc 0))]) (st' := []) (μ' := μ) rfl ?_
  refine xr_forget (lo := [some (.ref v0), some (.int v1), some (.int v2), some (.int v3), some (.int (xc 0))]) ⟨rfl, rfl, rfl, rfl, rfl, trivial⟩ ?_
  exact fP_hasRow_L3_lp h hK
noncomputable def fP_hasRow (a0 : Nat) (a1 : Int32) (a2 : Int32) (a3 : Int32) (μ : xM) : Option (Int32) := xgd μ a0 5 (fP_hasRow_0 a0 a1 a2 a3 μ)
theorem fP_hasRow_kd {a0 : Nat} {a1 : Int32} {a2 : Int32} {a3 : Int32} {μ : xM} {o : Int32} (h : fP_hasRow a0 a1 a2 a3 μ = some o) : (xK μ a0).1 = 10 + 5 := (xgd_some h).1
theorem fP_hasRow_ok {d : Nat} {a0 : Nat} {a1 : Int32} {a2 : Int32} {a3 : Int32} {μ : xM} {o : Int32} (h : fP_hasRow a0 a1 a2 a3 μ = some o) : xRun (d + 0) 95 0 [some (.ref a0), some (.int a1), some (.int a2), some (.int a3), none] [] μ (some (.int o)) μ :=
  xr_forget (lo := [some (.ref a0), some (.int a1), some (.int a2), some (.int a3), none]) (⟨rfl, rfl, rfl, rfl, trivial⟩) (fP_hasRow_0_ok (d := d) (xgd_some h).2 (show fP_hasRow_K μ _ _ o from ⟨rfl, rfl⟩))
-- KeptAnswers$Picture.dropDoubles()V 
def fP_dropDoubles_K (rv : Option Value) (μf : xM) : (xM) → Prop := fun o => rv = none ∧ μf = o
def fP_dropDoubles_K12 (v0 : Nat) (v1 : Int32) (d : Nat) (rv : Option Value) (μf : xM) : ((Int32 × xM) ⊕ (xM)) → Prop := Sum.elim (fun s : Int32 × xM => xRun (d + 1) 94 12 [some (.ref v0), some (.int v1), some (.int s.1)] [] s.2 rv μf) (fP_dropDoubles_K rv μf)
noncomputable def fP_dropDoubles_64  (v0 : Nat) (v1 : Int32) (v2 : Int32) (μ : xM) : Option ((Int32 × xM) ⊕ (xM)) := some (.inl ((v2 + xc 1, μ)))
theorem fP_dropDoubles_64_ok {d : Nat} {v0 : Nat} {v1 : Int32} {v2 : Int32} {μ : xM} {rv : Option Value} {μf : xM} {out : (Int32 × xM) ⊕ (xM)} (h : fP_dropDoubles_64 v0 v1 v2 μ = some out) (hK : fP_dropDoubles_K12 v0 v1 d rv μf out) : xRun (d + 1) 94 64 [some (.ref v0), some (.int v1), some (.int v2)] [] μ rv μf := by
  unfold fP_dropDoubles_64 at h
  refine xr_go 2 (pc' := 12) (lo' := [some (.ref v0), some (.int v1), some (.int (v2 + xc 1))]) (st' := []) (μ' := μ) rfl ?_
  refine xr_forget (lo := [some (.ref v0), some (.int v1), some (.int (v2 + xc 1))]) ⟨rfl, rfl, rfl, trivial⟩ ?_
  have ho := Option.some.inj h
  subst ho
  exact hK
noncomputable def fP_dropDoubles_L12  (v0 : Nat) (v1 : Int32) (v2 : Int32) (μ : xM) : Option ((Int32 × xM) ⊕ (xM)) := if v1 ≤ v2 then (some (.inr μ)) else ((ldFR μ v0 5 1).bind fun x1 => (ldA μ x1 v2).bind fun x2 => (ldFR μ v0 5 2).bind fun x3 => (ldA μ x3 v2).bind fun x4 => (ldFR μ v0 5 3).bind fun x5 => (ldA μ x5 v2).bind fun x6 => (fP_hasRow v0 x2 x4 x6 μ).bind fun r7 => if r7 = 0 then ((ldFR μ v0 5 1).bind fun x8 => (ldA μ x8 v2).bind fun x9 => (ldFR μ v0 5 2).bind fun x10 => (ldA μ x10 v2).bind fun x11 => (ldFR μ v0 5 3).bind fun x12 => (ldA μ x12 v2).bind fun x13 => (fP_addRow v0 x9 x11 x13 μ).bind fun r14 => fP_dropDoubles_64 v0 v1 v2 r14) else (fP_dropDoubles_64 v0 v1 v2 μ))
theorem fP_dropDoubles_L12_ok {d : Nat} {v0 : Nat} {v1 : Int32} {v2 : Int32} {μ : xM} {rv : Option Value} {μf : xM} {out : (Int32 × xM) ⊕ (xM)} (h : fP_dropDoubles_L12 v0 v1 v2 μ = some out) (hK : fP_dropDoubles_K12 v0 v1 d rv μf out) : xRun (d + 1) 94 12 [some (.ref v0), some (.int v1), some (.int v2)] [] μ rv μf := by
  unfold fP_dropDoubles_L12 at h
  refine xr_go 2 (pc' := 14) (lo' := [some (.ref v0), some (.int v1), some (.int v2)]) (st' := [.int v1, .int v2]) (μ' := μ) rfl ?_
  refine xr_icmp (pct := 70) rfl rfl rfl (fun hc => ?_) (fun hc => ?_)
  · replace h := (if_pos (of_decide_eq_true hc)).symm.trans h
    have ho := Option.some.inj h
    subst ho
    obtain ⟨rfl, rfl⟩ := hK
    exact xr_ret (rv := none) rfl rfl (rfl)
  · replace h := (if_neg (of_decide_eq_false hc)).symm.trans h
    refine xr_go 2 (pc' := 19) (lo' := [some (.ref v0), some (.int v1), some (.int v2)]) (st' := [.ref v0, .ref v0]) (μ' := μ) rfl ?_
    obtain ⟨x1, hx1, h⟩ := Option.bind_eq_some_iff.mp h
    refine xr_opA (pc' := 22) (lo' := [some (.ref v0), some (.int v1), some (.int v2)]) (st' := [.ref v0]) (o := ldFR μ v0 5 1) rfl hx1 ?_
    refine xr_go 1 (pc' := 23) (lo' := [some (.ref v0), some (.int v1), some (.int v2)]) (st' := [.int v2, .ref x1, .ref v0]) (μ' := μ) rfl ?_
    obtain ⟨x2, hx2, h⟩ := Option.bind_eq_some_iff.mp h
    refine xr_opI (pc' := 24) (lo' := [some (.ref v0), some (.int v1), some (.int v2)]) (st' := [.ref v0]) (o := ldA μ x1 v2) rfl hx2 ?_
    refine xr_go 1 (pc' := 25) (lo' := [some (.ref v0), some (.int v1), some (.int v2)]) (st' := [.ref v0, .int x2, .ref v0]) (μ' := μ) rfl ?_
    obtain ⟨x3, hx3, h⟩ := Option.bind_eq_some_iff.mp h
    refine xr_opA (pc' := 28) (lo' := [some (.ref v0), some (.int v1), some (.int v2)]) (st' := [.int x2, .ref v0]) (o := ldFR μ v0 5 2) rfl hx3 ?_
    refine xr_go 1 (pc' := 29) (lo' := [some (.ref v0), some (.int v1), some (.int v2)]) (st' := [.int v2, .ref x3, .int x2, .ref v0]) (μ' := μ) rfl ?_
    obtain ⟨x4, hx4, h⟩ := Option.bind_eq_some_iff.mp h
    refine xr_opI (pc' := 30) (lo' := [some (.ref v0), some (.int v1), some (.int v2)]) (st' := [.int x2, .ref v0]) (o := ldA μ x3 v2) rfl hx4 ?_
    refine xr_go 1 (pc' := 31) (lo' := [some (.ref v0), some (.int v1), some (.int v2)]) (st' := [.ref v0, .int x4, .int x2, .ref v0]) (μ' := μ) rfl ?_
    obtain ⟨x5, hx5, h⟩ := Option.bind_eq_some_iff.mp h
    refine xr_opA (pc' := 34) (lo' := [some (.ref v0), some (.int v1), some (.int v2)]) (st' := [.int x4, .int x2, .ref v0]) (o := ldFR μ v0 5 3) rfl hx5 ?_
    refine xr_go 1 (pc' := 35) (lo' := [some (.ref v0), some (.int v1), some (.int v2)]) (st' := [.int v2, .ref x5, .int x4, .int x2, .ref v0]) (μ' := μ) rfl ?_
    obtain ⟨x6, hx6, h⟩ := Option.bind_eq_some_iff.mp h
    refine xr_opI (pc' := 36) (lo' := [some (.ref v0), some (.int v1), some (.int v2)]) (st' := [.int x4, .int x2, .ref v0]) (o := ldA μ x5 v2) rfl hx6 ?_
    obtain ⟨r7, hr7, h⟩ := Option.bind_eq_some_iff.mp h
    refine xr_callV (j := 95) (d' := (d + 0)) (rv1 := some (.int r7)) (μ1 := μ) (rest := []) (As := [.int x2, .int x4, .int x6]) rfl rfl rfl rfl (Nat.le_of_ble_eq_true rfl) (fP_hasRow_kd hr7) rfl (by exact (fP_hasRow_ok (d := d + (0)) hr7)) ?_
    refine xr_ifc (pct := 64) rfl rfl rfl (fun hc => ?_) (fun hc => ?_)
    · replace h := (if_neg (of_decide_eq_true hc)).symm.trans h
      refine xr_forget (lo := [some (.ref v0), some (.int v1), some (.int v2)]) ⟨rfl, rfl, rfl, trivial⟩ ?_
      exact fP_dropDoubles_64_ok h hK
    · replace h := (if_pos (Decidable.of_not_not (of_decide_eq_false hc))).symm.trans h
      refine xr_go 2 (pc' := 44) (lo' := [some (.ref v0), some (.int v1), some (.int v2)]) (st' := [.ref v0, .ref v0]) (μ' := μ) rfl ?_
      obtain ⟨x8, hx8, h⟩ := Option.bind_eq_some_iff.mp h
      refine xr_opA (pc' := 47) (lo' := [some (.ref v0), some (.int v1), some (.int v2)]) (st' := [.ref v0]) (o := ldFR μ v0 5 1) rfl hx8 ?_
      refine xr_go 1 (pc' := 48) (lo' := [some (.ref v0), some (.int v1), some (.int v2)]) (st' := [.int v2, .ref x8, .ref v0]) (μ' := μ) rfl ?_
      obtain ⟨x9, hx9, h⟩ := Option.bind_eq_some_iff.mp h
      refine xr_opI (pc' := 49) (lo' := [some (.ref v0), some (.int v1), some (.int v2)]) (st' := [.ref v0]) (o := ldA μ x8 v2) rfl hx9 ?_
      refine xr_go 1 (pc' := 50) (lo' := [some (.ref v0), some (.int v1), some (.int v2)]) (st' := [.ref v0, .int x9, .ref v0]) (μ' := μ) rfl ?_
      obtain ⟨x10, hx10, h⟩ := Option.bind_eq_some_iff.mp h
      refine xr_opA (pc' := 53) (lo' := [some (.ref v0), some (.int v1), some (.int v2)]) (st' := [.int x9, .ref v0]) (o := ldFR μ v0 5 2) rfl hx10 ?_
      refine xr_go 1 (pc' := 54) (lo' := [some (.ref v0), some (.int v1), some (.int v2)]) (st' := [.int v2, .ref x10, .int x9, .ref v0]) (μ' := μ) rfl ?_
      obtain ⟨x11, hx11, h⟩ := Option.bind_eq_some_iff.mp h
      refine xr_opI (pc' := 55) (lo' := [some (.ref v0), some (.int v1), some (.int v2)]) (st' := [.int x9, .ref v0]) (o := ldA μ x10 v2) rfl hx11 ?_
      refine xr_go 1 (pc' := 56) (lo' := [some (.ref v0), some (.int v1), some (.int v2)]) (st' := [.ref v0, .int x11, .int x9, .ref v0]) (μ' := μ) rfl ?_
      obtain ⟨x12, hx12, h⟩ := Option.bind_eq_some_iff.mp h
      refine xr_opA (pc' := 59) (lo' := [some (.ref v0), some (.int v1), some (.int v2)]) (st' := [.int x11, .int x9, .ref v0]) (o := ldFR μ v0 5 3) rfl hx12 ?_
      refine xr_go 1 (pc' := 60) (lo' := [some (.ref v0), some (.int v1), some (.int v2)]) (st' := [.int v2, .ref x12, .int x11, .int x9, .ref v0]) (μ' := μ) rfl ?_
      obtain ⟨x13, hx13, h⟩ := Option.bind_eq_some_iff.mp h
      refine xr_opI (pc' := 61) (lo' := [some (.ref v0), some (.int v1), some (.int v2)]) (st' := [.int x11, .int x9, .ref v0]) (o := ldA μ x12 v2) rfl hx13 ?_
      obtain ⟨r14, hr14, h⟩ := Option.bind_eq_some_iff.mp h
      refine xr_callV (j := 78) (d' := (d + 0)) (rv1 := none) (μ1 := r14) (rest := []) (As := [.int x9, .int x11, .int x13]) rfl rfl rfl rfl (Nat.le_of_ble_eq_true rfl) (fP_addRow_kd hr14) rfl (by exact (fP_addRow_ok (d := d + (0)) hr14)) ?_
      refine xr_forget (lo := [some (.ref v0), some (.int v1), some (.int v2)]) ⟨rfl, rfl, rfl, trivial⟩ ?_
      exact fP_dropDoubles_64_ok h hK
theorem fP_dropDoubles_L12_lp {d : Nat} {v0 : Nat} {v1 : Int32} {v2 : Int32} {μ : xM} {rv : Option Value} {μf : xM} {out : xM} (h : xwh (fun s : Int32 × xM => fP_dropDoubles_L12 v0 v1 s.1 s.2) (v2, μ) = some out) (hK : fP_dropDoubles_K rv μf out) : xRun (d + 1) 94 12 [some (.ref v0), some (.int v1), some (.int v2)] [] μ rv μf :=
  xwh_ind (Rh := fun s : Int32 × xM => xRun (d + 1) 94 12 [some (.ref v0), some (.int v1), some (.int s.1)] [] s.2 rv μf) (Co := fP_dropDoubles_K rv μf) (fun s o hb hk => fP_dropDoubles_L12_ok hb hk) h hK
noncomputable def fP_dropDoubles_0  (v0 : Nat) (μ : xM) : Option (xM) := (ldF μ v0 5 0).bind fun x15 => (stF μ v0 5 0 (xc 0)).bind fun μ16 => xwh (fun s : Int32 × xM => fP_dropDoubles_L12 v0 x15 s.1 s.2) (xc 0, μ16)
theorem fP_dropDoubles_0_ok {d : Nat} {v0 : Nat} {μ : xM} {rv : Option Value} {μf : xM} {out : xM} (h : fP_dropDoubles_0 v0 μ = some out) (hK : fP_dropDoubles_K rv μf out) : xRun (d + 1) 94 0 [some (.ref v0), none, none] [] μ rv μf := by
  unfold fP_dropDoubles_0 at h
  refine xr_go 1 (pc' := 1) (lo' := [some (.ref v0), none, none]) (st' := [.ref v0]) (μ' := μ) rfl ?_
  obtain ⟨x15, hx15, h⟩ := Option.bind_eq_some_iff.mp h
  refine xr_opI (pc' := 4) (lo' := [some (.ref v0), none, none]) (st' := []) (o := ldF μ v0 5 0) rfl hx15 ?_
  refine xr_go 3 (pc' := 7) (lo' := [some (.ref v0), some (.int x15), none]) (st' := [.int (xc 0), .ref v0]) (μ' := μ) rfl ?_
  obtain ⟨μ16, hμ16, h⟩ := Option.bind_eq_some_iff.mp h
  refine xr_opM (pc' := 10) (lo' := [some (.ref v0), some (.int x15), none]) (st' := []) (o := stF μ v0 5 0 (xc 0)) rfl hμ16 ?_
  refine xr_go 2 (pc' := 12) (lo' := [some (.ref v0), some (.int x15), some (.int (xc 0))]) (st' := []) (μ' := μ16) rfl ?_
  refine xr_forget (lo := [some (.ref v0), some (.int x15), some (.int (xc 0))]) ⟨rfl, rfl, rfl, trivial⟩ ?_
  exact fP_dropDoubles_L12_lp h hK
noncomputable def fP_dropDoubles (a0 : Nat) (μ : xM) : Option (xM) := xgd μ a0 5 (fP_dropDoubles_0 a0 μ)
theorem fP_dropDoubles_kd {a0 : Nat} {μ : xM} {o : xM} (h : fP_dropDoubles a0 μ = some o) : (xK μ a0).1 = 10 + 5 := (xgd_some h).1
theorem fP_dropDoubles_ok {d : Nat} {a0 : Nat} {μ : xM} {o : xM} (h : fP_dropDoubles a0 μ = some o) : xRun (d + 1) 94 0 [some (.ref a0), none, none] [] μ none o :=
  xr_forget (lo := [some (.ref a0), none, none]) (⟨rfl, trivial⟩) (fP_dropDoubles_0_ok (d := d) (xgd_some h).2 (show fP_dropDoubles_K _ _ o from ⟨rfl, rfl⟩))
-- KeptAnswers$Picture.clashOf(II)I 
def fP_clashOf_K (μ : xM) (rv : Option Value) (μf : xM) : (Int32) → Prop := fun o => rv = some (.int o) ∧ μf = μ
def fP_clashOf_K23 (v0 : Nat) (v1 : Int32) (μ : xM) (d : Nat) (rv : Option Value) (μf : xM) : ((Int32) ⊕ (Int32)) → Prop := Sum.elim (fun s : Int32 => xRun (d + 0) 92 23 [some (.ref v0), some (.int v1), none, some (.int s)] [] μ rv μf) (fP_clashOf_K μ rv μf)
noncomputable def fP_clashOf_84  (μ : xM) : Option (Int32) := some (xc (-1))
theorem fP_clashOf_84_ok {d : Nat} {μ : xM} {rv : Option Value} {μf : xM} {out : Int32} (h : fP_clashOf_84 μ = some out) (hK : fP_clashOf_K μ rv μf out) : xRun (d + 0) 92 84 [none, none, none, none] [] μ rv μf := by
  unfold fP_clashOf_84 at h
  refine xr_go 1 (pc' := 85) (lo' := [none, none, none, none]) (st' := [.int (xc (-1))]) (μ' := μ) rfl ?_
  have ho := Option.some.inj h
  subst ho
  obtain ⟨rfl, rfl⟩ := hK
  exact xr_ret (rv := some (.int (xc (-1)))) rfl rfl (Or.inl rfl)
noncomputable def fP_clashOf_78  (v0 : Nat) (v1 : Int32) (v3 : Int32) (μ : xM) : Option ((Int32) ⊕ (Int32)) := some (.inl ((v3 + xc 1)))
theorem fP_clashOf_78_ok {d : Nat} {v0 : Nat} {v1 : Int32} {v3 : Int32} {μ : xM} {rv : Option Value} {μf : xM} {out : (Int32) ⊕ (Int32)} (h : fP_clashOf_78 v0 v1 v3 μ = some out) (hK : fP_clashOf_K23 v0 v1 μ d rv μf out) : xRun (d + 0) 92 78 [some (.ref v0), some (.int v1), none, some (.int v3)] [] μ rv μf := by
  unfold fP_clashOf_78 at h
  refine xr_go 2 (pc' := 23) (lo' := [some (.ref v0), some (.int v1), none, some (.int (v3 + xc 1))]) (st' := []) (μ' := μ) rfl ?_
  refine xr_forget (lo := [some (.ref v0), some (.int v1), none, some (.int (v3 + xc 1))]) ⟨rfl, rfl, rfl, trivial⟩ ?_
  have ho := Option.some.inj h
  subst ho
  exact hK
noncomputable def fP_clashOf_76  (v3 : Int32) (μ : xM) : Option (Int32) := some v3
theorem fP_clashOf_76_ok {d : Nat} {v3 : Int32} {μ : xM} {rv : Option Value} {μf : xM} {out : Int32} (h : fP_clashOf_76 v3 μ = some out) (hK : fP_clashOf_K μ rv μf out) : xRun (d + 0) 92 76 [none, none, none, some (.int v3)] [] μ rv μf := by
  unfold fP_clashOf_76 at h
  refine xr_go 1 (pc' := 77) (lo' := [none, none, none, some (.int v3)]) (st' := [.int v3]) (μ' := μ) rfl ?_
  have ho := Option.some.inj h
  subst ho
  obtain ⟨rfl, rfl⟩ := hK
  exact xr_ret (rv := some (.int v3)) rfl rfl (Or.inl rfl)
noncomputable def fP_clashOf_L23  (v0 : Nat) (v1 : Int32) (v3 : Int32) (μ : xM) : Option ((Int32) ⊕ (Int32)) := (ldF μ v0 5 0).bind fun x1 => if x1 ≤ v3 then ((fP_clashOf_84 μ).map (fun o => .inr o)) else ((ldFR μ v0 5 1).bind fun x2 => (ldA μ x2 v3).bind fun x3 => (ldFR μ v0 5 1).bind fun x4 => (ldA μ x4 v1).bind fun x5 => if x3 = x5 then ((ldFR μ v0 5 2).bind fun x6 => (ldA μ x6 v3).bind fun x7 => (ldFR μ v0 5 2).bind fun x8 => (ldA μ x8 v1).bind fun x9 => if x7 = x9 then ((ldFR μ v0 5 3).bind fun x10 => (ldA μ x10 v3).bind fun x11 => (ldFR μ v0 5 3).bind fun x12 => (ldA μ x12 v1).bind fun x13 => if x11 = x13 then (fP_clashOf_78 v0 v1 v3 μ) else ((fP_clashOf_76 v3 μ).map (fun o => .inr o))) else (fP_clashOf_78 v0 v1 v3 μ)) else (fP_clashOf_78 v0 v1 v3 μ))
theorem fP_clashOf_L23_ok {d : Nat} {v0 : Nat} {v1 : Int32} {v3 : Int32} {μ : xM} {rv : Option Value} {μf : xM} {out : (Int32) ⊕ (Int32)} (h : fP_clashOf_L23 v0 v1 v3 μ = some out) (hK : fP_clashOf_K23 v0 v1 μ d rv μf out) : xRun (d + 0) 92 23 [some (.ref v0), some (.int v1), none, some (.int v3)] [] μ rv μf := by
  unfold fP_clashOf_L23 at h
  refine xr_go 2 (pc' := 25) (lo' := [some (.ref v0), some (.int v1), none, some (.int v3)]) (st' := [.ref v0, .int v3]) (μ' := μ) rfl ?_
  obtain ⟨x1, hx1, h⟩ := Option.bind_eq_some_iff.mp h
  refine xr_opI (pc' := 28) (lo' := [some (.ref v0), some (.int v1), none, some (.int v3)]) (st' := [.int v3]) (o := ldF μ v0 5 0) rfl hx1 ?_
  refine xr_icmp (pct := 84) rfl rfl rfl (fun hc => ?_) (fun hc => ?_)
  · replace h := (if_pos (of_decide_eq_true hc)).symm.trans h
    refine xr_forget (lo := [none, none, none, none]) trivial ?_
    obtain ⟨o, h2, rfl⟩ := Option.map_eq_some_iff.mp h
    exact fP_clashOf_84_ok h2 hK
  · replace h := (if_neg (of_decide_eq_false hc)).symm.trans h
    refine xr_go 1 (pc' := 32) (lo' := [some (.ref v0), some (.int v1), none, some (.int v3)]) (st' := [.ref v0]) (μ' := μ) rfl ?_
    obtain ⟨x2, hx2, h⟩ := Option.bind_eq_some_iff.mp h
    refine xr_opA (pc' := 35) (lo' := [some (.ref v0), some (.int v1), none, some (.int v3)]) (st' := []) (o := ldFR μ v0 5 1) rfl hx2 ?_
    refine xr_go 1 (pc' := 36) (lo' := [some (.ref v0), some (.int v1), none, some (.int v3)]) (st' := [.int v3, .ref x2]) (μ' := μ) rfl ?_
    obtain ⟨x3, hx3, h⟩ := Option.bind_eq_some_iff.mp h
    refine xr_opI (pc' := 37) (lo' := [some (.ref v0), some (.int v1), none, some (.int v3)]) (st' := []) (o := ldA μ x2 v3) rfl hx3 ?_
    refine xr_go 1 (pc' := 38) (lo' := [some (.ref v0), some (.int v1), none, some (.int v3)]) (st' := [.ref v0, .int x3]) (μ' := μ) rfl ?_
    obtain ⟨x4, hx4, h⟩ := Option.bind_eq_some_iff.mp h
    refine xr_opA (pc' := 41) (lo' := [some (.ref v0), some (.int v1), none, some (.int v3)]) (st' := [.int x3]) (o := ldFR μ v0 5 1) rfl hx4 ?_
    refine xr_go 1 (pc' := 42) (lo' := [some (.ref v0), some (.int v1), none, some (.int v3)]) (st' := [.int v1, .ref x4, .int x3]) (μ' := μ) rfl ?_
    obtain ⟨x5, hx5, h⟩ := Option.bind_eq_some_iff.mp h
    refine xr_opI (pc' := 43) (lo' := [some (.ref v0), some (.int v1), none, some (.int v3)]) (st' := [.int x3]) (o := ldA μ x4 v1) rfl hx5 ?_
    refine xr_icmp (pct := 78) rfl rfl rfl (fun hc => ?_) (fun hc => ?_)
    · replace h := (if_neg (of_decide_eq_true hc)).symm.trans h
      refine xr_forget (lo := [some (.ref v0), some (.int v1), none, some (.int v3)]) ⟨rfl, rfl, rfl, trivial⟩ ?_
      exact fP_clashOf_78_ok h hK
    · replace h := (if_pos (Decidable.of_not_not (of_decide_eq_false hc))).symm.trans h
      refine xr_go 1 (pc' := 47) (lo' := [some (.ref v0), some (.int v1), none, some (.int v3)]) (st' := [.ref v0]) (μ' := μ) rfl ?_
      obtain ⟨x6, hx6, h⟩ := Option.bind_eq_some_iff.mp h
      refine xr_opA (pc' := 50) (lo' := [some (.ref v0), some (.int v1), none, some (.int v3)]) (st' := []) (o := ldFR μ v0 5 2) rfl hx6 ?_
      refine xr_go 1 (pc' := 51) (lo' := [some (.ref v0), some (.int v1), none, some (.int v3)]) (st' := [.int v3, .ref x6]) (μ' := μ) rfl ?_
      obtain ⟨x7, hx7, h⟩ := Option.bind_eq_some_iff.mp h
      refine xr_opI (pc' := 52) (lo' := [some (.ref v0), some (.int v1), none, some (.int v3)]) (st' := []) (o := ldA μ x6 v3) rfl hx7 ?_
      refine xr_go 1 (pc' := 53) (lo' := [some (.ref v0), some (.int v1), none, some (.int v3)]) (st' := [.ref v0, .int x7]) (μ' := μ) rfl ?_
      obtain ⟨x8, hx8, h⟩ := Option.bind_eq_some_iff.mp h
      refine xr_opA (pc' := 56) (lo' := [some (.ref v0), some (.int v1), none, some (.int v3)]) (st' := [.int x7]) (o := ldFR μ v0 5 2) rfl hx8 ?_
      refine xr_go 1 (pc' := 57) (lo' := [some (.ref v0), some (.int v1), none, some (.int v3)]) (st' := [.int v1, .ref x8, .int x7]) (μ' := μ) rfl ?_
      obtain ⟨x9, hx9, h⟩ := Option.bind_eq_some_iff.mp h
      refine xr_opI (pc' := 58) (lo' := [some (.ref v0), some (.int v1), none, some (.int v3)]) (st' := [.int x7]) (o := ldA μ x8 v1) rfl hx9 ?_
      refine xr_icmp (pct := 78) rfl rfl rfl (fun hc => ?_) (fun hc => ?_)
      · replace h := (if_neg (of_decide_eq_true hc)).symm.trans h
        refine xr_forget (lo := [some (.ref v0), some (.int v1), none, some (.int v3)]) ⟨rfl, rfl, rfl, trivial⟩ ?_
        exact fP_clashOf_78_ok h hK
      · replace h := (if_pos (Decidable.of_not_not (of_decide_eq_false hc))).symm.trans h
        refine xr_go 1 (pc' := 62) (lo' := [some (.ref v0), some (.int v1), none, some (.int v3)]) (st' := [.ref v0]) (μ' := μ) rfl ?_
        obtain ⟨x10, hx10, h⟩ := Option.bind_eq_some_iff.mp h
        refine xr_opA (pc' := 65) (lo' := [some (.ref v0), some (.int v1), none, some (.int v3)]) (st' := []) (o := ldFR μ v0 5 3) rfl hx10 ?_
        refine xr_go 1 (pc' := 66) (lo' := [some (.ref v0), some (.int v1), none, some (.int v3)]) (st' := [.int v3, .ref x10]) (μ' := μ) rfl ?_
        obtain ⟨x11, hx11, h⟩ := Option.bind_eq_some_iff.mp h
        refine xr_opI (pc' := 67) (lo' := [some (.ref v0), some (.int v1), none, some (.int v3)]) (st' := []) (o := ldA μ x10 v3) rfl hx11 ?_
        refine xr_go 1 (pc' := 68) (lo' := [some (.ref v0), some (.int v1), none, some (.int v3)]) (st' := [.ref v0, .int x11]) (μ' := μ) rfl ?_
        obtain ⟨x12, hx12, h⟩ := Option.bind_eq_some_iff.mp h
        refine xr_opA (pc' := 71) (lo' := [some (.ref v0), some (.int v1), none, some (.int v3)]) (st' := [.int x11]) (o := ldFR μ v0 5 3) rfl hx12 ?_
        refine xr_go 1 (pc' := 72) (lo' := [some (.ref v0), some (.int v1), none, some (.int v3)]) (st' := [.int v1, .ref x12, .int x11]) (μ' := μ) rfl ?_
        obtain ⟨x13, hx13, h⟩ := Option.bind_eq_some_iff.mp h
        refine xr_opI (pc' := 73) (lo' := [some (.ref v0), some (.int v1), none, some (.int v3)]) (st' := [.int x11]) (o := ldA μ x12 v1) rfl hx13 ?_
        refine xr_icmp (pct := 78) rfl rfl rfl (fun hc => ?_) (fun hc => ?_)
        · replace h := (if_pos (of_decide_eq_true hc)).symm.trans h
          refine xr_forget (lo := [some (.ref v0), some (.int v1), none, some (.int v3)]) ⟨rfl, rfl, rfl, trivial⟩ ?_
          exact fP_clashOf_78_ok h hK
        · replace h := (if_neg (of_decide_eq_false hc)).symm.trans h
          refine xr_forget (lo := [none, none, none, some (.int v3)]) ⟨rfl, trivial⟩ ?_
          obtain ⟨o, h2, rfl⟩ := Option.map_eq_some_iff.mp h
          exact fP_clashOf_76_ok h2 hK
theorem fP_clashOf_L23_lp {d : Nat} {v0 : Nat} {v1 : Int32} {v3 : Int32} {μ : xM} {rv : Option Value} {μf : xM} {out : Int32} (h : xwh (fun s : Int32 => fP_clashOf_L23 v0 v1 s μ) (v3) = some out) (hK : fP_clashOf_K μ rv μf out) : xRun (d + 0) 92 23 [some (.ref v0), some (.int v1), none, some (.int v3)] [] μ rv μf :=
  xwh_ind (Rh := fun s : Int32 => xRun (d + 0) 92 23 [some (.ref v0), some (.int v1), none, some (.int s)] [] μ rv μf) (Co := fP_clashOf_K μ rv μf) (fun s o hb hk => fP_clashOf_L23_ok hb hk) h hK
noncomputable def fP_clashOf_17  (μ : xM) : Option (Int32) := some (xc (-1))
theorem fP_clashOf_17_ok {d : Nat} {μ : xM} {rv : Option Value} {μf : xM} {out : Int32} (h : fP_clashOf_17 μ = some out) (hK : fP_clashOf_K μ rv μf out) : xRun (d + 0) 92 17 [none, none, none, none] [] μ rv μf := by
  unfold fP_clashOf_17 at h
  refine xr_go 1 (pc' := 18) (lo' := [none, none, none, none]) (st' := [.int (xc (-1))]) (μ' := μ) rfl ?_
  have ho := Option.some.inj h
  subst ho
  obtain ⟨rfl, rfl⟩ := hK
  exact xr_ret (rv := some (.int (xc (-1)))) rfl rfl (Or.inl rfl)
noncomputable def fP_clashOf_0  (v0 : Nat) (v1 : Int32) (v2 : Int32) (μ : xM) : Option (Int32) := if v1 < 0 then (fP_clashOf_17 μ) else ((ldFR μ v0 5 1).bind fun x14 => (ldA μ x14 v1).bind fun x15 => if ((v2 >>> (x15 &&& 31)) &&& (xc 1)) = 0 then (fP_clashOf_17 μ) else (xwh (fun s : Int32 => fP_clashOf_L23 v0 v1 s μ) (v1 + (xc 1))))
theorem fP_clashOf_0_ok {d : Nat} {v0 : Nat} {v1 : Int32} {v2 : Int32} {μ : xM} {rv : Option Value} {μf : xM} {out : Int32} (h : fP_clashOf_0 v0 v1 v2 μ = some out) (hK : fP_clashOf_K μ rv μf out) : xRun (d + 0) 92 0 [some (.ref v0), some (.int v1), some (.int v2), none] [] μ rv μf := by
  unfold fP_clashOf_0 at h
  refine xr_go 1 (pc' := 1) (lo' := [some (.ref v0), some (.int v1), some (.int v2), none]) (st' := [.int v1]) (μ' := μ) rfl ?_
  refine xr_ifc (pct := 17) rfl rfl rfl (fun hc => ?_) (fun hc => ?_)
  · replace h := (if_pos (of_decide_eq_true hc)).symm.trans h
    refine xr_forget (lo := [none, none, none, none]) trivial ?_
    exact fP_clashOf_17_ok h hK
  · replace h := (if_neg (of_decide_eq_false hc)).symm.trans h
    refine xr_go 2 (pc' := 6) (lo' := [some (.ref v0), some (.int v1), some (.int v2), none]) (st' := [.ref v0, .int v2]) (μ' := μ) rfl ?_
    obtain ⟨x14, hx14, h⟩ := Option.bind_eq_some_iff.mp h
    refine xr_opA (pc' := 9) (lo' := [some (.ref v0), some (.int v1), some (.int v2), none]) (st' := [.int v2]) (o := ldFR μ v0 5 1) rfl hx14 ?_
    refine xr_go 1 (pc' := 10) (lo' := [some (.ref v0), some (.int v1), some (.int v2), none]) (st' := [.int v1, .ref x14, .int v2]) (μ' := μ) rfl ?_
    obtain ⟨x15, hx15, h⟩ := Option.bind_eq_some_iff.mp h
    refine xr_opI (pc' := 11) (lo' := [some (.ref v0), some (.int v1), some (.int v2), none]) (st' := [.int v2]) (o := ldA μ x14 v1) rfl hx15 ?_
    refine xr_go 3 (pc' := 14) (lo' := [some (.ref v0), some (.int v1), some (.int v2), none]) (st' := [.int ((v2 >>> (x15 &&& 31)) &&& (xc 1))]) (μ' := μ) rfl ?_
    refine xr_ifc (pct := 19) rfl rfl rfl (fun hc => ?_) (fun hc => ?_)
    · replace h := (if_neg (of_decide_eq_true hc)).symm.trans h
      refine xr_go 4 (pc' := 23) (lo' := [some (.ref v0), some (.int v1), some (.int v2), some (.int (v1 + (xc 1)))]) (st' := []) (μ' := μ) rfl ?_
      refine xr_forget (lo := [some (.ref v0), some (.int v1), none, some (.int (v1 + (xc 1)))]) ⟨rfl, rfl, rfl, trivial⟩ ?_
      exact fP_clashOf_L23_lp h hK
    · replace h := (if_pos (Decidable.of_not_not (of_decide_eq_false hc))).symm.trans h
      refine xr_forget (lo := [none, none, none, none]) trivial ?_
      exact fP_clashOf_17_ok h hK
noncomputable def fP_clashOf (a0 : Nat) (a1 : Int32) (a2 : Int32) (μ : xM) : Option (Int32) := xgd μ a0 5 (fP_clashOf_0 a0 a1 a2 μ)
theorem fP_clashOf_kd {a0 : Nat} {a1 : Int32} {a2 : Int32} {μ : xM} {o : Int32} (h : fP_clashOf a0 a1 a2 μ = some o) : (xK μ a0).1 = 10 + 5 := (xgd_some h).1
theorem fP_clashOf_ok {d : Nat} {a0 : Nat} {a1 : Int32} {a2 : Int32} {μ : xM} {o : Int32} (h : fP_clashOf a0 a1 a2 μ = some o) : xRun (d + 0) 92 0 [some (.ref a0), some (.int a1), some (.int a2), none] [] μ (some (.int o)) μ :=
  xr_forget (lo := [some (.ref a0), some (.int a1), some (.int a2), none]) (⟨rfl, rfl, rfl, trivial⟩) (fP_clashOf_0_ok (d := d) (xgd_some h).2 (show fP_clashOf_K μ _ _ o from ⟨rfl, rfl⟩))
-- KeptAnswers$Picture.firstClashing(I)I 
def fP_firstClashing_K (μ : xM) (rv : Option Value) (μf : xM) : (Int32) → Prop := fun o => rv = some (.int o) ∧ μf = μ
def fP_firstClashing_K2 (v0 : Nat) (v1 : Int32) (μ : xM) (d : Nat) (rv : Option Value) (μf : xM) : ((Int32) ⊕ (Int32)) → Prop := Sum.elim (fun s : Int32 => xRun (d + 1) 91 2 [some (.ref v0), some (.int v1), some (.int s)] [] μ rv μf) (fP_firstClashing_K μ rv μf)
noncomputable def fP_firstClashing_27  (μ : xM) : Option (Int32) := some (xc (-1))
theorem fP_firstClashing_27_ok {d : Nat} {μ : xM} {rv : Option Value} {μf : xM} {out : Int32} (h : fP_firstClashing_27 μ = some out) (hK : fP_firstClashing_K μ rv μf out) : xRun (d + 1) 91 27 [none, none, none] [] μ rv μf := by
  unfold fP_firstClashing_27 at h
  refine xr_go 1 (pc' := 28) (lo' := [none, none, none]) (st' := [.int (xc (-1))]) (μ' := μ) rfl ?_
  have ho := Option.some.inj h
  subst ho
  obtain ⟨rfl, rfl⟩ := hK
  exact xr_ret (rv := some (.int (xc (-1)))) rfl rfl (Or.inl rfl)
noncomputable def fP_firstClashing_19  (v2 : Int32) (μ : xM) : Option (Int32) := some v2
theorem fP_firstClashing_19_ok {d : Nat} {v2 : Int32} {μ : xM} {rv : Option Value} {μf : xM} {out : Int32} (h : fP_firstClashing_19 v2 μ = some out) (hK : fP_firstClashing_K μ rv μf out) : xRun (d + 1) 91 19 [none, none, some (.int v2)] [] μ rv μf := by
  unfold fP_firstClashing_19 at h
  refine xr_go 1 (pc' := 20) (lo' := [none, none, some (.int v2)]) (st' := [.int v2]) (μ' := μ) rfl ?_
  have ho := Option.some.inj h
  subst ho
  obtain ⟨rfl, rfl⟩ := hK
  exact xr_ret (rv := some (.int v2)) rfl rfl (Or.inl rfl)
noncomputable def fP_firstClashing_L2  (v0 : Nat) (v1 : Int32) (v2 : Int32) (μ : xM) : Option ((Int32) ⊕ (Int32)) := (ldF μ v0 5 0).bind fun x1 => if x1 ≤ v2 then ((fP_firstClashing_27 μ).map (fun o => .inr o)) else ((fP_clashOf v0 v2 v1 μ).bind fun r2 => if r2 < 0 then (some (.inl ((v2 + xc 1)))) else ((fP_firstClashing_19 v2 μ).map (fun o => .inr o)))
theorem fP_firstClashing_L2_ok {d : Nat} {v0 : Nat} {v1 : Int32} {v2 : Int32} {μ : xM} {rv : Option Value} {μf : xM} {out : (Int32) ⊕ (Int32)} (h : fP_firstClashing_L2 v0 v1 v2 μ = some out) (hK : fP_firstClashing_K2 v0 v1 μ d rv μf out) : xRun (d + 1) 91 2 [some (.ref v0), some (.int v1), some (.int v2)] [] μ rv μf := by
  unfold fP_firstClashing_L2 at h
  refine xr_go 2 (pc' := 4) (lo' := [some (.ref v0), some (.int v1), some (.int v2)]) (st' := [.ref v0, .int v2]) (μ' := μ) rfl ?_
  obtain ⟨x1, hx1, h⟩ := Option.bind_eq_some_iff.mp h
  refine xr_opI (pc' := 7) (lo' := [some (.ref v0), some (.int v1), some (.int v2)]) (st' := [.int v2]) (o := ldF μ v0 5 0) rfl hx1 ?_
  refine xr_icmp (pct := 27) rfl rfl rfl (fun hc => ?_) (fun hc => ?_)
  · replace h := (if_pos (of_decide_eq_true hc)).symm.trans h
    refine xr_forget (lo := [none, none, none]) trivial ?_
    obtain ⟨o, h2, rfl⟩ := Option.map_eq_some_iff.mp h
    exact fP_firstClashing_27_ok h2 hK
  · replace h := (if_neg (of_decide_eq_false hc)).symm.trans h
    refine xr_go 3 (pc' := 13) (lo' := [some (.ref v0), some (.int v1), some (.int v2)]) (st' := [.int v1, .int v2, .ref v0]) (μ' := μ) rfl ?_
    obtain ⟨r2, hr2, h⟩ := Option.bind_eq_some_iff.mp h
    refine xr_callV (j := 92) (d' := (d + 0)) (rv1 := some (.int r2)) (μ1 := μ) (rest := []) (As := [.int v2, .int v1]) rfl rfl rfl rfl (Nat.le_of_ble_eq_true rfl) (fP_clashOf_kd hr2) rfl (by exact (fP_clashOf_ok (d := d + (0)) hr2)) ?_
    refine xr_ifc (pct := 21) rfl rfl rfl (fun hc => ?_) (fun hc => ?_)
    · replace h := (if_pos (of_decide_eq_true hc)).symm.trans h
      refine xr_go 2 (pc' := 2) (lo' := [some (.ref v0), some (.int v1), some (.int (v2 + xc 1))]) (st' := []) (μ' := μ) rfl ?_
      refine xr_forget (lo := [some (.ref v0), some (.int v1), some (.int (v2 + xc 1))]) ⟨rfl, rfl, rfl, trivial⟩ ?_
      have ho := Option.some.inj h
      subst ho
      exact hK
    · replace h := (if_neg (of_decide_eq_false hc)).symm.trans h
      refine xr_forget (lo := [none, none, some (.int v2)]) ⟨rfl, trivial⟩ ?_
      obtain ⟨o, h2, rfl⟩ := Option.map_eq_some_iff.mp h
      exact fP_firstClashing_19_ok h2 hK
theorem fP_firstClashing_L2_lp {d : Nat} {v0 : Nat} {v1 : Int32} {v2 : Int32} {μ : xM} {rv : Option Value} {μf : xM} {out : Int32} (h : xwh (fun s : Int32 => fP_firstClashing_L2 v0 v1 s μ) (v2) = some out) (hK : fP_firstClashing_K μ rv μf out) : xRun (d + 1) 91 2 [some (.ref v0), some (.int v1), some (.int v2)] [] μ rv μf :=
  xwh_ind (Rh := fun s : Int32 => xRun (d + 1) 91 2 [some (.ref v0), some (.int v1), some (.int s)] [] μ rv μf) (Co := fP_firstClashing_K μ rv μf) (fun s o hb hk => fP_firstClashing_L2_ok hb hk) h hK
noncomputable def fP_firstClashing_0  (v0 : Nat) (v1 : Int32) (μ : xM) : Option (Int32) := xwh (fun s : Int32 => fP_firstClashing_L2 v0 v1 s μ) (xc 0)
theorem fP_firstClashing_0_ok {d : Nat} {v0 : Nat} {v1 : Int32} {μ : xM} {rv : Option Value} {μf : xM} {out : Int32} (h : fP_firstClashing_0 v0 v1 μ = some out) (hK : fP_firstClashing_K μ rv μf out) : xRun (d + 1) 91 0 [some (.ref v0), some (.int v1), none] [] μ rv μf := by
  unfold fP_firstClashing_0 at h
  refine xr_go 2 (pc' := 2) (lo' := [some (.ref v0), some (.int v1), some (.int (xc 0))]) (st' := []) (μ' := μ) rfl ?_
  refine xr_forget (lo := [some (.ref v0), some (.int v1), some (.int (xc 0))]) ⟨rfl, rfl, rfl, trivial⟩ ?_
  exact fP_firstClashing_L2_lp h hK
noncomputable def fP_firstClashing (a0 : Nat) (a1 : Int32) (μ : xM) : Option (Int32) := xgd μ a0 5 (fP_firstClashing_0 a0 a1 μ)
theorem fP_firstClashing_kd {a0 : Nat} {a1 : Int32} {μ : xM} {o : Int32} (h : fP_firstClashing a0 a1 μ = some o) : (xK μ a0).1 = 10 + 5 := (xgd_some h).1
theorem fP_firstClashing_ok {d : Nat} {a0 : Nat} {a1 : Int32} {μ : xM} {o : Int32} (h : fP_firstClashing a0 a1 μ = some o) : xRun (d + 1) 91 0 [some (.ref a0), some (.int a1), none] [] μ (some (.int o)) μ :=
  xr_forget (lo := [some (.ref a0), some (.int a1), none]) (⟨rfl, rfl, trivial⟩) (fP_firstClashing_0_ok (d := d) (xgd_some h).2 (show fP_firstClashing_K μ _ _ o from ⟨rfl, rfl⟩))
-- KeptAnswers$Picture.makeOne(II)V 
def fP_makeOne_K (rv : Option Value) (μf : xM) : (xM) → Prop := fun o => rv = none ∧ μf = o
def fP_makeOne_K13 (v0 : Nat) (v1 : Int32) (v2 : Int32) (d : Nat) (rv : Option Value) (μf : xM) : ((Int32 × xM) ⊕ (xM)) → Prop := Sum.elim (fun s : Int32 × xM => xRun (d + 0) 93 13 [some (.ref v0), some (.int v1), some (.int v2), some (.int s.1)] [] s.2 rv μf) (fP_makeOne_K rv μf)
def fP_makeOne_K81 (v0 : Nat) (v1 : Int32) (v2 : Int32) (d : Nat) (rv : Option Value) (μf : xM) : ((Int32 × xM) ⊕ (xM)) → Prop := Sum.elim (fun s : Int32 × xM => xRun (d + 0) 93 81 [some (.ref v0), some (.int v1), some (.int v2), some (.int s.1)] [] s.2 rv μf) (fP_makeOne_K rv μf)
noncomputable def fP_makeOne_121  (v0 : Nat) (μ : xM) : Option (xM) := (ldF μ v0 5 6).bind fun x1 => (stF μ v0 5 6 (x1 + (xc 1))).bind fun μ2 => some μ2
theorem fP_makeOne_121_ok {d : Nat} {v0 : Nat} {μ : xM} {rv : Option Value} {μf : xM} {out : xM} (h : fP_makeOne_121 v0 μ = some out) (hK : fP_makeOne_K rv μf out) : xRun (d + 0) 93 121 [some (.ref v0), none, none, none] [] μ rv μf := by
  unfold fP_makeOne_121 at h
  refine xr_go 2 (pc' := 123) (lo' := [some (.ref v0), none, none, none]) (st' := [.ref v0, .ref v0]) (μ' := μ) rfl ?_
  obtain ⟨x1, hx1, h⟩ := Option.bind_eq_some_iff.mp h
  refine xr_opI (pc' := 126) (lo' := [some (.ref v0), none, none, none]) (st' := [.ref v0]) (o := ldF μ v0 5 6) rfl hx1 ?_
  refine xr_go 2 (pc' := 128) (lo' := [some (.ref v0), none, none, none]) (st' := [.int (x1 + (xc 1)), .ref v0]) (μ' := μ) rfl ?_
  obtain ⟨μ2, hμ2, h⟩ := Option.bind_eq_some_iff.mp h
  refine xr_opM (pc' := 131) (lo' := [some (.ref v0), none, none, none]) (st' := []) (o := stF μ v0 5 6 (x1 + (xc 1))) rfl hμ2 ?_
  have ho := Option.some.inj h
  subst ho
  obtain ⟨rfl, rfl⟩ := hK
  exact xr_ret (rv := none) rfl rfl (rfl)
noncomputable def fP_makeOne_114  (v0 : Nat) (v1 : Int32) (v2 : Int32) (v3 : Int32) (s0 : Int32) (s1 : Int32) (s2 : Nat) (μ : xM) : Option ((Int32 × xM) ⊕ (xM)) := (stA μ s2 s1 s0).bind fun μ3 => some (.inl ((v3 + xc 1, μ3)))
theorem fP_makeOne_114_ok {d : Nat} {v0 : Nat} {v1 : Int32} {v2 : Int32} {v3 : Int32} {s0 : Int32} {s1 : Int32} {s2 : Nat} {μ : xM} {rv : Option Value} {μf : xM} {out : (Int32 × xM) ⊕ (xM)} (h : fP_makeOne_114 v0 v1 v2 v3 s0 s1 s2 μ = some out) (hK : fP_makeOne_K81 v0 v1 v2 d rv μf out) : xRun (d + 0) 93 114 [some (.ref v0), some (.int v1), some (.int v2), some (.int v3)] [.int s0, .int s1, .ref s2] μ rv μf := by
  unfold fP_makeOne_114 at h
  obtain ⟨μ3, hμ3, h⟩ := Option.bind_eq_some_iff.mp h
  refine xr_opM (pc' := 115) (lo' := [some (.ref v0), some (.int v1), some (.int v2), some (.int v3)]) (st' := []) (o := stA μ s2 s1 s0) rfl hμ3 ?_
  refine xr_go 2 (pc' := 81) (lo' := [some (.ref v0), some (.int v1), some (.int v2), some (.int (v3 + xc 1))]) (st' := []) (μ' := μ3) rfl ?_
  refine xr_forget (lo := [some (.ref v0), some (.int v1), some (.int v2), some (.int (v3 + xc 1))]) ⟨rfl, rfl, rfl, rfl, trivial⟩ ?_
  have ho := Option.some.inj h
  subst ho
  exact hK
noncomputable def fP_makeOne_L81  (v0 : Nat) (v1 : Int32) (v2 : Int32) (v3 : Int32) (μ : xM) : Option ((Int32 × xM) ⊕ (xM)) := (ldF μ v0 5 4).bind fun x4 => if x4 ≤ v3 then ((fP_makeOne_121 v0 μ).map (fun o => .inr o)) else ((ldFR μ v0 5 5).bind fun x5 => (ldFR μ v0 5 5).bind fun x6 => (ldA μ x6 v3).bind fun x7 => if x7 = v2 then (fP_makeOne_114 v0 v1 v2 v3 v1 v3 x5 μ) else ((ldFR μ v0 5 5).bind fun x8 => (ldA μ x8 v3).bind fun x9 => fP_makeOne_114 v0 v1 v2 v3 x9 v3 x5 μ))
theorem fP_makeOne_L81_ok {d : Nat} {v0 : Nat} {v1 : Int32} {v2 : Int32} {v3 : Int32} {μ : xM} {rv : Option Value} {μf : xM} {out : (Int32 × xM) ⊕ (xM)} (h : fP_makeOne_L81 v0 v1 v2 v3 μ = some out) (hK : fP_makeOne_K81 v0 v1 v2 d rv μf out) : xRun (d + 0) 93 81 [some (.ref v0), some (.int v1), some (.int v2), some (.int v3)] [] μ rv μf := by
  unfold fP_makeOne_L81 at h
  refine xr_go 2 (pc' := 83) (lo' := [some (.ref v0), some (.int v1), some (.int v2), some (.int v3)]) (st' := [.ref v0, .int v3]) (μ' := μ) rfl ?_
  obtain ⟨x4, hx4, h⟩ := Option.bind_eq_some_iff.mp h
  refine xr_opI (pc' := 86) (lo' := [some (.ref v0), some (.int v1), some (.int v2), some (.int v3)]) (st' := [.int v3]) (o := ldF μ v0 5 4) rfl hx4 ?_
  refine xr_icmp (pct := 121) rfl rfl rfl (fun hc => ?_) (fun hc => ?_)
  · replace h := (if_pos (of_decide_eq_true hc)).symm.trans h
    refine xr_forget (lo := [some (.ref v0), none, none, none]) ⟨rfl, trivial⟩ ?_
    obtain ⟨o, h2, rfl⟩ := Option.map_eq_some_iff.mp h
    exact fP_makeOne_121_ok h2 hK
  · replace h := (if_neg (of_decide_eq_false hc)).symm.trans h
    refine xr_go 1 (pc' := 90) (lo' := [some (.ref v0), some (.int v1), some (.int v2), some (.int v3)]) (st' := [.ref v0]) (μ' := μ) rfl ?_
    obtain ⟨x5, hx5, h⟩ := Option.bind_eq_some_iff.mp h
    refine xr_opA (pc' := 93) (lo' := [some (.ref v0), some (.int v1), some (.int v2), some (.int v3)]) (st' := []) (o := ldFR μ v0 5 5) rfl hx5 ?_
    refine xr_go 2 (pc' := 95) (lo' := [some (.ref v0), some (.int v1), some (.int v2), some (.int v3)]) (st' := [.ref v0, .int v3, .ref x5]) (μ' := μ) rfl ?_
    obtain ⟨x6, hx6, h⟩ := Option.bind_eq_some_iff.mp h
    refine xr_opA (pc' := 98) (lo' := [some (.ref v0), some (.int v1), some (.int v2), some (.int v3)]) (st' := [.int v3, .ref x5]) (o := ldFR μ v0 5 5) rfl hx6 ?_
    refine xr_go 1 (pc' := 99) (lo' := [some (.ref v0), some (.int v1), some (.int v2), some (.int v3)]) (st' := [.int v3, .ref x6, .int v3, .ref x5]) (μ' := μ) rfl ?_
    obtain ⟨x7, hx7, h⟩ := Option.bind_eq_some_iff.mp h
    refine xr_opI (pc' := 100) (lo' := [some (.ref v0), some (.int v1), some (.int v2), some (.int v3)]) (st' := [.int v3, .ref x5]) (o := ldA μ x6 v3) rfl hx7 ?_
    refine xr_go 1 (pc' := 101) (lo' := [some (.ref v0), some (.int v1), some (.int v2), some (.int v3)]) (st' := [.int v2, .int x7, .int v3, .ref x5]) (μ' := μ) rfl ?_
    refine xr_icmp (pct := 108) rfl rfl rfl (fun hc => ?_) (fun hc => ?_)
    · replace h := (if_neg (of_decide_eq_true hc)).symm.trans h
      refine xr_go 1 (pc' := 109) (lo' := [some (.ref v0), some (.int v1), some (.int v2), some (.int v3)]) (st' := [.ref v0, .int v3, .ref x5]) (μ' := μ) rfl ?_
      obtain ⟨x8, hx8, h⟩ := Option.bind_eq_some_iff.mp h
      refine xr_opA (pc' := 112) (lo' := [some (.ref v0), some (.int v1), some (.int v2), some (.int v3)]) (st' := [.int v3, .ref x5]) (o := ldFR μ v0 5 5) rfl hx8 ?_
      refine xr_go 1 (pc' := 113) (lo' := [some (.ref v0), some (.int v1), some (.int v2), some (.int v3)]) (st' := [.int v3, .ref x8, .int v3, .ref x5]) (μ' := μ) rfl ?_
      obtain ⟨x9, hx9, h⟩ := Option.bind_eq_some_iff.mp h
      refine xr_opI (pc' := 114) (lo' := [some (.ref v0), some (.int v1), some (.int v2), some (.int v3)]) (st' := [.int v3, .ref x5]) (o := ldA μ x8 v3) rfl hx9 ?_
      refine xr_forget (lo := [some (.ref v0), some (.int v1), some (.int v2), some (.int v3)]) ⟨rfl, rfl, rfl, rfl, trivial⟩ ?_
      exact fP_makeOne_114_ok h hK
    · replace h := (if_pos (Decidable.of_not_not (of_decide_eq_false hc))).symm.trans h
      refine xr_go 2 (pc' := 114) (lo' := [some (.ref v0), some (.int v1), some (.int v2), some (.int v3)]) (st' := [.int v1, .int v3, .ref x5]) (μ' := μ) rfl ?_
      refine xr_forget (lo := [some (.ref v0), some (.int v1), some (.int v2), some (.int v3)]) ⟨rfl, rfl, rfl, rfl, trivial⟩ ?_
      exact fP_makeOne_114_ok h hK
theorem fP_makeOne_L81_lp {d : Nat} {v0 : Nat} {v1 : Int32} {v2 : Int32} {v3 : Int32} {μ : xM} {rv : Option Value} {μf : xM} {out : xM} (h : xwh (fun s : Int32 × xM => fP_makeOne_L81 v0 v1 v2 s.1 s.2) (v3, μ) = some out) (hK : fP_makeOne_K rv μf out) : xRun (d + 0) 93 81 [some (.ref v0), some (.int v1), some (.int v2), some (.int v3)] [] μ rv μf :=
  xwh_ind (Rh := fun s : Int32 × xM => xRun (d + 0) 93 81 [some (.ref v0), some (.int v1), some (.int v2), some (.int s.1)] [] s.2 rv μf) (Co := fP_makeOne_K rv μf) (fun s o hb hk => fP_makeOne_L81_ok hb hk) h hK
noncomputable def fP_makeOne_79  (v0 : Nat) (v1 : Int32) (v2 : Int32) (μ : xM) : Option (xM) := xwh (fun s : Int32 × xM => fP_makeOne_L81 v0 v1 v2 s.1 s.2) (xc 0, μ)
theorem fP_makeOne_79_ok {d : Nat} {v0 : Nat} {v1 : Int32} {v2 : Int32} {μ : xM} {rv : Option Value} {μf : xM} {out : xM} (h : fP_makeOne_79 v0 v1 v2 μ = some out) (hK : fP_makeOne_K rv μf out) : xRun (d + 0) 93 79 [some (.ref v0), some (.int v1), some (.int v2), none] [] μ rv μf := by
  unfold fP_makeOne_79 at h
  refine xr_go 2 (pc' := 81) (lo' := [some (.ref v0), some (.int v1), some (.int v2), some (.int (xc 0))]) (st' := []) (μ' := μ) rfl ?_
  refine xr_forget (lo := [some (.ref v0), some (.int v1), some (.int v2), some (.int (xc 0))]) ⟨rfl, rfl, rfl, rfl, trivial⟩ ?_
  exact fP_makeOne_L81_lp h hK
noncomputable def fP_makeOne_72  (v0 : Nat) (v1 : Int32) (v2 : Int32) (v3 : Int32) (s0 : Int32) (s1 : Int32) (s2 : Nat) (μ : xM) : Option ((Int32 × xM) ⊕ (xM)) := (stA μ s2 s1 s0).bind fun μ10 => some (.inl ((v3 + xc 1, μ10)))
theorem fP_makeOne_72_ok {d : Nat} {v0 : Nat} {v1 : Int32} {v2 : Int32} {v3 : Int32} {s0 : Int32} {s1 : Int32} {s2 : Nat} {μ : xM} {rv : Option Value} {μf : xM} {out : (Int32 × xM) ⊕ (xM)} (h : fP_makeOne_72 v0 v1 v2 v3 s0 s1 s2 μ = some out) (hK : fP_makeOne_K13 v0 v1 v2 d rv μf out) : xRun (d + 0) 93 72 [some (.ref v0), some (.int v1), some (.int v2), some (.int v3)] [.int s0, .int s1, .ref s2] μ rv μf := by
  unfold fP_makeOne_72 at h
  obtain ⟨μ10, hμ10, h⟩ := Option.bind_eq_some_iff.mp h
  refine xr_opM (pc' := 73) (lo' := [some (.ref v0), some (.int v1), some (.int v2), some (.int v3)]) (st' := []) (o := stA μ s2 s1 s0) rfl hμ10 ?_
  refine xr_go 2 (pc' := 13) (lo' := [some (.ref v0), some (.int v1), some (.int v2), some (.int (v3 + xc 1))]) (st' := []) (μ' := μ10) rfl ?_
  refine xr_forget (lo := [some (.ref v0), some (.int v1), some (.int v2), some (.int (v3 + xc 1))]) ⟨rfl, rfl, rfl, rfl, trivial⟩ ?_
  have ho := Option.some.inj h
  subst ho
  exact hK
noncomputable def fP_makeOne_46  (v0 : Nat) (v1 : Int32) (v2 : Int32) (v3 : Int32) (s0 : Int32) (s1 : Int32) (s2 : Nat) (μ : xM) : Option ((Int32 × xM) ⊕ (xM)) := (stA μ s2 s1 s0).bind fun μ11 => (ldFR μ11 v0 5 3).bind fun x12 => (ldFR μ11 v0 5 3).bind fun x13 => (ldA μ11 x13 v3).bind fun x14 => if x14 = v2 then (fP_makeOne_72 v0 v1 v2 v3 v1 v3 x12 μ11) else ((ldFR μ11 v0 5 3).bind fun x15 => (ldA μ11 x15 v3).bind fun x16 => fP_makeOne_72 v0 v1 v2 v3 x16 v3 x12 μ11)
theorem fP_makeOne_46_ok {d : Nat} {v0 : Nat} {v1 : Int32} {v2 : Int32} {v3 : Int32} {s0 : Int32} {s1 : Int32} {s2 : Nat} {μ : xM} {rv : Option Value} {μf : xM} {out : (Int32 × xM) ⊕ (xM)} (h : fP_makeOne_46 v0 v1 v2 v3 s0 s1 s2 μ = some out) (hK : fP_makeOne_K13 v0 v1 v2 d rv μf out) : xRun (d + 0) 93 46 [some (.ref v0), some (.int v1), some (.int v2), some (.int v3)] [.int s0, .int s1, .ref s2] μ rv μf := by
  unfold fP_makeOne_46 at h
  obtain ⟨μ11, hμ11, h⟩ := Option.bind_eq_some_iff.mp h
  refine xr_opM (pc' := 47) (lo' := [some (.ref v0), some (.int v1), some (.int v2), some (.int v3)]) (st' := []) (o := stA μ s2 s1 s0) rfl hμ11 ?_
  refine xr_go 1 (pc' := 48) (lo' := [some (.ref v0), some (.int v1), some (.int v2), some (.int v3)]) (st' := [.ref v0]) (μ' := μ11) rfl ?_
  obtain ⟨x12, hx12, h⟩ := Option.bind_eq_some_iff.mp h
  refine xr_opA (pc' := 51) (lo' := [some (.ref v0), some (.int v1), some (.int v2), some (.int v3)]) (st' := []) (o := ldFR μ11 v0 5 3) rfl hx12 ?_
  refine xr_go 2 (pc' := 53) (lo' := [some (.ref v0), some (.int v1), some (.int v2), some (.int v3)]) (st' := [.ref v0, .int v3, .ref x12]) (μ' := μ11) rfl ?_
  obtain ⟨x13, hx13, h⟩ := Option.bind_eq_some_iff.mp h
  refine xr_opA (pc' := 56) (lo' := [some (.ref v0), some (.int v1), some (.int v2), some (.int v3)]) (st' := [.int v3, .ref x12]) (o := ldFR μ11 v0 5 3) rfl hx13 ?_
  refine xr_go 1 (pc' := 57) (lo' := [some (.ref v0), some (.int v1), some (.int v2), some (.int v3)]) (st' := [.int v3, .ref x13, .int v3, .ref x12]) (μ' := μ11) rfl ?_
  obtain ⟨x14, hx14, h⟩ := Option.bind_eq_some_iff.mp h
  refine xr_opI (pc' := 58) (lo' := [some (.ref v0), some (.int v1), some (.int v2), some (.int v3)]) (st' := [.int v3, .ref x12]) (o := ldA μ11 x13 v3) rfl hx14 ?_
  refine xr_go 1 (pc' := 59) (lo' := [some (.ref v0), some (.int v1), some (.int v2), some (.int v3)]) (st' := [.int v2, .int x14, .int v3, .ref x12]) (μ' := μ11) rfl ?_
  refine xr_icmp (pct := 66) rfl rfl rfl (fun hc => ?_) (fun hc => ?_)
  · replace h := (if_neg (of_decide_eq_true hc)).symm.trans h
    refine xr_go 1 (pc' := 67) (lo' := [some (.ref v0), some (.int v1), some (.int v2), some (.int v3)]) (st' := [.ref v0, .int v3, .ref x12]) (μ' := μ11) rfl ?_
    obtain ⟨x15, hx15, h⟩ := Option.bind_eq_some_iff.mp h
    refine xr_opA (pc' := 70) (lo' := [some (.ref v0), some (.int v1), some (.int v2), some (.int v3)]) (st' := [.int v3, .ref x12]) (o := ldFR μ11 v0 5 3) rfl hx15 ?_
    refine xr_go 1 (pc' := 71) (lo' := [some (.ref v0), some (.int v1), some (.int v2), some (.int v3)]) (st' := [.int v3, .ref x15, .int v3, .ref x12]) (μ' := μ11) rfl ?_
    obtain ⟨x16, hx16, h⟩ := Option.bind_eq_some_iff.mp h
    refine xr_opI (pc' := 72) (lo' := [some (.ref v0), some (.int v1), some (.int v2), some (.int v3)]) (st' := [.int v3, .ref x12]) (o := ldA μ11 x15 v3) rfl hx16 ?_
    refine xr_forget (lo := [some (.ref v0), some (.int v1), some (.int v2), some (.int v3)]) ⟨rfl, rfl, rfl, rfl, trivial⟩ ?_
    exact fP_makeOne_72_ok h hK
  · replace h := (if_pos (Decidable.of_not_not (of_decide_eq_false hc))).symm.trans h
    refine xr_go 2 (pc' := 72) (lo' := [some (.ref v0), some (.int v1), some (.int v2), some (.int v3)]) (st' := [.int v1, .int v3, .ref x12]) (μ' := μ11) rfl ?_
    refine xr_forget (lo := [some (.ref v0), some (.int v1), some (.int v2), some (.int v3)]) ⟨rfl, rfl, rfl, rfl, trivial⟩ ?_
    exact fP_makeOne_72_ok h hK
noncomputable def fP_makeOne_L13  (v0 : Nat) (v1 : Int32) (v2 : Int32) (v3 : Int32) (μ : xM) : Option ((Int32 × xM) ⊕ (xM)) := (ldF μ v0 5 0).bind fun x17 => if x17 ≤ v3 then ((fP_makeOne_79 v0 v1 v2 μ).map (fun o => .inr o)) else ((ldFR μ v0 5 2).bind fun x18 => (ldFR μ v0 5 2).bind fun x19 => (ldA μ x19 v3).bind fun x20 => if x20 = v2 then (fP_makeOne_46 v0 v1 v2 v3 v1 v3 x18 μ) else ((ldFR μ v0 5 2).bind fun x21 => (ldA μ x21 v3).bind fun x22 => fP_makeOne_46 v0 v1 v2 v3 x22 v3 x18 μ))
theorem fP_makeOne_L13_ok {d : Nat} {v0 : Nat} {v1 : Int32} {v2 : Int32} {v3 : Int32} {μ : xM} {rv : Option Value} {μf : xM} {out : (Int32 × xM) ⊕ (xM)} (h : fP_makeOne_L13 v0 v1 v2 v3 μ = some out) (hK : fP_makeOne_K13 v0 v1 v2 d rv μf out) : xRun (d + 0) 93 13 [some (.ref v0), some (.int v1), some (.int v2), some (.int v3)] [] μ rv μf := by
  unfold fP_makeOne_L13 at h
  refine xr_go 2 (pc' := 15) (lo' := [some (.ref v0), some (.int v1), some (.int v2), some (.int v3)]) (st' := [.ref v0, .int v3]) (μ' := μ) rfl ?_
  obtain ⟨x17, hx17, h⟩ := Option.bind_eq_some_iff.mp h
  refine xr_opI (pc' := 18) (lo' := [some (.ref v0), some (.int v1), some (.int v2), some (.int v3)]) (st' := [.int v3]) (o := ldF μ v0 5 0) rfl hx17 ?_
  refine xr_icmp (pct := 79) rfl rfl rfl (fun hc => ?_) (fun hc => ?_)
  · replace h := (if_pos (of_decide_eq_true hc)).symm.trans h
    refine xr_forget (lo := [some (.ref v0), some (.int v1), some (.int v2), none]) ⟨rfl, rfl, rfl, trivial⟩ ?_
    obtain ⟨o, h2, rfl⟩ := Option.map_eq_some_iff.mp h
    exact fP_makeOne_79_ok h2 hK
  · replace h := (if_neg (of_decide_eq_false hc)).symm.trans h
    refine xr_go 1 (pc' := 22) (lo' := [some (.ref v0), some (.int v1), some (.int v2), some (.int v3)]) (st' := [.ref v0]) (μ' := μ) rfl ?_
    obtain ⟨x18, hx18, h⟩ := Option.bind_eq_some_iff.mp h
    refine xr_opA (pc' := 25) (lo' := [some (.ref v0), some (.int v1), some (.int v2), some (.int v3)]) (st' := []) (o := ldFR μ v0 5 2) rfl hx18 ?_
    refine xr_go 2 (pc' := 27) (lo' := [some (.ref v0), some (.int v1), some (.int v2), some (.int v3)]) (st' := [.ref v0, .int v3, .ref x18]) (μ' := μ) rfl ?_
    obtain ⟨x19, hx19, h⟩ := Option.bind_eq_some_iff.mp h
    refine xr_opA (pc' := 30) (lo' := [some (.ref v0), some (.int v1), some (.int v2), some (.int v3)]) (st' := [.int v3, .ref x18]) (o := ldFR μ v0 5 2) rfl hx19 ?_
    refine xr_go 1 (pc' := 31) (lo' := [some (.ref v0), some (.int v1), some (.int v2), some (.int v3)]) (st' := [.int v3, .ref x19, .int v3, .ref x18]) (μ' := μ) rfl ?_
    obtain ⟨x20, hx20, h⟩ := Option.bind_eq_some_iff.mp h
    refine xr_opI (pc' := 32) (lo' := [some (.ref v0), some (.int v1), some (.int v2), some (.int v3)]) (st' := [.int v3, .ref x18]) (o := ldA μ x19 v3) rfl hx20 ?_
    refine xr_go 1 (pc' := 33) (lo' := [some (.ref v0), some (.int v1), some (.int v2), some (.int v3)]) (st' := [.int v2, .int x20, .int v3, .ref x18]) (μ' := μ) rfl ?_
    refine xr_icmp (pct := 40) rfl rfl rfl (fun hc => ?_) (fun hc => ?_)
    · replace h := (if_neg (of_decide_eq_true hc)).symm.trans h
      refine xr_go 1 (pc' := 41) (lo' := [some (.ref v0), some (.int v1), some (.int v2), some (.int v3)]) (st' := [.ref v0, .int v3, .ref x18]) (μ' := μ) rfl ?_
      obtain ⟨x21, hx21, h⟩ := Option.bind_eq_some_iff.mp h
      refine xr_opA (pc' := 44) (lo' := [some (.ref v0), some (.int v1), some (.int v2), some (.int v3)]) (st' := [.int v3, .ref x18]) (o := ldFR μ v0 5 2) rfl hx21 ?_
      refine xr_go 1 (pc' := 45) (lo' := [some (.ref v0), some (.int v1), some (.int v2), some (.int v3)]) (st' := [.int v3, .ref x21, .int v3, .ref x18]) (μ' := μ) rfl ?_
      obtain ⟨x22, hx22, h⟩ := Option.bind_eq_some_iff.mp h
      refine xr_opI (pc' := 46) (lo' := [some (.ref v0), some (.int v1), some (.int v2), some (.int v3)]) (st' := [.int v3, .ref x18]) (o := ldA μ x21 v3) rfl hx22 ?_
      refine xr_forget (lo := [some (.ref v0), some (.int v1), some (.int v2), some (.int v3)]) ⟨rfl, rfl, rfl, rfl, trivial⟩ ?_
      exact fP_makeOne_46_ok h hK
    · replace h := (if_pos (Decidable.of_not_not (of_decide_eq_false hc))).symm.trans h
      refine xr_go 2 (pc' := 46) (lo' := [some (.ref v0), some (.int v1), some (.int v2), some (.int v3)]) (st' := [.int v1, .int v3, .ref x18]) (μ' := μ) rfl ?_
      refine xr_forget (lo := [some (.ref v0), some (.int v1), some (.int v2), some (.int v3)]) ⟨rfl, rfl, rfl, rfl, trivial⟩ ?_
      exact fP_makeOne_46_ok h hK
theorem fP_makeOne_L13_lp {d : Nat} {v0 : Nat} {v1 : Int32} {v2 : Int32} {v3 : Int32} {μ : xM} {rv : Option Value} {μf : xM} {out : xM} (h : xwh (fun s : Int32 × xM => fP_makeOne_L13 v0 v1 v2 s.1 s.2) (v3, μ) = some out) (hK : fP_makeOne_K rv μf out) : xRun (d + 0) 93 13 [some (.ref v0), some (.int v1), some (.int v2), some (.int v3)] [] μ rv μf :=
  xwh_ind (Rh := fun s : Int32 × xM => xRun (d + 0) 93 13 [some (.ref v0), some (.int v1), some (.int v2), some (.int s.1)] [] s.2 rv μf) (Co := fP_makeOne_K rv μf) (fun s o hb hk => fP_makeOne_L13_ok hb hk) h hK
noncomputable def fP_makeOne_0  (v0 : Nat) (v1 : Int32) (v2 : Int32) (μ : xM) : Option (xM) := if (xc 2) ≤ v2 then (xwh (fun s : Int32 × xM => fP_makeOne_L13 v0 v1 v2 s.1 s.2) (xc 0, μ)) else ((stFZ μ v0 5 7 (xc 1)).bind fun μ23 => some μ23)
theorem fP_makeOne_0_ok {d : Nat} {v0 : Nat} {v1 : Int32} {v2 : Int32} {μ : xM} {rv : Option Value} {μf : xM} {out : xM} (h : fP_makeOne_0 v0 v1 v2 μ = some out) (hK : fP_makeOne_K rv μf out) : xRun (d + 0) 93 0 [some (.ref v0), some (.int v1), some (.int v2), none] [] μ rv μf := by
  unfold fP_makeOne_0 at h
  refine xr_go 2 (pc' := 2) (lo' := [some (.ref v0), some (.int v1), some (.int v2), none]) (st' := [.int (xc 2), .int v2]) (μ' := μ) rfl ?_
  refine xr_icmp (pct := 11) rfl rfl rfl (fun hc => ?_) (fun hc => ?_)
  · replace h := (if_pos (of_decide_eq_true hc)).symm.trans h
    refine xr_go 2 (pc' := 13) (lo' := [some (.ref v0), some (.int v1), some (.int v2), some (.int (xc 0))]) (st' := []) (μ' := μ) rfl ?_
    refine xr_forget (lo := [some (.ref v0), some (.int v1), some (.int v2), some (.int (xc 0))]) ⟨rfl, rfl, rfl, rfl, trivial⟩ ?_
    exact fP_makeOne_L13_lp h hK
  · replace h := (if_neg (of_decide_eq_false hc)).symm.trans h
    refine xr_go 2 (pc' := 7) (lo' := [some (.ref v0), some (.int v1), some (.int v2), none]) (st' := [.int (xc 1), .ref v0]) (μ' := μ) rfl ?_
    obtain ⟨μ23, hμ23, h⟩ := Option.bind_eq_some_iff.mp h
    refine xr_opM (pc' := 10) (lo' := [some (.ref v0), some (.int v1), some (.int v2), none]) (st' := []) (o := stFZ μ v0 5 7 (xc 1)) rfl hμ23 ?_
    have ho := Option.some.inj h
    subst ho
    obtain ⟨rfl, rfl⟩ := hK
    exact xr_ret (rv := none) rfl rfl (rfl)
noncomputable def fP_makeOne (a0 : Nat) (a1 : Int32) (a2 : Int32) (μ : xM) : Option (xM) := xgd μ a0 5 (fP_makeOne_0 a0 a1 a2 μ)
theorem fP_makeOne_kd {a0 : Nat} {a1 : Int32} {a2 : Int32} {μ : xM} {o : xM} (h : fP_makeOne a0 a1 a2 μ = some o) : (xK μ a0).1 = 10 + 5 := (xgd_some h).1
theorem fP_makeOne_ok {d : Nat} {a0 : Nat} {a1 : Int32} {a2 : Int32} {μ : xM} {o : xM} (h : fP_makeOne a0 a1 a2 μ = some o) : xRun (d + 0) 93 0 [some (.ref a0), some (.int a1), some (.int a2), none] [] μ none o :=
  xr_forget (lo := [some (.ref a0), some (.int a1), some (.int a2), none]) (⟨rfl, rfl, rfl, trivial⟩) (fP_makeOne_0_ok (d := d) (xgd_some h).2 (show fP_makeOne_K _ _ o from ⟨rfl, rfl⟩))
