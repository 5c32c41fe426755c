/-! methods as functions, printed with their proofs -/
-- KeptAnswers$Picture.<init>(I)V 
def fP_init_K (rv : Option Value) (μf : xM) : (xM) → Prop := fun o => rv = none ∧ μf = o
noncomputable def fP_init_0  (v0 : Nat) (v1 : Int32) (μ : xM) : Option (xM) := (xnewA μ 1 (xc 3)).bind fun μ1 => (stFR μ1 v0 5 5 (xS μ)).bind fun μ2 => (xnewA μ2 1 (if v1 < (xc 1) then xc 1 else v1)).bind fun μ3 => (stFR μ3 v0 5 1 (xS μ2)).bind fun μ4 => (xnewA μ4 1 (if v1 < (xc 1) then xc 1 else v1)).bind fun μ5 => (stFR μ5 v0 5 2 (xS μ4)).bind fun μ6 => (xnewA μ6 1 (if v1 < (xc 1) then xc 1 else v1)).bind fun μ7 => (stFR μ7 v0 5 3 (xS μ6)).bind fun μ8 => some μ8
theorem fP_init_0_ok {d : Nat} {v0 : Nat} {v1 : Int32} {μ : xM} {rv : Option Value} {μf : xM} {out : xM} (h : fP_init_0 v0 v1 μ = some out) (hK : fP_init_K rv μf out) : xRun (d + 0) 76 0 [some (.ref v0), some (.int v1), none] [] μ rv μf := by
  unfold fP_init_0 at h
  refine xr_go 4 (pc' := 6) (lo' := [some (.ref v0), some (.int v1), none]) (st' := [.int (xc 3), .ref v0]) (μ' := μ) rfl ?_
  obtain ⟨μ1, hμ1, h⟩ := Option.bind_eq_some_iff.mp h
  refine xr_opM (pc' := 8) (lo' := [some (.ref v0), some (.int v1), none]) (st' := [.ref (xS μ), .ref v0]) (o := xnewA μ 1 (xc 3)) (xs_newA1 _ _ _ _ _ _ rfl) hμ1 ?_
  obtain ⟨μ2, hμ2, h⟩ := Option.bind_eq_some_iff.mp h
  refine xr_opM (pc' := 11) (lo' := [some (.ref v0), some (.int v1), none]) (st' := []) (o := stFR μ1 v0 5 5 (xS μ)) rfl hμ2 ?_
  refine xr_go 6 (pc' := 19) (lo' := [some (.ref v0), some (.int v1), some (.int (if v1 < (xc 1) then xc 1 else v1))]) (st' := [.int (if v1 < (xc 1) then xc 1 else v1), .ref v0]) (μ' := μ2) rfl ?_
  obtain ⟨μ3, hμ3, h⟩ := Option.bind_eq_some_iff.mp h
  refine xr_opM (pc' := 21) (lo' := [some (.ref v0), some (.int v1), some (.int (if v1 < (xc 1) then xc 1 else v1))]) (st' := [.ref (xS μ2), .ref v0]) (o := xnewA μ2 1 (if v1 < (xc 1) then xc 1 else v1)) (xs_newA1 _ _ _ _ _ _ rfl) hμ3 ?_
  obtain ⟨μ4, hμ4, h⟩ := Option.bind_eq_some_iff.mp h
  refine xr_opM (pc' := 24) (lo' := [some (.ref v0), some (.int v1), some (.int (if v1 < (xc 1) then xc 1 else v1))]) (st' := []) (o := stFR μ3 v0 5 1 (xS μ2)) rfl hμ4 ?_
  refine xr_go 2 (pc' := 26) (lo' := [some (.ref v0), some (.int v1), some (.int (if v1 < (xc 1) then xc 1 else v1))]) (st' := [.int (if v1 < (xc 1) then xc 1 else v1), .ref v0]) (μ' := μ4) rfl ?_
  obtain ⟨μ5, hμ5, h⟩ := Option.bind_eq_some_iff.mp h
  refine xr_opM (pc' := 28) (lo' := [some (.ref v0), some (.int v1), some (.int (if v1 < (xc 1) then xc 1 else v1))]) (st' := [.ref (xS μ4), .ref v0]) (o := xnewA μ4 1 (if v1 < (xc 1) then xc 1 else v1)) (xs_newA1 _ _ _ _ _ _ rfl) hμ5 ?_
  obtain ⟨μ6, hμ6, h⟩ := Option.bind_eq_some_iff.mp h
  refine xr_opM (pc' := 31) (lo' := [some (.ref v0), some (.int v1), some (.int (if v1 < (xc 1) then xc 1 else v1))]) (st' := []) (o := stFR μ5 v0 5 2 (xS μ4)) rfl hμ6 ?_
  refine xr_go 2 (pc' := 33) (lo' := [some (.ref v0), some (.int v1), some (.int (if v1 < (xc 1) then xc 1 else v1))]) (st' := [.int (if v1 < (xc 1) then xc 1 else v1), .ref v0]) (μ' := μ6) rfl ?_
  obtain ⟨μ7, hμ7, h⟩ := Option.bind_eq_some_iff.mp h
  refine xr_opM (pc' := 35) (lo' := [some (.ref v0), some (.int v1), some (.int (if v1 < (xc 1) then xc 1 else v1))]) (st' := [.ref (xS μ6), .ref v0]) (o := xnewA μ6 1 (if v1 < (xc 1) then xc 1 else v1)) (xs_newA1 _ _ _ _ _ _ rfl) hμ7 ?_
  obtain ⟨μ8, hμ8, h⟩ := Option.bind_eq_some_iff.mp h
  refine xr_opM (pc' := 38) (lo' := [some (.ref v0), some (.int v1), some (.int (if v1 < (xc 1) then xc 1 else v1))]) (st' := []) (o := stFR μ7 v0 5 3 (xS μ6)) rfl hμ8 ?_
  have ho := Option.some.inj h
  subst ho
  obtain ⟨rfl, rfl⟩ := hK
  exact xr_ret (rv := none) rfl rfl (rfl)
noncomputable def fP_init (a0 : Nat) (a1 : Int32) (μ : xM) : Option (xM) := xgd μ a0 5 (fP_init_0 a0 a1 μ)
theorem fP_init_kd {a0 : Nat} {a1 : Int32} {μ : xM} {o : xM} (h : fP_init a0 a1 μ = some o) : (xK μ a0).1 = 10 + 5 := (xgd_some h).1
theorem fP_init_ok {d : Nat} {a0 : Nat} {a1 : Int32} {μ : xM} {o : xM} (h : fP_init a0 a1 μ = some o) : xRun (d + 0) 76 0 [some (.ref a0), some (.int a1), none] [] μ none o :=
  xr_forget (lo := [some (.ref a0), some (.int a1), none]) (⟨rfl, rfl, trivial⟩) (fP_init_0_ok (d := d) (xgd_some h).2 (show fP_init_K _ _ o from ⟨rfl, rfl⟩))
-- KeptAnswers$Holding.<init>()V 
def fH_init_K (rv : Option Value) (μf : xM) : (xM) → Prop := fun o => rv = none ∧ μf = o
def fH_init_K84 (v0 : Nat) (d : Nat) (rv : Option Value) (μf : xM) : ((Int32 × xM) ⊕ (xM)) → Prop := Sum.elim (fun s : Int32 × xM => xRun (d + 1) 61 84 [some (.ref v0), some (.int s.1)] [] s.2 rv μf) (fH_init_K rv μf)
def fH_init_K112 (v0 : Nat) (d : Nat) (rv : Option Value) (μf : xM) : ((Int32 × xM) ⊕ (xM)) → Prop := Sum.elim (fun s : Int32 × xM => xRun (d + 1) 61 112 [some (.ref v0), some (.int s.1)] [] s.2 rv μf) (fH_init_K rv μf)
noncomputable def fH_init_L112  (v0 : Nat) (v1 : Int32) (μ : xM) : Option ((Int32 × xM) ⊕ (xM)) := if (xc 6) ≤ v1 then (some (.inr μ)) else ((ldFR μ v0 3 9).bind fun x1 => (some (xnew μ (15, 8) (0, 0) 0 8)).bind fun μ2 => (fP_init (xS μ) (xc 4) μ2).bind fun r3 => (stAR r3 x1 v1 (xS μ)).bind fun μ4 => some (.inl ((v1 + xc 1, μ4))))
theorem fH_init_L112_ok {d : Nat} {v0 : Nat} {v1 : Int32} {μ : xM} {rv : Option Value} {μf : xM} {out : (Int32 × xM) ⊕ (xM)} (h : fH_init_L112 v0 v1 μ = some out) (hK : fH_init_K112 v0 d rv μf out) : xRun (d + 1) 61 112 [some (.ref v0), some (.int v1)] [] μ rv μf := by
  unfold fH_init_L112 at h
  refine xr_go 2 (pc' := 115) (lo' := [some (.ref v0), some (.int v1)]) (st' := [.int (xc 6), .int v1]) (μ' := μ) rfl ?_
  refine xr_icmp (pct := 138) rfl rfl rfl (fun hc => ?_) (fun hc => ?_)
  · replace h := (if_pos (of_decide_eq_true hc)).symm.trans h
    have ho := Option.some.inj h
    subst ho
    obtain ⟨rfl, rfl⟩ := hK
    exact xr_ret (rv := none) rfl rfl (rfl)
  · replace h := (if_neg (of_decide_eq_false hc)).symm.trans h
    refine xr_go 1 (pc' := 119) (lo' := [some (.ref v0), some (.int v1)]) (st' := [.ref v0]) (μ' := μ) rfl ?_
    obtain ⟨x1, hx1, h⟩ := Option.bind_eq_some_iff.mp h
    refine xr_opA (pc' := 122) (lo' := [some (.ref v0), some (.int v1)]) (st' := []) (o := ldFR μ v0 3 9) rfl hx1 ?_
    refine xr_go 1 (pc' := 123) (lo' := [some (.ref v0), some (.int v1)]) (st' := [.int v1, .ref x1]) (μ' := μ) rfl ?_
    obtain ⟨μ2, hμ2, h⟩ := Option.bind_eq_some_iff.mp h
    refine xr_opM (pc' := 126) (lo' := [some (.ref v0), some (.int v1)]) (st' := [.ref (xS μ), .int v1, .ref x1]) (o := some (xnew μ (15, 8) (0, 0) 0 8)) rfl hμ2 ?_
    refine xr_go 2 (pc' := 128) (lo' := [some (.ref v0), some (.int v1)]) (st' := [.int (xc 4), .ref (xS μ), .ref (xS μ), .int v1, .ref x1]) (μ' := μ2) rfl ?_
    obtain ⟨r3, hr3, h⟩ := Option.bind_eq_some_iff.mp h
    refine xr_callI (j := 76) (d' := (d + 0)) (rv1 := none) (μ1 := r3) (rest := [.ref (xS μ), .int v1, .ref x1]) (As := [.int (xc 4)]) rfl rfl rfl rfl (Nat.le_of_ble_eq_true rfl) rfl (by exact (fP_init_ok (d := d + (0)) hr3)) ?_
    obtain ⟨μ4, hμ4, h⟩ := Option.bind_eq_some_iff.mp h
    refine xr_opM (pc' := 132) (lo' := [some (.ref v0), some (.int v1)]) (st' := []) (o := stAR r3 x1 v1 (xS μ)) rfl hμ4 ?_
    refine xr_go 2 (pc' := 112) (lo' := [some (.ref v0), some (.int (v1 + xc 1))]) (st' := []) (μ' := μ4) rfl ?_
    refine xr_forget (lo := [some (.ref v0), some (.int (v1 + xc 1))]) ⟨rfl, rfl, trivial⟩ ?_
    have ho := Option.some.inj h
    subst ho
    exact hK
theorem fH_init_L112_lp {d : Nat} {v0 : Nat} {v1 : Int32} {μ : xM} {rv : Option Value} {μf : xM} {out : xM} (h : xwh (fun s : Int32 × xM => fH_init_L112 v0 s.1 s.2) (v1, μ) = some out) (hK : fH_init_K rv μf out) : xRun (d + 1) 61 112 [some (.ref v0), some (.int v1)] [] μ rv μf :=
  xwh_ind (Rh := fun s : Int32 × xM => xRun (d + 1) 61 112 [some (.ref v0), some (.int s.1)] [] s.2 rv μf) (Co := fH_init_K rv μf) (fun s o hb hk => fH_init_L112_ok hb hk) h hK
noncomputable def fH_init_110  (v0 : Nat) (μ : xM) : Option (xM) := xwh (fun s : Int32 × xM => fH_init_L112 v0 s.1 s.2) (xc 0, μ)
theorem fH_init_110_ok {d : Nat} {v0 : Nat} {μ : xM} {rv : Option Value} {μf : xM} {out : xM} (h : fH_init_110 v0 μ = some out) (hK : fH_init_K rv μf out) : xRun (d + 1) 61 110 [some (.ref v0), none] [] μ rv μf := by
  unfold fH_init_110 at h
  refine xr_go 2 (pc' := 112) (lo' := [some (.ref v0), some (.int (xc 0))]) (st' := []) (μ' := μ) rfl ?_
  refine xr_forget (lo := [some (.ref v0), some (.int (xc 0))]) ⟨rfl, rfl, trivial⟩ ?_
  exact fH_init_L112_lp h hK
noncomputable def fH_init_L84  (v0 : Nat) (v1 : Int32) (μ : xM) : Option ((Int32 × xM) ⊕ (xM)) := if (xc 10) ≤ v1 then ((fH_init_110 v0 μ).map (fun o => .inr o)) else ((ldFR μ v0 3 8).bind fun x5 => (some (xnew μ (15, 8) (0, 0) 0 8)).bind fun μ6 => (fP_init (xS μ) (xc 4) μ6).bind fun r7 => (stAR r7 x5 v1 (xS μ)).bind fun μ8 => some (.inl ((v1 + xc 1, μ8))))
theorem fH_init_L84_ok {d : Nat} {v0 : Nat} {v1 : Int32} {μ : xM} {rv : Option Value} {μf : xM} {out : (Int32 × xM) ⊕ (xM)} (h : fH_init_L84 v0 v1 μ = some out) (hK : fH_init_K84 v0 d rv μf out) : xRun (d + 1) 61 84 [some (.ref v0), some (.int v1)] [] μ rv μf := by
  unfold fH_init_L84 at h
  refine xr_go 2 (pc' := 87) (lo' := [some (.ref v0), some (.int v1)]) (st' := [.int (xc 10), .int v1]) (μ' := μ) rfl ?_
  refine xr_icmp (pct := 110) rfl rfl rfl (fun hc => ?_) (fun hc => ?_)
  · replace h := (if_pos (of_decide_eq_true hc)).symm.trans h
    refine xr_forget (lo := [some (.ref v0), none]) ⟨rfl, trivial⟩ ?_
    obtain ⟨o, h2, rfl⟩ := Option.map_eq_some_iff.mp h
    exact fH_init_110_ok h2 hK
  · replace h := (if_neg (of_decide_eq_false hc)).symm.trans h
    refine xr_go 1 (pc' := 91) (lo' := [some (.ref v0), some (.int v1)]) (st' := [.ref v0]) (μ' := μ) rfl ?_
    obtain ⟨x5, hx5, h⟩ := Option.bind_eq_some_iff.mp h
    refine xr_opA (pc' := 94) (lo' := [some (.ref v0), some (.int v1)]) (st' := []) (o := ldFR μ v0 3 8) rfl hx5 ?_
    refine xr_go 1 (pc' := 95) (lo' := [some (.ref v0), some (.int v1)]) (st' := [.int v1, .ref x5]) (μ' := μ) rfl ?_
    obtain ⟨μ6, hμ6, h⟩ := Option.bind_eq_some_iff.mp h
    refine xr_opM (pc' := 98) (lo' := [some (.ref v0), some (.int v1)]) (st' := [.ref (xS μ), .int v1, .ref x5]) (o := some (xnew μ (15, 8) (0, 0) 0 8)) rfl hμ6 ?_
    refine xr_go 2 (pc' := 100) (lo' := [some (.ref v0), some (.int v1)]) (st' := [.int (xc 4), .ref (xS μ), .ref (xS μ), .int v1, .ref x5]) (μ' := μ6) rfl ?_
    obtain ⟨r7, hr7, h⟩ := Option.bind_eq_some_iff.mp h
    refine xr_callI (j := 76) (d' := (d + 0)) (rv1 := none) (μ1 := r7) (rest := [.ref (xS μ), .int v1, .ref x5]) (As := [.int (xc 4)]) rfl rfl rfl rfl (Nat.le_of_ble_eq_true rfl) rfl (by exact (fP_init_ok (d := d + (0)) hr7)) ?_
    obtain ⟨μ8, hμ8, h⟩ := Option.bind_eq_some_iff.mp h
    refine xr_opM (pc' := 104) (lo' := [some (.ref v0), some (.int v1)]) (st' := []) (o := stAR r7 x5 v1 (xS μ)) rfl hμ8 ?_
    refine xr_go 2 (pc' := 84) (lo' := [some (.ref v0), some (.int (v1 + xc 1))]) (st' := []) (μ' := μ8) rfl ?_
    refine xr_forget (lo := [some (.ref v0), some (.int (v1 + xc 1))]) ⟨rfl, rfl, trivial⟩ ?_
    have ho := Option.some.inj h
    subst ho
    exact hK
theorem fH_init_L84_lp {d : Nat} {v0 : Nat} {v1 : Int32} {μ : xM} {rv : Option Value} {μf : xM} {out : xM} (h : xwh (fun s : Int32 × xM => fH_init_L84 v0 s.1 s.2) (v1, μ) = some out) (hK : fH_init_K rv μf out) : xRun (d + 1) 61 84 [some (.ref v0), some (.int v1)] [] μ rv μf :=
  xwh_ind (Rh := fun s : Int32 × xM => xRun (d + 1) 61 84 [some (.ref v0), some (.int s.1)] [] s.2 rv μf) (Co := fH_init_K rv μf) (fun s o hb hk => fH_init_L84_ok hb hk) h hK
noncomputable def fH_init_0  (v0 : Nat) (μ : xM) : Option (xM) := (stF μ v0 3 6 (xc 99)).bind fun μ9 => (stF μ9 v0 3 7 (xc 10)).bind fun μ10 => (xnewA μ10 4 (xc 10)).bind fun μ11 => (stFR μ11 v0 3 8 (xS μ10)).bind fun μ12 => (xnewA μ12 4 (xc 6)).bind fun μ13 => (stFR μ13 v0 3 9 (xS μ12)).bind fun μ14 => (xnewA μ14 1 (xc 6)).bind fun μ15 => (stFR μ15 v0 3 10 (xS μ14)).bind fun μ16 => (xnewA μ16 1 (xc 10)).bind fun μ17 => (stFR μ17 v0 3 11 (xS μ16)).bind fun μ18 => (xnewA μ18 1 (xc 6)).bind fun μ19 => (stFR μ19 v0 3 12 (xS μ18)).bind fun μ20 => (xnewA μ20 1 (xc 6)).bind fun μ21 => (stFR μ21 v0 3 13 (xS μ20)).bind fun μ22 => (xnewA μ22 1 (xc 6)).bind fun μ23 => (stFR μ23 v0 3 14 (xS μ22)).bind fun μ24 => (xnewA μ24 1 (xc 6)).bind fun μ25 => (stFR μ25 v0 3 15 (xS μ24)).bind fun μ26 => xwh (fun s : Int32 × xM => fH_init_L84 v0 s.1 s.2) (xc 0, μ26)
theorem fH_init_0_ok {d : Nat} {v0 : Nat} {μ : xM} {rv : Option Value} {μf : xM} {out : xM} (h : fH_init_0 v0 μ = some out) (hK : fH_init_K rv μf out) : xRun (d + 1) 61 0 [some (.ref v0), none] [] μ rv μf := by
  unfold fH_init_0 at h
  refine xr_go 4 (pc' := 7) (lo' := [some (.ref v0), none]) (st' := [.int (xc 99), .ref v0]) (μ' := μ) rfl ?_
  obtain ⟨μ9, hμ9, h⟩ := Option.bind_eq_some_iff.mp h
  refine xr_opM (pc' := 10) (lo' := [some (.ref v0), none]) (st' := []) (o := stF μ v0 3 6 (xc 99)) rfl hμ9 ?_
  refine xr_go 2 (pc' := 13) (lo' := [some (.ref v0), none]) (st' := [.int (xc 10), .ref v0]) (μ' := μ9) rfl ?_
  obtain ⟨μ10, hμ10, h⟩ := Option.bind_eq_some_iff.mp h
  refine xr_opM (pc' := 16) (lo' := [some (.ref v0), none]) (st' := []) (o := stF μ9 v0 3 7 (xc 10)) rfl hμ10 ?_
  refine xr_go 2 (pc' := 19) (lo' := [some (.ref v0), none]) (st' := [.int (xc 10), .ref v0]) (μ' := μ10) rfl ?_
  obtain ⟨μ11, hμ11, h⟩ := Option.bind_eq_some_iff.mp h
  refine xr_opM (pc' := 22) (lo' := [some (.ref v0), none]) (st' := [.ref (xS μ10), .ref v0]) (o := xnewA μ10 4 (xc 10)) (xs_newA4 _ _ _ _ _ _ rfl) hμ11 ?_
  obtain ⟨μ12, hμ12, h⟩ := Option.bind_eq_some_iff.mp h
  refine xr_opM (pc' := 25) (lo' := [some (.ref v0), none]) (st' := []) (o := stFR μ11 v0 3 8 (xS μ10)) rfl hμ12 ?_
  refine xr_go 2 (pc' := 28) (lo' := [some (.ref v0), none]) (st' := [.int (xc 6), .ref v0]) (μ' := μ12) rfl ?_
  obtain ⟨μ13, hμ13, h⟩ := Option.bind_eq_some_iff.mp h
  refine xr_opM (pc' := 31) (lo' := [some (.ref v0), none]) (st' := [.ref (xS μ12), .ref v0]) (o := xnewA μ12 4 (xc 6)) (xs_newA4 _ _ _ _ _ _ rfl) hμ13 ?_
  obtain ⟨μ14, hμ14, h⟩ := Option.bind_eq_some_iff.mp h
  refine xr_opM (pc' := 34) (lo' := [some (.ref v0), none]) (st' := []) (o := stFR μ13 v0 3 9 (xS μ12)) rfl hμ14 ?_
  refine xr_go 2 (pc' := 37) (lo' := [some (.ref v0), none]) (st' := [.int (xc 6), .ref v0]) (μ' := μ14) rfl ?_
  obtain ⟨μ15, hμ15, h⟩ := Option.bind_eq_some_iff.mp h
  refine xr_opM (pc' := 39) (lo' := [some (.ref v0), none]) (st' := [.ref (xS μ14), .ref v0]) (o := xnewA μ14 1 (xc 6)) (xs_newA1 _ _ _ _ _ _ rfl) hμ15 ?_
  obtain ⟨μ16, hμ16, h⟩ := Option.bind_eq_some_iff.mp h
  refine xr_opM (pc' := 42) (lo' := [some (.ref v0), none]) (st' := []) (o := stFR μ15 v0 3 10 (xS μ14)) rfl hμ16 ?_
  refine xr_go 2 (pc' := 45) (lo' := [some (.ref v0), none]) (st' := [.int (xc 10), .ref v0]) (μ' := μ16) rfl ?_
  obtain ⟨μ17, hμ17, h⟩ := Option.bind_eq_some_iff.mp h
  refine xr_opM (pc' := 47) (lo' := [some (.ref v0), none]) (st' := [.ref (xS μ16), .ref v0]) (o := xnewA μ16 1 (xc 10)) (xs_newA1 _ _ _ _ _ _ rfl) hμ17 ?_
  obtain ⟨μ18, hμ18, h⟩ := Option.bind_eq_some_iff.mp h
  refine xr_opM (pc' := 50) (lo' := [some (.ref v0), none]) (st' := []) (o := stFR μ17 v0 3 11 (xS μ16)) rfl hμ18 ?_
  refine xr_go 2 (pc' := 53) (lo' := [some (.ref v0), none]) (st' := [.int (xc 6), .ref v0]) (μ' := μ18) rfl ?_
  obtain ⟨μ19, hμ19, h⟩ := Option.bind_eq_some_iff.mp h
  refine xr_opM (pc' := 55) (lo' := [some (.ref v0), none]) (st' := [.ref (xS μ18), .ref v0]) (o := xnewA μ18 1 (xc 6)) (xs_newA1 _ _ _ _ _ _ rfl) hμ19 ?_
  obtain ⟨μ20, hμ20, h⟩ := Option.bind_eq_some_iff.mp h
  refine xr_opM (pc' := 58) (lo' := [some (.ref v0), none]) (st' := []) (o := stFR μ19 v0 3 12 (xS μ18)) rfl hμ20 ?_
  refine xr_go 2 (pc' := 61) (lo' := [some (.ref v0), none]) (st' := [.int (xc 6), .ref v0]) (μ' := μ20) rfl ?_
  obtain ⟨μ21, hμ21, h⟩ := Option.bind_eq_some_iff.mp h
  refine xr_opM (pc' := 63) (lo' := [some (.ref v0), none]) (st' := [.ref (xS μ20), .ref v0]) (o := xnewA μ20 1 (xc 6)) (xs_newA1 _ _ _ _ _ _ rfl) hμ21 ?_
  obtain ⟨μ22, hμ22, h⟩ := Option.bind_eq_some_iff.mp h
  refine xr_opM (pc' := 66) (lo' := [some (.ref v0), none]) (st' := []) (o := stFR μ21 v0 3 13 (xS μ20)) rfl hμ22 ?_
  refine xr_go 2 (pc' := 69) (lo' := [some (.ref v0), none]) (st' := [.int (xc 6), .ref v0]) (μ' := μ22) rfl ?_
  obtain ⟨μ23, hμ23, h⟩ := Option.bind_eq_some_iff.mp h
  refine xr_opM (pc' := 71) (lo' := [some (.ref v0), none]) (st' := [.ref (xS μ22), .ref v0]) (o := xnewA μ22 1 (xc 6)) (xs_newA1 _ _ _ _ _ _ rfl) hμ23 ?_
  obtain ⟨μ24, hμ24, h⟩ := Option.bind_eq_some_iff.mp h
  refine xr_opM (pc' := 74) (lo' := [some (.ref v0), none]) (st' := []) (o := stFR μ23 v0 3 14 (xS μ22)) rfl hμ24 ?_
  refine xr_go 2 (pc' := 77) (lo' := [some (.ref v0), none]) (st' := [.int (xc 6), .ref v0]) (μ' := μ24) rfl ?_
  obtain ⟨μ25, hμ25, h⟩ := Option.bind_eq_some_iff.mp h
  refine xr_opM (pc' := 79) (lo' := [some (.ref v0), none]) (st' := [.ref (xS μ24), .ref v0]) (o := xnewA μ24 1 (xc 6)) (xs_newA1 _ _ _ _ _ _ rfl) hμ25 ?_
  obtain ⟨μ26, hμ26, h⟩ := Option.bind_eq_some_iff.mp h
  refine xr_opM (pc' := 82) (lo' := [some (.ref v0), none]) (st' := []) (o := stFR μ25 v0 3 15 (xS μ24)) rfl hμ26 ?_
  refine xr_go 2 (pc' := 84) (lo' := [some (.ref v0), some (.int (xc 0))]) (st' := []) (μ' := μ26) rfl ?_
  refine xr_forget (lo := [some (.ref v0), some (.int (xc 0))]) ⟨rfl, rfl, trivial⟩ ?_
  exact fH_init_L84_lp h hK
noncomputable def fH_init (a0 : Nat) (μ : xM) : Option (xM) := xgd μ a0 3 (fH_init_0 a0 μ)
theorem fH_init_kd {a0 : Nat} {μ : xM} {o : xM} (h : fH_init a0 μ = some o) : (xK μ a0).1 = 10 + 3 := (xgd_some h).1
theorem fH_init_ok {d : Nat} {a0 : Nat} {μ : xM} {o : xM} (h : fH_init a0 μ = some o) : xRun (d + 1) 61 0 [some (.ref a0), none] [] μ none o :=
  xr_forget (lo := [some (.ref a0), none]) (⟨rfl, trivial⟩) (fH_init_0_ok (d := d) (xgd_some h).2 (show fH_init_K _ _ o from ⟨rfl, rfl⟩))
-- KeptAnswers$Text.<init>()V 
def fT_init_K (rv : Option Value) (μf : xM) : (xM) → Prop := fun o => rv = none ∧ μf = o
noncomputable def fT_init_0  (v0 : Nat) (μ : xM) : Option (xM) := (xnewA μ 1 (xc 24)).bind fun μ1 => (stFR μ1 v0 7 0 (xS μ)).bind fun μ2 => some μ2
theorem fT_init_0_ok {d : Nat} {v0 : Nat} {μ : xM} {rv : Option Value} {μf : xM} {out : xM} (h : fT_init_0 v0 μ = some out) (hK : fT_init_K rv μf out) : xRun (d + 0) 115 0 [some (.ref v0)] [] μ rv μf := by
  unfold fT_init_0 at h
  refine xr_go 4 (pc' := 7) (lo' := [some (.ref v0)]) (st' := [.int (xc 24), .ref v0]) (μ' := μ) rfl ?_
  obtain ⟨μ1, hμ1, h⟩ := Option.bind_eq_some_iff.mp h
  refine xr_opM (pc' := 9) (lo' := [some (.ref v0)]) (st' := [.ref (xS μ), .ref v0]) (o := xnewA μ 1 (xc 24)) (xs_newA1 _ _ _ _ _ _ rfl) hμ1 ?_
  obtain ⟨μ2, hμ2, h⟩ := Option.bind_eq_some_iff.mp h
  refine xr_opM (pc' := 12) (lo' := [some (.ref v0)]) (st' := []) (o := stFR μ1 v0 7 0 (xS μ)) rfl hμ2 ?_
  have ho := Option.some.inj h
  subst ho
  obtain ⟨rfl, rfl⟩ := hK
  exact xr_ret (rv := none) rfl rfl (rfl)
noncomputable def fT_init (a0 : Nat) (μ : xM) : Option (xM) := xgd μ a0 7 (fT_init_0 a0 μ)
theorem fT_init_kd {a0 : Nat} {μ : xM} {o : xM} (h : fT_init a0 μ = some o) : (xK μ a0).1 = 10 + 7 := (xgd_some h).1
theorem fT_init_ok {d : Nat} {a0 : Nat} {μ : xM} {o : xM} (h : fT_init a0 μ = some o) : xRun (d + 0) 115 0 [some (.ref a0)] [] μ none o :=
  xr_forget (lo := [some (.ref a0)]) (⟨rfl, trivial⟩) (fT_init_0_ok (d := d) (xgd_some h).2 (show fT_init_K _ _ o from ⟨rfl, rfl⟩))
-- KeptAnswers$Book.<init>()V 
def fB_init_K (rv : Option Value) (μf : xM) : (xM) → Prop := fun o => rv = none ∧ μf = o
noncomputable def fB_init_0  (v0 : Nat) (μ : xM) : Option (xM) := (xnewA μ 1 (xc 60)).bind fun μ1 => (stFR μ1 v0 1 0 (xS μ)).bind fun μ2 => some μ2
theorem fB_init_0_ok {d : Nat} {v0 : Nat} {μ : xM} {rv : Option Value} {μf : xM} {out : xM} (h : fB_init_0 v0 μ = some out) (hK : fB_init_K rv μf out) : xRun (d + 0) 53 0 [some (.ref v0)] [] μ rv μf := by
  unfold fB_init_0 at h
  refine xr_go 4 (pc' := 7) (lo' := [some (.ref v0)]) (st' := [.int (xc 60), .ref v0]) (μ' := μ) rfl ?_
  obtain ⟨μ1, hμ1, h⟩ := Option.bind_eq_some_iff.mp h
  refine xr_opM (pc' := 9) (lo' := [some (.ref v0)]) (st' := [.ref (xS μ), .ref v0]) (o := xnewA μ 1 (xc 60)) (xs_newA1 _ _ _ _ _ _ rfl) hμ1 ?_
  obtain ⟨μ2, hμ2, h⟩ := Option.bind_eq_some_iff.mp h
  refine xr_opM (pc' := 12) (lo' := [some (.ref v0)]) (st' := []) (o := stFR μ1 v0 1 0 (xS μ)) rfl hμ2 ?_
  have ho := Option.some.inj h
  subst ho
  obtain ⟨rfl, rfl⟩ := hK
  exact xr_ret (rv := none) rfl rfl (rfl)
noncomputable def fB_init (a0 : Nat) (μ : xM) : Option (xM) := xgd μ a0 1 (fB_init_0 a0 μ)
theorem fB_init_kd {a0 : Nat} {μ : xM} {o : xM} (h : fB_init a0 μ = some o) : (xK μ a0).1 = 10 + 1 := (xgd_some h).1
theorem fB_init_ok {d : Nat} {a0 : Nat} {μ : xM} {o : xM} (h : fB_init a0 μ = some o) : xRun (d + 0) 53 0 [some (.ref a0)] [] μ none o :=
  xr_forget (lo := [some (.ref a0)]) (⟨rfl, trivial⟩) (fB_init_0_ok (d := d) (xgd_some h).2 (show fB_init_K _ _ o from ⟨rfl, rfl⟩))
-- KeptAnswers$Changes.<init>()V 
def fC_init_K (rv : Option Value) (μf : xM) : (xM) → Prop := fun o => rv = none ∧ μf = o
noncomputable def fC_init_0  (v0 : Nat) (μ : xM) : Option (xM) := (xnewA μ 1 (xc 40)).bind fun μ1 => (stFR μ1 v0 2 0 (xS μ)).bind fun μ2 => some μ2
theorem fC_init_0_ok {d : Nat} {v0 : Nat} {μ : xM} {rv : Option Value} {μf : xM} {out : xM} (h : fC_init_0 v0 μ = some out) (hK : fC_init_K rv μf out) : xRun (d + 0) 57 0 [some (.ref v0)] [] μ rv μf := by
  unfold fC_init_0 at h
  refine xr_go 4 (pc' := 7) (lo' := [some (.ref v0)]) (st' := [.int (xc 40), .ref v0]) (μ' := μ) rfl ?_
  obtain ⟨μ1, hμ1, h⟩ := Option.bind_eq_some_iff.mp h
  refine xr_opM (pc' := 9) (lo' := [some (.ref v0)]) (st' := [.ref (xS μ), .ref v0]) (o := xnewA μ 1 (xc 40)) (xs_newA1 _ _ _ _ _ _ rfl) hμ1 ?_
  obtain ⟨μ2, hμ2, h⟩ := Option.bind_eq_some_iff.mp h
  refine xr_opM (pc' := 12) (lo' := [some (.ref v0)]) (st' := []) (o := stFR μ1 v0 2 0 (xS μ)) rfl hμ2 ?_
  have ho := Option.some.inj h
  subst ho
  obtain ⟨rfl, rfl⟩ := hK
  exact xr_ret (rv := none) rfl rfl (rfl)
noncomputable def fC_init (a0 : Nat) (μ : xM) : Option (xM) := xgd μ a0 2 (fC_init_0 a0 μ)
theorem fC_init_kd {a0 : Nat} {μ : xM} {o : xM} (h : fC_init a0 μ = some o) : (xK μ a0).1 = 10 + 2 := (xgd_some h).1
theorem fC_init_ok {d : Nat} {a0 : Nat} {μ : xM} {o : xM} (h : fC_init a0 μ = some o) : xRun (d + 0) 57 0 [some (.ref a0)] [] μ none o :=
  xr_forget (lo := [some (.ref a0)]) (⟨rfl, trivial⟩) (fC_init_0_ok (d := d) (xgd_some h).2 (show fC_init_K _ _ o from ⟨rfl, rfl⟩))
-- KeptAnswers$Worlds.<init>()V 
def fW_init_K (rv : Option Value) (μf : xM) : (xM) → Prop := fun o => rv = none ∧ μf = o
noncomputable def fW_init_0  (v0 : Nat) (μ : xM) : Option (xM) := (xnewA μ 3 (xc 64)).bind fun μ1 => (stFR μ1 v0 8 0 (xS μ)).bind fun μ2 => (xnewAA μ2 (xc 6) (xc 64)).bind fun μ3 => (stFR μ3 v0 8 1 (xS μ2)).bind fun μ4 => (xnewAA μ4 (xc 8) (xc 64)).bind fun μ5 => (stFR μ5 v0 8 2 (xS μ4)).bind fun μ6 => (xnewA μ6 3 (xc 64)).bind fun μ7 => (stFR μ7 v0 8 3 (xS μ6)).bind fun μ8 => some μ8
theorem fW_init_0_ok {d : Nat} {v0 : Nat} {μ : xM} {rv : Option Value} {μf : xM} {out : xM} (h : fW_init_0 v0 μ = some out) (hK : fW_init_K rv μf out) : xRun (d + 0) 122 0 [some (.ref v0)] [] μ rv μf := by
  unfold fW_init_0 at h
  refine xr_go 4 (pc' := 7) (lo' := [some (.ref v0)]) (st' := [.int (xc 64), .ref v0]) (μ' := μ) rfl ?_
  obtain ⟨μ1, hμ1, h⟩ := Option.bind_eq_some_iff.mp h
  refine xr_opM (pc' := 9) (lo' := [some (.ref v0)]) (st' := [.ref (xS μ), .ref v0]) (o := xnewA μ 3 (xc 64)) (xs_newA3 _ _ _ _ _ _ rfl) hμ1 ?_
  obtain ⟨μ2, hμ2, h⟩ := Option.bind_eq_some_iff.mp h
  refine xr_opM (pc' := 12) (lo' := [some (.ref v0)]) (st' := []) (o := stFR μ1 v0 8 0 (xS μ)) rfl hμ2 ?_
  refine xr_go 3 (pc' := 17) (lo' := [some (.ref v0)]) (st' := [.int (xc 64), .int (xc 6), .ref v0]) (μ' := μ2) rfl ?_
  obtain ⟨μ3, hμ3, h⟩ := Option.bind_eq_some_iff.mp h
  refine xr_opM (pc' := 21) (lo' := [some (.ref v0)]) (st' := [.ref (xS μ2), .ref v0]) (o := xnewAA μ2 (xc 6) (xc 64)) (xs_newAA _ _ _ _ _ _ _ rfl) hμ3 ?_
  obtain ⟨μ4, hμ4, h⟩ := Option.bind_eq_some_iff.mp h
  refine xr_opM (pc' := 24) (lo' := [some (.ref v0)]) (st' := []) (o := stFR μ3 v0 8 1 (xS μ2)) rfl hμ4 ?_
  refine xr_go 3 (pc' := 29) (lo' := [some (.ref v0)]) (st' := [.int (xc 64), .int (xc 8), .ref v0]) (μ' := μ4) rfl ?_
  obtain ⟨μ5, hμ5, h⟩ := Option.bind_eq_some_iff.mp h
  refine xr_opM (pc' := 33) (lo' := [some (.ref v0)]) (st' := [.ref (xS μ4), .ref v0]) (o := xnewAA μ4 (xc 8) (xc 64)) (xs_newAA _ _ _ _ _ _ _ rfl) hμ5 ?_
  obtain ⟨μ6, hμ6, h⟩ := Option.bind_eq_some_iff.mp h
  refine xr_opM (pc' := 36) (lo' := [some (.ref v0)]) (st' := []) (o := stFR μ5 v0 8 2 (xS μ4)) rfl hμ6 ?_
  refine xr_go 2 (pc' := 39) (lo' := [some (.ref v0)]) (st' := [.int (xc 64), .ref v0]) (μ' := μ6) rfl ?_
  obtain ⟨μ7, hμ7, h⟩ := Option.bind_eq_some_iff.mp h
  refine xr_opM (pc' := 41) (lo' := [some (.ref v0)]) (st' := [.ref (xS μ6), .ref v0]) (o := xnewA μ6 3 (xc 64)) (xs_newA3 _ _ _ _ _ _ rfl) hμ7 ?_
  obtain ⟨μ8, hμ8, h⟩ := Option.bind_eq_some_iff.mp h
  refine xr_opM (pc' := 44) (lo' := [some (.ref v0)]) (st' := []) (o := stFR μ7 v0 8 3 (xS μ6)) rfl hμ8 ?_
  have ho := Option.some.inj h
  subst ho
  obtain ⟨rfl, rfl⟩ := hK
  exact xr_ret (rv := none) rfl rfl (rfl)
noncomputable def fW_init (a0 : Nat) (μ : xM) : Option (xM) := xgd μ a0 8 (fW_init_0 a0 μ)
theorem fW_init_kd {a0 : Nat} {μ : xM} {o : xM} (h : fW_init a0 μ = some o) : (xK μ a0).1 = 10 + 8 := (xgd_some h).1
theorem fW_init_ok {d : Nat} {a0 : Nat} {μ : xM} {o : xM} (h : fW_init a0 μ = some o) : xRun (d + 0) 122 0 [some (.ref a0)] [] μ none o :=
  xr_forget (lo := [some (.ref a0)]) (⟨rfl, trivial⟩) (fW_init_0_ok (d := d) (xgd_some h).2 (show fW_init_K _ _ o from ⟨rfl, rfl⟩))
-- KeptAnswers$Sight.<init>()V 
def fS_init_K (rv : Option Value) (μf : xM) : (xM) → Prop := fun o => rv = none ∧ μf = o
noncomputable def fS_init_0  (v0 : Nat) (μ : xM) : Option (xM) := (some (xnew μ (15, 8) (0, 0) 0 8)).bind fun μ1 => (fP_init (xS μ) (xc 4) μ1).bind fun r2 => (stFR r2 v0 6 0 (xS μ)).bind fun μ3 => (xnewA μ3 1 (xc 12)).bind fun μ4 => (stFR μ4 v0 6 1 (xS μ3)).bind fun μ5 => (xnewA μ5 3 (xc 64)).bind fun μ6 => (stFR μ6 v0 6 4 (xS μ5)).bind fun μ7 => some μ7
theorem fS_init_0_ok {d : Nat} {v0 : Nat} {μ : xM} {rv : Option Value} {μf : xM} {out : xM} (h : fS_init_0 v0 μ = some out) (hK : fS_init_K rv μf out) : xRun (d + 1) 96 0 [some (.ref v0)] [] μ rv μf := by
  unfold fS_init_0 at h
  refine xr_go 3 (pc' := 5) (lo' := [some (.ref v0)]) (st' := [.ref v0]) (μ' := μ) rfl ?_
  obtain ⟨μ1, hμ1, h⟩ := Option.bind_eq_some_iff.mp h
  refine xr_opM (pc' := 8) (lo' := [some (.ref v0)]) (st' := [.ref (xS μ), .ref v0]) (o := some (xnew μ (15, 8) (0, 0) 0 8)) rfl hμ1 ?_
  refine xr_go 2 (pc' := 10) (lo' := [some (.ref v0)]) (st' := [.int (xc 4), .ref (xS μ), .ref (xS μ), .ref v0]) (μ' := μ1) rfl ?_
  obtain ⟨r2, hr2, h⟩ := Option.bind_eq_some_iff.mp h
  refine xr_callI (j := 76) (d' := (d + 0)) (rv1 := none) (μ1 := r2) (rest := [.ref (xS μ), .ref v0]) (As := [.int (xc 4)]) rfl rfl rfl rfl (Nat.le_of_ble_eq_true rfl) rfl (by exact (fP_init_ok (d := d + (0)) hr2)) ?_
  obtain ⟨μ3, hμ3, h⟩ := Option.bind_eq_some_iff.mp h
  refine xr_opM (pc' := 16) (lo' := [some (.ref v0)]) (st' := []) (o := stFR r2 v0 6 0 (xS μ)) rfl hμ3 ?_
  refine xr_go 2 (pc' := 19) (lo' := [some (.ref v0)]) (st' := [.int (xc 12), .ref v0]) (μ' := μ3) rfl ?_
  obtain ⟨μ4, hμ4, h⟩ := Option.bind_eq_some_iff.mp h
  refine xr_opM (pc' := 21) (lo' := [some (.ref v0)]) (st' := [.ref (xS μ3), .ref v0]) (o := xnewA μ3 1 (xc 12)) (xs_newA1 _ _ _ _ _ _ rfl) hμ4 ?_
  obtain ⟨μ5, hμ5, h⟩ := Option.bind_eq_some_iff.mp h
  refine xr_opM (pc' := 24) (lo' := [some (.ref v0)]) (st' := []) (o := stFR μ4 v0 6 1 (xS μ3)) rfl hμ5 ?_
  refine xr_go 2 (pc' := 27) (lo' := [some (.ref v0)]) (st' := [.int (xc 64), .ref v0]) (μ' := μ5) rfl ?_
  obtain ⟨μ6, hμ6, h⟩ := Option.bind_eq_some_iff.mp h
  refine xr_opM (pc' := 29) (lo' := [some (.ref v0)]) (st' := [.ref (xS μ5), .ref v0]) (o := xnewA μ5 3 (xc 64)) (xs_newA3 _ _ _ _ _ _ rfl) hμ6 ?_
  obtain ⟨μ7, hμ7, h⟩ := Option.bind_eq_some_iff.mp h
  refine xr_opM (pc' := 32) (lo' := [some (.ref v0)]) (st' := []) (o := stFR μ6 v0 6 4 (xS μ5)) rfl hμ7 ?_
  have ho := Option.some.inj h
  subst ho
  obtain ⟨rfl, rfl⟩ := hK
  exact xr_ret (rv := none) rfl rfl (rfl)
noncomputable def fS_init (a0 : Nat) (μ : xM) : Option (xM) := xgd μ a0 6 (fS_init_0 a0 μ)
theorem fS_init_kd {a0 : Nat} {μ : xM} {o : xM} (h : fS_init a0 μ = some o) : (xK μ a0).1 = 10 + 6 := (xgd_some h).1
theorem fS_init_ok {d : Nat} {a0 : Nat} {μ : xM} {o : xM} (h : fS_init a0 μ = some o) : xRun (d + 1) 96 0 [some (.ref a0)] [] μ none o :=
  xr_forget (lo := [some (.ref a0)]) (⟨rfl, trivial⟩) (fS_init_0_ok (d := d) (xgd_some h).2 (show fS_init_K _ _ o from ⟨rfl, rfl⟩))
-- KeptAnswers.<init>()V 
def fX_init_K (rv : Option Value) (μf : xM) : (xM) → Prop := fun o => rv = none ∧ μf = o
def fX_init_K102 (v0 : Nat) (d : Nat) (rv : Option Value) (μf : xM) : ((Int32 × xM) ⊕ (xM)) → Prop := Sum.elim (fun s : Int32 × xM => xRun (d + 2) 0 102 [some (.ref v0), some (.int s.1)] [] s.2 rv μf) (fX_init_K rv μf)
noncomputable def fX_init_L102  (v0 : Nat) (v1 : Int32) (μ : xM) : Option ((Int32 × xM) ⊕ (xM)) := if (xc 10) ≤ v1 then (some (.inr μ)) else ((ldFR μ v0 0 6).bind fun x1 => (some (xnew μ (16, 10) (0, 0) 0 10)).bind fun μ2 => (fS_init (xS μ) μ2).bind fun r3 => (stAR r3 x1 v1 (xS μ)).bind fun μ4 => some (.inl ((v1 + xc 1, μ4))))
theorem fX_init_L102_ok {d : Nat} {v0 : Nat} {v1 : Int32} {μ : xM} {rv : Option Value} {μf : xM} {out : (Int32 × xM) ⊕ (xM)} (h : fX_init_L102 v0 v1 μ = some out) (hK : fX_init_K102 v0 d rv μf out) : xRun (d + 2) 0 102 [some (.ref v0), some (.int v1)] [] μ rv μf := by
  unfold fX_init_L102 at h
  refine xr_go 2 (pc' := 105) (lo' := [some (.ref v0), some (.int v1)]) (st' := [.int (xc 10), .int v1]) (μ' := μ) rfl ?_
  refine xr_icmp (pct := 127) rfl rfl rfl (fun hc => ?_) (fun hc => ?_)
  · replace h := (if_pos (of_decide_eq_true hc)).symm.trans h
    have ho := Option.some.inj h
    subst ho
    obtain ⟨rfl, rfl⟩ := hK
    exact xr_ret (rv := none) rfl rfl (rfl)
  · replace h := (if_neg (of_decide_eq_false hc)).symm.trans h
    refine xr_go 1 (pc' := 109) (lo' := [some (.ref v0), some (.int v1)]) (st' := [.ref v0]) (μ' := μ) rfl ?_
    obtain ⟨x1, hx1, h⟩ := Option.bind_eq_some_iff.mp h
    refine xr_opA (pc' := 112) (lo' := [some (.ref v0), some (.int v1)]) (st' := []) (o := ldFR μ v0 0 6) rfl hx1 ?_
    refine xr_go 1 (pc' := 113) (lo' := [some (.ref v0), some (.int v1)]) (st' := [.int v1, .ref x1]) (μ' := μ) rfl ?_
    obtain ⟨μ2, hμ2, h⟩ := Option.bind_eq_some_iff.mp h
    refine xr_opM (pc' := 116) (lo' := [some (.ref v0), some (.int v1)]) (st' := [.ref (xS μ), .int v1, .ref x1]) (o := some (xnew μ (16, 10) (0, 0) 0 10)) rfl hμ2 ?_
    refine xr_go 1 (pc' := 117) (lo' := [some (.ref v0), some (.int v1)]) (st' := [.ref (xS μ), .ref (xS μ), .int v1, .ref x1]) (μ' := μ2) rfl ?_
    obtain ⟨r3, hr3, h⟩ := Option.bind_eq_some_iff.mp h
    refine xr_callI (j := 96) (d' := (d + 1)) (rv1 := none) (μ1 := r3) (rest := [.ref (xS μ), .int v1, .ref x1]) (As := []) rfl rfl rfl rfl (Nat.le_of_ble_eq_true rfl) rfl (by exact (fS_init_ok (d := d + (0)) hr3)) ?_
    obtain ⟨μ4, hμ4, h⟩ := Option.bind_eq_some_iff.mp h
    refine xr_opM (pc' := 121) (lo' := [some (.ref v0), some (.int v1)]) (st' := []) (o := stAR r3 x1 v1 (xS μ)) rfl hμ4 ?_
    refine xr_go 2 (pc' := 102) (lo' := [some (.ref v0), some (.int (v1 + xc 1))]) (st' := []) (μ' := μ4) rfl ?_
    refine xr_forget (lo := [some (.ref v0), some (.int (v1 + xc 1))]) ⟨rfl, rfl, trivial⟩ ?_
    have ho := Option.some.inj h
    subst ho
    exact hK
theorem fX_init_L102_lp {d : Nat} {v0 : Nat} {v1 : Int32} {μ : xM} {rv : Option Value} {μf : xM} {out : xM} (h : xwh (fun s : Int32 × xM => fX_init_L102 v0 s.1 s.2) (v1, μ) = some out) (hK : fX_init_K rv μf out) : xRun (d + 2) 0 102 [some (.ref v0), some (.int v1)] [] μ rv μf :=
  xwh_ind (Rh := fun s : Int32 × xM => xRun (d + 2) 0 102 [some (.ref v0), some (.int s.1)] [] s.2 rv μf) (Co := fX_init_K rv μf) (fun s o hb hk => fX_init_L102_ok hb hk) h hK
noncomputable def fX_init_0  (v0 : Nat) (μ : xM) : Option (xM) := (some (xnew μ (13, 16) (0, 0) 0 16)).bind fun μ5 => (fH_init (xS μ) μ5).bind fun r6 => (stFR r6 v0 0 0 (xS μ)).bind fun μ7 => (some (xnew μ7 (13, 16) (0, 0) 0 16)).bind fun μ8 => (fH_init (xS μ7) μ8).bind fun r9 => (stFR r9 v0 0 1 (xS μ7)).bind fun μ10 => (some (xnew μ10 (17, 2) (0, 0) 0 2)).bind fun μ11 => (fT_init (xS μ10) μ11).bind fun r12 => (stFR r12 v0 0 3 (xS μ10)).bind fun μ13 => (some (xnew μ13 (11, 2) (0, 0) 0 2)).bind fun μ14 => (fB_init (xS μ13) μ14).bind fun r15 => (stFR r15 v0 0 4 (xS μ13)).bind fun μ16 => (some (xnew μ16 (12, 2) (0, 0) 0 2)).bind fun μ17 => (fC_init (xS μ16) μ17).bind fun r18 => (stFR r18 v0 0 5 (xS μ16)).bind fun μ19 => (xnewA μ19 5 (xc 10)).bind fun μ20 => (stFR μ20 v0 0 6 (xS μ19)).bind fun μ21 => (some (xnew μ21 (15, 8) (0, 0) 0 8)).bind fun μ22 => (fP_init (xS μ21) (xc 12) μ22).bind fun r23 => (stFR r23 v0 0 7 (xS μ21)).bind fun μ24 => (some (xnew μ24 (18, 4) (0, 0) 0 4)).bind fun μ25 => (fW_init (xS μ24) μ25).bind fun r26 => (stFR r26 v0 0 8 (xS μ24)).bind fun μ27 => (xnewA μ27 1 (xc 7)).bind fun μ28 => (stFR μ28 v0 0 9 (xS μ27)).bind fun μ29 => xwh (fun s : Int32 × xM => fX_init_L102 v0 s.1 s.2) (xc 0, μ29)
theorem fX_init_0_ok {d : Nat} {v0 : Nat} {μ : xM} {rv : Option Value} {μf : xM} {out : xM} (h : fX_init_0 v0 μ = some out) (hK : fX_init_K rv μf out) : xRun (d + 2) 0 0 [some (.ref v0), none] [] μ rv μf := by
  unfold fX_init_0 at h
  refine xr_go 3 (pc' := 5) (lo' := [some (.ref v0), none]) (st' := [.ref v0]) (μ' := μ) rfl ?_
  obtain ⟨μ5, hμ5, h⟩ := Option.bind_eq_some_iff.mp h
  refine xr_opM (pc' := 8) (lo' := [some (.ref v0), none]) (st' := [.ref (xS μ), .ref v0]) (o := some (xnew μ (13, 16) (0, 0) 0 16)) rfl hμ5 ?_
  refine xr_go 1 (pc' := 9) (lo' := [some (.ref v0), none]) (st' := [.ref (xS μ), .ref (xS μ), .ref v0]) (μ' := μ5) rfl ?_
  obtain ⟨r6, hr6, h⟩ := Option.bind_eq_some_iff.mp h
  refine xr_callI (j := 61) (d' := (d + 1)) (rv1 := none) (μ1 := r6) (rest := [.ref (xS μ), .ref v0]) (As := []) rfl rfl rfl rfl (Nat.le_of_ble_eq_true rfl) rfl (by exact (fH_init_ok (d := d + (0)) hr6)) ?_
  obtain ⟨μ7, hμ7, h⟩ := Option.bind_eq_some_iff.mp h
  refine xr_opM (pc' := 15) (lo' := [some (.ref v0), none]) (st' := []) (o := stFR r6 v0 0 0 (xS μ)) rfl hμ7 ?_
  refine xr_go 1 (pc' := 16) (lo' := [some (.ref v0), none]) (st' := [.ref v0]) (μ' := μ7) rfl ?_
  obtain ⟨μ8, hμ8, h⟩ := Option.bind_eq_some_iff.mp h
  refine xr_opM (pc' := 19) (lo' := [some (.ref v0), none]) (st' := [.ref (xS μ7), .ref v0]) (o := some (xnew μ7 (13, 16) (0, 0) 0 16)) rfl hμ8 ?_
  refine xr_go 1 (pc' := 20) (lo' := [some (.ref v0), none]) (st' := [.ref (xS μ7), .ref (xS μ7), .ref v0]) (μ' := μ8) rfl ?_
  obtain ⟨r9, hr9, h⟩ := Option.bind_eq_some_iff.mp h
  refine xr_callI (j := 61) (d' := (d + 1)) (rv1 := none) (μ1 := r9) (rest := [.ref (xS μ7), .ref v0]) (As := []) rfl rfl rfl rfl (Nat.le_of_ble_eq_true rfl) rfl (by exact (fH_init_ok (d := d + (0)) hr9)) ?_
  obtain ⟨μ10, hμ10, h⟩ := Option.bind_eq_some_iff.mp h
  refine xr_opM (pc' := 26) (lo' := [some (.ref v0), none]) (st' := []) (o := stFR r9 v0 0 1 (xS μ7)) rfl hμ10 ?_
  refine xr_go 1 (pc' := 27) (lo' := [some (.ref v0), none]) (st' := [.ref v0]) (μ' := μ10) rfl ?_
  obtain ⟨μ11, hμ11, h⟩ := Option.bind_eq_some_iff.mp h
  refine xr_opM (pc' := 30) (lo' := [some (.ref v0), none]) (st' := [.ref (xS μ10), .ref v0]) (o := some (xnew μ10 (17, 2) (0, 0) 0 2)) rfl hμ11 ?_
  refine xr_go 1 (pc' := 31) (lo' := [some (.ref v0), none]) (st' := [.ref (xS μ10), .ref (xS μ10), .ref v0]) (μ' := μ11) rfl ?_
  obtain ⟨r12, hr12, h⟩ := Option.bind_eq_some_iff.mp h
  refine xr_callI (j := 115) (d' := (d + 1)) (rv1 := none) (μ1 := r12) (rest := [.ref (xS μ10), .ref v0]) (As := []) rfl rfl rfl rfl (Nat.le_of_ble_eq_true rfl) rfl (by exact (fT_init_ok (d := d + (1)) hr12)) ?_
  obtain ⟨μ13, hμ13, h⟩ := Option.bind_eq_some_iff.mp h
  refine xr_opM (pc' := 37) (lo' := [some (.ref v0), none]) (st' := []) (o := stFR r12 v0 0 3 (xS μ10)) rfl hμ13 ?_
  refine xr_go 1 (pc' := 38) (lo' := [some (.ref v0), none]) (st' := [.ref v0]) (μ' := μ13) rfl ?_
  obtain ⟨μ14, hμ14, h⟩ := Option.bind_eq_some_iff.mp h
  refine xr_opM (pc' := 41) (lo' := [some (.ref v0), none]) (st' := [.ref (xS μ13), .ref v0]) (o := some (xnew μ13 (11, 2) (0, 0) 0 2)) rfl hμ14 ?_
  refine xr_go 1 (pc' := 42) (lo' := [some (.ref v0), none]) (st' := [.ref (xS μ13), .ref (xS μ13), .ref v0]) (μ' := μ14) rfl ?_
  obtain ⟨r15, hr15, h⟩ := Option.bind_eq_some_iff.mp h
  refine xr_callI (j := 53) (d' := (d + 1)) (rv1 := none) (μ1 := r15) (rest := [.ref (xS μ13), .ref v0]) (As := []) rfl rfl rfl rfl (Nat.le_of_ble_eq_true rfl) rfl (by exact (fB_init_ok (d := d + (1)) hr15)) ?_
  obtain ⟨μ16, hμ16, h⟩ := Option.bind_eq_some_iff.mp h
  refine xr_opM (pc' := 48) (lo' := [some (.ref v0), none]) (st' := []) (o := stFR r15 v0 0 4 (xS μ13)) rfl hμ16 ?_
  refine xr_go 1 (pc' := 49) (lo' := [some (.ref v0), none]) (st' := [.ref v0]) (μ' := μ16) rfl ?_
  obtain ⟨μ17, hμ17, h⟩ := Option.bind_eq_some_iff.mp h
  refine xr_opM (pc' := 52) (lo' := [some (.ref v0), none]) (st' := [.ref (xS μ16), .ref v0]) (o := some (xnew μ16 (12, 2) (0, 0) 0 2)) rfl hμ17 ?_
  refine xr_go 1 (pc' := 53) (lo' := [some (.ref v0), none]) (st' := [.ref (xS μ16), .ref (xS μ16), .ref v0]) (μ' := μ17) rfl ?_
  obtain ⟨r18, hr18, h⟩ := Option.bind_eq_some_iff.mp h
  refine xr_callI (j := 57) (d' := (d + 1)) (rv1 := none) (μ1 := r18) (rest := [.ref (xS μ16), .ref v0]) (As := []) rfl rfl rfl rfl (Nat.le_of_ble_eq_true rfl) rfl (by exact (fC_init_ok (d := d + (1)) hr18)) ?_
  obtain ⟨μ19, hμ19, h⟩ := Option.bind_eq_some_iff.mp h
  refine xr_opM (pc' := 59) (lo' := [some (.ref v0), none]) (st' := []) (o := stFR r18 v0 0 5 (xS μ16)) rfl hμ19 ?_
  refine xr_go 2 (pc' := 62) (lo' := [some (.ref v0), none]) (st' := [.int (xc 10), .ref v0]) (μ' := μ19) rfl ?_
  obtain ⟨μ20, hμ20, h⟩ := Option.bind_eq_some_iff.mp h
  refine xr_opM (pc' := 65) (lo' := [some (.ref v0), none]) (st' := [.ref (xS μ19), .ref v0]) (o := xnewA μ19 5 (xc 10)) (xs_newA5 _ _ _ _ _ _ rfl) hμ20 ?_
  obtain ⟨μ21, hμ21, h⟩ := Option.bind_eq_some_iff.mp h
  refine xr_opM (pc' := 68) (lo' := [some (.ref v0), none]) (st' := []) (o := stFR μ20 v0 0 6 (xS μ19)) rfl hμ21 ?_
  refine xr_go 1 (pc' := 69) (lo' := [some (.ref v0), none]) (st' := [.ref v0]) (μ' := μ21) rfl ?_
  obtain ⟨μ22, hμ22, h⟩ := Option.bind_eq_some_iff.mp h
  refine xr_opM (pc' := 72) (lo' := [some (.ref v0), none]) (st' := [.ref (xS μ21), .ref v0]) (o := some (xnew μ21 (15, 8) (0, 0) 0 8)) rfl hμ22 ?_
  refine xr_go 2 (pc' := 75) (lo' := [some (.ref v0), none]) (st' := [.int (xc 12), .ref (xS μ21), .ref (xS μ21), .ref v0]) (μ' := μ22) rfl ?_
  obtain ⟨r23, hr23, h⟩ := Option.bind_eq_some_iff.mp h
  refine xr_callI (j := 76) (d' := (d + 1)) (rv1 := none) (μ1 := r23) (rest := [.ref (xS μ21), .ref v0]) (As := [.int (xc 12)]) rfl rfl rfl rfl (Nat.le_of_ble_eq_true rfl) rfl (by exact (fP_init_ok (d := d + (1)) hr23)) ?_
  obtain ⟨μ24, hμ24, h⟩ := Option.bind_eq_some_iff.mp h
  refine xr_opM (pc' := 81) (lo' := [some (.ref v0), none]) (st' := []) (o := stFR r23 v0 0 7 (xS μ21)) rfl hμ24 ?_
  refine xr_go 1 (pc' := 82) (lo' := [some (.ref v0), none]) (st' := [.ref v0]) (μ' := μ24) rfl ?_
  obtain ⟨μ25, hμ25, h⟩ := Option.bind_eq_some_iff.mp h
  refine xr_opM (pc' := 85) (lo' := [some (.ref v0), none]) (st' := [.ref (xS μ24), .ref v0]) (o := some (xnew μ24 (18, 4) (0, 0) 0 4)) rfl hμ25 ?_
  refine xr_go 1 (pc' := 86) (lo' := [some (.ref v0), none]) (st' := [.ref (xS μ24), .ref (xS μ24), .ref v0]) (μ' := μ25) rfl ?_
  obtain ⟨r26, hr26, h⟩ := Option.bind_eq_some_iff.mp h
  refine xr_callI (j := 122) (d' := (d + 1)) (rv1 := none) (μ1 := r26) (rest := [.ref (xS μ24), .ref v0]) (As := []) rfl rfl rfl rfl (Nat.le_of_ble_eq_true rfl) rfl (by exact (fW_init_ok (d := d + (1)) hr26)) ?_
  obtain ⟨μ27, hμ27, h⟩ := Option.bind_eq_some_iff.mp h
  refine xr_opM (pc' := 92) (lo' := [some (.ref v0), none]) (st' := []) (o := stFR r26 v0 0 8 (xS μ24)) rfl hμ27 ?_
  refine xr_go 2 (pc' := 95) (lo' := [some (.ref v0), none]) (st' := [.int (xc 7), .ref v0]) (μ' := μ27) rfl ?_
  obtain ⟨μ28, hμ28, h⟩ := Option.bind_eq_some_iff.mp h
  refine xr_opM (pc' := 97) (lo' := [some (.ref v0), none]) (st' := [.ref (xS μ27), .ref v0]) (o := xnewA μ27 1 (xc 7)) (xs_newA1 _ _ _ _ _ _ rfl) hμ28 ?_
  obtain ⟨μ29, hμ29, h⟩ := Option.bind_eq_some_iff.mp h
  refine xr_opM (pc' := 100) (lo' := [some (.ref v0), none]) (st' := []) (o := stFR μ28 v0 0 9 (xS μ27)) rfl hμ29 ?_
  refine xr_go 2 (pc' := 102) (lo' := [some (.ref v0), some (.int (xc 0))]) (st' := []) (μ' := μ29) rfl ?_
  refine xr_forget (lo := [some (.ref v0), some (.int (xc 0))]) ⟨rfl, rfl, trivial⟩ ?_
  exact fX_init_L102_lp h hK
noncomputable def fX_init (a0 : Nat) (μ : xM) : Option (xM) := xgd μ a0 0 (fX_init_0 a0 μ)
theorem fX_init_kd {a0 : Nat} {μ : xM} {o : xM} (h : fX_init a0 μ = some o) : (xK μ a0).1 = 10 + 0 := (xgd_some h).1
theorem fX_init_ok {d : Nat} {a0 : Nat} {μ : xM} {o : xM} (h : fX_init a0 μ = some o) : xRun (d + 2) 0 0 [some (.ref a0), none] [] μ none o :=
  xr_forget (lo := [some (.ref a0), none]) (⟨rfl, trivial⟩) (fX_init_0_ok (d := d) (xgd_some h).2 (show fX_init_K _ _ o from ⟨rfl, rfl⟩))
-- KeptAnswersModel.<init>()V 
def fM_init_K (rv : Option Value) (μf : xM) : (xM) → Prop := fun o => rv = none ∧ μf = o
def fM_init_K328 (v0 : Nat) (d : Nat) (rv : Option Value) (μf : xM) : ((Int32 × xM) ⊕ (xM)) → Prop := Sum.elim (fun s : Int32 × xM => xRun (d + 0) 136 328 [some (.ref v0), some (.int s.1)] [] s.2 rv μf) (fM_init_K rv μf)
noncomputable def fM_init_L328  (v0 : Nat) (v1 : Int32) (μ : xM) : Option ((Int32 × xM) ⊕ (xM)) := if (xc 6) ≤ v1 then (some (.inr μ)) else ((ldFR μ v0 9 16).bind fun x1 => (stA μ x1 v1 (xc (-1))).bind fun μ2 => some (.inl ((v1 + xc 1, μ2))))
theorem fM_init_L328_ok {d : Nat} {v0 : Nat} {v1 : Int32} {μ : xM} {rv : Option Value} {μf : xM} {out : (Int32 × xM) ⊕ (xM)} (h : fM_init_L328 v0 v1 μ = some out) (hK : fM_init_K328 v0 d rv μf out) : xRun (d + 0) 136 328 [some (.ref v0), some (.int v1)] [] μ rv μf := by
  unfold fM_init_L328 at h
  refine xr_go 2 (pc' := 331) (lo' := [some (.ref v0), some (.int v1)]) (st' := [.int (xc 6), .int v1]) (μ' := μ) rfl ?_
  refine xr_icmp (pct := 347) rfl rfl rfl (fun hc => ?_) (fun hc => ?_)
  · replace h := (if_pos (of_decide_eq_true hc)).symm.trans h
    have ho := Option.some.inj h
    subst ho
    obtain ⟨rfl, rfl⟩ := hK
    exact xr_ret (rv := none) rfl rfl (rfl)
  · replace h := (if_neg (of_decide_eq_false hc)).symm.trans h
    refine xr_go 1 (pc' := 335) (lo' := [some (.ref v0), some (.int v1)]) (st' := [.ref v0]) (μ' := μ) rfl ?_
    obtain ⟨x1, hx1, h⟩ := Option.bind_eq_some_iff.mp h
    refine xr_opA (pc' := 338) (lo' := [some (.ref v0), some (.int v1)]) (st' := []) (o := ldFR μ v0 9 16) rfl hx1 ?_
    refine xr_go 2 (pc' := 340) (lo' := [some (.ref v0), some (.int v1)]) (st' := [.int (xc (-1)), .int v1, .ref x1]) (μ' := μ) rfl ?_
    obtain ⟨μ2, hμ2, h⟩ := Option.bind_eq_some_iff.mp h
    refine xr_opM (pc' := 341) (lo' := [some (.ref v0), some (.int v1)]) (st' := []) (o := stA μ x1 v1 (xc (-1))) rfl hμ2 ?_
    refine xr_go 2 (pc' := 328) (lo' := [some (.ref v0), some (.int (v1 + xc 1))]) (st' := []) (μ' := μ2) rfl ?_
    refine xr_forget (lo := [some (.ref v0), some (.int (v1 + xc 1))]) ⟨rfl, rfl, trivial⟩ ?_
    have ho := Option.some.inj h
    subst ho
    exact hK
theorem fM_init_L328_lp {d : Nat} {v0 : Nat} {v1 : Int32} {μ : xM} {rv : Option Value} {μf : xM} {out : xM} (h : xwh (fun s : Int32 × xM => fM_init_L328 v0 s.1 s.2) (v1, μ) = some out) (hK : fM_init_K rv μf out) : xRun (d + 0) 136 328 [some (.ref v0), some (.int v1)] [] μ rv μf :=
  xwh_ind (Rh := fun s : Int32 × xM => xRun (d + 0) 136 328 [some (.ref v0), some (.int s.1)] [] s.2 rv μf) (Co := fM_init_K rv μf) (fun s o hb hk => fM_init_L328_ok hb hk) h hK
noncomputable def fM_init_0  (v0 : Nat) (μ : xM) : Option (xM) := (xnewA μ 1 (xc 3)).bind fun μ3 => (stFR μ3 v0 9 0 (xS μ)).bind fun μ4 => (xnewA μ4 2 (xc 3)).bind fun μ5 => (stFR μ5 v0 9 1 (xS μ4)).bind fun μ6 => (xnewA μ6 1 (xc 40)).bind fun μ7 => (stFR μ7 v0 9 2 (xS μ6)).bind fun μ8 => (xnewA μ8 1 (xc 60)).bind fun μ9 => (stFR μ9 v0 9 4 (xS μ8)).bind fun μ10 => (xnewA μ10 1 (xc 24)).bind fun μ11 => (stFR μ11 v0 9 6 (xS μ10)).bind fun μ12 => (xnewA μ12 1 (xc 16)).bind fun μ13 => (stFR μ13 v0 9 10 (xS μ12)).bind fun μ14 => (xnewA μ14 1 (xc 64)).bind fun μ15 => (stFR μ15 v0 9 11 (xS μ14)).bind fun μ16 => (xnewA μ16 1 (xc 64)).bind fun μ17 => (stFR μ17 v0 9 12 (xS μ16)).bind fun μ18 => (xnewA μ18 1 (xc 64)).bind fun μ19 => (stFR μ19 v0 9 13 (xS μ18)).bind fun μ20 => (xnewA μ20 1 (xc 16)).bind fun μ21 => (stFR μ21 v0 9 14 (xS μ20)).bind fun μ22 => (xnewA μ22 1 (xc 48)).bind fun μ23 => (stFR μ23 v0 9 15 (xS μ22)).bind fun μ24 => (xnewA μ24 1 (xc 6)).bind fun μ25 => (stFR μ25 v0 9 16 (xS μ24)).bind fun μ26 => (xnewA μ26 1 (xc 10)).bind fun μ27 => (stFR μ27 v0 9 17 (xS μ26)).bind fun μ28 => (xnewA μ28 1 (xc 6)).bind fun μ29 => (stFR μ29 v0 9 18 (xS μ28)).bind fun μ30 => (xnewA μ30 1 (xc 6)).bind fun μ31 => (stFR μ31 v0 9 19 (xS μ30)).bind fun μ32 => (xnewA μ32 1 (xc 6)).bind fun μ33 => (stFR μ33 v0 9 20 (xS μ32)).bind fun μ34 => (xnewA μ34 1 (xc 6)).bind fun μ35 => (stFR μ35 v0 9 21 (xS μ34)).bind fun μ36 => (xnewA μ36 2 (xc 6)).bind fun μ37 => (stFR μ37 v0 9 22 (xS μ36)).bind fun μ38 => (stF μ38 v0 9 23 (xc 99)).bind fun μ39 => (stF μ39 v0 9 24 (xc 10)).bind fun μ40 => (xnewA μ40 1 (xc 7)).bind fun μ41 => (stFR μ41 v0 9 25 (xS μ40)).bind fun μ42 => (xnewA μ42 1 (xc 12)).bind fun μ43 => (stFR μ43 v0 9 30 (xS μ42)).bind fun μ44 => (xnewA μ44 1 (xc 12)).bind fun μ45 => (stFR μ45 v0 9 31 (xS μ44)).bind fun μ46 => (xnewA μ46 1 (xc 12)).bind fun μ47 => (stFR μ47 v0 9 32 (xS μ46)).bind fun μ48 => (xnewA μ48 1 (xc 3)).bind fun μ49 => (stFR μ49 v0 9 34 (xS μ48)).bind fun μ50 => (xnewA μ50 1 (xc 4)).bind fun μ51 => (stFR μ51 v0 9 37 (xS μ50)).bind fun μ52 => (xnewA μ52 1 (xc 7)).bind fun μ53 => (stFR μ53 v0 9 38 (xS μ52)).bind fun μ54 => (xnewA μ54 1 (xc 12)).bind fun μ55 => (stFR μ55 v0 9 41 (xS μ54)).bind fun μ56 => (xnewA μ56 1 (xc 12)).bind fun μ57 => (stFR μ57 v0 9 42 (xS μ56)).bind fun μ58 => (xnewA μ58 1 (xc 4)).bind fun μ59 => (stFR μ59 v0 9 44 (xS μ58)).bind fun μ60 => (xnewA μ60 1 (xc 4)).bind fun μ61 => (stFR μ61 v0 9 45 (xS μ60)).bind fun μ62 => (xnewA μ62 1 (xc 4)).bind fun μ63 => (stFR μ63 v0 9 46 (xS μ62)).bind fun μ64 => (xnewA μ64 1 (xc 3)).bind fun μ65 => (stFR μ65 v0 9 48 (xS μ64)).bind fun μ66 => (xnewA μ66 2 (xc 343)).bind fun μ67 => (stFR μ67 v0 9 50 (xS μ66)).bind fun μ68 => (xnewA μ68 1 (xc 7)).bind fun μ69 => (stFR μ69 v0 9 51 (xS μ68)).bind fun μ70 => (xnewA μ70 1 (xc 300)).bind fun μ71 => (stFR μ71 v0 9 53 (xS μ70)).bind fun μ72 => (xnewA μ72 2 (xc 4096)).bind fun μ73 => (stFR μ73 v0 9 57 (xS μ72)).bind fun μ74 => (xnewA μ74 1 (xc 4096)).bind fun μ75 => (stFR μ75 v0 9 58 (xS μ74)).bind fun μ76 => (xnewA μ76 2 (xc 24576)).bind fun μ77 => (stFR μ77 v0 9 59 (xS μ76)).bind fun μ78 => (xnewA μ78 2 (xc 640)).bind fun μ79 => (stFR μ79 v0 9 60 (xS μ78)).bind fun μ80 => (xnewA μ80 1 (xc 100)).bind fun μ81 => (stFR μ81 v0 9 62 (xS μ80)).bind fun μ82 => xwh (fun s : Int32 × xM => fM_init_L328 v0 s.1 s.2) (xc 0, μ82)
theorem fM_init_0_ok {d : Nat} {v0 : Nat} {μ : xM} {rv : Option Value} {μf : xM} {out : xM} (h : fM_init_0 v0 μ = some out) (hK : fM_init_K rv μf out) : xRun (d + 0) 136 0 [some (.ref v0), none] [] μ rv μf := by
  unfold fM_init_0 at h
  refine xr_go 4 (pc' := 6) (lo' := [some (.ref v0), none]) (st' := [.int (xc 3), .ref v0]) (μ' := μ) rfl ?_
  obtain ⟨μ3, hμ3, h⟩ := Option.bind_eq_some_iff.mp h
  refine xr_opM (pc' := 8) (lo' := [some (.ref v0), none]) (st' := [.ref (xS μ), .ref v0]) (o := xnewA μ 1 (xc 3)) (xs_newA1 _ _ _ _ _ _ rfl) hμ3 ?_
  obtain ⟨μ4, hμ4, h⟩ := Option.bind_eq_some_iff.mp h
  refine xr_opM (pc' := 11) (lo' := [some (.ref v0), none]) (st' := []) (o := stFR μ3 v0 9 0 (xS μ)) rfl hμ4 ?_
  refine xr_go 2 (pc' := 13) (lo' := [some (.ref v0), none]) (st' := [.int (xc 3), .ref v0]) (μ' := μ4) rfl ?_
  obtain ⟨μ5, hμ5, h⟩ := Option.bind_eq_some_iff.mp h
  refine xr_opM (pc' := 15) (lo' := [some (.ref v0), none]) (st' := [.ref (xS μ4), .ref v0]) (o := xnewA μ4 2 (xc 3)) (xs_newA2 _ _ _ _ _ _ rfl) hμ5 ?_
  obtain ⟨μ6, hμ6, h⟩ := Option.bind_eq_some_iff.mp h
  refine xr_opM (pc' := 18) (lo' := [some (.ref v0), none]) (st' := []) (o := stFR μ5 v0 9 1 (xS μ4)) rfl hμ6 ?_
  refine xr_go 2 (pc' := 21) (lo' := [some (.ref v0), none]) (st' := [.int (xc 40), .ref v0]) (μ' := μ6) rfl ?_
  obtain ⟨μ7, hμ7, h⟩ := Option.bind_eq_some_iff.mp h
  refine xr_opM (pc' := 23) (lo' := [some (.ref v0), none]) (st' := [.ref (xS μ6), .ref v0]) (o := xnewA μ6 1 (xc 40)) (xs_newA1 _ _ _ _ _ _ rfl) hμ7 ?_
  obtain ⟨μ8, hμ8, h⟩ := Option.bind_eq_some_iff.mp h
  refine xr_opM (pc' := 26) (lo' := [some (.ref v0), none]) (st' := []) (o := stFR μ7 v0 9 2 (xS μ6)) rfl hμ8 ?_
  refine xr_go 2 (pc' := 29) (lo' := [some (.ref v0), none]) (st' := [.int (xc 60), .ref v0]) (μ' := μ8) rfl ?_
  obtain ⟨μ9, hμ9, h⟩ := Option.bind_eq_some_iff.mp h
  refine xr_opM (pc' := 31) (lo' := [some (.ref v0), none]) (st' := [.ref (xS μ8), .ref v0]) (o := xnewA μ8 1 (xc 60)) (xs_newA1 _ _ _ _ _ _ rfl) hμ9 ?_
  obtain ⟨μ10, hμ10, h⟩ := Option.bind_eq_some_iff.mp h
  refine xr_opM (pc' := 34) (lo' := [some (.ref v0), none]) (st' := []) (o := stFR μ9 v0 9 4 (xS μ8)) rfl hμ10 ?_
  refine xr_go 2 (pc' := 37) (lo' := [some (.ref v0), none]) (st' := [.int (xc 24), .ref v0]) (μ' := μ10) rfl ?_
  obtain ⟨μ11, hμ11, h⟩ := Option.bind_eq_some_iff.mp h
  refine xr_opM (pc' := 39) (lo' := [some (.ref v0), none]) (st' := [.ref (xS μ10), .ref v0]) (o := xnewA μ10 1 (xc 24)) (xs_newA1 _ _ _ _ _ _ rfl) hμ11 ?_
  obtain ⟨μ12, hμ12, h⟩ := Option.bind_eq_some_iff.mp h
  refine xr_opM (pc' := 42) (lo' := [some (.ref v0), none]) (st' := []) (o := stFR μ11 v0 9 6 (xS μ10)) rfl hμ12 ?_
  refine xr_go 2 (pc' := 45) (lo' := [some (.ref v0), none]) (st' := [.int (xc 16), .ref v0]) (μ' := μ12) rfl ?_
  obtain ⟨μ13, hμ13, h⟩ := Option.bind_eq_some_iff.mp h
  refine xr_opM (pc' := 47) (lo' := [some (.ref v0), none]) (st' := [.ref (xS μ12), .ref v0]) (o := xnewA μ12 1 (xc 16)) (xs_newA1 _ _ _ _ _ _ rfl) hμ13 ?_
  obtain ⟨μ14, hμ14, h⟩ := Option.bind_eq_some_iff.mp h
  refine xr_opM (pc' := 50) (lo' := [some (.ref v0), none]) (st' := []) (o := stFR μ13 v0 9 10 (xS μ12)) rfl hμ14 ?_
  refine xr_go 2 (pc' := 53) (lo' := [some (.ref v0), none]) (st' := [.int (xc 64), .ref v0]) (μ' := μ14) rfl ?_
  obtain ⟨μ15, hμ15, h⟩ := Option.bind_eq_some_iff.mp h
  refine xr_opM (pc' := 55) (lo' := [some (.ref v0), none]) (st' := [.ref (xS μ14), .ref v0]) (o := xnewA μ14 1 (xc 64)) (xs_newA1 _ _ _ _ _ _ rfl) hμ15 ?_
  obtain ⟨μ16, hμ16, h⟩ := Option.bind_eq_some_iff.mp h
  refine xr_opM (pc' := 58) (lo' := [some (.ref v0), none]) (st' := []) (o := stFR μ15 v0 9 11 (xS μ14)) rfl hμ16 ?_
  refine xr_go 2 (pc' := 61) (lo' := [some (.ref v0), none]) (st' := [.int (xc 64), .ref v0]) (μ' := μ16) rfl ?_
  obtain ⟨μ17, hμ17, h⟩ := Option.bind_eq_some_iff.mp h
  refine xr_opM (pc' := 63) (lo' := [some (.ref v0), none]) (st' := [.ref (xS μ16), .ref v0]) (o := xnewA μ16 1 (xc 64)) (xs_newA1 _ _ _ _ _ _ rfl) hμ17 ?_
  obtain ⟨μ18, hμ18, h⟩ := Option.bind_eq_some_iff.mp h
  refine xr_opM (pc' := 66) (lo' := [some (.ref v0), none]) (st' := []) (o := stFR μ17 v0 9 12 (xS μ16)) rfl hμ18 ?_
  refine xr_go 2 (pc' := 69) (lo' := [some (.ref v0), none]) (st' := [.int (xc 64), .ref v0]) (μ' := μ18) rfl ?_
  obtain ⟨μ19, hμ19, h⟩ := Option.bind_eq_some_iff.mp h
  refine xr_opM (pc' := 71) (lo' := [some (.ref v0), none]) (st' := [.ref (xS μ18), .ref v0]) (o := xnewA μ18 1 (xc 64)) (xs_newA1 _ _ _ _ _ _ rfl) hμ19 ?_
  obtain ⟨μ20, hμ20, h⟩ := Option.bind_eq_some_iff.mp h
  refine xr_opM (pc' := 74) (lo' := [some (.ref v0), none]) (st' := []) (o := stFR μ19 v0 9 13 (xS μ18)) rfl hμ20 ?_
  refine xr_go 2 (pc' := 77) (lo' := [some (.ref v0), none]) (st' := [.int (xc 16), .ref v0]) (μ' := μ20) rfl ?_
  obtain ⟨μ21, hμ21, h⟩ := Option.bind_eq_some_iff.mp h
  refine xr_opM (pc' := 79) (lo' := [some (.ref v0), none]) (st' := [.ref (xS μ20), .ref v0]) (o := xnewA μ20 1 (xc 16)) (xs_newA1 _ _ _ _ _ _ rfl) hμ21 ?_
  obtain ⟨μ22, hμ22, h⟩ := Option.bind_eq_some_iff.mp h
  refine xr_opM (pc' := 82) (lo' := [some (.ref v0), none]) (st' := []) (o := stFR μ21 v0 9 14 (xS μ20)) rfl hμ22 ?_
  refine xr_go 2 (pc' := 85) (lo' := [some (.ref v0), none]) (st' := [.int (xc 48), .ref v0]) (μ' := μ22) rfl ?_
  obtain ⟨μ23, hμ23, h⟩ := Option.bind_eq_some_iff.mp h
  refine xr_opM (pc' := 87) (lo' := [some (.ref v0), none]) (st' := [.ref (xS μ22), .ref v0]) (o := xnewA μ22 1 (xc 48)) (xs_newA1 _ _ _ _ _ _ rfl) hμ23 ?_
  obtain ⟨μ24, hμ24, h⟩ := Option.bind_eq_some_iff.mp h
  refine xr_opM (pc' := 90) (lo' := [some (.ref v0), none]) (st' := []) (o := stFR μ23 v0 9 15 (xS μ22)) rfl hμ24 ?_
  refine xr_go 2 (pc' := 93) (lo' := [some (.ref v0), none]) (st' := [.int (xc 6), .ref v0]) (μ' := μ24) rfl ?_
  obtain ⟨μ25, hμ25, h⟩ := Option.bind_eq_some_iff.mp h
  refine xr_opM (pc' := 95) (lo' := [some (.ref v0), none]) (st' := [.ref (xS μ24), .ref v0]) (o := xnewA μ24 1 (xc 6)) (xs_newA1 _ _ _ _ _ _ rfl) hμ25 ?_
  obtain ⟨μ26, hμ26, h⟩ := Option.bind_eq_some_iff.mp h
  refine xr_opM (pc' := 98) (lo' := [some (.ref v0), none]) (st' := []) (o := stFR μ25 v0 9 16 (xS μ24)) rfl hμ26 ?_
  refine xr_go 2 (pc' := 101) (lo' := [some (.ref v0), none]) (st' := [.int (xc 10), .ref v0]) (μ' := μ26) rfl ?_
  obtain ⟨μ27, hμ27, h⟩ := Option.bind_eq_some_iff.mp h
  refine xr_opM (pc' := 103) (lo' := [some (.ref v0), none]) (st' := [.ref (xS μ26), .ref v0]) (o := xnewA μ26 1 (xc 10)) (xs_newA1 _ _ _ _ _ _ rfl) hμ27 ?_
  obtain ⟨μ28, hμ28, h⟩ := Option.bind_eq_some_iff.mp h
  refine xr_opM (pc' := 106) (lo' := [some (.ref v0), none]) (st' := []) (o := stFR μ27 v0 9 17 (xS μ26)) rfl hμ28 ?_
  refine xr_go 2 (pc' := 109) (lo' := [some (.ref v0), none]) (st' := [.int (xc 6), .ref v0]) (μ' := μ28) rfl ?_
  obtain ⟨μ29, hμ29, h⟩ := Option.bind_eq_some_iff.mp h
  refine xr_opM (pc' := 111) (lo' := [some (.ref v0), none]) (st' := [.ref (xS μ28), .ref v0]) (o := xnewA μ28 1 (xc 6)) (xs_newA1 _ _ _ _ _ _ rfl) hμ29 ?_
  obtain ⟨μ30, hμ30, h⟩ := Option.bind_eq_some_iff.mp h
  refine xr_opM (pc' := 114) (lo' := [some (.ref v0), none]) (st' := []) (o := stFR μ29 v0 9 18 (xS μ28)) rfl hμ30 ?_
  refine xr_go 2 (pc' := 117) (lo' := [some (.ref v0), none]) (st' := [.int (xc 6), .ref v0]) (μ' := μ30) rfl ?_
  obtain ⟨μ31, hμ31, h⟩ := Option.bind_eq_some_iff.mp h
  refine xr_opM (pc' := 119) (lo' := [some (.ref v0), none]) (st' := [.ref (xS μ30), .ref v0]) (o := xnewA μ30 1 (xc 6)) (xs_newA1 _ _ _ _ _ _ rfl) hμ31 ?_
  obtain ⟨μ32, hμ32, h⟩ := Option.bind_eq_some_iff.mp h
  refine xr_opM (pc' := 122) (lo' := [some (.ref v0), none]) (st' := []) (o := stFR μ31 v0 9 19 (xS μ30)) rfl hμ32 ?_
  refine xr_go 2 (pc' := 125) (lo' := [some (.ref v0), none]) (st' := [.int (xc 6), .ref v0]) (μ' := μ32) rfl ?_
  obtain ⟨μ33, hμ33, h⟩ := Option.bind_eq_some_iff.mp h
  refine xr_opM (pc' := 127) (lo' := [some (.ref v0), none]) (st' := [.ref (xS μ32), .ref v0]) (o := xnewA μ32 1 (xc 6)) (xs_newA1 _ _ _ _ _ _ rfl) hμ33 ?_
  obtain ⟨μ34, hμ34, h⟩ := Option.bind_eq_some_iff.mp h
  refine xr_opM (pc' := 130) (lo' := [some (.ref v0), none]) (st' := []) (o := stFR μ33 v0 9 20 (xS μ32)) rfl hμ34 ?_
  refine xr_go 2 (pc' := 133) (lo' := [some (.ref v0), none]) (st' := [.int (xc 6), .ref v0]) (μ' := μ34) rfl ?_
  obtain ⟨μ35, hμ35, h⟩ := Option.bind_eq_some_iff.mp h
  refine xr_opM (pc' := 135) (lo' := [some (.ref v0), none]) (st' := [.ref (xS μ34), .ref v0]) (o := xnewA μ34 1 (xc 6)) (xs_newA1 _ _ _ _ _ _ rfl) hμ35 ?_
  obtain ⟨μ36, hμ36, h⟩ := Option.bind_eq_some_iff.mp h
  refine xr_opM (pc' := 138) (lo' := [some (.ref v0), none]) (st' := []) (o := stFR μ35 v0 9 21 (xS μ34)) rfl hμ36 ?_
  refine xr_go 2 (pc' := 141) (lo' := [some (.ref v0), none]) (st' := [.int (xc 6), .ref v0]) (μ' := μ36) rfl ?_
  obtain ⟨μ37, hμ37, h⟩ := Option.bind_eq_some_iff.mp h
  refine xr_opM (pc' := 143) (lo' := [some (.ref v0), none]) (st' := [.ref (xS μ36), .ref v0]) (o := xnewA μ36 2 (xc 6)) (xs_newA2 _ _ _ _ _ _ rfl) hμ37 ?_
  obtain ⟨μ38, hμ38, h⟩ := Option.bind_eq_some_iff.mp h
  refine xr_opM (pc' := 146) (lo' := [some (.ref v0), none]) (st' := []) (o := stFR μ37 v0 9 22 (xS μ36)) rfl hμ38 ?_
  refine xr_go 2 (pc' := 149) (lo' := [some (.ref v0), none]) (st' := [.int (xc 99), .ref v0]) (μ' := μ38) rfl ?_
  obtain ⟨μ39, hμ39, h⟩ := Option.bind_eq_some_iff.mp h
  refine xr_opM (pc' := 152) (lo' := [some (.ref v0), none]) (st' := []) (o := stF μ38 v0 9 23 (xc 99)) rfl hμ39 ?_
  refine xr_go 2 (pc' := 155) (lo' := [some (.ref v0), none]) (st' := [.int (xc 10), .ref v0]) (μ' := μ39) rfl ?_
  obtain ⟨μ40, hμ40, h⟩ := Option.bind_eq_some_iff.mp h
  refine xr_opM (pc' := 158) (lo' := [some (.ref v0), none]) (st' := []) (o := stF μ39 v0 9 24 (xc 10)) rfl hμ40 ?_
  refine xr_go 2 (pc' := 161) (lo' := [some (.ref v0), none]) (st' := [.int (xc 7), .ref v0]) (μ' := μ40) rfl ?_
  obtain ⟨μ41, hμ41, h⟩ := Option.bind_eq_some_iff.mp h
  refine xr_opM (pc' := 163) (lo' := [some (.ref v0), none]) (st' := [.ref (xS μ40), .ref v0]) (o := xnewA μ40 1 (xc 7)) (xs_newA1 _ _ _ _ _ _ rfl) hμ41 ?_
  obtain ⟨μ42, hμ42, h⟩ := Option.bind_eq_some_iff.mp h
  refine xr_opM (pc' := 166) (lo' := [some (.ref v0), none]) (st' := []) (o := stFR μ41 v0 9 25 (xS μ40)) rfl hμ42 ?_
  refine xr_go 2 (pc' := 169) (lo' := [some (.ref v0), none]) (st' := [.int (xc 12), .ref v0]) (μ' := μ42) rfl ?_
  obtain ⟨μ43, hμ43, h⟩ := Option.bind_eq_some_iff.mp h
  refine xr_opM (pc' := 171) (lo' := [some (.ref v0), none]) (st' := [.ref (xS μ42), .ref v0]) (o := xnewA μ42 1 (xc 12)) (xs_newA1 _ _ _ _ _ _ rfl) hμ43 ?_
  obtain ⟨μ44, hμ44, h⟩ := Option.bind_eq_some_iff.mp h
  refine xr_opM (pc' := 174) (lo' := [some (.ref v0), none]) (st' := []) (o := stFR μ43 v0 9 30 (xS μ42)) rfl hμ44 ?_
  refine xr_go 2 (pc' := 177) (lo' := [some (.ref v0), none]) (st' := [.int (xc 12), .ref v0]) (μ' := μ44) rfl ?_
  obtain ⟨μ45, hμ45, h⟩ := Option.bind_eq_some_iff.mp h
  refine xr_opM (pc' := 179) (lo' := [some (.ref v0), none]) (st' := [.ref (xS μ44), .ref v0]) (o := xnewA μ44 1 (xc 12)) (xs_newA1 _ _ _ _ _ _ rfl) hμ45 ?_
  obtain ⟨μ46, hμ46, h⟩ := Option.bind_eq_some_iff.mp h
  refine xr_opM (pc' := 182) (lo' := [some (.ref v0), none]) (st' := []) (o := stFR μ45 v0 9 31 (xS μ44)) rfl hμ46 ?_
  refine xr_go 2 (pc' := 185) (lo' := [some (.ref v0), none]) (st' := [.int (xc 12), .ref v0]) (μ' := μ46) rfl ?_
  obtain ⟨μ47, hμ47, h⟩ := Option.bind_eq_some_iff.mp h
  refine xr_opM (pc' := 187) (lo' := [some (.ref v0), none]) (st' := [.ref (xS μ46), .ref v0]) (o := xnewA μ46 1 (xc 12)) (xs_newA1 _ _ _ _ _ _ rfl) hμ47 ?_
  obtain ⟨μ48, hμ48, h⟩ := Option.bind_eq_some_iff.mp h
  refine xr_opM (pc' := 190) (lo' := [some (.ref v0), none]) (st' := []) (o := stFR μ47 v0 9 32 (xS μ46)) rfl hμ48 ?_
  refine xr_go 2 (pc' := 192) (lo' := [some (.ref v0), none]) (st' := [.int (xc 3), .ref v0]) (μ' := μ48) rfl ?_
  obtain ⟨μ49, hμ49, h⟩ := Option.bind_eq_some_iff.mp h
  refine xr_opM (pc' := 194) (lo' := [some (.ref v0), none]) (st' := [.ref (xS μ48), .ref v0]) (o := xnewA μ48 1 (xc 3)) (xs_newA1 _ _ _ _ _ _ rfl) hμ49 ?_
  obtain ⟨μ50, hμ50, h⟩ := Option.bind_eq_some_iff.mp h
  refine xr_opM (pc' := 197) (lo' := [some (.ref v0), none]) (st' := []) (o := stFR μ49 v0 9 34 (xS μ48)) rfl hμ50 ?_
  refine xr_go 2 (pc' := 199) (lo' := [some (.ref v0), none]) (st' := [.int (xc 4), .ref v0]) (μ' := μ50) rfl ?_
  obtain ⟨μ51, hμ51, h⟩ := Option.bind_eq_some_iff.mp h
  refine xr_opM (pc' := 201) (lo' := [some (.ref v0), none]) (st' := [.ref (xS μ50), .ref v0]) (o := xnewA μ50 1 (xc 4)) (xs_newA1 _ _ _ _ _ _ rfl) hμ51 ?_
  obtain ⟨μ52, hμ52, h⟩ := Option.bind_eq_some_iff.mp h
  refine xr_opM (pc' := 204) (lo' := [some (.ref v0), none]) (st' := []) (o := stFR μ51 v0 9 37 (xS μ50)) rfl hμ52 ?_
  refine xr_go 2 (pc' := 207) (lo' := [some (.ref v0), none]) (st' := [.int (xc 7), .ref v0]) (μ' := μ52) rfl ?_
  obtain ⟨μ53, hμ53, h⟩ := Option.bind_eq_some_iff.mp h
  refine xr_opM (pc' := 209) (lo' := [some (.ref v0), none]) (st' := [.ref (xS μ52), .ref v0]) (o := xnewA μ52 1 (xc 7)) (xs_newA1 _ _ _ _ _ _ rfl) hμ53 ?_
  obtain ⟨μ54, hμ54, h⟩ := Option.bind_eq_some_iff.mp h
  refine xr_opM (pc' := 212) (lo' := [some (.ref v0), none]) (st' := []) (o := stFR μ53 v0 9 38 (xS μ52)) rfl hμ54 ?_
  refine xr_go 2 (pc' := 215) (lo' := [some (.ref v0), none]) (st' := [.int (xc 12), .ref v0]) (μ' := μ54) rfl ?_
  obtain ⟨μ55, hμ55, h⟩ := Option.bind_eq_some_iff.mp h
  refine xr_opM (pc' := 217) (lo' := [some (.ref v0), none]) (st' := [.ref (xS μ54), .ref v0]) (o := xnewA μ54 1 (xc 12)) (xs_newA1 _ _ _ _ _ _ rfl) hμ55 ?_
  obtain ⟨μ56, hμ56, h⟩ := Option.bind_eq_some_iff.mp h
  refine xr_opM (pc' := 220) (lo' := [some (.ref v0), none]) (st' := []) (o := stFR μ55 v0 9 41 (xS μ54)) rfl hμ56 ?_
  refine xr_go 2 (pc' := 223) (lo' := [some (.ref v0), none]) (st' := [.int (xc 12), .ref v0]) (μ' := μ56) rfl ?_
  obtain ⟨μ57, hμ57, h⟩ := Option.bind_eq_some_iff.mp h
  refine xr_opM (pc' := 225) (lo' := [some (.ref v0), none]) (st' := [.ref (xS μ56), .ref v0]) (o := xnewA μ56 1 (xc 12)) (xs_newA1 _ _ _ _ _ _ rfl) hμ57 ?_
  obtain ⟨μ58, hμ58, h⟩ := Option.bind_eq_some_iff.mp h
  refine xr_opM (pc' := 228) (lo' := [some (.ref v0), none]) (st' := []) (o := stFR μ57 v0 9 42 (xS μ56)) rfl hμ58 ?_
  refine xr_go 2 (pc' := 230) (lo' := [some (.ref v0), none]) (st' := [.int (xc 4), .ref v0]) (μ' := μ58) rfl ?_
  obtain ⟨μ59, hμ59, h⟩ := Option.bind_eq_some_iff.mp h
  refine xr_opM (pc' := 232) (lo' := [some (.ref v0), none]) (st' := [.ref (xS μ58), .ref v0]) (o := xnewA μ58 1 (xc 4)) (xs_newA1 _ _ _ _ _ _ rfl) hμ59 ?_
  obtain ⟨μ60, hμ60, h⟩ := Option.bind_eq_some_iff.mp h
  refine xr_opM (pc' := 235) (lo' := [some (.ref v0), none]) (st' := []) (o := stFR μ59 v0 9 44 (xS μ58)) rfl hμ60 ?_
  refine xr_go 2 (pc' := 237) (lo' := [some (.ref v0), none]) (st' := [.int (xc 4), .ref v0]) (μ' := μ60) rfl ?_
  obtain ⟨μ61, hμ61, h⟩ := Option.bind_eq_some_iff.mp h
  refine xr_opM (pc' := 239) (lo' := [some (.ref v0), none]) (st' := [.ref (xS μ60), .ref v0]) (o := xnewA μ60 1 (xc 4)) (xs_newA1 _ _ _ _ _ _ rfl) hμ61 ?_
  obtain ⟨μ62, hμ62, h⟩ := Option.bind_eq_some_iff.mp h
  refine xr_opM (pc' := 242) (lo' := [some (.ref v0), none]) (st' := []) (o := stFR μ61 v0 9 45 (xS μ60)) rfl hμ62 ?_
  refine xr_go 2 (pc' := 244) (lo' := [some (.ref v0), none]) (st' := [.int (xc 4), .ref v0]) (μ' := μ62) rfl ?_
  obtain ⟨μ63, hμ63, h⟩ := Option.bind_eq_some_iff.mp h
  refine xr_opM (pc' := 246) (lo' := [some (.ref v0), none]) (st' := [.ref (xS μ62), .ref v0]) (o := xnewA μ62 1 (xc 4)) (xs_newA1 _ _ _ _ _ _ rfl) hμ63 ?_
  obtain ⟨μ64, hμ64, h⟩ := Option.bind_eq_some_iff.mp h
  refine xr_opM (pc' := 249) (lo' := [some (.ref v0), none]) (st' := []) (o := stFR μ63 v0 9 46 (xS μ62)) rfl hμ64 ?_
  refine xr_go 2 (pc' := 251) (lo' := [some (.ref v0), none]) (st' := [.int (xc 3), .ref v0]) (μ' := μ64) rfl ?_
  obtain ⟨μ65, hμ65, h⟩ := Option.bind_eq_some_iff.mp h
  refine xr_opM (pc' := 253) (lo' := [some (.ref v0), none]) (st' := [.ref (xS μ64), .ref v0]) (o := xnewA μ64 1 (xc 3)) (xs_newA1 _ _ _ _ _ _ rfl) hμ65 ?_
  obtain ⟨μ66, hμ66, h⟩ := Option.bind_eq_some_iff.mp h
  refine xr_opM (pc' := 256) (lo' := [some (.ref v0), none]) (st' := []) (o := stFR μ65 v0 9 48 (xS μ64)) rfl hμ66 ?_
  refine xr_go 2 (pc' := 260) (lo' := [some (.ref v0), none]) (st' := [.int (xc 343), .ref v0]) (μ' := μ66) rfl ?_
  obtain ⟨μ67, hμ67, h⟩ := Option.bind_eq_some_iff.mp h
  refine xr_opM (pc' := 262) (lo' := [some (.ref v0), none]) (st' := [.ref (xS μ66), .ref v0]) (o := xnewA μ66 2 (xc 343)) (xs_newA2 _ _ _ _ _ _ rfl) hμ67 ?_
  obtain ⟨μ68, hμ68, h⟩ := Option.bind_eq_some_iff.mp h
  refine xr_opM (pc' := 265) (lo' := [some (.ref v0), none]) (st' := []) (o := stFR μ67 v0 9 50 (xS μ66)) rfl hμ68 ?_
  refine xr_go 2 (pc' := 268) (lo' := [some (.ref v0), none]) (st' := [.int (xc 7), .ref v0]) (μ' := μ68) rfl ?_
  obtain ⟨μ69, hμ69, h⟩ := Option.bind_eq_some_iff.mp h
  refine xr_opM (pc' := 270) (lo' := [some (.ref v0), none]) (st' := [.ref (xS μ68), .ref v0]) (o := xnewA μ68 1 (xc 7)) (xs_newA1 _ _ _ _ _ _ rfl) hμ69 ?_
  obtain ⟨μ70, hμ70, h⟩ := Option.bind_eq_some_iff.mp h
  refine xr_opM (pc' := 273) (lo' := [some (.ref v0), none]) (st' := []) (o := stFR μ69 v0 9 51 (xS μ68)) rfl hμ70 ?_
  refine xr_go 2 (pc' := 277) (lo' := [some (.ref v0), none]) (st' := [.int (xc 300), .ref v0]) (μ' := μ70) rfl ?_
  obtain ⟨μ71, hμ71, h⟩ := Option.bind_eq_some_iff.mp h
  refine xr_opM (pc' := 279) (lo' := [some (.ref v0), none]) (st' := [.ref (xS μ70), .ref v0]) (o := xnewA μ70 1 (xc 300)) (xs_newA1 _ _ _ _ _ _ rfl) hμ71 ?_
  obtain ⟨μ72, hμ72, h⟩ := Option.bind_eq_some_iff.mp h
  refine xr_opM (pc' := 282) (lo' := [some (.ref v0), none]) (st' := []) (o := stFR μ71 v0 9 53 (xS μ70)) rfl hμ72 ?_
  refine xr_go 2 (pc' := 286) (lo' := [some (.ref v0), none]) (st' := [.int (xc 4096), .ref v0]) (μ' := μ72) rfl ?_
  obtain ⟨μ73, hμ73, h⟩ := Option.bind_eq_some_iff.mp h
  refine xr_opM (pc' := 288) (lo' := [some (.ref v0), none]) (st' := [.ref (xS μ72), .ref v0]) (o := xnewA μ72 2 (xc 4096)) (xs_newA2 _ _ _ _ _ _ rfl) hμ73 ?_
  obtain ⟨μ74, hμ74, h⟩ := Option.bind_eq_some_iff.mp h
  refine xr_opM (pc' := 291) (lo' := [some (.ref v0), none]) (st' := []) (o := stFR μ73 v0 9 57 (xS μ72)) rfl hμ74 ?_
  refine xr_go 2 (pc' := 295) (lo' := [some (.ref v0), none]) (st' := [.int (xc 4096), .ref v0]) (μ' := μ74) rfl ?_
  obtain ⟨μ75, hμ75, h⟩ := Option.bind_eq_some_iff.mp h
  refine xr_opM (pc' := 297) (lo' := [some (.ref v0), none]) (st' := [.ref (xS μ74), .ref v0]) (o := xnewA μ74 1 (xc 4096)) (xs_newA1 _ _ _ _ _ _ rfl) hμ75 ?_
  obtain ⟨μ76, hμ76, h⟩ := Option.bind_eq_some_iff.mp h
  refine xr_opM (pc' := 300) (lo' := [some (.ref v0), none]) (st' := []) (o := stFR μ75 v0 9 58 (xS μ74)) rfl hμ76 ?_
  refine xr_go 2 (pc' := 304) (lo' := [some (.ref v0), none]) (st' := [.int (xc 24576), .ref v0]) (μ' := μ76) rfl ?_
  obtain ⟨μ77, hμ77, h⟩ := Option.bind_eq_some_iff.mp h
  refine xr_opM (pc' := 306) (lo' := [some (.ref v0), none]) (st' := [.ref (xS μ76), .ref v0]) (o := xnewA μ76 2 (xc 24576)) (xs_newA2 _ _ _ _ _ _ rfl) hμ77 ?_
  obtain ⟨μ78, hμ78, h⟩ := Option.bind_eq_some_iff.mp h
  refine xr_opM (pc' := 309) (lo' := [some (.ref v0), none]) (st' := []) (o := stFR μ77 v0 9 59 (xS μ76)) rfl hμ78 ?_
  refine xr_go 2 (pc' := 313) (lo' := [some (.ref v0), none]) (st' := [.int (xc 640), .ref v0]) (μ' := μ78) rfl ?_
  obtain ⟨μ79, hμ79, h⟩ := Option.bind_eq_some_iff.mp h
  refine xr_opM (pc' := 315) (lo' := [some (.ref v0), none]) (st' := [.ref (xS μ78), .ref v0]) (o := xnewA μ78 2 (xc 640)) (xs_newA2 _ _ _ _ _ _ rfl) hμ79 ?_
  obtain ⟨μ80, hμ80, h⟩ := Option.bind_eq_some_iff.mp h
  refine xr_opM (pc' := 318) (lo' := [some (.ref v0), none]) (st' := []) (o := stFR μ79 v0 9 60 (xS μ78)) rfl hμ80 ?_
  refine xr_go 2 (pc' := 321) (lo' := [some (.ref v0), none]) (st' := [.int (xc 100), .ref v0]) (μ' := μ80) rfl ?_
  obtain ⟨μ81, hμ81, h⟩ := Option.bind_eq_some_iff.mp h
  refine xr_opM (pc' := 323) (lo' := [some (.ref v0), none]) (st' := [.ref (xS μ80), .ref v0]) (o := xnewA μ80 1 (xc 100)) (xs_newA1 _ _ _ _ _ _ rfl) hμ81 ?_
  obtain ⟨μ82, hμ82, h⟩ := Option.bind_eq_some_iff.mp h
  refine xr_opM (pc' := 326) (lo' := [some (.ref v0), none]) (st' := []) (o := stFR μ81 v0 9 62 (xS μ80)) rfl hμ82 ?_
  refine xr_go 2 (pc' := 328) (lo' := [some (.ref v0), some (.int (xc 0))]) (st' := []) (μ' := μ82) rfl ?_
  refine xr_forget (lo := [some (.ref v0), some (.int (xc 0))]) ⟨rfl, rfl, trivial⟩ ?_
  exact fM_init_L328_lp h hK
noncomputable def fM_init (a0 : Nat) (μ : xM) : Option (xM) := xgd μ a0 9 (fM_init_0 a0 μ)
theorem fM_init_kd {a0 : Nat} {μ : xM} {o : xM} (h : fM_init a0 μ = some o) : (xK μ a0).1 = 10 + 9 := (xgd_some h).1
theorem fM_init_ok {d : Nat} {a0 : Nat} {μ : xM} {o : xM} (h : fM_init a0 μ = some o) : xRun (d + 0) 136 0 [some (.ref a0), none] [] μ none o :=
  xr_forget (lo := [some (.ref a0), none]) (⟨rfl, trivial⟩) (fM_init_0_ok (d := d) (xgd_some h).2 (show fM_init_K _ _ o from ⟨rfl, rfl⟩))
-- KeptAnswers.isTable(I)Z 
def fX_isTable_K (μ : xM) (rv : Option Value) (μf : xM) : (Int32) → Prop := fun o => rv = some (.int o) ∧ μf = μ
noncomputable def fX_isTable_13  (μ : xM) : Option (Int32) := some (xc 0)
theorem fX_isTable_13_ok {d : Nat} {μ : xM} {rv : Option Value} {μf : xM} {out : Int32} (h : fX_isTable_13 μ = some out) (hK : fX_isTable_K μ rv μf out) : xRun (d + 0) 38 13 [none] [] μ rv μf := by
  unfold fX_isTable_13 at h
  refine xr_go 1 (pc' := 14) (lo' := [none]) (st' := [.int (xc 0)]) (μ' := μ) rfl ?_
  have ho := Option.some.inj h
  subst ho
  obtain ⟨rfl, rfl⟩ := hK
  exact xr_ret (rv := some (.int (xc 0))) rfl rfl (Or.inr ⟨rfl, Or.inl rfl⟩)
noncomputable def fX_isTable_0  (v0 : Int32) (μ : xM) : Option (Int32) := if v0 < 0 then (fX_isTable_13 μ) else (if (xc 3) ≤ v0 then (fX_isTable_13 μ) else (some (xc 1)))
theorem fX_isTable_0_ok {d : Nat} {v0 : Int32} {μ : xM} {rv : Option Value} {μf : xM} {out : Int32} (h : fX_isTable_0 v0 μ = some out) (hK : fX_isTable_K μ rv μf out) : xRun (d + 0) 38 0 [some (.int v0)] [] μ rv μf := by
  unfold fX_isTable_0 at h
  refine xr_go 1 (pc' := 1) (lo' := [some (.int v0)]) (st' := [.int v0]) (μ' := μ) rfl ?_
  refine xr_ifc (pct := 13) rfl rfl rfl (fun hc => ?_) (fun hc => ?_)
  · replace h := (if_pos (of_decide_eq_true hc)).symm.trans h
    refine xr_forget (lo := [none]) trivial ?_
    exact fX_isTable_13_ok h hK
  · replace h := (if_neg (of_decide_eq_false hc)).symm.trans h
    refine xr_go 2 (pc' := 6) (lo' := [some (.int v0)]) (st' := [.int (xc 3), .int v0]) (μ' := μ) rfl ?_
    refine xr_icmp (pct := 13) rfl rfl rfl (fun hc => ?_) (fun hc => ?_)
    · replace h := (if_pos (of_decide_eq_true hc)).symm.trans h
      refine xr_forget (lo := [none]) trivial ?_
      exact fX_isTable_13_ok h hK
    · replace h := (if_neg (of_decide_eq_false hc)).symm.trans h
      refine xr_go 2 (pc' := 14) (lo' := [some (.int v0)]) (st' := [.int (xc 1)]) (μ' := μ) rfl ?_
      have ho := Option.some.inj h
      subst ho
      obtain ⟨rfl, rfl⟩ := hK
      exact xr_ret (rv := some (.int (xc 1))) rfl rfl (Or.inr ⟨rfl, Or.inr rfl⟩)
noncomputable def fX_isTable (a0 : Int32) (μ : xM) : Option (Int32) := fX_isTable_0 a0 μ
theorem fX_isTable_ok {d : Nat} {a0 : Int32} {μ : xM} {o : Int32} (h : fX_isTable a0 μ = some o) : xRun (d + 0) 38 0 [some (.int a0)] [] μ (some (.int o)) μ :=
  xr_forget (lo := [some (.int a0)]) (⟨rfl, trivial⟩) (fX_isTable_0_ok (d := d) h (show fX_isTable_K μ _ _ o from ⟨rfl, rfl⟩))
-- KeptAnswers.rowRefusal(III)I 
def fX_rowRefusal_K (μ : xM) (rv : Option Value) (μf : xM) : (Int32) → Prop := fun o => rv = some (.int o) ∧ μf = μ
noncomputable def fX_rowRefusal_30  (μ : xM) : Option (Int32) := some (xc (-6))
theorem fX_rowRefusal_30_ok {d : Nat} {μ : xM} {rv : Option Value} {μf : xM} {out : Int32} (h : fX_rowRefusal_30 μ = some out) (hK : fX_rowRefusal_K μ rv μf out) : xRun (d + 1) 42 30 [none, none, none] [] μ rv μf := by
  unfold fX_rowRefusal_30 at h
  refine xr_go 2 (pc' := 36) (lo' := [none, none, none]) (st' := [.int (xc (-6))]) (μ' := μ) rfl ?_
  have ho := Option.some.inj h
  subst ho
  obtain ⟨rfl, rfl⟩ := hK
  exact xr_ret (rv := some (.int (xc (-6)))) rfl rfl (Or.inl rfl)
noncomputable def fX_rowRefusal_17  (μ : xM) : Option (Int32) := some (xc (-4))
theorem fX_rowRefusal_17_ok {d : Nat} {μ : xM} {rv : Option Value} {μf : xM} {out : Int32} (h : fX_rowRefusal_17 μ = some out) (hK : fX_rowRefusal_K μ rv μf out) : xRun (d + 1) 42 17 [none, none, none] [] μ rv μf := by
  unfold fX_rowRefusal_17 at h
  refine xr_go 1 (pc' := 19) (lo' := [none, none, none]) (st' := [.int (xc (-4))]) (μ' := μ) rfl ?_
  have ho := Option.some.inj h
  subst ho
  obtain ⟨rfl, rfl⟩ := hK
  exact xr_ret (rv := some (.int (xc (-4)))) rfl rfl (Or.inl rfl)
noncomputable def fX_rowRefusal_0  (v0 : Int32) (v1 : Int32) (v2 : Int32) (μ : xM) : Option (Int32) := (fX_isTable v0 μ).bind fun r1 => if r1 = 0 then (some (xc (-1))) else (if v1 < 0 then (fX_rowRefusal_17 μ) else (if 0 ≤ v2 then (if (xc 1) < v1 then (fX_rowRefusal_30 μ) else (if v2 ≤ (xc 1) then (some (xc 0)) else (fX_rowRefusal_30 μ))) else (fX_rowRefusal_17 μ)))
theorem fX_rowRefusal_0_ok {d : Nat} {v0 : Int32} {v1 : Int32} {v2 : Int32} {μ : xM} {rv : Option Value} {μf : xM} {out : Int32} (h : fX_rowRefusal_0 v0 v1 v2 μ = some out) (hK : fX_rowRefusal_K μ rv μf out) : xRun (d + 1) 42 0 [some (.int v0), some (.int v1), some (.int v2)] [] μ rv μf := by
  unfold fX_rowRefusal_0 at h
  refine xr_go 1 (pc' := 1) (lo' := [some (.int v0), some (.int v1), some (.int v2)]) (st' := [.int v0]) (μ' := μ) rfl ?_
  obtain ⟨r1, hr1, h⟩ := Option.bind_eq_some_iff.mp h
  refine xr_callS (j := 38) (d' := (d + 0)) (rv1 := some (.int r1)) (μ1 := μ) (rest := []) (As := [.int v0]) rfl rfl rfl rfl (Nat.le_of_ble_eq_true rfl) rfl (by exact (fX_isTable_ok (d := d + (0)) hr1)) ?_
  refine xr_ifc (pct := 9) rfl rfl rfl (fun hc => ?_) (fun hc => ?_)
  · replace h := (if_neg (of_decide_eq_true hc)).symm.trans h
    refine xr_go 1 (pc' := 10) (lo' := [some (.int v0), some (.int v1), some (.int v2)]) (st' := [.int v1]) (μ' := μ) rfl ?_
    refine xr_ifc (pct := 17) rfl rfl rfl (fun hc => ?_) (fun hc => ?_)
    · replace h := (if_pos (of_decide_eq_true hc)).symm.trans h
      refine xr_forget (lo := [none, none, none]) trivial ?_
      exact fX_rowRefusal_17_ok h hK
    · replace h := (if_neg (of_decide_eq_false hc)).symm.trans h
      refine xr_go 1 (pc' := 14) (lo' := [some (.int v0), some (.int v1), some (.int v2)]) (st' := [.int v2]) (μ' := μ) rfl ?_
      refine xr_ifc (pct := 20) rfl rfl rfl (fun hc => ?_) (fun hc => ?_)
      · replace h := (if_pos (of_decide_eq_true hc)).symm.trans h
        refine xr_go 2 (pc' := 22) (lo' := [some (.int v0), some (.int v1), some (.int v2)]) (st' := [.int (xc 1), .int v1]) (μ' := μ) rfl ?_
        refine xr_icmp (pct := 30) rfl rfl rfl (fun hc => ?_) (fun hc => ?_)
        · replace h := (if_pos (of_decide_eq_true hc)).symm.trans h
          refine xr_forget (lo := [none, none, none]) trivial ?_
          exact fX_rowRefusal_30_ok h hK
        · replace h := (if_neg (of_decide_eq_false hc)).symm.trans h
          refine xr_go 2 (pc' := 27) (lo' := [some (.int v0), some (.int v1), some (.int v2)]) (st' := [.int (xc 1), .int v2]) (μ' := μ) rfl ?_
          refine xr_icmp (pct := 35) rfl rfl rfl (fun hc => ?_) (fun hc => ?_)
          · replace h := (if_pos (of_decide_eq_true hc)).symm.trans h
            refine xr_go 1 (pc' := 36) (lo' := [some (.int v0), some (.int v1), some (.int v2)]) (st' := [.int (xc 0)]) (μ' := μ) rfl ?_
            have ho := Option.some.inj h
            subst ho
            obtain ⟨rfl, rfl⟩ := hK
            exact xr_ret (rv := some (.int (xc 0))) rfl rfl (Or.inl rfl)
          · replace h := (if_neg (of_decide_eq_false hc)).symm.trans h
            refine xr_forget (lo := [none, none, none]) trivial ?_
            exact fX_rowRefusal_30_ok h hK
      · replace h := (if_neg (of_decide_eq_false hc)).symm.trans h
        refine xr_forget (lo := [none, none, none]) trivial ?_
        exact fX_rowRefusal_17_ok h hK
  · replace h := (if_pos (Decidable.of_not_not (of_decide_eq_false hc))).symm.trans h
    refine xr_go 1 (pc' := 8) (lo' := [some (.int v0), some (.int v1), some (.int v2)]) (st' := [.int (xc (-1))]) (μ' := μ) rfl ?_
    have ho := Option.some.inj h
    subst ho
    obtain ⟨rfl, rfl⟩ := hK
    exact xr_ret (rv := some (.int (xc (-1)))) rfl rfl (Or.inl rfl)
noncomputable def fX_rowRefusal (a0 : Int32) (a1 : Int32) (a2 : Int32) (μ : xM) : Option (Int32) := fX_rowRefusal_0 a0 a1 a2 μ
theorem fX_rowRefusal_ok {d : Nat} {a0 : Int32} {a1 : Int32} {a2 : Int32} {μ : xM} {o : Int32} (h : fX_rowRefusal a0 a1 a2 μ = some o) : xRun (d + 1) 42 0 [some (.int a0), some (.int a1), some (.int a2)] [] μ (some (.int o)) μ :=
  xr_forget (lo := [some (.int a0), some (.int a1), some (.int a2)]) (⟨rfl, rfl, rfl, trivial⟩) (fX_rowRefusal_0_ok (d := d) h (show fX_rowRefusal_K μ _ _ o from ⟨rfl, rfl⟩))
-- KeptAnswers.refuse(I)I 
def fX_refuse_K (rv : Option Value) (μf : xM) : (Int32 × xM) → Prop := fun o => rv = some (.int o.1) ∧ μf = o.2
noncomputable def fX_refuse_21  (v1 : Int32) (μ : xM) : Option (Int32 × xM) := some ((v1, μ))
theorem fX_refuse_21_ok {d : Nat} {v1 : Int32} {μ : xM} {rv : Option Value} {μf : xM} {out : Int32 × xM} (h : fX_refuse_21 v1 μ = some out) (hK : fX_refuse_K rv μf out) : xRun (d + 0) 37 21 [none, some (.int v1)] [] μ rv μf := by
  unfold fX_refuse_21 at h
  refine xr_go 1 (pc' := 22) (lo' := [none, some (.int v1)]) (st' := [.int v1]) (μ' := μ) rfl ?_
  have ho := Option.some.inj h
  subst ho
  obtain ⟨rfl, rfl⟩ := hK
  exact xr_ret (rv := some (.int v1)) rfl rfl (Or.inl rfl)
noncomputable def fX_refuse_0  (v0 : Nat) (v1 : Int32) (μ : xM) : Option (Int32 × xM) := if 0 ≤ v1 then (fX_refuse_21 v1 μ) else (if v1 < (xc (-6)) then (fX_refuse_21 v1 μ) else ((ldFR μ v0 0 9).bind fun x1 => (ldA μ x1 (-v1)).bind fun x2 => (stA μ x1 (-v1) (x2 + (xc 1))).bind fun μ3 => fX_refuse_21 v1 μ3))
theorem fX_refuse_0_ok {d : Nat} {v0 : Nat} {v1 : Int32} {μ : xM} {rv : Option Value} {μf : xM} {out : Int32 × xM} (h : fX_refuse_0 v0 v1 μ = some out) (hK : fX_refuse_K rv μf out) : xRun (d + 0) 37 0 [some (.ref v0), some (.int v1)] [] μ rv μf := by
  unfold fX_refuse_0 at h
  refine xr_go 1 (pc' := 1) (lo' := [some (.ref v0), some (.int v1)]) (st' := [.int v1]) (μ' := μ) rfl ?_
  refine xr_ifc (pct := 21) rfl rfl rfl (fun hc => ?_) (fun hc => ?_)
  · replace h := (if_pos (of_decide_eq_true hc)).symm.trans h
    refine xr_forget (lo := [none, some (.int v1)]) ⟨rfl, trivial⟩ ?_
    exact fX_refuse_21_ok h hK
  · replace h := (if_neg (of_decide_eq_false hc)).symm.trans h
    refine xr_go 2 (pc' := 7) (lo' := [some (.ref v0), some (.int v1)]) (st' := [.int (xc (-6)), .int v1]) (μ' := μ) rfl ?_
    refine xr_icmp (pct := 21) rfl rfl rfl (fun hc => ?_) (fun hc => ?_)
    · replace h := (if_pos (of_decide_eq_true hc)).symm.trans h
      refine xr_forget (lo := [none, some (.int v1)]) ⟨rfl, trivial⟩ ?_
      exact fX_refuse_21_ok h hK
    · replace h := (if_neg (of_decide_eq_false hc)).symm.trans h
      refine xr_go 1 (pc' := 11) (lo' := [some (.ref v0), some (.int v1)]) (st' := [.ref v0]) (μ' := μ) rfl ?_
      obtain ⟨x1, hx1, h⟩ := Option.bind_eq_some_iff.mp h
      refine xr_opA (pc' := 14) (lo' := [some (.ref v0), some (.int v1)]) (st' := []) (o := ldFR μ v0 0 9) rfl hx1 ?_
      refine xr_go 3 (pc' := 17) (lo' := [some (.ref v0), some (.int v1)]) (st' := [.int (-v1), .ref x1, .int (-v1), .ref x1]) (μ' := μ) rfl ?_
      obtain ⟨x2, hx2, h⟩ := Option.bind_eq_some_iff.mp h
      refine xr_opI (pc' := 18) (lo' := [some (.ref v0), some (.int v1)]) (st' := [.int (-v1), .ref x1]) (o := ldA μ x1 (-v1)) rfl hx2 ?_
      refine xr_go 2 (pc' := 20) (lo' := [some (.ref v0), some (.int v1)]) (st' := [.int (x2 + (xc 1)), .int (-v1), .ref x1]) (μ' := μ) rfl ?_
      obtain ⟨μ3, hμ3, h⟩ := Option.bind_eq_some_iff.mp h
      refine xr_opM (pc' := 21) (lo' := [some (.ref v0), some (.int v1)]) (st' := []) (o := stA μ x1 (-v1) (x2 + (xc 1))) rfl hμ3 ?_
      refine xr_forget (lo := [none, some (.int v1)]) ⟨rfl, trivial⟩ ?_
      exact fX_refuse_21_ok h hK
noncomputable def fX_refuse (a0 : Nat) (a1 : Int32) (μ : xM) : Option (Int32 × xM) := xgd μ a0 0 (fX_refuse_0 a0 a1 μ)
theorem fX_refuse_kd {a0 : Nat} {a1 : Int32} {μ : xM} {o : Int32 × xM} (h : fX_refuse a0 a1 μ = some o) : (xK μ a0).1 = 10 + 0 := (xgd_some h).1
theorem fX_refuse_ok {d : Nat} {a0 : Nat} {a1 : Int32} {μ : xM} {o : Int32 × xM} (h : fX_refuse a0 a1 μ = some o) : xRun (d + 0) 37 0 [some (.ref a0), some (.int a1)] [] μ (some (.int o.1)) o.2 :=
  xr_forget (lo := [some (.ref a0), some (.int a1)]) (⟨rfl, rfl, trivial⟩) (fX_refuse_0_ok (d := d) (xgd_some h).2 (show fX_refuse_K _ _ o from ⟨rfl, rfl⟩))
-- KeptAnswers.rowBit(III)I 
def fX_rowBit_K (μ : xM) (rv : Option Value) (μf : xM) : (Int32) → Prop := fun o => rv = some (.int o) ∧ μf = μ
noncomputable def fX_rowBit_0  (v0 : Int32) (v1 : Int32) (v2 : Int32) (μ : xM) : Option (Int32) := some ((((xc 4) * v0) + ((xc 2) * v1)) + v2)
theorem fX_rowBit_0_ok {d : Nat} {v0 : Int32} {v1 : Int32} {v2 : Int32} {μ : xM} {rv : Option Value} {μf : xM} {out : Int32} (h : fX_rowBit_0 v0 v1 v2 μ = some out) (hK : fX_rowBit_K μ rv μf out) : xRun (d + 0) 44 0 [some (.int v0), some (.int v1), some (.int v2)] [] μ rv μf := by
  unfold fX_rowBit_0 at h
  refine xr_go 9 (pc' := 9) (lo' := [some (.int v0), some (.int v1), some (.int v2)]) (st' := [.int ((((xc 4) * v0) + ((xc 2) * v1)) + v2)]) (μ' := μ) rfl ?_
  have ho := Option.some.inj h
  subst ho
  obtain ⟨rfl, rfl⟩ := hK
  exact xr_ret (rv := some (.int ((((xc 4) * v0) + ((xc 2) * v1)) + v2))) rfl rfl (Or.inl rfl)
noncomputable def fX_rowBit (a0 : Int32) (a1 : Int32) (a2 : Int32) (μ : xM) : Option (Int32) := fX_rowBit_0 a0 a1 a2 μ
theorem fX_rowBit_ok {d : Nat} {a0 : Int32} {a1 : Int32} {a2 : Int32} {μ : xM} {o : Int32} (h : fX_rowBit a0 a1 a2 μ = some o) : xRun (d + 0) 44 0 [some (.int a0), some (.int a1), some (.int a2)] [] μ (some (.int o)) μ :=
  xr_forget (lo := [some (.int a0), some (.int a1), some (.int a2)]) (⟨rfl, rfl, rfl, trivial⟩) (fX_rowBit_0_ok (d := d) h (show fX_rowBit_K μ _ _ o from ⟨rfl, rfl⟩))
-- KeptAnswers$Holding.hasRow(I)Z 
def fH_hasRow_K (μ : xM) (rv : Option Value) (μf : xM) : (Int32) → Prop := fun o => rv = some (.int o) ∧ μf = μ
noncomputable def fH_hasRow_0  (v0 : Nat) (v1 : Int32) (μ : xM) : Option (Int32) := (ldF μ v0 3 0).bind fun x1 => if ((x1 >>> (v1 &&& 31)) &&& (xc 1)) = 0 then (some (xc 0)) else (some (xc 1))
theorem fH_hasRow_0_ok {d : Nat} {v0 : Nat} {v1 : Int32} {μ : xM} {rv : Option Value} {μf : xM} {out : Int32} (h : fH_hasRow_0 v0 v1 μ = some out) (hK : fH_hasRow_K μ rv μf out) : xRun (d + 0) 63 0 [some (.ref v0), some (.int v1)] [] μ rv μf := by
  unfold fH_hasRow_0 at h
  refine xr_go 1 (pc' := 1) (lo' := [some (.ref v0), some (.int v1)]) (st' := [.ref v0]) (μ' := μ) rfl ?_
  obtain ⟨x1, hx1, h⟩ := Option.bind_eq_some_iff.mp h
  refine xr_opI (pc' := 4) (lo' := [some (.ref v0), some (.int v1)]) (st' := []) (o := ldF μ v0 3 0) rfl hx1 ?_
  refine xr_go 4 (pc' := 8) (lo' := [some (.ref v0), some (.int v1)]) (st' := [.int ((x1 >>> (v1 &&& 31)) &&& (xc 1))]) (μ' := μ) rfl ?_
  refine xr_ifc (pct := 15) rfl rfl rfl (fun hc => ?_) (fun hc => ?_)
  · replace h := (if_pos (of_decide_eq_true hc)).symm.trans h
    refine xr_go 1 (pc' := 16) (lo' := [some (.ref v0), some (.int v1)]) (st' := [.int (xc 0)]) (μ' := μ) rfl ?_
    have ho := Option.some.inj h
    subst ho
    obtain ⟨rfl, rfl⟩ := hK
    exact xr_ret (rv := some (.int (xc 0))) rfl rfl (Or.inr ⟨rfl, Or.inl rfl⟩)
  · replace h := (if_neg (of_decide_eq_false hc)).symm.trans h
    refine xr_go 2 (pc' := 16) (lo' := [some (.ref v0), some (.int v1)]) (st' := [.int (xc 1)]) (μ' := μ) rfl ?_
    have ho := Option.some.inj h
    subst ho
    obtain ⟨rfl, rfl⟩ := hK
    exact xr_ret (rv := some (.int (xc 1))) rfl rfl (Or.inr ⟨rfl, Or.inr rfl⟩)
noncomputable def fH_hasRow (a0 : Nat) (a1 : Int32) (μ : xM) : Option (Int32) := xgd μ a0 3 (fH_hasRow_0 a0 a1 μ)
theorem fH_hasRow_kd {a0 : Nat} {a1 : Int32} {μ : xM} {o : Int32} (h : fH_hasRow a0 a1 μ = some o) : (xK μ a0).1 = 10 + 3 := (xgd_some h).1
theorem fH_hasRow_ok {d : Nat} {a0 : Nat} {a1 : Int32} {μ : xM} {o : Int32} (h : fH_hasRow a0 a1 μ = some o) : xRun (d + 0) 63 0 [some (.ref a0), some (.int a1)] [] μ (some (.int o)) μ :=
  xr_forget (lo := [some (.ref a0), some (.int a1)]) (⟨rfl, rfl, trivial⟩) (fH_hasRow_0_ok (d := d) (xgd_some h).2 (show fH_hasRow_K μ _ _ o from ⟨rfl, rfl⟩))
-- KeptAnswers$Holding.hasKey(I)Z 
def fH_hasKey_K (μ : xM) (rv : Option Value) (μf : xM) : (Int32) → Prop := fun o => rv = some (.int o) ∧ μf = μ
noncomputable def fH_hasKey_0  (v0 : Nat) (v1 : Int32) (μ : xM) : Option (Int32) := (ldF μ v0 3 1).bind fun x1 => if ((x1 >>> (v1 &&& 31)) &&& (xc 1)) = 0 then (some (xc 0)) else (some (xc 1))
theorem fH_hasKey_0_ok {d : Nat} {v0 : Nat} {v1 : Int32} {μ : xM} {rv : Option Value} {μf : xM} {out : Int32} (h : fH_hasKey_0 v0 v1 μ = some out) (hK : fH_hasKey_K μ rv μf out) : xRun (d + 0) 66 0 [some (.ref v0), some (.int v1)] [] μ rv μf := by
  unfold fH_hasKey_0 at h
  refine xr_go 1 (pc' := 1) (lo' := [some (.ref v0), some (.int v1)]) (st' := [.ref v0]) (μ' := μ) rfl ?_
  obtain ⟨x1, hx1, h⟩ := Option.bind_eq_some_iff.mp h
  refine xr_opI (pc' := 4) (lo' := [some (.ref v0), some (.int v1)]) (st' := []) (o := ldF μ v0 3 1) rfl hx1 ?_
  refine xr_go 4 (pc' := 8) (lo' := [some (.ref v0), some (.int v1)]) (st' := [.int ((x1 >>> (v1 &&& 31)) &&& (xc 1))]) (μ' := μ) rfl ?_
  refine xr_ifc (pct := 15) rfl rfl rfl (fun hc => ?_) (fun hc => ?_)
  · replace h := (if_pos (of_decide_eq_true hc)).symm.trans h
    refine xr_go 1 (pc' := 16) (lo' := [some (.ref v0), some (.int v1)]) (st' := [.int (xc 0)]) (μ' := μ) rfl ?_
    have ho := Option.some.inj h
    subst ho
    obtain ⟨rfl, rfl⟩ := hK
    exact xr_ret (rv := some (.int (xc 0))) rfl rfl (Or.inr ⟨rfl, Or.inl rfl⟩)
  · replace h := (if_neg (of_decide_eq_false hc)).symm.trans h
    refine xr_go 2 (pc' := 16) (lo' := [some (.ref v0), some (.int v1)]) (st' := [.int (xc 1)]) (μ' := μ) rfl ?_
    have ho := Option.some.inj h
    subst ho
    obtain ⟨rfl, rfl⟩ := hK
    exact xr_ret (rv := some (.int (xc 1))) rfl rfl (Or.inr ⟨rfl, Or.inr rfl⟩)
noncomputable def fH_hasKey (a0 : Nat) (a1 : Int32) (μ : xM) : Option (Int32) := xgd μ a0 3 (fH_hasKey_0 a0 a1 μ)
theorem fH_hasKey_kd {a0 : Nat} {a1 : Int32} {μ : xM} {o : Int32} (h : fH_hasKey a0 a1 μ = some o) : (xK μ a0).1 = 10 + 3 := (xgd_some h).1
theorem fH_hasKey_ok {d : Nat} {a0 : Nat} {a1 : Int32} {μ : xM} {o : Int32} (h : fH_hasKey a0 a1 μ = some o) : xRun (d + 0) 66 0 [some (.ref a0), some (.int a1)] [] μ (some (.int o)) μ :=
  xr_forget (lo := [some (.ref a0), some (.int a1)]) (⟨rfl, rfl, trivial⟩) (fH_hasKey_0_ok (d := d) (xgd_some h).2 (show fH_hasKey_K μ _ _ o from ⟨rfl, rfl⟩))
-- KeptAnswers$Holding.breaksKey(I)Z 
def fH_breaksKey_K (μ : xM) (rv : Option Value) (μf : xM) : (Int32) → Prop := fun o => rv = some (.int o) ∧ μf = μ
noncomputable def fH_breaksKey_24  (μ : xM) : Option (Int32) := some (xc 0)
theorem fH_breaksKey_24_ok {d : Nat} {μ : xM} {rv : Option Value} {μf : xM} {out : Int32} (h : fH_breaksKey_24 μ = some out) (hK : fH_breaksKey_K μ rv μf out) : xRun (d + 1) 68 24 [none, none] [] μ rv μf := by
  unfold fH_breaksKey_24 at h
  refine xr_go 1 (pc' := 25) (lo' := [none, none]) (st' := [.int (xc 0)]) (μ' := μ) rfl ?_
  have ho := Option.some.inj h
  subst ho
  obtain ⟨rfl, rfl⟩ := hK
  exact xr_ret (rv := some (.int (xc 0))) rfl rfl (Or.inr ⟨rfl, Or.inl rfl⟩)
noncomputable def fH_breaksKey_0  (v0 : Nat) (v1 : Int32) (μ : xM) : Option (Int32) := (dvI v1 (xc 4)).bind fun x1 => (fH_hasKey v0 x1 μ).bind fun r2 => if r2 = 0 then (fH_breaksKey_24 μ) else ((fH_hasRow v0 (v1 ^^^ (xc 1)) μ).bind fun r3 => if r3 = 0 then (fH_breaksKey_24 μ) else (some (xc 1)))
theorem fH_breaksKey_0_ok {d : Nat} {v0 : Nat} {v1 : Int32} {μ : xM} {rv : Option Value} {μf : xM} {out : Int32} (h : fH_breaksKey_0 v0 v1 μ = some out) (hK : fH_breaksKey_K μ rv μf out) : xRun (d + 1) 68 0 [some (.ref v0), some (.int v1)] [] μ rv μf := by
  unfold fH_breaksKey_0 at h
  refine xr_go 3 (pc' := 3) (lo' := [some (.ref v0), some (.int v1)]) (st' := [.int (xc 4), .int v1, .ref v0]) (μ' := μ) rfl ?_
  obtain ⟨x1, hx1, h⟩ := Option.bind_eq_some_iff.mp h
  refine xr_opI (pc' := 4) (lo' := [some (.ref v0), some (.int v1)]) (st' := [.ref v0]) (o := dvI v1 (xc 4)) rfl hx1 ?_
  obtain ⟨r2, hr2, h⟩ := Option.bind_eq_some_iff.mp h
  refine xr_callV (j := 66) (d' := (d + 0)) (rv1 := some (.int r2)) (μ1 := μ) (rest := []) (As := [.int x1]) rfl rfl rfl rfl (Nat.le_of_ble_eq_true rfl) (fH_hasKey_kd hr2) rfl (by exact (fH_hasKey_ok (d := d + (0)) hr2)) ?_
  refine xr_ifc (pct := 24) rfl rfl rfl (fun hc => ?_) (fun hc => ?_)
  · replace h := (if_pos (of_decide_eq_true hc)).symm.trans h
    refine xr_forget (lo := [none, none]) trivial ?_
    exact fH_breaksKey_24_ok h hK
  · replace h := (if_neg (of_decide_eq_false hc)).symm.trans h
    refine xr_go 4 (pc' := 14) (lo' := [some (.ref v0), some (.int v1)]) (st' := [.int (v1 ^^^ (xc 1)), .ref v0]) (μ' := μ) rfl ?_
    obtain ⟨r3, hr3, h⟩ := Option.bind_eq_some_iff.mp h
    refine xr_callV (j := 63) (d' := (d + 0)) (rv1 := some (.int r3)) (μ1 := μ) (rest := []) (As := [.int (v1 ^^^ (xc 1))]) rfl rfl rfl rfl (Nat.le_of_ble_eq_true rfl) (fH_hasRow_kd hr3) rfl (by exact (fH_hasRow_ok (d := d + (0)) hr3)) ?_
    refine xr_ifc (pct := 24) rfl rfl rfl (fun hc => ?_) (fun hc => ?_)
    · replace h := (if_pos (of_decide_eq_true hc)).symm.trans h
      refine xr_forget (lo := [none, none]) trivial ?_
      exact fH_breaksKey_24_ok h hK
    · replace h := (if_neg (of_decide_eq_false hc)).symm.trans h
      refine xr_go 2 (pc' := 25) (lo' := [some (.ref v0), some (.int v1)]) (st' := [.int (xc 1)]) (μ' := μ) rfl ?_
      have ho := Option.some.inj h
      subst ho
      obtain ⟨rfl, rfl⟩ := hK
      exact xr_ret (rv := some (.int (xc 1))) rfl rfl (Or.inr ⟨rfl, Or.inr rfl⟩)
noncomputable def fH_breaksKey (a0 : Nat) (a1 : Int32) (μ : xM) : Option (Int32) := xgd μ a0 3 (fH_breaksKey_0 a0 a1 μ)
theorem fH_breaksKey_kd {a0 : Nat} {a1 : Int32} {μ : xM} {o : Int32} (h : fH_breaksKey a0 a1 μ = some o) : (xK μ a0).1 = 10 + 3 := (xgd_some h).1
theorem fH_breaksKey_ok {d : Nat} {a0 : Nat} {a1 : Int32} {μ : xM} {o : Int32} (h : fH_breaksKey a0 a1 μ = some o) : xRun (d + 1) 68 0 [some (.ref a0), some (.int a1)] [] μ (some (.int o)) μ :=
  xr_forget (lo := [some (.ref a0), some (.int a1)]) (⟨rfl, rfl, trivial⟩) (fH_breaksKey_0_ok (d := d) (xgd_some h).2 (show fH_breaksKey_K μ _ _ o from ⟨rfl, rfl⟩))
-- KeptAnswers$Holding.turnRow(I)V 
def fH_turnRow_K (rv : Option Value) (μf : xM) : (xM) → Prop := fun o => rv = none ∧ μf = o
noncomputable def fH_turnRow_0  (v0 : Nat) (v1 : Int32) (μ : xM) : Option (xM) := (ldF μ v0 3 0).bind fun x1 => (stF μ v0 3 0 (x1 ^^^ ((xc 1) <<< (v1 &&& 31)))).bind fun μ2 => some μ2
theorem fH_turnRow_0_ok {d : Nat} {v0 : Nat} {v1 : Int32} {μ : xM} {rv : Option Value} {μf : xM} {out : xM} (h : fH_turnRow_0 v0 v1 μ = some out) (hK : fH_turnRow_K rv μf out) : xRun (d + 0) 64 0 [some (.ref v0), some (.int v1)] [] μ rv μf := by
  unfold fH_turnRow_0 at h
  refine xr_go 2 (pc' := 2) (lo' := [some (.ref v0), some (.int v1)]) (st' := [.ref v0, .ref v0]) (μ' := μ) rfl ?_
  obtain ⟨x1, hx1, h⟩ := Option.bind_eq_some_iff.mp h
  refine xr_opI (pc' := 5) (lo' := [some (.ref v0), some (.int v1)]) (st' := [.ref v0]) (o := ldF μ v0 3 0) rfl hx1 ?_
  refine xr_go 4 (pc' := 9) (lo' := [some (.ref v0), some (.int v1)]) (st' := [.int (x1 ^^^ ((xc 1) <<< (v1 &&& 31))), .ref v0]) (μ' := μ) rfl ?_
  obtain ⟨μ2, hμ2, h⟩ := Option.bind_eq_some_iff.mp h
  refine xr_opM (pc' := 12) (lo' := [some (.ref v0), some (.int v1)]) (st' := []) (o := stF μ v0 3 0 (x1 ^^^ ((xc 1) <<< (v1 &&& 31)))) rfl hμ2 ?_
  have ho := Option.some.inj h
  subst ho
  obtain ⟨rfl, rfl⟩ := hK
  exact xr_ret (rv := none) rfl rfl (rfl)
noncomputable def fH_turnRow (a0 : Nat) (a1 : Int32) (μ : xM) : Option (xM) := xgd μ a0 3 (fH_turnRow_0 a0 a1 μ)
theorem fH_turnRow_kd {a0 : Nat} {a1 : Int32} {μ : xM} {o : xM} (h : fH_turnRow a0 a1 μ = some o) : (xK μ a0).1 = 10 + 3 := (xgd_some h).1
theorem fH_turnRow_ok {d : Nat} {a0 : Nat} {a1 : Int32} {μ : xM} {o : xM} (h : fH_turnRow a0 a1 μ = some o) : xRun (d + 0) 64 0 [some (.ref a0), some (.int a1)] [] μ none o :=
  xr_forget (lo := [some (.ref a0), some (.int a1)]) (⟨rfl, rfl, trivial⟩) (fH_turnRow_0_ok (d := d) (xgd_some h).2 (show fH_turnRow_K _ _ o from ⟨rfl, rfl⟩))
-- KeptAnswers$Changes.note(I)V 
def fC_note_K (rv : Option Value) (μf : xM) : (xM) → Prop := fun o => rv = none ∧ μf = o
noncomputable def fC_note_30  (v0 : Nat) (v1 : Int32) (μ : xM) : Option (xM) := (ldFR μ v0 2 0).bind fun x1 => (ldF μ v0 2 1).bind fun x2 => (stA μ x1 x2 v1).bind fun μ3 => (ldF μ3 v0 2 1).bind fun x4 => (stF μ3 v0 2 1 (x4 + (xc 1))).bind fun μ5 => some μ5
theorem fC_note_30_ok {d : Nat} {v0 : Nat} {v1 : Int32} {μ : xM} {rv : Option Value} {μf : xM} {out : xM} (h : fC_note_30 v0 v1 μ = some out) (hK : fC_note_K rv μf out) : xRun (d + 0) 58 30 [some (.ref v0), some (.int v1)] [] μ rv μf := by
  unfold fC_note_30 at h
  refine xr_go 1 (pc' := 31) (lo' := [some (.ref v0), some (.int v1)]) (st' := [.ref v0]) (μ' := μ) rfl ?_
  obtain ⟨x1, hx1, h⟩ := Option.bind_eq_some_iff.mp h
  refine xr_opA (pc' := 34) (lo' := [some (.ref v0), some (.int v1)]) (st' := []) (o := ldFR μ v0 2 0) rfl hx1 ?_
  refine xr_go 1 (pc' := 35) (lo' := [some (.ref v0), some (.int v1)]) (st' := [.ref v0, .ref x1]) (μ' := μ) rfl ?_
  obtain ⟨x2, hx2, h⟩ := Option.bind_eq_some_iff.mp h
  refine xr_opI (pc' := 38) (lo' := [some (.ref v0), some (.int v1)]) (st' := [.ref x1]) (o := ldF μ v0 2 1) rfl hx2 ?_
  refine xr_go 1 (pc' := 39) (lo' := [some (.ref v0), some (.int v1)]) (st' := [.int v1, .int x2, .ref x1]) (μ' := μ) rfl ?_
  obtain ⟨μ3, hμ3, h⟩ := Option.bind_eq_some_iff.mp h
  refine xr_opM (pc' := 40) (lo' := [some (.ref v0), some (.int v1)]) (st' := []) (o := stA μ x1 x2 v1) rfl hμ3 ?_
  refine xr_go 2 (pc' := 42) (lo' := [some (.ref v0), some (.int v1)]) (st' := [.ref v0, .ref v0]) (μ' := μ3) rfl ?_
  obtain ⟨x4, hx4, h⟩ := Option.bind_eq_some_iff.mp h
  refine xr_opI (pc' := 45) (lo' := [some (.ref v0), some (.int v1)]) (st' := [.ref v0]) (o := ldF μ3 v0 2 1) rfl hx4 ?_
  refine xr_go 2 (pc' := 47) (lo' := [some (.ref v0), some (.int v1)]) (st' := [.int (x4 + (xc 1)), .ref v0]) (μ' := μ3) rfl ?_
  obtain ⟨μ5, hμ5, h⟩ := Option.bind_eq_some_iff.mp h
  refine xr_opM (pc' := 50) (lo' := [some (.ref v0), some (.int v1)]) (st' := []) (o := stF μ3 v0 2 1 (x4 + (xc 1))) rfl hμ5 ?_
  have ho := Option.some.inj h
  subst ho
  obtain ⟨rfl, rfl⟩ := hK
  exact xr_ret (rv := none) rfl rfl (rfl)
noncomputable def fC_note_0  (v0 : Nat) (v1 : Int32) (μ : xM) : Option (xM) := (ldF μ v0 2 1).bind fun x6 => if x6 < (xc 40) then (fC_note_30 v0 v1 μ) else ((ldFR μ v0 2 0).bind fun x7 => (ldFR μ v0 2 0).bind fun x8 => (xcopy μ x7 (xc 1) x8 (xc 0) (xc 39)).bind fun μ9 => (stF μ9 v0 2 1 (xc 39)).bind fun μ10 => fC_note_30 v0 v1 μ10)
theorem fC_note_0_ok {d : Nat} {v0 : Nat} {v1 : Int32} {μ : xM} {rv : Option Value} {μf : xM} {out : xM} (h : fC_note_0 v0 v1 μ = some out) (hK : fC_note_K rv μf out) : xRun (d + 0) 58 0 [some (.ref v0), some (.int v1)] [] μ rv μf := by
  unfold fC_note_0 at h
  refine xr_go 1 (pc' := 1) (lo' := [some (.ref v0), some (.int v1)]) (st' := [.ref v0]) (μ' := μ) rfl ?_
  obtain ⟨x6, hx6, h⟩ := Option.bind_eq_some_iff.mp h
  refine xr_opI (pc' := 4) (lo' := [some (.ref v0), some (.int v1)]) (st' := []) (o := ldF μ v0 2 1) rfl hx6 ?_
  refine xr_go 1 (pc' := 6) (lo' := [some (.ref v0), some (.int v1)]) (st' := [.int (xc 40), .int x6]) (μ' := μ) rfl ?_
  refine xr_icmp (pct := 30) rfl rfl rfl (fun hc => ?_) (fun hc => ?_)
  · replace h := (if_pos (of_decide_eq_true hc)).symm.trans h
    refine xr_forget (lo := [some (.ref v0), some (.int v1)]) ⟨rfl, rfl, trivial⟩ ?_
    exact fC_note_30_ok h hK
  · replace h := (if_neg (of_decide_eq_false hc)).symm.trans h
    refine xr_go 1 (pc' := 10) (lo' := [some (.ref v0), some (.int v1)]) (st' := [.ref v0]) (μ' := μ) rfl ?_
    obtain ⟨x7, hx7, h⟩ := Option.bind_eq_some_iff.mp h
    refine xr_opA (pc' := 13) (lo' := [some (.ref v0), some (.int v1)]) (st' := []) (o := ldFR μ v0 2 0) rfl hx7 ?_
    refine xr_go 2 (pc' := 15) (lo' := [some (.ref v0), some (.int v1)]) (st' := [.ref v0, .int (xc 1), .ref x7]) (μ' := μ) rfl ?_
    obtain ⟨x8, hx8, h⟩ := Option.bind_eq_some_iff.mp h
    refine xr_opA (pc' := 18) (lo' := [some (.ref v0), some (.int v1)]) (st' := [.int (xc 1), .ref x7]) (o := ldFR μ v0 2 0) rfl hx8 ?_
    refine xr_go 2 (pc' := 21) (lo' := [some (.ref v0), some (.int v1)]) (st' := [.int (xc 39), .int (xc 0), .ref x8, .int (xc 1), .ref x7]) (μ' := μ) rfl ?_
    obtain ⟨μ9, hμ9, h⟩ := Option.bind_eq_some_iff.mp h
    refine xr_opM (pc' := 24) (lo' := [some (.ref v0), some (.int v1)]) (st' := []) (o := xcopy μ x7 (xc 1) x8 (xc 0) (xc 39)) rfl hμ9 ?_
    refine xr_go 2 (pc' := 27) (lo' := [some (.ref v0), some (.int v1)]) (st' := [.int (xc 39), .ref v0]) (μ' := μ9) rfl ?_
    obtain ⟨μ10, hμ10, h⟩ := Option.bind_eq_some_iff.mp h
    refine xr_opM (pc' := 30) (lo' := [some (.ref v0), some (.int v1)]) (st' := []) (o := stF μ9 v0 2 1 (xc 39)) rfl hμ10 ?_
    refine xr_forget (lo := [some (.ref v0), some (.int v1)]) ⟨rfl, rfl, trivial⟩ ?_
    exact fC_note_30_ok h hK
noncomputable def fC_note (a0 : Nat) (a1 : Int32) (μ : xM) : Option (xM) := xgd μ a0 2 (fC_note_0 a0 a1 μ)
theorem fC_note_kd {a0 : Nat} {a1 : Int32} {μ : xM} {o : xM} (h : fC_note a0 a1 μ = some o) : (xK μ a0).1 = 10 + 2 := (xgd_some h).1
theorem fC_note_ok {d : Nat} {a0 : Nat} {a1 : Int32} {μ : xM} {o : xM} (h : fC_note a0 a1 μ = some o) : xRun (d + 0) 58 0 [some (.ref a0), some (.int a1)] [] μ none o :=
  xr_forget (lo := [some (.ref a0), some (.int a1)]) (⟨rfl, rfl, trivial⟩) (fC_note_0_ok (d := d) (xgd_some h).2 (show fC_note_K _ _ o from ⟨rfl, rfl⟩))
-- KeptAnswers.bringIn(I)V 
def fX_bringIn_K (rv : Option Value) (μf : xM) : (xM) → Prop := fun o => rv = none ∧ μf = o
noncomputable def fX_bringIn_0  (v0 : Nat) (v1 : Int32) (μ : xM) : Option (xM) := (ldFR μ v0 0 0).bind fun x1 => (fH_turnRow x1 v1 μ).bind fun r2 => (ldFR r2 v0 0 5).bind fun x3 => (fC_note x3 v1 r2).bind fun r4 => some r4
theorem fX_bringIn_0_ok {d : Nat} {v0 : Nat} {v1 : Int32} {μ : xM} {rv : Option Value} {μf : xM} {out : xM} (h : fX_bringIn_0 v0 v1 μ = some out) (hK : fX_bringIn_K rv μf out) : xRun (d + 1) 45 0 [some (.ref v0), some (.int v1)] [] μ rv μf := by
  unfold fX_bringIn_0 at h
  refine xr_go 1 (pc' := 1) (lo' := [some (.ref v0), some (.int v1)]) (st' := [.ref v0]) (μ' := μ) rfl ?_
  obtain ⟨x1, hx1, h⟩ := Option.bind_eq_some_iff.mp h
  refine xr_opA (pc' := 4) (lo' := [some (.ref v0), some (.int v1)]) (st' := []) (o := ldFR μ v0 0 0) rfl hx1 ?_
  refine xr_go 1 (pc' := 5) (lo' := [some (.ref v0), some (.int v1)]) (st' := [.int v1, .ref x1]) (μ' := μ) rfl ?_
  obtain ⟨r2, hr2, h⟩ := Option.bind_eq_some_iff.mp h
  refine xr_callV (j := 64) (d' := (d + 0)) (rv1 := none) (μ1 := r2) (rest := []) (As := [.int v1]) rfl rfl rfl rfl (Nat.le_of_ble_eq_true rfl) (fH_turnRow_kd hr2) rfl (by exact (fH_turnRow_ok (d := d + (0)) hr2)) ?_
  refine xr_go 1 (pc' := 9) (lo' := [some (.ref v0), some (.int v1)]) (st' := [.ref v0]) (μ' := r2) rfl ?_
  obtain ⟨x3, hx3, h⟩ := Option.bind_eq_some_iff.mp h
  refine xr_opA (pc' := 12) (lo' := [some (.ref v0), some (.int v1)]) (st' := []) (o := ldFR r2 v0 0 5) rfl hx3 ?_
  refine xr_go 1 (pc' := 13) (lo' := [some (.ref v0), some (.int v1)]) (st' := [.int v1, .ref x3]) (μ' := r2) rfl ?_
  obtain ⟨r4, hr4, h⟩ := Option.bind_eq_some_iff.mp h
  refine xr_callV (j := 58) (d' := (d + 0)) (rv1 := none) (μ1 := r4) (rest := []) (As := [.int v1]) rfl rfl rfl rfl (Nat.le_of_ble_eq_true rfl) (fC_note_kd hr4) rfl (by exact (fC_note_ok (d := d + (0)) hr4)) ?_
  have ho := Option.some.inj h
  subst ho
  obtain ⟨rfl, rfl⟩ := hK
  exact xr_ret (rv := none) rfl rfl (rfl)
noncomputable def fX_bringIn (a0 : Nat) (a1 : Int32) (μ : xM) : Option (xM) := xgd μ a0 0 (fX_bringIn_0 a0 a1 μ)
theorem fX_bringIn_kd {a0 : Nat} {a1 : Int32} {μ : xM} {o : xM} (h : fX_bringIn a0 a1 μ = some o) : (xK μ a0).1 = 10 + 0 := (xgd_some h).1
theorem fX_bringIn_ok {d : Nat} {a0 : Nat} {a1 : Int32} {μ : xM} {o : xM} (h : fX_bringIn a0 a1 μ = some o) : xRun (d + 1) 45 0 [some (.ref a0), some (.int a1)] [] μ none o :=
  xr_forget (lo := [some (.ref a0), some (.int a1)]) (⟨rfl, rfl, trivial⟩) (fX_bringIn_0_ok (d := d) (xgd_some h).2 (show fX_bringIn_K _ _ o from ⟨rfl, rfl⟩))
-- KeptAnswers.in(III)I 
def fX_in_K (rv : Option Value) (μf : xM) : (Int32 × xM) → Prop := fun o => rv = some (.int o.1) ∧ μf = o.2
noncomputable def fX_in_0  (v0 : Nat) (v1 : Int32) (v2 : Int32) (v3 : Int32) (μ : xM) : Option (Int32 × xM) := (fX_rowRefusal v1 v2 v3 μ).bind fun r1 => if r1 = 0 then ((fX_rowBit v1 v2 v3 μ).bind fun r2 => (ldFR μ v0 0 0).bind fun x3 => (fH_hasRow x3 r2 μ).bind fun r4 => if r4 = 0 then ((ldFR μ v0 0 0).bind fun x5 => (fH_breaksKey x5 r2 μ).bind fun r6 => if r6 = 0 then ((fX_bringIn v0 r2 μ).bind fun r7 => some ((xc 1, r7))) else ((fX_refuse v0 (xc (-3)) μ).bind fun r8 => some ((r8.1, r8.2)))) else (some ((xc 0, μ)))) else ((fX_refuse v0 r1 μ).bind fun r9 => some ((r9.1, r9.2)))
theorem fX_in_0_ok {d : Nat} {v0 : Nat} {v1 : Int32} {v2 : Int32} {v3 : Int32} {μ : xM} {rv : Option Value} {μf : xM} {out : Int32 × xM} (h : fX_in_0 v0 v1 v2 v3 μ = some out) (hK : fX_in_K rv μf out) : xRun (d + 2) 1 0 [some (.ref v0), some (.int v1), some (.int v2), some (.int v3), none, none] [] μ rv μf := by
  unfold fX_in_0 at h
  refine xr_go 3 (pc' := 3) (lo' := [some (.ref v0), some (.int v1), some (.int v2), some (.int v3), none, none]) (st' := [.int v3, .int v2, .int v1]) (μ' := μ) rfl ?_
  obtain ⟨r1, hr1, h⟩ := Option.bind_eq_some_iff.mp h
  refine xr_callS (j := 42) (d' := (d + 1)) (rv1 := some (.int r1)) (μ1 := μ) (rest := []) (As := [.int v1, .int v2, .int v3]) rfl rfl rfl rfl (Nat.le_of_ble_eq_true rfl) rfl (by exact (fX_rowRefusal_ok (d := d + (0)) hr1)) ?_
  refine xr_go 2 (pc' := 10) (lo' := [some (.ref v0), some (.int v1), some (.int v2), some (.int v3), some (.int r1), none]) (st' := [.int r1]) (μ' := μ) rfl ?_
  refine xr_ifc (pct := 20) rfl rfl rfl (fun hc => ?_) (fun hc => ?_)
  · replace h := (if_pos (of_decide_eq_true hc)).symm.trans h
    refine xr_go 3 (pc' := 23) (lo' := [some (.ref v0), some (.int v1), some (.int v2), some (.int v3), some (.int r1), none]) (st' := [.int v3, .int v2, .int v1]) (μ' := μ) rfl ?_
    obtain ⟨r2, hr2, h⟩ := Option.bind_eq_some_iff.mp h
    refine xr_callS (j := 44) (d' := (d + 1)) (rv1 := some (.int r2)) (μ1 := μ) (rest := []) (As := [.int v1, .int v2, .int v3]) rfl rfl rfl rfl (Nat.le_of_ble_eq_true rfl) rfl (by exact (fX_rowBit_ok (d := d + (1)) hr2)) ?_
    refine xr_go 2 (pc' := 29) (lo' := [some (.ref v0), some (.int v1), some (.int v2), some (.int v3), some (.int r1), some (.int r2)]) (st' := [.ref v0]) (μ' := μ) rfl ?_
    obtain ⟨x3, hx3, h⟩ := Option.bind_eq_some_iff.mp h
    refine xr_opA (pc' := 32) (lo' := [some (.ref v0), some (.int v1), some (.int v2), some (.int v3), some (.int r1), some (.int r2)]) (st' := []) (o := ldFR μ v0 0 0) rfl hx3 ?_
    refine xr_go 1 (pc' := 34) (lo' := [some (.ref v0), some (.int v1), some (.int v2), some (.int v3), some (.int r1), some (.int r2)]) (st' := [.int r2, .ref x3]) (μ' := μ) rfl ?_
    obtain ⟨r4, hr4, h⟩ := Option.bind_eq_some_iff.mp h
    refine xr_callV (j := 63) (d' := (d + 1)) (rv1 := some (.int r4)) (μ1 := μ) (rest := []) (As := [.int r2]) rfl rfl rfl rfl (Nat.le_of_ble_eq_true rfl) (fH_hasRow_kd hr4) rfl (by exact (fH_hasRow_ok (d := d + (1)) hr4)) ?_
    refine xr_ifc (pct := 42) rfl rfl rfl (fun hc => ?_) (fun hc => ?_)
    · replace h := (if_pos (of_decide_eq_true hc)).symm.trans h
      refine xr_go 1 (pc' := 43) (lo' := [some (.ref v0), some (.int v1), some (.int v2), some (.int v3), some (.int r1), some (.int r2)]) (st' := [.ref v0]) (μ' := μ) rfl ?_
      obtain ⟨x5, hx5, h⟩ := Option.bind_eq_some_iff.mp h
      refine xr_opA (pc' := 46) (lo' := [some (.ref v0), some (.int v1), some (.int v2), some (.int v3), some (.int r1), some (.int r2)]) (st' := []) (o := ldFR μ v0 0 0) rfl hx5 ?_
      refine xr_go 1 (pc' := 48) (lo' := [some (.ref v0), some (.int v1), some (.int v2), some (.int v3), some (.int r1), some (.int r2)]) (st' := [.int r2, .ref x5]) (μ' := μ) rfl ?_
      obtain ⟨r6, hr6, h⟩ := Option.bind_eq_some_iff.mp h
      refine xr_callV (j := 68) (d' := (d + 1)) (rv1 := some (.int r6)) (μ1 := μ) (rest := []) (As := [.int r2]) rfl rfl rfl rfl (Nat.le_of_ble_eq_true rfl) (fH_breaksKey_kd hr6) rfl (by exact (fH_breaksKey_ok (d := d + (0)) hr6)) ?_
      refine xr_ifc (pct := 61) rfl rfl rfl (fun hc => ?_) (fun hc => ?_)
      · replace h := (if_pos (of_decide_eq_true hc)).symm.trans h
        refine xr_go 2 (pc' := 64) (lo' := [some (.ref v0), some (.int v1), some (.int v2), some (.int v3), some (.int r1), some (.int r2)]) (st' := [.int r2, .ref v0]) (μ' := μ) rfl ?_
        obtain ⟨r7, hr7, h⟩ := Option.bind_eq_some_iff.mp h
        refine xr_callV (j := 45) (d' := (d + 1)) (rv1 := none) (μ1 := r7) (rest := []) (As := [.int r2]) rfl rfl rfl rfl (Nat.le_of_ble_eq_true rfl) (fX_bringIn_kd hr7) rfl (by exact (fX_bringIn_ok (d := d + (0)) hr7)) ?_
        refine xr_go 1 (pc' := 68) (lo' := [some (.ref v0), some (.int v1), some (.int v2), some (.int v3), some (.int r1), some (.int r2)]) (st' := [.int (xc 1)]) (μ' := r7) rfl ?_
        have ho := Option.some.inj h
        subst ho
        obtain ⟨rfl, rfl⟩ := hK
        exact xr_ret (rv := some (.int (xc 1))) rfl rfl (Or.inl rfl)
      · replace h := (if_neg (of_decide_eq_false hc)).symm.trans h
        refine xr_go 2 (pc' := 57) (lo' := [some (.ref v0), some (.int v1), some (.int v2), some (.int v3), some (.int r1), some (.int r2)]) (st' := [.int (xc (-3)), .ref v0]) (μ' := μ) rfl ?_
        obtain ⟨r8, hr8, h⟩ := Option.bind_eq_some_iff.mp h
        refine xr_callV (j := 37) (d' := (d + 1)) (rv1 := some (.int r8.1)) (μ1 := r8.2) (rest := []) (As := [.int (xc (-3))]) rfl rfl rfl rfl (Nat.le_of_ble_eq_true rfl) (fX_refuse_kd hr8) rfl (by exact (fX_refuse_ok (d := d + (1)) hr8)) ?_
        have ho := Option.some.inj h
        subst ho
        obtain ⟨rfl, rfl⟩ := hK
        exact xr_ret (rv := some (.int r8.1)) rfl rfl (Or.inl rfl)
    · replace h := (if_neg (of_decide_eq_false hc)).symm.trans h
      refine xr_go 1 (pc' := 41) (lo' := [some (.ref v0), some (.int v1), some (.int v2), some (.int v3), some (.int r1), some (.int r2)]) (st' := [.int (xc 0)]) (μ' := μ) rfl ?_
      have ho := Option.some.inj h
      subst ho
      obtain ⟨rfl, rfl⟩ := hK
      exact xr_ret (rv := some (.int (xc 0))) rfl rfl (Or.inl rfl)
  · replace h := (if_neg (of_decide_eq_false hc)).symm.trans h
    refine xr_go 2 (pc' := 16) (lo' := [some (.ref v0), some (.int v1), some (.int v2), some (.int v3), some (.int r1), none]) (st' := [.int r1, .ref v0]) (μ' := μ) rfl ?_
    obtain ⟨r9, hr9, h⟩ := Option.bind_eq_some_iff.mp h
    refine xr_callV (j := 37) (d' := (d + 1)) (rv1 := some (.int r9.1)) (μ1 := r9.2) (rest := []) (As := [.int r1]) rfl rfl rfl rfl (Nat.le_of_ble_eq_true rfl) (fX_refuse_kd hr9) rfl (by exact (fX_refuse_ok (d := d + (1)) hr9)) ?_
    have ho := Option.some.inj h
    subst ho
    obtain ⟨rfl, rfl⟩ := hK
    exact xr_ret (rv := some (.int r9.1)) rfl rfl (Or.inl rfl)
noncomputable def fX_in (a0 : Nat) (a1 : Int32) (a2 : Int32) (a3 : Int32) (μ : xM) : Option (Int32 × xM) := xgd μ a0 0 (fX_in_0 a0 a1 a2 a3 μ)
theorem fX_in_kd {a0 : Nat} {a1 : Int32} {a2 : Int32} {a3 : Int32} {μ : xM} {o : Int32 × xM} (h : fX_in a0 a1 a2 a3 μ = some o) : (xK μ a0).1 = 10 + 0 := (xgd_some h).1
theorem fX_in_ok {d : Nat} {a0 : Nat} {a1 : Int32} {a2 : Int32} {a3 : Int32} {μ : xM} {o : Int32 × xM} (h : fX_in a0 a1 a2 a3 μ = some o) : xRun (d + 2) 1 0 [some (.ref a0), some (.int a1), some (.int a2), some (.int a3), none, none] [] μ (some (.int o.1)) o.2 :=
  xr_forget (lo := [some (.ref a0), some (.int a1), some (.int a2), some (.int a3), none, none]) (⟨rfl, rfl, rfl, rfl, trivial⟩) (fX_in_0_ok (d := d) (xgd_some h).2 (show fX_in_K _ _ o from ⟨rfl, rfl⟩))
-- KeptAnswersModel.isIn(JJJ)Z 
def fM_isIn_K (μ : xM) (rv : Option Value) (μf : xM) : (Int32) → Prop := fun o => rv = some (.int o) ∧ μf = μ
noncomputable def fM_isIn_17  (μ : xM) : Option (Int32) := some (xc 0)
theorem fM_isIn_17_ok {d : Nat} {μ : xM} {rv : Option Value} {μf : xM} {out : Int32} (h : fM_isIn_17 μ = some out) (hK : fM_isIn_K μ rv μf out) : xRun (d + 0) 137 17 [none, none, none, none, none, none] [] μ rv μf := by
  unfold fM_isIn_17 at h
  refine xr_go 1 (pc' := 18) (lo' := [none, none, none, none, none, none]) (st' := [.int (xc 0)]) (μ' := μ) rfl ?_
  have ho := Option.some.inj h
  subst ho
  obtain ⟨rfl, rfl⟩ := hK
  exact xr_ret (rv := some (.int (xc 0))) rfl rfl (Or.inr ⟨rfl, Or.inl rfl⟩)
noncomputable def fM_isIn_0  (v0 : Int64) (v2 : Int64) (v4 : Int64) (μ : xM) : Option (Int32) := if (lg_cmp v0 v2) < 0 then (fM_isIn_17 μ) else (if 0 < (lg_cmp v0 v4) then (fM_isIn_17 μ) else (some (xc 1)))
theorem fM_isIn_0_ok {d : Nat} {v0 : Int64} {v2 : Int64} {v4 : Int64} {μ : xM} {rv : Option Value} {μf : xM} {out : Int32} (h : fM_isIn_0 v0 v2 v4 μ = some out) (hK : fM_isIn_K μ rv μf out) : xRun (d + 0) 137 0 [some (.long v0), none, some (.long v2), none, some (.long v4), none] [] μ rv μf := by
  unfold fM_isIn_0 at h
  refine xr_go 3 (pc' := 3) (lo' := [some (.long v0), none, some (.long v2), none, some (.long v4), none]) (st' := [.int (lg_cmp v0 v2)]) (μ' := μ) rfl ?_
  refine xr_ifc (pct := 17) rfl rfl rfl (fun hc => ?_) (fun hc => ?_)
  · replace h := (if_pos (of_decide_eq_true hc)).symm.trans h
    refine xr_forget (lo := [none, none, none, none, none, none]) trivial ?_
    exact fM_isIn_17_ok h hK
  · replace h := (if_neg (of_decide_eq_false hc)).symm.trans h
    refine xr_go 3 (pc' := 10) (lo' := [some (.long v0), none, some (.long v2), none, some (.long v4), none]) (st' := [.int (lg_cmp v0 v4)]) (μ' := μ) rfl ?_
    refine xr_ifc (pct := 17) rfl rfl rfl (fun hc => ?_) (fun hc => ?_)
    · replace h := (if_pos (of_decide_eq_true hc)).symm.trans h
      refine xr_forget (lo := [none, none, none, none, none, none]) trivial ?_
      exact fM_isIn_17_ok h hK
    · replace h := (if_neg (of_decide_eq_false hc)).symm.trans h
      refine xr_go 2 (pc' := 18) (lo' := [some (.long v0), none, some (.long v2), none, some (.long v4), none]) (st' := [.int (xc 1)]) (μ' := μ) rfl ?_
      have ho := Option.some.inj h
      subst ho
      obtain ⟨rfl, rfl⟩ := hK
      exact xr_ret (rv := some (.int (xc 1))) rfl rfl (Or.inr ⟨rfl, Or.inr rfl⟩)
noncomputable def fM_isIn (a0 : Int64) (a1 : Int64) (a2 : Int64) (μ : xM) : Option (Int32) := fM_isIn_0 a0 a1 a2 μ
theorem fM_isIn_ok {d : Nat} {a0 : Int64} {a1 : Int64} {a2 : Int64} {μ : xM} {o : Int32} (h : fM_isIn a0 a1 a2 μ = some o) : xRun (d + 0) 137 0 [some (.long a0), none, some (.long a1), none, some (.long a2), none] [] μ (some (.int o)) μ :=
  xr_forget (lo := [some (.long a0), none, some (.long a1), none, some (.long a2), none]) (⟨rfl, rfl, rfl, trivial⟩) (fM_isIn_0_ok (d := d) h (show fM_isIn_K μ _ _ o from ⟨rfl, rfl⟩))
-- KeptAnswersModel.wrongRow(III)I 
def fM_wrongRow_K (μ : xM) (rv : Option Value) (μf : xM) : (Int32) → Prop := fun o => rv = some (.int o) ∧ μf = μ
noncomputable def fM_wrongRow_39  (μ : xM) : Option (Int32) := some (xc (-6))
theorem fM_wrongRow_39_ok {d : Nat} {μ : xM} {rv : Option Value} {μf : xM} {out : Int32} (h : fM_wrongRow_39 μ = some out) (hK : fM_wrongRow_K μ rv μf out) : xRun (d + 1) 143 39 [none, none, none, none] [] μ rv μf := by
  unfold fM_wrongRow_39 at h
  refine xr_go 2 (pc' := 45) (lo' := [none, none, none, none]) (st' := [.int (xc (-6))]) (μ' := μ) rfl ?_
  have ho := Option.some.inj h
  subst ho
  obtain ⟨rfl, rfl⟩ := hK
  exact xr_ret (rv := some (.int (xc (-6)))) rfl rfl (Or.inl rfl)
noncomputable def fM_wrongRow_24  (μ : xM) : Option (Int32) := some (xc (-4))
theorem fM_wrongRow_24_ok {d : Nat} {μ : xM} {rv : Option Value} {μf : xM} {out : Int32} (h : fM_wrongRow_24 μ = some out) (hK : fM_wrongRow_K μ rv μf out) : xRun (d + 1) 143 24 [none, none, none, none] [] μ rv μf := by
  unfold fM_wrongRow_24 at h
  refine xr_go 2 (pc' := 45) (lo' := [none, none, none, none]) (st' := [.int (xc (-4))]) (μ' := μ) rfl ?_
  have ho := Option.some.inj h
  subst ho
  obtain ⟨rfl, rfl⟩ := hK
  exact xr_ret (rv := some (.int (xc (-4)))) rfl rfl (Or.inl rfl)
noncomputable def fM_wrongRow_0  (v1 : Int32) (v2 : Int32) (v3 : Int32) (μ : xM) : Option (Int32) := (fM_isIn (Int32.toInt64 v1) (Int64.ofNat 0) (Int64.ofNat 2) μ).bind fun r1 => if r1 = 0 then (some (xc (-1))) else (if v2 < 0 then (fM_wrongRow_24 μ) else (if 0 ≤ v3 then (if (xc 1) < v2 then (fM_wrongRow_39 μ) else (if v3 ≤ (xc 1) then (some (xc 0)) else (fM_wrongRow_39 μ))) else (fM_wrongRow_24 μ)))
theorem fM_wrongRow_0_ok {d : Nat} {v1 : Int32} {v2 : Int32} {v3 : Int32} {μ : xM} {rv : Option Value} {μf : xM} {out : Int32} (h : fM_wrongRow_0 v1 v2 v3 μ = some out) (hK : fM_wrongRow_K μ rv μf out) : xRun (d + 1) 143 0 [none, some (.int v1), some (.int v2), some (.int v3)] [] μ rv μf := by
  unfold fM_wrongRow_0 at h
  refine xr_go 4 (pc' := 6) (lo' := [none, some (.int v1), some (.int v2), some (.int v3)]) (st' := [.long (Int64.ofNat 2), .long (Int64.ofNat 0), .long (Int32.toInt64 v1)]) (μ' := μ) rfl ?_
  obtain ⟨r1, hr1, h⟩ := Option.bind_eq_some_iff.mp h
  refine xr_callS (j := 137) (d' := (d + 0)) (rv1 := some (.int r1)) (μ1 := μ) (rest := []) (As := [.long (Int32.toInt64 v1), .long (Int64.ofNat 0), .long (Int64.ofNat 2)]) rfl rfl rfl rfl (Nat.le_of_ble_eq_true rfl) rfl (by exact (fM_isIn_ok (d := d + (0)) hr1)) ?_
  refine xr_ifc (pct := 16) rfl rfl rfl (fun hc => ?_) (fun hc => ?_)
  · replace h := (if_neg (of_decide_eq_true hc)).symm.trans h
    refine xr_go 1 (pc' := 17) (lo' := [none, some (.int v1), some (.int v2), some (.int v3)]) (st' := [.int v2]) (μ' := μ) rfl ?_
    refine xr_ifc (pct := 24) rfl rfl rfl (fun hc => ?_) (fun hc => ?_)
    · replace h := (if_pos (of_decide_eq_true hc)).symm.trans h
      refine xr_forget (lo := [none, none, none, none]) trivial ?_
      exact fM_wrongRow_24_ok h hK
    · replace h := (if_neg (of_decide_eq_false hc)).symm.trans h
      refine xr_go 1 (pc' := 21) (lo' := [none, some (.int v1), some (.int v2), some (.int v3)]) (st' := [.int v3]) (μ' := μ) rfl ?_
      refine xr_ifc (pct := 29) rfl rfl rfl (fun hc => ?_) (fun hc => ?_)
      · replace h := (if_pos (of_decide_eq_true hc)).symm.trans h
        refine xr_go 2 (pc' := 31) (lo' := [none, some (.int v1), some (.int v2), some (.int v3)]) (st' := [.int (xc 1), .int v2]) (μ' := μ) rfl ?_
        refine xr_icmp (pct := 39) rfl rfl rfl (fun hc => ?_) (fun hc => ?_)
        · replace h := (if_pos (of_decide_eq_true hc)).symm.trans h
          refine xr_forget (lo := [none, none, none, none]) trivial ?_
          exact fM_wrongRow_39_ok h hK
        · replace h := (if_neg (of_decide_eq_false hc)).symm.trans h
          refine xr_go 2 (pc' := 36) (lo' := [none, some (.int v1), some (.int v2), some (.int v3)]) (st' := [.int (xc 1), .int v3]) (μ' := μ) rfl ?_
          refine xr_icmp (pct := 44) rfl rfl rfl (fun hc => ?_) (fun hc => ?_)
          · replace h := (if_pos (of_decide_eq_true hc)).symm.trans h
            refine xr_go 1 (pc' := 45) (lo' := [none, some (.int v1), some (.int v2), some (.int v3)]) (st' := [.int (xc 0)]) (μ' := μ) rfl ?_
            have ho := Option.some.inj h
            subst ho
            obtain ⟨rfl, rfl⟩ := hK
            exact xr_ret (rv := some (.int (xc 0))) rfl rfl (Or.inl rfl)
          · replace h := (if_neg (of_decide_eq_false hc)).symm.trans h
            refine xr_forget (lo := [none, none, none, none]) trivial ?_
            exact fM_wrongRow_39_ok h hK
      · replace h := (if_neg (of_decide_eq_false hc)).symm.trans h
        refine xr_forget (lo := [none, none, none, none]) trivial ?_
        exact fM_wrongRow_24_ok h hK
  · replace h := (if_pos (Decidable.of_not_not (of_decide_eq_false hc))).symm.trans h
    refine xr_go 2 (pc' := 45) (lo' := [none, some (.int v1), some (.int v2), some (.int v3)]) (st' := [.int (xc (-1))]) (μ' := μ) rfl ?_
    have ho := Option.some.inj h
    subst ho
    obtain ⟨rfl, rfl⟩ := hK
    exact xr_ret (rv := some (.int (xc (-1)))) rfl rfl (Or.inl rfl)
noncomputable def fM_wrongRow (a0 : Nat) (a1 : Int32) (a2 : Int32) (a3 : Int32) (μ : xM) : Option (Int32) := xgd μ a0 9 (fM_wrongRow_0 a1 a2 a3 μ)
theorem fM_wrongRow_kd {a0 : Nat} {a1 : Int32} {a2 : Int32} {a3 : Int32} {μ : xM} {o : Int32} (h : fM_wrongRow a0 a1 a2 a3 μ = some o) : (xK μ a0).1 = 10 + 9 := (xgd_some h).1
theorem fM_wrongRow_ok {d : Nat} {a0 : Nat} {a1 : Int32} {a2 : Int32} {a3 : Int32} {μ : xM} {o : Int32} (h : fM_wrongRow a0 a1 a2 a3 μ = some o) : xRun (d + 1) 143 0 [some (.ref a0), some (.int a1), some (.int a2), some (.int a3)] [] μ (some (.int o)) μ :=
  xr_forget (lo := [none, some (.int a1), some (.int a2), some (.int a3)]) (⟨rfl, rfl, rfl, trivial⟩) (fM_wrongRow_0_ok (d := d) (xgd_some h).2 (show fM_wrongRow_K μ _ _ o from ⟨rfl, rfl⟩))
-- KeptAnswersModel.isKeyed(I)Z 
def fM_isKeyed_K (μ : xM) (rv : Option Value) (μf : xM) : (Int32) → Prop := fun o => rv = some (.int o) ∧ μf = μ
noncomputable def fM_isKeyed_20  (μ : xM) : Option (Int32) := some (xc 0)
theorem fM_isKeyed_20_ok {d : Nat} {μ : xM} {rv : Option Value} {μf : xM} {out : Int32} (h : fM_isKeyed_20 μ = some out) (hK : fM_isKeyed_K μ rv μf out) : xRun (d + 0) 142 20 [none] [] μ rv μf := by
  unfold fM_isKeyed_20 at h
  refine xr_go 1 (pc' := 21) (lo' := [none]) (st' := [.int (xc 0)]) (μ' := μ) rfl ?_
  have ho := Option.some.inj h
  subst ho
  obtain ⟨rfl, rfl⟩ := hK
  exact xr_ret (rv := some (.int (xc 0))) rfl rfl (Or.inr ⟨rfl, Or.inl rfl⟩)
noncomputable def fM_isKeyed_0  (v0 : Int32) (μ : xM) : Option (Int32) := if (v0 &&& (xc 3)) = (xc 3) then (fM_isKeyed_20 μ) else (if (v0 &&& (xc 12)) = (xc 12) then (fM_isKeyed_20 μ) else (some (xc 1)))
theorem fM_isKeyed_0_ok {d : Nat} {v0 : Int32} {μ : xM} {rv : Option Value} {μf : xM} {out : Int32} (h : fM_isKeyed_0 v0 μ = some out) (hK : fM_isKeyed_K μ rv μf out) : xRun (d + 0) 142 0 [some (.int v0)] [] μ rv μf := by
  unfold fM_isKeyed_0 at h
  refine xr_go 4 (pc' := 4) (lo' := [some (.int v0)]) (st' := [.int (xc 3), .int (v0 &&& (xc 3))]) (μ' := μ) rfl ?_
  refine xr_icmp (pct := 20) rfl rfl rfl (fun hc => ?_) (fun hc => ?_)
  · replace h := (if_pos (of_decide_eq_true hc)).symm.trans h
    refine xr_forget (lo := [none]) trivial ?_
    exact fM_isKeyed_20_ok h hK
  · replace h := (if_neg (of_decide_eq_false hc)).symm.trans h
    refine xr_go 4 (pc' := 13) (lo' := [some (.int v0)]) (st' := [.int (xc 12), .int (v0 &&& (xc 12))]) (μ' := μ) rfl ?_
    refine xr_icmp (pct := 20) rfl rfl rfl (fun hc => ?_) (fun hc => ?_)
    · replace h := (if_pos (of_decide_eq_true hc)).symm.trans h
      refine xr_forget (lo := [none]) trivial ?_
      exact fM_isKeyed_20_ok h hK
    · replace h := (if_neg (of_decide_eq_false hc)).symm.trans h
      refine xr_go 2 (pc' := 21) (lo' := [some (.int v0)]) (st' := [.int (xc 1)]) (μ' := μ) rfl ?_
      have ho := Option.some.inj h
      subst ho
      obtain ⟨rfl, rfl⟩ := hK
      exact xr_ret (rv := some (.int (xc 1))) rfl rfl (Or.inr ⟨rfl, Or.inr rfl⟩)
noncomputable def fM_isKeyed (a0 : Int32) (μ : xM) : Option (Int32) := fM_isKeyed_0 a0 μ
theorem fM_isKeyed_ok {d : Nat} {a0 : Int32} {μ : xM} {o : Int32} (h : fM_isKeyed a0 μ = some o) : xRun (d + 0) 142 0 [some (.int a0)] [] μ (some (.int o)) μ :=
  xr_forget (lo := [some (.int a0)]) (⟨rfl, trivial⟩) (fM_isKeyed_0_ok (d := d) h (show fM_isKeyed_K μ _ _ o from ⟨rfl, rfl⟩))
-- KeptAnswersModel.remember(I)V 
def fM_remember_K (rv : Option Value) (μf : xM) : (xM) → Prop := fun o => rv = none ∧ μf = o
def fM_remember_K11 (v0 : Nat) (v1 : Int32) (d : Nat) (rv : Option Value) (μf : xM) : ((Int32 × xM) ⊕ (xM)) → Prop := Sum.elim (fun s : Int32 × xM => xRun (d + 0) 144 11 [some (.ref v0), some (.int v1), some (.int s.1)] [] s.2 rv μf) (fM_remember_K rv μf)
noncomputable def fM_remember_43  (v0 : Nat) (v1 : Int32) (μ : xM) : Option (xM) := (ldFR μ v0 9 2).bind fun x1 => (ldF μ v0 9 3).bind fun x2 => (stA μ x1 x2 v1).bind fun μ3 => (ldF μ3 v0 9 3).bind fun x4 => (stF μ3 v0 9 3 (x4 + (xc 1))).bind fun μ5 => some μ5
theorem fM_remember_43_ok {d : Nat} {v0 : Nat} {v1 : Int32} {μ : xM} {rv : Option Value} {μf : xM} {out : xM} (h : fM_remember_43 v0 v1 μ = some out) (hK : fM_remember_K rv μf out) : xRun (d + 0) 144 43 [some (.ref v0), some (.int v1), none] [] μ rv μf := by
  unfold fM_remember_43 at h
  refine xr_go 1 (pc' := 44) (lo' := [some (.ref v0), some (.int v1), none]) (st' := [.ref v0]) (μ' := μ) rfl ?_
  obtain ⟨x1, hx1, h⟩ := Option.bind_eq_some_iff.mp h
  refine xr_opA (pc' := 47) (lo' := [some (.ref v0), some (.int v1), none]) (st' := []) (o := ldFR μ v0 9 2) rfl hx1 ?_
  refine xr_go 1 (pc' := 48) (lo' := [some (.ref v0), some (.int v1), none]) (st' := [.ref v0, .ref x1]) (μ' := μ) rfl ?_
  obtain ⟨x2, hx2, h⟩ := Option.bind_eq_some_iff.mp h
  refine xr_opI (pc' := 51) (lo' := [some (.ref v0), some (.int v1), none]) (st' := [.ref x1]) (o := ldF μ v0 9 3) rfl hx2 ?_
  refine xr_go 1 (pc' := 52) (lo' := [some (.ref v0), some (.int v1), none]) (st' := [.int v1, .int x2, .ref x1]) (μ' := μ) rfl ?_
  obtain ⟨μ3, hμ3, h⟩ := Option.bind_eq_some_iff.mp h
  refine xr_opM (pc' := 53) (lo' := [some (.ref v0), some (.int v1), none]) (st' := []) (o := stA μ x1 x2 v1) rfl hμ3 ?_
  refine xr_go 2 (pc' := 55) (lo' := [some (.ref v0), some (.int v1), none]) (st' := [.ref v0, .ref v0]) (μ' := μ3) rfl ?_
  obtain ⟨x4, hx4, h⟩ := Option.bind_eq_some_iff.mp h
  refine xr_opI (pc' := 58) (lo' := [some (.ref v0), some (.int v1), none]) (st' := [.ref v0]) (o := ldF μ3 v0 9 3) rfl hx4 ?_
  refine xr_go 2 (pc' := 60) (lo' := [some (.ref v0), some (.int v1), none]) (st' := [.int (x4 + (xc 1)), .ref v0]) (μ' := μ3) rfl ?_
  obtain ⟨μ5, hμ5, h⟩ := Option.bind_eq_some_iff.mp h
  refine xr_opM (pc' := 63) (lo' := [some (.ref v0), some (.int v1), none]) (st' := []) (o := stF μ3 v0 9 3 (x4 + (xc 1))) rfl hμ5 ?_
  have ho := Option.some.inj h
  subst ho
  obtain ⟨rfl, rfl⟩ := hK
  exact xr_ret (rv := none) rfl rfl (rfl)
noncomputable def fM_remember_37  (v0 : Nat) (v1 : Int32) (μ : xM) : Option (xM) := (stF μ v0 9 3 (xc 39)).bind fun μ6 => fM_remember_43 v0 v1 μ6
theorem fM_remember_37_ok {d : Nat} {v0 : Nat} {v1 : Int32} {μ : xM} {rv : Option Value} {μf : xM} {out : xM} (h : fM_remember_37 v0 v1 μ = some out) (hK : fM_remember_K rv μf out) : xRun (d + 0) 144 37 [some (.ref v0), some (.int v1), none] [] μ rv μf := by
  unfold fM_remember_37 at h
  refine xr_go 2 (pc' := 40) (lo' := [some (.ref v0), some (.int v1), none]) (st' := [.int (xc 39), .ref v0]) (μ' := μ) rfl ?_
  obtain ⟨μ6, hμ6, h⟩ := Option.bind_eq_some_iff.mp h
  refine xr_opM (pc' := 43) (lo' := [some (.ref v0), some (.int v1), none]) (st' := []) (o := stF μ v0 9 3 (xc 39)) rfl hμ6 ?_
  refine xr_forget (lo := [some (.ref v0), some (.int v1), none]) ⟨rfl, rfl, trivial⟩ ?_
  exact fM_remember_43_ok h hK
noncomputable def fM_remember_L11  (v0 : Nat) (v1 : Int32) (v2 : Int32) (μ : xM) : Option ((Int32 × xM) ⊕ (xM)) := if (xc 39) ≤ v2 then ((fM_remember_37 v0 v1 μ).map (fun o => .inr o)) else ((ldFR μ v0 9 2).bind fun x7 => (ldFR μ v0 9 2).bind fun x8 => (ldA μ x8 (v2 + (xc 1))).bind fun x9 => (stA μ x7 v2 x9).bind fun μ10 => some (.inl ((v2 + xc 1, μ10))))
theorem fM_remember_L11_ok {d : Nat} {v0 : Nat} {v1 : Int32} {v2 : Int32} {μ : xM} {rv : Option Value} {μf : xM} {out : (Int32 × xM) ⊕ (xM)} (h : fM_remember_L11 v0 v1 v2 μ = some out) (hK : fM_remember_K11 v0 v1 d rv μf out) : xRun (d + 0) 144 11 [some (.ref v0), some (.int v1), some (.int v2)] [] μ rv μf := by
  unfold fM_remember_L11 at h
  refine xr_go 2 (pc' := 14) (lo' := [some (.ref v0), some (.int v1), some (.int v2)]) (st' := [.int (xc 39), .int v2]) (μ' := μ) rfl ?_
  refine xr_icmp (pct := 37) rfl rfl rfl (fun hc => ?_) (fun hc => ?_)
  · replace h := (if_pos (of_decide_eq_true hc)).symm.trans h
    refine xr_forget (lo := [some (.ref v0), some (.int v1), none]) ⟨rfl, rfl, trivial⟩ ?_
    obtain ⟨o, h2, rfl⟩ := Option.map_eq_some_iff.mp h
    exact fM_remember_37_ok h2 hK
  · replace h := (if_neg (of_decide_eq_false hc)).symm.trans h
    refine xr_go 1 (pc' := 18) (lo' := [some (.ref v0), some (.int v1), some (.int v2)]) (st' := [.ref v0]) (μ' := μ) rfl ?_
    obtain ⟨x7, hx7, h⟩ := Option.bind_eq_some_iff.mp h
    refine xr_opA (pc' := 21) (lo' := [some (.ref v0), some (.int v1), some (.int v2)]) (st' := []) (o := ldFR μ v0 9 2) rfl hx7 ?_
    refine xr_go 2 (pc' := 23) (lo' := [some (.ref v0), some (.int v1), some (.int v2)]) (st' := [.ref v0, .int v2, .ref x7]) (μ' := μ) rfl ?_
    obtain ⟨x8, hx8, h⟩ := Option.bind_eq_some_iff.mp h
    refine xr_opA (pc' := 26) (lo' := [some (.ref v0), some (.int v1), some (.int v2)]) (st' := [.int v2, .ref x7]) (o := ldFR μ v0 9 2) rfl hx8 ?_
    refine xr_go 3 (pc' := 29) (lo' := [some (.ref v0), some (.int v1), some (.int v2)]) (st' := [.int (v2 + (xc 1)), .ref x8, .int v2, .ref x7]) (μ' := μ) rfl ?_
    obtain ⟨x9, hx9, h⟩ := Option.bind_eq_some_iff.mp h
    refine xr_opI (pc' := 30) (lo' := [some (.ref v0), some (.int v1), some (.int v2)]) (st' := [.int v2, .ref x7]) (o := ldA μ x8 (v2 + (xc 1))) rfl hx9 ?_
    obtain ⟨μ10, hμ10, h⟩ := Option.bind_eq_some_iff.mp h
    refine xr_opM (pc' := 31) (lo' := [some (.ref v0), some (.int v1), some (.int v2)]) (st' := []) (o := stA μ x7 v2 x9) rfl hμ10 ?_
    refine xr_go 2 (pc' := 11) (lo' := [some (.ref v0), some (.int v1), some (.int (v2 + xc 1))]) (st' := []) (μ' := μ10) rfl ?_
    refine xr_forget (lo := [some (.ref v0), some (.int v1), some (.int (v2 + xc 1))]) ⟨rfl, rfl, rfl, trivial⟩ ?_
    have ho := Option.some.inj h
    subst ho
    exact hK
theorem fM_remember_L11_lp {d : Nat} {v0 : Nat} {v1 : Int32} {v2 : Int32} {μ : xM} {rv : Option Value} {μf : xM} {out : xM} (h : xwh (fun s : Int32 × xM => fM_remember_L11 v0 v1 s.1 s.2) (v2, μ) = some out) (hK : fM_remember_K rv μf out) : xRun (d + 0) 144 11 [some (.ref v0), some (.int v1), some (.int v2)] [] μ rv μf :=
  xwh_ind (Rh := fun s : Int32 × xM => xRun (d + 0) 144 11 [some (.ref v0), some (.int v1), some (.int s.1)] [] s.2 rv μf) (Co := fM_remember_K rv μf) (fun s o hb hk => fM_remember_L11_ok hb hk) h hK
noncomputable def fM_remember_0  (v0 : Nat) (v1 : Int32) (μ : xM) : Option (xM) := (ldF μ v0 9 3).bind fun x11 => if x11 = (xc 40) then (xwh (fun s : Int32 × xM => fM_remember_L11 v0 v1 s.1 s.2) (xc 0, μ)) else (fM_remember_43 v0 v1 μ)
theorem fM_remember_0_ok {d : Nat} {v0 : Nat} {v1 : Int32} {μ : xM} {rv : Option Value} {μf : xM} {out : xM} (h : fM_remember_0 v0 v1 μ = some out) (hK : fM_remember_K rv μf out) : xRun (d + 0) 144 0 [some (.ref v0), some (.int v1), none] [] μ rv μf := by
  unfold fM_remember_0 at h
  refine xr_go 1 (pc' := 1) (lo' := [some (.ref v0), some (.int v1), none]) (st' := [.ref v0]) (μ' := μ) rfl ?_
  obtain ⟨x11, hx11, h⟩ := Option.bind_eq_some_iff.mp h
  refine xr_opI (pc' := 4) (lo' := [some (.ref v0), some (.int v1), none]) (st' := []) (o := ldF μ v0 9 3) rfl hx11 ?_
  refine xr_go 1 (pc' := 6) (lo' := [some (.ref v0), some (.int v1), none]) (st' := [.int (xc 40), .int x11]) (μ' := μ) rfl ?_
  refine xr_icmp (pct := 43) rfl rfl rfl (fun hc => ?_) (fun hc => ?_)
  · replace h := (if_neg (of_decide_eq_true hc)).symm.trans h
    refine xr_forget (lo := [some (.ref v0), some (.int v1), none]) ⟨rfl, rfl, trivial⟩ ?_
    exact fM_remember_43_ok h hK
  · replace h := (if_pos (Decidable.of_not_not (of_decide_eq_false hc))).symm.trans h
    refine xr_go 2 (pc' := 11) (lo' := [some (.ref v0), some (.int v1), some (.int (xc 0))]) (st' := []) (μ' := μ) rfl ?_
    refine xr_forget (lo := [some (.ref v0), some (.int v1), some (.int (xc 0))]) ⟨rfl, rfl, rfl, trivial⟩ ?_
    exact fM_remember_L11_lp h hK
noncomputable def fM_remember (a0 : Nat) (a1 : Int32) (μ : xM) : Option (xM) := xgd μ a0 9 (fM_remember_0 a0 a1 μ)
theorem fM_remember_kd {a0 : Nat} {a1 : Int32} {μ : xM} {o : xM} (h : fM_remember a0 a1 μ = some o) : (xK μ a0).1 = 10 + 9 := (xgd_some h).1
theorem fM_remember_ok {d : Nat} {a0 : Nat} {a1 : Int32} {μ : xM} {o : xM} (h : fM_remember a0 a1 μ = some o) : xRun (d + 0) 144 0 [some (.ref a0), some (.int a1), none] [] μ none o :=
  xr_forget (lo := [some (.ref a0), some (.int a1), none]) (⟨rfl, rfl, trivial⟩) (fM_remember_0_ok (d := d) (xgd_some h).2 (show fM_remember_K _ _ o from ⟨rfl, rfl⟩))
-- KeptAnswersModel.bring(III)I 
def fM_bring_K (rv : Option Value) (μf : xM) : (Int32 × xM) → Prop := fun o => rv = some (.int o.1) ∧ μf = o.2
noncomputable def fM_bring_50  (v0 : Nat) (v1 : Int32) (v2 : Int32) (v3 : Int32) (v4 : Int32) (μ : xM) : Option (Int32 × xM) := (ldFR μ v0 9 0).bind fun x1 => (ldA μ x1 v1).bind fun x2 => (stA μ x1 v1 (x2 ||| v4)).bind fun μ3 => (fM_remember v0 ((((xc 100) + ((xc 10) * v1)) + ((xc 2) * v2)) + v3) μ3).bind fun r4 => some ((xc 1, r4))
theorem fM_bring_50_ok {d : Nat} {v0 : Nat} {v1 : Int32} {v2 : Int32} {v3 : Int32} {v4 : Int32} {μ : xM} {rv : Option Value} {μf : xM} {out : Int32 × xM} (h : fM_bring_50 v0 v1 v2 v3 v4 μ = some out) (hK : fM_bring_K rv μf out) : xRun (d + 1) 145 50 [some (.ref v0), some (.int v1), some (.int v2), some (.int v3), some (.int v4)] [] μ rv μf := by
  unfold fM_bring_50 at h
  refine xr_go 1 (pc' := 51) (lo' := [some (.ref v0), some (.int v1), some (.int v2), some (.int v3), some (.int v4)]) (st' := [.ref v0]) (μ' := μ) rfl ?_
  obtain ⟨x1, hx1, h⟩ := Option.bind_eq_some_iff.mp h
  refine xr_opA (pc' := 54) (lo' := [some (.ref v0), some (.int v1), some (.int v2), some (.int v3), some (.int v4)]) (st' := []) (o := ldFR μ v0 9 0) rfl hx1 ?_
  refine xr_go 2 (pc' := 56) (lo' := [some (.ref v0), some (.int v1), some (.int v2), some (.int v3), some (.int v4)]) (st' := [.int v1, .ref x1, .int v1, .ref x1]) (μ' := μ) rfl ?_
  obtain ⟨x2, hx2, h⟩ := Option.bind_eq_some_iff.mp h
  refine xr_opI (pc' := 57) (lo' := [some (.ref v0), some (.int v1), some (.int v2), some (.int v3), some (.int v4)]) (st' := [.int v1, .ref x1]) (o := ldA μ x1 v1) rfl hx2 ?_
  refine xr_go 2 (pc' := 60) (lo' := [some (.ref v0), some (.int v1), some (.int v2), some (.int v3), some (.int v4)]) (st' := [.int (x2 ||| v4), .int v1, .ref x1]) (μ' := μ) rfl ?_
  obtain ⟨μ3, hμ3, h⟩ := Option.bind_eq_some_iff.mp h
  refine xr_opM (pc' := 61) (lo' := [some (.ref v0), some (.int v1), some (.int v2), some (.int v3), some (.int v4)]) (st' := []) (o := stA μ x1 v1 (x2 ||| v4)) rfl hμ3 ?_
  refine xr_go 12 (pc' := 75) (lo' := [some (.ref v0), some (.int v1), some (.int v2), some (.int v3), some (.int v4)]) (st' := [.int ((((xc 100) + ((xc 10) * v1)) + ((xc 2) * v2)) + v3), .ref v0]) (μ' := μ3) rfl ?_
  obtain ⟨r4, hr4, h⟩ := Option.bind_eq_some_iff.mp h
  refine xr_callV (j := 144) (d' := (d + 0)) (rv1 := none) (μ1 := r4) (rest := []) (As := [.int ((((xc 100) + ((xc 10) * v1)) + ((xc 2) * v2)) + v3)]) rfl rfl rfl rfl (Nat.le_of_ble_eq_true rfl) (fM_remember_kd hr4) rfl (by exact (fM_remember_ok (d := d + (0)) hr4)) ?_
  refine xr_go 1 (pc' := 79) (lo' := [some (.ref v0), some (.int v1), some (.int v2), some (.int v3), some (.int v4)]) (st' := [.int (xc 1)]) (μ' := r4) rfl ?_
  have ho := Option.some.inj h
  subst ho
  obtain ⟨rfl, rfl⟩ := hK
  exact xr_ret (rv := some (.int (xc 1))) rfl rfl (Or.inl rfl)
noncomputable def fM_bring_0  (v0 : Nat) (v1 : Int32) (v2 : Int32) (v3 : Int32) (μ : xM) : Option (Int32 × xM) := (ldFR μ v0 9 0).bind fun x5 => (ldA μ x5 v1).bind fun x6 => if (x6 &&& ((xc 1) <<< ((((xc 2) * v2) + v3) &&& 31))) = 0 then ((ldFR μ v0 9 1).bind fun x7 => (ldAZ μ x7 v1).bind fun x8 => if x8 = 0 then (fM_bring_50 v0 v1 v2 v3 ((xc 1) <<< ((((xc 2) * v2) + v3) &&& 31)) μ) else ((ldFR μ v0 9 0).bind fun x9 => (ldA μ x9 v1).bind fun x10 => (fM_isKeyed (x10 ||| ((xc 1) <<< ((((xc 2) * v2) + v3) &&& 31))) μ).bind fun r11 => if r11 = 0 then (some ((xc (-3), μ))) else (fM_bring_50 v0 v1 v2 v3 ((xc 1) <<< ((((xc 2) * v2) + v3) &&& 31)) μ))) else (some ((xc 0, μ)))
theorem fM_bring_0_ok {d : Nat} {v0 : Nat} {v1 : Int32} {v2 : Int32} {v3 : Int32} {μ : xM} {rv : Option Value} {μf : xM} {out : Int32 × xM} (h : fM_bring_0 v0 v1 v2 v3 μ = some out) (hK : fM_bring_K rv μf out) : xRun (d + 1) 145 0 [some (.ref v0), some (.int v1), some (.int v2), some (.int v3), none] [] μ rv μf := by
  unfold fM_bring_0 at h
  refine xr_go 9 (pc' := 10) (lo' := [some (.ref v0), some (.int v1), some (.int v2), some (.int v3), some (.int ((xc 1) <<< ((((xc 2) * v2) + v3) &&& 31)))]) (st' := [.ref v0]) (μ' := μ) rfl ?_
  obtain ⟨x5, hx5, h⟩ := Option.bind_eq_some_iff.mp h
  refine xr_opA (pc' := 13) (lo' := [some (.ref v0), some (.int v1), some (.int v2), some (.int v3), some (.int ((xc 1) <<< ((((xc 2) * v2) + v3) &&& 31)))]) (st' := []) (o := ldFR μ v0 9 0) rfl hx5 ?_
  refine xr_go 1 (pc' := 14) (lo' := [some (.ref v0), some (.int v1), some (.int v2), some (.int v3), some (.int ((xc 1) <<< ((((xc 2) * v2) + v3) &&& 31)))]) (st' := [.int v1, .ref x5]) (μ' := μ) rfl ?_
  obtain ⟨x6, hx6, h⟩ := Option.bind_eq_some_iff.mp h
  refine xr_opI (pc' := 15) (lo' := [some (.ref v0), some (.int v1), some (.int v2), some (.int v3), some (.int ((xc 1) <<< ((((xc 2) * v2) + v3) &&& 31)))]) (st' := []) (o := ldA μ x5 v1) rfl hx6 ?_
  refine xr_go 2 (pc' := 18) (lo' := [some (.ref v0), some (.int v1), some (.int v2), some (.int v3), some (.int ((xc 1) <<< ((((xc 2) * v2) + v3) &&& 31)))]) (st' := [.int (x6 &&& ((xc 1) <<< ((((xc 2) * v2) + v3) &&& 31)))]) (μ' := μ) rfl ?_
  refine xr_ifc (pct := 23) rfl rfl rfl (fun hc => ?_) (fun hc => ?_)
  · replace h := (if_pos (of_decide_eq_true hc)).symm.trans h
    refine xr_go 1 (pc' := 24) (lo' := [some (.ref v0), some (.int v1), some (.int v2), some (.int v3), some (.int ((xc 1) <<< ((((xc 2) * v2) + v3) &&& 31)))]) (st' := [.ref v0]) (μ' := μ) rfl ?_
    obtain ⟨x7, hx7, h⟩ := Option.bind_eq_some_iff.mp h
    refine xr_opA (pc' := 27) (lo' := [some (.ref v0), some (.int v1), some (.int v2), some (.int v3), some (.int ((xc 1) <<< ((((xc 2) * v2) + v3) &&& 31)))]) (st' := []) (o := ldFR μ v0 9 1) rfl hx7 ?_
    refine xr_go 1 (pc' := 28) (lo' := [some (.ref v0), some (.int v1), some (.int v2), some (.int v3), some (.int ((xc 1) <<< ((((xc 2) * v2) + v3) &&& 31)))]) (st' := [.int v1, .ref x7]) (μ' := μ) rfl ?_
    obtain ⟨x8, hx8, h⟩ := Option.bind_eq_some_iff.mp h
    refine xr_opI (pc' := 29) (lo' := [some (.ref v0), some (.int v1), some (.int v2), some (.int v3), some (.int ((xc 1) <<< ((((xc 2) * v2) + v3) &&& 31)))]) (st' := []) (o := ldAZ μ x7 v1) rfl hx8 ?_
    refine xr_ifc (pct := 50) rfl rfl rfl (fun hc => ?_) (fun hc => ?_)
    · replace h := (if_pos (of_decide_eq_true hc)).symm.trans h
      refine xr_forget (lo := [some (.ref v0), some (.int v1), some (.int v2), some (.int v3), some (.int ((xc 1) <<< ((((xc 2) * v2) + v3) &&& 31)))]) ⟨rfl, rfl, rfl, rfl, rfl, trivial⟩ ?_
      exact fM_bring_50_ok h hK
    · replace h := (if_neg (of_decide_eq_false hc)).symm.trans h
      refine xr_go 1 (pc' := 33) (lo' := [some (.ref v0), some (.int v1), some (.int v2), some (.int v3), some (.int ((xc 1) <<< ((((xc 2) * v2) + v3) &&& 31)))]) (st' := [.ref v0]) (μ' := μ) rfl ?_
      obtain ⟨x9, hx9, h⟩ := Option.bind_eq_some_iff.mp h
      refine xr_opA (pc' := 36) (lo' := [some (.ref v0), some (.int v1), some (.int v2), some (.int v3), some (.int ((xc 1) <<< ((((xc 2) * v2) + v3) &&& 31)))]) (st' := []) (o := ldFR μ v0 9 0) rfl hx9 ?_
      refine xr_go 1 (pc' := 37) (lo' := [some (.ref v0), some (.int v1), some (.int v2), some (.int v3), some (.int ((xc 1) <<< ((((xc 2) * v2) + v3) &&& 31)))]) (st' := [.int v1, .ref x9]) (μ' := μ) rfl ?_
      obtain ⟨x10, hx10, h⟩ := Option.bind_eq_some_iff.mp h
      refine xr_opI (pc' := 38) (lo' := [some (.ref v0), some (.int v1), some (.int v2), some (.int v3), some (.int ((xc 1) <<< ((((xc 2) * v2) + v3) &&& 31)))]) (st' := []) (o := ldA μ x9 v1) rfl hx10 ?_
      refine xr_go 2 (pc' := 41) (lo' := [some (.ref v0), some (.int v1), some (.int v2), some (.int v3), some (.int ((xc 1) <<< ((((xc 2) * v2) + v3) &&& 31)))]) (st' := [.int (x10 ||| ((xc 1) <<< ((((xc 2) * v2) + v3) &&& 31)))]) (μ' := μ) rfl ?_
      obtain ⟨r11, hr11, h⟩ := Option.bind_eq_some_iff.mp h
      refine xr_callS (j := 142) (d' := (d + 0)) (rv1 := some (.int r11)) (μ1 := μ) (rest := []) (As := [.int (x10 ||| ((xc 1) <<< ((((xc 2) * v2) + v3) &&& 31)))]) rfl rfl rfl rfl (Nat.le_of_ble_eq_true rfl) rfl (by exact (fM_isKeyed_ok (d := d + (0)) hr11)) ?_
      refine xr_ifc (pct := 50) rfl rfl rfl (fun hc => ?_) (fun hc => ?_)
      · replace h := (if_neg (of_decide_eq_true hc)).symm.trans h
        refine xr_forget (lo := [some (.ref v0), some (.int v1), some (.int v2), some (.int v3), some (.int ((xc 1) <<< ((((xc 2) * v2) + v3) &&& 31)))]) ⟨rfl, rfl, rfl, rfl, rfl, trivial⟩ ?_
        exact fM_bring_50_ok h hK
      · replace h := (if_pos (Decidable.of_not_not (of_decide_eq_false hc))).symm.trans h
        refine xr_go 1 (pc' := 49) (lo' := [some (.ref v0), some (.int v1), some (.int v2), some (.int v3), some (.int ((xc 1) <<< ((((xc 2) * v2) + v3) &&& 31)))]) (st' := [.int (xc (-3))]) (μ' := μ) rfl ?_
        have ho := Option.some.inj h
        subst ho
        obtain ⟨rfl, rfl⟩ := hK
        exact xr_ret (rv := some (.int (xc (-3)))) rfl rfl (Or.inl rfl)
  · replace h := (if_neg (of_decide_eq_false hc)).symm.trans h
    refine xr_go 1 (pc' := 22) (lo' := [some (.ref v0), some (.int v1), some (.int v2), some (.int v3), some (.int ((xc 1) <<< ((((xc 2) * v2) + v3) &&& 31)))]) (st' := [.int (xc 0)]) (μ' := μ) rfl ?_
    have ho := Option.some.inj h
    subst ho
    obtain ⟨rfl, rfl⟩ := hK
    exact xr_ret (rv := some (.int (xc 0))) rfl rfl (Or.inl rfl)
noncomputable def fM_bring (a0 : Nat) (a1 : Int32) (a2 : Int32) (a3 : Int32) (μ : xM) : Option (Int32 × xM) := xgd μ a0 9 (fM_bring_0 a0 a1 a2 a3 μ)
theorem fM_bring_kd {a0 : Nat} {a1 : Int32} {a2 : Int32} {a3 : Int32} {μ : xM} {o : Int32 × xM} (h : fM_bring a0 a1 a2 a3 μ = some o) : (xK μ a0).1 = 10 + 9 := (xgd_some h).1
theorem fM_bring_ok {d : Nat} {a0 : Nat} {a1 : Int32} {a2 : Int32} {a3 : Int32} {μ : xM} {o : Int32 × xM} (h : fM_bring a0 a1 a2 a3 μ = some o) : xRun (d + 1) 145 0 [some (.ref a0), some (.int a1), some (.int a2), some (.int a3), none] [] μ (some (.int o.1)) o.2 :=
  xr_forget (lo := [some (.ref a0), some (.int a1), some (.int a2), some (.int a3), none]) (⟨rfl, rfl, rfl, rfl, trivial⟩) (fM_bring_0_ok (d := d) (xgd_some h).2 (show fM_bring_K _ _ o from ⟨rfl, rfl⟩))
-- KeptAnswersModel.refuse(I)I 
def fM_refuse_K (rv : Option Value) (μf : xM) : (Int32 × xM) → Prop := fun o => rv = some (.int o.1) ∧ μf = o.2
noncomputable def fM_refuse_0  (v0 : Nat) (v1 : Int32) (μ : xM) : Option (Int32 × xM) := (ldFR μ v0 9 25).bind fun x1 => (ldA μ x1 (-v1)).bind fun x2 => (stA μ x1 (-v1) (x2 + (xc 1))).bind fun μ3 => some ((v1, μ3))
theorem fM_refuse_0_ok {d : Nat} {v0 : Nat} {v1 : Int32} {μ : xM} {rv : Option Value} {μf : xM} {out : Int32 × xM} (h : fM_refuse_0 v0 v1 μ = some out) (hK : fM_refuse_K rv μf out) : xRun (d + 0) 138 0 [some (.ref v0), some (.int v1)] [] μ rv μf := by
  unfold fM_refuse_0 at h
  refine xr_go 1 (pc' := 1) (lo' := [some (.ref v0), some (.int v1)]) (st' := [.ref v0]) (μ' := μ) rfl ?_
  obtain ⟨x1, hx1, h⟩ := Option.bind_eq_some_iff.mp h
  refine xr_opA (pc' := 4) (lo' := [some (.ref v0), some (.int v1)]) (st' := []) (o := ldFR μ v0 9 25) rfl hx1 ?_
  refine xr_go 3 (pc' := 7) (lo' := [some (.ref v0), some (.int v1)]) (st' := [.int (-v1), .ref x1, .int (-v1), .ref x1]) (μ' := μ) rfl ?_
  obtain ⟨x2, hx2, h⟩ := Option.bind_eq_some_iff.mp h
  refine xr_opI (pc' := 8) (lo' := [some (.ref v0), some (.int v1)]) (st' := [.int (-v1), .ref x1]) (o := ldA μ x1 (-v1)) rfl hx2 ?_
  refine xr_go 2 (pc' := 10) (lo' := [some (.ref v0), some (.int v1)]) (st' := [.int (x2 + (xc 1)), .int (-v1), .ref x1]) (μ' := μ) rfl ?_
  obtain ⟨μ3, hμ3, h⟩ := Option.bind_eq_some_iff.mp h
  refine xr_opM (pc' := 11) (lo' := [some (.ref v0), some (.int v1)]) (st' := []) (o := stA μ x1 (-v1) (x2 + (xc 1))) rfl hμ3 ?_
  refine xr_go 1 (pc' := 12) (lo' := [some (.ref v0), some (.int v1)]) (st' := [.int v1]) (μ' := μ3) rfl ?_
  have ho := Option.some.inj h
  subst ho
  obtain ⟨rfl, rfl⟩ := hK
  exact xr_ret (rv := some (.int v1)) rfl rfl (Or.inl rfl)
noncomputable def fM_refuse (a0 : Nat) (a1 : Int32) (μ : xM) : Option (Int32 × xM) := xgd μ a0 9 (fM_refuse_0 a0 a1 μ)
theorem fM_refuse_kd {a0 : Nat} {a1 : Int32} {μ : xM} {o : Int32 × xM} (h : fM_refuse a0 a1 μ = some o) : (xK μ a0).1 = 10 + 9 := (xgd_some h).1
theorem fM_refuse_ok {d : Nat} {a0 : Nat} {a1 : Int32} {μ : xM} {o : Int32 × xM} (h : fM_refuse a0 a1 μ = some o) : xRun (d + 0) 138 0 [some (.ref a0), some (.int a1)] [] μ (some (.int o.1)) o.2 :=
  xr_forget (lo := [some (.ref a0), some (.int a1)]) (⟨rfl, rfl, trivial⟩) (fM_refuse_0_ok (d := d) (xgd_some h).2 (show fM_refuse_K _ _ o from ⟨rfl, rfl⟩))
-- KeptAnswersModel.in(III)I 
def fM_in_K (rv : Option Value) (μf : xM) : (Int32 × xM) → Prop := fun o => rv = some (.int o.1) ∧ μf = o.2
noncomputable def fM_in_26  (v0 : Nat) (s0 : Int32) (μ : xM) : Option (Int32 × xM) := if 0 ≤ s0 then (some ((s0, μ))) else ((fM_refuse v0 s0 μ).bind fun r1 => some ((r1.1, r1.2)))
theorem fM_in_26_ok {d : Nat} {v0 : Nat} {s0 : Int32} {μ : xM} {rv : Option Value} {μf : xM} {out : Int32 × xM} (h : fM_in_26 v0 s0 μ = some out) (hK : fM_in_K rv μf out) : xRun (d + 2) 146 26 [some (.ref v0), none, none, none, none, none] [.int s0] μ rv μf := by
  unfold fM_in_26 at h
  refine xr_go 2 (pc' := 30) (lo' := [some (.ref v0), none, none, none, none, some (.int s0)]) (st' := [.int s0]) (μ' := μ) rfl ?_
  refine xr_ifc (pct := 42) rfl rfl rfl (fun hc => ?_) (fun hc => ?_)
  · replace h := (if_pos (of_decide_eq_true hc)).symm.trans h
    refine xr_go 1 (pc' := 44) (lo' := [some (.ref v0), none, none, none, none, some (.int s0)]) (st' := [.int s0]) (μ' := μ) rfl ?_
    have ho := Option.some.inj h
    subst ho
    obtain ⟨rfl, rfl⟩ := hK
    exact xr_ret (rv := some (.int s0)) rfl rfl (Or.inl rfl)
  · replace h := (if_neg (of_decide_eq_false hc)).symm.trans h
    refine xr_go 2 (pc' := 36) (lo' := [some (.ref v0), none, none, none, none, some (.int s0)]) (st' := [.int s0, .ref v0]) (μ' := μ) rfl ?_
    obtain ⟨r1, hr1, h⟩ := Option.bind_eq_some_iff.mp h
    refine xr_callV (j := 138) (d' := (d + 1)) (rv1 := some (.int r1.1)) (μ1 := r1.2) (rest := []) (As := [.int s0]) rfl rfl rfl rfl (Nat.le_of_ble_eq_true rfl) (fM_refuse_kd hr1) rfl (by exact (fM_refuse_ok (d := d + (1)) hr1)) ?_
    refine xr_go 1 (pc' := 44) (lo' := [some (.ref v0), none, none, none, none, some (.int s0)]) (st' := [.int r1.1]) (μ' := r1.2) rfl ?_
    have ho := Option.some.inj h
    subst ho
    obtain ⟨rfl, rfl⟩ := hK
    exact xr_ret (rv := some (.int r1.1)) rfl rfl (Or.inl rfl)
noncomputable def fM_in_0  (v0 : Nat) (v1 : Int32) (v2 : Int32) (v3 : Int32) (μ : xM) : Option (Int32 × xM) := (fM_wrongRow v0 v1 v2 v3 μ).bind fun r2 => if 0 ≤ r2 then ((fM_bring v0 v1 v2 v3 μ).bind fun r3 => fM_in_26 v0 r3.1 r3.2) else (fM_in_26 v0 r2 μ)
theorem fM_in_0_ok {d : Nat} {v0 : Nat} {v1 : Int32} {v2 : Int32} {v3 : Int32} {μ : xM} {rv : Option Value} {μf : xM} {out : Int32 × xM} (h : fM_in_0 v0 v1 v2 v3 μ = some out) (hK : fM_in_K rv μf out) : xRun (d + 2) 146 0 [some (.ref v0), some (.int v1), some (.int v2), some (.int v3), none, none] [] μ rv μf := by
  unfold fM_in_0 at h
  refine xr_go 4 (pc' := 4) (lo' := [some (.ref v0), some (.int v1), some (.int v2), some (.int v3), none, none]) (st' := [.int v3, .int v2, .int v1, .ref v0]) (μ' := μ) rfl ?_
  obtain ⟨r2, hr2, h⟩ := Option.bind_eq_some_iff.mp h
  refine xr_callV (j := 143) (d' := (d + 1)) (rv1 := some (.int r2)) (μ1 := μ) (rest := []) (As := [.int v1, .int v2, .int v3]) rfl rfl rfl rfl (Nat.le_of_ble_eq_true rfl) (fM_wrongRow_kd hr2) rfl (by exact (fM_wrongRow_ok (d := d + (0)) hr2)) ?_
  refine xr_go 2 (pc' := 11) (lo' := [some (.ref v0), some (.int v1), some (.int v2), some (.int v3), some (.int r2), none]) (st' := [.int r2]) (μ' := μ) rfl ?_
  refine xr_ifc (pct := 19) rfl rfl rfl (fun hc => ?_) (fun hc => ?_)
  · replace h := (if_pos (of_decide_eq_true hc)).symm.trans h
    refine xr_go 4 (pc' := 23) (lo' := [some (.ref v0), some (.int v1), some (.int v2), some (.int v3), some (.int r2), none]) (st' := [.int v3, .int v2, .int v1, .ref v0]) (μ' := μ) rfl ?_
    obtain ⟨r3, hr3, h⟩ := Option.bind_eq_some_iff.mp h
    refine xr_callV (j := 145) (d' := (d + 1)) (rv1 := some (.int r3.1)) (μ1 := r3.2) (rest := []) (As := [.int v1, .int v2, .int v3]) rfl rfl rfl rfl (Nat.le_of_ble_eq_true rfl) (fM_bring_kd hr3) rfl (by exact (fM_bring_ok (d := d + (0)) hr3)) ?_
    refine xr_forget (lo := [some (.ref v0), none, none, none, none, none]) ⟨rfl, trivial⟩ ?_
    exact fM_in_26_ok h hK
  · replace h := (if_neg (of_decide_eq_false hc)).symm.trans h
    refine xr_go 2 (pc' := 26) (lo' := [some (.ref v0), some (.int v1), some (.int v2), some (.int v3), some (.int r2), none]) (st' := [.int r2]) (μ' := μ) rfl ?_
    refine xr_forget (lo := [some (.ref v0), none, none, none, none, none]) ⟨rfl, trivial⟩ ?_
    exact fM_in_26_ok h hK
noncomputable def fM_in (a0 : Nat) (a1 : Int32) (a2 : Int32) (a3 : Int32) (μ : xM) : Option (Int32 × xM) := xgd μ a0 9 (fM_in_0 a0 a1 a2 a3 μ)
theorem fM_in_kd {a0 : Nat} {a1 : Int32} {a2 : Int32} {a3 : Int32} {μ : xM} {o : Int32 × xM} (h : fM_in a0 a1 a2 a3 μ = some o) : (xK μ a0).1 = 10 + 9 := (xgd_some h).1
theorem fM_in_ok {d : Nat} {a0 : Nat} {a1 : Int32} {a2 : Int32} {a3 : Int32} {μ : xM} {o : Int32 × xM} (h : fM_in a0 a1 a2 a3 μ = some o) : xRun (d + 2) 146 0 [some (.ref a0), some (.int a1), some (.int a2), some (.int a3), none, none] [] μ (some (.int o.1)) o.2 :=
  xr_forget (lo := [some (.ref a0), some (.int a1), some (.int a2), some (.int a3), none, none]) (⟨rfl, rfl, rfl, rfl, trivial⟩) (fM_in_0_ok (d := d) (xgd_some h).2 (show fM_in_K _ _ o from ⟨rfl, rfl⟩))
-- KeptAnswers.out(III)I 
def fX_out_K (rv : Option Value) (μf : xM) : (Int32 × xM) → Prop := fun o => rv = some (.int o.1) ∧ μf = o.2
noncomputable def fX_out_0  (v0 : Nat) (v1 : Int32) (v2 : Int32) (v3 : Int32) (μ : xM) : Option (Int32 × xM) := (fX_rowRefusal v1 v2 v3 μ).bind fun r1 => if r1 = 0 then ((fX_rowBit v1 v2 v3 μ).bind fun r2 => (ldFR μ v0 0 0).bind fun x3 => (fH_hasRow x3 r2 μ).bind fun r4 => if r4 = 0 then (some ((xc 0, μ))) else ((ldFR μ v0 0 0).bind fun x5 => (fH_turnRow x5 r2 μ).bind fun r6 => (ldFR r6 v0 0 5).bind fun x7 => (fC_note x7 r2 r6).bind fun r8 => some ((xc 1, r8)))) else ((fX_refuse v0 r1 μ).bind fun r9 => some ((r9.1, r9.2)))
theorem fX_out_0_ok {d : Nat} {v0 : Nat} {v1 : Int32} {v2 : Int32} {v3 : Int32} {μ : xM} {rv : Option Value} {μf : xM} {out : Int32 × xM} (h : fX_out_0 v0 v1 v2 v3 μ = some out) (hK : fX_out_K rv μf out) : xRun (d + 2) 2 0 [some (.ref v0), some (.int v1), some (.int v2), some (.int v3), none, none] [] μ rv μf := by
  unfold fX_out_0 at h
  refine xr_go 3 (pc' := 3) (lo' := [some (.ref v0), some (.int v1), some (.int v2), some (.int v3), none, none]) (st' := [.int v3, .int v2, .int v1]) (μ' := μ) rfl ?_
  obtain ⟨r1, hr1, h⟩ := Option.bind_eq_some_iff.mp h
  refine xr_callS (j := 42) (d' := (d + 1)) (rv1 := some (.int r1)) (μ1 := μ) (rest := []) (As := [.int v1, .int v2, .int v3]) rfl rfl rfl rfl (Nat.le_of_ble_eq_true rfl) rfl (by exact (fX_rowRefusal_ok (d := d + (0)) hr1)) ?_
  refine xr_go 2 (pc' := 10) (lo' := [some (.ref v0), some (.int v1), some (.int v2), some (.int v3), some (.int r1), none]) (st' := [.int r1]) (μ' := μ) rfl ?_
  refine xr_ifc (pct := 20) rfl rfl rfl (fun hc => ?_) (fun hc => ?_)
  · replace h := (if_pos (of_decide_eq_true hc)).symm.trans h
    refine xr_go 3 (pc' := 23) (lo' := [some (.ref v0), some (.int v1), some (.int v2), some (.int v3), some (.int r1), none]) (st' := [.int v3, .int v2, .int v1]) (μ' := μ) rfl ?_
    obtain ⟨r2, hr2, h⟩ := Option.bind_eq_some_iff.mp h
    refine xr_callS (j := 44) (d' := (d + 1)) (rv1 := some (.int r2)) (μ1 := μ) (rest := []) (As := [.int v1, .int v2, .int v3]) rfl rfl rfl rfl (Nat.le_of_ble_eq_true rfl) rfl (by exact (fX_rowBit_ok (d := d + (1)) hr2)) ?_
    refine xr_go 2 (pc' := 29) (lo' := [some (.ref v0), some (.int v1), some (.int v2), some (.int v3), some (.int r1), some (.int r2)]) (st' := [.ref v0]) (μ' := μ) rfl ?_
    obtain ⟨x3, hx3, h⟩ := Option.bind_eq_some_iff.mp h
    refine xr_opA (pc' := 32) (lo' := [some (.ref v0), some (.int v1), some (.int v2), some (.int v3), some (.int r1), some (.int r2)]) (st' := []) (o := ldFR μ v0 0 0) rfl hx3 ?_
    refine xr_go 1 (pc' := 34) (lo' := [some (.ref v0), some (.int v1), some (.int v2), some (.int v3), some (.int r1), some (.int r2)]) (st' := [.int r2, .ref x3]) (μ' := μ) rfl ?_
    obtain ⟨r4, hr4, h⟩ := Option.bind_eq_some_iff.mp h
    refine xr_callV (j := 63) (d' := (d + 1)) (rv1 := some (.int r4)) (μ1 := μ) (rest := []) (As := [.int r2]) rfl rfl rfl rfl (Nat.le_of_ble_eq_true rfl) (fH_hasRow_kd hr4) rfl (by exact (fH_hasRow_ok (d := d + (1)) hr4)) ?_
    refine xr_ifc (pct := 42) rfl rfl rfl (fun hc => ?_) (fun hc => ?_)
    · replace h := (if_neg (of_decide_eq_true hc)).symm.trans h
      refine xr_go 1 (pc' := 43) (lo' := [some (.ref v0), some (.int v1), some (.int v2), some (.int v3), some (.int r1), some (.int r2)]) (st' := [.ref v0]) (μ' := μ) rfl ?_
      obtain ⟨x5, hx5, h⟩ := Option.bind_eq_some_iff.mp h
      refine xr_opA (pc' := 46) (lo' := [some (.ref v0), some (.int v1), some (.int v2), some (.int v3), some (.int r1), some (.int r2)]) (st' := []) (o := ldFR μ v0 0 0) rfl hx5 ?_
      refine xr_go 1 (pc' := 48) (lo' := [some (.ref v0), some (.int v1), some (.int v2), some (.int v3), some (.int r1), some (.int r2)]) (st' := [.int r2, .ref x5]) (μ' := μ) rfl ?_
      obtain ⟨r6, hr6, h⟩ := Option.bind_eq_some_iff.mp h
      refine xr_callV (j := 64) (d' := (d + 1)) (rv1 := none) (μ1 := r6) (rest := []) (As := [.int r2]) rfl rfl rfl rfl (Nat.le_of_ble_eq_true rfl) (fH_turnRow_kd hr6) rfl (by exact (fH_turnRow_ok (d := d + (1)) hr6)) ?_
      refine xr_go 1 (pc' := 52) (lo' := [some (.ref v0), some (.int v1), some (.int v2), some (.int v3), some (.int r1), some (.int r2)]) (st' := [.ref v0]) (μ' := r6) rfl ?_
      obtain ⟨x7, hx7, h⟩ := Option.bind_eq_some_iff.mp h
      refine xr_opA (pc' := 55) (lo' := [some (.ref v0), some (.int v1), some (.int v2), some (.int v3), some (.int r1), some (.int r2)]) (st' := []) (o := ldFR r6 v0 0 5) rfl hx7 ?_
      refine xr_go 1 (pc' := 57) (lo' := [some (.ref v0), some (.int v1), some (.int v2), some (.int v3), some (.int r1), some (.int r2)]) (st' := [.int r2, .ref x7]) (μ' := r6) rfl ?_
      obtain ⟨r8, hr8, h⟩ := Option.bind_eq_some_iff.mp h
      refine xr_callV (j := 58) (d' := (d + 1)) (rv1 := none) (μ1 := r8) (rest := []) (As := [.int r2]) rfl rfl rfl rfl (Nat.le_of_ble_eq_true rfl) (fC_note_kd hr8) rfl (by exact (fC_note_ok (d := d + (1)) hr8)) ?_
      refine xr_go 1 (pc' := 61) (lo' := [some (.ref v0), some (.int v1), some (.int v2), some (.int v3), some (.int r1), some (.int r2)]) (st' := [.int (xc 1)]) (μ' := r8) rfl ?_
      have ho := Option.some.inj h
      subst ho
      obtain ⟨rfl, rfl⟩ := hK
      exact xr_ret (rv := some (.int (xc 1))) rfl rfl (Or.inl rfl)
    · replace h := (if_pos (Decidable.of_not_not (of_decide_eq_false hc))).symm.trans h
      refine xr_go 1 (pc' := 41) (lo' := [some (.ref v0), some (.int v1), some (.int v2), some (.int v3), some (.int r1), some (.int r2)]) (st' := [.int (xc 0)]) (μ' := μ) rfl ?_
      have ho := Option.some.inj h
      subst ho
      obtain ⟨rfl, rfl⟩ := hK
      exact xr_ret (rv := some (.int (xc 0))) rfl rfl (Or.inl rfl)
  · replace h := (if_neg (of_decide_eq_false hc)).symm.trans h
    refine xr_go 2 (pc' := 16) (lo' := [some (.ref v0), some (.int v1), some (.int v2), some (.int v3), some (.int r1), none]) (st' := [.int r1, .ref v0]) (μ' := μ) rfl ?_
    obtain ⟨r9, hr9, h⟩ := Option.bind_eq_some_iff.mp h
    refine xr_callV (j := 37) (d' := (d + 1)) (rv1 := some (.int r9.1)) (μ1 := r9.2) (rest := []) (As := [.int r1]) rfl rfl rfl rfl (Nat.le_of_ble_eq_true rfl) (fX_refuse_kd hr9) rfl (by exact (fX_refuse_ok (d := d + (1)) hr9)) ?_
    have ho := Option.some.inj h
    subst ho
    obtain ⟨rfl, rfl⟩ := hK
    exact xr_ret (rv := some (.int r9.1)) rfl rfl (Or.inl rfl)
noncomputable def fX_out (a0 : Nat) (a1 : Int32) (a2 : Int32) (a3 : Int32) (μ : xM) : Option (Int32 × xM) := xgd μ a0 0 (fX_out_0 a0 a1 a2 a3 μ)
theorem fX_out_kd {a0 : Nat} {a1 : Int32} {a2 : Int32} {a3 : Int32} {μ : xM} {o : Int32 × xM} (h : fX_out a0 a1 a2 a3 μ = some o) : (xK μ a0).1 = 10 + 0 := (xgd_some h).1
theorem fX_out_ok {d : Nat} {a0 : Nat} {a1 : Int32} {a2 : Int32} {a3 : Int32} {μ : xM} {o : Int32 × xM} (h : fX_out a0 a1 a2 a3 μ = some o) : xRun (d + 2) 2 0 [some (.ref a0), some (.int a1), some (.int a2), some (.int a3), none, none] [] μ (some (.int o.1)) o.2 :=
  xr_forget (lo := [some (.ref a0), some (.int a1), some (.int a2), some (.int a3), none, none]) (⟨rfl, rfl, rfl, rfl, trivial⟩) (fX_out_0_ok (d := d) (xgd_some h).2 (show fX_out_K _ _ o from ⟨rfl, rfl⟩))
-- KeptAnswersModel.out(III)I 
def fM_out_K (rv : Option Value) (μf : xM) : (Int32 × xM) → Prop := fun o => rv = some (.int o.1) ∧ μf = o.2
noncomputable def fM_out_0  (v0 : Nat) (v1 : Int32) (v2 : Int32) (v3 : Int32) (μ : xM) : Option (Int32 × xM) := (fM_wrongRow v0 v1 v2 v3 μ).bind fun r1 => if 0 ≤ r1 then ((ldFR μ v0 9 0).bind fun x2 => (ldA μ x2 v1).bind fun x3 => if (x3 &&& ((xc 1) <<< ((((xc 2) * v2) + v3) &&& 31))) = 0 then (some ((xc 0, μ))) else ((ldFR μ v0 9 0).bind fun x4 => (ldA μ x4 v1).bind fun x5 => (stA μ x4 v1 (x5 &&& (((xc 1) <<< ((((xc 2) * v2) + v3) &&& 31)) ^^^ (xc (-1))))).bind fun μ6 => (fM_remember v0 ((((xc 10) * v1) + ((xc 2) * v2)) + v3) μ6).bind fun r7 => some ((xc 1, r7)))) else ((fM_refuse v0 r1 μ).bind fun r8 => some ((r8.1, r8.2)))
theorem fM_out_0_ok {d : Nat} {v0 : Nat} {v1 : Int32} {v2 : Int32} {v3 : Int32} {μ : xM} {rv : Option Value} {μf : xM} {out : Int32 × xM} (h : fM_out_0 v0 v1 v2 v3 μ = some out) (hK : fM_out_K rv μf out) : xRun (d + 2) 147 0 [some (.ref v0), some (.int v1), some (.int v2), some (.int v3), none, none] [] μ rv μf := by
  unfold fM_out_0 at h
  refine xr_go 4 (pc' := 4) (lo' := [some (.ref v0), some (.int v1), some (.int v2), some (.int v3), none, none]) (st' := [.int v3, .int v2, .int v1, .ref v0]) (μ' := μ) rfl ?_
  obtain ⟨r1, hr1, h⟩ := Option.bind_eq_some_iff.mp h
  refine xr_callV (j := 143) (d' := (d + 1)) (rv1 := some (.int r1)) (μ1 := μ) (rest := []) (As := [.int v1, .int v2, .int v3]) rfl rfl rfl rfl (Nat.le_of_ble_eq_true rfl) (fM_wrongRow_kd hr1) rfl (by exact (fM_wrongRow_ok (d := d + (0)) hr1)) ?_
  refine xr_go 2 (pc' := 11) (lo' := [some (.ref v0), some (.int v1), some (.int v2), some (.int v3), some (.int r1), none]) (st' := [.int r1]) (μ' := μ) rfl ?_
  refine xr_ifc (pct := 21) rfl rfl rfl (fun hc => ?_) (fun hc => ?_)
  · replace h := (if_pos (of_decide_eq_true hc)).symm.trans h
    refine xr_go 9 (pc' := 31) (lo' := [some (.ref v0), some (.int v1), some (.int v2), some (.int v3), some (.int r1), some (.int ((xc 1) <<< ((((xc 2) * v2) + v3) &&& 31)))]) (st' := [.ref v0]) (μ' := μ) rfl ?_
    obtain ⟨x2, hx2, h⟩ := Option.bind_eq_some_iff.mp h
    refine xr_opA (pc' := 34) (lo' := [some (.ref v0), some (.int v1), some (.int v2), some (.int v3), some (.int r1), some (.int ((xc 1) <<< ((((xc 2) * v2) + v3) &&& 31)))]) (st' := []) (o := ldFR μ v0 9 0) rfl hx2 ?_
    refine xr_go 1 (pc' := 35) (lo' := [some (.ref v0), some (.int v1), some (.int v2), some (.int v3), some (.int r1), some (.int ((xc 1) <<< ((((xc 2) * v2) + v3) &&& 31)))]) (st' := [.int v1, .ref x2]) (μ' := μ) rfl ?_
    obtain ⟨x3, hx3, h⟩ := Option.bind_eq_some_iff.mp h
    refine xr_opI (pc' := 36) (lo' := [some (.ref v0), some (.int v1), some (.int v2), some (.int v3), some (.int r1), some (.int ((xc 1) <<< ((((xc 2) * v2) + v3) &&& 31)))]) (st' := []) (o := ldA μ x2 v1) rfl hx3 ?_
    refine xr_go 2 (pc' := 39) (lo' := [some (.ref v0), some (.int v1), some (.int v2), some (.int v3), some (.int r1), some (.int ((xc 1) <<< ((((xc 2) * v2) + v3) &&& 31)))]) (st' := [.int (x3 &&& ((xc 1) <<< ((((xc 2) * v2) + v3) &&& 31)))]) (μ' := μ) rfl ?_
    refine xr_ifc (pct := 44) rfl rfl rfl (fun hc => ?_) (fun hc => ?_)
    · replace h := (if_neg (of_decide_eq_true hc)).symm.trans h
      refine xr_go 1 (pc' := 45) (lo' := [some (.ref v0), some (.int v1), some (.int v2), some (.int v3), some (.int r1), some (.int ((xc 1) <<< ((((xc 2) * v2) + v3) &&& 31)))]) (st' := [.ref v0]) (μ' := μ) rfl ?_
      obtain ⟨x4, hx4, h⟩ := Option.bind_eq_some_iff.mp h
      refine xr_opA (pc' := 48) (lo' := [some (.ref v0), some (.int v1), some (.int v2), some (.int v3), some (.int r1), some (.int ((xc 1) <<< ((((xc 2) * v2) + v3) &&& 31)))]) (st' := []) (o := ldFR μ v0 9 0) rfl hx4 ?_
      refine xr_go 2 (pc' := 50) (lo' := [some (.ref v0), some (.int v1), some (.int v2), some (.int v3), some (.int r1), some (.int ((xc 1) <<< ((((xc 2) * v2) + v3) &&& 31)))]) (st' := [.int v1, .ref x4, .int v1, .ref x4]) (μ' := μ) rfl ?_
      obtain ⟨x5, hx5, h⟩ := Option.bind_eq_some_iff.mp h
      refine xr_opI (pc' := 51) (lo' := [some (.ref v0), some (.int v1), some (.int v2), some (.int v3), some (.int r1), some (.int ((xc 1) <<< ((((xc 2) * v2) + v3) &&& 31)))]) (st' := [.int v1, .ref x4]) (o := ldA μ x4 v1) rfl hx5 ?_
      refine xr_go 4 (pc' := 56) (lo' := [some (.ref v0), some (.int v1), some (.int v2), some (.int v3), some (.int r1), some (.int ((xc 1) <<< ((((xc 2) * v2) + v3) &&& 31)))]) (st' := [.int (x5 &&& (((xc 1) <<< ((((xc 2) * v2) + v3) &&& 31)) ^^^ (xc (-1)))), .int v1, .ref x4]) (μ' := μ) rfl ?_
      obtain ⟨μ6, hμ6, h⟩ := Option.bind_eq_some_iff.mp h
      refine xr_opM (pc' := 57) (lo' := [some (.ref v0), some (.int v1), some (.int v2), some (.int v3), some (.int r1), some (.int ((xc 1) <<< ((((xc 2) * v2) + v3) &&& 31)))]) (st' := []) (o := stA μ x4 v1 (x5 &&& (((xc 1) <<< ((((xc 2) * v2) + v3) &&& 31)) ^^^ (xc (-1))))) rfl hμ6 ?_
      refine xr_go 10 (pc' := 68) (lo' := [some (.ref v0), some (.int v1), some (.int v2), some (.int v3), some (.int r1), some (.int ((xc 1) <<< ((((xc 2) * v2) + v3) &&& 31)))]) (st' := [.int ((((xc 10) * v1) + ((xc 2) * v2)) + v3), .ref v0]) (μ' := μ6) rfl ?_
      obtain ⟨r7, hr7, h⟩ := Option.bind_eq_some_iff.mp h
      refine xr_callV (j := 144) (d' := (d + 1)) (rv1 := none) (μ1 := r7) (rest := []) (As := [.int ((((xc 10) * v1) + ((xc 2) * v2)) + v3)]) rfl rfl rfl rfl (Nat.le_of_ble_eq_true rfl) (fM_remember_kd hr7) rfl (by exact (fM_remember_ok (d := d + (1)) hr7)) ?_
      refine xr_go 1 (pc' := 72) (lo' := [some (.ref v0), some (.int v1), some (.int v2), some (.int v3), some (.int r1), some (.int ((xc 1) <<< ((((xc 2) * v2) + v3) &&& 31)))]) (st' := [.int (xc 1)]) (μ' := r7) rfl ?_
      have ho := Option.some.inj h
      subst ho
      obtain ⟨rfl, rfl⟩ := hK
      exact xr_ret (rv := some (.int (xc 1))) rfl rfl (Or.inl rfl)
    · replace h := (if_pos (Decidable.of_not_not (of_decide_eq_false hc))).symm.trans h
      refine xr_go 1 (pc' := 43) (lo' := [some (.ref v0), some (.int v1), some (.int v2), some (.int v3), some (.int r1), some (.int ((xc 1) <<< ((((xc 2) * v2) + v3) &&& 31)))]) (st' := [.int (xc 0)]) (μ' := μ) rfl ?_
      have ho := Option.some.inj h
      subst ho
      obtain ⟨rfl, rfl⟩ := hK
      exact xr_ret (rv := some (.int (xc 0))) rfl rfl (Or.inl rfl)
  · replace h := (if_neg (of_decide_eq_false hc)).symm.trans h
    refine xr_go 2 (pc' := 17) (lo' := [some (.ref v0), some (.int v1), some (.int v2), some (.int v3), some (.int r1), none]) (st' := [.int r1, .ref v0]) (μ' := μ) rfl ?_
    obtain ⟨r8, hr8, h⟩ := Option.bind_eq_some_iff.mp h
    refine xr_callV (j := 138) (d' := (d + 1)) (rv1 := some (.int r8.1)) (μ1 := r8.2) (rest := []) (As := [.int r1]) rfl rfl rfl rfl (Nat.le_of_ble_eq_true rfl) (fM_refuse_kd hr8) rfl (by exact (fM_refuse_ok (d := d + (1)) hr8)) ?_
    have ho := Option.some.inj h
    subst ho
    obtain ⟨rfl, rfl⟩ := hK
    exact xr_ret (rv := some (.int r8.1)) rfl rfl (Or.inl rfl)
noncomputable def fM_out (a0 : Nat) (a1 : Int32) (a2 : Int32) (a3 : Int32) (μ : xM) : Option (Int32 × xM) := xgd μ a0 9 (fM_out_0 a0 a1 a2 a3 μ)
theorem fM_out_kd {a0 : Nat} {a1 : Int32} {a2 : Int32} {a3 : Int32} {μ : xM} {o : Int32 × xM} (h : fM_out a0 a1 a2 a3 μ = some o) : (xK μ a0).1 = 10 + 9 := (xgd_some h).1
theorem fM_out_ok {d : Nat} {a0 : Nat} {a1 : Int32} {a2 : Int32} {a3 : Int32} {μ : xM} {o : Int32 × xM} (h : fM_out a0 a1 a2 a3 μ = some o) : xRun (d + 2) 147 0 [some (.ref a0), some (.int a1), some (.int a2), some (.int a3), none, none] [] μ (some (.int o.1)) o.2 :=
  xr_forget (lo := [some (.ref a0), some (.int a1), some (.int a2), some (.int a3), none, none]) (⟨rfl, rfl, rfl, rfl, trivial⟩) (fM_out_0_ok (d := d) (xgd_some h).2 (show fM_out_K _ _ o from ⟨rfl, rfl⟩))
-- KeptAnswers$Changes.latestRow()I 
def fC_latestRow_K (μ : xM) (rv : Option Value) (μf : xM) : (Int32) → Prop := fun o => rv = some (.int o) ∧ μf = μ
noncomputable def fC_latestRow_0  (v0 : Nat) (μ : xM) : Option (Int32) := (ldF μ v0 2 1).bind fun x1 => if x1 ≤ 0 then (some (xc (-1))) else ((ldFR μ v0 2 0).bind fun x2 => (ldF μ v0 2 1).bind fun x3 => (ldA μ x2 (x3 - (xc 1))).bind fun x4 => some x4)
theorem fC_latestRow_0_ok {d : Nat} {v0 : Nat} {μ : xM} {rv : Option Value} {μf : xM} {out : Int32} (h : fC_latestRow_0 v0 μ = some out) (hK : fC_latestRow_K μ rv μf out) : xRun (d + 0) 59 0 [some (.ref v0)] [] μ rv μf := by
  unfold fC_latestRow_0 at h
  refine xr_go 1 (pc' := 1) (lo' := [some (.ref v0)]) (st' := [.ref v0]) (μ' := μ) rfl ?_
  obtain ⟨x1, hx1, h⟩ := Option.bind_eq_some_iff.mp h
  refine xr_opI (pc' := 4) (lo' := [some (.ref v0)]) (st' := []) (o := ldF μ v0 2 1) rfl hx1 ?_
  refine xr_ifc (pct := 21) rfl rfl rfl (fun hc => ?_) (fun hc => ?_)
  · replace h := (if_pos (of_decide_eq_true hc)).symm.trans h
    refine xr_go 1 (pc' := 22) (lo' := [some (.ref v0)]) (st' := [.int (xc (-1))]) (μ' := μ) rfl ?_
    have ho := Option.some.inj h
    subst ho
    obtain ⟨rfl, rfl⟩ := hK
    exact xr_ret (rv := some (.int (xc (-1)))) rfl rfl (Or.inl rfl)
  · replace h := (if_neg (of_decide_eq_false hc)).symm.trans h
    refine xr_go 1 (pc' := 8) (lo' := [some (.ref v0)]) (st' := [.ref v0]) (μ' := μ) rfl ?_
    obtain ⟨x2, hx2, h⟩ := Option.bind_eq_some_iff.mp h
    refine xr_opA (pc' := 11) (lo' := [some (.ref v0)]) (st' := []) (o := ldFR μ v0 2 0) rfl hx2 ?_
    refine xr_go 1 (pc' := 12) (lo' := [some (.ref v0)]) (st' := [.ref v0, .ref x2]) (μ' := μ) rfl ?_
    obtain ⟨x3, hx3, h⟩ := Option.bind_eq_some_iff.mp h
    refine xr_opI (pc' := 15) (lo' := [some (.ref v0)]) (st' := [.ref x2]) (o := ldF μ v0 2 1) rfl hx3 ?_
    refine xr_go 2 (pc' := 17) (lo' := [some (.ref v0)]) (st' := [.int (x3 - (xc 1)), .ref x2]) (μ' := μ) rfl ?_
    obtain ⟨x4, hx4, h⟩ := Option.bind_eq_some_iff.mp h
    refine xr_opI (pc' := 18) (lo' := [some (.ref v0)]) (st' := []) (o := ldA μ x2 (x3 - (xc 1))) rfl hx4 ?_
    refine xr_go 1 (pc' := 22) (lo' := [some (.ref v0)]) (st' := [.int x4]) (μ' := μ) rfl ?_
    have ho := Option.some.inj h
    subst ho
    obtain ⟨rfl, rfl⟩ := hK
    exact xr_ret (rv := some (.int x4)) rfl rfl (Or.inl rfl)
noncomputable def fC_latestRow (a0 : Nat) (μ : xM) : Option (Int32) := xgd μ a0 2 (fC_latestRow_0 a0 μ)
theorem fC_latestRow_kd {a0 : Nat} {μ : xM} {o : Int32} (h : fC_latestRow a0 μ = some o) : (xK μ a0).1 = 10 + 2 := (xgd_some h).1
theorem fC_latestRow_ok {d : Nat} {a0 : Nat} {μ : xM} {o : Int32} (h : fC_latestRow a0 μ = some o) : xRun (d + 0) 59 0 [some (.ref a0)] [] μ (some (.int o)) μ :=
  xr_forget (lo := [some (.ref a0)]) (⟨rfl, trivial⟩) (fC_latestRow_0_ok (d := d) (xgd_some h).2 (show fC_latestRow_K μ _ _ o from ⟨rfl, rfl⟩))
-- KeptAnswers$Changes.dropLatest()V 
def fC_dropLatest_K (rv : Option Value) (μf : xM) : (xM) → Prop := fun o => rv = none ∧ μf = o
noncomputable def fC_dropLatest_0  (v0 : Nat) (μ : xM) : Option (xM) := (ldF μ v0 2 1).bind fun x1 => if x1 ≤ 0 then (some μ) else ((ldF μ v0 2 1).bind fun x2 => (stF μ v0 2 1 (x2 - (xc 1))).bind fun μ3 => some μ3)
theorem fC_dropLatest_0_ok {d : Nat} {v0 : Nat} {μ : xM} {rv : Option Value} {μf : xM} {out : xM} (h : fC_dropLatest_0 v0 μ = some out) (hK : fC_dropLatest_K rv μf out) : xRun (d + 0) 60 0 [some (.ref v0)] [] μ rv μf := by
  unfold fC_dropLatest_0 at h
  refine xr_go 1 (pc' := 1) (lo' := [some (.ref v0)]) (st' := [.ref v0]) (μ' := μ) rfl ?_
  obtain ⟨x1, hx1, h⟩ := Option.bind_eq_some_iff.mp h
  refine xr_opI (pc' := 4) (lo' := [some (.ref v0)]) (st' := []) (o := ldF μ v0 2 1) rfl hx1 ?_
  refine xr_ifc (pct := 17) rfl rfl rfl (fun hc => ?_) (fun hc => ?_)
  · replace h := (if_pos (of_decide_eq_true hc)).symm.trans h
    have ho := Option.some.inj h
    subst ho
    obtain ⟨rfl, rfl⟩ := hK
    exact xr_ret (rv := none) rfl rfl (rfl)
  · replace h := (if_neg (of_decide_eq_false hc)).symm.trans h
    refine xr_go 2 (pc' := 9) (lo' := [some (.ref v0)]) (st' := [.ref v0, .ref v0]) (μ' := μ) rfl ?_
    obtain ⟨x2, hx2, h⟩ := Option.bind_eq_some_iff.mp h
    refine xr_opI (pc' := 12) (lo' := [some (.ref v0)]) (st' := [.ref v0]) (o := ldF μ v0 2 1) rfl hx2 ?_
    refine xr_go 2 (pc' := 14) (lo' := [some (.ref v0)]) (st' := [.int (x2 - (xc 1)), .ref v0]) (μ' := μ) rfl ?_
    obtain ⟨μ3, hμ3, h⟩ := Option.bind_eq_some_iff.mp h
    refine xr_opM (pc' := 17) (lo' := [some (.ref v0)]) (st' := []) (o := stF μ v0 2 1 (x2 - (xc 1))) rfl hμ3 ?_
    have ho := Option.some.inj h
    subst ho
    obtain ⟨rfl, rfl⟩ := hK
    exact xr_ret (rv := none) rfl rfl (rfl)
noncomputable def fC_dropLatest (a0 : Nat) (μ : xM) : Option (xM) := xgd μ a0 2 (fC_dropLatest_0 a0 μ)
theorem fC_dropLatest_kd {a0 : Nat} {μ : xM} {o : xM} (h : fC_dropLatest a0 μ = some o) : (xK μ a0).1 = 10 + 2 := (xgd_some h).1
theorem fC_dropLatest_ok {d : Nat} {a0 : Nat} {μ : xM} {o : xM} (h : fC_dropLatest a0 μ = some o) : xRun (d + 0) 60 0 [some (.ref a0)] [] μ none o :=
  xr_forget (lo := [some (.ref a0)]) (⟨rfl, trivial⟩) (fC_dropLatest_0_ok (d := d) (xgd_some h).2 (show fC_dropLatest_K _ _ o from ⟨rfl, rfl⟩))
-- KeptAnswers.undo()I 
def fX_undo_K (rv : Option Value) (μf : xM) : (Int32 × xM) → Prop := fun o => rv = some (.int o.1) ∧ μf = o.2
noncomputable def fX_undo_48  (v0 : Nat) (v1 : Int32) (μ : xM) : Option (Int32 × xM) := (ldFR μ v0 0 0).bind fun x1 => (fH_turnRow x1 v1 μ).bind fun r2 => (ldFR r2 v0 0 5).bind fun x3 => (fC_dropLatest x3 r2).bind fun r4 => some ((xc 1, r4))
theorem fX_undo_48_ok {d : Nat} {v0 : Nat} {v1 : Int32} {μ : xM} {rv : Option Value} {μf : xM} {out : Int32 × xM} (h : fX_undo_48 v0 v1 μ = some out) (hK : fX_undo_K rv μf out) : xRun (d + 2) 3 48 [some (.ref v0), some (.int v1)] [] μ rv μf := by
  unfold fX_undo_48 at h
  refine xr_go 1 (pc' := 49) (lo' := [some (.ref v0), some (.int v1)]) (st' := [.ref v0]) (μ' := μ) rfl ?_
  obtain ⟨x1, hx1, h⟩ := Option.bind_eq_some_iff.mp h
  refine xr_opA (pc' := 52) (lo' := [some (.ref v0), some (.int v1)]) (st' := []) (o := ldFR μ v0 0 0) rfl hx1 ?_
  refine xr_go 1 (pc' := 53) (lo' := [some (.ref v0), some (.int v1)]) (st' := [.int v1, .ref x1]) (μ' := μ) rfl ?_
  obtain ⟨r2, hr2, h⟩ := Option.bind_eq_some_iff.mp h
  refine xr_callV (j := 64) (d' := (d + 1)) (rv1 := none) (μ1 := r2) (rest := []) (As := [.int v1]) rfl rfl rfl rfl (Nat.le_of_ble_eq_true rfl) (fH_turnRow_kd hr2) rfl (by exact (fH_turnRow_ok (d := d + (1)) hr2)) ?_
  refine xr_go 1 (pc' := 57) (lo' := [some (.ref v0), some (.int v1)]) (st' := [.ref v0]) (μ' := r2) rfl ?_
  obtain ⟨x3, hx3, h⟩ := Option.bind_eq_some_iff.mp h
  refine xr_opA (pc' := 60) (lo' := [some (.ref v0), some (.int v1)]) (st' := []) (o := ldFR r2 v0 0 5) rfl hx3 ?_
  obtain ⟨r4, hr4, h⟩ := Option.bind_eq_some_iff.mp h
  refine xr_callV (j := 60) (d' := (d + 1)) (rv1 := none) (μ1 := r4) (rest := []) (As := []) rfl rfl rfl rfl (Nat.le_of_ble_eq_true rfl) (fC_dropLatest_kd hr4) rfl (by exact (fC_dropLatest_ok (d := d + (1)) hr4)) ?_
  refine xr_go 1 (pc' := 64) (lo' := [some (.ref v0), some (.int v1)]) (st' := [.int (xc 1)]) (μ' := r4) rfl ?_
  have ho := Option.some.inj h
  subst ho
  obtain ⟨rfl, rfl⟩ := hK
  exact xr_ret (rv := some (.int (xc 1))) rfl rfl (Or.inl rfl)
noncomputable def fX_undo_0  (v0 : Nat) (μ : xM) : Option (Int32 × xM) := (ldFR μ v0 0 5).bind fun x5 => (fC_latestRow x5 μ).bind fun r6 => if 0 ≤ r6 then ((ldFR μ v0 0 0).bind fun x7 => (fH_hasRow x7 r6 μ).bind fun r8 => if r8 = 0 then ((ldFR μ v0 0 0).bind fun x9 => (fH_breaksKey x9 r6 μ).bind fun r10 => if r10 = 0 then (fX_undo_48 v0 r6 μ) else ((fX_refuse v0 (xc (-3)) μ).bind fun r11 => some ((r11.1, r11.2)))) else (fX_undo_48 v0 r6 μ)) else ((fX_refuse v0 (xc (-3)) μ).bind fun r12 => some ((r12.1, r12.2)))
theorem fX_undo_0_ok {d : Nat} {v0 : Nat} {μ : xM} {rv : Option Value} {μf : xM} {out : Int32 × xM} (h : fX_undo_0 v0 μ = some out) (hK : fX_undo_K rv μf out) : xRun (d + 2) 3 0 [some (.ref v0), none] [] μ rv μf := by
  unfold fX_undo_0 at h
  refine xr_go 1 (pc' := 1) (lo' := [some (.ref v0), none]) (st' := [.ref v0]) (μ' := μ) rfl ?_
  obtain ⟨x5, hx5, h⟩ := Option.bind_eq_some_iff.mp h
  refine xr_opA (pc' := 4) (lo' := [some (.ref v0), none]) (st' := []) (o := ldFR μ v0 0 5) rfl hx5 ?_
  obtain ⟨r6, hr6, h⟩ := Option.bind_eq_some_iff.mp h
  refine xr_callV (j := 59) (d' := (d + 1)) (rv1 := some (.int r6)) (μ1 := μ) (rest := []) (As := []) rfl rfl rfl rfl (Nat.le_of_ble_eq_true rfl) (fC_latestRow_kd hr6) rfl (by exact (fC_latestRow_ok (d := d + (1)) hr6)) ?_
  refine xr_go 2 (pc' := 9) (lo' := [some (.ref v0), some (.int r6)]) (st' := [.int r6]) (μ' := μ) rfl ?_
  refine xr_ifc (pct := 19) rfl rfl rfl (fun hc => ?_) (fun hc => ?_)
  · replace h := (if_pos (of_decide_eq_true hc)).symm.trans h
    refine xr_go 1 (pc' := 20) (lo' := [some (.ref v0), some (.int r6)]) (st' := [.ref v0]) (μ' := μ) rfl ?_
    obtain ⟨x7, hx7, h⟩ := Option.bind_eq_some_iff.mp h
    refine xr_opA (pc' := 23) (lo' := [some (.ref v0), some (.int r6)]) (st' := []) (o := ldFR μ v0 0 0) rfl hx7 ?_
    refine xr_go 1 (pc' := 24) (lo' := [some (.ref v0), some (.int r6)]) (st' := [.int r6, .ref x7]) (μ' := μ) rfl ?_
    obtain ⟨r8, hr8, h⟩ := Option.bind_eq_some_iff.mp h
    refine xr_callV (j := 63) (d' := (d + 1)) (rv1 := some (.int r8)) (μ1 := μ) (rest := []) (As := [.int r6]) rfl rfl rfl rfl (Nat.le_of_ble_eq_true rfl) (fH_hasRow_kd hr8) rfl (by exact (fH_hasRow_ok (d := d + (1)) hr8)) ?_
    refine xr_ifc (pct := 48) rfl rfl rfl (fun hc => ?_) (fun hc => ?_)
    · replace h := (if_neg (of_decide_eq_true hc)).symm.trans h
      refine xr_forget (lo := [some (.ref v0), some (.int r6)]) ⟨rfl, rfl, trivial⟩ ?_
      exact fX_undo_48_ok h hK
    · replace h := (if_pos (Decidable.of_not_not (of_decide_eq_false hc))).symm.trans h
      refine xr_go 1 (pc' := 31) (lo' := [some (.ref v0), some (.int r6)]) (st' := [.ref v0]) (μ' := μ) rfl ?_
      obtain ⟨x9, hx9, h⟩ := Option.bind_eq_some_iff.mp h
      refine xr_opA (pc' := 34) (lo' := [some (.ref v0), some (.int r6)]) (st' := []) (o := ldFR μ v0 0 0) rfl hx9 ?_
      refine xr_go 1 (pc' := 35) (lo' := [some (.ref v0), some (.int r6)]) (st' := [.int r6, .ref x9]) (μ' := μ) rfl ?_
      obtain ⟨r10, hr10, h⟩ := Option.bind_eq_some_iff.mp h
      refine xr_callV (j := 68) (d' := (d + 1)) (rv1 := some (.int r10)) (μ1 := μ) (rest := []) (As := [.int r6]) rfl rfl rfl rfl (Nat.le_of_ble_eq_true rfl) (fH_breaksKey_kd hr10) rfl (by exact (fH_breaksKey_ok (d := d + (0)) hr10)) ?_
      refine xr_ifc (pct := 48) rfl rfl rfl (fun hc => ?_) (fun hc => ?_)
      · replace h := (if_pos (of_decide_eq_true hc)).symm.trans h
        refine xr_forget (lo := [some (.ref v0), some (.int r6)]) ⟨rfl, rfl, trivial⟩ ?_
        exact fX_undo_48_ok h hK
      · replace h := (if_neg (of_decide_eq_false hc)).symm.trans h
        refine xr_go 2 (pc' := 44) (lo' := [some (.ref v0), some (.int r6)]) (st' := [.int (xc (-3)), .ref v0]) (μ' := μ) rfl ?_
        obtain ⟨r11, hr11, h⟩ := Option.bind_eq_some_iff.mp h
        refine xr_callV (j := 37) (d' := (d + 1)) (rv1 := some (.int r11.1)) (μ1 := r11.2) (rest := []) (As := [.int (xc (-3))]) rfl rfl rfl rfl (Nat.le_of_ble_eq_true rfl) (fX_refuse_kd hr11) rfl (by exact (fX_refuse_ok (d := d + (1)) hr11)) ?_
        have ho := Option.some.inj h
        subst ho
        obtain ⟨rfl, rfl⟩ := hK
        exact xr_ret (rv := some (.int r11.1)) rfl rfl (Or.inl rfl)
  · replace h := (if_neg (of_decide_eq_false hc)).symm.trans h
    refine xr_go 2 (pc' := 15) (lo' := [some (.ref v0), some (.int r6)]) (st' := [.int (xc (-3)), .ref v0]) (μ' := μ) rfl ?_
    obtain ⟨r12, hr12, h⟩ := Option.bind_eq_some_iff.mp h
    refine xr_callV (j := 37) (d' := (d + 1)) (rv1 := some (.int r12.1)) (μ1 := r12.2) (rest := []) (As := [.int (xc (-3))]) rfl rfl rfl rfl (Nat.le_of_ble_eq_true rfl) (fX_refuse_kd hr12) rfl (by exact (fX_refuse_ok (d := d + (1)) hr12)) ?_
    have ho := Option.some.inj h
    subst ho
    obtain ⟨rfl, rfl⟩ := hK
    exact xr_ret (rv := some (.int r12.1)) rfl rfl (Or.inl rfl)
noncomputable def fX_undo (a0 : Nat) (μ : xM) : Option (Int32 × xM) := xgd μ a0 0 (fX_undo_0 a0 μ)
theorem fX_undo_kd {a0 : Nat} {μ : xM} {o : Int32 × xM} (h : fX_undo a0 μ = some o) : (xK μ a0).1 = 10 + 0 := (xgd_some h).1
theorem fX_undo_ok {d : Nat} {a0 : Nat} {μ : xM} {o : Int32 × xM} (h : fX_undo a0 μ = some o) : xRun (d + 2) 3 0 [some (.ref a0), none] [] μ (some (.int o.1)) o.2 :=
  xr_forget (lo := [some (.ref a0), none]) (⟨rfl, trivial⟩) (fX_undo_0_ok (d := d) (xgd_some h).2 (show fX_undo_K _ _ o from ⟨rfl, rfl⟩))
-- KeptAnswersModel.undo()I 
def fM_undo_K (rv : Option Value) (μf : xM) : (Int32 × xM) → Prop := fun o => rv = some (.int o.1) ∧ μf = o.2
noncomputable def fM_undo_71  (v0 : Nat) (v2 : Int32) (v3 : Int32) (μ : xM) : Option (Int32 × xM) := (ldFR μ v0 9 0).bind fun x1 => (stA μ x1 v2 v3).bind fun μ2 => (ldF μ2 v0 9 3).bind fun x3 => (stF μ2 v0 9 3 (x3 - (xc 1))).bind fun μ4 => some ((xc 1, μ4))
theorem fM_undo_71_ok {d : Nat} {v0 : Nat} {v2 : Int32} {v3 : Int32} {μ : xM} {rv : Option Value} {μf : xM} {out : Int32 × xM} (h : fM_undo_71 v0 v2 v3 μ = some out) (hK : fM_undo_K rv μf out) : xRun (d + 1) 148 71 [some (.ref v0), none, some (.int v2), some (.int v3)] [] μ rv μf := by
  unfold fM_undo_71 at h
  refine xr_go 1 (pc' := 72) (lo' := [some (.ref v0), none, some (.int v2), some (.int v3)]) (st' := [.ref v0]) (μ' := μ) rfl ?_
  obtain ⟨x1, hx1, h⟩ := Option.bind_eq_some_iff.mp h
  refine xr_opA (pc' := 75) (lo' := [some (.ref v0), none, some (.int v2), some (.int v3)]) (st' := []) (o := ldFR μ v0 9 0) rfl hx1 ?_
  refine xr_go 2 (pc' := 77) (lo' := [some (.ref v0), none, some (.int v2), some (.int v3)]) (st' := [.int v3, .int v2, .ref x1]) (μ' := μ) rfl ?_
  obtain ⟨μ2, hμ2, h⟩ := Option.bind_eq_some_iff.mp h
  refine xr_opM (pc' := 78) (lo' := [some (.ref v0), none, some (.int v2), some (.int v3)]) (st' := []) (o := stA μ x1 v2 v3) rfl hμ2 ?_
  refine xr_go 2 (pc' := 80) (lo' := [some (.ref v0), none, some (.int v2), some (.int v3)]) (st' := [.ref v0, .ref v0]) (μ' := μ2) rfl ?_
  obtain ⟨x3, hx3, h⟩ := Option.bind_eq_some_iff.mp h
  refine xr_opI (pc' := 83) (lo' := [some (.ref v0), none, some (.int v2), some (.int v3)]) (st' := [.ref v0]) (o := ldF μ2 v0 9 3) rfl hx3 ?_
  refine xr_go 2 (pc' := 85) (lo' := [some (.ref v0), none, some (.int v2), some (.int v3)]) (st' := [.int (x3 - (xc 1)), .ref v0]) (μ' := μ2) rfl ?_
  obtain ⟨μ4, hμ4, h⟩ := Option.bind_eq_some_iff.mp h
  refine xr_opM (pc' := 88) (lo' := [some (.ref v0), none, some (.int v2), some (.int v3)]) (st' := []) (o := stF μ2 v0 9 3 (x3 - (xc 1))) rfl hμ4 ?_
  refine xr_go 1 (pc' := 89) (lo' := [some (.ref v0), none, some (.int v2), some (.int v3)]) (st' := [.int (xc 1)]) (μ' := μ4) rfl ?_
  have ho := Option.some.inj h
  subst ho
  obtain ⟨rfl, rfl⟩ := hK
  exact xr_ret (rv := some (.int (xc 1))) rfl rfl (Or.inl rfl)
noncomputable def fM_undo_0  (v0 : Nat) (μ : xM) : Option (Int32 × xM) := (ldF μ v0 9 3).bind fun x5 => if x5 = 0 then ((fM_refuse v0 (xc (-3)) μ).bind fun r18 => some ((r18.1, r18.2))) else ((ldFR μ v0 9 2).bind fun x6 => (ldF μ v0 9 3).bind fun x7 => (ldA μ x6 (x7 - (xc 1))).bind fun x8 => (rmI x8 (xc 100)).bind fun x9 => (dvI x9 (xc 10)).bind fun x10 => (ldFR μ v0 9 0).bind fun x11 => (ldA μ x11 x10).bind fun x12 => (rmI x8 (xc 10)).bind fun x13 => (ldFR μ v0 9 1).bind fun x14 => (ldAZ μ x14 x10).bind fun x15 => if x15 = 0 then (fM_undo_71 v0 x10 (x12 ^^^ ((xc 1) <<< (x13 &&& 31))) μ) else ((fM_isKeyed (x12 ^^^ ((xc 1) <<< (x13 &&& 31))) μ).bind fun r16 => if r16 = 0 then ((fM_refuse v0 (xc (-3)) μ).bind fun r17 => some ((r17.1, r17.2))) else (fM_undo_71 v0 x10 (x12 ^^^ ((xc 1) <<< (x13 &&& 31))) μ)))
theorem fM_undo_0_ok {d : Nat} {v0 : Nat} {μ : xM} {rv : Option Value} {μf : xM} {out : Int32 × xM} (h : fM_undo_0 v0 μ = some out) (hK : fM_undo_K rv μf out) : xRun (d + 1) 148 0 [some (.ref v0), none, none, none] [] μ rv μf := by
  unfold fM_undo_0 at h
  refine xr_go 1 (pc' := 1) (lo' := [some (.ref v0), none, none, none]) (st' := [.ref v0]) (μ' := μ) rfl ?_
  obtain ⟨x5, hx5, h⟩ := Option.bind_eq_some_iff.mp h
  refine xr_opI (pc' := 4) (lo' := [some (.ref v0), none, none, none]) (st' := []) (o := ldF μ v0 9 3) rfl hx5 ?_
  refine xr_ifc (pct := 14) rfl rfl rfl (fun hc => ?_) (fun hc => ?_)
  · replace h := (if_neg (of_decide_eq_true hc)).symm.trans h
    refine xr_go 1 (pc' := 15) (lo' := [some (.ref v0), none, none, none]) (st' := [.ref v0]) (μ' := μ) rfl ?_
    obtain ⟨x6, hx6, h⟩ := Option.bind_eq_some_iff.mp h
    refine xr_opA (pc' := 18) (lo' := [some (.ref v0), none, none, none]) (st' := []) (o := ldFR μ v0 9 2) rfl hx6 ?_
    refine xr_go 1 (pc' := 19) (lo' := [some (.ref v0), none, none, none]) (st' := [.ref v0, .ref x6]) (μ' := μ) rfl ?_
    obtain ⟨x7, hx7, h⟩ := Option.bind_eq_some_iff.mp h
    refine xr_opI (pc' := 22) (lo' := [some (.ref v0), none, none, none]) (st' := [.ref x6]) (o := ldF μ v0 9 3) rfl hx7 ?_
    refine xr_go 2 (pc' := 24) (lo' := [some (.ref v0), none, none, none]) (st' := [.int (x7 - (xc 1)), .ref x6]) (μ' := μ) rfl ?_
    obtain ⟨x8, hx8, h⟩ := Option.bind_eq_some_iff.mp h
    refine xr_opI (pc' := 25) (lo' := [some (.ref v0), none, none, none]) (st' := []) (o := ldA μ x6 (x7 - (xc 1))) rfl hx8 ?_
    refine xr_go 3 (pc' := 29) (lo' := [some (.ref v0), some (.int x8), none, none]) (st' := [.int (xc 100), .int x8]) (μ' := μ) rfl ?_
    obtain ⟨x9, hx9, h⟩ := Option.bind_eq_some_iff.mp h
    refine xr_opI (pc' := 30) (lo' := [some (.ref v0), some (.int x8), none, none]) (st' := []) (o := rmI x8 (xc 100)) rfl hx9 ?_
    refine xr_go 1 (pc' := 32) (lo' := [some (.ref v0), some (.int x8), none, none]) (st' := [.int (xc 10), .int x9]) (μ' := μ) rfl ?_
    obtain ⟨x10, hx10, h⟩ := Option.bind_eq_some_iff.mp h
    refine xr_opI (pc' := 33) (lo' := [some (.ref v0), some (.int x8), none, none]) (st' := []) (o := dvI x9 (xc 10)) rfl hx10 ?_
    refine xr_go 2 (pc' := 35) (lo' := [some (.ref v0), some (.int x8), some (.int x10), none]) (st' := [.ref v0]) (μ' := μ) rfl ?_
    obtain ⟨x11, hx11, h⟩ := Option.bind_eq_some_iff.mp h
    refine xr_opA (pc' := 38) (lo' := [some (.ref v0), some (.int x8), some (.int x10), none]) (st' := []) (o := ldFR μ v0 9 0) rfl hx11 ?_
    refine xr_go 1 (pc' := 39) (lo' := [some (.ref v0), some (.int x8), some (.int x10), none]) (st' := [.int x10, .ref x11]) (μ' := μ) rfl ?_
    obtain ⟨x12, hx12, h⟩ := Option.bind_eq_some_iff.mp h
    refine xr_opI (pc' := 40) (lo' := [some (.ref v0), some (.int x8), some (.int x10), none]) (st' := []) (o := ldA μ x11 x10) rfl hx12 ?_
    refine xr_go 3 (pc' := 44) (lo' := [some (.ref v0), some (.int x8), some (.int x10), none]) (st' := [.int (xc 10), .int x8, .int (xc 1), .int x12]) (μ' := μ) rfl ?_
    obtain ⟨x13, hx13, h⟩ := Option.bind_eq_some_iff.mp h
    refine xr_opI (pc' := 45) (lo' := [some (.ref v0), some (.int x8), some (.int x10), none]) (st' := [.int (xc 1), .int x12]) (o := rmI x8 (xc 10)) rfl hx13 ?_
    refine xr_go 4 (pc' := 49) (lo' := [some (.ref v0), some (.int x8), some (.int x10), some (.int (x12 ^^^ ((xc 1) <<< (x13 &&& 31))))]) (st' := [.ref v0]) (μ' := μ) rfl ?_
    obtain ⟨x14, hx14, h⟩ := Option.bind_eq_some_iff.mp h
    refine xr_opA (pc' := 52) (lo' := [some (.ref v0), some (.int x8), some (.int x10), some (.int (x12 ^^^ ((xc 1) <<< (x13 &&& 31))))]) (st' := []) (o := ldFR μ v0 9 1) rfl hx14 ?_
    refine xr_go 1 (pc' := 53) (lo' := [some (.ref v0), some (.int x8), some (.int x10), some (.int (x12 ^^^ ((xc 1) <<< (x13 &&& 31))))]) (st' := [.int x10, .ref x14]) (μ' := μ) rfl ?_
    obtain ⟨x15, hx15, h⟩ := Option.bind_eq_some_iff.mp h
    refine xr_opI (pc' := 54) (lo' := [some (.ref v0), some (.int x8), some (.int x10), some (.int (x12 ^^^ ((xc 1) <<< (x13 &&& 31))))]) (st' := []) (o := ldAZ μ x14 x10) rfl hx15 ?_
    refine xr_ifc (pct := 71) rfl rfl rfl (fun hc => ?_) (fun hc => ?_)
    · replace h := (if_pos (of_decide_eq_true hc)).symm.trans h
      refine xr_forget (lo := [some (.ref v0), none, some (.int x10), some (.int (x12 ^^^ ((xc 1) <<< (x13 &&& 31))))]) ⟨rfl, rfl, rfl, trivial⟩ ?_
      exact fM_undo_71_ok h hK
    · replace h := (if_neg (of_decide_eq_false hc)).symm.trans h
      refine xr_go 1 (pc' := 58) (lo' := [some (.ref v0), some (.int x8), some (.int x10), some (.int (x12 ^^^ ((xc 1) <<< (x13 &&& 31))))]) (st' := [.int (x12 ^^^ ((xc 1) <<< (x13 &&& 31)))]) (μ' := μ) rfl ?_
      obtain ⟨r16, hr16, h⟩ := Option.bind_eq_some_iff.mp h
      refine xr_callS (j := 142) (d' := (d + 0)) (rv1 := some (.int r16)) (μ1 := μ) (rest := []) (As := [.int (x12 ^^^ ((xc 1) <<< (x13 &&& 31)))]) rfl rfl rfl rfl (Nat.le_of_ble_eq_true rfl) rfl (by exact (fM_isKeyed_ok (d := d + (0)) hr16)) ?_
      refine xr_ifc (pct := 71) rfl rfl rfl (fun hc => ?_) (fun hc => ?_)
      · replace h := (if_neg (of_decide_eq_true hc)).symm.trans h
        refine xr_forget (lo := [some (.ref v0), none, some (.int x10), some (.int (x12 ^^^ ((xc 1) <<< (x13 &&& 31))))]) ⟨rfl, rfl, rfl, trivial⟩ ?_
        exact fM_undo_71_ok h hK
      · replace h := (if_pos (Decidable.of_not_not (of_decide_eq_false hc))).symm.trans h
        refine xr_go 2 (pc' := 67) (lo' := [some (.ref v0), some (.int x8), some (.int x10), some (.int (x12 ^^^ ((xc 1) <<< (x13 &&& 31))))]) (st' := [.int (xc (-3)), .ref v0]) (μ' := μ) rfl ?_
        obtain ⟨r17, hr17, h⟩ := Option.bind_eq_some_iff.mp h
        refine xr_callV (j := 138) (d' := (d + 0)) (rv1 := some (.int r17.1)) (μ1 := r17.2) (rest := []) (As := [.int (xc (-3))]) rfl rfl rfl rfl (Nat.le_of_ble_eq_true rfl) (fM_refuse_kd hr17) rfl (by exact (fM_refuse_ok (d := d + (0)) hr17)) ?_
        have ho := Option.some.inj h
        subst ho
        obtain ⟨rfl, rfl⟩ := hK
        exact xr_ret (rv := some (.int r17.1)) rfl rfl (Or.inl rfl)
  · replace h := (if_pos (Decidable.of_not_not (of_decide_eq_false hc))).symm.trans h
    refine xr_go 2 (pc' := 10) (lo' := [some (.ref v0), none, none, none]) (st' := [.int (xc (-3)), .ref v0]) (μ' := μ) rfl ?_
    obtain ⟨r18, hr18, h⟩ := Option.bind_eq_some_iff.mp h
    refine xr_callV (j := 138) (d' := (d + 0)) (rv1 := some (.int r18.1)) (μ1 := r18.2) (rest := []) (As := [.int (xc (-3))]) rfl rfl rfl rfl (Nat.le_of_ble_eq_true rfl) (fM_refuse_kd hr18) rfl (by exact (fM_refuse_ok (d := d + (0)) hr18)) ?_
    have ho := Option.some.inj h
    subst ho
    obtain ⟨rfl, rfl⟩ := hK
    exact xr_ret (rv := some (.int r18.1)) rfl rfl (Or.inl rfl)
noncomputable def fM_undo (a0 : Nat) (μ : xM) : Option (Int32 × xM) := xgd μ a0 9 (fM_undo_0 a0 μ)
theorem fM_undo_kd {a0 : Nat} {μ : xM} {o : Int32 × xM} (h : fM_undo a0 μ = some o) : (xK μ a0).1 = 10 + 9 := (xgd_some h).1
theorem fM_undo_ok {d : Nat} {a0 : Nat} {μ : xM} {o : Int32 × xM} (h : fM_undo a0 μ = some o) : xRun (d + 1) 148 0 [some (.ref a0), none, none, none] [] μ (some (.int o.1)) o.2 :=
  xr_forget (lo := [some (.ref a0), none, none, none]) (⟨rfl, trivial⟩) (fM_undo_0_ok (d := d) (xgd_some h).2 (show fM_undo_K _ _ o from ⟨rfl, rfl⟩))
-- KeptAnswers$Holding.rowsOf(I)I 
def fH_rowsOf_K (μ : xM) (rv : Option Value) (μf : xM) : (Int32) → Prop := fun o => rv = some (.int o) ∧ μf = μ
noncomputable def fH_rowsOf_0  (v0 : Nat) (v1 : Int32) (μ : xM) : Option (Int32) := (ldF μ v0 3 0).bind fun x1 => some ((x1 >>> (((xc 4) * v1) &&& 31)) &&& (xc 15))
theorem fH_rowsOf_0_ok {d : Nat} {v0 : Nat} {v1 : Int32} {μ : xM} {rv : Option Value} {μf : xM} {out : Int32} (h : fH_rowsOf_0 v0 v1 μ = some out) (hK : fH_rowsOf_K μ rv μf out) : xRun (d + 0) 65 0 [some (.ref v0), some (.int v1)] [] μ rv μf := by
  unfold fH_rowsOf_0 at h
  refine xr_go 1 (pc' := 1) (lo' := [some (.ref v0), some (.int v1)]) (st' := [.ref v0]) (μ' := μ) rfl ?_
  obtain ⟨x1, hx1, h⟩ := Option.bind_eq_some_iff.mp h
  refine xr_opI (pc' := 4) (lo' := [some (.ref v0), some (.int v1)]) (st' := []) (o := ldF μ v0 3 0) rfl hx1 ?_
  refine xr_go 6 (pc' := 11) (lo' := [some (.ref v0), some (.int v1)]) (st' := [.int ((x1 >>> (((xc 4) * v1) &&& 31)) &&& (xc 15))]) (μ' := μ) rfl ?_
  have ho := Option.some.inj h
  subst ho
  obtain ⟨rfl, rfl⟩ := hK
  exact xr_ret (rv := some (.int ((x1 >>> (((xc 4) * v1) &&& 31)) &&& (xc 15)))) rfl rfl (Or.inl rfl)
noncomputable def fH_rowsOf (a0 : Nat) (a1 : Int32) (μ : xM) : Option (Int32) := xgd μ a0 3 (fH_rowsOf_0 a0 a1 μ)
theorem fH_rowsOf_kd {a0 : Nat} {a1 : Int32} {μ : xM} {o : Int32} (h : fH_rowsOf a0 a1 μ = some o) : (xK μ a0).1 = 10 + 3 := (xgd_some h).1
theorem fH_rowsOf_ok {d : Nat} {a0 : Nat} {a1 : Int32} {μ : xM} {o : Int32} (h : fH_rowsOf a0 a1 μ = some o) : xRun (d + 0) 65 0 [some (.ref a0), some (.int a1)] [] μ (some (.int o)) μ :=
  xr_forget (lo := [some (.ref a0), some (.int a1)]) (⟨rfl, rfl, trivial⟩) (fH_rowsOf_0_ok (d := d) (xgd_some h).2 (show fH_rowsOf_K μ _ _ o from ⟨rfl, rfl⟩))
-- KeptAnswers$Holding.hasDoubleX(I)Z 
def fH_hasDoubleX_K (μ : xM) (rv : Option Value) (μf : xM) : (Int32) → Prop := fun o => rv = some (.int o) ∧ μf = μ
noncomputable def fH_hasDoubleX_0  (v0 : Nat) (v1 : Int32) (μ : xM) : Option (Int32) := (fH_rowsOf v0 v1 μ).bind fun r1 => if ((r1 &&& (r1 >>> ((xc 1) &&& 31))) &&& (xc 5)) = 0 then (some (xc 0)) else (some (xc 1))
theorem fH_hasDoubleX_0_ok {d : Nat} {v0 : Nat} {v1 : Int32} {μ : xM} {rv : Option Value} {μf : xM} {out : Int32} (h : fH_hasDoubleX_0 v0 v1 μ = some out) (hK : fH_hasDoubleX_K μ rv μf out) : xRun (d + 1) 67 0 [some (.ref v0), some (.int v1), none] [] μ rv μf := by
  unfold fH_hasDoubleX_0 at h
  refine xr_go 2 (pc' := 2) (lo' := [some (.ref v0), some (.int v1), none]) (st' := [.int v1, .ref v0]) (μ' := μ) rfl ?_
  obtain ⟨r1, hr1, h⟩ := Option.bind_eq_some_iff.mp h
  refine xr_callV (j := 65) (d' := (d + 0)) (rv1 := some (.int r1)) (μ1 := μ) (rest := []) (As := [.int v1]) rfl rfl rfl rfl (Nat.le_of_ble_eq_true rfl) (fH_rowsOf_kd hr1) rfl (by exact (fH_rowsOf_ok (d := d + (0)) hr1)) ?_
  refine xr_go 8 (pc' := 13) (lo' := [some (.ref v0), some (.int v1), some (.int r1)]) (st' := [.int ((r1 &&& (r1 >>> ((xc 1) &&& 31))) &&& (xc 5))]) (μ' := μ) rfl ?_
  refine xr_ifc (pct := 20) rfl rfl rfl (fun hc => ?_) (fun hc => ?_)
  · replace h := (if_pos (of_decide_eq_true hc)).symm.trans h
    refine xr_go 1 (pc' := 21) (lo' := [some (.ref v0), some (.int v1), some (.int r1)]) (st' := [.int (xc 0)]) (μ' := μ) rfl ?_
    have ho := Option.some.inj h
    subst ho
    obtain ⟨rfl, rfl⟩ := hK
    exact xr_ret (rv := some (.int (xc 0))) rfl rfl (Or.inr ⟨rfl, Or.inl rfl⟩)
  · replace h := (if_neg (of_decide_eq_false hc)).symm.trans h
    refine xr_go 2 (pc' := 21) (lo' := [some (.ref v0), some (.int v1), some (.int r1)]) (st' := [.int (xc 1)]) (μ' := μ) rfl ?_
    have ho := Option.some.inj h
    subst ho
    obtain ⟨rfl, rfl⟩ := hK
    exact xr_ret (rv := some (.int (xc 1))) rfl rfl (Or.inr ⟨rfl, Or.inr rfl⟩)
noncomputable def fH_hasDoubleX (a0 : Nat) (a1 : Int32) (μ : xM) : Option (Int32) := xgd μ a0 3 (fH_hasDoubleX_0 a0 a1 μ)
theorem fH_hasDoubleX_kd {a0 : Nat} {a1 : Int32} {μ : xM} {o : Int32} (h : fH_hasDoubleX a0 a1 μ = some o) : (xK μ a0).1 = 10 + 3 := (xgd_some h).1
theorem fH_hasDoubleX_ok {d : Nat} {a0 : Nat} {a1 : Int32} {μ : xM} {o : Int32} (h : fH_hasDoubleX a0 a1 μ = some o) : xRun (d + 1) 67 0 [some (.ref a0), some (.int a1), none] [] μ (some (.int o)) μ :=
  xr_forget (lo := [some (.ref a0), some (.int a1), none]) (⟨rfl, rfl, trivial⟩) (fH_hasDoubleX_0_ok (d := d) (xgd_some h).2 (show fH_hasDoubleX_K μ _ _ o from ⟨rfl, rfl⟩))
-- KeptAnswers$Sight.forget()V 
def fS_forget_K (rv : Option Value) (μf : xM) : (xM) → Prop := fun o => rv = none ∧ μf = o
noncomputable def fS_forget_0  (v0 : Nat) (μ : xM) : Option (xM) := (stFZ μ v0 6 8 (xc 0)).bind fun μ1 => (stFZ μ1 v0 6 9 (xc 0)).bind fun μ2 => some μ2
theorem fS_forget_0_ok {d : Nat} {v0 : Nat} {μ : xM} {rv : Option Value} {μf : xM} {out : xM} (h : fS_forget_0 v0 μ = some out) (hK : fS_forget_K rv μf out) : xRun (d + 0) 97 0 [some (.ref v0)] [] μ rv μf := by
  unfold fS_forget_0 at h
  refine xr_go 2 (pc' := 2) (lo' := [some (.ref v0)]) (st' := [.int (xc 0), .ref v0]) (μ' := μ) rfl ?_
  obtain ⟨μ1, hμ1, h⟩ := Option.bind_eq_some_iff.mp h
  refine xr_opM (pc' := 5) (lo' := [some (.ref v0)]) (st' := []) (o := stFZ μ v0 6 8 (xc 0)) rfl hμ1 ?_
  refine xr_go 2 (pc' := 7) (lo' := [some (.ref v0)]) (st' := [.int (xc 0), .ref v0]) (μ' := μ1) rfl ?_
  obtain ⟨μ2, hμ2, h⟩ := Option.bind_eq_some_iff.mp h
  refine xr_opM (pc' := 10) (lo' := [some (.ref v0)]) (st' := []) (o := stFZ μ1 v0 6 9 (xc 0)) rfl hμ2 ?_
  have ho := Option.some.inj h
  subst ho
  obtain ⟨rfl, rfl⟩ := hK
  exact xr_ret (rv := none) rfl rfl (rfl)
noncomputable def fS_forget (a0 : Nat) (μ : xM) : Option (xM) := xgd μ a0 6 (fS_forget_0 a0 μ)
theorem fS_forget_kd {a0 : Nat} {μ : xM} {o : xM} (h : fS_forget a0 μ = some o) : (xK μ a0).1 = 10 + 6 := (xgd_some h).1
theorem fS_forget_ok {d : Nat} {a0 : Nat} {μ : xM} {o : xM} (h : fS_forget a0 μ = some o) : xRun (d + 0) 97 0 [some (.ref a0)] [] μ none o :=
  xr_forget (lo := [some (.ref a0)]) (⟨rfl, trivial⟩) (fS_forget_0_ok (d := d) (xgd_some h).2 (show fS_forget_K _ _ o from ⟨rfl, rfl⟩))
-- KeptAnswers.forgetSights()V 
def fX_forgetSights_K (rv : Option Value) (μf : xM) : (xM) → Prop := fun o => rv = none ∧ μf = o
def fX_forgetSights_K2 (v0 : Nat) (d : Nat) (rv : Option Value) (μf : xM) : ((Int32 × xM) ⊕ (xM)) → Prop := Sum.elim (fun s : Int32 × xM => xRun (d + 1) 46 2 [some (.ref v0), some (.int s.1)] [] s.2 rv μf) (fX_forgetSights_K rv μf)
noncomputable def fX_forgetSights_L2  (v0 : Nat) (v1 : Int32) (μ : xM) : Option ((Int32 × xM) ⊕ (xM)) := if (xc 10) ≤ v1 then (some (.inr μ)) else ((ldFR μ v0 0 6).bind fun x1 => (ldAR μ x1 v1).bind fun x2 => (fS_forget x2 μ).bind fun r3 => some (.inl ((v1 + xc 1, r3))))
theorem fX_forgetSights_L2_ok {d : Nat} {v0 : Nat} {v1 : Int32} {μ : xM} {rv : Option Value} {μf : xM} {out : (Int32 × xM) ⊕ (xM)} (h : fX_forgetSights_L2 v0 v1 μ = some out) (hK : fX_forgetSights_K2 v0 d rv μf out) : xRun (d + 1) 46 2 [some (.ref v0), some (.int v1)] [] μ rv μf := by
  unfold fX_forgetSights_L2 at h
  refine xr_go 2 (pc' := 5) (lo' := [some (.ref v0), some (.int v1)]) (st' := [.int (xc 10), .int v1]) (μ' := μ) rfl ?_
  refine xr_icmp (pct := 23) rfl rfl rfl (fun hc => ?_) (fun hc => ?_)
  · replace h := (if_pos (of_decide_eq_true hc)).symm.trans h
    have ho := Option.some.inj h
    subst ho
    obtain ⟨rfl, rfl⟩ := hK
    exact xr_ret (rv := none) rfl rfl (rfl)
  · replace h := (if_neg (of_decide_eq_false hc)).symm.trans h
    refine xr_go 1 (pc' := 9) (lo' := [some (.ref v0), some (.int v1)]) (st' := [.ref v0]) (μ' := μ) rfl ?_
    obtain ⟨x1, hx1, h⟩ := Option.bind_eq_some_iff.mp h
    refine xr_opA (pc' := 12) (lo' := [some (.ref v0), some (.int v1)]) (st' := []) (o := ldFR μ v0 0 6) rfl hx1 ?_
    refine xr_go 1 (pc' := 13) (lo' := [some (.ref v0), some (.int v1)]) (st' := [.int v1, .ref x1]) (μ' := μ) rfl ?_
    obtain ⟨x2, hx2, h⟩ := Option.bind_eq_some_iff.mp h
    refine xr_opA (pc' := 14) (lo' := [some (.ref v0), some (.int v1)]) (st' := []) (o := ldAR μ x1 v1) rfl hx2 ?_
    obtain ⟨r3, hr3, h⟩ := Option.bind_eq_some_iff.mp h
    refine xr_callV (j := 97) (d' := (d + 0)) (rv1 := none) (μ1 := r3) (rest := []) (As := []) rfl rfl rfl rfl (Nat.le_of_ble_eq_true rfl) (fS_forget_kd hr3) rfl (by exact (fS_forget_ok (d := d + (0)) hr3)) ?_
    refine xr_go 2 (pc' := 2) (lo' := [some (.ref v0), some (.int (v1 + xc 1))]) (st' := []) (μ' := r3) rfl ?_
    refine xr_forget (lo := [some (.ref v0), some (.int (v1 + xc 1))]) ⟨rfl, rfl, trivial⟩ ?_
    have ho := Option.some.inj h
    subst ho
    exact hK
theorem fX_forgetSights_L2_lp {d : Nat} {v0 : Nat} {v1 : Int32} {μ : xM} {rv : Option Value} {μf : xM} {out : xM} (h : xwh (fun s : Int32 × xM => fX_forgetSights_L2 v0 s.1 s.2) (v1, μ) = some out) (hK : fX_forgetSights_K rv μf out) : xRun (d + 1) 46 2 [some (.ref v0), some (.int v1)] [] μ rv μf :=
  xwh_ind (Rh := fun s : Int32 × xM => xRun (d + 1) 46 2 [some (.ref v0), some (.int s.1)] [] s.2 rv μf) (Co := fX_forgetSights_K rv μf) (fun s o hb hk => fX_forgetSights_L2_ok hb hk) h hK
noncomputable def fX_forgetSights_0  (v0 : Nat) (μ : xM) : Option (xM) := xwh (fun s : Int32 × xM => fX_forgetSights_L2 v0 s.1 s.2) (xc 0, μ)
theorem fX_forgetSights_0_ok {d : Nat} {v0 : Nat} {μ : xM} {rv : Option Value} {μf : xM} {out : xM} (h : fX_forgetSights_0 v0 μ = some out) (hK : fX_forgetSights_K rv μf out) : xRun (d + 1) 46 0 [some (.ref v0), none] [] μ rv μf := by
  unfold fX_forgetSights_0 at h
  refine xr_go 2 (pc' := 2) (lo' := [some (.ref v0), some (.int (xc 0))]) (st' := []) (μ' := μ) rfl ?_
  refine xr_forget (lo := [some (.ref v0), some (.int (xc 0))]) ⟨rfl, rfl, trivial⟩ ?_
  exact fX_forgetSights_L2_lp h hK
noncomputable def fX_forgetSights (a0 : Nat) (μ : xM) : Option (xM) := xgd μ a0 0 (fX_forgetSights_0 a0 μ)
theorem fX_forgetSights_kd {a0 : Nat} {μ : xM} {o : xM} (h : fX_forgetSights a0 μ = some o) : (xK μ a0).1 = 10 + 0 := (xgd_some h).1
theorem fX_forgetSights_ok {d : Nat} {a0 : Nat} {μ : xM} {o : xM} (h : fX_forgetSights a0 μ = some o) : xRun (d + 1) 46 0 [some (.ref a0), none] [] μ none o :=
  xr_forget (lo := [some (.ref a0), none]) (⟨rfl, trivial⟩) (fX_forgetSights_0_ok (d := d) (xgd_some h).2 (show fX_forgetSights_K _ _ o from ⟨rfl, rfl⟩))
-- KeptAnswers.key(IZ)I 
def fX_key_K (rv : Option Value) (μf : xM) : (Int32 × xM) → Prop := fun o => rv = some (.int o.1) ∧ μf = o.2
noncomputable def fX_key_49  (v0 : Nat) (v1 : Int32) (μ : xM) : Option (Int32 × xM) := (ldFR μ v0 0 0).bind fun x1 => (ldF μ x1 3 1).bind fun x2 => (stF μ x1 3 1 (x2 ^^^ ((xc 1) <<< (v1 &&& 31)))).bind fun μ3 => (fX_forgetSights v0 μ3).bind fun r4 => some ((xc 1, r4))
theorem fX_key_49_ok {d : Nat} {v0 : Nat} {v1 : Int32} {μ : xM} {rv : Option Value} {μf : xM} {out : Int32 × xM} (h : fX_key_49 v0 v1 μ = some out) (hK : fX_key_K rv μf out) : xRun (d + 2) 4 49 [some (.ref v0), some (.int v1), none] [] μ rv μf := by
  unfold fX_key_49 at h
  refine xr_go 1 (pc' := 50) (lo' := [some (.ref v0), some (.int v1), none]) (st' := [.ref v0]) (μ' := μ) rfl ?_
  obtain ⟨x1, hx1, h⟩ := Option.bind_eq_some_iff.mp h
  refine xr_opA (pc' := 53) (lo' := [some (.ref v0), some (.int v1), none]) (st' := []) (o := ldFR μ v0 0 0) rfl hx1 ?_
  refine xr_go 1 (pc' := 54) (lo' := [some (.ref v0), some (.int v1), none]) (st' := [.ref x1, .ref x1]) (μ' := μ) rfl ?_
  obtain ⟨x2, hx2, h⟩ := Option.bind_eq_some_iff.mp h
  refine xr_opI (pc' := 57) (lo' := [some (.ref v0), some (.int v1), none]) (st' := [.ref x1]) (o := ldF μ x1 3 1) rfl hx2 ?_
  refine xr_go 4 (pc' := 61) (lo' := [some (.ref v0), some (.int v1), none]) (st' := [.int (x2 ^^^ ((xc 1) <<< (v1 &&& 31))), .ref x1]) (μ' := μ) rfl ?_
  obtain ⟨μ3, hμ3, h⟩ := Option.bind_eq_some_iff.mp h
  refine xr_opM (pc' := 64) (lo' := [some (.ref v0), some (.int v1), none]) (st' := []) (o := stF μ x1 3 1 (x2 ^^^ ((xc 1) <<< (v1 &&& 31)))) rfl hμ3 ?_
  refine xr_go 1 (pc' := 65) (lo' := [some (.ref v0), some (.int v1), none]) (st' := [.ref v0]) (μ' := μ3) rfl ?_
  obtain ⟨r4, hr4, h⟩ := Option.bind_eq_some_iff.mp h
  refine xr_callV (j := 46) (d' := (d + 1)) (rv1 := none) (μ1 := r4) (rest := []) (As := []) rfl rfl rfl rfl (Nat.le_of_ble_eq_true rfl) (fX_forgetSights_kd hr4) rfl (by exact (fX_forgetSights_ok (d := d + (0)) hr4)) ?_
  refine xr_go 1 (pc' := 69) (lo' := [some (.ref v0), some (.int v1), none]) (st' := [.int (xc 1)]) (μ' := r4) rfl ?_
  have ho := Option.some.inj h
  subst ho
  obtain ⟨rfl, rfl⟩ := hK
  exact xr_ret (rv := some (.int (xc 1))) rfl rfl (Or.inl rfl)
noncomputable def fX_key_0  (v0 : Nat) (v1 : Int32) (v2 : Int32) (μ : xM) : Option (Int32 × xM) := (fX_isTable v1 μ).bind fun r5 => if r5 = 0 then ((fX_refuse v0 (xc (-1)) μ).bind fun r11 => some ((r11.1, r11.2))) else ((ldFR μ v0 0 0).bind fun x6 => (fH_hasKey x6 v1 μ).bind fun r7 => if r7 = v2 then (some ((xc 0, μ))) else (if v2 = 0 then (fX_key_49 v0 v1 μ) else ((ldFR μ v0 0 0).bind fun x8 => (fH_hasDoubleX x8 v1 μ).bind fun r9 => if r9 = 0 then (fX_key_49 v0 v1 μ) else ((fX_refuse v0 (xc (-3)) μ).bind fun r10 => some ((r10.1, r10.2))))))
theorem fX_key_0_ok {d : Nat} {v0 : Nat} {v1 : Int32} {v2 : Int32} {μ : xM} {rv : Option Value} {μf : xM} {out : Int32 × xM} (h : fX_key_0 v0 v1 v2 μ = some out) (hK : fX_key_K rv μf out) : xRun (d + 2) 4 0 [some (.ref v0), some (.int v1), some (.int v2)] [] μ rv μf := by
  unfold fX_key_0 at h
  refine xr_go 1 (pc' := 1) (lo' := [some (.ref v0), some (.int v1), some (.int v2)]) (st' := [.int v1]) (μ' := μ) rfl ?_
  obtain ⟨r5, hr5, h⟩ := Option.bind_eq_some_iff.mp h
  refine xr_callS (j := 38) (d' := (d + 1)) (rv1 := some (.int r5)) (μ1 := μ) (rest := []) (As := [.int v1]) rfl rfl rfl rfl (Nat.le_of_ble_eq_true rfl) rfl (by exact (fX_isTable_ok (d := d + (1)) hr5)) ?_
  refine xr_ifc (pct := 13) rfl rfl rfl (fun hc => ?_) (fun hc => ?_)
  · replace h := (if_neg (of_decide_eq_true hc)).symm.trans h
    refine xr_go 1 (pc' := 14) (lo' := [some (.ref v0), some (.int v1), some (.int v2)]) (st' := [.ref v0]) (μ' := μ) rfl ?_
    obtain ⟨x6, hx6, h⟩ := Option.bind_eq_some_iff.mp h
    refine xr_opA (pc' := 17) (lo' := [some (.ref v0), some (.int v1), some (.int v2)]) (st' := []) (o := ldFR μ v0 0 0) rfl hx6 ?_
    refine xr_go 1 (pc' := 18) (lo' := [some (.ref v0), some (.int v1), some (.int v2)]) (st' := [.int v1, .ref x6]) (μ' := μ) rfl ?_
    obtain ⟨r7, hr7, h⟩ := Option.bind_eq_some_iff.mp h
    refine xr_callV (j := 66) (d' := (d + 1)) (rv1 := some (.int r7)) (μ1 := μ) (rest := []) (As := [.int v1]) rfl rfl rfl rfl (Nat.le_of_ble_eq_true rfl) (fH_hasKey_kd hr7) rfl (by exact (fH_hasKey_ok (d := d + (1)) hr7)) ?_
    refine xr_go 1 (pc' := 22) (lo' := [some (.ref v0), some (.int v1), some (.int v2)]) (st' := [.int v2, .int r7]) (μ' := μ) rfl ?_
    refine xr_icmp (pct := 27) rfl rfl rfl (fun hc => ?_) (fun hc => ?_)
    · replace h := (if_neg (of_decide_eq_true hc)).symm.trans h
      refine xr_go 1 (pc' := 28) (lo' := [some (.ref v0), some (.int v1), some (.int v2)]) (st' := [.int v2]) (μ' := μ) rfl ?_
      refine xr_ifc (pct := 49) rfl rfl rfl (fun hc => ?_) (fun hc => ?_)
      · replace h := (if_pos (of_decide_eq_true hc)).symm.trans h
        refine xr_forget (lo := [some (.ref v0), some (.int v1), none]) ⟨rfl, rfl, trivial⟩ ?_
        exact fX_key_49_ok h hK
      · replace h := (if_neg (of_decide_eq_false hc)).symm.trans h
        refine xr_go 1 (pc' := 32) (lo' := [some (.ref v0), some (.int v1), some (.int v2)]) (st' := [.ref v0]) (μ' := μ) rfl ?_
        obtain ⟨x8, hx8, h⟩ := Option.bind_eq_some_iff.mp h
        refine xr_opA (pc' := 35) (lo' := [some (.ref v0), some (.int v1), some (.int v2)]) (st' := []) (o := ldFR μ v0 0 0) rfl hx8 ?_
        refine xr_go 1 (pc' := 36) (lo' := [some (.ref v0), some (.int v1), some (.int v2)]) (st' := [.int v1, .ref x8]) (μ' := μ) rfl ?_
        obtain ⟨r9, hr9, h⟩ := Option.bind_eq_some_iff.mp h
        refine xr_callV (j := 67) (d' := (d + 1)) (rv1 := some (.int r9)) (μ1 := μ) (rest := []) (As := [.int v1]) rfl rfl rfl rfl (Nat.le_of_ble_eq_true rfl) (fH_hasDoubleX_kd hr9) rfl (by exact (fH_hasDoubleX_ok (d := d + (0)) hr9)) ?_
        refine xr_ifc (pct := 49) rfl rfl rfl (fun hc => ?_) (fun hc => ?_)
        · replace h := (if_pos (of_decide_eq_true hc)).symm.trans h
          refine xr_forget (lo := [some (.ref v0), some (.int v1), none]) ⟨rfl, rfl, trivial⟩ ?_
          exact fX_key_49_ok h hK
        · replace h := (if_neg (of_decide_eq_false hc)).symm.trans h
          refine xr_go 2 (pc' := 45) (lo' := [some (.ref v0), some (.int v1), some (.int v2)]) (st' := [.int (xc (-3)), .ref v0]) (μ' := μ) rfl ?_
          obtain ⟨r10, hr10, h⟩ := Option.bind_eq_some_iff.mp h
          refine xr_callV (j := 37) (d' := (d + 1)) (rv1 := some (.int r10.1)) (μ1 := r10.2) (rest := []) (As := [.int (xc (-3))]) rfl rfl rfl rfl (Nat.le_of_ble_eq_true rfl) (fX_refuse_kd hr10) rfl (by exact (fX_refuse_ok (d := d + (1)) hr10)) ?_
          have ho := Option.some.inj h
          subst ho
          obtain ⟨rfl, rfl⟩ := hK
          exact xr_ret (rv := some (.int r10.1)) rfl rfl (Or.inl rfl)
    · replace h := (if_pos (Decidable.of_not_not (of_decide_eq_false hc))).symm.trans h
      refine xr_go 1 (pc' := 26) (lo' := [some (.ref v0), some (.int v1), some (.int v2)]) (st' := [.int (xc 0)]) (μ' := μ) rfl ?_
      have ho := Option.some.inj h
      subst ho
      obtain ⟨rfl, rfl⟩ := hK
      exact xr_ret (rv := some (.int (xc 0))) rfl rfl (Or.inl rfl)
  · replace h := (if_pos (Decidable.of_not_not (of_decide_eq_false hc))).symm.trans h
    refine xr_go 2 (pc' := 9) (lo' := [some (.ref v0), some (.int v1), some (.int v2)]) (st' := [.int (xc (-1)), .ref v0]) (μ' := μ) rfl ?_
    obtain ⟨r11, hr11, h⟩ := Option.bind_eq_some_iff.mp h
    refine xr_callV (j := 37) (d' := (d + 1)) (rv1 := some (.int r11.1)) (μ1 := r11.2) (rest := []) (As := [.int (xc (-1))]) rfl rfl rfl rfl (Nat.le_of_ble_eq_true rfl) (fX_refuse_kd hr11) rfl (by exact (fX_refuse_ok (d := d + (1)) hr11)) ?_
    have ho := Option.some.inj h
    subst ho
    obtain ⟨rfl, rfl⟩ := hK
    exact xr_ret (rv := some (.int r11.1)) rfl rfl (Or.inl rfl)
noncomputable def fX_key (a0 : Nat) (a1 : Int32) (a2 : Int32) (μ : xM) : Option (Int32 × xM) := xgd μ a0 0 (fX_key_0 a0 a1 a2 μ)
theorem fX_key_kd {a0 : Nat} {a1 : Int32} {a2 : Int32} {μ : xM} {o : Int32 × xM} (h : fX_key a0 a1 a2 μ = some o) : (xK μ a0).1 = 10 + 0 := (xgd_some h).1
theorem fX_key_ok {d : Nat} {a0 : Nat} {a1 : Int32} {a2 : Int32} {μ : xM} {o : Int32 × xM} (h : fX_key a0 a1 a2 μ = some o) : xRun (d + 2) 4 0 [some (.ref a0), some (.int a1), some (.int a2)] [] μ (some (.int o.1)) o.2 :=
  xr_forget (lo := [some (.ref a0), some (.int a1), some (.int a2)]) (⟨rfl, rfl, rfl, trivial⟩) (fX_key_0_ok (d := d) (xgd_some h).2 (show fX_key_K _ _ o from ⟨rfl, rfl⟩))
-- KeptAnswersModel.key(IZ)I 
def fM_key_K (rv : Option Value) (μf : xM) : (Int32 × xM) → Prop := fun o => rv = some (.int o.1) ∧ μf = o.2
noncomputable def fM_key_41  (v0 : Nat) (v1 : Int32) (v2 : Int32) (μ : xM) : Option (Int32 × xM) := (ldFR μ v0 9 1).bind fun x1 => (ldAZ μ x1 v1).bind fun x2 => (ldFR μ v0 9 1).bind fun x3 => (stAZ μ x3 v1 v2).bind fun μ4 => if x2 = v2 then (some ((xc 0, μ4))) else (some ((xc 1, μ4)))
theorem fM_key_41_ok {d : Nat} {v0 : Nat} {v1 : Int32} {v2 : Int32} {μ : xM} {rv : Option Value} {μf : xM} {out : Int32 × xM} (h : fM_key_41 v0 v1 v2 μ = some out) (hK : fM_key_K rv μf out) : xRun (d + 1) 149 41 [some (.ref v0), some (.int v1), some (.int v2), none] [] μ rv μf := by
  unfold fM_key_41 at h
  refine xr_go 1 (pc' := 42) (lo' := [some (.ref v0), some (.int v1), some (.int v2), none]) (st' := [.ref v0]) (μ' := μ) rfl ?_
  obtain ⟨x1, hx1, h⟩ := Option.bind_eq_some_iff.mp h
  refine xr_opA (pc' := 45) (lo' := [some (.ref v0), some (.int v1), some (.int v2), none]) (st' := []) (o := ldFR μ v0 9 1) rfl hx1 ?_
  refine xr_go 1 (pc' := 46) (lo' := [some (.ref v0), some (.int v1), some (.int v2), none]) (st' := [.int v1, .ref x1]) (μ' := μ) rfl ?_
  obtain ⟨x2, hx2, h⟩ := Option.bind_eq_some_iff.mp h
  refine xr_opI (pc' := 47) (lo' := [some (.ref v0), some (.int v1), some (.int v2), none]) (st' := []) (o := ldAZ μ x1 v1) rfl hx2 ?_
  refine xr_go 2 (pc' := 49) (lo' := [some (.ref v0), some (.int v1), some (.int v2), some (.int x2)]) (st' := [.ref v0]) (μ' := μ) rfl ?_
  obtain ⟨x3, hx3, h⟩ := Option.bind_eq_some_iff.mp h
  refine xr_opA (pc' := 52) (lo' := [some (.ref v0), some (.int v1), some (.int v2), some (.int x2)]) (st' := []) (o := ldFR μ v0 9 1) rfl hx3 ?_
  refine xr_go 2 (pc' := 54) (lo' := [some (.ref v0), some (.int v1), some (.int v2), some (.int x2)]) (st' := [.int v2, .int v1, .ref x3]) (μ' := μ) rfl ?_
  obtain ⟨μ4, hμ4, h⟩ := Option.bind_eq_some_iff.mp h
  refine xr_opM (pc' := 55) (lo' := [some (.ref v0), some (.int v1), some (.int v2), some (.int x2)]) (st' := []) (o := stAZ μ x3 v1 v2) rfl hμ4 ?_
  refine xr_go 2 (pc' := 57) (lo' := [some (.ref v0), some (.int v1), some (.int v2), some (.int x2)]) (st' := [.int v2, .int x2]) (μ' := μ4) rfl ?_
  refine xr_icmp (pct := 64) rfl rfl rfl (fun hc => ?_) (fun hc => ?_)
  · replace h := (if_neg (of_decide_eq_true hc)).symm.trans h
    refine xr_go 1 (pc' := 65) (lo' := [some (.ref v0), some (.int v1), some (.int v2), some (.int x2)]) (st' := [.int (xc 1)]) (μ' := μ4) rfl ?_
    have ho := Option.some.inj h
    subst ho
    obtain ⟨rfl, rfl⟩ := hK
    exact xr_ret (rv := some (.int (xc 1))) rfl rfl (Or.inl rfl)
  · replace h := (if_pos (Decidable.of_not_not (of_decide_eq_false hc))).symm.trans h
    refine xr_go 2 (pc' := 65) (lo' := [some (.ref v0), some (.int v1), some (.int v2), some (.int x2)]) (st' := [.int (xc 0)]) (μ' := μ4) rfl ?_
    have ho := Option.some.inj h
    subst ho
    obtain ⟨rfl, rfl⟩ := hK
    exact xr_ret (rv := some (.int (xc 0))) rfl rfl (Or.inl rfl)
noncomputable def fM_key_0  (v0 : Nat) (v1 : Int32) (v2 : Int32) (μ : xM) : Option (Int32 × xM) := (fM_isIn (Int32.toInt64 v1) (Int64.ofNat 0) (Int64.ofNat 2) μ).bind fun r5 => if r5 = 0 then ((fM_refuse v0 (xc (-1)) μ).bind fun r10 => some ((r10.1, r10.2))) else (if v2 = 0 then (fM_key_41 v0 v1 v2 μ) else ((ldFR μ v0 9 0).bind fun x6 => (ldA μ x6 v1).bind fun x7 => (fM_isKeyed x7 μ).bind fun r8 => if r8 = 0 then ((fM_refuse v0 (xc (-3)) μ).bind fun r9 => some ((r9.1, r9.2))) else (fM_key_41 v0 v1 v2 μ)))
theorem fM_key_0_ok {d : Nat} {v0 : Nat} {v1 : Int32} {v2 : Int32} {μ : xM} {rv : Option Value} {μf : xM} {out : Int32 × xM} (h : fM_key_0 v0 v1 v2 μ = some out) (hK : fM_key_K rv μf out) : xRun (d + 1) 149 0 [some (.ref v0), some (.int v1), some (.int v2), none] [] μ rv μf := by
  unfold fM_key_0 at h
  refine xr_go 4 (pc' := 6) (lo' := [some (.ref v0), some (.int v1), some (.int v2), none]) (st' := [.long (Int64.ofNat 2), .long (Int64.ofNat 0), .long (Int32.toInt64 v1)]) (μ' := μ) rfl ?_
  obtain ⟨r5, hr5, h⟩ := Option.bind_eq_some_iff.mp h
  refine xr_callS (j := 137) (d' := (d + 0)) (rv1 := some (.int r5)) (μ1 := μ) (rest := []) (As := [.long (Int32.toInt64 v1), .long (Int64.ofNat 0), .long (Int64.ofNat 2)]) rfl rfl rfl rfl (Nat.le_of_ble_eq_true rfl) rfl (by exact (fM_isIn_ok (d := d + (0)) hr5)) ?_
  refine xr_ifc (pct := 18) rfl rfl rfl (fun hc => ?_) (fun hc => ?_)
  · replace h := (if_neg (of_decide_eq_true hc)).symm.trans h
    refine xr_go 1 (pc' := 19) (lo' := [some (.ref v0), some (.int v1), some (.int v2), none]) (st' := [.int v2]) (μ' := μ) rfl ?_
    refine xr_ifc (pct := 41) rfl rfl rfl (fun hc => ?_) (fun hc => ?_)
    · replace h := (if_pos (of_decide_eq_true hc)).symm.trans h
      refine xr_forget (lo := [some (.ref v0), some (.int v1), some (.int v2), none]) ⟨rfl, rfl, rfl, trivial⟩ ?_
      exact fM_key_41_ok h hK
    · replace h := (if_neg (of_decide_eq_false hc)).symm.trans h
      refine xr_go 1 (pc' := 23) (lo' := [some (.ref v0), some (.int v1), some (.int v2), none]) (st' := [.ref v0]) (μ' := μ) rfl ?_
      obtain ⟨x6, hx6, h⟩ := Option.bind_eq_some_iff.mp h
      refine xr_opA (pc' := 26) (lo' := [some (.ref v0), some (.int v1), some (.int v2), none]) (st' := []) (o := ldFR μ v0 9 0) rfl hx6 ?_
      refine xr_go 1 (pc' := 27) (lo' := [some (.ref v0), some (.int v1), some (.int v2), none]) (st' := [.int v1, .ref x6]) (μ' := μ) rfl ?_
      obtain ⟨x7, hx7, h⟩ := Option.bind_eq_some_iff.mp h
      refine xr_opI (pc' := 28) (lo' := [some (.ref v0), some (.int v1), some (.int v2), none]) (st' := []) (o := ldA μ x6 v1) rfl hx7 ?_
      obtain ⟨r8, hr8, h⟩ := Option.bind_eq_some_iff.mp h
      refine xr_callS (j := 142) (d' := (d + 0)) (rv1 := some (.int r8)) (μ1 := μ) (rest := []) (As := [.int x7]) rfl rfl rfl rfl (Nat.le_of_ble_eq_true rfl) rfl (by exact (fM_isKeyed_ok (d := d + (0)) hr8)) ?_
      refine xr_ifc (pct := 41) rfl rfl rfl (fun hc => ?_) (fun hc => ?_)
      · replace h := (if_neg (of_decide_eq_true hc)).symm.trans h
        refine xr_forget (lo := [some (.ref v0), some (.int v1), some (.int v2), none]) ⟨rfl, rfl, rfl, trivial⟩ ?_
        exact fM_key_41_ok h hK
      · replace h := (if_pos (Decidable.of_not_not (of_decide_eq_false hc))).symm.trans h
        refine xr_go 2 (pc' := 37) (lo' := [some (.ref v0), some (.int v1), some (.int v2), none]) (st' := [.int (xc (-3)), .ref v0]) (μ' := μ) rfl ?_
        obtain ⟨r9, hr9, h⟩ := Option.bind_eq_some_iff.mp h
        refine xr_callV (j := 138) (d' := (d + 0)) (rv1 := some (.int r9.1)) (μ1 := r9.2) (rest := []) (As := [.int (xc (-3))]) rfl rfl rfl rfl (Nat.le_of_ble_eq_true rfl) (fM_refuse_kd hr9) rfl (by exact (fM_refuse_ok (d := d + (0)) hr9)) ?_
        have ho := Option.some.inj h
        subst ho
        obtain ⟨rfl, rfl⟩ := hK
        exact xr_ret (rv := some (.int r9.1)) rfl rfl (Or.inl rfl)
  · replace h := (if_pos (Decidable.of_not_not (of_decide_eq_false hc))).symm.trans h
    refine xr_go 2 (pc' := 14) (lo' := [some (.ref v0), some (.int v1), some (.int v2), none]) (st' := [.int (xc (-1)), .ref v0]) (μ' := μ) rfl ?_
    obtain ⟨r10, hr10, h⟩ := Option.bind_eq_some_iff.mp h
    refine xr_callV (j := 138) (d' := (d + 0)) (rv1 := some (.int r10.1)) (μ1 := r10.2) (rest := []) (As := [.int (xc (-1))]) rfl rfl rfl rfl (Nat.le_of_ble_eq_true rfl) (fM_refuse_kd hr10) rfl (by exact (fM_refuse_ok (d := d + (0)) hr10)) ?_
    have ho := Option.some.inj h
    subst ho
    obtain ⟨rfl, rfl⟩ := hK
    exact xr_ret (rv := some (.int r10.1)) rfl rfl (Or.inl rfl)
noncomputable def fM_key (a0 : Nat) (a1 : Int32) (a2 : Int32) (μ : xM) : Option (Int32 × xM) := xgd μ a0 9 (fM_key_0 a0 a1 a2 μ)
theorem fM_key_kd {a0 : Nat} {a1 : Int32} {a2 : Int32} {μ : xM} {o : Int32 × xM} (h : fM_key a0 a1 a2 μ = some o) : (xK μ a0).1 = 10 + 9 := (xgd_some h).1
theorem fM_key_ok {d : Nat} {a0 : Nat} {a1 : Int32} {a2 : Int32} {μ : xM} {o : Int32 × xM} (h : fM_key a0 a1 a2 μ = some o) : xRun (d + 1) 149 0 [some (.ref a0), some (.int a1), some (.int a2), none] [] μ (some (.int o.1)) o.2 :=
  xr_forget (lo := [some (.ref a0), some (.int a1), some (.int a2), none]) (⟨rfl, rfl, rfl, trivial⟩) (fM_key_0_ok (d := d) (xgd_some h).2 (show fM_key_K _ _ o from ⟨rfl, rfl⟩))
-- KeptAnswers.rows(I)I 
def fX_rows_K (rv : Option Value) (μf : xM) : (Int32 × xM) → Prop := fun o => rv = some (.int o.1) ∧ μf = o.2
noncomputable def fX_rows_0  (v0 : Nat) (v1 : Int32) (μ : xM) : Option (Int32 × xM) := (fX_isTable v1 μ).bind fun r1 => if r1 = 0 then ((fX_refuse v0 (xc (-1)) μ).bind fun r2 => some ((r2.1, r2.2))) else ((ldFR μ v0 0 0).bind fun x3 => (fH_rowsOf x3 v1 μ).bind fun r4 => some ((r4, μ)))
theorem fX_rows_0_ok {d : Nat} {v0 : Nat} {v1 : Int32} {μ : xM} {rv : Option Value} {μf : xM} {out : Int32 × xM} (h : fX_rows_0 v0 v1 μ = some out) (hK : fX_rows_K rv μf out) : xRun (d + 1) 5 0 [some (.ref v0), some (.int v1)] [] μ rv μf := by
  unfold fX_rows_0 at h
  refine xr_go 1 (pc' := 1) (lo' := [some (.ref v0), some (.int v1)]) (st' := [.int v1]) (μ' := μ) rfl ?_
  obtain ⟨r1, hr1, h⟩ := Option.bind_eq_some_iff.mp h
  refine xr_callS (j := 38) (d' := (d + 0)) (rv1 := some (.int r1)) (μ1 := μ) (rest := []) (As := [.int v1]) rfl rfl rfl rfl (Nat.le_of_ble_eq_true rfl) rfl (by exact (fX_isTable_ok (d := d + (0)) hr1)) ?_
  refine xr_ifc (pct := 18) rfl rfl rfl (fun hc => ?_) (fun hc => ?_)
  · replace h := (if_pos (of_decide_eq_true hc)).symm.trans h
    refine xr_go 2 (pc' := 20) (lo' := [some (.ref v0), some (.int v1)]) (st' := [.int (xc (-1)), .ref v0]) (μ' := μ) rfl ?_
    obtain ⟨r2, hr2, h⟩ := Option.bind_eq_some_iff.mp h
    refine xr_callV (j := 37) (d' := (d + 0)) (rv1 := some (.int r2.1)) (μ1 := r2.2) (rest := []) (As := [.int (xc (-1))]) rfl rfl rfl rfl (Nat.le_of_ble_eq_true rfl) (fX_refuse_kd hr2) rfl (by exact (fX_refuse_ok (d := d + (0)) hr2)) ?_
    have ho := Option.some.inj h
    subst ho
    obtain ⟨rfl, rfl⟩ := hK
    exact xr_ret (rv := some (.int r2.1)) rfl rfl (Or.inl rfl)
  · replace h := (if_neg (of_decide_eq_false hc)).symm.trans h
    refine xr_go 1 (pc' := 8) (lo' := [some (.ref v0), some (.int v1)]) (st' := [.ref v0]) (μ' := μ) rfl ?_
    obtain ⟨x3, hx3, h⟩ := Option.bind_eq_some_iff.mp h
    refine xr_opA (pc' := 11) (lo' := [some (.ref v0), some (.int v1)]) (st' := []) (o := ldFR μ v0 0 0) rfl hx3 ?_
    refine xr_go 1 (pc' := 12) (lo' := [some (.ref v0), some (.int v1)]) (st' := [.int v1, .ref x3]) (μ' := μ) rfl ?_
    obtain ⟨r4, hr4, h⟩ := Option.bind_eq_some_iff.mp h
    refine xr_callV (j := 65) (d' := (d + 0)) (rv1 := some (.int r4)) (μ1 := μ) (rest := []) (As := [.int v1]) rfl rfl rfl rfl (Nat.le_of_ble_eq_true rfl) (fH_rowsOf_kd hr4) rfl (by exact (fH_rowsOf_ok (d := d + (0)) hr4)) ?_
    refine xr_go 1 (pc' := 23) (lo' := [some (.ref v0), some (.int v1)]) (st' := [.int r4]) (μ' := μ) rfl ?_
    have ho := Option.some.inj h
    subst ho
    obtain ⟨rfl, rfl⟩ := hK
    exact xr_ret (rv := some (.int r4)) rfl rfl (Or.inl rfl)
noncomputable def fX_rows (a0 : Nat) (a1 : Int32) (μ : xM) : Option (Int32 × xM) := xgd μ a0 0 (fX_rows_0 a0 a1 μ)
theorem fX_rows_kd {a0 : Nat} {a1 : Int32} {μ : xM} {o : Int32 × xM} (h : fX_rows a0 a1 μ = some o) : (xK μ a0).1 = 10 + 0 := (xgd_some h).1
theorem fX_rows_ok {d : Nat} {a0 : Nat} {a1 : Int32} {μ : xM} {o : Int32 × xM} (h : fX_rows a0 a1 μ = some o) : xRun (d + 1) 5 0 [some (.ref a0), some (.int a1)] [] μ (some (.int o.1)) o.2 :=
  xr_forget (lo := [some (.ref a0), some (.int a1)]) (⟨rfl, rfl, trivial⟩) (fX_rows_0_ok (d := d) (xgd_some h).2 (show fX_rows_K _ _ o from ⟨rfl, rfl⟩))
-- KeptAnswersModel.rows(I)I 
def fM_rows_K (rv : Option Value) (μf : xM) : (Int32 × xM) → Prop := fun o => rv = some (.int o.1) ∧ μf = o.2
noncomputable def fM_rows_0  (v0 : Nat) (v1 : Int32) (μ : xM) : Option (Int32 × xM) := (fM_isIn (Int32.toInt64 v1) (Int64.ofNat 0) (Int64.ofNat 2) μ).bind fun r1 => if r1 = 0 then ((fM_refuse v0 (xc (-1)) μ).bind fun r2 => some ((r2.1, r2.2))) else ((ldFR μ v0 9 0).bind fun x3 => (ldA μ x3 v1).bind fun x4 => some ((x4, μ)))
theorem fM_rows_0_ok {d : Nat} {v0 : Nat} {v1 : Int32} {μ : xM} {rv : Option Value} {μf : xM} {out : Int32 × xM} (h : fM_rows_0 v0 v1 μ = some out) (hK : fM_rows_K rv μf out) : xRun (d + 1) 150 0 [some (.ref v0), some (.int v1)] [] μ rv μf := by
  unfold fM_rows_0 at h
  refine xr_go 4 (pc' := 6) (lo' := [some (.ref v0), some (.int v1)]) (st' := [.long (Int64.ofNat 2), .long (Int64.ofNat 0), .long (Int32.toInt64 v1)]) (μ' := μ) rfl ?_
  obtain ⟨r1, hr1, h⟩ := Option.bind_eq_some_iff.mp h
  refine xr_callS (j := 137) (d' := (d + 0)) (rv1 := some (.int r1)) (μ1 := μ) (rest := []) (As := [.long (Int32.toInt64 v1), .long (Int64.ofNat 0), .long (Int64.ofNat 2)]) rfl rfl rfl rfl (Nat.le_of_ble_eq_true rfl) rfl (by exact (fM_isIn_ok (d := d + (0)) hr1)) ?_
  refine xr_ifc (pct := 21) rfl rfl rfl (fun hc => ?_) (fun hc => ?_)
  · replace h := (if_pos (of_decide_eq_true hc)).symm.trans h
    refine xr_go 2 (pc' := 23) (lo' := [some (.ref v0), some (.int v1)]) (st' := [.int (xc (-1)), .ref v0]) (μ' := μ) rfl ?_
    obtain ⟨r2, hr2, h⟩ := Option.bind_eq_some_iff.mp h
    refine xr_callV (j := 138) (d' := (d + 0)) (rv1 := some (.int r2.1)) (μ1 := r2.2) (rest := []) (As := [.int (xc (-1))]) rfl rfl rfl rfl (Nat.le_of_ble_eq_true rfl) (fM_refuse_kd hr2) rfl (by exact (fM_refuse_ok (d := d + (0)) hr2)) ?_
    have ho := Option.some.inj h
    subst ho
    obtain ⟨rfl, rfl⟩ := hK
    exact xr_ret (rv := some (.int r2.1)) rfl rfl (Or.inl rfl)
  · replace h := (if_neg (of_decide_eq_false hc)).symm.trans h
    refine xr_go 1 (pc' := 13) (lo' := [some (.ref v0), some (.int v1)]) (st' := [.ref v0]) (μ' := μ) rfl ?_
    obtain ⟨x3, hx3, h⟩ := Option.bind_eq_some_iff.mp h
    refine xr_opA (pc' := 16) (lo' := [some (.ref v0), some (.int v1)]) (st' := []) (o := ldFR μ v0 9 0) rfl hx3 ?_
    refine xr_go 1 (pc' := 17) (lo' := [some (.ref v0), some (.int v1)]) (st' := [.int v1, .ref x3]) (μ' := μ) rfl ?_
    obtain ⟨x4, hx4, h⟩ := Option.bind_eq_some_iff.mp h
    refine xr_opI (pc' := 18) (lo' := [some (.ref v0), some (.int v1)]) (st' := []) (o := ldA μ x3 v1) rfl hx4 ?_
    refine xr_go 1 (pc' := 26) (lo' := [some (.ref v0), some (.int v1)]) (st' := [.int x4]) (μ' := μ) rfl ?_
    have ho := Option.some.inj h
    subst ho
    obtain ⟨rfl, rfl⟩ := hK
    exact xr_ret (rv := some (.int x4)) rfl rfl (Or.inl rfl)
noncomputable def fM_rows (a0 : Nat) (a1 : Int32) (μ : xM) : Option (Int32 × xM) := xgd μ a0 9 (fM_rows_0 a0 a1 μ)
theorem fM_rows_kd {a0 : Nat} {a1 : Int32} {μ : xM} {o : Int32 × xM} (h : fM_rows a0 a1 μ = some o) : (xK μ a0).1 = 10 + 9 := (xgd_some h).1
theorem fM_rows_ok {d : Nat} {a0 : Nat} {a1 : Int32} {μ : xM} {o : Int32 × xM} (h : fM_rows a0 a1 μ = some o) : xRun (d + 1) 150 0 [some (.ref a0), some (.int a1)] [] μ (some (.int o.1)) o.2 :=
  xr_forget (lo := [some (.ref a0), some (.int a1)]) (⟨rfl, rfl, trivial⟩) (fM_rows_0_ok (d := d) (xgd_some h).2 (show fM_rows_K _ _ o from ⟨rfl, rfl⟩))
-- KeptAnswers$Book.isFull()Z 
def fB_isFull_K (μ : xM) (rv : Option Value) (μf : xM) : (Int32) → Prop := fun o => rv = some (.int o) ∧ μf = μ
noncomputable def fB_isFull_0  (v0 : Nat) (μ : xM) : Option (Int32) := (ldF μ v0 1 1).bind fun x1 => if x1 < (xc 60) then (some (xc 0)) else (some (xc 1))
theorem fB_isFull_0_ok {d : Nat} {v0 : Nat} {μ : xM} {rv : Option Value} {μf : xM} {out : Int32} (h : fB_isFull_0 v0 μ = some out) (hK : fB_isFull_K μ rv μf out) : xRun (d + 0) 54 0 [some (.ref v0)] [] μ rv μf := by
  unfold fB_isFull_0 at h
  refine xr_go 1 (pc' := 1) (lo' := [some (.ref v0)]) (st' := [.ref v0]) (μ' := μ) rfl ?_
  obtain ⟨x1, hx1, h⟩ := Option.bind_eq_some_iff.mp h
  refine xr_opI (pc' := 4) (lo' := [some (.ref v0)]) (st' := []) (o := ldF μ v0 1 1) rfl hx1 ?_
  refine xr_go 1 (pc' := 6) (lo' := [some (.ref v0)]) (st' := [.int (xc 60), .int x1]) (μ' := μ) rfl ?_
  refine xr_icmp (pct := 13) rfl rfl rfl (fun hc => ?_) (fun hc => ?_)
  · replace h := (if_pos (of_decide_eq_true hc)).symm.trans h
    refine xr_go 1 (pc' := 14) (lo' := [some (.ref v0)]) (st' := [.int (xc 0)]) (μ' := μ) rfl ?_
    have ho := Option.some.inj h
    subst ho
    obtain ⟨rfl, rfl⟩ := hK
    exact xr_ret (rv := some (.int (xc 0))) rfl rfl (Or.inr ⟨rfl, Or.inl rfl⟩)
  · replace h := (if_neg (of_decide_eq_false hc)).symm.trans h
    refine xr_go 2 (pc' := 14) (lo' := [some (.ref v0)]) (st' := [.int (xc 1)]) (μ' := μ) rfl ?_
    have ho := Option.some.inj h
    subst ho
    obtain ⟨rfl, rfl⟩ := hK
    exact xr_ret (rv := some (.int (xc 1))) rfl rfl (Or.inr ⟨rfl, Or.inr rfl⟩)
noncomputable def fB_isFull (a0 : Nat) (μ : xM) : Option (Int32) := xgd μ a0 1 (fB_isFull_0 a0 μ)
theorem fB_isFull_kd {a0 : Nat} {μ : xM} {o : Int32} (h : fB_isFull a0 μ = some o) : (xK μ a0).1 = 10 + 1 := (xgd_some h).1
theorem fB_isFull_ok {d : Nat} {a0 : Nat} {μ : xM} {o : Int32} (h : fB_isFull a0 μ = some o) : xRun (d + 0) 54 0 [some (.ref a0)] [] μ (some (.int o)) μ :=
  xr_forget (lo := [some (.ref a0)]) (⟨rfl, trivial⟩) (fB_isFull_0_ok (d := d) (xgd_some h).2 (show fB_isFull_K μ _ _ o from ⟨rfl, rfl⟩))
-- KeptAnswers$Book.write(I)V 
def fB_write_K (rv : Option Value) (μf : xM) : (xM) → Prop := fun o => rv = none ∧ μf = o
noncomputable def fB_write_0  (v0 : Nat) (v1 : Int32) (μ : xM) : Option (xM) := (ldF μ v0 1 1).bind fun x1 => if (xc 60) ≤ x1 then (some μ) else ((ldFR μ v0 1 0).bind fun x2 => (ldF μ v0 1 1).bind fun x3 => (stA μ x2 x3 v1).bind fun μ4 => (ldF μ4 v0 1 1).bind fun x5 => (stF μ4 v0 1 1 (x5 + (xc 1))).bind fun μ6 => some μ6)
theorem fB_write_0_ok {d : Nat} {v0 : Nat} {v1 : Int32} {μ : xM} {rv : Option Value} {μf : xM} {out : xM} (h : fB_write_0 v0 v1 μ = some out) (hK : fB_write_K rv μf out) : xRun (d + 0) 55 0 [some (.ref v0), some (.int v1)] [] μ rv μf := by
  unfold fB_write_0 at h
  refine xr_go 1 (pc' := 1) (lo' := [some (.ref v0), some (.int v1)]) (st' := [.ref v0]) (μ' := μ) rfl ?_
  obtain ⟨x1, hx1, h⟩ := Option.bind_eq_some_iff.mp h
  refine xr_opI (pc' := 4) (lo' := [some (.ref v0), some (.int v1)]) (st' := []) (o := ldF μ v0 1 1) rfl hx1 ?_
  refine xr_go 1 (pc' := 6) (lo' := [some (.ref v0), some (.int v1)]) (st' := [.int (xc 60), .int x1]) (μ' := μ) rfl ?_
  refine xr_icmp (pct := 29) rfl rfl rfl (fun hc => ?_) (fun hc => ?_)
  · replace h := (if_pos (of_decide_eq_true hc)).symm.trans h
    have ho := Option.some.inj h
    subst ho
    obtain ⟨rfl, rfl⟩ := hK
    exact xr_ret (rv := none) rfl rfl (rfl)
  · replace h := (if_neg (of_decide_eq_false hc)).symm.trans h
    refine xr_go 1 (pc' := 10) (lo' := [some (.ref v0), some (.int v1)]) (st' := [.ref v0]) (μ' := μ) rfl ?_
    obtain ⟨x2, hx2, h⟩ := Option.bind_eq_some_iff.mp h
    refine xr_opA (pc' := 13) (lo' := [some (.ref v0), some (.int v1)]) (st' := []) (o := ldFR μ v0 1 0) rfl hx2 ?_
    refine xr_go 1 (pc' := 14) (lo' := [some (.ref v0), some (.int v1)]) (st' := [.ref v0, .ref x2]) (μ' := μ) rfl ?_
    obtain ⟨x3, hx3, h⟩ := Option.bind_eq_some_iff.mp h
    refine xr_opI (pc' := 17) (lo' := [some (.ref v0), some (.int v1)]) (st' := [.ref x2]) (o := ldF μ v0 1 1) rfl hx3 ?_
    refine xr_go 1 (pc' := 18) (lo' := [some (.ref v0), some (.int v1)]) (st' := [.int v1, .int x3, .ref x2]) (μ' := μ) rfl ?_
    obtain ⟨μ4, hμ4, h⟩ := Option.bind_eq_some_iff.mp h
    refine xr_opM (pc' := 19) (lo' := [some (.ref v0), some (.int v1)]) (st' := []) (o := stA μ x2 x3 v1) rfl hμ4 ?_
    refine xr_go 2 (pc' := 21) (lo' := [some (.ref v0), some (.int v1)]) (st' := [.ref v0, .ref v0]) (μ' := μ4) rfl ?_
    obtain ⟨x5, hx5, h⟩ := Option.bind_eq_some_iff.mp h
    refine xr_opI (pc' := 24) (lo' := [some (.ref v0), some (.int v1)]) (st' := [.ref v0]) (o := ldF μ4 v0 1 1) rfl hx5 ?_
    refine xr_go 2 (pc' := 26) (lo' := [some (.ref v0), some (.int v1)]) (st' := [.int (x5 + (xc 1)), .ref v0]) (μ' := μ4) rfl ?_
    obtain ⟨μ6, hμ6, h⟩ := Option.bind_eq_some_iff.mp h
    refine xr_opM (pc' := 29) (lo' := [some (.ref v0), some (.int v1)]) (st' := []) (o := stF μ4 v0 1 1 (x5 + (xc 1))) rfl hμ6 ?_
    have ho := Option.some.inj h
    subst ho
    obtain ⟨rfl, rfl⟩ := hK
    exact xr_ret (rv := none) rfl rfl (rfl)
noncomputable def fB_write (a0 : Nat) (a1 : Int32) (μ : xM) : Option (xM) := xgd μ a0 1 (fB_write_0 a0 a1 μ)
theorem fB_write_kd {a0 : Nat} {a1 : Int32} {μ : xM} {o : xM} (h : fB_write a0 a1 μ = some o) : (xK μ a0).1 = 10 + 1 := (xgd_some h).1
theorem fB_write_ok {d : Nat} {a0 : Nat} {a1 : Int32} {μ : xM} {o : xM} (h : fB_write a0 a1 μ = some o) : xRun (d + 0) 55 0 [some (.ref a0), some (.int a1)] [] μ none o :=
  xr_forget (lo := [some (.ref a0), some (.int a1)]) (⟨rfl, rfl, trivial⟩) (fB_write_0_ok (d := d) (xgd_some h).2 (show fB_write_K _ _ o from ⟨rfl, rfl⟩))
-- KeptAnswers.put(I)I 
def fX_put_K (rv : Option Value) (μf : xM) : (Int32 × xM) → Prop := fun o => rv = some (.int o.1) ∧ μf = o.2
noncomputable def fX_put_29  (v0 : Nat) (μ : xM) : Option (Int32 × xM) := (fX_refuse v0 (xc (-6)) μ).bind fun r1 => some ((r1.1, r1.2))
theorem fX_put_29_ok {d : Nat} {v0 : Nat} {μ : xM} {rv : Option Value} {μf : xM} {out : Int32 × xM} (h : fX_put_29 v0 μ = some out) (hK : fX_put_K rv μf out) : xRun (d + 1) 6 29 [some (.ref v0), none] [] μ rv μf := by
  unfold fX_put_29 at h
  refine xr_go 2 (pc' := 32) (lo' := [some (.ref v0), none]) (st' := [.int (xc (-6)), .ref v0]) (μ' := μ) rfl ?_
  obtain ⟨r1, hr1, h⟩ := Option.bind_eq_some_iff.mp h
  refine xr_callV (j := 37) (d' := (d + 0)) (rv1 := some (.int r1.1)) (μ1 := r1.2) (rest := []) (As := [.int (xc (-6))]) rfl rfl rfl rfl (Nat.le_of_ble_eq_true rfl) (fX_refuse_kd hr1) rfl (by exact (fX_refuse_ok (d := d + (0)) hr1)) ?_
  have ho := Option.some.inj h
  subst ho
  obtain ⟨rfl, rfl⟩ := hK
  exact xr_ret (rv := some (.int r1.1)) rfl rfl (Or.inl rfl)
noncomputable def fX_put_0  (v0 : Nat) (v1 : Int32) (μ : xM) : Option (Int32 × xM) := if (xc (-128)) ≤ v1 then (if (xc 127) < v1 then (fX_put_29 v0 μ) else ((ldFR μ v0 0 4).bind fun x2 => (fB_isFull x2 μ).bind fun r3 => if r3 = 0 then ((ldFR μ v0 0 4).bind fun x4 => (fB_write x4 v1 μ).bind fun r5 => (ldFR r5 v0 0 4).bind fun x6 => (ldF r5 x6 1 1).bind fun x7 => some ((x7, r5))) else (fX_put_29 v0 μ))) else ((fX_refuse v0 (xc (-4)) μ).bind fun r8 => some ((r8.1, r8.2)))
theorem fX_put_0_ok {d : Nat} {v0 : Nat} {v1 : Int32} {μ : xM} {rv : Option Value} {μf : xM} {out : Int32 × xM} (h : fX_put_0 v0 v1 μ = some out) (hK : fX_put_K rv μf out) : xRun (d + 1) 6 0 [some (.ref v0), some (.int v1)] [] μ rv μf := by
  unfold fX_put_0 at h
  refine xr_go 2 (pc' := 3) (lo' := [some (.ref v0), some (.int v1)]) (st' := [.int (xc (-128)), .int v1]) (μ' := μ) rfl ?_
  refine xr_icmp (pct := 13) rfl rfl rfl (fun hc => ?_) (fun hc => ?_)
  · replace h := (if_pos (of_decide_eq_true hc)).symm.trans h
    refine xr_go 2 (pc' := 16) (lo' := [some (.ref v0), some (.int v1)]) (st' := [.int (xc 127), .int v1]) (μ' := μ) rfl ?_
    refine xr_icmp (pct := 29) rfl rfl rfl (fun hc => ?_) (fun hc => ?_)
    · replace h := (if_pos (of_decide_eq_true hc)).symm.trans h
      refine xr_forget (lo := [some (.ref v0), none]) ⟨rfl, trivial⟩ ?_
      exact fX_put_29_ok h hK
    · replace h := (if_neg (of_decide_eq_false hc)).symm.trans h
      refine xr_go 1 (pc' := 20) (lo' := [some (.ref v0), some (.int v1)]) (st' := [.ref v0]) (μ' := μ) rfl ?_
      obtain ⟨x2, hx2, h⟩ := Option.bind_eq_some_iff.mp h
      refine xr_opA (pc' := 23) (lo' := [some (.ref v0), some (.int v1)]) (st' := []) (o := ldFR μ v0 0 4) rfl hx2 ?_
      obtain ⟨r3, hr3, h⟩ := Option.bind_eq_some_iff.mp h
      refine xr_callV (j := 54) (d' := (d + 0)) (rv1 := some (.int r3)) (μ1 := μ) (rest := []) (As := []) rfl rfl rfl rfl (Nat.le_of_ble_eq_true rfl) (fB_isFull_kd hr3) rfl (by exact (fB_isFull_ok (d := d + (0)) hr3)) ?_
      refine xr_ifc (pct := 36) rfl rfl rfl (fun hc => ?_) (fun hc => ?_)
      · replace h := (if_pos (of_decide_eq_true hc)).symm.trans h
        refine xr_go 1 (pc' := 37) (lo' := [some (.ref v0), some (.int v1)]) (st' := [.ref v0]) (μ' := μ) rfl ?_
        obtain ⟨x4, hx4, h⟩ := Option.bind_eq_some_iff.mp h
        refine xr_opA (pc' := 40) (lo' := [some (.ref v0), some (.int v1)]) (st' := []) (o := ldFR μ v0 0 4) rfl hx4 ?_
        refine xr_go 1 (pc' := 41) (lo' := [some (.ref v0), some (.int v1)]) (st' := [.int v1, .ref x4]) (μ' := μ) rfl ?_
        obtain ⟨r5, hr5, h⟩ := Option.bind_eq_some_iff.mp h
        refine xr_callV (j := 55) (d' := (d + 0)) (rv1 := none) (μ1 := r5) (rest := []) (As := [.int v1]) rfl rfl rfl rfl (Nat.le_of_ble_eq_true rfl) (fB_write_kd hr5) rfl (by exact (fB_write_ok (d := d + (0)) hr5)) ?_
        refine xr_go 1 (pc' := 45) (lo' := [some (.ref v0), some (.int v1)]) (st' := [.ref v0]) (μ' := r5) rfl ?_
        obtain ⟨x6, hx6, h⟩ := Option.bind_eq_some_iff.mp h
        refine xr_opA (pc' := 48) (lo' := [some (.ref v0), some (.int v1)]) (st' := []) (o := ldFR r5 v0 0 4) rfl hx6 ?_
        obtain ⟨x7, hx7, h⟩ := Option.bind_eq_some_iff.mp h
        refine xr_opI (pc' := 51) (lo' := [some (.ref v0), some (.int v1)]) (st' := []) (o := ldF r5 x6 1 1) rfl hx7 ?_
        have ho := Option.some.inj h
        subst ho
        obtain ⟨rfl, rfl⟩ := hK
        exact xr_ret (rv := some (.int x7)) rfl rfl (Or.inl rfl)
      · replace h := (if_neg (of_decide_eq_false hc)).symm.trans h
        refine xr_forget (lo := [some (.ref v0), none]) ⟨rfl, trivial⟩ ?_
        exact fX_put_29_ok h hK
  · replace h := (if_neg (of_decide_eq_false hc)).symm.trans h
    refine xr_go 2 (pc' := 9) (lo' := [some (.ref v0), some (.int v1)]) (st' := [.int (xc (-4)), .ref v0]) (μ' := μ) rfl ?_
    obtain ⟨r8, hr8, h⟩ := Option.bind_eq_some_iff.mp h
    refine xr_callV (j := 37) (d' := (d + 0)) (rv1 := some (.int r8.1)) (μ1 := r8.2) (rest := []) (As := [.int (xc (-4))]) rfl rfl rfl rfl (Nat.le_of_ble_eq_true rfl) (fX_refuse_kd hr8) rfl (by exact (fX_refuse_ok (d := d + (0)) hr8)) ?_
    have ho := Option.some.inj h
    subst ho
    obtain ⟨rfl, rfl⟩ := hK
    exact xr_ret (rv := some (.int r8.1)) rfl rfl (Or.inl rfl)
noncomputable def fX_put (a0 : Nat) (a1 : Int32) (μ : xM) : Option (Int32 × xM) := xgd μ a0 0 (fX_put_0 a0 a1 μ)
theorem fX_put_kd {a0 : Nat} {a1 : Int32} {μ : xM} {o : Int32 × xM} (h : fX_put a0 a1 μ = some o) : (xK μ a0).1 = 10 + 0 := (xgd_some h).1
theorem fX_put_ok {d : Nat} {a0 : Nat} {a1 : Int32} {μ : xM} {o : Int32 × xM} (h : fX_put a0 a1 μ = some o) : xRun (d + 1) 6 0 [some (.ref a0), some (.int a1)] [] μ (some (.int o.1)) o.2 :=
  xr_forget (lo := [some (.ref a0), some (.int a1)]) (⟨rfl, rfl, trivial⟩) (fX_put_0_ok (d := d) (xgd_some h).2 (show fX_put_K _ _ o from ⟨rfl, rfl⟩))
-- KeptAnswersModel.put(I)I 
def fM_put_K (rv : Option Value) (μf : xM) : (Int32 × xM) → Prop := fun o => rv = some (.int o.1) ∧ μf = o.2
noncomputable def fM_put_28  (v0 : Nat) (μ : xM) : Option (Int32 × xM) := (fM_refuse v0 (xc (-6)) μ).bind fun r1 => some ((r1.1, r1.2))
theorem fM_put_28_ok {d : Nat} {v0 : Nat} {μ : xM} {rv : Option Value} {μf : xM} {out : Int32 × xM} (h : fM_put_28 v0 μ = some out) (hK : fM_put_K rv μf out) : xRun (d + 1) 151 28 [some (.ref v0), none] [] μ rv μf := by
  unfold fM_put_28 at h
  refine xr_go 2 (pc' := 31) (lo' := [some (.ref v0), none]) (st' := [.int (xc (-6)), .ref v0]) (μ' := μ) rfl ?_
  obtain ⟨r1, hr1, h⟩ := Option.bind_eq_some_iff.mp h
  refine xr_callV (j := 138) (d' := (d + 0)) (rv1 := some (.int r1.1)) (μ1 := r1.2) (rest := []) (As := [.int (xc (-6))]) rfl rfl rfl rfl (Nat.le_of_ble_eq_true rfl) (fM_refuse_kd hr1) rfl (by exact (fM_refuse_ok (d := d + (0)) hr1)) ?_
  have ho := Option.some.inj h
  subst ho
  obtain ⟨rfl, rfl⟩ := hK
  exact xr_ret (rv := some (.int r1.1)) rfl rfl (Or.inl rfl)
noncomputable def fM_put_0  (v0 : Nat) (v1 : Int32) (μ : xM) : Option (Int32 × xM) := if (xc (-128)) ≤ v1 then (if (xc 127) < v1 then (fM_put_28 v0 μ) else ((ldF μ v0 9 5).bind fun x2 => if x2 = (xc 60) then (fM_put_28 v0 μ) else ((ldFR μ v0 9 4).bind fun x3 => (ldF μ v0 9 5).bind fun x4 => (stA μ x3 x4 v1).bind fun μ5 => (ldF μ5 v0 9 5).bind fun x6 => (stF μ5 v0 9 5 (x6 + (xc 1))).bind fun μ7 => (ldF μ7 v0 9 5).bind fun x8 => some ((x8, μ7))))) else ((fM_refuse v0 (xc (-4)) μ).bind fun r9 => some ((r9.1, r9.2)))
theorem fM_put_0_ok {d : Nat} {v0 : Nat} {v1 : Int32} {μ : xM} {rv : Option Value} {μf : xM} {out : Int32 × xM} (h : fM_put_0 v0 v1 μ = some out) (hK : fM_put_K rv μf out) : xRun (d + 1) 151 0 [some (.ref v0), some (.int v1)] [] μ rv μf := by
  unfold fM_put_0 at h
  refine xr_go 2 (pc' := 3) (lo' := [some (.ref v0), some (.int v1)]) (st' := [.int (xc (-128)), .int v1]) (μ' := μ) rfl ?_
  refine xr_icmp (pct := 13) rfl rfl rfl (fun hc => ?_) (fun hc => ?_)
  · replace h := (if_pos (of_decide_eq_true hc)).symm.trans h
    refine xr_go 2 (pc' := 16) (lo' := [some (.ref v0), some (.int v1)]) (st' := [.int (xc 127), .int v1]) (μ' := μ) rfl ?_
    refine xr_icmp (pct := 28) rfl rfl rfl (fun hc => ?_) (fun hc => ?_)
    · replace h := (if_pos (of_decide_eq_true hc)).symm.trans h
      refine xr_forget (lo := [some (.ref v0), none]) ⟨rfl, trivial⟩ ?_
      exact fM_put_28_ok h hK
    · replace h := (if_neg (of_decide_eq_false hc)).symm.trans h
      refine xr_go 1 (pc' := 20) (lo' := [some (.ref v0), some (.int v1)]) (st' := [.ref v0]) (μ' := μ) rfl ?_
      obtain ⟨x2, hx2, h⟩ := Option.bind_eq_some_iff.mp h
      refine xr_opI (pc' := 23) (lo' := [some (.ref v0), some (.int v1)]) (st' := []) (o := ldF μ v0 9 5) rfl hx2 ?_
      refine xr_go 1 (pc' := 25) (lo' := [some (.ref v0), some (.int v1)]) (st' := [.int (xc 60), .int x2]) (μ' := μ) rfl ?_
      refine xr_icmp (pct := 35) rfl rfl rfl (fun hc => ?_) (fun hc => ?_)
      · replace h := (if_neg (of_decide_eq_true hc)).symm.trans h
        refine xr_go 1 (pc' := 36) (lo' := [some (.ref v0), some (.int v1)]) (st' := [.ref v0]) (μ' := μ) rfl ?_
        obtain ⟨x3, hx3, h⟩ := Option.bind_eq_some_iff.mp h
        refine xr_opA (pc' := 39) (lo' := [some (.ref v0), some (.int v1)]) (st' := []) (o := ldFR μ v0 9 4) rfl hx3 ?_
        refine xr_go 1 (pc' := 40) (lo' := [some (.ref v0), some (.int v1)]) (st' := [.ref v0, .ref x3]) (μ' := μ) rfl ?_
        obtain ⟨x4, hx4, h⟩ := Option.bind_eq_some_iff.mp h
        refine xr_opI (pc' := 43) (lo' := [some (.ref v0), some (.int v1)]) (st' := [.ref x3]) (o := ldF μ v0 9 5) rfl hx4 ?_
        refine xr_go 1 (pc' := 44) (lo' := [some (.ref v0), some (.int v1)]) (st' := [.int v1, .int x4, .ref x3]) (μ' := μ) rfl ?_
        obtain ⟨μ5, hμ5, h⟩ := Option.bind_eq_some_iff.mp h
        refine xr_opM (pc' := 45) (lo' := [some (.ref v0), some (.int v1)]) (st' := []) (o := stA μ x3 x4 v1) rfl hμ5 ?_
        refine xr_go 2 (pc' := 47) (lo' := [some (.ref v0), some (.int v1)]) (st' := [.ref v0, .ref v0]) (μ' := μ5) rfl ?_
        obtain ⟨x6, hx6, h⟩ := Option.bind_eq_some_iff.mp h
        refine xr_opI (pc' := 50) (lo' := [some (.ref v0), some (.int v1)]) (st' := [.ref v0]) (o := ldF μ5 v0 9 5) rfl hx6 ?_
        refine xr_go 2 (pc' := 52) (lo' := [some (.ref v0), some (.int v1)]) (st' := [.int (x6 + (xc 1)), .ref v0]) (μ' := μ5) rfl ?_
        obtain ⟨μ7, hμ7, h⟩ := Option.bind_eq_some_iff.mp h
        refine xr_opM (pc' := 55) (lo' := [some (.ref v0), some (.int v1)]) (st' := []) (o := stF μ5 v0 9 5 (x6 + (xc 1))) rfl hμ7 ?_
        refine xr_go 1 (pc' := 56) (lo' := [some (.ref v0), some (.int v1)]) (st' := [.ref v0]) (μ' := μ7) rfl ?_
        obtain ⟨x8, hx8, h⟩ := Option.bind_eq_some_iff.mp h
        refine xr_opI (pc' := 59) (lo' := [some (.ref v0), some (.int v1)]) (st' := []) (o := ldF μ7 v0 9 5) rfl hx8 ?_
        have ho := Option.some.inj h
        subst ho
        obtain ⟨rfl, rfl⟩ := hK
        exact xr_ret (rv := some (.int x8)) rfl rfl (Or.inl rfl)
      · replace h := (if_pos (Decidable.of_not_not (of_decide_eq_false hc))).symm.trans h
        refine xr_forget (lo := [some (.ref v0), none]) ⟨rfl, trivial⟩ ?_
        exact fM_put_28_ok h hK
  · replace h := (if_neg (of_decide_eq_false hc)).symm.trans h
    refine xr_go 2 (pc' := 9) (lo' := [some (.ref v0), some (.int v1)]) (st' := [.int (xc (-4)), .ref v0]) (μ' := μ) rfl ?_
    obtain ⟨r9, hr9, h⟩ := Option.bind_eq_some_iff.mp h
    refine xr_callV (j := 138) (d' := (d + 0)) (rv1 := some (.int r9.1)) (μ1 := r9.2) (rest := []) (As := [.int (xc (-4))]) rfl rfl rfl rfl (Nat.le_of_ble_eq_true rfl) (fM_refuse_kd hr9) rfl (by exact (fM_refuse_ok (d := d + (0)) hr9)) ?_
    have ho := Option.some.inj h
    subst ho
    obtain ⟨rfl, rfl⟩ := hK
    exact xr_ret (rv := some (.int r9.1)) rfl rfl (Or.inl rfl)
noncomputable def fM_put (a0 : Nat) (a1 : Int32) (μ : xM) : Option (Int32 × xM) := xgd μ a0 9 (fM_put_0 a0 a1 μ)
theorem fM_put_kd {a0 : Nat} {a1 : Int32} {μ : xM} {o : Int32 × xM} (h : fM_put a0 a1 μ = some o) : (xK μ a0).1 = 10 + 9 := (xgd_some h).1
theorem fM_put_ok {d : Nat} {a0 : Nat} {a1 : Int32} {μ : xM} {o : Int32 × xM} (h : fM_put a0 a1 μ = some o) : xRun (d + 1) 151 0 [some (.ref a0), some (.int a1)] [] μ (some (.int o.1)) o.2 :=
  xr_forget (lo := [some (.ref a0), some (.int a1)]) (⟨rfl, rfl, trivial⟩) (fM_put_0_ok (d := d) (xgd_some h).2 (show fM_put_K _ _ o from ⟨rfl, rfl⟩))
-- KeptAnswers$Book.rowAt(I)I 
def fB_rowAt_K (μ : xM) (rv : Option Value) (μf : xM) : (Int32) → Prop := fun o => rv = some (.int o) ∧ μf = μ
noncomputable def fB_rowAt_14  (μ : xM) : Option (Int32) := some (xc (-1))
theorem fB_rowAt_14_ok {d : Nat} {μ : xM} {rv : Option Value} {μf : xM} {out : Int32} (h : fB_rowAt_14 μ = some out) (hK : fB_rowAt_K μ rv μf out) : xRun (d + 2) 56 14 [none, none, none, none, none] [] μ rv μf := by
  unfold fB_rowAt_14 at h
  refine xr_go 1 (pc' := 15) (lo' := [none, none, none, none, none]) (st' := [.int (xc (-1))]) (μ' := μ) rfl ?_
  have ho := Option.some.inj h
  subst ho
  obtain ⟨rfl, rfl⟩ := hK
  exact xr_ret (rv := some (.int (xc (-1)))) rfl rfl (Or.inl rfl)
noncomputable def fB_rowAt_0  (v0 : Nat) (v1 : Int32) (μ : xM) : Option (Int32) := if v1 < 0 then (fB_rowAt_14 μ) else ((ldF μ v0 1 1).bind fun x1 => if (v1 + (xc 3)) ≤ x1 then ((ldFR μ v0 1 0).bind fun x2 => (ldA μ x2 v1).bind fun x3 => (ldFR μ v0 1 0).bind fun x4 => (ldA μ x4 (v1 + (xc 1))).bind fun x5 => (ldFR μ v0 1 0).bind fun x6 => (ldA μ x6 (v1 + (xc 2))).bind fun x7 => (fX_rowRefusal x3 x5 x7 μ).bind fun r8 => if r8 = 0 then ((fX_rowBit x3 x5 x7 μ).bind fun r9 => some r9) else (some (xc (-1)))) else (fB_rowAt_14 μ))
theorem fB_rowAt_0_ok {d : Nat} {v0 : Nat} {v1 : Int32} {μ : xM} {rv : Option Value} {μf : xM} {out : Int32} (h : fB_rowAt_0 v0 v1 μ = some out) (hK : fB_rowAt_K μ rv μf out) : xRun (d + 2) 56 0 [some (.ref v0), some (.int v1), none, none, none] [] μ rv μf := by
  unfold fB_rowAt_0 at h
  refine xr_go 1 (pc' := 1) (lo' := [some (.ref v0), some (.int v1), none, none, none]) (st' := [.int v1]) (μ' := μ) rfl ?_
  refine xr_ifc (pct := 14) rfl rfl rfl (fun hc => ?_) (fun hc => ?_)
  · replace h := (if_pos (of_decide_eq_true hc)).symm.trans h
    refine xr_forget (lo := [none, none, none, none, none]) trivial ?_
    exact fB_rowAt_14_ok h hK
  · replace h := (if_neg (of_decide_eq_false hc)).symm.trans h
    refine xr_go 4 (pc' := 8) (lo' := [some (.ref v0), some (.int v1), none, none, none]) (st' := [.ref v0, .int (v1 + (xc 3))]) (μ' := μ) rfl ?_
    obtain ⟨x1, hx1, h⟩ := Option.bind_eq_some_iff.mp h
    refine xr_opI (pc' := 11) (lo' := [some (.ref v0), some (.int v1), none, none, none]) (st' := [.int (v1 + (xc 3))]) (o := ldF μ v0 1 1) rfl hx1 ?_
    refine xr_icmp (pct := 16) rfl rfl rfl (fun hc => ?_) (fun hc => ?_)
    · replace h := (if_pos (of_decide_eq_true hc)).symm.trans h
      refine xr_go 1 (pc' := 17) (lo' := [some (.ref v0), some (.int v1), none, none, none]) (st' := [.ref v0]) (μ' := μ) rfl ?_
      obtain ⟨x2, hx2, h⟩ := Option.bind_eq_some_iff.mp h
      refine xr_opA (pc' := 20) (lo' := [some (.ref v0), some (.int v1), none, none, none]) (st' := []) (o := ldFR μ v0 1 0) rfl hx2 ?_
      refine xr_go 1 (pc' := 21) (lo' := [some (.ref v0), some (.int v1), none, none, none]) (st' := [.int v1, .ref x2]) (μ' := μ) rfl ?_
      obtain ⟨x3, hx3, h⟩ := Option.bind_eq_some_iff.mp h
      refine xr_opI (pc' := 22) (lo' := [some (.ref v0), some (.int v1), none, none, none]) (st' := []) (o := ldA μ x2 v1) rfl hx3 ?_
      refine xr_go 2 (pc' := 24) (lo' := [some (.ref v0), some (.int v1), some (.int x3), none, none]) (st' := [.ref v0]) (μ' := μ) rfl ?_
      obtain ⟨x4, hx4, h⟩ := Option.bind_eq_some_iff.mp h
      refine xr_opA (pc' := 27) (lo' := [some (.ref v0), some (.int v1), some (.int x3), none, none]) (st' := []) (o := ldFR μ v0 1 0) rfl hx4 ?_
      refine xr_go 3 (pc' := 30) (lo' := [some (.ref v0), some (.int v1), some (.int x3), none, none]) (st' := [.int (v1 + (xc 1)), .ref x4]) (μ' := μ) rfl ?_
      obtain ⟨x5, hx5, h⟩ := Option.bind_eq_some_iff.mp h
      refine xr_opI (pc' := 31) (lo' := [some (.ref v0), some (.int v1), some (.int x3), none, none]) (st' := []) (o := ldA μ x4 (v1 + (xc 1))) rfl hx5 ?_
      refine xr_go 2 (pc' := 33) (lo' := [some (.ref v0), some (.int v1), some (.int x3), some (.int x5), none]) (st' := [.ref v0]) (μ' := μ) rfl ?_
      obtain ⟨x6, hx6, h⟩ := Option.bind_eq_some_iff.mp h
      refine xr_opA (pc' := 36) (lo' := [some (.ref v0), some (.int v1), some (.int x3), some (.int x5), none]) (st' := []) (o := ldFR μ v0 1 0) rfl hx6 ?_
      refine xr_go 3 (pc' := 39) (lo' := [some (.ref v0), some (.int v1), some (.int x3), some (.int x5), none]) (st' := [.int (v1 + (xc 2)), .ref x6]) (μ' := μ) rfl ?_
      obtain ⟨x7, hx7, h⟩ := Option.bind_eq_some_iff.mp h
      refine xr_opI (pc' := 40) (lo' := [some (.ref v0), some (.int v1), some (.int x3), some (.int x5), none]) (st' := []) (o := ldA μ x6 (v1 + (xc 2))) rfl hx7 ?_
      refine xr_go 4 (pc' := 46) (lo' := [some (.ref v0), some (.int v1), some (.int x3), some (.int x5), some (.int x7)]) (st' := [.int x7, .int x5, .int x3]) (μ' := μ) rfl ?_
      obtain ⟨r8, hr8, h⟩ := Option.bind_eq_some_iff.mp h
      refine xr_callS (j := 42) (d' := (d + 1)) (rv1 := some (.int r8)) (μ1 := μ) (rest := []) (As := [.int x3, .int x5, .int x7]) rfl rfl rfl rfl (Nat.le_of_ble_eq_true rfl) rfl (by exact (fX_rowRefusal_ok (d := d + (0)) hr8)) ?_
      refine xr_ifc (pct := 62) rfl rfl rfl (fun hc => ?_) (fun hc => ?_)
      · replace h := (if_neg (of_decide_eq_true hc)).symm.trans h
        refine xr_go 1 (pc' := 63) (lo' := [some (.ref v0), some (.int v1), some (.int x3), some (.int x5), some (.int x7)]) (st' := [.int (xc (-1))]) (μ' := μ) rfl ?_
        have ho := Option.some.inj h
        subst ho
        obtain ⟨rfl, rfl⟩ := hK
        exact xr_ret (rv := some (.int (xc (-1)))) rfl rfl (Or.inl rfl)
      · replace h := (if_pos (Decidable.of_not_not (of_decide_eq_false hc))).symm.trans h
        refine xr_go 3 (pc' := 56) (lo' := [some (.ref v0), some (.int v1), some (.int x3), some (.int x5), some (.int x7)]) (st' := [.int x7, .int x5, .int x3]) (μ' := μ) rfl ?_
        obtain ⟨r9, hr9, h⟩ := Option.bind_eq_some_iff.mp h
        refine xr_callS (j := 44) (d' := (d + 1)) (rv1 := some (.int r9)) (μ1 := μ) (rest := []) (As := [.int x3, .int x5, .int x7]) rfl rfl rfl rfl (Nat.le_of_ble_eq_true rfl) rfl (by exact (fX_rowBit_ok (d := d + (1)) hr9)) ?_
        refine xr_go 1 (pc' := 63) (lo' := [some (.ref v0), some (.int v1), some (.int x3), some (.int x5), some (.int x7)]) (st' := [.int r9]) (μ' := μ) rfl ?_
        have ho := Option.some.inj h
        subst ho
        obtain ⟨rfl, rfl⟩ := hK
        exact xr_ret (rv := some (.int r9)) rfl rfl (Or.inl rfl)
    · replace h := (if_neg (of_decide_eq_false hc)).symm.trans h
      refine xr_forget (lo := [none, none, none, none, none]) trivial ?_
      exact fB_rowAt_14_ok h hK
noncomputable def fB_rowAt (a0 : Nat) (a1 : Int32) (μ : xM) : Option (Int32) := xgd μ a0 1 (fB_rowAt_0 a0 a1 μ)
theorem fB_rowAt_kd {a0 : Nat} {a1 : Int32} {μ : xM} {o : Int32} (h : fB_rowAt a0 a1 μ = some o) : (xK μ a0).1 = 10 + 1 := (xgd_some h).1
theorem fB_rowAt_ok {d : Nat} {a0 : Nat} {a1 : Int32} {μ : xM} {o : Int32} (h : fB_rowAt a0 a1 μ = some o) : xRun (d + 2) 56 0 [some (.ref a0), some (.int a1), none, none, none] [] μ (some (.int o)) μ :=
  xr_forget (lo := [some (.ref a0), some (.int a1), none, none, none]) (⟨rfl, rfl, trivial⟩) (fB_rowAt_0_ok (d := d) (xgd_some h).2 (show fB_rowAt_K μ _ _ o from ⟨rfl, rfl⟩))
-- KeptAnswers.read()I 
def fX_read_K (rv : Option Value) (μf : xM) : (Int32 × xM) → Prop := fun o => rv = some (.int o.1) ∧ μf = o.2
def fX_read_K4 (v0 : Nat) (d : Nat) (rv : Option Value) (μf : xM) : ((Int32 × Int32 × xM) ⊕ (Int32 × xM)) → Prop := Sum.elim (fun s : Int32 × Int32 × xM => xRun (d + 3) 7 4 [some (.ref v0), some (.int s.1), some (.int s.2.1), none] [] s.2.2 rv μf) (fX_read_K rv μf)
noncomputable def fX_read_73  (v0 : Nat) (v1 : Int32) (μ : xM) : Option (Int32 × xM) := (ldFR μ v0 0 4).bind fun x1 => (stF μ x1 1 1 (xc 0)).bind fun μ2 => some ((v1, μ2))
theorem fX_read_73_ok {d : Nat} {v0 : Nat} {v1 : Int32} {μ : xM} {rv : Option Value} {μf : xM} {out : Int32 × xM} (h : fX_read_73 v0 v1 μ = some out) (hK : fX_read_K rv μf out) : xRun (d + 3) 7 73 [some (.ref v0), some (.int v1), none, none] [] μ rv μf := by
  unfold fX_read_73 at h
  refine xr_go 1 (pc' := 74) (lo' := [some (.ref v0), some (.int v1), none, none]) (st' := [.ref v0]) (μ' := μ) rfl ?_
  obtain ⟨x1, hx1, h⟩ := Option.bind_eq_some_iff.mp h
  refine xr_opA (pc' := 77) (lo' := [some (.ref v0), some (.int v1), none, none]) (st' := []) (o := ldFR μ v0 0 4) rfl hx1 ?_
  refine xr_go 1 (pc' := 78) (lo' := [some (.ref v0), some (.int v1), none, none]) (st' := [.int (xc 0), .ref x1]) (μ' := μ) rfl ?_
  obtain ⟨μ2, hμ2, h⟩ := Option.bind_eq_some_iff.mp h
  refine xr_opM (pc' := 81) (lo' := [some (.ref v0), some (.int v1), none, none]) (st' := []) (o := stF μ x1 1 1 (xc 0)) rfl hμ2 ?_
  refine xr_go 1 (pc' := 82) (lo' := [some (.ref v0), some (.int v1), none, none]) (st' := [.int v1]) (μ' := μ2) rfl ?_
  have ho := Option.some.inj h
  subst ho
  obtain ⟨rfl, rfl⟩ := hK
  exact xr_ret (rv := some (.int v1)) rfl rfl (Or.inl rfl)
noncomputable def fX_read_67  (v0 : Nat) (v1 : Int32) (v2 : Int32) (μ : xM) : Option ((Int32 × Int32 × xM) ⊕ (Int32 × xM)) := some (.inl ((v1, v2 + xc 3, μ)))
theorem fX_read_67_ok {d : Nat} {v0 : Nat} {v1 : Int32} {v2 : Int32} {μ : xM} {rv : Option Value} {μf : xM} {out : (Int32 × Int32 × xM) ⊕ (Int32 × xM)} (h : fX_read_67 v0 v1 v2 μ = some out) (hK : fX_read_K4 v0 d rv μf out) : xRun (d + 3) 7 67 [some (.ref v0), some (.int v1), some (.int v2), none] [] μ rv μf := by
  unfold fX_read_67 at h
  refine xr_go 2 (pc' := 4) (lo' := [some (.ref v0), some (.int v1), some (.int (v2 + xc 3)), none]) (st' := []) (μ' := μ) rfl ?_
  refine xr_forget (lo := [some (.ref v0), some (.int v1), some (.int (v2 + xc 3)), none]) ⟨rfl, rfl, rfl, trivial⟩ ?_
  have ho := Option.some.inj h
  subst ho
  exact hK
noncomputable def fX_read_56  (v0 : Nat) (v1 : Int32) (μ : xM) : Option (Int32 × xM) := fX_read_73 v0 v1 μ
theorem fX_read_56_ok {d : Nat} {v0 : Nat} {v1 : Int32} {μ : xM} {rv : Option Value} {μf : xM} {out : Int32 × xM} (h : fX_read_56 v0 v1 μ = some out) (hK : fX_read_K rv μf out) : xRun (d + 3) 7 56 [some (.ref v0), some (.int v1), none, none] [] μ rv μf := by
  unfold fX_read_56 at h
  refine xr_go 1 (pc' := 73) (lo' := [some (.ref v0), some (.int v1), none, none]) (st' := []) (μ' := μ) rfl ?_
  refine xr_forget (lo := [some (.ref v0), some (.int v1), none, none]) ⟨rfl, rfl, trivial⟩ ?_
  exact fX_read_73_ok h hK
noncomputable def fX_read_28  (v0 : Nat) (v1 : Int32) (μ : xM) : Option (Int32 × xM) := fX_read_73 v0 v1 μ
theorem fX_read_28_ok {d : Nat} {v0 : Nat} {v1 : Int32} {μ : xM} {rv : Option Value} {μf : xM} {out : Int32 × xM} (h : fX_read_28 v0 v1 μ = some out) (hK : fX_read_K rv μf out) : xRun (d + 3) 7 28 [some (.ref v0), some (.int v1), none, none] [] μ rv μf := by
  unfold fX_read_28 at h
  refine xr_go 1 (pc' := 73) (lo' := [some (.ref v0), some (.int v1), none, none]) (st' := []) (μ' := μ) rfl ?_
  refine xr_forget (lo := [some (.ref v0), some (.int v1), none, none]) ⟨rfl, rfl, trivial⟩ ?_
  exact fX_read_73_ok h hK
noncomputable def fX_read_L4  (v0 : Nat) (v1 : Int32) (v2 : Int32) (μ : xM) : Option ((Int32 × Int32 × xM) ⊕ (Int32 × xM)) := (ldFR μ v0 0 4).bind fun x3 => (ldF μ x3 1 1).bind fun x4 => if x4 ≤ v2 then ((fX_read_73 v0 v1 μ).map (fun o => .inr o)) else ((ldFR μ v0 0 4).bind fun x5 => (fB_rowAt x5 v2 μ).bind fun r6 => if 0 ≤ r6 then ((ldFR μ v0 0 0).bind fun x7 => (fH_hasRow x7 r6 μ).bind fun r8 => if r8 = 0 then ((ldFR μ v0 0 0).bind fun x9 => (fH_breaksKey x9 r6 μ).bind fun r10 => if r10 = 0 then ((fX_bringIn v0 r6 μ).bind fun r11 => fX_read_67 v0 (v1 + xc 1) v2 r11) else ((fX_read_56 v0 v1 μ).map (fun o => .inr o))) else (fX_read_67 v0 v1 v2 μ)) else ((fX_read_28 v0 v1 μ).map (fun o => .inr o)))
theorem fX_read_L4_ok {d : Nat} {v0 : Nat} {v1 : Int32} {v2 : Int32} {μ : xM} {rv : Option Value} {μf : xM} {out : (Int32 × Int32 × xM) ⊕ (Int32 × xM)} (h : fX_read_L4 v0 v1 v2 μ = some out) (hK : fX_read_K4 v0 d rv μf out) : xRun (d + 3) 7 4 [some (.ref v0), some (.int v1), some (.int v2), none] [] μ rv μf := by
  unfold fX_read_L4 at h
  refine xr_go 2 (pc' := 6) (lo' := [some (.ref v0), some (.int v1), some (.int v2), none]) (st' := [.ref v0, .int v2]) (μ' := μ) rfl ?_
  obtain ⟨x3, hx3, h⟩ := Option.bind_eq_some_iff.mp h
  refine xr_opA (pc' := 9) (lo' := [some (.ref v0), some (.int v1), some (.int v2), none]) (st' := [.int v2]) (o := ldFR μ v0 0 4) rfl hx3 ?_
  obtain ⟨x4, hx4, h⟩ := Option.bind_eq_some_iff.mp h
  refine xr_opI (pc' := 12) (lo' := [some (.ref v0), some (.int v1), some (.int v2), none]) (st' := [.int v2]) (o := ldF μ x3 1 1) rfl hx4 ?_
  refine xr_icmp (pct := 73) rfl rfl rfl (fun hc => ?_) (fun hc => ?_)
  · replace h := (if_pos (of_decide_eq_true hc)).symm.trans h
    refine xr_forget (lo := [some (.ref v0), some (.int v1), none, none]) ⟨rfl, rfl, trivial⟩ ?_
    obtain ⟨o, h2, rfl⟩ := Option.map_eq_some_iff.mp h
    exact fX_read_73_ok h2 hK
  · replace h := (if_neg (of_decide_eq_false hc)).symm.trans h
    refine xr_go 1 (pc' := 16) (lo' := [some (.ref v0), some (.int v1), some (.int v2), none]) (st' := [.ref v0]) (μ' := μ) rfl ?_
    obtain ⟨x5, hx5, h⟩ := Option.bind_eq_some_iff.mp h
    refine xr_opA (pc' := 19) (lo' := [some (.ref v0), some (.int v1), some (.int v2), none]) (st' := []) (o := ldFR μ v0 0 4) rfl hx5 ?_
    refine xr_go 1 (pc' := 20) (lo' := [some (.ref v0), some (.int v1), some (.int v2), none]) (st' := [.int v2, .ref x5]) (μ' := μ) rfl ?_
    obtain ⟨r6, hr6, h⟩ := Option.bind_eq_some_iff.mp h
    refine xr_callV (j := 56) (d' := (d + 2)) (rv1 := some (.int r6)) (μ1 := μ) (rest := []) (As := [.int v2]) rfl rfl rfl rfl (Nat.le_of_ble_eq_true rfl) (fB_rowAt_kd hr6) rfl (by exact (fB_rowAt_ok (d := d + (0)) hr6)) ?_
    refine xr_go 2 (pc' := 25) (lo' := [some (.ref v0), some (.int v1), some (.int v2), some (.int r6)]) (st' := [.int r6]) (μ' := μ) rfl ?_
    refine xr_ifc (pct := 31) rfl rfl rfl (fun hc => ?_) (fun hc => ?_)
    · replace h := (if_pos (of_decide_eq_true hc)).symm.trans h
      refine xr_go 1 (pc' := 32) (lo' := [some (.ref v0), some (.int v1), some (.int v2), some (.int r6)]) (st' := [.ref v0]) (μ' := μ) rfl ?_
      obtain ⟨x7, hx7, h⟩ := Option.bind_eq_some_iff.mp h
      refine xr_opA (pc' := 35) (lo' := [some (.ref v0), some (.int v1), some (.int v2), some (.int r6)]) (st' := []) (o := ldFR μ v0 0 0) rfl hx7 ?_
      refine xr_go 1 (pc' := 36) (lo' := [some (.ref v0), some (.int v1), some (.int v2), some (.int r6)]) (st' := [.int r6, .ref x7]) (μ' := μ) rfl ?_
      obtain ⟨r8, hr8, h⟩ := Option.bind_eq_some_iff.mp h
      refine xr_callV (j := 63) (d' := (d + 2)) (rv1 := some (.int r8)) (μ1 := μ) (rest := []) (As := [.int r6]) rfl rfl rfl rfl (Nat.le_of_ble_eq_true rfl) (fH_hasRow_kd hr8) rfl (by exact (fH_hasRow_ok (d := d + (2)) hr8)) ?_
      refine xr_ifc (pct := 45) rfl rfl rfl (fun hc => ?_) (fun hc => ?_)
      · replace h := (if_pos (of_decide_eq_true hc)).symm.trans h
        refine xr_go 1 (pc' := 46) (lo' := [some (.ref v0), some (.int v1), some (.int v2), some (.int r6)]) (st' := [.ref v0]) (μ' := μ) rfl ?_
        obtain ⟨x9, hx9, h⟩ := Option.bind_eq_some_iff.mp h
        refine xr_opA (pc' := 49) (lo' := [some (.ref v0), some (.int v1), some (.int v2), some (.int r6)]) (st' := []) (o := ldFR μ v0 0 0) rfl hx9 ?_
        refine xr_go 1 (pc' := 50) (lo' := [some (.ref v0), some (.int v1), some (.int v2), some (.int r6)]) (st' := [.int r6, .ref x9]) (μ' := μ) rfl ?_
        obtain ⟨r10, hr10, h⟩ := Option.bind_eq_some_iff.mp h
        refine xr_callV (j := 68) (d' := (d + 2)) (rv1 := some (.int r10)) (μ1 := μ) (rest := []) (As := [.int r6]) rfl rfl rfl rfl (Nat.le_of_ble_eq_true rfl) (fH_breaksKey_kd hr10) rfl (by exact (fH_breaksKey_ok (d := d + (1)) hr10)) ?_
        refine xr_ifc (pct := 59) rfl rfl rfl (fun hc => ?_) (fun hc => ?_)
        · replace h := (if_pos (of_decide_eq_true hc)).symm.trans h
          refine xr_go 2 (pc' := 61) (lo' := [some (.ref v0), some (.int v1), some (.int v2), some (.int r6)]) (st' := [.int r6, .ref v0]) (μ' := μ) rfl ?_
          obtain ⟨r11, hr11, h⟩ := Option.bind_eq_some_iff.mp h
          refine xr_callV (j := 45) (d' := (d + 2)) (rv1 := none) (μ1 := r11) (rest := []) (As := [.int r6]) rfl rfl rfl rfl (Nat.le_of_ble_eq_true rfl) (fX_bringIn_kd hr11) rfl (by exact (fX_bringIn_ok (d := d + (1)) hr11)) ?_
          refine xr_go 1 (pc' := 67) (lo' := [some (.ref v0), some (.int (v1 + xc 1)), some (.int v2), some (.int r6)]) (st' := []) (μ' := r11) rfl ?_
          refine xr_forget (lo := [some (.ref v0), some (.int (v1 + xc 1)), some (.int v2), none]) ⟨rfl, rfl, rfl, trivial⟩ ?_
          exact fX_read_67_ok h hK
        · replace h := (if_neg (of_decide_eq_false hc)).symm.trans h
          refine xr_forget (lo := [some (.ref v0), some (.int v1), none, none]) ⟨rfl, rfl, trivial⟩ ?_
          obtain ⟨o, h2, rfl⟩ := Option.map_eq_some_iff.mp h
          exact fX_read_56_ok h2 hK
      · replace h := (if_neg (of_decide_eq_false hc)).symm.trans h
        refine xr_go 1 (pc' := 67) (lo' := [some (.ref v0), some (.int v1), some (.int v2), some (.int r6)]) (st' := []) (μ' := μ) rfl ?_
        refine xr_forget (lo := [some (.ref v0), some (.int v1), some (.int v2), none]) ⟨rfl, rfl, rfl, trivial⟩ ?_
        exact fX_read_67_ok h hK
    · replace h := (if_neg (of_decide_eq_false hc)).symm.trans h
      refine xr_forget (lo := [some (.ref v0), some (.int v1), none, none]) ⟨rfl, rfl, trivial⟩ ?_
      obtain ⟨o, h2, rfl⟩ := Option.map_eq_some_iff.mp h
      exact fX_read_28_ok h2 hK
theorem fX_read_L4_lp {d : Nat} {v0 : Nat} {v1 : Int32} {v2 : Int32} {μ : xM} {rv : Option Value} {μf : xM} {out : Int32 × xM} (h : xwh (fun s : Int32 × Int32 × xM => fX_read_L4 v0 s.1 s.2.1 s.2.2) (v1, v2, μ) = some out) (hK : fX_read_K rv μf out) : xRun (d + 3) 7 4 [some (.ref v0), some (.int v1), some (.int v2), none] [] μ rv μf :=
  xwh_ind (Rh := fun s : Int32 × Int32 × xM => xRun (d + 3) 7 4 [some (.ref v0), some (.int s.1), some (.int s.2.1), none] [] s.2.2 rv μf) (Co := fX_read_K rv μf) (fun s o hb hk => fX_read_L4_ok hb hk) h hK
noncomputable def fX_read_0  (v0 : Nat) (μ : xM) : Option (Int32 × xM) := xwh (fun s : Int32 × Int32 × xM => fX_read_L4 v0 s.1 s.2.1 s.2.2) (xc 0, xc 0, μ)
theorem fX_read_0_ok {d : Nat} {v0 : Nat} {μ : xM} {rv : Option Value} {μf : xM} {out : Int32 × xM} (h : fX_read_0 v0 μ = some out) (hK : fX_read_K rv μf out) : xRun (d + 3) 7 0 [some (.ref v0), none, none, none] [] μ rv μf := by
  unfold fX_read_0 at h
  refine xr_go 4 (pc' := 4) (lo' := [some (.ref v0), some (.int (xc 0)), some (.int (xc 0)), none]) (st' := []) (μ' := μ) rfl ?_
  refine xr_forget (lo := [some (.ref v0), some (.int (xc 0)), some (.int (xc 0)), none]) ⟨rfl, rfl, rfl, trivial⟩ ?_
  exact fX_read_L4_lp h hK
noncomputable def fX_read (a0 : Nat) (μ : xM) : Option (Int32 × xM) := xgd μ a0 0 (fX_read_0 a0 μ)
theorem fX_read_kd {a0 : Nat} {μ : xM} {o : Int32 × xM} (h : fX_read a0 μ = some o) : (xK μ a0).1 = 10 + 0 := (xgd_some h).1
theorem fX_read_ok {d : Nat} {a0 : Nat} {μ : xM} {o : Int32 × xM} (h : fX_read a0 μ = some o) : xRun (d + 3) 7 0 [some (.ref a0), none, none, none] [] μ (some (.int o.1)) o.2 :=
  xr_forget (lo := [some (.ref a0), none, none, none]) (⟨rfl, trivial⟩) (fX_read_0_ok (d := d) (xgd_some h).2 (show fX_read_K _ _ o from ⟨rfl, rfl⟩))
-- KeptAnswersModel.read()I 
def fM_read_K (rv : Option Value) (μf : xM) : (Int32 × xM) → Prop := fun o => rv = some (.int o.1) ∧ μf = o.2
def fM_read_K14 (v0 : Nat) (v1 : Int32) (d : Nat) (rv : Option Value) (μf : xM) : ((Int32 × Int32 × xM) ⊕ (Int32 × xM)) → Prop := Sum.elim (fun s : Int32 × Int32 × xM => xRun (d + 2) 152 14 [some (.ref v0), some (.int v1), some (.int s.1), some (.int s.2.1), none] [] s.2.2 rv μf) (fM_read_K rv μf)
noncomputable def fM_read_100  (v2 : Int32) (μ : xM) : Option (Int32 × xM) := some ((v2, μ))
theorem fM_read_100_ok {d : Nat} {v2 : Int32} {μ : xM} {rv : Option Value} {μf : xM} {out : Int32 × xM} (h : fM_read_100 v2 μ = some out) (hK : fM_read_K rv μf out) : xRun (d + 2) 152 100 [none, none, some (.int v2), none, none] [] μ rv μf := by
  unfold fM_read_100 at h
  refine xr_go 1 (pc' := 101) (lo' := [none, none, some (.int v2), none, none]) (st' := [.int v2]) (μ' := μ) rfl ?_
  have ho := Option.some.inj h
  subst ho
  obtain ⟨rfl, rfl⟩ := hK
  exact xr_ret (rv := some (.int v2)) rfl rfl (Or.inl rfl)
noncomputable def fM_read_87  (v2 : Int32) (μ : xM) : Option (Int32 × xM) := some ((v2, μ))
theorem fM_read_87_ok {d : Nat} {v2 : Int32} {μ : xM} {rv : Option Value} {μf : xM} {out : Int32 × xM} (h : fM_read_87 v2 μ = some out) (hK : fM_read_K rv μf out) : xRun (d + 2) 152 87 [none, none, some (.int v2), none, none] [] μ rv μf := by
  unfold fM_read_87 at h
  refine xr_go 1 (pc' := 88) (lo' := [none, none, some (.int v2), none, none]) (st' := [.int v2]) (μ' := μ) rfl ?_
  have ho := Option.some.inj h
  subst ho
  obtain ⟨rfl, rfl⟩ := hK
  exact xr_ret (rv := some (.int v2)) rfl rfl (Or.inl rfl)
noncomputable def fM_read_80  (v0 : Nat) (v1 : Int32) (v2 : Int32) (v3 : Int32) (s0 : Int32) (μ : xM) : Option ((Int32 × Int32 × xM) ⊕ (Int32 × xM)) := if 0 ≤ s0 then (some (.inl ((v2 + s0, v3 + xc 3, μ)))) else ((fM_read_87 v2 μ).map (fun o => .inr o))
theorem fM_read_80_ok {d : Nat} {v0 : Nat} {v1 : Int32} {v2 : Int32} {v3 : Int32} {s0 : Int32} {μ : xM} {rv : Option Value} {μf : xM} {out : (Int32 × Int32 × xM) ⊕ (Int32 × xM)} (h : fM_read_80 v0 v1 v2 v3 s0 μ = some out) (hK : fM_read_K14 v0 v1 d rv μf out) : xRun (d + 2) 152 80 [some (.ref v0), some (.int v1), some (.int v2), some (.int v3), none] [.int s0] μ rv μf := by
  unfold fM_read_80 at h
  refine xr_go 2 (pc' := 84) (lo' := [some (.ref v0), some (.int v1), some (.int v2), some (.int v3), some (.int s0)]) (st' := [.int s0]) (μ' := μ) rfl ?_
  refine xr_ifc (pct := 89) rfl rfl rfl (fun hc => ?_) (fun hc => ?_)
  · replace h := (if_pos (of_decide_eq_true hc)).symm.trans h
    refine xr_go 6 (pc' := 14) (lo' := [some (.ref v0), some (.int v1), some (.int (v2 + s0)), some (.int (v3 + xc 3)), some (.int s0)]) (st' := []) (μ' := μ) rfl ?_
    refine xr_forget (lo := [some (.ref v0), some (.int v1), some (.int (v2 + s0)), some (.int (v3 + xc 3)), none]) ⟨rfl, rfl, rfl, rfl, trivial⟩ ?_
    have ho := Option.some.inj h
    subst ho
    exact hK
  · replace h := (if_neg (of_decide_eq_false hc)).symm.trans h
    refine xr_forget (lo := [none, none, some (.int v2), none, none]) ⟨rfl, trivial⟩ ?_
    obtain ⟨o, h2, rfl⟩ := Option.map_eq_some_iff.mp h
    exact fM_read_87_ok h2 hK
noncomputable def fM_read_L14  (v0 : Nat) (v1 : Int32) (v2 : Int32) (v3 : Int32) (μ : xM) : Option ((Int32 × Int32 × xM) ⊕ (Int32 × xM)) := if v1 ≤ (v3 + (xc 2)) then ((fM_read_100 v2 μ).map (fun o => .inr o)) else ((ldFR μ v0 9 4).bind fun x1 => (ldA μ x1 v3).bind fun x2 => (ldFR μ v0 9 4).bind fun x3 => (ldA μ x3 (v3 + (xc 1))).bind fun x4 => (ldFR μ v0 9 4).bind fun x5 => (ldA μ x5 (v3 + (xc 2))).bind fun x6 => (fM_wrongRow v0 x2 x4 x6 μ).bind fun r7 => if 0 ≤ r7 then ((ldFR μ v0 9 4).bind fun x8 => (ldA μ x8 v3).bind fun x9 => (ldFR μ v0 9 4).bind fun x10 => (ldA μ x10 (v3 + (xc 1))).bind fun x11 => (ldFR μ v0 9 4).bind fun x12 => (ldA μ x12 (v3 + (xc 2))).bind fun x13 => (fM_bring v0 x9 x11 x13 μ).bind fun r14 => fM_read_80 v0 v1 v2 v3 r14.1 r14.2) else (fM_read_80 v0 v1 v2 v3 (xc (-1)) μ))
theorem fM_read_L14_ok {d : Nat} {v0 : Nat} {v1 : Int32} {v2 : Int32} {v3 : Int32} {μ : xM} {rv : Option Value} {μf : xM} {out : (Int32 × Int32 × xM) ⊕ (Int32 × xM)} (h : fM_read_L14 v0 v1 v2 v3 μ = some out) (hK : fM_read_K14 v0 v1 d rv μf out) : xRun (d + 2) 152 14 [some (.ref v0), some (.int v1), some (.int v2), some (.int v3), none] [] μ rv μf := by
  unfold fM_read_L14 at h
  refine xr_go 4 (pc' := 18) (lo' := [some (.ref v0), some (.int v1), some (.int v2), some (.int v3), none]) (st' := [.int v1, .int (v3 + (xc 2))]) (μ' := μ) rfl ?_
  refine xr_icmp (pct := 100) rfl rfl rfl (fun hc => ?_) (fun hc => ?_)
  · replace h := (if_pos (of_decide_eq_true hc)).symm.trans h
    refine xr_forget (lo := [none, none, some (.int v2), none, none]) ⟨rfl, trivial⟩ ?_
    obtain ⟨o, h2, rfl⟩ := Option.map_eq_some_iff.mp h
    exact fM_read_100_ok h2 hK
  · replace h := (if_neg (of_decide_eq_false hc)).symm.trans h
    refine xr_go 2 (pc' := 23) (lo' := [some (.ref v0), some (.int v1), some (.int v2), some (.int v3), none]) (st' := [.ref v0, .ref v0]) (μ' := μ) rfl ?_
    obtain ⟨x1, hx1, h⟩ := Option.bind_eq_some_iff.mp h
    refine xr_opA (pc' := 26) (lo' := [some (.ref v0), some (.int v1), some (.int v2), some (.int v3), none]) (st' := [.ref v0]) (o := ldFR μ v0 9 4) rfl hx1 ?_
    refine xr_go 1 (pc' := 27) (lo' := [some (.ref v0), some (.int v1), some (.int v2), some (.int v3), none]) (st' := [.int v3, .ref x1, .ref v0]) (μ' := μ) rfl ?_
    obtain ⟨x2, hx2, h⟩ := Option.bind_eq_some_iff.mp h
    refine xr_opI (pc' := 28) (lo' := [some (.ref v0), some (.int v1), some (.int v2), some (.int v3), none]) (st' := [.ref v0]) (o := ldA μ x1 v3) rfl hx2 ?_
    refine xr_go 1 (pc' := 29) (lo' := [some (.ref v0), some (.int v1), some (.int v2), some (.int v3), none]) (st' := [.ref v0, .int x2, .ref v0]) (μ' := μ) rfl ?_
    obtain ⟨x3, hx3, h⟩ := Option.bind_eq_some_iff.mp h
    refine xr_opA (pc' := 32) (lo' := [some (.ref v0), some (.int v1), some (.int v2), some (.int v3), none]) (st' := [.int x2, .ref v0]) (o := ldFR μ v0 9 4) rfl hx3 ?_
    refine xr_go 3 (pc' := 35) (lo' := [some (.ref v0), some (.int v1), some (.int v2), some (.int v3), none]) (st' := [.int (v3 + (xc 1)), .ref x3, .int x2, .ref v0]) (μ' := μ) rfl ?_
    obtain ⟨x4, hx4, h⟩ := Option.bind_eq_some_iff.mp h
    refine xr_opI (pc' := 36) (lo' := [some (.ref v0), some (.int v1), some (.int v2), some (.int v3), none]) (st' := [.int x2, .ref v0]) (o := ldA μ x3 (v3 + (xc 1))) rfl hx4 ?_
    refine xr_go 1 (pc' := 37) (lo' := [some (.ref v0), some (.int v1), some (.int v2), some (.int v3), none]) (st' := [.ref v0, .int x4, .int x2, .ref v0]) (μ' := μ) rfl ?_
    obtain ⟨x5, hx5, h⟩ := Option.bind_eq_some_iff.mp h
    refine xr_opA (pc' := 40) (lo' := [some (.ref v0), some (.int v1), some (.int v2), some (.int v3), none]) (st' := [.int x4, .int x2, .ref v0]) (o := ldFR μ v0 9 4) rfl hx5 ?_
    refine xr_go 3 (pc' := 43) (lo' := [some (.ref v0), some (.int v1), some (.int v2), some (.int v3), none]) (st' := [.int (v3 + (xc 2)), .ref x5, .int x4, .int x2, .ref v0]) (μ' := μ) rfl ?_
    obtain ⟨x6, hx6, h⟩ := Option.bind_eq_some_iff.mp h
    refine xr_opI (pc' := 44) (lo' := [some (.ref v0), some (.int v1), some (.int v2), some (.int v3), none]) (st' := [.int x4, .int x2, .ref v0]) (o := ldA μ x5 (v3 + (xc 2))) rfl hx6 ?_
    obtain ⟨r7, hr7, h⟩ := Option.bind_eq_some_iff.mp h
    refine xr_callV (j := 143) (d' := (d + 1)) (rv1 := some (.int r7)) (μ1 := μ) (rest := []) (As := [.int x2, .int x4, .int x6]) rfl rfl rfl rfl (Nat.le_of_ble_eq_true rfl) (fM_wrongRow_kd hr7) rfl (by exact (fM_wrongRow_ok (d := d + (0)) hr7)) ?_
    refine xr_ifc (pct := 54) rfl rfl rfl (fun hc => ?_) (fun hc => ?_)
    · replace h := (if_pos (of_decide_eq_true hc)).symm.trans h
      refine xr_go 2 (pc' := 56) (lo' := [some (.ref v0), some (.int v1), some (.int v2), some (.int v3), none]) (st' := [.ref v0, .ref v0]) (μ' := μ) rfl ?_
      obtain ⟨x8, hx8, h⟩ := Option.bind_eq_some_iff.mp h
      refine xr_opA (pc' := 59) (lo' := [some (.ref v0), some (.int v1), some (.int v2), some (.int v3), none]) (st' := [.ref v0]) (o := ldFR μ v0 9 4) rfl hx8 ?_
      refine xr_go 1 (pc' := 60) (lo' := [some (.ref v0), some (.int v1), some (.int v2), some (.int v3), none]) (st' := [.int v3, .ref x8, .ref v0]) (μ' := μ) rfl ?_
      obtain ⟨x9, hx9, h⟩ := Option.bind_eq_some_iff.mp h
      refine xr_opI (pc' := 61) (lo' := [some (.ref v0), some (.int v1), some (.int v2), some (.int v3), none]) (st' := [.ref v0]) (o := ldA μ x8 v3) rfl hx9 ?_
      refine xr_go 1 (pc' := 62) (lo' := [some (.ref v0), some (.int v1), some (.int v2), some (.int v3), none]) (st' := [.ref v0, .int x9, .ref v0]) (μ' := μ) rfl ?_
      obtain ⟨x10, hx10, h⟩ := Option.bind_eq_some_iff.mp h
      refine xr_opA (pc' := 65) (lo' := [some (.ref v0), some (.int v1), some (.int v2), some (.int v3), none]) (st' := [.int x9, .ref v0]) (o := ldFR μ v0 9 4) rfl hx10 ?_
      refine xr_go 3 (pc' := 68) (lo' := [some (.ref v0), some (.int v1), some (.int v2), some (.int v3), none]) (st' := [.int (v3 + (xc 1)), .ref x10, .int x9, .ref v0]) (μ' := μ) rfl ?_
      obtain ⟨x11, hx11, h⟩ := Option.bind_eq_some_iff.mp h
      refine xr_opI (pc' := 69) (lo' := [some (.ref v0), some (.int v1), some (.int v2), some (.int v3), none]) (st' := [.int x9, .ref v0]) (o := ldA μ x10 (v3 + (xc 1))) rfl hx11 ?_
      refine xr_go 1 (pc' := 70) (lo' := [some (.ref v0), some (.int v1), some (.int v2), some (.int v3), none]) (st' := [.ref v0, .int x11, .int x9, .ref v0]) (μ' := μ) rfl ?_
      obtain ⟨x12, hx12, h⟩ := Option.bind_eq_some_iff.mp h
      refine xr_opA (pc' := 73) (lo' := [some (.ref v0), some (.int v1), some (.int v2), some (.int v3), none]) (st' := [.int x11, .int x9, .ref v0]) (o := ldFR μ v0 9 4) rfl hx12 ?_
      refine xr_go 3 (pc' := 76) (lo' := [some (.ref v0), some (.int v1), some (.int v2), some (.int v3), none]) (st' := [.int (v3 + (xc 2)), .ref x12, .int x11, .int x9, .ref v0]) (μ' := μ) rfl ?_
      obtain ⟨x13, hx13, h⟩ := Option.bind_eq_some_iff.mp h
      refine xr_opI (pc' := 77) (lo' := [some (.ref v0), some (.int v1), some (.int v2), some (.int v3), none]) (st' := [.int x11, .int x9, .ref v0]) (o := ldA μ x12 (v3 + (xc 2))) rfl hx13 ?_
      obtain ⟨r14, hr14, h⟩ := Option.bind_eq_some_iff.mp h
      refine xr_callV (j := 145) (d' := (d + 1)) (rv1 := some (.int r14.1)) (μ1 := r14.2) (rest := []) (As := [.int x9, .int x11, .int x13]) rfl rfl rfl rfl (Nat.le_of_ble_eq_true rfl) (fM_bring_kd hr14) rfl (by exact (fM_bring_ok (d := d + (0)) hr14)) ?_
      refine xr_forget (lo := [some (.ref v0), some (.int v1), some (.int v2), some (.int v3), none]) ⟨rfl, rfl, rfl, rfl, trivial⟩ ?_
      exact fM_read_80_ok h hK
    · replace h := (if_neg (of_decide_eq_false hc)).symm.trans h
      refine xr_go 2 (pc' := 80) (lo' := [some (.ref v0), some (.int v1), some (.int v2), some (.int v3), none]) (st' := [.int (xc (-1))]) (μ' := μ) rfl ?_
      refine xr_forget (lo := [some (.ref v0), some (.int v1), some (.int v2), some (.int v3), none]) ⟨rfl, rfl, rfl, rfl, trivial⟩ ?_
      exact fM_read_80_ok h hK
theorem fM_read_L14_lp {d : Nat} {v0 : Nat} {v1 : Int32} {v2 : Int32} {v3 : Int32} {μ : xM} {rv : Option Value} {μf : xM} {out : Int32 × xM} (h : xwh (fun s : Int32 × Int32 × xM => fM_read_L14 v0 v1 s.1 s.2.1 s.2.2) (v2, v3, μ) = some out) (hK : fM_read_K rv μf out) : xRun (d + 2) 152 14 [some (.ref v0), some (.int v1), some (.int v2), some (.int v3), none] [] μ rv μf :=
  xwh_ind (Rh := fun s : Int32 × Int32 × xM => xRun (d + 2) 152 14 [some (.ref v0), some (.int v1), some (.int s.1), some (.int s.2.1), none] [] s.2.2 rv μf) (Co := fM_read_K rv μf) (fun s o hb hk => fM_read_L14_ok hb hk) h hK
noncomputable def fM_read_0  (v0 : Nat) (μ : xM) : Option (Int32 × xM) := (ldF μ v0 9 5).bind fun x15 => (stF μ v0 9 5 (xc 0)).bind fun μ16 => xwh (fun s : Int32 × Int32 × xM => fM_read_L14 v0 x15 s.1 s.2.1 s.2.2) (xc 0, xc 0, μ16)
theorem fM_read_0_ok {d : Nat} {v0 : Nat} {μ : xM} {rv : Option Value} {μf : xM} {out : Int32 × xM} (h : fM_read_0 v0 μ = some out) (hK : fM_read_K rv μf out) : xRun (d + 2) 152 0 [some (.ref v0), none, none, none, none] [] μ rv μf := by
  unfold fM_read_0 at h
  refine xr_go 1 (pc' := 1) (lo' := [some (.ref v0), none, none, none, none]) (st' := [.ref v0]) (μ' := μ) rfl ?_
  obtain ⟨x15, hx15, h⟩ := Option.bind_eq_some_iff.mp h
  refine xr_opI (pc' := 4) (lo' := [some (.ref v0), none, none, none, none]) (st' := []) (o := ldF μ v0 9 5) rfl hx15 ?_
  refine xr_go 3 (pc' := 7) (lo' := [some (.ref v0), some (.int x15), none, none, none]) (st' := [.int (xc 0), .ref v0]) (μ' := μ) rfl ?_
  obtain ⟨μ16, hμ16, h⟩ := Option.bind_eq_some_iff.mp h
  refine xr_opM (pc' := 10) (lo' := [some (.ref v0), some (.int x15), none, none, none]) (st' := []) (o := stF μ v0 9 5 (xc 0)) rfl hμ16 ?_
  refine xr_go 4 (pc' := 14) (lo' := [some (.ref v0), some (.int x15), some (.int (xc 0)), some (.int (xc 0)), none]) (st' := []) (μ' := μ16) rfl ?_
  refine xr_forget (lo := [some (.ref v0), some (.int x15), some (.int (xc 0)), some (.int (xc 0)), none]) ⟨rfl, rfl, rfl, rfl, trivial⟩ ?_
  exact fM_read_L14_lp h hK
noncomputable def fM_read (a0 : Nat) (μ : xM) : Option (Int32 × xM) := xgd μ a0 9 (fM_read_0 a0 μ)
theorem fM_read_kd {a0 : Nat} {μ : xM} {o : Int32 × xM} (h : fM_read a0 μ = some o) : (xK μ a0).1 = 10 + 9 := (xgd_some h).1
theorem fM_read_ok {d : Nat} {a0 : Nat} {μ : xM} {o : Int32 × xM} (h : fM_read a0 μ = some o) : xRun (d + 2) 152 0 [some (.ref a0), none, none, none, none] [] μ (some (.int o.1)) o.2 :=
  xr_forget (lo := [some (.ref a0), none, none, none, none]) (⟨rfl, trivial⟩) (fM_read_0_ok (d := d) (xgd_some h).2 (show fM_read_K _ _ o from ⟨rfl, rfl⟩))
-- KeptAnswers$Text.hasRoom(I)Z 
def fT_hasRoom_K (μ : xM) (rv : Option Value) (μf : xM) : (Int32) → Prop := fun o => rv = some (.int o) ∧ μf = μ
noncomputable def fT_hasRoom_0  (v0 : Nat) (v1 : Int32) (μ : xM) : Option (Int32) := (ldF μ v0 7 1).bind fun x1 => if (xc 24) < (x1 + v1) then (some (xc 0)) else (some (xc 1))
theorem fT_hasRoom_0_ok {d : Nat} {v0 : Nat} {v1 : Int32} {μ : xM} {rv : Option Value} {μf : xM} {out : Int32} (h : fT_hasRoom_0 v0 v1 μ = some out) (hK : fT_hasRoom_K μ rv μf out) : xRun (d + 0) 116 0 [some (.ref v0), some (.int v1)] [] μ rv μf := by
  unfold fT_hasRoom_0 at h
  refine xr_go 1 (pc' := 1) (lo' := [some (.ref v0), some (.int v1)]) (st' := [.ref v0]) (μ' := μ) rfl ?_
  obtain ⟨x1, hx1, h⟩ := Option.bind_eq_some_iff.mp h
  refine xr_opI (pc' := 4) (lo' := [some (.ref v0), some (.int v1)]) (st' := []) (o := ldF μ v0 7 1) rfl hx1 ?_
  refine xr_go 3 (pc' := 8) (lo' := [some (.ref v0), some (.int v1)]) (st' := [.int (xc 24), .int (x1 + v1)]) (μ' := μ) rfl ?_
  refine xr_icmp (pct := 15) rfl rfl rfl (fun hc => ?_) (fun hc => ?_)
  · replace h := (if_pos (of_decide_eq_true hc)).symm.trans h
    refine xr_go 1 (pc' := 16) (lo' := [some (.ref v0), some (.int v1)]) (st' := [.int (xc 0)]) (μ' := μ) rfl ?_
    have ho := Option.some.inj h
    subst ho
    obtain ⟨rfl, rfl⟩ := hK
    exact xr_ret (rv := some (.int (xc 0))) rfl rfl (Or.inr ⟨rfl, Or.inl rfl⟩)
  · replace h := (if_neg (of_decide_eq_false hc)).symm.trans h
    refine xr_go 2 (pc' := 16) (lo' := [some (.ref v0), some (.int v1)]) (st' := [.int (xc 1)]) (μ' := μ) rfl ?_
    have ho := Option.some.inj h
    subst ho
    obtain ⟨rfl, rfl⟩ := hK
    exact xr_ret (rv := some (.int (xc 1))) rfl rfl (Or.inr ⟨rfl, Or.inr rfl⟩)
noncomputable def fT_hasRoom (a0 : Nat) (a1 : Int32) (μ : xM) : Option (Int32) := xgd μ a0 7 (fT_hasRoom_0 a0 a1 μ)
theorem fT_hasRoom_kd {a0 : Nat} {a1 : Int32} {μ : xM} {o : Int32} (h : fT_hasRoom a0 a1 μ = some o) : (xK μ a0).1 = 10 + 7 := (xgd_some h).1
theorem fT_hasRoom_ok {d : Nat} {a0 : Nat} {a1 : Int32} {μ : xM} {o : Int32} (h : fT_hasRoom a0 a1 μ = some o) : xRun (d + 0) 116 0 [some (.ref a0), some (.int a1)] [] μ (some (.int o)) μ :=
  xr_forget (lo := [some (.ref a0), some (.int a1)]) (⟨rfl, rfl, trivial⟩) (fT_hasRoom_0_ok (d := d) (xgd_some h).2 (show fT_hasRoom_K μ _ _ o from ⟨rfl, rfl⟩))
-- KeptAnswers$Text.append(IJ)V 
def fT_append_K (rv : Option Value) (μf : xM) : (xM) → Prop := fun o => rv = none ∧ μf = o
def fT_append_K3 (v0 : Nat) (v1 : Int32) (v2 : Int64) (d : Nat) (rv : Option Value) (μf : xM) : ((Int32 × xM) ⊕ (xM)) → Prop := Sum.elim (fun s : Int32 × xM => xRun (d + 0) 117 3 [some (.ref v0), some (.int v1), some (.long v2), none, some (.int s.1)] [] s.2 rv μf) (fT_append_K rv μf)
noncomputable def fT_append_L3  (v0 : Nat) (v1 : Int32) (v2 : Int64) (v4 : Int32) (μ : xM) : Option ((Int32 × xM) ⊕ (xM)) := if v1 ≤ v4 then (some (.inr μ)) else ((ldF μ v0 7 1).bind fun x1 => if (xc 24) ≤ x1 then (some (.inr μ)) else ((ldFR μ v0 7 0).bind fun x2 => (ldF μ v0 7 1).bind fun x3 => (stA μ x2 x3 ((Int64.toInt32 (v2 >>> (Int32.toInt64 ((xc 8) * v4) &&& 63))) &&& (xc 255))).bind fun μ4 => (ldF μ4 v0 7 1).bind fun x5 => (stF μ4 v0 7 1 (x5 + (xc 1))).bind fun μ6 => some (.inl ((v4 + xc 1, μ6)))))
theorem fT_append_L3_ok {d : Nat} {v0 : Nat} {v1 : Int32} {v2 : Int64} {v4 : Int32} {μ : xM} {rv : Option Value} {μf : xM} {out : (Int32 × xM) ⊕ (xM)} (h : fT_append_L3 v0 v1 v2 v4 μ = some out) (hK : fT_append_K3 v0 v1 v2 d rv μf out) : xRun (d + 0) 117 3 [some (.ref v0), some (.int v1), some (.long v2), none, some (.int v4)] [] μ rv μf := by
  unfold fT_append_L3 at h
  refine xr_go 2 (pc' := 6) (lo' := [some (.ref v0), some (.int v1), some (.long v2), none, some (.int v4)]) (st' := [.int v1, .int v4]) (μ' := μ) rfl ?_
  refine xr_icmp (pct := 55) rfl rfl rfl (fun hc => ?_) (fun hc => ?_)
  · replace h := (if_pos (of_decide_eq_true hc)).symm.trans h
    have ho := Option.some.inj h
    subst ho
    obtain ⟨rfl, rfl⟩ := hK
    exact xr_ret (rv := none) rfl rfl (rfl)
  · replace h := (if_neg (of_decide_eq_false hc)).symm.trans h
    refine xr_go 1 (pc' := 10) (lo' := [some (.ref v0), some (.int v1), some (.long v2), none, some (.int v4)]) (st' := [.ref v0]) (μ' := μ) rfl ?_
    obtain ⟨x1, hx1, h⟩ := Option.bind_eq_some_iff.mp h
    refine xr_opI (pc' := 13) (lo' := [some (.ref v0), some (.int v1), some (.long v2), none, some (.int v4)]) (st' := []) (o := ldF μ v0 7 1) rfl hx1 ?_
    refine xr_go 1 (pc' := 15) (lo' := [some (.ref v0), some (.int v1), some (.long v2), none, some (.int v4)]) (st' := [.int (xc 24), .int x1]) (μ' := μ) rfl ?_
    refine xr_icmp (pct := 55) rfl rfl rfl (fun hc => ?_) (fun hc => ?_)
    · replace h := (if_pos (of_decide_eq_true hc)).symm.trans h
      have ho := Option.some.inj h
      subst ho
      obtain ⟨rfl, rfl⟩ := hK
      exact xr_ret (rv := none) rfl rfl (rfl)
    · replace h := (if_neg (of_decide_eq_false hc)).symm.trans h
      refine xr_go 1 (pc' := 19) (lo' := [some (.ref v0), some (.int v1), some (.long v2), none, some (.int v4)]) (st' := [.ref v0]) (μ' := μ) rfl ?_
      obtain ⟨x2, hx2, h⟩ := Option.bind_eq_some_iff.mp h
      refine xr_opA (pc' := 22) (lo' := [some (.ref v0), some (.int v1), some (.long v2), none, some (.int v4)]) (st' := []) (o := ldFR μ v0 7 0) rfl hx2 ?_
      refine xr_go 1 (pc' := 23) (lo' := [some (.ref v0), some (.int v1), some (.long v2), none, some (.int v4)]) (st' := [.ref v0, .ref x2]) (μ' := μ) rfl ?_
      obtain ⟨x3, hx3, h⟩ := Option.bind_eq_some_iff.mp h
      refine xr_opI (pc' := 26) (lo' := [some (.ref v0), some (.int v1), some (.long v2), none, some (.int v4)]) (st' := [.ref x2]) (o := ldF μ v0 7 1) rfl hx3 ?_
      refine xr_go 8 (pc' := 38) (lo' := [some (.ref v0), some (.int v1), some (.long v2), none, some (.int v4)]) (st' := [.int ((Int64.toInt32 (v2 >>> (Int32.toInt64 ((xc 8) * v4) &&& 63))) &&& (xc 255)), .int x3, .ref x2]) (μ' := μ) rfl ?_
      obtain ⟨μ4, hμ4, h⟩ := Option.bind_eq_some_iff.mp h
      refine xr_opM (pc' := 39) (lo' := [some (.ref v0), some (.int v1), some (.long v2), none, some (.int v4)]) (st' := []) (o := stA μ x2 x3 ((Int64.toInt32 (v2 >>> (Int32.toInt64 ((xc 8) * v4) &&& 63))) &&& (xc 255))) rfl hμ4 ?_
      refine xr_go 2 (pc' := 41) (lo' := [some (.ref v0), some (.int v1), some (.long v2), none, some (.int v4)]) (st' := [.ref v0, .ref v0]) (μ' := μ4) rfl ?_
      obtain ⟨x5, hx5, h⟩ := Option.bind_eq_some_iff.mp h
      refine xr_opI (pc' := 44) (lo' := [some (.ref v0), some (.int v1), some (.long v2), none, some (.int v4)]) (st' := [.ref v0]) (o := ldF μ4 v0 7 1) rfl hx5 ?_
      refine xr_go 2 (pc' := 46) (lo' := [some (.ref v0), some (.int v1), some (.long v2), none, some (.int v4)]) (st' := [.int (x5 + (xc 1)), .ref v0]) (μ' := μ4) rfl ?_
      obtain ⟨μ6, hμ6, h⟩ := Option.bind_eq_some_iff.mp h
      refine xr_opM (pc' := 49) (lo' := [some (.ref v0), some (.int v1), some (.long v2), none, some (.int v4)]) (st' := []) (o := stF μ4 v0 7 1 (x5 + (xc 1))) rfl hμ6 ?_
      refine xr_go 2 (pc' := 3) (lo' := [some (.ref v0), some (.int v1), some (.long v2), none, some (.int (v4 + xc 1))]) (st' := []) (μ' := μ6) rfl ?_
      refine xr_forget (lo := [some (.ref v0), some (.int v1), some (.long v2), none, some (.int (v4 + xc 1))]) ⟨rfl, rfl, rfl, rfl, trivial⟩ ?_
      have ho := Option.some.inj h
      subst ho
      exact hK
theorem fT_append_L3_lp {d : Nat} {v0 : Nat} {v1 : Int32} {v2 : Int64} {v4 : Int32} {μ : xM} {rv : Option Value} {μf : xM} {out : xM} (h : xwh (fun s : Int32 × xM => fT_append_L3 v0 v1 v2 s.1 s.2) (v4, μ) = some out) (hK : fT_append_K rv μf out) : xRun (d + 0) 117 3 [some (.ref v0), some (.int v1), some (.long v2), none, some (.int v4)] [] μ rv μf :=
  xwh_ind (Rh := fun s : Int32 × xM => xRun (d + 0) 117 3 [some (.ref v0), some (.int v1), some (.long v2), none, some (.int s.1)] [] s.2 rv μf) (Co := fT_append_K rv μf) (fun s o hb hk => fT_append_L3_ok hb hk) h hK
noncomputable def fT_append_0  (v0 : Nat) (v1 : Int32) (v2 : Int64) (μ : xM) : Option (xM) := xwh (fun s : Int32 × xM => fT_append_L3 v0 v1 v2 s.1 s.2) (xc 0, μ)
theorem fT_append_0_ok {d : Nat} {v0 : Nat} {v1 : Int32} {v2 : Int64} {μ : xM} {rv : Option Value} {μf : xM} {out : xM} (h : fT_append_0 v0 v1 v2 μ = some out) (hK : fT_append_K rv μf out) : xRun (d + 0) 117 0 [some (.ref v0), some (.int v1), some (.long v2), none, none] [] μ rv μf := by
  unfold fT_append_0 at h
  refine xr_go 2 (pc' := 3) (lo' := [some (.ref v0), some (.int v1), some (.long v2), none, some (.int (xc 0))]) (st' := []) (μ' := μ) rfl ?_
  refine xr_forget (lo := [some (.ref v0), some (.int v1), some (.long v2), none, some (.int (xc 0))]) ⟨rfl, rfl, rfl, rfl, trivial⟩ ?_
  exact fT_append_L3_lp h hK
noncomputable def fT_append (a0 : Nat) (a1 : Int32) (a2 : Int64) (μ : xM) : Option (xM) := xgd μ a0 7 (fT_append_0 a0 a1 a2 μ)
theorem fT_append_kd {a0 : Nat} {a1 : Int32} {a2 : Int64} {μ : xM} {o : xM} (h : fT_append a0 a1 a2 μ = some o) : (xK μ a0).1 = 10 + 7 := (xgd_some h).1
theorem fT_append_ok {d : Nat} {a0 : Nat} {a1 : Int32} {a2 : Int64} {μ : xM} {o : xM} (h : fT_append a0 a1 a2 μ = some o) : xRun (d + 0) 117 0 [some (.ref a0), some (.int a1), some (.long a2), none, none] [] μ none o :=
  xr_forget (lo := [some (.ref a0), some (.int a1), some (.long a2), none, none]) (⟨rfl, rfl, rfl, trivial⟩) (fT_append_0_ok (d := d) (xgd_some h).2 (show fT_append_K _ _ o from ⟨rfl, rfl⟩))
-- KeptAnswers.feed(IJ)I 
def fX_feed_K (rv : Option Value) (μf : xM) : (Int32 × xM) → Prop := fun o => rv = some (.int o.1) ∧ μf = o.2
noncomputable def fX_feed_29  (v0 : Nat) (μ : xM) : Option (Int32 × xM) := (fX_refuse v0 (xc (-6)) μ).bind fun r1 => some ((r1.1, r1.2))
theorem fX_feed_29_ok {d : Nat} {v0 : Nat} {μ : xM} {rv : Option Value} {μf : xM} {out : Int32 × xM} (h : fX_feed_29 v0 μ = some out) (hK : fX_feed_K rv μf out) : xRun (d + 1) 8 29 [some (.ref v0), none, none, none] [] μ rv μf := by
  unfold fX_feed_29 at h
  refine xr_go 2 (pc' := 32) (lo' := [some (.ref v0), none, none, none]) (st' := [.int (xc (-6)), .ref v0]) (μ' := μ) rfl ?_
  obtain ⟨r1, hr1, h⟩ := Option.bind_eq_some_iff.mp h
  refine xr_callV (j := 37) (d' := (d + 0)) (rv1 := some (.int r1.1)) (μ1 := r1.2) (rest := []) (As := [.int (xc (-6))]) rfl rfl rfl rfl (Nat.le_of_ble_eq_true rfl) (fX_refuse_kd hr1) rfl (by exact (fX_refuse_ok (d := d + (0)) hr1)) ?_
  have ho := Option.some.inj h
  subst ho
  obtain ⟨rfl, rfl⟩ := hK
  exact xr_ret (rv := some (.int r1.1)) rfl rfl (Or.inl rfl)
noncomputable def fX_feed_0  (v0 : Nat) (v1 : Int32) (v2 : Int64) (μ : xM) : Option (Int32 × xM) := if (xc 1) ≤ v1 then (if (xc 8) < v1 then (fX_feed_29 v0 μ) else ((ldFR μ v0 0 3).bind fun x2 => (fT_hasRoom x2 v1 μ).bind fun r3 => if r3 = 0 then (fX_feed_29 v0 μ) else ((ldFR μ v0 0 3).bind fun x4 => (fT_append x4 v1 v2 μ).bind fun r5 => (ldFR r5 v0 0 3).bind fun x6 => (ldF r5 x6 7 1).bind fun x7 => some ((x7, r5))))) else ((fX_refuse v0 (xc (-4)) μ).bind fun r8 => some ((r8.1, r8.2)))
theorem fX_feed_0_ok {d : Nat} {v0 : Nat} {v1 : Int32} {v2 : Int64} {μ : xM} {rv : Option Value} {μf : xM} {out : Int32 × xM} (h : fX_feed_0 v0 v1 v2 μ = some out) (hK : fX_feed_K rv μf out) : xRun (d + 1) 8 0 [some (.ref v0), some (.int v1), some (.long v2), none] [] μ rv μf := by
  unfold fX_feed_0 at h
  refine xr_go 2 (pc' := 2) (lo' := [some (.ref v0), some (.int v1), some (.long v2), none]) (st' := [.int (xc 1), .int v1]) (μ' := μ) rfl ?_
  refine xr_icmp (pct := 12) rfl rfl rfl (fun hc => ?_) (fun hc => ?_)
  · replace h := (if_pos (of_decide_eq_true hc)).symm.trans h
    refine xr_go 2 (pc' := 15) (lo' := [some (.ref v0), some (.int v1), some (.long v2), none]) (st' := [.int (xc 8), .int v1]) (μ' := μ) rfl ?_
    refine xr_icmp (pct := 29) rfl rfl rfl (fun hc => ?_) (fun hc => ?_)
    · replace h := (if_pos (of_decide_eq_true hc)).symm.trans h
      refine xr_forget (lo := [some (.ref v0), none, none, none]) ⟨rfl, trivial⟩ ?_
      exact fX_feed_29_ok h hK
    · replace h := (if_neg (of_decide_eq_false hc)).symm.trans h
      refine xr_go 1 (pc' := 19) (lo' := [some (.ref v0), some (.int v1), some (.long v2), none]) (st' := [.ref v0]) (μ' := μ) rfl ?_
      obtain ⟨x2, hx2, h⟩ := Option.bind_eq_some_iff.mp h
      refine xr_opA (pc' := 22) (lo' := [some (.ref v0), some (.int v1), some (.long v2), none]) (st' := []) (o := ldFR μ v0 0 3) rfl hx2 ?_
      refine xr_go 1 (pc' := 23) (lo' := [some (.ref v0), some (.int v1), some (.long v2), none]) (st' := [.int v1, .ref x2]) (μ' := μ) rfl ?_
      obtain ⟨r3, hr3, h⟩ := Option.bind_eq_some_iff.mp h
      refine xr_callV (j := 116) (d' := (d + 0)) (rv1 := some (.int r3)) (μ1 := μ) (rest := []) (As := [.int v1]) rfl rfl rfl rfl (Nat.le_of_ble_eq_true rfl) (fT_hasRoom_kd hr3) rfl (by exact (fT_hasRoom_ok (d := d + (0)) hr3)) ?_
      refine xr_ifc (pct := 36) rfl rfl rfl (fun hc => ?_) (fun hc => ?_)
      · replace h := (if_neg (of_decide_eq_true hc)).symm.trans h
        refine xr_go 1 (pc' := 37) (lo' := [some (.ref v0), some (.int v1), some (.long v2), none]) (st' := [.ref v0]) (μ' := μ) rfl ?_
        obtain ⟨x4, hx4, h⟩ := Option.bind_eq_some_iff.mp h
        refine xr_opA (pc' := 40) (lo' := [some (.ref v0), some (.int v1), some (.long v2), none]) (st' := []) (o := ldFR μ v0 0 3) rfl hx4 ?_
        refine xr_go 2 (pc' := 42) (lo' := [some (.ref v0), some (.int v1), some (.long v2), none]) (st' := [.long v2, .int v1, .ref x4]) (μ' := μ) rfl ?_
        obtain ⟨r5, hr5, h⟩ := Option.bind_eq_some_iff.mp h
        refine xr_callV (j := 117) (d' := (d + 0)) (rv1 := none) (μ1 := r5) (rest := []) (As := [.int v1, .long v2]) rfl rfl rfl rfl (Nat.le_of_ble_eq_true rfl) (fT_append_kd hr5) rfl (by exact (fT_append_ok (d := d + (0)) hr5)) ?_
        refine xr_go 1 (pc' := 46) (lo' := [some (.ref v0), some (.int v1), some (.long v2), none]) (st' := [.ref v0]) (μ' := r5) rfl ?_
        obtain ⟨x6, hx6, h⟩ := Option.bind_eq_some_iff.mp h
        refine xr_opA (pc' := 49) (lo' := [some (.ref v0), some (.int v1), some (.long v2), none]) (st' := []) (o := ldFR r5 v0 0 3) rfl hx6 ?_
        obtain ⟨x7, hx7, h⟩ := Option.bind_eq_some_iff.mp h
        refine xr_opI (pc' := 52) (lo' := [some (.ref v0), some (.int v1), some (.long v2), none]) (st' := []) (o := ldF r5 x6 7 1) rfl hx7 ?_
        have ho := Option.some.inj h
        subst ho
        obtain ⟨rfl, rfl⟩ := hK
        exact xr_ret (rv := some (.int x7)) rfl rfl (Or.inl rfl)
      · replace h := (if_pos (Decidable.of_not_not (of_decide_eq_false hc))).symm.trans h
        refine xr_forget (lo := [some (.ref v0), none, none, none]) ⟨rfl, trivial⟩ ?_
        exact fX_feed_29_ok h hK
  · replace h := (if_neg (of_decide_eq_false hc)).symm.trans h
    refine xr_go 2 (pc' := 8) (lo' := [some (.ref v0), some (.int v1), some (.long v2), none]) (st' := [.int (xc (-4)), .ref v0]) (μ' := μ) rfl ?_
    obtain ⟨r8, hr8, h⟩ := Option.bind_eq_some_iff.mp h
    refine xr_callV (j := 37) (d' := (d + 0)) (rv1 := some (.int r8.1)) (μ1 := r8.2) (rest := []) (As := [.int (xc (-4))]) rfl rfl rfl rfl (Nat.le_of_ble_eq_true rfl) (fX_refuse_kd hr8) rfl (by exact (fX_refuse_ok (d := d + (0)) hr8)) ?_
    have ho := Option.some.inj h
    subst ho
    obtain ⟨rfl, rfl⟩ := hK
    exact xr_ret (rv := some (.int r8.1)) rfl rfl (Or.inl rfl)
noncomputable def fX_feed (a0 : Nat) (a1 : Int32) (a2 : Int64) (μ : xM) : Option (Int32 × xM) := xgd μ a0 0 (fX_feed_0 a0 a1 a2 μ)
theorem fX_feed_kd {a0 : Nat} {a1 : Int32} {a2 : Int64} {μ : xM} {o : Int32 × xM} (h : fX_feed a0 a1 a2 μ = some o) : (xK μ a0).1 = 10 + 0 := (xgd_some h).1
theorem fX_feed_ok {d : Nat} {a0 : Nat} {a1 : Int32} {a2 : Int64} {μ : xM} {o : Int32 × xM} (h : fX_feed a0 a1 a2 μ = some o) : xRun (d + 1) 8 0 [some (.ref a0), some (.int a1), some (.long a2), none] [] μ (some (.int o.1)) o.2 :=
  xr_forget (lo := [some (.ref a0), some (.int a1), some (.long a2), none]) (⟨rfl, rfl, rfl, trivial⟩) (fX_feed_0_ok (d := d) (xgd_some h).2 (show fX_feed_K _ _ o from ⟨rfl, rfl⟩))
-- KeptAnswersModel.feed(IJ)I 
def fM_feed_K (rv : Option Value) (μf : xM) : (Int32 × xM) → Prop := fun o => rv = some (.int o.1) ∧ μf = o.2
def fM_feed_K39 (v0 : Nat) (v1 : Int32) (v2 : Int64) (d : Nat) (rv : Option Value) (μf : xM) : ((Int32 × xM) ⊕ (Int32 × xM)) → Prop := Sum.elim (fun s : Int32 × xM => xRun (d + 1) 153 39 [some (.ref v0), some (.int v1), some (.long v2), none, some (.int s.1)] [] s.2 rv μf) (fM_feed_K rv μf)
noncomputable def fM_feed_82  (v0 : Nat) (μ : xM) : Option (Int32 × xM) := (ldF μ v0 9 7).bind fun x1 => some ((x1, μ))
theorem fM_feed_82_ok {d : Nat} {v0 : Nat} {μ : xM} {rv : Option Value} {μf : xM} {out : Int32 × xM} (h : fM_feed_82 v0 μ = some out) (hK : fM_feed_K rv μf out) : xRun (d + 1) 153 82 [some (.ref v0), none, none, none, none] [] μ rv μf := by
  unfold fM_feed_82 at h
  refine xr_go 1 (pc' := 83) (lo' := [some (.ref v0), none, none, none, none]) (st' := [.ref v0]) (μ' := μ) rfl ?_
  obtain ⟨x1, hx1, h⟩ := Option.bind_eq_some_iff.mp h
  refine xr_opI (pc' := 86) (lo' := [some (.ref v0), none, none, none, none]) (st' := []) (o := ldF μ v0 9 7) rfl hx1 ?_
  have ho := Option.some.inj h
  subst ho
  obtain ⟨rfl, rfl⟩ := hK
  exact xr_ret (rv := some (.int x1)) rfl rfl (Or.inl rfl)
noncomputable def fM_feed_L39  (v0 : Nat) (v1 : Int32) (v2 : Int64) (v4 : Int32) (μ : xM) : Option ((Int32 × xM) ⊕ (Int32 × xM)) := if v1 ≤ v4 then ((fM_feed_82 v0 μ).map (fun o => .inr o)) else ((ldFR μ v0 9 6).bind fun x2 => (ldF μ v0 9 7).bind fun x3 => (stA μ x2 x3 (Int64.toInt32 ((v2 >>> (Int32.toInt64 ((xc 8) * v4) &&& 63)) &&& (Int64.ofNat 255)))).bind fun μ4 => (ldF μ4 v0 9 7).bind fun x5 => (stF μ4 v0 9 7 (x5 + (xc 1))).bind fun μ6 => some (.inl ((v4 + xc 1, μ6))))
theorem fM_feed_L39_ok {d : Nat} {v0 : Nat} {v1 : Int32} {v2 : Int64} {v4 : Int32} {μ : xM} {rv : Option Value} {μf : xM} {out : (Int32 × xM) ⊕ (Int32 × xM)} (h : fM_feed_L39 v0 v1 v2 v4 μ = some out) (hK : fM_feed_K39 v0 v1 v2 d rv μf out) : xRun (d + 1) 153 39 [some (.ref v0), some (.int v1), some (.long v2), none, some (.int v4)] [] μ rv μf := by
  unfold fM_feed_L39 at h
  refine xr_go 2 (pc' := 42) (lo' := [some (.ref v0), some (.int v1), some (.long v2), none, some (.int v4)]) (st' := [.int v1, .int v4]) (μ' := μ) rfl ?_
  refine xr_icmp (pct := 82) rfl rfl rfl (fun hc => ?_) (fun hc => ?_)
  · replace h := (if_pos (of_decide_eq_true hc)).symm.trans h
    refine xr_forget (lo := [some (.ref v0), none, none, none, none]) ⟨rfl, trivial⟩ ?_
    obtain ⟨o, h2, rfl⟩ := Option.map_eq_some_iff.mp h
    exact fM_feed_82_ok h2 hK
  · replace h := (if_neg (of_decide_eq_false hc)).symm.trans h
    refine xr_go 1 (pc' := 46) (lo' := [some (.ref v0), some (.int v1), some (.long v2), none, some (.int v4)]) (st' := [.ref v0]) (μ' := μ) rfl ?_
    obtain ⟨x2, hx2, h⟩ := Option.bind_eq_some_iff.mp h
    refine xr_opA (pc' := 49) (lo' := [some (.ref v0), some (.int v1), some (.long v2), none, some (.int v4)]) (st' := []) (o := ldFR μ v0 9 6) rfl hx2 ?_
    refine xr_go 1 (pc' := 50) (lo' := [some (.ref v0), some (.int v1), some (.long v2), none, some (.int v4)]) (st' := [.ref v0, .ref x2]) (μ' := μ) rfl ?_
    obtain ⟨x3, hx3, h⟩ := Option.bind_eq_some_iff.mp h
    refine xr_opI (pc' := 53) (lo' := [some (.ref v0), some (.int v1), some (.long v2), none, some (.int v4)]) (st' := [.ref x2]) (o := ldF μ v0 9 7) rfl hx3 ?_
    refine xr_go 8 (pc' := 65) (lo' := [some (.ref v0), some (.int v1), some (.long v2), none, some (.int v4)]) (st' := [.int (Int64.toInt32 ((v2 >>> (Int32.toInt64 ((xc 8) * v4) &&& 63)) &&& (Int64.ofNat 255))), .int x3, .ref x2]) (μ' := μ) rfl ?_
    obtain ⟨μ4, hμ4, h⟩ := Option.bind_eq_some_iff.mp h
    refine xr_opM (pc' := 66) (lo' := [some (.ref v0), some (.int v1), some (.long v2), none, some (.int v4)]) (st' := []) (o := stA μ x2 x3 (Int64.toInt32 ((v2 >>> (Int32.toInt64 ((xc 8) * v4) &&& 63)) &&& (Int64.ofNat 255)))) rfl hμ4 ?_
    refine xr_go 2 (pc' := 68) (lo' := [some (.ref v0), some (.int v1), some (.long v2), none, some (.int v4)]) (st' := [.ref v0, .ref v0]) (μ' := μ4) rfl ?_
    obtain ⟨x5, hx5, h⟩ := Option.bind_eq_some_iff.mp h
    refine xr_opI (pc' := 71) (lo' := [some (.ref v0), some (.int v1), some (.long v2), none, some (.int v4)]) (st' := [.ref v0]) (o := ldF μ4 v0 9 7) rfl hx5 ?_
    refine xr_go 2 (pc' := 73) (lo' := [some (.ref v0), some (.int v1), some (.long v2), none, some (.int v4)]) (st' := [.int (x5 + (xc 1)), .ref v0]) (μ' := μ4) rfl ?_
    obtain ⟨μ6, hμ6, h⟩ := Option.bind_eq_some_iff.mp h
    refine xr_opM (pc' := 76) (lo' := [some (.ref v0), some (.int v1), some (.long v2), none, some (.int v4)]) (st' := []) (o := stF μ4 v0 9 7 (x5 + (xc 1))) rfl hμ6 ?_
    refine xr_go 2 (pc' := 39) (lo' := [some (.ref v0), some (.int v1), some (.long v2), none, some (.int (v4 + xc 1))]) (st' := []) (μ' := μ6) rfl ?_
    refine xr_forget (lo := [some (.ref v0), some (.int v1), some (.long v2), none, some (.int (v4 + xc 1))]) ⟨rfl, rfl, rfl, rfl, trivial⟩ ?_
    have ho := Option.some.inj h
    subst ho
    exact hK
theorem fM_feed_L39_lp {d : Nat} {v0 : Nat} {v1 : Int32} {v2 : Int64} {v4 : Int32} {μ : xM} {rv : Option Value} {μf : xM} {out : Int32 × xM} (h : xwh (fun s : Int32 × xM => fM_feed_L39 v0 v1 v2 s.1 s.2) (v4, μ) = some out) (hK : fM_feed_K rv μf out) : xRun (d + 1) 153 39 [some (.ref v0), some (.int v1), some (.long v2), none, some (.int v4)] [] μ rv μf :=
  xwh_ind (Rh := fun s : Int32 × xM => xRun (d + 1) 153 39 [some (.ref v0), some (.int v1), some (.long v2), none, some (.int s.1)] [] s.2 rv μf) (Co := fM_feed_K rv μf) (fun s o hb hk => fM_feed_L39_ok hb hk) h hK
noncomputable def fM_feed_29  (v0 : Nat) (μ : xM) : Option (Int32 × xM) := (fM_refuse v0 (xc (-6)) μ).bind fun r7 => some ((r7.1, r7.2))
theorem fM_feed_29_ok {d : Nat} {v0 : Nat} {μ : xM} {rv : Option Value} {μf : xM} {out : Int32 × xM} (h : fM_feed_29 v0 μ = some out) (hK : fM_feed_K rv μf out) : xRun (d + 1) 153 29 [some (.ref v0), none, none, none, none] [] μ rv μf := by
  unfold fM_feed_29 at h
  refine xr_go 2 (pc' := 32) (lo' := [some (.ref v0), none, none, none, none]) (st' := [.int (xc (-6)), .ref v0]) (μ' := μ) rfl ?_
  obtain ⟨r7, hr7, h⟩ := Option.bind_eq_some_iff.mp h
  refine xr_callV (j := 138) (d' := (d + 0)) (rv1 := some (.int r7.1)) (μ1 := r7.2) (rest := []) (As := [.int (xc (-6))]) rfl rfl rfl rfl (Nat.le_of_ble_eq_true rfl) (fM_refuse_kd hr7) rfl (by exact (fM_refuse_ok (d := d + (0)) hr7)) ?_
  have ho := Option.some.inj h
  subst ho
  obtain ⟨rfl, rfl⟩ := hK
  exact xr_ret (rv := some (.int r7.1)) rfl rfl (Or.inl rfl)
noncomputable def fM_feed_0  (v0 : Nat) (v1 : Int32) (v2 : Int64) (μ : xM) : Option (Int32 × xM) := if (xc 1) ≤ v1 then (if (xc 8) < v1 then (fM_feed_29 v0 μ) else ((ldF μ v0 9 7).bind fun x8 => if (x8 + v1) ≤ (xc 24) then (xwh (fun s : Int32 × xM => fM_feed_L39 v0 v1 v2 s.1 s.2) (xc 0, μ)) else (fM_feed_29 v0 μ))) else ((fM_refuse v0 (xc (-4)) μ).bind fun r9 => some ((r9.1, r9.2)))
theorem fM_feed_0_ok {d : Nat} {v0 : Nat} {v1 : Int32} {v2 : Int64} {μ : xM} {rv : Option Value} {μf : xM} {out : Int32 × xM} (h : fM_feed_0 v0 v1 v2 μ = some out) (hK : fM_feed_K rv μf out) : xRun (d + 1) 153 0 [some (.ref v0), some (.int v1), some (.long v2), none, none] [] μ rv μf := by
  unfold fM_feed_0 at h
  refine xr_go 2 (pc' := 2) (lo' := [some (.ref v0), some (.int v1), some (.long v2), none, none]) (st' := [.int (xc 1), .int v1]) (μ' := μ) rfl ?_
  refine xr_icmp (pct := 12) rfl rfl rfl (fun hc => ?_) (fun hc => ?_)
  · replace h := (if_pos (of_decide_eq_true hc)).symm.trans h
    refine xr_go 2 (pc' := 15) (lo' := [some (.ref v0), some (.int v1), some (.long v2), none, none]) (st' := [.int (xc 8), .int v1]) (μ' := μ) rfl ?_
    refine xr_icmp (pct := 29) rfl rfl rfl (fun hc => ?_) (fun hc => ?_)
    · replace h := (if_pos (of_decide_eq_true hc)).symm.trans h
      refine xr_forget (lo := [some (.ref v0), none, none, none, none]) ⟨rfl, trivial⟩ ?_
      exact fM_feed_29_ok h hK
    · replace h := (if_neg (of_decide_eq_false hc)).symm.trans h
      refine xr_go 1 (pc' := 19) (lo' := [some (.ref v0), some (.int v1), some (.long v2), none, none]) (st' := [.ref v0]) (μ' := μ) rfl ?_
      obtain ⟨x8, hx8, h⟩ := Option.bind_eq_some_iff.mp h
      refine xr_opI (pc' := 22) (lo' := [some (.ref v0), some (.int v1), some (.long v2), none, none]) (st' := []) (o := ldF μ v0 9 7) rfl hx8 ?_
      refine xr_go 3 (pc' := 26) (lo' := [some (.ref v0), some (.int v1), some (.long v2), none, none]) (st' := [.int (xc 24), .int (x8 + v1)]) (μ' := μ) rfl ?_
      refine xr_icmp (pct := 36) rfl rfl rfl (fun hc => ?_) (fun hc => ?_)
      · replace h := (if_pos (of_decide_eq_true hc)).symm.trans h
        refine xr_go 2 (pc' := 39) (lo' := [some (.ref v0), some (.int v1), some (.long v2), none, some (.int (xc 0))]) (st' := []) (μ' := μ) rfl ?_
        refine xr_forget (lo := [some (.ref v0), some (.int v1), some (.long v2), none, some (.int (xc 0))]) ⟨rfl, rfl, rfl, rfl, trivial⟩ ?_
        exact fM_feed_L39_lp h hK
      · replace h := (if_neg (of_decide_eq_false hc)).symm.trans h
        refine xr_forget (lo := [some (.ref v0), none, none, none, none]) ⟨rfl, trivial⟩ ?_
        exact fM_feed_29_ok h hK
  · replace h := (if_neg (of_decide_eq_false hc)).symm.trans h
    refine xr_go 2 (pc' := 8) (lo' := [some (.ref v0), some (.int v1), some (.long v2), none, none]) (st' := [.int (xc (-4)), .ref v0]) (μ' := μ) rfl ?_
    obtain ⟨r9, hr9, h⟩ := Option.bind_eq_some_iff.mp h
    refine xr_callV (j := 138) (d' := (d + 0)) (rv1 := some (.int r9.1)) (μ1 := r9.2) (rest := []) (As := [.int (xc (-4))]) rfl rfl rfl rfl (Nat.le_of_ble_eq_true rfl) (fM_refuse_kd hr9) rfl (by exact (fM_refuse_ok (d := d + (0)) hr9)) ?_
    have ho := Option.some.inj h
    subst ho
    obtain ⟨rfl, rfl⟩ := hK
    exact xr_ret (rv := some (.int r9.1)) rfl rfl (Or.inl rfl)
noncomputable def fM_feed (a0 : Nat) (a1 : Int32) (a2 : Int64) (μ : xM) : Option (Int32 × xM) := xgd μ a0 9 (fM_feed_0 a0 a1 a2 μ)
theorem fM_feed_kd {a0 : Nat} {a1 : Int32} {a2 : Int64} {μ : xM} {o : Int32 × xM} (h : fM_feed a0 a1 a2 μ = some o) : (xK μ a0).1 = 10 + 9 := (xgd_some h).1
theorem fM_feed_ok {d : Nat} {a0 : Nat} {a1 : Int32} {a2 : Int64} {μ : xM} {o : Int32 × xM} (h : fM_feed a0 a1 a2 μ = some o) : xRun (d + 1) 153 0 [some (.ref a0), some (.int a1), some (.long a2), none, none] [] μ (some (.int o.1)) o.2 :=
  xr_forget (lo := [some (.ref a0), some (.int a1), some (.long a2), none, none]) (⟨rfl, rfl, rfl, trivial⟩) (fM_feed_0_ok (d := d) (xgd_some h).2 (show fM_feed_K _ _ o from ⟨rfl, rfl⟩))
