/-! methods as functions, printed with their proofs -/
-- KeptAnswers$Picture.becomeEnd(I)V 
def fP_becomeEnd_K (rv : Option Value) (μf : xM) : (xM) → Prop := fun o => rv = none ∧ μf = o
def fP_becomeEnd_K6 (v0 : Nat) (v1 : Int32) (d : Nat) (rv : Option Value) (μf : xM) : ((Int32 × xM) ⊕ (xM)) → Prop := Sum.elim (fun s : Int32 × xM => xRun (d + 2) 90 6 [some (.ref v0), some (.int v1), some (.int s.1), none, none] [] s.2 rv μf) (fP_becomeEnd_K rv μf)
noncomputable def fP_becomeEnd_L6  (v0 : Nat) (v1 : Int32) (v2 : Int32) (μ : xM) : Option ((Int32 × xM) ⊕ (xM)) := (ldFR μ v0 5 1).bind fun x1 => (alen μ x1).bind fun x2 => if ((xc 2) * x2) < v2 then (some (.inr μ)) else ((ldF μ v0 5 7).bind fun x3 => if x3 = 0 then ((fP_firstClashing v0 v1 μ).bind fun r4 => (fP_clashOf v0 r4 v1 μ).bind fun r5 => if 0 ≤ r5 then ((ldFR μ v0 5 3).bind fun x6 => (ldA μ x6 r4).bind fun x7 => (ldFR μ v0 5 3).bind fun x8 => (ldA μ x8 r5).bind fun x9 => (ldFR μ v0 5 3).bind fun x10 => (ldA μ x10 r4).bind fun x11 => (ldFR μ v0 5 3).bind fun x12 => (ldA μ x12 r5).bind fun x13 => (fP_makeOne v0 (if x9 < x7 then x9 else x7) (if x11 < x13 then x13 else x11) μ).bind fun r14 => (fP_dropDoubles v0 r14).bind fun r15 => some (.inl ((v2 + xc 1, r15)))) else (some (.inr μ))) else (some (.inr μ)))
theorem fP_becomeEnd_L6_ok {d : Nat} {v0 : Nat} {v1 : Int32} {v2 : Int32} {μ : xM} {rv : Option Value} {μf : xM} {out : (Int32 × xM) ⊕ (xM)} (h : fP_becomeEnd_L6 v0 v1 v2 μ = some out) (hK : fP_becomeEnd_K6 v0 v1 d rv μf out) : xRun (d + 2) 90 6 [some (.ref v0), some (.int v1), some (.int v2), none, none] [] μ rv μf := by
  unfold fP_becomeEnd_L6 at h
  refine xr_go 3 (pc' := 9) (lo' := [some (.ref v0), some (.int v1), some (.int v2), none, none]) (st' := [.ref v0, .int (xc 2), .int v2]) (μ' := μ) rfl ?_
  obtain ⟨x1, hx1, h⟩ := Option.bind_eq_some_iff.mp h
  refine xr_opA (pc' := 12) (lo' := [some (.ref v0), some (.int v1), some (.int v2), none, none]) (st' := [.int (xc 2), .int v2]) (o := ldFR μ v0 5 1) rfl hx1 ?_
  obtain ⟨x2, hx2, h⟩ := Option.bind_eq_some_iff.mp h
  refine xr_opI (pc' := 13) (lo' := [some (.ref v0), some (.int v1), some (.int v2), none, none]) (st' := [.int (xc 2), .int v2]) (o := alen μ x1) rfl hx2 ?_
  refine xr_go 1 (pc' := 14) (lo' := [some (.ref v0), some (.int v1), some (.int v2), none, none]) (st' := [.int ((xc 2) * x2), .int v2]) (μ' := μ) rfl ?_
  refine xr_icmp (pct := 90) rfl rfl rfl (fun hc => ?_) (fun hc => ?_)
  · replace h := (if_pos (of_decide_eq_true hc)).symm.trans h
    have ho := Option.some.inj h
    subst ho
    obtain ⟨rfl, rfl⟩ := hK
    exact xr_ret (rv := none) rfl rfl (rfl)
  · replace h := (if_neg (of_decide_eq_false hc)).symm.trans h
    refine xr_go 1 (pc' := 18) (lo' := [some (.ref v0), some (.int v1), some (.int v2), none, none]) (st' := [.ref v0]) (μ' := μ) rfl ?_
    obtain ⟨x3, hx3, h⟩ := Option.bind_eq_some_iff.mp h
    refine xr_opI (pc' := 21) (lo' := [some (.ref v0), some (.int v1), some (.int v2), none, none]) (st' := []) (o := ldF μ v0 5 7) rfl hx3 ?_
    refine xr_ifc (pct := 90) rfl rfl rfl (fun hc => ?_) (fun hc => ?_)
    · replace h := (if_neg (of_decide_eq_true hc)).symm.trans h
      have ho := Option.some.inj h
      subst ho
      obtain ⟨rfl, rfl⟩ := hK
      exact xr_ret (rv := none) rfl rfl (rfl)
    · replace h := (if_pos (Decidable.of_not_not (of_decide_eq_false hc))).symm.trans h
      refine xr_go 2 (pc' := 26) (lo' := [some (.ref v0), some (.int v1), some (.int v2), none, none]) (st' := [.int v1, .ref v0]) (μ' := μ) rfl ?_
      obtain ⟨r4, hr4, h⟩ := Option.bind_eq_some_iff.mp h
      refine xr_callV (j := 91) (d' := (d + 1)) (rv1 := some (.int r4)) (μ1 := μ) (rest := []) (As := [.int v1]) rfl rfl rfl rfl (Nat.le_of_ble_eq_true rfl) (fP_firstClashing_kd hr4) rfl (by exact (fP_firstClashing_ok (d := d + (0)) hr4)) ?_
      refine xr_go 4 (pc' := 33) (lo' := [some (.ref v0), some (.int v1), some (.int v2), some (.int r4), none]) (st' := [.int v1, .int r4, .ref v0]) (μ' := μ) rfl ?_
      obtain ⟨r5, hr5, h⟩ := Option.bind_eq_some_iff.mp h
      refine xr_callV (j := 92) (d' := (d + 1)) (rv1 := some (.int r5)) (μ1 := μ) (rest := []) (As := [.int r4, .int v1]) rfl rfl rfl rfl (Nat.le_of_ble_eq_true rfl) (fP_clashOf_kd hr5) rfl (by exact (fP_clashOf_ok (d := d + (1)) hr5)) ?_
      refine xr_go 2 (pc' := 40) (lo' := [some (.ref v0), some (.int v1), some (.int v2), some (.int r4), some (.int r5)]) (st' := [.int r5]) (μ' := μ) rfl ?_
      refine xr_ifc (pct := 44) rfl rfl rfl (fun hc => ?_) (fun hc => ?_)
      · replace h := (if_pos (of_decide_eq_true hc)).symm.trans h
        refine xr_go 2 (pc' := 46) (lo' := [some (.ref v0), some (.int v1), some (.int v2), some (.int r4), some (.int r5)]) (st' := [.ref v0, .ref v0]) (μ' := μ) rfl ?_
        obtain ⟨x6, hx6, h⟩ := Option.bind_eq_some_iff.mp h
        refine xr_opA (pc' := 49) (lo' := [some (.ref v0), some (.int v1), some (.int v2), some (.int r4), some (.int r5)]) (st' := [.ref v0]) (o := ldFR μ v0 5 3) rfl hx6 ?_
        refine xr_go 1 (pc' := 50) (lo' := [some (.ref v0), some (.int v1), some (.int v2), some (.int r4), some (.int r5)]) (st' := [.int r4, .ref x6, .ref v0]) (μ' := μ) rfl ?_
        obtain ⟨x7, hx7, h⟩ := Option.bind_eq_some_iff.mp h
        refine xr_opI (pc' := 51) (lo' := [some (.ref v0), some (.int v1), some (.int v2), some (.int r4), some (.int r5)]) (st' := [.ref v0]) (o := ldA μ x6 r4) rfl hx7 ?_
        refine xr_go 1 (pc' := 52) (lo' := [some (.ref v0), some (.int v1), some (.int v2), some (.int r4), some (.int r5)]) (st' := [.ref v0, .int x7, .ref v0]) (μ' := μ) rfl ?_
        obtain ⟨x8, hx8, h⟩ := Option.bind_eq_some_iff.mp h
        refine xr_opA (pc' := 55) (lo' := [some (.ref v0), some (.int v1), some (.int v2), some (.int r4), some (.int r5)]) (st' := [.int x7, .ref v0]) (o := ldFR μ v0 5 3) rfl hx8 ?_
        refine xr_go 1 (pc' := 57) (lo' := [some (.ref v0), some (.int v1), some (.int v2), some (.int r4), some (.int r5)]) (st' := [.int r5, .ref x8, .int x7, .ref v0]) (μ' := μ) rfl ?_
        obtain ⟨x9, hx9, h⟩ := Option.bind_eq_some_iff.mp h
        refine xr_opI (pc' := 58) (lo' := [some (.ref v0), some (.int v1), some (.int v2), some (.int r4), some (.int r5)]) (st' := [.int x7, .ref v0]) (o := ldA μ x8 r5) rfl hx9 ?_
        refine xr_go 2 (pc' := 62) (lo' := [some (.ref v0), some (.int v1), some (.int v2), some (.int r4), some (.int r5)]) (st' := [.ref v0, .int (if x9 < x7 then x9 else x7), .ref v0]) (μ' := μ) rfl ?_
        obtain ⟨x10, hx10, h⟩ := Option.bind_eq_some_iff.mp h
        refine xr_opA (pc' := 65) (lo' := [some (.ref v0), some (.int v1), some (.int v2), some (.int r4), some (.int r5)]) (st' := [.int (if x9 < x7 then x9 else x7), .ref v0]) (o := ldFR μ v0 5 3) rfl hx10 ?_
        refine xr_go 1 (pc' := 66) (lo' := [some (.ref v0), some (.int v1), some (.int v2), some (.int r4), some (.int r5)]) (st' := [.int r4, .ref x10, .int (if x9 < x7 then x9 else x7), .ref v0]) (μ' := μ) rfl ?_
        obtain ⟨x11, hx11, h⟩ := Option.bind_eq_some_iff.mp h
        refine xr_opI (pc' := 67) (lo' := [some (.ref v0), some (.int v1), some (.int v2), some (.int r4), some (.int r5)]) (st' := [.int (if x9 < x7 then x9 else x7), .ref v0]) (o := ldA μ x10 r4) rfl hx11 ?_
        refine xr_go 1 (pc' := 68) (lo' := [some (.ref v0), some (.int v1), some (.int v2), some (.int r4), some (.int r5)]) (st' := [.ref v0, .int x11, .int (if x9 < x7 then x9 else x7), .ref v0]) (μ' := μ) rfl ?_
        obtain ⟨x12, hx12, h⟩ := Option.bind_eq_some_iff.mp h
        refine xr_opA (pc' := 71) (lo' := [some (.ref v0), some (.int v1), some (.int v2), some (.int r4), some (.int r5)]) (st' := [.int x11, .int (if x9 < x7 then x9 else x7), .ref v0]) (o := ldFR μ v0 5 3) rfl hx12 ?_
        refine xr_go 1 (pc' := 73) (lo' := [some (.ref v0), some (.int v1), some (.int v2), some (.int r4), some (.int r5)]) (st' := [.int r5, .ref x12, .int x11, .int (if x9 < x7 then x9 else x7), .ref v0]) (μ' := μ) rfl ?_
        obtain ⟨x13, hx13, h⟩ := Option.bind_eq_some_iff.mp h
        refine xr_opI (pc' := 74) (lo' := [some (.ref v0), some (.int v1), some (.int v2), some (.int r4), some (.int r5)]) (st' := [.int x11, .int (if x9 < x7 then x9 else x7), .ref v0]) (o := ldA μ x12 r5) rfl hx13 ?_
        refine xr_go 1 (pc' := 77) (lo' := [some (.ref v0), some (.int v1), some (.int v2), some (.int r4), some (.int r5)]) (st' := [.int (if x11 < x13 then x13 else x11), .int (if x9 < x7 then x9 else x7), .ref v0]) (μ' := μ) rfl ?_
        obtain ⟨r14, hr14, h⟩ := Option.bind_eq_some_iff.mp h
        refine xr_callV (j := 93) (d' := (d + 1)) (rv1 := none) (μ1 := r14) (rest := []) (As := [.int (if x9 < x7 then x9 else x7), .int (if x11 < x13 then x13 else x11)]) rfl rfl rfl rfl (Nat.le_of_ble_eq_true rfl) (fP_makeOne_kd hr14) rfl (by exact (fP_makeOne_ok (d := d + (1)) hr14)) ?_
        refine xr_go 1 (pc' := 81) (lo' := [some (.ref v0), some (.int v1), some (.int v2), some (.int r4), some (.int r5)]) (st' := [.ref v0]) (μ' := r14) rfl ?_
        obtain ⟨r15, hr15, h⟩ := Option.bind_eq_some_iff.mp h
        refine xr_callV (j := 94) (d' := (d + 1)) (rv1 := none) (μ1 := r15) (rest := []) (As := []) rfl rfl rfl rfl (Nat.le_of_ble_eq_true rfl) (fP_dropDoubles_kd hr15) rfl (by exact (fP_dropDoubles_ok (d := d + (0)) hr15)) ?_
        refine xr_go 2 (pc' := 6) (lo' := [some (.ref v0), some (.int v1), some (.int (v2 + xc 1)), some (.int r4), some (.int r5)]) (st' := []) (μ' := r15) rfl ?_
        refine xr_forget (lo := [some (.ref v0), some (.int v1), some (.int (v2 + xc 1)), none, none]) ⟨rfl, rfl, rfl, trivial⟩ ?_
        have ho := Option.some.inj h
        subst ho
        exact hK
      · replace h := (if_neg (of_decide_eq_false hc)).symm.trans h
        have ho := Option.some.inj h
        subst ho
        obtain ⟨rfl, rfl⟩ := hK
        exact xr_ret (rv := none) rfl rfl (rfl)
theorem fP_becomeEnd_L6_lp {d : Nat} {v0 : Nat} {v1 : Int32} {v2 : Int32} {μ : xM} {rv : Option Value} {μf : xM} {out : xM} (h : xwh (fun s : Int32 × xM => fP_becomeEnd_L6 v0 v1 s.1 s.2) (v2, μ) = some out) (hK : fP_becomeEnd_K rv μf out) : xRun (d + 2) 90 6 [some (.ref v0), some (.int v1), some (.int v2), none, none] [] μ rv μf :=
  xwh_ind (Rh := fun s : Int32 × xM => xRun (d + 2) 90 6 [some (.ref v0), some (.int v1), some (.int s.1), none, none] [] s.2 rv μf) (Co := fP_becomeEnd_K rv μf) (fun s o hb hk => fP_becomeEnd_L6_ok hb hk) h hK
noncomputable def fP_becomeEnd_0  (v0 : Nat) (v1 : Int32) (μ : xM) : Option (xM) := (fP_dropDoubles v0 μ).bind fun r16 => xwh (fun s : Int32 × xM => fP_becomeEnd_L6 v0 v1 s.1 s.2) (xc 0, r16)
theorem fP_becomeEnd_0_ok {d : Nat} {v0 : Nat} {v1 : Int32} {μ : xM} {rv : Option Value} {μf : xM} {out : xM} (h : fP_becomeEnd_0 v0 v1 μ = some out) (hK : fP_becomeEnd_K rv μf out) : xRun (d + 2) 90 0 [some (.ref v0), some (.int v1), none, none, none] [] μ rv μf := by
  unfold fP_becomeEnd_0 at h
  refine xr_go 1 (pc' := 1) (lo' := [some (.ref v0), some (.int v1), none, none, none]) (st' := [.ref v0]) (μ' := μ) rfl ?_
  obtain ⟨r16, hr16, h⟩ := Option.bind_eq_some_iff.mp h
  refine xr_callV (j := 94) (d' := (d + 1)) (rv1 := none) (μ1 := r16) (rest := []) (As := []) rfl rfl rfl rfl (Nat.le_of_ble_eq_true rfl) (fP_dropDoubles_kd hr16) rfl (by exact (fP_dropDoubles_ok (d := d + (0)) hr16)) ?_
  refine xr_go 2 (pc' := 6) (lo' := [some (.ref v0), some (.int v1), some (.int (xc 0)), none, none]) (st' := []) (μ' := r16) rfl ?_
  refine xr_forget (lo := [some (.ref v0), some (.int v1), some (.int (xc 0)), none, none]) ⟨rfl, rfl, rfl, trivial⟩ ?_
  exact fP_becomeEnd_L6_lp h hK
noncomputable def fP_becomeEnd (a0 : Nat) (a1 : Int32) (μ : xM) : Option (xM) := xgd μ a0 5 (fP_becomeEnd_0 a0 a1 μ)
theorem fP_becomeEnd_kd {a0 : Nat} {a1 : Int32} {μ : xM} {o : xM} (h : fP_becomeEnd a0 a1 μ = some o) : (xK μ a0).1 = 10 + 5 := (xgd_some h).1
theorem fP_becomeEnd_ok {d : Nat} {a0 : Nat} {a1 : Int32} {μ : xM} {o : xM} (h : fP_becomeEnd a0 a1 μ = some o) : xRun (d + 2) 90 0 [some (.ref a0), some (.int a1), none, none, none] [] μ none o :=
  xr_forget (lo := [some (.ref a0), some (.int a1), none, none, none]) (⟨rfl, rfl, trivial⟩) (fP_becomeEnd_0_ok (d := d) (xgd_some h).2 (show fP_becomeEnd_K _ _ o from ⟨rfl, rfl⟩))
-- KeptAnswers$Leading.targetOf(JI)I 
def fL_targetOf_K (μ : xM) (rv : Option Value) (μf : xM) : (Int32) → Prop := fun o => rv = some (.int o) ∧ μf = μ
noncomputable def fL_targetOf_0  (v0 : Int64) (v2 : Int32) (μ : xM) : Option (Int32) := some (Int64.toInt32 ((v0 >>> (Int32.toInt64 ((xc 5) * v2) &&& 63)) &&& (Int64.ofNat 31)))
theorem fL_targetOf_0_ok {d : Nat} {v0 : Int64} {v2 : Int32} {μ : xM} {rv : Option Value} {μf : xM} {out : Int32} (h : fL_targetOf_0 v0 v2 μ = some out) (hK : fL_targetOf_K μ rv μf out) : xRun (d + 0) 73 0 [some (.long v0), none, some (.int v2)] [] μ rv μf := by
  unfold fL_targetOf_0 at h
  refine xr_go 8 (pc' := 10) (lo' := [some (.long v0), none, some (.int v2)]) (st' := [.int (Int64.toInt32 ((v0 >>> (Int32.toInt64 ((xc 5) * v2) &&& 63)) &&& (Int64.ofNat 31)))]) (μ' := μ) rfl ?_
  have ho := Option.some.inj h
  subst ho
  obtain ⟨rfl, rfl⟩ := hK
  exact xr_ret (rv := some (.int (Int64.toInt32 ((v0 >>> (Int32.toInt64 ((xc 5) * v2) &&& 63)) &&& (Int64.ofNat 31))))) rfl rfl (Or.inl rfl)
noncomputable def fL_targetOf (a0 : Int64) (a1 : Int32) (μ : xM) : Option (Int32) := fL_targetOf_0 a0 a1 μ
theorem fL_targetOf_ok {d : Nat} {a0 : Int64} {a1 : Int32} {μ : xM} {o : Int32} (h : fL_targetOf a0 a1 μ = some o) : xRun (d + 0) 73 0 [some (.long a0), none, some (.int a1)] [] μ (some (.int o)) μ :=
  xr_forget (lo := [some (.long a0), none, some (.int a1)]) (⟨rfl, rfl, trivial⟩) (fL_targetOf_0_ok (d := d) h (show fL_targetOf_K μ _ _ o from ⟨rfl, rfl⟩))
-- KeptAnswers$Sight.takeShow(ILKeptAnswers$Picture;J)Z 
def fS_takeShow_K (rv : Option Value) (μf : xM) : (Int32 × xM) → Prop := fun o => rv = some (.int o.1) ∧ μf = o.2
def fS_takeShow_K6 (v0 : Nat) (v2 : Nat) (v3 : Int64) (μ : xM) (d : Nat) (rv : Option Value) (μf : xM) : ((Int32 × Int32) ⊕ (Int32 × xM)) → Prop := Sum.elim (fun s : Int32 × Int32 => xRun (d + 1) 99 6 [some (.ref v0), none, some (.ref v2), some (.long v3), none, some (.int s.1), some (.int s.2), none] [] μ rv μf) (fS_takeShow_K rv μf)
def fS_takeShow_K59 (v0 : Nat) (v5 : Int32) (μ : xM) (d : Nat) (rv : Option Value) (μf : xM) : ((Int32) ⊕ (Int32 × xM)) → Prop := Sum.elim (fun s : Int32 => xRun (d + 1) 99 59 [some (.ref v0), none, none, none, none, some (.int v5), some (.int s), none] [] μ rv μf) (fS_takeShow_K rv μf)
noncomputable def fS_takeShow_107  (v0 : Nat) (v5 : Int32) (v6 : Int32) (μ : xM) : Option (Int32 × xM) := (ldF μ v0 6 2).bind fun x1 => if x1 < (xc 12) then ((ldFR μ v0 6 1).bind fun x2 => (ldFR μ v0 6 1).bind fun x3 => (ldF μ v0 6 2).bind fun x4 => (xcopy μ x2 v6 x3 (v6 + (xc 1)) (x4 - v6)).bind fun μ5 => (ldFR μ5 v0 6 1).bind fun x6 => (stA μ5 x6 v6 v5).bind fun μ7 => (ldF μ7 v0 6 2).bind fun x8 => (stF μ7 v0 6 2 (x8 + (xc 1))).bind fun μ9 => some ((xc 1, μ9))) else ((stFZ μ v0 6 3 (xc 1)).bind fun μ10 => some ((xc 0, μ10)))
theorem fS_takeShow_107_ok {d : Nat} {v0 : Nat} {v5 : Int32} {v6 : Int32} {μ : xM} {rv : Option Value} {μf : xM} {out : Int32 × xM} (h : fS_takeShow_107 v0 v5 v6 μ = some out) (hK : fS_takeShow_K rv μf out) : xRun (d + 1) 99 107 [some (.ref v0), none, none, none, none, some (.int v5), some (.int v6), none] [] μ rv μf := by
  unfold fS_takeShow_107 at h
  refine xr_go 1 (pc' := 108) (lo' := [some (.ref v0), none, none, none, none, some (.int v5), some (.int v6), none]) (st' := [.ref v0]) (μ' := μ) rfl ?_
  obtain ⟨x1, hx1, h⟩ := Option.bind_eq_some_iff.mp h
  refine xr_opI (pc' := 111) (lo' := [some (.ref v0), none, none, none, none, some (.int v5), some (.int v6), none]) (st' := []) (o := ldF μ v0 6 2) rfl hx1 ?_
  refine xr_go 1 (pc' := 113) (lo' := [some (.ref v0), none, none, none, none, some (.int v5), some (.int v6), none]) (st' := [.int (xc 12), .int x1]) (μ' := μ) rfl ?_
  refine xr_icmp (pct := 123) rfl rfl rfl (fun hc => ?_) (fun hc => ?_)
  · replace h := (if_pos (of_decide_eq_true hc)).symm.trans h
    refine xr_go 1 (pc' := 124) (lo' := [some (.ref v0), none, none, none, none, some (.int v5), some (.int v6), none]) (st' := [.ref v0]) (μ' := μ) rfl ?_
    obtain ⟨x2, hx2, h⟩ := Option.bind_eq_some_iff.mp h
    refine xr_opA (pc' := 127) (lo' := [some (.ref v0), none, none, none, none, some (.int v5), some (.int v6), none]) (st' := []) (o := ldFR μ v0 6 1) rfl hx2 ?_
    refine xr_go 2 (pc' := 130) (lo' := [some (.ref v0), none, none, none, none, some (.int v5), some (.int v6), none]) (st' := [.ref v0, .int v6, .ref x2]) (μ' := μ) rfl ?_
    obtain ⟨x3, hx3, h⟩ := Option.bind_eq_some_iff.mp h
    refine xr_opA (pc' := 133) (lo' := [some (.ref v0), none, none, none, none, some (.int v5), some (.int v6), none]) (st' := [.int v6, .ref x2]) (o := ldFR μ v0 6 1) rfl hx3 ?_
    refine xr_go 4 (pc' := 138) (lo' := [some (.ref v0), none, none, none, none, some (.int v5), some (.int v6), none]) (st' := [.ref v0, .int (v6 + (xc 1)), .ref x3, .int v6, .ref x2]) (μ' := μ) rfl ?_
    obtain ⟨x4, hx4, h⟩ := Option.bind_eq_some_iff.mp h
    refine xr_opI (pc' := 141) (lo' := [some (.ref v0), none, none, none, none, some (.int v5), some (.int v6), none]) (st' := [.int (v6 + (xc 1)), .ref x3, .int v6, .ref x2]) (o := ldF μ v0 6 2) rfl hx4 ?_
    refine xr_go 2 (pc' := 144) (lo' := [some (.ref v0), none, none, none, none, some (.int v5), some (.int v6), none]) (st' := [.int (x4 - v6), .int (v6 + (xc 1)), .ref x3, .int v6, .ref x2]) (μ' := μ) rfl ?_
    obtain ⟨μ5, hμ5, h⟩ := Option.bind_eq_some_iff.mp h
    refine xr_opM (pc' := 147) (lo' := [some (.ref v0), none, none, none, none, some (.int v5), some (.int v6), none]) (st' := []) (o := xcopy μ x2 v6 x3 (v6 + (xc 1)) (x4 - v6)) rfl hμ5 ?_
    refine xr_go 1 (pc' := 148) (lo' := [some (.ref v0), none, none, none, none, some (.int v5), some (.int v6), none]) (st' := [.ref v0]) (μ' := μ5) rfl ?_
    obtain ⟨x6, hx6, h⟩ := Option.bind_eq_some_iff.mp h
    refine xr_opA (pc' := 151) (lo' := [some (.ref v0), none, none, none, none, some (.int v5), some (.int v6), none]) (st' := []) (o := ldFR μ5 v0 6 1) rfl hx6 ?_
    refine xr_go 2 (pc' := 155) (lo' := [some (.ref v0), none, none, none, none, some (.int v5), some (.int v6), none]) (st' := [.int v5, .int v6, .ref x6]) (μ' := μ5) rfl ?_
    obtain ⟨μ7, hμ7, h⟩ := Option.bind_eq_some_iff.mp h
    refine xr_opM (pc' := 156) (lo' := [some (.ref v0), none, none, none, none, some (.int v5), some (.int v6), none]) (st' := []) (o := stA μ5 x6 v6 v5) rfl hμ7 ?_
    refine xr_go 2 (pc' := 158) (lo' := [some (.ref v0), none, none, none, none, some (.int v5), some (.int v6), none]) (st' := [.ref v0, .ref v0]) (μ' := μ7) rfl ?_
    obtain ⟨x8, hx8, h⟩ := Option.bind_eq_some_iff.mp h
    refine xr_opI (pc' := 161) (lo' := [some (.ref v0), none, none, none, none, some (.int v5), some (.int v6), none]) (st' := [.ref v0]) (o := ldF μ7 v0 6 2) rfl hx8 ?_
    refine xr_go 2 (pc' := 163) (lo' := [some (.ref v0), none, none, none, none, some (.int v5), some (.int v6), none]) (st' := [.int (x8 + (xc 1)), .ref v0]) (μ' := μ7) rfl ?_
    obtain ⟨μ9, hμ9, h⟩ := Option.bind_eq_some_iff.mp h
    refine xr_opM (pc' := 166) (lo' := [some (.ref v0), none, none, none, none, some (.int v5), some (.int v6), none]) (st' := []) (o := stF μ7 v0 6 2 (x8 + (xc 1))) rfl hμ9 ?_
    refine xr_go 1 (pc' := 167) (lo' := [some (.ref v0), none, none, none, none, some (.int v5), some (.int v6), none]) (st' := [.int (xc 1)]) (μ' := μ9) rfl ?_
    have ho := Option.some.inj h
    subst ho
    obtain ⟨rfl, rfl⟩ := hK
    exact xr_ret (rv := some (.int (xc 1))) rfl rfl (Or.inr ⟨rfl, Or.inr rfl⟩)
  · replace h := (if_neg (of_decide_eq_false hc)).symm.trans h
    refine xr_go 2 (pc' := 118) (lo' := [some (.ref v0), none, none, none, none, some (.int v5), some (.int v6), none]) (st' := [.int (xc 1), .ref v0]) (μ' := μ) rfl ?_
    obtain ⟨μ10, hμ10, h⟩ := Option.bind_eq_some_iff.mp h
    refine xr_opM (pc' := 121) (lo' := [some (.ref v0), none, none, none, none, some (.int v5), some (.int v6), none]) (st' := []) (o := stFZ μ v0 6 3 (xc 1)) rfl hμ10 ?_
    refine xr_go 1 (pc' := 122) (lo' := [some (.ref v0), none, none, none, none, some (.int v5), some (.int v6), none]) (st' := [.int (xc 0)]) (μ' := μ10) rfl ?_
    have ho := Option.some.inj h
    subst ho
    obtain ⟨rfl, rfl⟩ := hK
    exact xr_ret (rv := some (.int (xc 0))) rfl rfl (Or.inr ⟨rfl, Or.inl rfl⟩)
noncomputable def fS_takeShow_84  (v0 : Nat) (v5 : Int32) (v6 : Int32) (μ : xM) : Option (Int32 × xM) := (ldF μ v0 6 2).bind fun x11 => if x11 ≤ v6 then (fS_takeShow_107 v0 v5 v6 μ) else ((ldFR μ v0 6 1).bind fun x12 => (ldA μ x12 v6).bind fun x13 => if x13 = v5 then (some ((xc 1, μ))) else (fS_takeShow_107 v0 v5 v6 μ))
theorem fS_takeShow_84_ok {d : Nat} {v0 : Nat} {v5 : Int32} {v6 : Int32} {μ : xM} {rv : Option Value} {μf : xM} {out : Int32 × xM} (h : fS_takeShow_84 v0 v5 v6 μ = some out) (hK : fS_takeShow_K rv μf out) : xRun (d + 1) 99 84 [some (.ref v0), none, none, none, none, some (.int v5), some (.int v6), none] [] μ rv μf := by
  unfold fS_takeShow_84 at h
  refine xr_go 2 (pc' := 87) (lo' := [some (.ref v0), none, none, none, none, some (.int v5), some (.int v6), none]) (st' := [.ref v0, .int v6]) (μ' := μ) rfl ?_
  obtain ⟨x11, hx11, h⟩ := Option.bind_eq_some_iff.mp h
  refine xr_opI (pc' := 90) (lo' := [some (.ref v0), none, none, none, none, some (.int v5), some (.int v6), none]) (st' := [.int v6]) (o := ldF μ v0 6 2) rfl hx11 ?_
  refine xr_icmp (pct := 107) rfl rfl rfl (fun hc => ?_) (fun hc => ?_)
  · replace h := (if_pos (of_decide_eq_true hc)).symm.trans h
    refine xr_forget (lo := [some (.ref v0), none, none, none, none, some (.int v5), some (.int v6), none]) ⟨rfl, rfl, rfl, trivial⟩ ?_
    exact fS_takeShow_107_ok h hK
  · replace h := (if_neg (of_decide_eq_false hc)).symm.trans h
    refine xr_go 1 (pc' := 94) (lo' := [some (.ref v0), none, none, none, none, some (.int v5), some (.int v6), none]) (st' := [.ref v0]) (μ' := μ) rfl ?_
    obtain ⟨x12, hx12, h⟩ := Option.bind_eq_some_iff.mp h
    refine xr_opA (pc' := 97) (lo' := [some (.ref v0), none, none, none, none, some (.int v5), some (.int v6), none]) (st' := []) (o := ldFR μ v0 6 1) rfl hx12 ?_
    refine xr_go 1 (pc' := 99) (lo' := [some (.ref v0), none, none, none, none, some (.int v5), some (.int v6), none]) (st' := [.int v6, .ref x12]) (μ' := μ) rfl ?_
    obtain ⟨x13, hx13, h⟩ := Option.bind_eq_some_iff.mp h
    refine xr_opI (pc' := 100) (lo' := [some (.ref v0), none, none, none, none, some (.int v5), some (.int v6), none]) (st' := []) (o := ldA μ x12 v6) rfl hx13 ?_
    refine xr_go 1 (pc' := 102) (lo' := [some (.ref v0), none, none, none, none, some (.int v5), some (.int v6), none]) (st' := [.int v5, .int x13]) (μ' := μ) rfl ?_
    refine xr_icmp (pct := 107) rfl rfl rfl (fun hc => ?_) (fun hc => ?_)
    · replace h := (if_neg (of_decide_eq_true hc)).symm.trans h
      refine xr_forget (lo := [some (.ref v0), none, none, none, none, some (.int v5), some (.int v6), none]) ⟨rfl, rfl, rfl, trivial⟩ ?_
      exact fS_takeShow_107_ok h hK
    · replace h := (if_pos (Decidable.of_not_not (of_decide_eq_false hc))).symm.trans h
      refine xr_go 1 (pc' := 106) (lo' := [some (.ref v0), none, none, none, none, some (.int v5), some (.int v6), none]) (st' := [.int (xc 1)]) (μ' := μ) rfl ?_
      have ho := Option.some.inj h
      subst ho
      obtain ⟨rfl, rfl⟩ := hK
      exact xr_ret (rv := some (.int (xc 1))) rfl rfl (Or.inr ⟨rfl, Or.inr rfl⟩)
noncomputable def fS_takeShow_L59  (v0 : Nat) (v5 : Int32) (v6 : Int32) (μ : xM) : Option ((Int32) ⊕ (Int32 × xM)) := if v6 ≤ 0 then ((fS_takeShow_84 v0 v5 v6 μ).map (fun o => .inr o)) else ((ldFR μ v0 6 1).bind fun x14 => (ldA μ x14 (v6 - (xc 1))).bind fun x15 => if x15 < v5 then ((fS_takeShow_84 v0 v5 v6 μ).map (fun o => .inr o)) else (some (.inl ((v6 + xc (-1))))))
theorem fS_takeShow_L59_ok {d : Nat} {v0 : Nat} {v5 : Int32} {v6 : Int32} {μ : xM} {rv : Option Value} {μf : xM} {out : (Int32) ⊕ (Int32 × xM)} (h : fS_takeShow_L59 v0 v5 v6 μ = some out) (hK : fS_takeShow_K59 v0 v5 μ d rv μf out) : xRun (d + 1) 99 59 [some (.ref v0), none, none, none, none, some (.int v5), some (.int v6), none] [] μ rv μf := by
  unfold fS_takeShow_L59 at h
  refine xr_go 1 (pc' := 61) (lo' := [some (.ref v0), none, none, none, none, some (.int v5), some (.int v6), none]) (st' := [.int v6]) (μ' := μ) rfl ?_
  refine xr_ifc (pct := 84) rfl rfl rfl (fun hc => ?_) (fun hc => ?_)
  · replace h := (if_pos (of_decide_eq_true hc)).symm.trans h
    refine xr_forget (lo := [some (.ref v0), none, none, none, none, some (.int v5), some (.int v6), none]) ⟨rfl, rfl, rfl, trivial⟩ ?_
    obtain ⟨o, h2, rfl⟩ := Option.map_eq_some_iff.mp h
    exact fS_takeShow_84_ok h2 hK
  · replace h := (if_neg (of_decide_eq_false hc)).symm.trans h
    refine xr_go 1 (pc' := 65) (lo' := [some (.ref v0), none, none, none, none, some (.int v5), some (.int v6), none]) (st' := [.ref v0]) (μ' := μ) rfl ?_
    obtain ⟨x14, hx14, h⟩ := Option.bind_eq_some_iff.mp h
    refine xr_opA (pc' := 68) (lo' := [some (.ref v0), none, none, none, none, some (.int v5), some (.int v6), none]) (st' := []) (o := ldFR μ v0 6 1) rfl hx14 ?_
    refine xr_go 3 (pc' := 72) (lo' := [some (.ref v0), none, none, none, none, some (.int v5), some (.int v6), none]) (st' := [.int (v6 - (xc 1)), .ref x14]) (μ' := μ) rfl ?_
    obtain ⟨x15, hx15, h⟩ := Option.bind_eq_some_iff.mp h
    refine xr_opI (pc' := 73) (lo' := [some (.ref v0), none, none, none, none, some (.int v5), some (.int v6), none]) (st' := []) (o := ldA μ x14 (v6 - (xc 1))) rfl hx15 ?_
    refine xr_go 1 (pc' := 75) (lo' := [some (.ref v0), none, none, none, none, some (.int v5), some (.int v6), none]) (st' := [.int v5, .int x15]) (μ' := μ) rfl ?_
    refine xr_icmp (pct := 84) rfl rfl rfl (fun hc => ?_) (fun hc => ?_)
    · replace h := (if_pos (of_decide_eq_true hc)).symm.trans h
      refine xr_forget (lo := [some (.ref v0), none, none, none, none, some (.int v5), some (.int v6), none]) ⟨rfl, rfl, rfl, trivial⟩ ?_
      obtain ⟨o, h2, rfl⟩ := Option.map_eq_some_iff.mp h
      exact fS_takeShow_84_ok h2 hK
    · replace h := (if_neg (of_decide_eq_false hc)).symm.trans h
      refine xr_go 2 (pc' := 59) (lo' := [some (.ref v0), none, none, none, none, some (.int v5), some (.int (v6 + xc (-1))), none]) (st' := []) (μ' := μ) rfl ?_
      refine xr_forget (lo := [some (.ref v0), none, none, none, none, some (.int v5), some (.int (v6 + xc (-1))), none]) ⟨rfl, rfl, rfl, trivial⟩ ?_
      have ho := Option.some.inj h
      subst ho
      exact hK
theorem fS_takeShow_L59_lp {d : Nat} {v0 : Nat} {v5 : Int32} {v6 : Int32} {μ : xM} {rv : Option Value} {μf : xM} {out : Int32 × xM} (h : xwh (fun s : Int32 => fS_takeShow_L59 v0 v5 s μ) (v6) = some out) (hK : fS_takeShow_K rv μf out) : xRun (d + 1) 99 59 [some (.ref v0), none, none, none, none, some (.int v5), some (.int v6), none] [] μ rv μf :=
  xwh_ind (Rh := fun s : Int32 => xRun (d + 1) 99 59 [some (.ref v0), none, none, none, none, some (.int v5), some (.int s), none] [] μ rv μf) (Co := fS_takeShow_K rv μf) (fun s o hb hk => fS_takeShow_L59_ok hb hk) h hK
noncomputable def fS_takeShow_53  (v0 : Nat) (v5 : Int32) (μ : xM) : Option (Int32 × xM) := (ldF μ v0 6 2).bind fun x16 => xwh (fun s : Int32 => fS_takeShow_L59 v0 v5 s μ) (x16)
theorem fS_takeShow_53_ok {d : Nat} {v0 : Nat} {v5 : Int32} {μ : xM} {rv : Option Value} {μf : xM} {out : Int32 × xM} (h : fS_takeShow_53 v0 v5 μ = some out) (hK : fS_takeShow_K rv μf out) : xRun (d + 1) 99 53 [some (.ref v0), none, none, none, none, some (.int v5), none, none] [] μ rv μf := by
  unfold fS_takeShow_53 at h
  refine xr_go 1 (pc' := 54) (lo' := [some (.ref v0), none, none, none, none, some (.int v5), none, none]) (st' := [.ref v0]) (μ' := μ) rfl ?_
  obtain ⟨x16, hx16, h⟩ := Option.bind_eq_some_iff.mp h
  refine xr_opI (pc' := 57) (lo' := [some (.ref v0), none, none, none, none, some (.int v5), none, none]) (st' := []) (o := ldF μ v0 6 2) rfl hx16 ?_
  refine xr_go 1 (pc' := 59) (lo' := [some (.ref v0), none, none, none, none, some (.int v5), some (.int x16), none]) (st' := []) (μ' := μ) rfl ?_
  refine xr_forget (lo := [some (.ref v0), none, none, none, none, some (.int v5), some (.int x16), none]) ⟨rfl, rfl, rfl, trivial⟩ ?_
  exact fS_takeShow_L59_lp h hK
noncomputable def fS_takeShow_36  (v0 : Nat) (v2 : Nat) (v3 : Int64) (v5 : Int32) (v6 : Int32) (s0 : Int32) (μ : xM) : Option ((Int32 × Int32) ⊕ (Int32 × xM)) := some (.inl (((v5 <<< ((xc 3) &&& 31)) ||| s0, v6 + xc 1)))
theorem fS_takeShow_36_ok {d : Nat} {v0 : Nat} {v2 : Nat} {v3 : Int64} {v5 : Int32} {v6 : Int32} {s0 : Int32} {μ : xM} {rv : Option Value} {μf : xM} {out : (Int32 × Int32) ⊕ (Int32 × xM)} (h : fS_takeShow_36 v0 v2 v3 v5 v6 s0 μ = some out) (hK : fS_takeShow_K6 v0 v2 v3 μ d rv μf out) : xRun (d + 1) 99 36 [some (.ref v0), none, some (.ref v2), some (.long v3), none, some (.int v5), some (.int v6), none] [.int s0] μ rv μf := by
  unfold fS_takeShow_36 at h
  refine xr_go 9 (pc' := 6) (lo' := [some (.ref v0), none, some (.ref v2), some (.long v3), none, some (.int ((v5 <<< ((xc 3) &&& 31)) ||| s0)), some (.int (v6 + xc 1)), some (.int s0)]) (st' := []) (μ' := μ) rfl ?_
  refine xr_forget (lo := [some (.ref v0), none, some (.ref v2), some (.long v3), none, some (.int ((v5 <<< ((xc 3) &&& 31)) ||| s0)), some (.int (v6 + xc 1)), none]) ⟨rfl, rfl, rfl, rfl, rfl, trivial⟩ ?_
  have ho := Option.some.inj h
  subst ho
  exact hK
noncomputable def fS_takeShow_L6  (v0 : Nat) (v2 : Nat) (v3 : Int64) (v5 : Int32) (v6 : Int32) (μ : xM) : Option ((Int32 × Int32) ⊕ (Int32 × xM)) := if (xc 3) ≤ v6 then ((fS_takeShow_53 v0 v5 μ).map (fun o => .inr o)) else ((ldF μ v2 5 4).bind fun x17 => if x17 ≤ v6 then (fS_takeShow_36 v0 v2 v3 v5 v6 (xc 0) μ) else ((ldFR μ v2 5 5).bind fun x18 => (ldA μ x18 v6).bind fun x19 => (fL_targetOf v3 x19 μ).bind fun r20 => fS_takeShow_36 v0 v2 v3 v5 v6 r20 μ))
theorem fS_takeShow_L6_ok {d : Nat} {v0 : Nat} {v2 : Nat} {v3 : Int64} {v5 : Int32} {v6 : Int32} {μ : xM} {rv : Option Value} {μf : xM} {out : (Int32 × Int32) ⊕ (Int32 × xM)} (h : fS_takeShow_L6 v0 v2 v3 v5 v6 μ = some out) (hK : fS_takeShow_K6 v0 v2 v3 μ d rv μf out) : xRun (d + 1) 99 6 [some (.ref v0), none, some (.ref v2), some (.long v3), none, some (.int v5), some (.int v6), none] [] μ rv μf := by
  unfold fS_takeShow_L6 at h
  refine xr_go 2 (pc' := 9) (lo' := [some (.ref v0), none, some (.ref v2), some (.long v3), none, some (.int v5), some (.int v6), none]) (st' := [.int (xc 3), .int v6]) (μ' := μ) rfl ?_
  refine xr_icmp (pct := 53) rfl rfl rfl (fun hc => ?_) (fun hc => ?_)
  · replace h := (if_pos (of_decide_eq_true hc)).symm.trans h
    refine xr_forget (lo := [some (.ref v0), none, none, none, none, some (.int v5), none, none]) ⟨rfl, rfl, trivial⟩ ?_
    obtain ⟨o, h2, rfl⟩ := Option.map_eq_some_iff.mp h
    exact fS_takeShow_53_ok h2 hK
  · replace h := (if_neg (of_decide_eq_false hc)).symm.trans h
    refine xr_go 2 (pc' := 15) (lo' := [some (.ref v0), none, some (.ref v2), some (.long v3), none, some (.int v5), some (.int v6), none]) (st' := [.ref v2, .int v6]) (μ' := μ) rfl ?_
    obtain ⟨x17, hx17, h⟩ := Option.bind_eq_some_iff.mp h
    refine xr_opI (pc' := 18) (lo' := [some (.ref v0), none, some (.ref v2), some (.long v3), none, some (.int v5), some (.int v6), none]) (st' := [.int v6]) (o := ldF μ v2 5 4) rfl hx17 ?_
    refine xr_icmp (pct := 35) rfl rfl rfl (fun hc => ?_) (fun hc => ?_)
    · replace h := (if_pos (of_decide_eq_true hc)).symm.trans h
      refine xr_go 1 (pc' := 36) (lo' := [some (.ref v0), none, some (.ref v2), some (.long v3), none, some (.int v5), some (.int v6), none]) (st' := [.int (xc 0)]) (μ' := μ) rfl ?_
      refine xr_forget (lo := [some (.ref v0), none, some (.ref v2), some (.long v3), none, some (.int v5), some (.int v6), none]) ⟨rfl, rfl, rfl, rfl, rfl, trivial⟩ ?_
      exact fS_takeShow_36_ok h hK
    · replace h := (if_neg (of_decide_eq_false hc)).symm.trans h
      refine xr_go 2 (pc' := 23) (lo' := [some (.ref v0), none, some (.ref v2), some (.long v3), none, some (.int v5), some (.int v6), none]) (st' := [.ref v2, .long v3]) (μ' := μ) rfl ?_
      obtain ⟨x18, hx18, h⟩ := Option.bind_eq_some_iff.mp h
      refine xr_opA (pc' := 26) (lo' := [some (.ref v0), none, some (.ref v2), some (.long v3), none, some (.int v5), some (.int v6), none]) (st' := [.long v3]) (o := ldFR μ v2 5 5) rfl hx18 ?_
      refine xr_go 1 (pc' := 28) (lo' := [some (.ref v0), none, some (.ref v2), some (.long v3), none, some (.int v5), some (.int v6), none]) (st' := [.int v6, .ref x18, .long v3]) (μ' := μ) rfl ?_
      obtain ⟨x19, hx19, h⟩ := Option.bind_eq_some_iff.mp h
      refine xr_opI (pc' := 29) (lo' := [some (.ref v0), none, some (.ref v2), some (.long v3), none, some (.int v5), some (.int v6), none]) (st' := [.long v3]) (o := ldA μ x18 v6) rfl hx19 ?_
      obtain ⟨r20, hr20, h⟩ := Option.bind_eq_some_iff.mp h
      refine xr_callS (j := 73) (d' := (d + 0)) (rv1 := some (.int r20)) (μ1 := μ) (rest := []) (As := [.long v3, .int x19]) rfl rfl rfl rfl (Nat.le_of_ble_eq_true rfl) rfl (by exact (fL_targetOf_ok (d := d + (0)) hr20)) ?_
      refine xr_go 1 (pc' := 36) (lo' := [some (.ref v0), none, some (.ref v2), some (.long v3), none, some (.int v5), some (.int v6), none]) (st' := [.int r20]) (μ' := μ) rfl ?_
      refine xr_forget (lo := [some (.ref v0), none, some (.ref v2), some (.long v3), none, some (.int v5), some (.int v6), none]) ⟨rfl, rfl, rfl, rfl, rfl, trivial⟩ ?_
      exact fS_takeShow_36_ok h hK
theorem fS_takeShow_L6_lp {d : Nat} {v0 : Nat} {v2 : Nat} {v3 : Int64} {v5 : Int32} {v6 : Int32} {μ : xM} {rv : Option Value} {μf : xM} {out : Int32 × xM} (h : xwh (fun s : Int32 × Int32 => fS_takeShow_L6 v0 v2 v3 s.1 s.2 μ) (v5, v6) = some out) (hK : fS_takeShow_K rv μf out) : xRun (d + 1) 99 6 [some (.ref v0), none, some (.ref v2), some (.long v3), none, some (.int v5), some (.int v6), none] [] μ rv μf :=
  xwh_ind (Rh := fun s : Int32 × Int32 => xRun (d + 1) 99 6 [some (.ref v0), none, some (.ref v2), some (.long v3), none, some (.int s.1), some (.int s.2), none] [] μ rv μf) (Co := fS_takeShow_K rv μf) (fun s o hb hk => fS_takeShow_L6_ok hb hk) h hK
noncomputable def fS_takeShow_0  (v0 : Nat) (v1 : Int32) (v2 : Nat) (v3 : Int64) (μ : xM) : Option (Int32 × xM) := xwh (fun s : Int32 × Int32 => fS_takeShow_L6 v0 v2 v3 s.1 s.2 μ) (v1, xc 0)
theorem fS_takeShow_0_ok {d : Nat} {v0 : Nat} {v1 : Int32} {v2 : Nat} {v3 : Int64} {μ : xM} {rv : Option Value} {μf : xM} {out : Int32 × xM} (h : fS_takeShow_0 v0 v1 v2 v3 μ = some out) (hK : fS_takeShow_K rv μf out) : xRun (d + 1) 99 0 [some (.ref v0), some (.int v1), some (.ref v2), some (.long v3), none, none, none, none] [] μ rv μf := by
  unfold fS_takeShow_0 at h
  refine xr_go 4 (pc' := 6) (lo' := [some (.ref v0), some (.int v1), some (.ref v2), some (.long v3), none, some (.int v1), some (.int (xc 0)), none]) (st' := []) (μ' := μ) rfl ?_
  refine xr_forget (lo := [some (.ref v0), none, some (.ref v2), some (.long v3), none, some (.int v1), some (.int (xc 0)), none]) ⟨rfl, rfl, rfl, rfl, rfl, trivial⟩ ?_
  exact fS_takeShow_L6_lp h hK
noncomputable def fS_takeShow (a0 : Nat) (a1 : Int32) (a2 : Nat) (a3 : Int64) (μ : xM) : Option (Int32 × xM) := xgd μ a0 6 (fS_takeShow_0 a0 a1 a2 a3 μ)
theorem fS_takeShow_kd {a0 : Nat} {a1 : Int32} {a2 : Nat} {a3 : Int64} {μ : xM} {o : Int32 × xM} (h : fS_takeShow a0 a1 a2 a3 μ = some o) : (xK μ a0).1 = 10 + 6 := (xgd_some h).1
theorem fS_takeShow_ok {d : Nat} {a0 : Nat} {a1 : Int32} {a2 : Nat} {a3 : Int64} {μ : xM} {o : Int32 × xM} (h : fS_takeShow a0 a1 a2 a3 μ = some o) : xRun (d + 1) 99 0 [some (.ref a0), some (.int a1), some (.ref a2), some (.long a3), none, none, none, none] [] μ (some (.int o.1)) o.2 :=
  xr_forget (lo := [some (.ref a0), some (.int a1), some (.ref a2), some (.long a3), none, none, none, none]) (⟨rfl, rfl, rfl, rfl, trivial⟩) (fS_takeShow_0_ok (d := d) (xgd_some h).2 (show fS_takeShow_K _ _ o from ⟨rfl, rfl⟩))
-- KeptAnswers$Leading.lead(JII)J 
def fL_lead_K (μ : xM) (rv : Option Value) (μf : xM) : (Int64) → Prop := fun o => rv = some (.long o) ∧ μf = μ
noncomputable def fL_lead_21  (v0 : Int64) (μ : xM) : Option (Int64) := some v0
theorem fL_lead_21_ok {d : Nat} {v0 : Int64} {μ : xM} {rv : Option Value} {μf : xM} {out : Int64} (h : fL_lead_21 v0 μ = some out) (hK : fL_lead_K μ rv μf out) : xRun (d + 1) 74 21 [some (.long v0), none, none, none, none] [] μ rv μf := by
  unfold fL_lead_21 at h
  refine xr_go 1 (pc' := 22) (lo' := [some (.long v0), none, none, none, none]) (st' := [.long v0]) (μ' := μ) rfl ?_
  have ho := Option.some.inj h
  subst ho
  obtain ⟨rfl, rfl⟩ := hK
  exact xr_ret (rv := some (.long v0)) rfl rfl (rfl)
noncomputable def fL_lead_0  (v0 : Int64) (v2 : Int32) (v3 : Int32) (μ : xM) : Option (Int64) := (fL_targetOf v0 v2 μ).bind fun r1 => if (lg_cmp v0 (Int64.ofNat 18446744073709551615)) = 0 then (fL_lead_21 v0 μ) else (if r1 = v3 then (fL_lead_21 v0 μ) else (if (lg_cmp (Int32.toInt64 r1) (Int64.ofNat 31)) = 0 then (some (v0 ^^^ (((Int64.ofNat 31) ^^^ (Int32.toInt64 v3)) <<< (Int32.toInt64 ((xc 5) * v2) &&& 63)))) else (some (Int64.ofNat 18446744073709551615))))
theorem fL_lead_0_ok {d : Nat} {v0 : Int64} {v2 : Int32} {v3 : Int32} {μ : xM} {rv : Option Value} {μf : xM} {out : Int64} (h : fL_lead_0 v0 v2 v3 μ = some out) (hK : fL_lead_K μ rv μf out) : xRun (d + 1) 74 0 [some (.long v0), none, some (.int v2), some (.int v3), none] [] μ rv μf := by
  unfold fL_lead_0 at h
  refine xr_go 2 (pc' := 2) (lo' := [some (.long v0), none, some (.int v2), some (.int v3), none]) (st' := [.int v2, .long v0]) (μ' := μ) rfl ?_
  obtain ⟨r1, hr1, h⟩ := Option.bind_eq_some_iff.mp h
  refine xr_callS (j := 73) (d' := (d + 0)) (rv1 := some (.int r1)) (μ1 := μ) (rest := []) (As := [.long v0, .int v2]) rfl rfl rfl rfl (Nat.le_of_ble_eq_true rfl) rfl (by exact (fL_targetOf_ok (d := d + (0)) hr1)) ?_
  refine xr_go 4 (pc' := 12) (lo' := [some (.long v0), none, some (.int v2), some (.int v3), some (.int r1)]) (st' := [.int (lg_cmp v0 (Int64.ofNat 18446744073709551615))]) (μ' := μ) rfl ?_
  refine xr_ifc (pct := 21) rfl rfl rfl (fun hc => ?_) (fun hc => ?_)
  · replace h := (if_pos (of_decide_eq_true hc)).symm.trans h
    refine xr_forget (lo := [some (.long v0), none, none, none, none]) ⟨rfl, trivial⟩ ?_
    exact fL_lead_21_ok h hK
  · replace h := (if_neg (of_decide_eq_false hc)).symm.trans h
    refine xr_go 2 (pc' := 18) (lo' := [some (.long v0), none, some (.int v2), some (.int v3), some (.int r1)]) (st' := [.int v3, .int r1]) (μ' := μ) rfl ?_
    refine xr_icmp (pct := 23) rfl rfl rfl (fun hc => ?_) (fun hc => ?_)
    · replace h := (if_neg (of_decide_eq_true hc)).symm.trans h
      refine xr_go 4 (pc' := 30) (lo' := [some (.long v0), none, some (.int v2), some (.int v3), some (.int r1)]) (st' := [.int (lg_cmp (Int32.toInt64 r1) (Int64.ofNat 31))]) (μ' := μ) rfl ?_
      refine xr_ifc (pct := 48) rfl rfl rfl (fun hc => ?_) (fun hc => ?_)
      · replace h := (if_neg (of_decide_eq_true hc)).symm.trans h
        refine xr_go 1 (pc' := 51) (lo' := [some (.long v0), none, some (.int v2), some (.int v3), some (.int r1)]) (st' := [.long (Int64.ofNat 18446744073709551615)]) (μ' := μ) rfl ?_
        have ho := Option.some.inj h
        subst ho
        obtain ⟨rfl, rfl⟩ := hK
        exact xr_ret (rv := some (.long (Int64.ofNat 18446744073709551615))) rfl rfl (rfl)
      · replace h := (if_pos (Decidable.of_not_not (of_decide_eq_false hc))).symm.trans h
        refine xr_go 11 (pc' := 51) (lo' := [some (.long v0), none, some (.int v2), some (.int v3), some (.int r1)]) (st' := [.long (v0 ^^^ (((Int64.ofNat 31) ^^^ (Int32.toInt64 v3)) <<< (Int32.toInt64 ((xc 5) * v2) &&& 63)))]) (μ' := μ) rfl ?_
        have ho := Option.some.inj h
        subst ho
        obtain ⟨rfl, rfl⟩ := hK
        exact xr_ret (rv := some (.long (v0 ^^^ (((Int64.ofNat 31) ^^^ (Int32.toInt64 v3)) <<< (Int32.toInt64 ((xc 5) * v2) &&& 63))))) rfl rfl (rfl)
    · replace h := (if_pos (Decidable.of_not_not (of_decide_eq_false hc))).symm.trans h
      refine xr_forget (lo := [some (.long v0), none, none, none, none]) ⟨rfl, trivial⟩ ?_
      exact fL_lead_21_ok h hK
noncomputable def fL_lead (a0 : Int64) (a1 : Int32) (a2 : Int32) (μ : xM) : Option (Int64) := fL_lead_0 a0 a1 a2 μ
theorem fL_lead_ok {d : Nat} {a0 : Int64} {a1 : Int32} {a2 : Int32} {μ : xM} {o : Int64} (h : fL_lead a0 a1 a2 μ = some o) : xRun (d + 1) 74 0 [some (.long a0), none, some (.int a1), some (.int a2), none] [] μ (some (.long o)) μ :=
  xr_forget (lo := [some (.long a0), none, some (.int a1), some (.int a2), none]) (⟨rfl, rfl, rfl, trivial⟩) (fL_lead_0_ok (d := d) h (show fL_lead_K μ _ _ o from ⟨rfl, rfl⟩))
-- KeptAnswers$Leading.leadRows(LKeptAnswers$Picture;LKeptAnswers$Picture;JILKeptAnswers$Sight;I)Z A
def fL_leadRowsA_K (rv : Option Value) (μf : xM) : (Int32 × xM) → Prop := fun o => rv = some (.int o.1) ∧ μf = o.2
def fL_leadRowsA_K51 (v0 : Nat) (v1 : Nat) (v2 : Int64) (v4 : Int32) (v5 : Nat) (v6 : Int32) (d : Nat) (k0 : Nat) (rv : Option Value) (μf : xM) : ((Int32 × xM) ⊕ (Int32 × xM)) → Prop := Sum.elim (fun s : Int32 × xM => xRun (d + (k0 + 2)) 75 51 [some (.ref v0), some (.ref v1), some (.long v2), none, some (.int v4), some (.ref v5), some (.int v6), some (.int s.1), none, none] [] s.2 rv μf) (fL_leadRowsA_K rv μf)
def fL_leadRowsA_hrc (rc : Nat → Nat → Int64 → Int32 → Nat → Int32 → xM → Option (Int32 × xM)) (k0 : Nat) : Prop := ∀ (d : Nat) (a0 : Nat) (a1 : Nat) (a2 : Int64) (a3 : Int32) (a4 : Nat) (a5 : Int32) (μ : xM) (o : Int32 × xM), rc a0 a1 a2 a3 a4 a5 μ = some o → xRun (d + (k0 + 1)) 75 0 [some (.ref a0), some (.ref a1), some (.long a2), none, some (.int a3), some (.ref a4), some (.int a5), none, none, none] [] μ (some (.int o.1)) o.2
theorem fL_leadRowsA_hrc_use {rc : Nat → Nat → Int64 → Int32 → Nat → Int32 → xM → Option (Int32 × xM)} {k0 d : Nat} (hrc : fL_leadRowsA_hrc rc k0) {a0 : Nat} {a1 : Nat} {a2 : Int64} {a3 : Int32} {a4 : Nat} {a5 : Int32} {μ : xM} {o : Int32 × xM} (h : rc a0 a1 a2 a3 a4 a5 μ = some o) : xRun (d + (k0 + 1)) 75 0 [some (.ref a0), some (.ref a1), some (.long a2), none, some (.int a3), some (.ref a4), some (.int a5), none, none, none] [] μ (some (.int o.1)) o.2 := hrc d a0 a1 a2 a3 a4 a5 μ o h
noncomputable def fL_leadRowsA_147 (rc : Nat → Nat → Int64 → Int32 → Nat → Int32 → xM → Option (Int32 × xM))  (μ : xM) : Option (Int32 × xM) := some ((xc 0, μ))
theorem fL_leadRowsA_147_ok {d : Nat} {rc : Nat → Nat → Int64 → Int32 → Nat → Int32 → xM → Option (Int32 × xM)} {k0 : Nat} (hrc : fL_leadRowsA_hrc rc k0) {μ : xM} {rv : Option Value} {μf : xM} {out : Int32 × xM} (h : fL_leadRowsA_147 rc μ = some out) (hK : fL_leadRowsA_K rv μf out) : xRun (d + (k0 + 2)) 75 147 [none, none, none, none, none, none, none, none, none, none] [] μ rv μf := by
  unfold fL_leadRowsA_147 at h
  refine xr_go 1 (pc' := 148) (lo' := [none, none, none, none, none, none, none, none, none, none]) (st' := [.int (xc 0)]) (μ' := μ) rfl ?_
  have ho := Option.some.inj h
  subst ho
  obtain ⟨rfl, rfl⟩ := hK
  exact xr_ret (rv := some (.int (xc 0))) rfl rfl (Or.inr ⟨rfl, Or.inl rfl⟩)
noncomputable def fL_leadRowsA_141 (rc : Nat → Nat → Int64 → Int32 → Nat → Int32 → xM → Option (Int32 × xM))  (v0 : Nat) (v1 : Nat) (v2 : Int64) (v4 : Int32) (v5 : Nat) (v6 : Int32) (v7 : Int32) (μ : xM) : Option ((Int32 × xM) ⊕ (Int32 × xM)) := some (.inl ((v7 + xc 1, μ)))
theorem fL_leadRowsA_141_ok {d : Nat} {rc : Nat → Nat → Int64 → Int32 → Nat → Int32 → xM → Option (Int32 × xM)} {k0 : Nat} (hrc : fL_leadRowsA_hrc rc k0) {v0 : Nat} {v1 : Nat} {v2 : Int64} {v4 : Int32} {v5 : Nat} {v6 : Int32} {v7 : Int32} {μ : xM} {rv : Option Value} {μf : xM} {out : (Int32 × xM) ⊕ (Int32 × xM)} (h : fL_leadRowsA_141 rc v0 v1 v2 v4 v5 v6 v7 μ = some out) (hK : fL_leadRowsA_K51 v0 v1 v2 v4 v5 v6 d k0 rv μf out) : xRun (d + (k0 + 2)) 75 141 [some (.ref v0), some (.ref v1), some (.long v2), none, some (.int v4), some (.ref v5), some (.int v6), some (.int v7), none, none] [] μ rv μf := by
  unfold fL_leadRowsA_141 at h
  refine xr_go 2 (pc' := 51) (lo' := [some (.ref v0), some (.ref v1), some (.long v2), none, some (.int v4), some (.ref v5), some (.int v6), some (.int (v7 + xc 1)), none, none]) (st' := []) (μ' := μ) rfl ?_
  refine xr_forget (lo := [some (.ref v0), some (.ref v1), some (.long v2), none, some (.int v4), some (.ref v5), some (.int v6), some (.int (v7 + xc 1)), none, none]) ⟨rfl, rfl, rfl, rfl, rfl, rfl, rfl, trivial⟩ ?_
  have ho := Option.some.inj h
  subst ho
  exact hK
noncomputable def fL_leadRowsA_139 (rc : Nat → Nat → Int64 → Int32 → Nat → Int32 → xM → Option (Int32 × xM))  (μ : xM) : Option (Int32 × xM) := some ((xc 1, μ))
theorem fL_leadRowsA_139_ok {d : Nat} {rc : Nat → Nat → Int64 → Int32 → Nat → Int32 → xM → Option (Int32 × xM)} {k0 : Nat} (hrc : fL_leadRowsA_hrc rc k0) {μ : xM} {rv : Option Value} {μf : xM} {out : Int32 × xM} (h : fL_leadRowsA_139 rc μ = some out) (hK : fL_leadRowsA_K rv μf out) : xRun (d + (k0 + 2)) 75 139 [none, none, none, none, none, none, none, none, none, none] [] μ rv μf := by
  unfold fL_leadRowsA_139 at h
  refine xr_go 1 (pc' := 140) (lo' := [none, none, none, none, none, none, none, none, none, none]) (st' := [.int (xc 1)]) (μ' := μ) rfl ?_
  have ho := Option.some.inj h
  subst ho
  obtain ⟨rfl, rfl⟩ := hK
  exact xr_ret (rv := some (.int (xc 1))) rfl rfl (Or.inr ⟨rfl, Or.inr rfl⟩)
noncomputable def fL_leadRowsA_L51 (rc : Nat → Nat → Int64 → Int32 → Nat → Int32 → xM → Option (Int32 × xM))  (v0 : Nat) (v1 : Nat) (v2 : Int64) (v4 : Int32) (v5 : Nat) (v6 : Int32) (v7 : Int32) (μ : xM) : Option ((Int32 × xM) ⊕ (Int32 × xM)) := (ldF μ v1 5 0).bind fun x1 => if x1 ≤ v7 then ((fL_leadRowsA_147 rc μ).map (fun o => .inr o)) else ((ldFR μ v1 5 1).bind fun x2 => (ldA μ x2 v7).bind fun x3 => (ldFR μ v0 5 1).bind fun x4 => (ldA μ x4 v4).bind fun x5 => if x3 = x5 then ((ldFR μ v0 5 2).bind fun x6 => (ldA μ x6 v4).bind fun x7 => (ldFR μ v1 5 2).bind fun x8 => (ldA μ x8 v7).bind fun x9 => (fL_lead v2 x7 x9 μ).bind fun r10 => (ldFR μ v0 5 3).bind fun x11 => (ldA μ x11 v4).bind fun x12 => (ldFR μ v1 5 3).bind fun x13 => (ldA μ x13 v7).bind fun x14 => (fL_lead r10 x12 x14 μ).bind fun r15 => (rc v0 v1 r15 (v4 + (xc 1)) v5 v6 μ).bind fun r16 => if r16.1 = 0 then (fL_leadRowsA_141 rc v0 v1 v2 v4 v5 v6 v7 r16.2) else ((fL_leadRowsA_139 rc r16.2).map (fun o => .inr o))) else (fL_leadRowsA_141 rc v0 v1 v2 v4 v5 v6 v7 μ))
theorem fL_leadRowsA_L51_ok {d : Nat} {rc : Nat → Nat → Int64 → Int32 → Nat → Int32 → xM → Option (Int32 × xM)} {k0 : Nat} (hrc : fL_leadRowsA_hrc rc k0) {v0 : Nat} {v1 : Nat} {v2 : Int64} {v4 : Int32} {v5 : Nat} {v6 : Int32} {v7 : Int32} {μ : xM} {rv : Option Value} {μf : xM} {out : (Int32 × xM) ⊕ (Int32 × xM)} (h : fL_leadRowsA_L51 rc v0 v1 v2 v4 v5 v6 v7 μ = some out) (hK : fL_leadRowsA_K51 v0 v1 v2 v4 v5 v6 d k0 rv μf out) : xRun (d + (k0 + 2)) 75 51 [some (.ref v0), some (.ref v1), some (.long v2), none, some (.int v4), some (.ref v5), some (.int v6), some (.int v7), none, none] [] μ rv μf := by
  unfold fL_leadRowsA_L51 at h
  refine xr_go 2 (pc' := 54) (lo' := [some (.ref v0), some (.ref v1), some (.long v2), none, some (.int v4), some (.ref v5), some (.int v6), some (.int v7), none, none]) (st' := [.ref v1, .int v7]) (μ' := μ) rfl ?_
  obtain ⟨x1, hx1, h⟩ := Option.bind_eq_some_iff.mp h
  refine xr_opI (pc' := 57) (lo' := [some (.ref v0), some (.ref v1), some (.long v2), none, some (.int v4), some (.ref v5), some (.int v6), some (.int v7), none, none]) (st' := [.int v7]) (o := ldF μ v1 5 0) rfl hx1 ?_
  refine xr_icmp (pct := 147) rfl rfl rfl (fun hc => ?_) (fun hc => ?_)
  · replace h := (if_pos (of_decide_eq_true hc)).symm.trans h
    refine xr_forget (lo := [none, none, none, none, none, none, none, none, none, none]) trivial ?_
    obtain ⟨o, h2, rfl⟩ := Option.map_eq_some_iff.mp h
    exact fL_leadRowsA_147_ok hrc h2 hK
  · replace h := (if_neg (of_decide_eq_false hc)).symm.trans h
    refine xr_go 1 (pc' := 61) (lo' := [some (.ref v0), some (.ref v1), some (.long v2), none, some (.int v4), some (.ref v5), some (.int v6), some (.int v7), none, none]) (st' := [.ref v1]) (μ' := μ) rfl ?_
    obtain ⟨x2, hx2, h⟩ := Option.bind_eq_some_iff.mp h
    refine xr_opA (pc' := 64) (lo' := [some (.ref v0), some (.ref v1), some (.long v2), none, some (.int v4), some (.ref v5), some (.int v6), some (.int v7), none, none]) (st' := []) (o := ldFR μ v1 5 1) rfl hx2 ?_
    refine xr_go 1 (pc' := 66) (lo' := [some (.ref v0), some (.ref v1), some (.long v2), none, some (.int v4), some (.ref v5), some (.int v6), some (.int v7), none, none]) (st' := [.int v7, .ref x2]) (μ' := μ) rfl ?_
    obtain ⟨x3, hx3, h⟩ := Option.bind_eq_some_iff.mp h
    refine xr_opI (pc' := 67) (lo' := [some (.ref v0), some (.ref v1), some (.long v2), none, some (.int v4), some (.ref v5), some (.int v6), some (.int v7), none, none]) (st' := []) (o := ldA μ x2 v7) rfl hx3 ?_
    refine xr_go 1 (pc' := 68) (lo' := [some (.ref v0), some (.ref v1), some (.long v2), none, some (.int v4), some (.ref v5), some (.int v6), some (.int v7), none, none]) (st' := [.ref v0, .int x3]) (μ' := μ) rfl ?_
    obtain ⟨x4, hx4, h⟩ := Option.bind_eq_some_iff.mp h
    refine xr_opA (pc' := 71) (lo' := [some (.ref v0), some (.ref v1), some (.long v2), none, some (.int v4), some (.ref v5), some (.int v6), some (.int v7), none, none]) (st' := [.int x3]) (o := ldFR μ v0 5 1) rfl hx4 ?_
    refine xr_go 1 (pc' := 73) (lo' := [some (.ref v0), some (.ref v1), some (.long v2), none, some (.int v4), some (.ref v5), some (.int v6), some (.int v7), none, none]) (st' := [.int v4, .ref x4, .int x3]) (μ' := μ) rfl ?_
    obtain ⟨x5, hx5, h⟩ := Option.bind_eq_some_iff.mp h
    refine xr_opI (pc' := 74) (lo' := [some (.ref v0), some (.ref v1), some (.long v2), none, some (.int v4), some (.ref v5), some (.int v6), some (.int v7), none, none]) (st' := [.int x3]) (o := ldA μ x4 v4) rfl hx5 ?_
    refine xr_icmp (pct := 80) rfl rfl rfl (fun hc => ?_) (fun hc => ?_)
    · replace h := (if_pos (of_decide_eq_true hc)).symm.trans h
      refine xr_go 2 (pc' := 82) (lo' := [some (.ref v0), some (.ref v1), some (.long v2), none, some (.int v4), some (.ref v5), some (.int v6), some (.int v7), none, none]) (st' := [.ref v0, .long v2]) (μ' := μ) rfl ?_
      obtain ⟨x6, hx6, h⟩ := Option.bind_eq_some_iff.mp h
      refine xr_opA (pc' := 85) (lo' := [some (.ref v0), some (.ref v1), some (.long v2), none, some (.int v4), some (.ref v5), some (.int v6), some (.int v7), none, none]) (st' := [.long v2]) (o := ldFR μ v0 5 2) rfl hx6 ?_
      refine xr_go 1 (pc' := 87) (lo' := [some (.ref v0), some (.ref v1), some (.long v2), none, some (.int v4), some (.ref v5), some (.int v6), some (.int v7), none, none]) (st' := [.int v4, .ref x6, .long v2]) (μ' := μ) rfl ?_
      obtain ⟨x7, hx7, h⟩ := Option.bind_eq_some_iff.mp h
      refine xr_opI (pc' := 88) (lo' := [some (.ref v0), some (.ref v1), some (.long v2), none, some (.int v4), some (.ref v5), some (.int v6), some (.int v7), none, none]) (st' := [.long v2]) (o := ldA μ x6 v4) rfl hx7 ?_
      refine xr_go 1 (pc' := 89) (lo' := [some (.ref v0), some (.ref v1), some (.long v2), none, some (.int v4), some (.ref v5), some (.int v6), some (.int v7), none, none]) (st' := [.ref v1, .int x7, .long v2]) (μ' := μ) rfl ?_
      obtain ⟨x8, hx8, h⟩ := Option.bind_eq_some_iff.mp h
      refine xr_opA (pc' := 92) (lo' := [some (.ref v0), some (.ref v1), some (.long v2), none, some (.int v4), some (.ref v5), some (.int v6), some (.int v7), none, none]) (st' := [.int x7, .long v2]) (o := ldFR μ v1 5 2) rfl hx8 ?_
      refine xr_go 1 (pc' := 94) (lo' := [some (.ref v0), some (.ref v1), some (.long v2), none, some (.int v4), some (.ref v5), some (.int v6), some (.int v7), none, none]) (st' := [.int v7, .ref x8, .int x7, .long v2]) (μ' := μ) rfl ?_
      obtain ⟨x9, hx9, h⟩ := Option.bind_eq_some_iff.mp h
      refine xr_opI (pc' := 95) (lo' := [some (.ref v0), some (.ref v1), some (.long v2), none, some (.int v4), some (.ref v5), some (.int v6), some (.int v7), none, none]) (st' := [.int x7, .long v2]) (o := ldA μ x8 v7) rfl hx9 ?_
      obtain ⟨r10, hr10, h⟩ := Option.bind_eq_some_iff.mp h
      refine xr_callS (j := 74) (d' := (d + (k0 + 1))) (rv1 := some (.long r10)) (μ1 := μ) (rest := []) (As := [.long v2, .int x7, .int x9]) rfl rfl rfl rfl (Nat.le_of_ble_eq_true rfl) rfl (by exact (fL_lead_ok (d := d + (k0 + 0)) hr10)) ?_
      refine xr_go 3 (pc' := 103) (lo' := [some (.ref v0), some (.ref v1), some (.long v2), none, some (.int v4), some (.ref v5), some (.int v6), some (.int v7), some (.long r10), none]) (st' := [.ref v0, .long r10]) (μ' := μ) rfl ?_
      obtain ⟨x11, hx11, h⟩ := Option.bind_eq_some_iff.mp h
      refine xr_opA (pc' := 106) (lo' := [some (.ref v0), some (.ref v1), some (.long v2), none, some (.int v4), some (.ref v5), some (.int v6), some (.int v7), some (.long r10), none]) (st' := [.long r10]) (o := ldFR μ v0 5 3) rfl hx11 ?_
      refine xr_go 1 (pc' := 108) (lo' := [some (.ref v0), some (.ref v1), some (.long v2), none, some (.int v4), some (.ref v5), some (.int v6), some (.int v7), some (.long r10), none]) (st' := [.int v4, .ref x11, .long r10]) (μ' := μ) rfl ?_
      obtain ⟨x12, hx12, h⟩ := Option.bind_eq_some_iff.mp h
      refine xr_opI (pc' := 109) (lo' := [some (.ref v0), some (.ref v1), some (.long v2), none, some (.int v4), some (.ref v5), some (.int v6), some (.int v7), some (.long r10), none]) (st' := [.long r10]) (o := ldA μ x11 v4) rfl hx12 ?_
      refine xr_go 1 (pc' := 110) (lo' := [some (.ref v0), some (.ref v1), some (.long v2), none, some (.int v4), some (.ref v5), some (.int v6), some (.int v7), some (.long r10), none]) (st' := [.ref v1, .int x12, .long r10]) (μ' := μ) rfl ?_
      obtain ⟨x13, hx13, h⟩ := Option.bind_eq_some_iff.mp h
      refine xr_opA (pc' := 113) (lo' := [some (.ref v0), some (.ref v1), some (.long v2), none, some (.int v4), some (.ref v5), some (.int v6), some (.int v7), some (.long r10), none]) (st' := [.int x12, .long r10]) (o := ldFR μ v1 5 3) rfl hx13 ?_
      refine xr_go 1 (pc' := 115) (lo' := [some (.ref v0), some (.ref v1), some (.long v2), none, some (.int v4), some (.ref v5), some (.int v6), some (.int v7), some (.long r10), none]) (st' := [.int v7, .ref x13, .int x12, .long r10]) (μ' := μ) rfl ?_
      obtain ⟨x14, hx14, h⟩ := Option.bind_eq_some_iff.mp h
      refine xr_opI (pc' := 116) (lo' := [some (.ref v0), some (.ref v1), some (.long v2), none, some (.int v4), some (.ref v5), some (.int v6), some (.int v7), some (.long r10), none]) (st' := [.int x12, .long r10]) (o := ldA μ x13 v7) rfl hx14 ?_
      obtain ⟨r15, hr15, h⟩ := Option.bind_eq_some_iff.mp h
      refine xr_callS (j := 74) (d' := (d + (k0 + 1))) (rv1 := some (.long r15)) (μ1 := μ) (rest := []) (As := [.long r10, .int x12, .int x14]) rfl rfl rfl rfl (Nat.le_of_ble_eq_true rfl) rfl (by exact (fL_lead_ok (d := d + (k0 + 0)) hr15)) ?_
      refine xr_go 9 (pc' := 133) (lo' := [some (.ref v0), some (.ref v1), some (.long v2), none, some (.int v4), some (.ref v5), some (.int v6), some (.int v7), some (.long r15), none]) (st' := [.int v6, .ref v5, .int (v4 + (xc 1)), .long r15, .ref v1, .ref v0]) (μ' := μ) rfl ?_
      obtain ⟨r16, hr16, h⟩ := Option.bind_eq_some_iff.mp h
      refine xr_callS (j := 75) (d' := (d + (k0 + 1))) (rv1 := some (.int r16.1)) (μ1 := r16.2) (rest := []) (As := [.ref v0, .ref v1, .long r15, .int (v4 + (xc 1)), .ref v5, .int v6]) rfl rfl rfl rfl (Nat.le_of_ble_eq_true rfl) rfl (by exact (fL_leadRowsA_hrc_use hrc hr16)) ?_
      refine xr_ifc (pct := 141) rfl rfl rfl (fun hc => ?_) (fun hc => ?_)
      · replace h := (if_pos (of_decide_eq_true hc)).symm.trans h
        refine xr_forget (lo := [some (.ref v0), some (.ref v1), some (.long v2), none, some (.int v4), some (.ref v5), some (.int v6), some (.int v7), none, none]) ⟨rfl, rfl, rfl, rfl, rfl, rfl, rfl, trivial⟩ ?_
        exact fL_leadRowsA_141_ok hrc h hK
      · replace h := (if_neg (of_decide_eq_false hc)).symm.trans h
        refine xr_forget (lo := [none, none, none, none, none, none, none, none, none, none]) trivial ?_
        obtain ⟨o, h2, rfl⟩ := Option.map_eq_some_iff.mp h
        exact fL_leadRowsA_139_ok hrc h2 hK
    · replace h := (if_neg (of_decide_eq_false hc)).symm.trans h
      refine xr_go 1 (pc' := 141) (lo' := [some (.ref v0), some (.ref v1), some (.long v2), none, some (.int v4), some (.ref v5), some (.int v6), some (.int v7), none, none]) (st' := []) (μ' := μ) rfl ?_
      refine xr_forget (lo := [some (.ref v0), some (.ref v1), some (.long v2), none, some (.int v4), some (.ref v5), some (.int v6), some (.int v7), none, none]) ⟨rfl, rfl, rfl, rfl, rfl, rfl, rfl, trivial⟩ ?_
      exact fL_leadRowsA_141_ok hrc h hK
theorem fL_leadRowsA_L51_lp {d : Nat} {rc : Nat → Nat → Int64 → Int32 → Nat → Int32 → xM → Option (Int32 × xM)} {k0 : Nat} (hrc : fL_leadRowsA_hrc rc k0) {v0 : Nat} {v1 : Nat} {v2 : Int64} {v4 : Int32} {v5 : Nat} {v6 : Int32} {v7 : Int32} {μ : xM} {rv : Option Value} {μf : xM} {out : Int32 × xM} (h : xwh (fun s : Int32 × xM => fL_leadRowsA_L51 rc v0 v1 v2 v4 v5 v6 s.1 s.2) (v7, μ) = some out) (hK : fL_leadRowsA_K rv μf out) : xRun (d + (k0 + 2)) 75 51 [some (.ref v0), some (.ref v1), some (.long v2), none, some (.int v4), some (.ref v5), some (.int v6), some (.int v7), none, none] [] μ rv μf :=
  xwh_ind (Rh := fun s : Int32 × xM => xRun (d + (k0 + 2)) 75 51 [some (.ref v0), some (.ref v1), some (.long v2), none, some (.int v4), some (.ref v5), some (.int v6), some (.int s.1), none, none] [] s.2 rv μf) (Co := fL_leadRowsA_K rv μf) (fun s o hb hk => fL_leadRowsA_L51_ok hrc hb hk) h hK
noncomputable def fL_leadRowsA_25 (rc : Nat → Nat → Int64 → Int32 → Nat → Int32 → xM → Option (Int32 × xM))  (v0 : Nat) (v2 : Int64) (v5 : Nat) (v6 : Int32) (μ : xM) : Option (Int32 × xM) := (fS_takeShow v5 v6 v0 v2 μ).bind fun r17 => if r17.1 = 0 then (some ((xc 1, r17.2))) else (some ((xc 0, r17.2)))
theorem fL_leadRowsA_25_ok {d : Nat} {rc : Nat → Nat → Int64 → Int32 → Nat → Int32 → xM → Option (Int32 × xM)} {k0 : Nat} (hrc : fL_leadRowsA_hrc rc k0) {v0 : Nat} {v2 : Int64} {v5 : Nat} {v6 : Int32} {μ : xM} {rv : Option Value} {μf : xM} {out : Int32 × xM} (h : fL_leadRowsA_25 rc v0 v2 v5 v6 μ = some out) (hK : fL_leadRowsA_K rv μf out) : xRun (d + (k0 + 2)) 75 25 [some (.ref v0), none, some (.long v2), none, none, some (.ref v5), some (.int v6), none, none, none] [] μ rv μf := by
  unfold fL_leadRowsA_25 at h
  refine xr_go 6 (pc' := 36) (lo' := [some (.ref v0), none, some (.long v2), none, none, some (.ref v5), some (.int v6), none, none, none]) (st' := [.long v2, .ref v0, .int v6, .ref v5]) (μ' := μ) rfl ?_
  obtain ⟨r17, hr17, h⟩ := Option.bind_eq_some_iff.mp h
  refine xr_callV (j := 99) (d' := (d + (k0 + 1))) (rv1 := some (.int r17.1)) (μ1 := r17.2) (rest := []) (As := [.int v6, .ref v0, .long v2]) rfl rfl rfl rfl (Nat.le_of_ble_eq_true rfl) (fS_takeShow_kd hr17) rfl (by exact (fS_takeShow_ok (d := d + (k0 + 0)) hr17)) ?_
  refine xr_ifc (pct := 46) rfl rfl rfl (fun hc => ?_) (fun hc => ?_)
  · replace h := (if_neg (of_decide_eq_true hc)).symm.trans h
    refine xr_go 1 (pc' := 47) (lo' := [some (.ref v0), none, some (.long v2), none, none, some (.ref v5), some (.int v6), none, none, none]) (st' := [.int (xc 0)]) (μ' := r17.2) rfl ?_
    have ho := Option.some.inj h
    subst ho
    obtain ⟨rfl, rfl⟩ := hK
    exact xr_ret (rv := some (.int (xc 0))) rfl rfl (Or.inr ⟨rfl, Or.inl rfl⟩)
  · replace h := (if_pos (Decidable.of_not_not (of_decide_eq_false hc))).symm.trans h
    refine xr_go 2 (pc' := 47) (lo' := [some (.ref v0), none, some (.long v2), none, none, some (.ref v5), some (.int v6), none, none, none]) (st' := [.int (xc 1)]) (μ' := r17.2) rfl ?_
    have ho := Option.some.inj h
    subst ho
    obtain ⟨rfl, rfl⟩ := hK
    exact xr_ret (rv := some (.int (xc 1))) rfl rfl (Or.inr ⟨rfl, Or.inr rfl⟩)
noncomputable def fL_leadRowsA_0 (rc : Nat → Nat → Int64 → Int32 → Nat → Int32 → xM → Option (Int32 × xM))  (v0 : Nat) (v1 : Nat) (v2 : Int64) (v4 : Int32) (v5 : Nat) (v6 : Int32) (μ : xM) : Option (Int32 × xM) := if (lg_cmp v2 (Int64.ofNat 18446744073709551615)) = 0 then (some ((xc 0, μ))) else ((ldF μ v0 5 0).bind fun x18 => if x18 ≤ v4 then (fL_leadRowsA_25 rc v0 v2 v5 v6 μ) else (if v4 < (xc 4) then (xwh (fun s : Int32 × xM => fL_leadRowsA_L51 rc v0 v1 v2 v4 v5 v6 s.1 s.2) (xc 0, μ)) else (fL_leadRowsA_25 rc v0 v2 v5 v6 μ)))
theorem fL_leadRowsA_0_ok {d : Nat} {rc : Nat → Nat → Int64 → Int32 → Nat → Int32 → xM → Option (Int32 × xM)} {k0 : Nat} (hrc : fL_leadRowsA_hrc rc k0) {v0 : Nat} {v1 : Nat} {v2 : Int64} {v4 : Int32} {v5 : Nat} {v6 : Int32} {μ : xM} {rv : Option Value} {μf : xM} {out : Int32 × xM} (h : fL_leadRowsA_0 rc v0 v1 v2 v4 v5 v6 μ = some out) (hK : fL_leadRowsA_K rv μf out) : xRun (d + (k0 + 2)) 75 0 [some (.ref v0), some (.ref v1), some (.long v2), none, some (.int v4), some (.ref v5), some (.int v6), none, none, none] [] μ rv μf := by
  unfold fL_leadRowsA_0 at h
  refine xr_go 3 (pc' := 5) (lo' := [some (.ref v0), some (.ref v1), some (.long v2), none, some (.int v4), some (.ref v5), some (.int v6), none, none, none]) (st' := [.int (lg_cmp v2 (Int64.ofNat 18446744073709551615))]) (μ' := μ) rfl ?_
  refine xr_ifc (pct := 10) rfl rfl rfl (fun hc => ?_) (fun hc => ?_)
  · replace h := (if_neg (of_decide_eq_true hc)).symm.trans h
    refine xr_go 2 (pc' := 13) (lo' := [some (.ref v0), some (.ref v1), some (.long v2), none, some (.int v4), some (.ref v5), some (.int v6), none, none, none]) (st' := [.ref v0, .int v4]) (μ' := μ) rfl ?_
    obtain ⟨x18, hx18, h⟩ := Option.bind_eq_some_iff.mp h
    refine xr_opI (pc' := 16) (lo' := [some (.ref v0), some (.ref v1), some (.long v2), none, some (.int v4), some (.ref v5), some (.int v6), none, none, none]) (st' := [.int v4]) (o := ldF μ v0 5 0) rfl hx18 ?_
    refine xr_icmp (pct := 25) rfl rfl rfl (fun hc => ?_) (fun hc => ?_)
    · replace h := (if_pos (of_decide_eq_true hc)).symm.trans h
      refine xr_forget (lo := [some (.ref v0), none, some (.long v2), none, none, some (.ref v5), some (.int v6), none, none, none]) ⟨rfl, rfl, rfl, rfl, trivial⟩ ?_
      exact fL_leadRowsA_25_ok hrc h hK
    · replace h := (if_neg (of_decide_eq_false hc)).symm.trans h
      refine xr_go 2 (pc' := 22) (lo' := [some (.ref v0), some (.ref v1), some (.long v2), none, some (.int v4), some (.ref v5), some (.int v6), none, none, none]) (st' := [.int (xc 4), .int v4]) (μ' := μ) rfl ?_
      refine xr_icmp (pct := 48) rfl rfl rfl (fun hc => ?_) (fun hc => ?_)
      · replace h := (if_pos (of_decide_eq_true hc)).symm.trans h
        refine xr_go 2 (pc' := 51) (lo' := [some (.ref v0), some (.ref v1), some (.long v2), none, some (.int v4), some (.ref v5), some (.int v6), some (.int (xc 0)), none, none]) (st' := []) (μ' := μ) rfl ?_
        refine xr_forget (lo := [some (.ref v0), some (.ref v1), some (.long v2), none, some (.int v4), some (.ref v5), some (.int v6), some (.int (xc 0)), none, none]) ⟨rfl, rfl, rfl, rfl, rfl, rfl, rfl, trivial⟩ ?_
        exact fL_leadRowsA_L51_lp hrc h hK
      · replace h := (if_neg (of_decide_eq_false hc)).symm.trans h
        refine xr_forget (lo := [some (.ref v0), none, some (.long v2), none, none, some (.ref v5), some (.int v6), none, none, none]) ⟨rfl, rfl, rfl, rfl, trivial⟩ ?_
        exact fL_leadRowsA_25_ok hrc h hK
  · replace h := (if_pos (Decidable.of_not_not (of_decide_eq_false hc))).symm.trans h
    refine xr_go 1 (pc' := 9) (lo' := [some (.ref v0), some (.ref v1), some (.long v2), none, some (.int v4), some (.ref v5), some (.int v6), none, none, none]) (st' := [.int (xc 0)]) (μ' := μ) rfl ?_
    have ho := Option.some.inj h
    subst ho
    obtain ⟨rfl, rfl⟩ := hK
    exact xr_ret (rv := some (.int (xc 0))) rfl rfl (Or.inr ⟨rfl, Or.inl rfl⟩)
noncomputable def fL_leadRowsA : Nat → Nat → Nat → Int64 → Int32 → Nat → Int32 → xM → Option (Int32 × xM)
  | 0, _, _, _, _, _, _, _ => none
  | k + 1, a0, a1, a2, a3, a4, a5, μ => fL_leadRowsA_0 (fL_leadRowsA k) a0 a1 a2 a3 a4 a5 μ
theorem fL_leadRowsA_ok : ∀ {k d : Nat} {a0 : Nat} {a1 : Nat} {a2 : Int64} {a3 : Int32} {a4 : Nat} {a5 : Int32} {μ : xM} {o : Int32 × xM}, fL_leadRowsA k a0 a1 a2 a3 a4 a5 μ = some o → xRun (d + (k + 2)) 75 0 [some (.ref a0), some (.ref a1), some (.long a2), none, some (.int a3), some (.ref a4), some (.int a5), none, none, none] [] μ (some (.int o.1)) o.2
  | 0, d, a0, a1, a2, a3, a4, a5,  μ, o, h => by cases h
  | k + 1, d, a0, a1, a2, a3, a4, a5,  μ, o, h => by
    have hrc : fL_leadRowsA_hrc (fL_leadRowsA k) (k + 1) := fun d a0 a1 a2 a3 a4 a5 μ o h => by
      have h2 := fL_leadRowsA_ok (d := d) h
      rw [show d + (k + 1 + 1) = d + (k + 2) by omega]
      exact h2
    exact xr_forget (lo := [some (.ref a0), some (.ref a1), some (.long a2), none, some (.int a3), some (.ref a4), some (.int a5), none, none, none]) (⟨rfl, rfl, rfl, rfl, rfl, rfl, trivial⟩) (fL_leadRowsA_0_ok (k0 := k + 1) (d := d) hrc h (show fL_leadRowsA_K _ _ o from ⟨rfl, rfl⟩))
-- KeptAnswers$Leading.findShows(LKeptAnswers$Picture;ILKeptAnswers$Sight;)V 
def fL_findShows_K (rv : Option Value) (μf : xM) : (xM) → Prop := fun o => rv = none ∧ μf = o
noncomputable def fL_findShows_0  (v0 : Nat) (v1 : Int32) (v2 : Nat) (μ : xM) : Option (xM) := (ldFR μ v2 6 0).bind fun x1 => (fL_leadRowsA 6 v0 x1 (Int64.ofNat 34359737376) (xc 0) v2 v1 μ).bind fun r2 => some r2.2
theorem fL_findShows_0_ok {d : Nat} {v0 : Nat} {v1 : Int32} {v2 : Nat} {μ : xM} {rv : Option Value} {μf : xM} {out : xM} (h : fL_findShows_0 v0 v1 v2 μ = some out) (hK : fL_findShows_K rv μf out) : xRun (d + 9) 72 0 [some (.ref v0), some (.int v1), some (.ref v2)] [] μ rv μf := by
  unfold fL_findShows_0 at h
  refine xr_go 2 (pc' := 2) (lo' := [some (.ref v0), some (.int v1), some (.ref v2)]) (st' := [.ref v2, .ref v0]) (μ' := μ) rfl ?_
  obtain ⟨x1, hx1, h⟩ := Option.bind_eq_some_iff.mp h
  refine xr_opA (pc' := 5) (lo' := [some (.ref v0), some (.int v1), some (.ref v2)]) (st' := [.ref v0]) (o := ldFR μ v2 6 0) rfl hx1 ?_
  refine xr_go 4 (pc' := 11) (lo' := [some (.ref v0), some (.int v1), some (.ref v2)]) (st' := [.int v1, .ref v2, .int (xc 0), .long (Int64.ofNat 34359737376), .ref x1, .ref v0]) (μ' := μ) rfl ?_
  obtain ⟨r2, hr2, h⟩ := Option.bind_eq_some_iff.mp h
  refine xr_callS (j := 75) (d' := (d + 8)) (rv1 := some (.int r2.1)) (μ1 := r2.2) (rest := []) (As := [.ref v0, .ref x1, .long (Int64.ofNat 34359737376), .int (xc 0), .ref v2, .int v1]) rfl rfl rfl rfl (Nat.le_of_ble_eq_true rfl) rfl (by exact (fL_leadRowsA_ok (d := d + 0) hr2)) ?_
  refine xr_go 1 (pc' := 15) (lo' := [some (.ref v0), some (.int v1), some (.ref v2)]) (st' := []) (μ' := r2.2) rfl ?_
  have ho := Option.some.inj h
  subst ho
  obtain ⟨rfl, rfl⟩ := hK
  exact xr_ret (rv := none) rfl rfl (rfl)
noncomputable def fL_findShows (a0 : Nat) (a1 : Int32) (a2 : Nat) (μ : xM) : Option (xM) := fL_findShows_0 a0 a1 a2 μ
theorem fL_findShows_ok {d : Nat} {a0 : Nat} {a1 : Int32} {a2 : Nat} {μ : xM} {o : xM} (h : fL_findShows a0 a1 a2 μ = some o) : xRun (d + 9) 72 0 [some (.ref a0), some (.int a1), some (.ref a2)] [] μ none o :=
  xr_forget (lo := [some (.ref a0), some (.int a1), some (.ref a2)]) (⟨rfl, rfl, rfl, trivial⟩) (fL_findShows_0_ok (d := d) h (show fL_findShows_K _ _ o from ⟨rfl, rfl⟩))
-- KeptAnswers$Sight.look(LKeptAnswers$Picture;LKeptAnswers$Holding;)V 
def fS_look_K (rv : Option Value) (μf : xM) : (xM) → Prop := fun o => rv = none ∧ μf = o
def fS_look_K44 (v0 : Nat) (v2 : Nat) (d : Nat) (rv : Option Value) (μf : xM) : ((Int32 × xM) ⊕ (xM)) → Prop := Sum.elim (fun s : Int32 × xM => xRun (d + 10) 98 44 [some (.ref v0), none, some (.ref v2), some (.int s.1)] [] s.2 rv μf) (fS_look_K rv μf)
noncomputable def fS_look_L44  (v0 : Nat) (v2 : Nat) (v3 : Int32) (μ : xM) : Option ((Int32 × xM) ⊕ (xM)) := (ldF μ v2 3 3).bind fun x1 => if x1 ≤ v3 then (some (.inr μ)) else ((ldFR μ v0 6 0).bind fun x2 => (ldF μ x2 5 7).bind fun x3 => if x3 = 0 then ((ldF μ v0 6 3).bind fun x4 => if x4 = 0 then ((ldFR μ v2 3 9).bind fun x5 => (ldAR μ x5 v3).bind fun x6 => (fL_findShows x6 v3 v0 μ).bind fun r7 => some (.inl ((v3 + xc 1, r7)))) else (some (.inr μ))) else (some (.inr μ)))
theorem fS_look_L44_ok {d : Nat} {v0 : Nat} {v2 : Nat} {v3 : Int32} {μ : xM} {rv : Option Value} {μf : xM} {out : (Int32 × xM) ⊕ (xM)} (h : fS_look_L44 v0 v2 v3 μ = some out) (hK : fS_look_K44 v0 v2 d rv μf out) : xRun (d + 10) 98 44 [some (.ref v0), none, some (.ref v2), some (.int v3)] [] μ rv μf := by
  unfold fS_look_L44 at h
  refine xr_go 2 (pc' := 46) (lo' := [some (.ref v0), none, some (.ref v2), some (.int v3)]) (st' := [.ref v2, .int v3]) (μ' := μ) rfl ?_
  obtain ⟨x1, hx1, h⟩ := Option.bind_eq_some_iff.mp h
  refine xr_opI (pc' := 49) (lo' := [some (.ref v0), none, some (.ref v2), some (.int v3)]) (st' := [.int v3]) (o := ldF μ v2 3 3) rfl hx1 ?_
  refine xr_icmp (pct := 86) rfl rfl rfl (fun hc => ?_) (fun hc => ?_)
  · replace h := (if_pos (of_decide_eq_true hc)).symm.trans h
    have ho := Option.some.inj h
    subst ho
    obtain ⟨rfl, rfl⟩ := hK
    exact xr_ret (rv := none) rfl rfl (rfl)
  · replace h := (if_neg (of_decide_eq_false hc)).symm.trans h
    refine xr_go 1 (pc' := 53) (lo' := [some (.ref v0), none, some (.ref v2), some (.int v3)]) (st' := [.ref v0]) (μ' := μ) rfl ?_
    obtain ⟨x2, hx2, h⟩ := Option.bind_eq_some_iff.mp h
    refine xr_opA (pc' := 56) (lo' := [some (.ref v0), none, some (.ref v2), some (.int v3)]) (st' := []) (o := ldFR μ v0 6 0) rfl hx2 ?_
    obtain ⟨x3, hx3, h⟩ := Option.bind_eq_some_iff.mp h
    refine xr_opI (pc' := 59) (lo' := [some (.ref v0), none, some (.ref v2), some (.int v3)]) (st' := []) (o := ldF μ x2 5 7) rfl hx3 ?_
    refine xr_ifc (pct := 86) rfl rfl rfl (fun hc => ?_) (fun hc => ?_)
    · replace h := (if_neg (of_decide_eq_true hc)).symm.trans h
      have ho := Option.some.inj h
      subst ho
      obtain ⟨rfl, rfl⟩ := hK
      exact xr_ret (rv := none) rfl rfl (rfl)
    · replace h := (if_pos (Decidable.of_not_not (of_decide_eq_false hc))).symm.trans h
      refine xr_go 1 (pc' := 63) (lo' := [some (.ref v0), none, some (.ref v2), some (.int v3)]) (st' := [.ref v0]) (μ' := μ) rfl ?_
      obtain ⟨x4, hx4, h⟩ := Option.bind_eq_some_iff.mp h
      refine xr_opI (pc' := 66) (lo' := [some (.ref v0), none, some (.ref v2), some (.int v3)]) (st' := []) (o := ldF μ v0 6 3) rfl hx4 ?_
      refine xr_ifc (pct := 86) rfl rfl rfl (fun hc => ?_) (fun hc => ?_)
      · replace h := (if_neg (of_decide_eq_true hc)).symm.trans h
        have ho := Option.some.inj h
        subst ho
        obtain ⟨rfl, rfl⟩ := hK
        exact xr_ret (rv := none) rfl rfl (rfl)
      · replace h := (if_pos (Decidable.of_not_not (of_decide_eq_false hc))).symm.trans h
        refine xr_go 1 (pc' := 70) (lo' := [some (.ref v0), none, some (.ref v2), some (.int v3)]) (st' := [.ref v2]) (μ' := μ) rfl ?_
        obtain ⟨x5, hx5, h⟩ := Option.bind_eq_some_iff.mp h
        refine xr_opA (pc' := 73) (lo' := [some (.ref v0), none, some (.ref v2), some (.int v3)]) (st' := []) (o := ldFR μ v2 3 9) rfl hx5 ?_
        refine xr_go 1 (pc' := 74) (lo' := [some (.ref v0), none, some (.ref v2), some (.int v3)]) (st' := [.int v3, .ref x5]) (μ' := μ) rfl ?_
        obtain ⟨x6, hx6, h⟩ := Option.bind_eq_some_iff.mp h
        refine xr_opA (pc' := 75) (lo' := [some (.ref v0), none, some (.ref v2), some (.int v3)]) (st' := []) (o := ldAR μ x5 v3) rfl hx6 ?_
        refine xr_go 2 (pc' := 77) (lo' := [some (.ref v0), none, some (.ref v2), some (.int v3)]) (st' := [.ref v0, .int v3, .ref x6]) (μ' := μ) rfl ?_
        obtain ⟨r7, hr7, h⟩ := Option.bind_eq_some_iff.mp h
        refine xr_callS (j := 72) (d' := (d + 9)) (rv1 := none) (μ1 := r7) (rest := []) (As := [.ref x6, .int v3, .ref v0]) rfl rfl rfl rfl (Nat.le_of_ble_eq_true rfl) rfl (by exact (fL_findShows_ok (d := d + (0)) hr7)) ?_
        refine xr_go 2 (pc' := 44) (lo' := [some (.ref v0), none, some (.ref v2), some (.int (v3 + xc 1))]) (st' := []) (μ' := r7) rfl ?_
        refine xr_forget (lo := [some (.ref v0), none, some (.ref v2), some (.int (v3 + xc 1))]) ⟨rfl, rfl, rfl, trivial⟩ ?_
        have ho := Option.some.inj h
        subst ho
        exact hK
theorem fS_look_L44_lp {d : Nat} {v0 : Nat} {v2 : Nat} {v3 : Int32} {μ : xM} {rv : Option Value} {μf : xM} {out : xM} (h : xwh (fun s : Int32 × xM => fS_look_L44 v0 v2 s.1 s.2) (v3, μ) = some out) (hK : fS_look_K rv μf out) : xRun (d + 10) 98 44 [some (.ref v0), none, some (.ref v2), some (.int v3)] [] μ rv μf :=
  xwh_ind (Rh := fun s : Int32 × xM => xRun (d + 10) 98 44 [some (.ref v0), none, some (.ref v2), some (.int s.1)] [] s.2 rv μf) (Co := fS_look_K rv μf) (fun s o hb hk => fS_look_L44_ok hb hk) h hK
noncomputable def fS_look_0  (v0 : Nat) (v1 : Nat) (v2 : Nat) (μ : xM) : Option (xM) := (ldF μ v0 6 8).bind fun x8 => if x8 = 0 then ((stFZ μ v0 6 8 (xc 1)).bind fun μ9 => (ldFR μ9 v0 6 0).bind fun x10 => (fP_copyFrom x10 v1 μ9).bind fun r11 => (ldFR r11 v0 6 0).bind fun x12 => (ldF r11 v2 3 1).bind fun x13 => (fP_becomeEnd x12 x13 r11).bind fun r14 => (stF r14 v0 6 2 (xc 0)).bind fun μ15 => (stFZ μ15 v0 6 3 (xc 0)).bind fun μ16 => xwh (fun s : Int32 × xM => fS_look_L44 v0 v2 s.1 s.2) (xc 0, μ16)) else (some μ)
theorem fS_look_0_ok {d : Nat} {v0 : Nat} {v1 : Nat} {v2 : Nat} {μ : xM} {rv : Option Value} {μf : xM} {out : xM} (h : fS_look_0 v0 v1 v2 μ = some out) (hK : fS_look_K rv μf out) : xRun (d + 10) 98 0 [some (.ref v0), some (.ref v1), some (.ref v2), none] [] μ rv μf := by
  unfold fS_look_0 at h
  refine xr_go 1 (pc' := 1) (lo' := [some (.ref v0), some (.ref v1), some (.ref v2), none]) (st' := [.ref v0]) (μ' := μ) rfl ?_
  obtain ⟨x8, hx8, h⟩ := Option.bind_eq_some_iff.mp h
  refine xr_opI (pc' := 4) (lo' := [some (.ref v0), some (.ref v1), some (.ref v2), none]) (st' := []) (o := ldF μ v0 6 8) rfl hx8 ?_
  refine xr_ifc (pct := 8) rfl rfl rfl (fun hc => ?_) (fun hc => ?_)
  · replace h := (if_pos (of_decide_eq_true hc)).symm.trans h
    refine xr_go 2 (pc' := 10) (lo' := [some (.ref v0), some (.ref v1), some (.ref v2), none]) (st' := [.int (xc 1), .ref v0]) (μ' := μ) rfl ?_
    obtain ⟨μ9, hμ9, h⟩ := Option.bind_eq_some_iff.mp h
    refine xr_opM (pc' := 13) (lo' := [some (.ref v0), some (.ref v1), some (.ref v2), none]) (st' := []) (o := stFZ μ v0 6 8 (xc 1)) rfl hμ9 ?_
    refine xr_go 1 (pc' := 14) (lo' := [some (.ref v0), some (.ref v1), some (.ref v2), none]) (st' := [.ref v0]) (μ' := μ9) rfl ?_
    obtain ⟨x10, hx10, h⟩ := Option.bind_eq_some_iff.mp h
    refine xr_opA (pc' := 17) (lo' := [some (.ref v0), some (.ref v1), some (.ref v2), none]) (st' := []) (o := ldFR μ9 v0 6 0) rfl hx10 ?_
    refine xr_go 1 (pc' := 18) (lo' := [some (.ref v0), some (.ref v1), some (.ref v2), none]) (st' := [.ref v1, .ref x10]) (μ' := μ9) rfl ?_
    obtain ⟨r11, hr11, h⟩ := Option.bind_eq_some_iff.mp h
    refine xr_callV (j := 80) (d' := (d + 9)) (rv1 := none) (μ1 := r11) (rest := []) (As := [.ref v1]) rfl rfl rfl rfl (Nat.le_of_ble_eq_true rfl) (fP_copyFrom_kd hr11) rfl (by exact (fP_copyFrom_ok (d := d + (7)) hr11)) ?_
    refine xr_go 1 (pc' := 22) (lo' := [some (.ref v0), some (.ref v1), some (.ref v2), none]) (st' := [.ref v0]) (μ' := r11) rfl ?_
    obtain ⟨x12, hx12, h⟩ := Option.bind_eq_some_iff.mp h
    refine xr_opA (pc' := 25) (lo' := [some (.ref v0), some (.ref v1), some (.ref v2), none]) (st' := []) (o := ldFR r11 v0 6 0) rfl hx12 ?_
    refine xr_go 1 (pc' := 26) (lo' := [some (.ref v0), some (.ref v1), some (.ref v2), none]) (st' := [.ref v2, .ref x12]) (μ' := r11) rfl ?_
    obtain ⟨x13, hx13, h⟩ := Option.bind_eq_some_iff.mp h
    refine xr_opI (pc' := 29) (lo' := [some (.ref v0), some (.ref v1), some (.ref v2), none]) (st' := [.ref x12]) (o := ldF r11 v2 3 1) rfl hx13 ?_
    obtain ⟨r14, hr14, h⟩ := Option.bind_eq_some_iff.mp h
    refine xr_callV (j := 90) (d' := (d + 9)) (rv1 := none) (μ1 := r14) (rest := []) (As := [.int x13]) rfl rfl rfl rfl (Nat.le_of_ble_eq_true rfl) (fP_becomeEnd_kd hr14) rfl (by exact (fP_becomeEnd_ok (d := d + (7)) hr14)) ?_
    refine xr_go 2 (pc' := 34) (lo' := [some (.ref v0), some (.ref v1), some (.ref v2), none]) (st' := [.int (xc 0), .ref v0]) (μ' := r14) rfl ?_
    obtain ⟨μ15, hμ15, h⟩ := Option.bind_eq_some_iff.mp h
    refine xr_opM (pc' := 37) (lo' := [some (.ref v0), some (.ref v1), some (.ref v2), none]) (st' := []) (o := stF r14 v0 6 2 (xc 0)) rfl hμ15 ?_
    refine xr_go 2 (pc' := 39) (lo' := [some (.ref v0), some (.ref v1), some (.ref v2), none]) (st' := [.int (xc 0), .ref v0]) (μ' := μ15) rfl ?_
    obtain ⟨μ16, hμ16, h⟩ := Option.bind_eq_some_iff.mp h
    refine xr_opM (pc' := 42) (lo' := [some (.ref v0), some (.ref v1), some (.ref v2), none]) (st' := []) (o := stFZ μ15 v0 6 3 (xc 0)) rfl hμ16 ?_
    refine xr_go 2 (pc' := 44) (lo' := [some (.ref v0), some (.ref v1), some (.ref v2), some (.int (xc 0))]) (st' := []) (μ' := μ16) rfl ?_
    refine xr_forget (lo := [some (.ref v0), none, some (.ref v2), some (.int (xc 0))]) ⟨rfl, rfl, rfl, trivial⟩ ?_
    exact fS_look_L44_lp h hK
  · replace h := (if_neg (of_decide_eq_false hc)).symm.trans h
    have ho := Option.some.inj h
    subst ho
    obtain ⟨rfl, rfl⟩ := hK
    exact xr_ret (rv := none) rfl rfl (rfl)
noncomputable def fS_look (a0 : Nat) (a1 : Nat) (a2 : Nat) (μ : xM) : Option (xM) := xgd μ a0 6 (fS_look_0 a0 a1 a2 μ)
theorem fS_look_kd {a0 : Nat} {a1 : Nat} {a2 : Nat} {μ : xM} {o : xM} (h : fS_look a0 a1 a2 μ = some o) : (xK μ a0).1 = 10 + 6 := (xgd_some h).1
theorem fS_look_ok {d : Nat} {a0 : Nat} {a1 : Nat} {a2 : Nat} {μ : xM} {o : xM} (h : fS_look a0 a1 a2 μ = some o) : xRun (d + 10) 98 0 [some (.ref a0), some (.ref a1), some (.ref a2), none] [] μ none o :=
  xr_forget (lo := [some (.ref a0), some (.ref a1), some (.ref a2), none]) (⟨rfl, rfl, rfl, trivial⟩) (fS_look_0_ok (d := d) (xgd_some h).2 (show fS_look_K _ _ o from ⟨rfl, rfl⟩))
-- KeptAnswers.seen(I)LKeptAnswers$Sight; 
def fX_seen_K (rv : Option Value) (μf : xM) : (Nat × xM) → Prop := fun o => rv = some (.ref o.1) ∧ μf = o.2
noncomputable def fX_seen_0  (v0 : Nat) (v1 : Int32) (μ : xM) : Option (Nat × xM) := (ldFR μ v0 0 6).bind fun x1 => (ldAR μ x1 v1).bind fun x2 => (ldFR μ v0 0 0).bind fun x3 => (ldFR μ x3 3 8).bind fun x4 => (ldAR μ x4 v1).bind fun x5 => (ldFR μ v0 0 0).bind fun x6 => (fS_look x2 x5 x6 μ).bind fun r7 => (ldFR r7 v0 0 6).bind fun x8 => (ldAR r7 x8 v1).bind fun x9 => some ((x9, r7))
theorem fX_seen_0_ok {d : Nat} {v0 : Nat} {v1 : Int32} {μ : xM} {rv : Option Value} {μf : xM} {out : Nat × xM} (h : fX_seen_0 v0 v1 μ = some out) (hK : fX_seen_K rv μf out) : xRun (d + 11) 47 0 [some (.ref v0), some (.int v1)] [] μ rv μf := by
  unfold fX_seen_0 at h
  refine xr_go 1 (pc' := 1) (lo' := [some (.ref v0), some (.int v1)]) (st' := [.ref v0]) (μ' := μ) rfl ?_
  obtain ⟨x1, hx1, h⟩ := Option.bind_eq_some_iff.mp h
  refine xr_opA (pc' := 4) (lo' := [some (.ref v0), some (.int v1)]) (st' := []) (o := ldFR μ v0 0 6) rfl hx1 ?_
  refine xr_go 1 (pc' := 5) (lo' := [some (.ref v0), some (.int v1)]) (st' := [.int v1, .ref x1]) (μ' := μ) rfl ?_
  obtain ⟨x2, hx2, h⟩ := Option.bind_eq_some_iff.mp h
  refine xr_opA (pc' := 6) (lo' := [some (.ref v0), some (.int v1)]) (st' := []) (o := ldAR μ x1 v1) rfl hx2 ?_
  refine xr_go 1 (pc' := 7) (lo' := [some (.ref v0), some (.int v1)]) (st' := [.ref v0, .ref x2]) (μ' := μ) rfl ?_
  obtain ⟨x3, hx3, h⟩ := Option.bind_eq_some_iff.mp h
  refine xr_opA (pc' := 10) (lo' := [some (.ref v0), some (.int v1)]) (st' := [.ref x2]) (o := ldFR μ v0 0 0) rfl hx3 ?_
  obtain ⟨x4, hx4, h⟩ := Option.bind_eq_some_iff.mp h
  refine xr_opA (pc' := 13) (lo' := [some (.ref v0), some (.int v1)]) (st' := [.ref x2]) (o := ldFR μ x3 3 8) rfl hx4 ?_
  refine xr_go 1 (pc' := 14) (lo' := [some (.ref v0), some (.int v1)]) (st' := [.int v1, .ref x4, .ref x2]) (μ' := μ) rfl ?_
  obtain ⟨x5, hx5, h⟩ := Option.bind_eq_some_iff.mp h
  refine xr_opA (pc' := 15) (lo' := [some (.ref v0), some (.int v1)]) (st' := [.ref x2]) (o := ldAR μ x4 v1) rfl hx5 ?_
  refine xr_go 1 (pc' := 16) (lo' := [some (.ref v0), some (.int v1)]) (st' := [.ref v0, .ref x5, .ref x2]) (μ' := μ) rfl ?_
  obtain ⟨x6, hx6, h⟩ := Option.bind_eq_some_iff.mp h
  refine xr_opA (pc' := 19) (lo' := [some (.ref v0), some (.int v1)]) (st' := [.ref x5, .ref x2]) (o := ldFR μ v0 0 0) rfl hx6 ?_
  obtain ⟨r7, hr7, h⟩ := Option.bind_eq_some_iff.mp h
  refine xr_callV (j := 98) (d' := (d + 10)) (rv1 := none) (μ1 := r7) (rest := []) (As := [.ref x5, .ref x6]) rfl rfl rfl rfl (Nat.le_of_ble_eq_true rfl) (fS_look_kd hr7) rfl (by exact (fS_look_ok (d := d + (0)) hr7)) ?_
  refine xr_go 1 (pc' := 23) (lo' := [some (.ref v0), some (.int v1)]) (st' := [.ref v0]) (μ' := r7) rfl ?_
  obtain ⟨x8, hx8, h⟩ := Option.bind_eq_some_iff.mp h
  refine xr_opA (pc' := 26) (lo' := [some (.ref v0), some (.int v1)]) (st' := []) (o := ldFR r7 v0 0 6) rfl hx8 ?_
  refine xr_go 1 (pc' := 27) (lo' := [some (.ref v0), some (.int v1)]) (st' := [.int v1, .ref x8]) (μ' := r7) rfl ?_
  obtain ⟨x9, hx9, h⟩ := Option.bind_eq_some_iff.mp h
  refine xr_opA (pc' := 28) (lo' := [some (.ref v0), some (.int v1)]) (st' := []) (o := ldAR r7 x8 v1) rfl hx9 ?_
  have ho := Option.some.inj h
  subst ho
  obtain ⟨rfl, rfl⟩ := hK
  exact xr_ret (rv := some (.ref x9)) rfl rfl (rfl)
noncomputable def fX_seen (a0 : Nat) (a1 : Int32) (μ : xM) : Option (Nat × xM) := xgd μ a0 0 (fX_seen_0 a0 a1 μ)
theorem fX_seen_kd {a0 : Nat} {a1 : Int32} {μ : xM} {o : Nat × xM} (h : fX_seen a0 a1 μ = some o) : (xK μ a0).1 = 10 + 0 := (xgd_some h).1
theorem fX_seen_ok {d : Nat} {a0 : Nat} {a1 : Int32} {μ : xM} {o : Nat × xM} (h : fX_seen a0 a1 μ = some o) : xRun (d + 11) 47 0 [some (.ref a0), some (.int a1)] [] μ (some (.ref o.1)) o.2 :=
  xr_forget (lo := [some (.ref a0), some (.int a1)]) (⟨rfl, rfl, trivial⟩) (fX_seen_0_ok (d := d) (xgd_some h).2 (show fX_seen_K _ _ o from ⟨rfl, rfl⟩))
-- KeptAnswers.steps(II)I 
def fX_steps_K (rv : Option Value) (μf : xM) : (Int32 × xM) → Prop := fun o => rv = some (.int o.1) ∧ μf = o.2
noncomputable def fX_steps_0  (v0 : Nat) (v1 : Int32) (v2 : Int32) (μ : xM) : Option (Int32 × xM) := (fX_isAsk v0 v1 μ).bind fun r1 => if r1 = 0 then ((fX_refuse v0 (xc (-1)) μ).bind fun r9 => some ((r9.1, r9.2))) else ((fX_seen v0 v1 μ).bind fun r2 => (ldFR r2.2 r2.1 6 0).bind fun x3 => if (v2).toInt < 0 ∨ 3 < (v2).toInt then ((fX_refuse v0 (xc (-2)) r2.2).bind fun r4 => some ((r4.1, r4.2))) else if v2 = xc 0 then ((ldF r2.2 x3 5 6).bind fun x5 => some ((x5, r2.2))) else if v2 = xc 1 then ((ldF r2.2 x3 5 7).bind fun x6 => if x6 = 0 then (some ((xc 0, r2.2))) else (some ((xc 1, r2.2)))) else if v2 = xc 2 then ((ldF r2.2 x3 5 0).bind fun x7 => some ((x7, r2.2))) else if v2 = xc 3 then ((ldF r2.2 x3 5 4).bind fun x8 => some ((x8, r2.2))) else none)
theorem fX_steps_0_ok {d : Nat} {v0 : Nat} {v1 : Int32} {v2 : Int32} {μ : xM} {rv : Option Value} {μf : xM} {out : Int32 × xM} (h : fX_steps_0 v0 v1 v2 μ = some out) (hK : fX_steps_K rv μf out) : xRun (d + 12) 12 0 [some (.ref v0), some (.int v1), some (.int v2), none] [] μ rv μf := by
  unfold fX_steps_0 at h
  refine xr_go 2 (pc' := 2) (lo' := [some (.ref v0), some (.int v1), some (.int v2), none]) (st' := [.int v1, .ref v0]) (μ' := μ) rfl ?_
  obtain ⟨r1, hr1, h⟩ := Option.bind_eq_some_iff.mp h
  refine xr_callV (j := 39) (d' := (d + 11)) (rv1 := some (.int r1)) (μ1 := μ) (rest := []) (As := [.int v1]) rfl rfl rfl rfl (Nat.le_of_ble_eq_true rfl) (fX_isAsk_kd hr1) rfl (by exact (fX_isAsk_ok (d := d + (11)) hr1)) ?_
  refine xr_ifc (pct := 14) rfl rfl rfl (fun hc => ?_) (fun hc => ?_)
  · replace h := (if_neg (of_decide_eq_true hc)).symm.trans h
    refine xr_go 2 (pc' := 16) (lo' := [some (.ref v0), some (.int v1), some (.int v2), none]) (st' := [.int v1, .ref v0]) (μ' := μ) rfl ?_
    obtain ⟨r2, hr2, h⟩ := Option.bind_eq_some_iff.mp h
    refine xr_callV (j := 47) (d' := (d + 11)) (rv1 := some (.ref r2.1)) (μ1 := r2.2) (rest := []) (As := [.int v1]) rfl rfl rfl rfl (Nat.le_of_ble_eq_true rfl) (fX_seen_kd hr2) rfl (by exact (fX_seen_ok (d := d + (0)) hr2)) ?_
    obtain ⟨x3, hx3, h⟩ := Option.bind_eq_some_iff.mp h
    refine xr_opA (pc' := 22) (lo' := [some (.ref v0), some (.int v1), some (.int v2), none]) (st' := []) (o := ldFR r2.2 r2.1 6 0) rfl hx3 ?_
    refine xr_go 2 (pc' := 24) (lo' := [some (.ref v0), some (.int v1), some (.int v2), some (.ref x3)]) (st' := [.int v2]) (μ' := r2.2) rfl ?_
    by_cases hq : (v2).toInt < 0 ∨ 3 < (v2).toInt
    · replace h := (if_pos hq).symm.trans h
      refine xr_tswD (pc' := 84) rfl hq rfl rfl ?_
      refine xr_go 2 (pc' := 87) (lo' := [some (.ref v0), some (.int v1), some (.int v2), some (.ref x3)]) (st' := [.int (xc (-2)), .ref v0]) (μ' := r2.2) rfl ?_
      obtain ⟨r4, hr4, h⟩ := Option.bind_eq_some_iff.mp h
      refine xr_callV (j := 37) (d' := (d + 11)) (rv1 := some (.int r4.1)) (μ1 := r4.2) (rest := []) (As := [.int (xc (-2))]) rfl rfl rfl rfl (Nat.le_of_ble_eq_true rfl) (fX_refuse_kd hr4) rfl (by exact (fX_refuse_ok (d := d + (11)) hr4)) ?_
      have ho := Option.some.inj h
      subst ho
      obtain ⟨rfl, rfl⟩ := hK
      exact xr_ret (rv := some (.int r4.1)) rfl rfl (Or.inl rfl)
    replace h := (if_neg hq).symm.trans h
    by_cases hq0 : v2 = xc 0
    · replace h := (if_pos hq0).symm.trans h
      refine xr_sw (v := xc 0) (pc' := 56) (lo' := [some (.ref v0), some (.int v1), some (.int v2), some (.ref x3)]) (st' := []) (μ' := r2.2) hq0 rfl ?_
      refine xr_go 1 (pc' := 57) (lo' := [some (.ref v0), some (.int v1), some (.int v2), some (.ref x3)]) (st' := [.ref x3]) (μ' := r2.2) rfl ?_
      obtain ⟨x5, hx5, h⟩ := Option.bind_eq_some_iff.mp h
      refine xr_opI (pc' := 60) (lo' := [some (.ref v0), some (.int v1), some (.int v2), some (.ref x3)]) (st' := []) (o := ldF r2.2 x3 5 6) rfl hx5 ?_
      have ho := Option.some.inj h
      subst ho
      obtain ⟨rfl, rfl⟩ := hK
      exact xr_ret (rv := some (.int x5)) rfl rfl (Or.inl rfl)
    replace h := (if_neg hq0).symm.trans h
    by_cases hq1 : v2 = xc 1
    · replace h := (if_pos hq1).symm.trans h
      refine xr_sw (v := xc 1) (pc' := 61) (lo' := [some (.ref v0), some (.int v1), some (.int v2), some (.ref x3)]) (st' := []) (μ' := r2.2) hq1 rfl ?_
      refine xr_go 1 (pc' := 62) (lo' := [some (.ref v0), some (.int v1), some (.int v2), some (.ref x3)]) (st' := [.ref x3]) (μ' := r2.2) rfl ?_
      obtain ⟨x6, hx6, h⟩ := Option.bind_eq_some_iff.mp h
      refine xr_opI (pc' := 65) (lo' := [some (.ref v0), some (.int v1), some (.int v2), some (.ref x3)]) (st' := []) (o := ldF r2.2 x3 5 7) rfl hx6 ?_
      refine xr_ifc (pct := 72) rfl rfl rfl (fun hc => ?_) (fun hc => ?_)
      · replace h := (if_pos (of_decide_eq_true hc)).symm.trans h
        refine xr_go 1 (pc' := 73) (lo' := [some (.ref v0), some (.int v1), some (.int v2), some (.ref x3)]) (st' := [.int (xc 0)]) (μ' := r2.2) rfl ?_
        have ho := Option.some.inj h
        subst ho
        obtain ⟨rfl, rfl⟩ := hK
        exact xr_ret (rv := some (.int (xc 0))) rfl rfl (Or.inl rfl)
      · replace h := (if_neg (of_decide_eq_false hc)).symm.trans h
        refine xr_go 2 (pc' := 73) (lo' := [some (.ref v0), some (.int v1), some (.int v2), some (.ref x3)]) (st' := [.int (xc 1)]) (μ' := r2.2) rfl ?_
        have ho := Option.some.inj h
        subst ho
        obtain ⟨rfl, rfl⟩ := hK
        exact xr_ret (rv := some (.int (xc 1))) rfl rfl (Or.inl rfl)
    replace h := (if_neg hq1).symm.trans h
    by_cases hq2 : v2 = xc 2
    · replace h := (if_pos hq2).symm.trans h
      refine xr_sw (v := xc 2) (pc' := 74) (lo' := [some (.ref v0), some (.int v1), some (.int v2), some (.ref x3)]) (st' := []) (μ' := r2.2) hq2 rfl ?_
      refine xr_go 1 (pc' := 75) (lo' := [some (.ref v0), some (.int v1), some (.int v2), some (.ref x3)]) (st' := [.ref x3]) (μ' := r2.2) rfl ?_
      obtain ⟨x7, hx7, h⟩ := Option.bind_eq_some_iff.mp h
      refine xr_opI (pc' := 78) (lo' := [some (.ref v0), some (.int v1), some (.int v2), some (.ref x3)]) (st' := []) (o := ldF r2.2 x3 5 0) rfl hx7 ?_
      have ho := Option.some.inj h
      subst ho
      obtain ⟨rfl, rfl⟩ := hK
      exact xr_ret (rv := some (.int x7)) rfl rfl (Or.inl rfl)
    replace h := (if_neg hq2).symm.trans h
    by_cases hq3 : v2 = xc 3
    · replace h := (if_pos hq3).symm.trans h
      refine xr_sw (v := xc 3) (pc' := 79) (lo' := [some (.ref v0), some (.int v1), some (.int v2), some (.ref x3)]) (st' := []) (μ' := r2.2) hq3 rfl ?_
      refine xr_go 1 (pc' := 80) (lo' := [some (.ref v0), some (.int v1), some (.int v2), some (.ref x3)]) (st' := [.ref x3]) (μ' := r2.2) rfl ?_
      obtain ⟨x8, hx8, h⟩ := Option.bind_eq_some_iff.mp h
      refine xr_opI (pc' := 83) (lo' := [some (.ref v0), some (.int v1), some (.int v2), some (.ref x3)]) (st' := []) (o := ldF r2.2 x3 5 4) rfl hx8 ?_
      have ho := Option.some.inj h
      subst ho
      obtain ⟨rfl, rfl⟩ := hK
      exact xr_ret (rv := some (.int x8)) rfl rfl (Or.inl rfl)
    replace h := (if_neg hq3).symm.trans h
    cases h
  · replace h := (if_pos (Decidable.of_not_not (of_decide_eq_false hc))).symm.trans h
    refine xr_go 2 (pc' := 10) (lo' := [some (.ref v0), some (.int v1), some (.int v2), none]) (st' := [.int (xc (-1)), .ref v0]) (μ' := μ) rfl ?_
    obtain ⟨r9, hr9, h⟩ := Option.bind_eq_some_iff.mp h
    refine xr_callV (j := 37) (d' := (d + 11)) (rv1 := some (.int r9.1)) (μ1 := r9.2) (rest := []) (As := [.int (xc (-1))]) rfl rfl rfl rfl (Nat.le_of_ble_eq_true rfl) (fX_refuse_kd hr9) rfl (by exact (fX_refuse_ok (d := d + (11)) hr9)) ?_
    have ho := Option.some.inj h
    subst ho
    obtain ⟨rfl, rfl⟩ := hK
    exact xr_ret (rv := some (.int r9.1)) rfl rfl (Or.inl rfl)
noncomputable def fX_steps (a0 : Nat) (a1 : Int32) (a2 : Int32) (μ : xM) : Option (Int32 × xM) := xgd μ a0 0 (fX_steps_0 a0 a1 a2 μ)
theorem fX_steps_kd {a0 : Nat} {a1 : Int32} {a2 : Int32} {μ : xM} {o : Int32 × xM} (h : fX_steps a0 a1 a2 μ = some o) : (xK μ a0).1 = 10 + 0 := (xgd_some h).1
theorem fX_steps_ok {d : Nat} {a0 : Nat} {a1 : Int32} {a2 : Int32} {μ : xM} {o : Int32 × xM} (h : fX_steps a0 a1 a2 μ = some o) : xRun (d + 12) 12 0 [some (.ref a0), some (.int a1), some (.int a2), none] [] μ (some (.int o.1)) o.2 :=
  xr_forget (lo := [some (.ref a0), some (.int a1), some (.int a2), none]) (⟨rfl, rfl, rfl, trivial⟩) (fX_steps_0_ok (d := d) (xgd_some h).2 (show fX_steps_K _ _ o from ⟨rfl, rfl⟩))
-- KeptAnswersModel.load(I)V 
def fM_load_K (rv : Option Value) (μf : xM) : (xM) → Prop := fun o => rv = none ∧ μf = o
def fM_load_K12 (v0 : Nat) (v1 : Int32) (d : Nat) (rv : Option Value) (μf : xM) : ((Int32 × xM) ⊕ (xM)) → Prop := Sum.elim (fun s : Int32 × xM => xRun (d + 0) 166 12 [some (.ref v0), some (.int v1), some (.int s.1)] [] s.2 rv μf) (fM_load_K rv μf)
def fM_load_K86 (v0 : Nat) (v1 : Int32) (d : Nat) (rv : Option Value) (μf : xM) : ((Int32 × xM) ⊕ (xM)) → Prop := Sum.elim (fun s : Int32 × xM => xRun (d + 0) 166 86 [some (.ref v0), some (.int v1), some (.int s.1)] [] s.2 rv μf) (fM_load_K rv μf)
noncomputable def fM_load_L86  (v0 : Nat) (v1 : Int32) (v2 : Int32) (μ : xM) : Option ((Int32 × xM) ⊕ (xM)) := (ldF μ v0 9 33).bind fun x1 => if x1 ≤ v2 then (some (.inr μ)) else ((ldFR μ v0 9 34).bind fun x2 => (ldFR μ v0 9 15).bind fun x3 => (ldA μ x3 (((xc 3) * v1) + v2)).bind fun x4 => (stA μ x2 v2 x4).bind fun μ5 => some (.inl ((v2 + xc 1, μ5))))
theorem fM_load_L86_ok {d : Nat} {v0 : Nat} {v1 : Int32} {v2 : Int32} {μ : xM} {rv : Option Value} {μf : xM} {out : (Int32 × xM) ⊕ (xM)} (h : fM_load_L86 v0 v1 v2 μ = some out) (hK : fM_load_K86 v0 v1 d rv μf out) : xRun (d + 0) 166 86 [some (.ref v0), some (.int v1), some (.int v2)] [] μ rv μf := by
  unfold fM_load_L86 at h
  refine xr_go 2 (pc' := 88) (lo' := [some (.ref v0), some (.int v1), some (.int v2)]) (st' := [.ref v0, .int v2]) (μ' := μ) rfl ?_
  obtain ⟨x1, hx1, h⟩ := Option.bind_eq_some_iff.mp h
  refine xr_opI (pc' := 91) (lo' := [some (.ref v0), some (.int v1), some (.int v2)]) (st' := [.int v2]) (o := ldF μ v0 9 33) rfl hx1 ?_
  refine xr_icmp (pct := 116) rfl rfl rfl (fun hc => ?_) (fun hc => ?_)
  · replace h := (if_pos (of_decide_eq_true hc)).symm.trans h
    have ho := Option.some.inj h
    subst ho
    obtain ⟨rfl, rfl⟩ := hK
    exact xr_ret (rv := none) rfl rfl (rfl)
  · replace h := (if_neg (of_decide_eq_false hc)).symm.trans h
    refine xr_go 1 (pc' := 95) (lo' := [some (.ref v0), some (.int v1), some (.int v2)]) (st' := [.ref v0]) (μ' := μ) rfl ?_
    obtain ⟨x2, hx2, h⟩ := Option.bind_eq_some_iff.mp h
    refine xr_opA (pc' := 98) (lo' := [some (.ref v0), some (.int v1), some (.int v2)]) (st' := []) (o := ldFR μ v0 9 34) rfl hx2 ?_
    refine xr_go 2 (pc' := 100) (lo' := [some (.ref v0), some (.int v1), some (.int v2)]) (st' := [.ref v0, .int v2, .ref x2]) (μ' := μ) rfl ?_
    obtain ⟨x3, hx3, h⟩ := Option.bind_eq_some_iff.mp h
    refine xr_opA (pc' := 103) (lo' := [some (.ref v0), some (.int v1), some (.int v2)]) (st' := [.int v2, .ref x2]) (o := ldFR μ v0 9 15) rfl hx3 ?_
    refine xr_go 5 (pc' := 108) (lo' := [some (.ref v0), some (.int v1), some (.int v2)]) (st' := [.int (((xc 3) * v1) + v2), .ref x3, .int v2, .ref x2]) (μ' := μ) rfl ?_
    obtain ⟨x4, hx4, h⟩ := Option.bind_eq_some_iff.mp h
    refine xr_opI (pc' := 109) (lo' := [some (.ref v0), some (.int v1), some (.int v2)]) (st' := [.int v2, .ref x2]) (o := ldA μ x3 (((xc 3) * v1) + v2)) rfl hx4 ?_
    obtain ⟨μ5, hμ5, h⟩ := Option.bind_eq_some_iff.mp h
    refine xr_opM (pc' := 110) (lo' := [some (.ref v0), some (.int v1), some (.int v2)]) (st' := []) (o := stA μ x2 v2 x4) rfl hμ5 ?_
    refine xr_go 2 (pc' := 86) (lo' := [some (.ref v0), some (.int v1), some (.int (v2 + xc 1))]) (st' := []) (μ' := μ5) rfl ?_
    refine xr_forget (lo := [some (.ref v0), some (.int v1), some (.int (v2 + xc 1))]) ⟨rfl, rfl, rfl, trivial⟩ ?_
    have ho := Option.some.inj h
    subst ho
    exact hK
theorem fM_load_L86_lp {d : Nat} {v0 : Nat} {v1 : Int32} {v2 : Int32} {μ : xM} {rv : Option Value} {μf : xM} {out : xM} (h : xwh (fun s : Int32 × xM => fM_load_L86 v0 v1 s.1 s.2) (v2, μ) = some out) (hK : fM_load_K rv μf out) : xRun (d + 0) 166 86 [some (.ref v0), some (.int v1), some (.int v2)] [] μ rv μf :=
  xwh_ind (Rh := fun s : Int32 × xM => xRun (d + 0) 166 86 [some (.ref v0), some (.int v1), some (.int s.1)] [] s.2 rv μf) (Co := fM_load_K rv μf) (fun s o hb hk => fM_load_L86_ok hb hk) h hK
noncomputable def fM_load_74  (v0 : Nat) (v1 : Int32) (μ : xM) : Option (xM) := (ldFR μ v0 9 14).bind fun x6 => (ldA μ x6 v1).bind fun x7 => (stF μ v0 9 33 x7).bind fun μ8 => xwh (fun s : Int32 × xM => fM_load_L86 v0 v1 s.1 s.2) (xc 0, μ8)
theorem fM_load_74_ok {d : Nat} {v0 : Nat} {v1 : Int32} {μ : xM} {rv : Option Value} {μf : xM} {out : xM} (h : fM_load_74 v0 v1 μ = some out) (hK : fM_load_K rv μf out) : xRun (d + 0) 166 74 [some (.ref v0), some (.int v1), none] [] μ rv μf := by
  unfold fM_load_74 at h
  refine xr_go 2 (pc' := 76) (lo' := [some (.ref v0), some (.int v1), none]) (st' := [.ref v0, .ref v0]) (μ' := μ) rfl ?_
  obtain ⟨x6, hx6, h⟩ := Option.bind_eq_some_iff.mp h
  refine xr_opA (pc' := 79) (lo' := [some (.ref v0), some (.int v1), none]) (st' := [.ref v0]) (o := ldFR μ v0 9 14) rfl hx6 ?_
  refine xr_go 1 (pc' := 80) (lo' := [some (.ref v0), some (.int v1), none]) (st' := [.int v1, .ref x6, .ref v0]) (μ' := μ) rfl ?_
  obtain ⟨x7, hx7, h⟩ := Option.bind_eq_some_iff.mp h
  refine xr_opI (pc' := 81) (lo' := [some (.ref v0), some (.int v1), none]) (st' := [.ref v0]) (o := ldA μ x6 v1) rfl hx7 ?_
  obtain ⟨μ8, hμ8, h⟩ := Option.bind_eq_some_iff.mp h
  refine xr_opM (pc' := 84) (lo' := [some (.ref v0), some (.int v1), none]) (st' := []) (o := stF μ v0 9 33 x7) rfl hμ8 ?_
  refine xr_go 2 (pc' := 86) (lo' := [some (.ref v0), some (.int v1), some (.int (xc 0))]) (st' := []) (μ' := μ8) rfl ?_
  refine xr_forget (lo := [some (.ref v0), some (.int v1), some (.int (xc 0))]) ⟨rfl, rfl, rfl, trivial⟩ ?_
  exact fM_load_L86_lp h hK
noncomputable def fM_load_L12  (v0 : Nat) (v1 : Int32) (v2 : Int32) (μ : xM) : Option ((Int32 × xM) ⊕ (xM)) := (ldF μ v0 9 29).bind fun x9 => if x9 ≤ v2 then ((fM_load_74 v0 v1 μ).map (fun o => .inr o)) else ((ldFR μ v0 9 30).bind fun x10 => (ldFR μ v0 9 11).bind fun x11 => (ldA μ x11 (((xc 4) * v1) + v2)).bind fun x12 => (stA μ x10 v2 x12).bind fun μ13 => (ldFR μ13 v0 9 31).bind fun x14 => (ldFR μ13 v0 9 12).bind fun x15 => (ldA μ13 x15 (((xc 4) * v1) + v2)).bind fun x16 => (stA μ13 x14 v2 x16).bind fun μ17 => (ldFR μ17 v0 9 32).bind fun x18 => (ldFR μ17 v0 9 13).bind fun x19 => (ldA μ17 x19 (((xc 4) * v1) + v2)).bind fun x20 => (stA μ17 x18 v2 x20).bind fun μ21 => some (.inl ((v2 + xc 1, μ21))))
theorem fM_load_L12_ok {d : Nat} {v0 : Nat} {v1 : Int32} {v2 : Int32} {μ : xM} {rv : Option Value} {μf : xM} {out : (Int32 × xM) ⊕ (xM)} (h : fM_load_L12 v0 v1 v2 μ = some out) (hK : fM_load_K12 v0 v1 d rv μf out) : xRun (d + 0) 166 12 [some (.ref v0), some (.int v1), some (.int v2)] [] μ rv μf := by
  unfold fM_load_L12 at h
  refine xr_go 2 (pc' := 14) (lo' := [some (.ref v0), some (.int v1), some (.int v2)]) (st' := [.ref v0, .int v2]) (μ' := μ) rfl ?_
  obtain ⟨x9, hx9, h⟩ := Option.bind_eq_some_iff.mp h
  refine xr_opI (pc' := 17) (lo' := [some (.ref v0), some (.int v1), some (.int v2)]) (st' := [.int v2]) (o := ldF μ v0 9 29) rfl hx9 ?_
  refine xr_icmp (pct := 74) rfl rfl rfl (fun hc => ?_) (fun hc => ?_)
  · replace h := (if_pos (of_decide_eq_true hc)).symm.trans h
    refine xr_forget (lo := [some (.ref v0), some (.int v1), none]) ⟨rfl, rfl, trivial⟩ ?_
    obtain ⟨o, h2, rfl⟩ := Option.map_eq_some_iff.mp h
    exact fM_load_74_ok h2 hK
  · replace h := (if_neg (of_decide_eq_false hc)).symm.trans h
    refine xr_go 1 (pc' := 21) (lo' := [some (.ref v0), some (.int v1), some (.int v2)]) (st' := [.ref v0]) (μ' := μ) rfl ?_
    obtain ⟨x10, hx10, h⟩ := Option.bind_eq_some_iff.mp h
    refine xr_opA (pc' := 24) (lo' := [some (.ref v0), some (.int v1), some (.int v2)]) (st' := []) (o := ldFR μ v0 9 30) rfl hx10 ?_
    refine xr_go 2 (pc' := 26) (lo' := [some (.ref v0), some (.int v1), some (.int v2)]) (st' := [.ref v0, .int v2, .ref x10]) (μ' := μ) rfl ?_
    obtain ⟨x11, hx11, h⟩ := Option.bind_eq_some_iff.mp h
    refine xr_opA (pc' := 29) (lo' := [some (.ref v0), some (.int v1), some (.int v2)]) (st' := [.int v2, .ref x10]) (o := ldFR μ v0 9 11) rfl hx11 ?_
    refine xr_go 5 (pc' := 34) (lo' := [some (.ref v0), some (.int v1), some (.int v2)]) (st' := [.int (((xc 4) * v1) + v2), .ref x11, .int v2, .ref x10]) (μ' := μ) rfl ?_
    obtain ⟨x12, hx12, h⟩ := Option.bind_eq_some_iff.mp h
    refine xr_opI (pc' := 35) (lo' := [some (.ref v0), some (.int v1), some (.int v2)]) (st' := [.int v2, .ref x10]) (o := ldA μ x11 (((xc 4) * v1) + v2)) rfl hx12 ?_
    obtain ⟨μ13, hμ13, h⟩ := Option.bind_eq_some_iff.mp h
    refine xr_opM (pc' := 36) (lo' := [some (.ref v0), some (.int v1), some (.int v2)]) (st' := []) (o := stA μ x10 v2 x12) rfl hμ13 ?_
    refine xr_go 1 (pc' := 37) (lo' := [some (.ref v0), some (.int v1), some (.int v2)]) (st' := [.ref v0]) (μ' := μ13) rfl ?_
    obtain ⟨x14, hx14, h⟩ := Option.bind_eq_some_iff.mp h
    refine xr_opA (pc' := 40) (lo' := [some (.ref v0), some (.int v1), some (.int v2)]) (st' := []) (o := ldFR μ13 v0 9 31) rfl hx14 ?_
    refine xr_go 2 (pc' := 42) (lo' := [some (.ref v0), some (.int v1), some (.int v2)]) (st' := [.ref v0, .int v2, .ref x14]) (μ' := μ13) rfl ?_
    obtain ⟨x15, hx15, h⟩ := Option.bind_eq_some_iff.mp h
    refine xr_opA (pc' := 45) (lo' := [some (.ref v0), some (.int v1), some (.int v2)]) (st' := [.int v2, .ref x14]) (o := ldFR μ13 v0 9 12) rfl hx15 ?_
    refine xr_go 5 (pc' := 50) (lo' := [some (.ref v0), some (.int v1), some (.int v2)]) (st' := [.int (((xc 4) * v1) + v2), .ref x15, .int v2, .ref x14]) (μ' := μ13) rfl ?_
    obtain ⟨x16, hx16, h⟩ := Option.bind_eq_some_iff.mp h
    refine xr_opI (pc' := 51) (lo' := [some (.ref v0), some (.int v1), some (.int v2)]) (st' := [.int v2, .ref x14]) (o := ldA μ13 x15 (((xc 4) * v1) + v2)) rfl hx16 ?_
    obtain ⟨μ17, hμ17, h⟩ := Option.bind_eq_some_iff.mp h
    refine xr_opM (pc' := 52) (lo' := [some (.ref v0), some (.int v1), some (.int v2)]) (st' := []) (o := stA μ13 x14 v2 x16) rfl hμ17 ?_
    refine xr_go 1 (pc' := 53) (lo' := [some (.ref v0), some (.int v1), some (.int v2)]) (st' := [.ref v0]) (μ' := μ17) rfl ?_
    obtain ⟨x18, hx18, h⟩ := Option.bind_eq_some_iff.mp h
    refine xr_opA (pc' := 56) (lo' := [some (.ref v0), some (.int v1), some (.int v2)]) (st' := []) (o := ldFR μ17 v0 9 32) rfl hx18 ?_
    refine xr_go 2 (pc' := 58) (lo' := [some (.ref v0), some (.int v1), some (.int v2)]) (st' := [.ref v0, .int v2, .ref x18]) (μ' := μ17) rfl ?_
    obtain ⟨x19, hx19, h⟩ := Option.bind_eq_some_iff.mp h
    refine xr_opA (pc' := 61) (lo' := [some (.ref v0), some (.int v1), some (.int v2)]) (st' := [.int v2, .ref x18]) (o := ldFR μ17 v0 9 13) rfl hx19 ?_
    refine xr_go 5 (pc' := 66) (lo' := [some (.ref v0), some (.int v1), some (.int v2)]) (st' := [.int (((xc 4) * v1) + v2), .ref x19, .int v2, .ref x18]) (μ' := μ17) rfl ?_
    obtain ⟨x20, hx20, h⟩ := Option.bind_eq_some_iff.mp h
    refine xr_opI (pc' := 67) (lo' := [some (.ref v0), some (.int v1), some (.int v2)]) (st' := [.int v2, .ref x18]) (o := ldA μ17 x19 (((xc 4) * v1) + v2)) rfl hx20 ?_
    obtain ⟨μ21, hμ21, h⟩ := Option.bind_eq_some_iff.mp h
    refine xr_opM (pc' := 68) (lo' := [some (.ref v0), some (.int v1), some (.int v2)]) (st' := []) (o := stA μ17 x18 v2 x20) rfl hμ21 ?_
    refine xr_go 2 (pc' := 12) (lo' := [some (.ref v0), some (.int v1), some (.int (v2 + xc 1))]) (st' := []) (μ' := μ21) rfl ?_
    refine xr_forget (lo := [some (.ref v0), some (.int v1), some (.int (v2 + xc 1))]) ⟨rfl, rfl, rfl, trivial⟩ ?_
    have ho := Option.some.inj h
    subst ho
    exact hK
theorem fM_load_L12_lp {d : Nat} {v0 : Nat} {v1 : Int32} {v2 : Int32} {μ : xM} {rv : Option Value} {μf : xM} {out : xM} (h : xwh (fun s : Int32 × xM => fM_load_L12 v0 v1 s.1 s.2) (v2, μ) = some out) (hK : fM_load_K rv μf out) : xRun (d + 0) 166 12 [some (.ref v0), some (.int v1), some (.int v2)] [] μ rv μf :=
  xwh_ind (Rh := fun s : Int32 × xM => xRun (d + 0) 166 12 [some (.ref v0), some (.int v1), some (.int s.1)] [] s.2 rv μf) (Co := fM_load_K rv μf) (fun s o hb hk => fM_load_L12_ok hb hk) h hK
noncomputable def fM_load_0  (v0 : Nat) (v1 : Int32) (μ : xM) : Option (xM) := (ldFR μ v0 9 10).bind fun x22 => (ldA μ x22 v1).bind fun x23 => (stF μ v0 9 29 x23).bind fun μ24 => xwh (fun s : Int32 × xM => fM_load_L12 v0 v1 s.1 s.2) (xc 0, μ24)
theorem fM_load_0_ok {d : Nat} {v0 : Nat} {v1 : Int32} {μ : xM} {rv : Option Value} {μf : xM} {out : xM} (h : fM_load_0 v0 v1 μ = some out) (hK : fM_load_K rv μf out) : xRun (d + 0) 166 0 [some (.ref v0), some (.int v1), none] [] μ rv μf := by
  unfold fM_load_0 at h
  refine xr_go 2 (pc' := 2) (lo' := [some (.ref v0), some (.int v1), none]) (st' := [.ref v0, .ref v0]) (μ' := μ) rfl ?_
  obtain ⟨x22, hx22, h⟩ := Option.bind_eq_some_iff.mp h
  refine xr_opA (pc' := 5) (lo' := [some (.ref v0), some (.int v1), none]) (st' := [.ref v0]) (o := ldFR μ v0 9 10) rfl hx22 ?_
  refine xr_go 1 (pc' := 6) (lo' := [some (.ref v0), some (.int v1), none]) (st' := [.int v1, .ref x22, .ref v0]) (μ' := μ) rfl ?_
  obtain ⟨x23, hx23, h⟩ := Option.bind_eq_some_iff.mp h
  refine xr_opI (pc' := 7) (lo' := [some (.ref v0), some (.int v1), none]) (st' := [.ref v0]) (o := ldA μ x22 v1) rfl hx23 ?_
  obtain ⟨μ24, hμ24, h⟩ := Option.bind_eq_some_iff.mp h
  refine xr_opM (pc' := 10) (lo' := [some (.ref v0), some (.int v1), none]) (st' := []) (o := stF μ v0 9 29 x23) rfl hμ24 ?_
  refine xr_go 2 (pc' := 12) (lo' := [some (.ref v0), some (.int v1), some (.int (xc 0))]) (st' := []) (μ' := μ24) rfl ?_
  refine xr_forget (lo := [some (.ref v0), some (.int v1), some (.int (xc 0))]) ⟨rfl, rfl, rfl, trivial⟩ ?_
  exact fM_load_L12_lp h hK
noncomputable def fM_load (a0 : Nat) (a1 : Int32) (μ : xM) : Option (xM) := xgd μ a0 9 (fM_load_0 a0 a1 μ)
theorem fM_load_kd {a0 : Nat} {a1 : Int32} {μ : xM} {o : xM} (h : fM_load a0 a1 μ = some o) : (xK μ a0).1 = 10 + 9 := (xgd_some h).1
theorem fM_load_ok {d : Nat} {a0 : Nat} {a1 : Int32} {μ : xM} {o : xM} (h : fM_load a0 a1 μ = some o) : xRun (d + 0) 166 0 [some (.ref a0), some (.int a1), none] [] μ none o :=
  xr_forget (lo := [some (.ref a0), some (.int a1), none]) (⟨rfl, rfl, trivial⟩) (fM_load_0_ok (d := d) (xgd_some h).2 (show fM_load_K _ _ o from ⟨rfl, rfl⟩))
-- KeptAnswersModel.thin()V 
def fM_thin_K (rv : Option Value) (μf : xM) : (xM) → Prop := fun o => rv = none ∧ μf = o
def fM_thin_K4 (v0 : Nat) (d : Nat) (rv : Option Value) (μf : xM) : ((Int32 × Int32 × xM) ⊕ (xM)) → Prop := Sum.elim (fun s : Int32 × Int32 × xM => xRun (d + 0) 168 4 [some (.ref v0), some (.int s.1), some (.int s.2.1), none, none] [] s.2.2 rv μf) (fM_thin_K rv μf)
def fM_thin_K17 (v0 : Nat) (v1 : Int32) (v2 : Int32) (μ : xM) (d : Nat) (rv : Option Value) (μf : xM) : ((Int32 × Int32) ⊕ ((Int32 × Int32 × xM) ⊕ (xM))) → Prop := Sum.elim (fun s : Int32 × Int32 => xRun (d + 0) 168 17 [some (.ref v0), some (.int v1), some (.int v2), some (.int s.1), some (.int s.2)] [] μ rv μf) (fM_thin_K4 v0 d rv μf)
noncomputable def fM_thin_136  (v0 : Nat) (v1 : Int32) (μ : xM) : Option (xM) := (stF μ v0 9 29 v1).bind fun μ1 => some μ1
theorem fM_thin_136_ok {d : Nat} {v0 : Nat} {v1 : Int32} {μ : xM} {rv : Option Value} {μf : xM} {out : xM} (h : fM_thin_136 v0 v1 μ = some out) (hK : fM_thin_K rv μf out) : xRun (d + 0) 168 136 [some (.ref v0), some (.int v1), none, none, none] [] μ rv μf := by
  unfold fM_thin_136 at h
  refine xr_go 2 (pc' := 138) (lo' := [some (.ref v0), some (.int v1), none, none, none]) (st' := [.int v1, .ref v0]) (μ' := μ) rfl ?_
  obtain ⟨μ1, hμ1, h⟩ := Option.bind_eq_some_iff.mp h
  refine xr_opM (pc' := 141) (lo' := [some (.ref v0), some (.int v1), none, none, none]) (st' := []) (o := stF μ v0 9 29 v1) rfl hμ1 ?_
  have ho := Option.some.inj h
  subst ho
  obtain ⟨rfl, rfl⟩ := hK
  exact xr_ret (rv := none) rfl rfl (rfl)
noncomputable def fM_thin_130  (v0 : Nat) (v1 : Int32) (v2 : Int32) (μ : xM) : Option ((Int32 × Int32 × xM) ⊕ (xM)) := some (.inl ((v1, v2 + xc 1, μ)))
theorem fM_thin_130_ok {d : Nat} {v0 : Nat} {v1 : Int32} {v2 : Int32} {μ : xM} {rv : Option Value} {μf : xM} {out : (Int32 × Int32 × xM) ⊕ (xM)} (h : fM_thin_130 v0 v1 v2 μ = some out) (hK : fM_thin_K4 v0 d rv μf out) : xRun (d + 0) 168 130 [some (.ref v0), some (.int v1), some (.int v2), none, none] [] μ rv μf := by
  unfold fM_thin_130 at h
  refine xr_go 2 (pc' := 4) (lo' := [some (.ref v0), some (.int v1), some (.int (v2 + xc 1)), none, none]) (st' := []) (μ' := μ) rfl ?_
  refine xr_forget (lo := [some (.ref v0), some (.int v1), some (.int (v2 + xc 1)), none, none]) ⟨rfl, rfl, rfl, trivial⟩ ?_
  have ho := Option.some.inj h
  subst ho
  exact hK
noncomputable def fM_thin_87  (v0 : Nat) (v1 : Int32) (v2 : Int32) (v3 : Int32) (μ : xM) : Option ((Int32 × Int32 × xM) ⊕ (xM)) := if v3 = 0 then ((ldFR μ v0 9 30).bind fun x2 => (ldFR μ v0 9 30).bind fun x3 => (ldA μ x3 v2).bind fun x4 => (stA μ x2 v1 x4).bind fun μ5 => (ldFR μ5 v0 9 31).bind fun x6 => (ldFR μ5 v0 9 31).bind fun x7 => (ldA μ5 x7 v2).bind fun x8 => (stA μ5 x6 v1 x8).bind fun μ9 => (ldFR μ9 v0 9 32).bind fun x10 => (ldFR μ9 v0 9 32).bind fun x11 => (ldA μ9 x11 v2).bind fun x12 => (stA μ9 x10 v1 x12).bind fun μ13 => fM_thin_130 v0 (v1 + xc 1) v2 μ13) else (fM_thin_130 v0 v1 v2 μ)
theorem fM_thin_87_ok {d : Nat} {v0 : Nat} {v1 : Int32} {v2 : Int32} {v3 : Int32} {μ : xM} {rv : Option Value} {μf : xM} {out : (Int32 × Int32 × xM) ⊕ (xM)} (h : fM_thin_87 v0 v1 v2 v3 μ = some out) (hK : fM_thin_K4 v0 d rv μf out) : xRun (d + 0) 168 87 [some (.ref v0), some (.int v1), some (.int v2), some (.int v3), none] [] μ rv μf := by
  unfold fM_thin_87 at h
  refine xr_go 1 (pc' := 88) (lo' := [some (.ref v0), some (.int v1), some (.int v2), some (.int v3), none]) (st' := [.int v3]) (μ' := μ) rfl ?_
  refine xr_ifc (pct := 130) rfl rfl rfl (fun hc => ?_) (fun hc => ?_)
  · replace h := (if_neg (of_decide_eq_true hc)).symm.trans h
    refine xr_forget (lo := [some (.ref v0), some (.int v1), some (.int v2), none, none]) ⟨rfl, rfl, rfl, trivial⟩ ?_
    exact fM_thin_130_ok h hK
  · replace h := (if_pos (Decidable.of_not_not (of_decide_eq_false hc))).symm.trans h
    refine xr_go 1 (pc' := 92) (lo' := [some (.ref v0), some (.int v1), some (.int v2), some (.int v3), none]) (st' := [.ref v0]) (μ' := μ) rfl ?_
    obtain ⟨x2, hx2, h⟩ := Option.bind_eq_some_iff.mp h
    refine xr_opA (pc' := 95) (lo' := [some (.ref v0), some (.int v1), some (.int v2), some (.int v3), none]) (st' := []) (o := ldFR μ v0 9 30) rfl hx2 ?_
    refine xr_go 2 (pc' := 97) (lo' := [some (.ref v0), some (.int v1), some (.int v2), some (.int v3), none]) (st' := [.ref v0, .int v1, .ref x2]) (μ' := μ) rfl ?_
    obtain ⟨x3, hx3, h⟩ := Option.bind_eq_some_iff.mp h
    refine xr_opA (pc' := 100) (lo' := [some (.ref v0), some (.int v1), some (.int v2), some (.int v3), none]) (st' := [.int v1, .ref x2]) (o := ldFR μ v0 9 30) rfl hx3 ?_
    refine xr_go 1 (pc' := 101) (lo' := [some (.ref v0), some (.int v1), some (.int v2), some (.int v3), none]) (st' := [.int v2, .ref x3, .int v1, .ref x2]) (μ' := μ) rfl ?_
    obtain ⟨x4, hx4, h⟩ := Option.bind_eq_some_iff.mp h
    refine xr_opI (pc' := 102) (lo' := [some (.ref v0), some (.int v1), some (.int v2), some (.int v3), none]) (st' := [.int v1, .ref x2]) (o := ldA μ x3 v2) rfl hx4 ?_
    obtain ⟨μ5, hμ5, h⟩ := Option.bind_eq_some_iff.mp h
    refine xr_opM (pc' := 103) (lo' := [some (.ref v0), some (.int v1), some (.int v2), some (.int v3), none]) (st' := []) (o := stA μ x2 v1 x4) rfl hμ5 ?_
    refine xr_go 1 (pc' := 104) (lo' := [some (.ref v0), some (.int v1), some (.int v2), some (.int v3), none]) (st' := [.ref v0]) (μ' := μ5) rfl ?_
    obtain ⟨x6, hx6, h⟩ := Option.bind_eq_some_iff.mp h
    refine xr_opA (pc' := 107) (lo' := [some (.ref v0), some (.int v1), some (.int v2), some (.int v3), none]) (st' := []) (o := ldFR μ5 v0 9 31) rfl hx6 ?_
    refine xr_go 2 (pc' := 109) (lo' := [some (.ref v0), some (.int v1), some (.int v2), some (.int v3), none]) (st' := [.ref v0, .int v1, .ref x6]) (μ' := μ5) rfl ?_
    obtain ⟨x7, hx7, h⟩ := Option.bind_eq_some_iff.mp h
    refine xr_opA (pc' := 112) (lo' := [some (.ref v0), some (.int v1), some (.int v2), some (.int v3), none]) (st' := [.int v1, .ref x6]) (o := ldFR μ5 v0 9 31) rfl hx7 ?_
    refine xr_go 1 (pc' := 113) (lo' := [some (.ref v0), some (.int v1), some (.int v2), some (.int v3), none]) (st' := [.int v2, .ref x7, .int v1, .ref x6]) (μ' := μ5) rfl ?_
    obtain ⟨x8, hx8, h⟩ := Option.bind_eq_some_iff.mp h
    refine xr_opI (pc' := 114) (lo' := [some (.ref v0), some (.int v1), some (.int v2), some (.int v3), none]) (st' := [.int v1, .ref x6]) (o := ldA μ5 x7 v2) rfl hx8 ?_
    obtain ⟨μ9, hμ9, h⟩ := Option.bind_eq_some_iff.mp h
    refine xr_opM (pc' := 115) (lo' := [some (.ref v0), some (.int v1), some (.int v2), some (.int v3), none]) (st' := []) (o := stA μ5 x6 v1 x8) rfl hμ9 ?_
    refine xr_go 1 (pc' := 116) (lo' := [some (.ref v0), some (.int v1), some (.int v2), some (.int v3), none]) (st' := [.ref v0]) (μ' := μ9) rfl ?_
    obtain ⟨x10, hx10, h⟩ := Option.bind_eq_some_iff.mp h
    refine xr_opA (pc' := 119) (lo' := [some (.ref v0), some (.int v1), some (.int v2), some (.int v3), none]) (st' := []) (o := ldFR μ9 v0 9 32) rfl hx10 ?_
    refine xr_go 2 (pc' := 121) (lo' := [some (.ref v0), some (.int v1), some (.int v2), some (.int v3), none]) (st' := [.ref v0, .int v1, .ref x10]) (μ' := μ9) rfl ?_
    obtain ⟨x11, hx11, h⟩ := Option.bind_eq_some_iff.mp h
    refine xr_opA (pc' := 124) (lo' := [some (.ref v0), some (.int v1), some (.int v2), some (.int v3), none]) (st' := [.int v1, .ref x10]) (o := ldFR μ9 v0 9 32) rfl hx11 ?_
    refine xr_go 1 (pc' := 125) (lo' := [some (.ref v0), some (.int v1), some (.int v2), some (.int v3), none]) (st' := [.int v2, .ref x11, .int v1, .ref x10]) (μ' := μ9) rfl ?_
    obtain ⟨x12, hx12, h⟩ := Option.bind_eq_some_iff.mp h
    refine xr_opI (pc' := 126) (lo' := [some (.ref v0), some (.int v1), some (.int v2), some (.int v3), none]) (st' := [.int v1, .ref x10]) (o := ldA μ9 x11 v2) rfl hx12 ?_
    obtain ⟨μ13, hμ13, h⟩ := Option.bind_eq_some_iff.mp h
    refine xr_opM (pc' := 127) (lo' := [some (.ref v0), some (.int v1), some (.int v2), some (.int v3), none]) (st' := []) (o := stA μ9 x10 v1 x12) rfl hμ13 ?_
    refine xr_go 1 (pc' := 130) (lo' := [some (.ref v0), some (.int (v1 + xc 1)), some (.int v2), some (.int v3), none]) (st' := []) (μ' := μ13) rfl ?_
    refine xr_forget (lo := [some (.ref v0), some (.int (v1 + xc 1)), some (.int v2), none, none]) ⟨rfl, rfl, rfl, trivial⟩ ?_
    exact fM_thin_130_ok h hK
noncomputable def fM_thin_80  (v0 : Nat) (v1 : Int32) (v2 : Int32) (v4 : Int32) (s0 : Int32) (μ : xM) : Option ((Int32 × Int32) ⊕ ((Int32 × Int32 × xM) ⊕ (xM))) := some (.inl ((s0, v4 + xc 1)))
theorem fM_thin_80_ok {d : Nat} {v0 : Nat} {v1 : Int32} {v2 : Int32} {v4 : Int32} {s0 : Int32} {μ : xM} {rv : Option Value} {μf : xM} {out : (Int32 × Int32) ⊕ ((Int32 × Int32 × xM) ⊕ (xM))} (h : fM_thin_80 v0 v1 v2 v4 s0 μ = some out) (hK : fM_thin_K17 v0 v1 v2 μ d rv μf out) : xRun (d + 0) 168 80 [some (.ref v0), some (.int v1), some (.int v2), none, some (.int v4)] [.int s0] μ rv μf := by
  unfold fM_thin_80 at h
  refine xr_go 3 (pc' := 17) (lo' := [some (.ref v0), some (.int v1), some (.int v2), some (.int s0), some (.int (v4 + xc 1))]) (st' := []) (μ' := μ) rfl ?_
  refine xr_forget (lo := [some (.ref v0), some (.int v1), some (.int v2), some (.int s0), some (.int (v4 + xc 1))]) ⟨rfl, rfl, rfl, rfl, rfl, trivial⟩ ?_
  have ho := Option.some.inj h
  subst ho
  exact hK
noncomputable def fM_thin_79  (v0 : Nat) (v1 : Int32) (v2 : Int32) (v4 : Int32) (μ : xM) : Option ((Int32 × Int32) ⊕ ((Int32 × Int32 × xM) ⊕ (xM))) := fM_thin_80 v0 v1 v2 v4 (xc 0) μ
theorem fM_thin_79_ok {d : Nat} {v0 : Nat} {v1 : Int32} {v2 : Int32} {v4 : Int32} {μ : xM} {rv : Option Value} {μf : xM} {out : (Int32 × Int32) ⊕ ((Int32 × Int32 × xM) ⊕ (xM))} (h : fM_thin_79 v0 v1 v2 v4 μ = some out) (hK : fM_thin_K17 v0 v1 v2 μ d rv μf out) : xRun (d + 0) 168 79 [some (.ref v0), some (.int v1), some (.int v2), none, some (.int v4)] [] μ rv μf := by
  unfold fM_thin_79 at h
  refine xr_go 1 (pc' := 80) (lo' := [some (.ref v0), some (.int v1), some (.int v2), none, some (.int v4)]) (st' := [.int (xc 0)]) (μ' := μ) rfl ?_
  refine xr_forget (lo := [some (.ref v0), some (.int v1), some (.int v2), none, some (.int v4)]) ⟨rfl, rfl, rfl, rfl, trivial⟩ ?_
  exact fM_thin_80_ok h hK
noncomputable def fM_thin_75  (v0 : Nat) (v1 : Int32) (v2 : Int32) (v4 : Int32) (μ : xM) : Option ((Int32 × Int32) ⊕ ((Int32 × Int32 × xM) ⊕ (xM))) := fM_thin_80 v0 v1 v2 v4 (xc 1) μ
theorem fM_thin_75_ok {d : Nat} {v0 : Nat} {v1 : Int32} {v2 : Int32} {v4 : Int32} {μ : xM} {rv : Option Value} {μf : xM} {out : (Int32 × Int32) ⊕ ((Int32 × Int32 × xM) ⊕ (xM))} (h : fM_thin_75 v0 v1 v2 v4 μ = some out) (hK : fM_thin_K17 v0 v1 v2 μ d rv μf out) : xRun (d + 0) 168 75 [some (.ref v0), some (.int v1), some (.int v2), none, some (.int v4)] [] μ rv μf := by
  unfold fM_thin_75 at h
  refine xr_go 2 (pc' := 80) (lo' := [some (.ref v0), some (.int v1), some (.int v2), none, some (.int v4)]) (st' := [.int (xc 1)]) (μ' := μ) rfl ?_
  refine xr_forget (lo := [some (.ref v0), some (.int v1), some (.int v2), none, some (.int v4)]) ⟨rfl, rfl, rfl, rfl, trivial⟩ ?_
  exact fM_thin_80_ok h hK
noncomputable def fM_thin_L17  (v0 : Nat) (v1 : Int32) (v2 : Int32) (v3 : Int32) (v4 : Int32) (μ : xM) : Option ((Int32 × Int32) ⊕ ((Int32 × Int32 × xM) ⊕ (xM))) := if v1 ≤ v4 then ((fM_thin_87 v0 v1 v2 v3 μ).map (fun o => .inr o)) else (if v3 = 0 then ((ldFR μ v0 9 30).bind fun x14 => (ldA μ x14 v4).bind fun x15 => (ldFR μ v0 9 30).bind fun x16 => (ldA μ x16 v2).bind fun x17 => if x15 = x17 then ((ldFR μ v0 9 31).bind fun x18 => (ldA μ x18 v4).bind fun x19 => (ldFR μ v0 9 31).bind fun x20 => (ldA μ x20 v2).bind fun x21 => if x19 = x21 then ((ldFR μ v0 9 32).bind fun x22 => (ldA μ x22 v4).bind fun x23 => (ldFR μ v0 9 32).bind fun x24 => (ldA μ x24 v2).bind fun x25 => if x23 = x25 then (fM_thin_75 v0 v1 v2 v4 μ) else (fM_thin_79 v0 v1 v2 v4 μ)) else (fM_thin_79 v0 v1 v2 v4 μ)) else (fM_thin_79 v0 v1 v2 v4 μ)) else (fM_thin_75 v0 v1 v2 v4 μ))
theorem fM_thin_L17_ok {d : Nat} {v0 : Nat} {v1 : Int32} {v2 : Int32} {v3 : Int32} {v4 : Int32} {μ : xM} {rv : Option Value} {μf : xM} {out : (Int32 × Int32) ⊕ ((Int32 × Int32 × xM) ⊕ (xM))} (h : fM_thin_L17 v0 v1 v2 v3 v4 μ = some out) (hK : fM_thin_K17 v0 v1 v2 μ d rv μf out) : xRun (d + 0) 168 17 [some (.ref v0), some (.int v1), some (.int v2), some (.int v3), some (.int v4)] [] μ rv μf := by
  unfold fM_thin_L17 at h
  refine xr_go 2 (pc' := 20) (lo' := [some (.ref v0), some (.int v1), some (.int v2), some (.int v3), some (.int v4)]) (st' := [.int v1, .int v4]) (μ' := μ) rfl ?_
  refine xr_icmp (pct := 87) rfl rfl rfl (fun hc => ?_) (fun hc => ?_)
  · replace h := (if_pos (of_decide_eq_true hc)).symm.trans h
    refine xr_forget (lo := [some (.ref v0), some (.int v1), some (.int v2), some (.int v3), none]) ⟨rfl, rfl, rfl, rfl, trivial⟩ ?_
    obtain ⟨o, h2, rfl⟩ := Option.map_eq_some_iff.mp h
    exact fM_thin_87_ok h2 hK
  · replace h := (if_neg (of_decide_eq_false hc)).symm.trans h
    refine xr_go 1 (pc' := 24) (lo' := [some (.ref v0), some (.int v1), some (.int v2), some (.int v3), some (.int v4)]) (st' := [.int v3]) (μ' := μ) rfl ?_
    refine xr_ifc (pct := 75) rfl rfl rfl (fun hc => ?_) (fun hc => ?_)
    · replace h := (if_neg (of_decide_eq_true hc)).symm.trans h
      refine xr_forget (lo := [some (.ref v0), some (.int v1), some (.int v2), none, some (.int v4)]) ⟨rfl, rfl, rfl, rfl, trivial⟩ ?_
      exact fM_thin_75_ok h hK
    · replace h := (if_pos (Decidable.of_not_not (of_decide_eq_false hc))).symm.trans h
      refine xr_go 1 (pc' := 28) (lo' := [some (.ref v0), some (.int v1), some (.int v2), some (.int v3), some (.int v4)]) (st' := [.ref v0]) (μ' := μ) rfl ?_
      obtain ⟨x14, hx14, h⟩ := Option.bind_eq_some_iff.mp h
      refine xr_opA (pc' := 31) (lo' := [some (.ref v0), some (.int v1), some (.int v2), some (.int v3), some (.int v4)]) (st' := []) (o := ldFR μ v0 9 30) rfl hx14 ?_
      refine xr_go 1 (pc' := 33) (lo' := [some (.ref v0), some (.int v1), some (.int v2), some (.int v3), some (.int v4)]) (st' := [.int v4, .ref x14]) (μ' := μ) rfl ?_
      obtain ⟨x15, hx15, h⟩ := Option.bind_eq_some_iff.mp h
      refine xr_opI (pc' := 34) (lo' := [some (.ref v0), some (.int v1), some (.int v2), some (.int v3), some (.int v4)]) (st' := []) (o := ldA μ x14 v4) rfl hx15 ?_
      refine xr_go 1 (pc' := 35) (lo' := [some (.ref v0), some (.int v1), some (.int v2), some (.int v3), some (.int v4)]) (st' := [.ref v0, .int x15]) (μ' := μ) rfl ?_
      obtain ⟨x16, hx16, h⟩ := Option.bind_eq_some_iff.mp h
      refine xr_opA (pc' := 38) (lo' := [some (.ref v0), some (.int v1), some (.int v2), some (.int v3), some (.int v4)]) (st' := [.int x15]) (o := ldFR μ v0 9 30) rfl hx16 ?_
      refine xr_go 1 (pc' := 39) (lo' := [some (.ref v0), some (.int v1), some (.int v2), some (.int v3), some (.int v4)]) (st' := [.int v2, .ref x16, .int x15]) (μ' := μ) rfl ?_
      obtain ⟨x17, hx17, h⟩ := Option.bind_eq_some_iff.mp h
      refine xr_opI (pc' := 40) (lo' := [some (.ref v0), some (.int v1), some (.int v2), some (.int v3), some (.int v4)]) (st' := [.int x15]) (o := ldA μ x16 v2) rfl hx17 ?_
      refine xr_icmp (pct := 79) rfl rfl rfl (fun hc => ?_) (fun hc => ?_)
      · replace h := (if_neg (of_decide_eq_true hc)).symm.trans h
        refine xr_forget (lo := [some (.ref v0), some (.int v1), some (.int v2), none, some (.int v4)]) ⟨rfl, rfl, rfl, rfl, trivial⟩ ?_
        exact fM_thin_79_ok h hK
      · replace h := (if_pos (Decidable.of_not_not (of_decide_eq_false hc))).symm.trans h
        refine xr_go 1 (pc' := 44) (lo' := [some (.ref v0), some (.int v1), some (.int v2), some (.int v3), some (.int v4)]) (st' := [.ref v0]) (μ' := μ) rfl ?_
        obtain ⟨x18, hx18, h⟩ := Option.bind_eq_some_iff.mp h
        refine xr_opA (pc' := 47) (lo' := [some (.ref v0), some (.int v1), some (.int v2), some (.int v3), some (.int v4)]) (st' := []) (o := ldFR μ v0 9 31) rfl hx18 ?_
        refine xr_go 1 (pc' := 49) (lo' := [some (.ref v0), some (.int v1), some (.int v2), some (.int v3), some (.int v4)]) (st' := [.int v4, .ref x18]) (μ' := μ) rfl ?_
        obtain ⟨x19, hx19, h⟩ := Option.bind_eq_some_iff.mp h
        refine xr_opI (pc' := 50) (lo' := [some (.ref v0), some (.int v1), some (.int v2), some (.int v3), some (.int v4)]) (st' := []) (o := ldA μ x18 v4) rfl hx19 ?_
        refine xr_go 1 (pc' := 51) (lo' := [some (.ref v0), some (.int v1), some (.int v2), some (.int v3), some (.int v4)]) (st' := [.ref v0, .int x19]) (μ' := μ) rfl ?_
        obtain ⟨x20, hx20, h⟩ := Option.bind_eq_some_iff.mp h
        refine xr_opA (pc' := 54) (lo' := [some (.ref v0), some (.int v1), some (.int v2), some (.int v3), some (.int v4)]) (st' := [.int x19]) (o := ldFR μ v0 9 31) rfl hx20 ?_
        refine xr_go 1 (pc' := 55) (lo' := [some (.ref v0), some (.int v1), some (.int v2), some (.int v3), some (.int v4)]) (st' := [.int v2, .ref x20, .int x19]) (μ' := μ) rfl ?_
        obtain ⟨x21, hx21, h⟩ := Option.bind_eq_some_iff.mp h
        refine xr_opI (pc' := 56) (lo' := [some (.ref v0), some (.int v1), some (.int v2), some (.int v3), some (.int v4)]) (st' := [.int x19]) (o := ldA μ x20 v2) rfl hx21 ?_
        refine xr_icmp (pct := 79) rfl rfl rfl (fun hc => ?_) (fun hc => ?_)
        · replace h := (if_neg (of_decide_eq_true hc)).symm.trans h
          refine xr_forget (lo := [some (.ref v0), some (.int v1), some (.int v2), none, some (.int v4)]) ⟨rfl, rfl, rfl, rfl, trivial⟩ ?_
          exact fM_thin_79_ok h hK
        · replace h := (if_pos (Decidable.of_not_not (of_decide_eq_false hc))).symm.trans h
          refine xr_go 1 (pc' := 60) (lo' := [some (.ref v0), some (.int v1), some (.int v2), some (.int v3), some (.int v4)]) (st' := [.ref v0]) (μ' := μ) rfl ?_
          obtain ⟨x22, hx22, h⟩ := Option.bind_eq_some_iff.mp h
          refine xr_opA (pc' := 63) (lo' := [some (.ref v0), some (.int v1), some (.int v2), some (.int v3), some (.int v4)]) (st' := []) (o := ldFR μ v0 9 32) rfl hx22 ?_
          refine xr_go 1 (pc' := 65) (lo' := [some (.ref v0), some (.int v1), some (.int v2), some (.int v3), some (.int v4)]) (st' := [.int v4, .ref x22]) (μ' := μ) rfl ?_
          obtain ⟨x23, hx23, h⟩ := Option.bind_eq_some_iff.mp h
          refine xr_opI (pc' := 66) (lo' := [some (.ref v0), some (.int v1), some (.int v2), some (.int v3), some (.int v4)]) (st' := []) (o := ldA μ x22 v4) rfl hx23 ?_
          refine xr_go 1 (pc' := 67) (lo' := [some (.ref v0), some (.int v1), some (.int v2), some (.int v3), some (.int v4)]) (st' := [.ref v0, .int x23]) (μ' := μ) rfl ?_
          obtain ⟨x24, hx24, h⟩ := Option.bind_eq_some_iff.mp h
          refine xr_opA (pc' := 70) (lo' := [some (.ref v0), some (.int v1), some (.int v2), some (.int v3), some (.int v4)]) (st' := [.int x23]) (o := ldFR μ v0 9 32) rfl hx24 ?_
          refine xr_go 1 (pc' := 71) (lo' := [some (.ref v0), some (.int v1), some (.int v2), some (.int v3), some (.int v4)]) (st' := [.int v2, .ref x24, .int x23]) (μ' := μ) rfl ?_
          obtain ⟨x25, hx25, h⟩ := Option.bind_eq_some_iff.mp h
          refine xr_opI (pc' := 72) (lo' := [some (.ref v0), some (.int v1), some (.int v2), some (.int v3), some (.int v4)]) (st' := [.int x23]) (o := ldA μ x24 v2) rfl hx25 ?_
          refine xr_icmp (pct := 79) rfl rfl rfl (fun hc => ?_) (fun hc => ?_)
          · replace h := (if_neg (of_decide_eq_true hc)).symm.trans h
            refine xr_forget (lo := [some (.ref v0), some (.int v1), some (.int v2), none, some (.int v4)]) ⟨rfl, rfl, rfl, rfl, trivial⟩ ?_
            exact fM_thin_79_ok h hK
          · replace h := (if_pos (Decidable.of_not_not (of_decide_eq_false hc))).symm.trans h
            refine xr_forget (lo := [some (.ref v0), some (.int v1), some (.int v2), none, some (.int v4)]) ⟨rfl, rfl, rfl, rfl, trivial⟩ ?_
            exact fM_thin_75_ok h hK
theorem fM_thin_L17_lp {d : Nat} {v0 : Nat} {v1 : Int32} {v2 : Int32} {v3 : Int32} {v4 : Int32} {μ : xM} {rv : Option Value} {μf : xM} {out : (Int32 × Int32 × xM) ⊕ (xM)} (h : xwh (fun s : Int32 × Int32 => fM_thin_L17 v0 v1 v2 s.1 s.2 μ) (v3, v4) = some out) (hK : fM_thin_K4 v0 d rv μf out) : xRun (d + 0) 168 17 [some (.ref v0), some (.int v1), some (.int v2), some (.int v3), some (.int v4)] [] μ rv μf :=
  xwh_ind (Rh := fun s : Int32 × Int32 => xRun (d + 0) 168 17 [some (.ref v0), some (.int v1), some (.int v2), some (.int s.1), some (.int s.2)] [] μ rv μf) (Co := fM_thin_K4 v0 d rv μf) (fun s o hb hk => fM_thin_L17_ok hb hk) h hK
noncomputable def fM_thin_L4  (v0 : Nat) (v1 : Int32) (v2 : Int32) (μ : xM) : Option ((Int32 × Int32 × xM) ⊕ (xM)) := (ldF μ v0 9 29).bind fun x26 => if x26 ≤ v2 then ((fM_thin_136 v0 v1 μ).map (fun o => .inr o)) else (xwh (fun s : Int32 × Int32 => fM_thin_L17 v0 v1 v2 s.1 s.2 μ) (xc 0, xc 0))
theorem fM_thin_L4_ok {d : Nat} {v0 : Nat} {v1 : Int32} {v2 : Int32} {μ : xM} {rv : Option Value} {μf : xM} {out : (Int32 × Int32 × xM) ⊕ (xM)} (h : fM_thin_L4 v0 v1 v2 μ = some out) (hK : fM_thin_K4 v0 d rv μf out) : xRun (d + 0) 168 4 [some (.ref v0), some (.int v1), some (.int v2), none, none] [] μ rv μf := by
  unfold fM_thin_L4 at h
  refine xr_go 2 (pc' := 6) (lo' := [some (.ref v0), some (.int v1), some (.int v2), none, none]) (st' := [.ref v0, .int v2]) (μ' := μ) rfl ?_
  obtain ⟨x26, hx26, h⟩ := Option.bind_eq_some_iff.mp h
  refine xr_opI (pc' := 9) (lo' := [some (.ref v0), some (.int v1), some (.int v2), none, none]) (st' := [.int v2]) (o := ldF μ v0 9 29) rfl hx26 ?_
  refine xr_icmp (pct := 136) rfl rfl rfl (fun hc => ?_) (fun hc => ?_)
  · replace h := (if_pos (of_decide_eq_true hc)).symm.trans h
    refine xr_forget (lo := [some (.ref v0), some (.int v1), none, none, none]) ⟨rfl, rfl, trivial⟩ ?_
    obtain ⟨o, h2, rfl⟩ := Option.map_eq_some_iff.mp h
    exact fM_thin_136_ok h2 hK
  · replace h := (if_neg (of_decide_eq_false hc)).symm.trans h
    refine xr_go 4 (pc' := 17) (lo' := [some (.ref v0), some (.int v1), some (.int v2), some (.int (xc 0)), some (.int (xc 0))]) (st' := []) (μ' := μ) rfl ?_
    refine xr_forget (lo := [some (.ref v0), some (.int v1), some (.int v2), some (.int (xc 0)), some (.int (xc 0))]) ⟨rfl, rfl, rfl, rfl, rfl, trivial⟩ ?_
    exact fM_thin_L17_lp h hK
theorem fM_thin_L4_lp {d : Nat} {v0 : Nat} {v1 : Int32} {v2 : Int32} {μ : xM} {rv : Option Value} {μf : xM} {out : xM} (h : xwh (fun s : Int32 × Int32 × xM => fM_thin_L4 v0 s.1 s.2.1 s.2.2) (v1, v2, μ) = some out) (hK : fM_thin_K rv μf out) : xRun (d + 0) 168 4 [some (.ref v0), some (.int v1), some (.int v2), none, none] [] μ rv μf :=
  xwh_ind (Rh := fun s : Int32 × Int32 × xM => xRun (d + 0) 168 4 [some (.ref v0), some (.int s.1), some (.int s.2.1), none, none] [] s.2.2 rv μf) (Co := fM_thin_K rv μf) (fun s o hb hk => fM_thin_L4_ok hb hk) h hK
noncomputable def fM_thin_0  (v0 : Nat) (μ : xM) : Option (xM) := xwh (fun s : Int32 × Int32 × xM => fM_thin_L4 v0 s.1 s.2.1 s.2.2) (xc 0, xc 0, μ)
theorem fM_thin_0_ok {d : Nat} {v0 : Nat} {μ : xM} {rv : Option Value} {μf : xM} {out : xM} (h : fM_thin_0 v0 μ = some out) (hK : fM_thin_K rv μf out) : xRun (d + 0) 168 0 [some (.ref v0), none, none, none, none] [] μ rv μf := by
  unfold fM_thin_0 at h
  refine xr_go 4 (pc' := 4) (lo' := [some (.ref v0), some (.int (xc 0)), some (.int (xc 0)), none, none]) (st' := []) (μ' := μ) rfl ?_
  refine xr_forget (lo := [some (.ref v0), some (.int (xc 0)), some (.int (xc 0)), none, none]) ⟨rfl, rfl, rfl, trivial⟩ ?_
  exact fM_thin_L4_lp h hK
noncomputable def fM_thin (a0 : Nat) (μ : xM) : Option (xM) := xgd μ a0 9 (fM_thin_0 a0 μ)
theorem fM_thin_kd {a0 : Nat} {μ : xM} {o : xM} (h : fM_thin a0 μ = some o) : (xK μ a0).1 = 10 + 9 := (xgd_some h).1
theorem fM_thin_ok {d : Nat} {a0 : Nat} {μ : xM} {o : xM} (h : fM_thin a0 μ = some o) : xRun (d + 0) 168 0 [some (.ref a0), none, none, none, none] [] μ none o :=
  xr_forget (lo := [some (.ref a0), none, none, none, none]) (⟨rfl, trivial⟩) (fM_thin_0_ok (d := d) (xgd_some h).2 (show fM_thin_K _ _ o from ⟨rfl, rfl⟩))
-- KeptAnswersModel.replace(II)V 
def fM_replace_K (rv : Option Value) (μf : xM) : (xM) → Prop := fun o => rv = none ∧ μf = o
def fM_replace_K2 (v0 : Nat) (v1 : Int32) (v2 : Int32) (d : Nat) (rv : Option Value) (μf : xM) : ((Int32 × xM) ⊕ (xM)) → Prop := Sum.elim (fun s : Int32 × xM => xRun (d + 0) 167 2 [some (.ref v0), some (.int v1), some (.int v2), some (.int s.1)] [] s.2 rv μf) (fM_replace_K rv μf)
def fM_replace_K70 (v0 : Nat) (v1 : Int32) (v2 : Int32) (d : Nat) (rv : Option Value) (μf : xM) : ((Int32 × xM) ⊕ (xM)) → Prop := Sum.elim (fun s : Int32 × xM => xRun (d + 0) 167 70 [some (.ref v0), some (.int v1), some (.int v2), some (.int s.1)] [] s.2 rv μf) (fM_replace_K rv μf)
noncomputable def fM_replace_103  (v0 : Nat) (v1 : Int32) (v2 : Int32) (v3 : Int32) (s0 : Int32) (s1 : Int32) (s2 : Nat) (μ : xM) : Option ((Int32 × xM) ⊕ (xM)) := (stA μ s2 s1 s0).bind fun μ1 => some (.inl ((v3 + xc 1, μ1)))
theorem fM_replace_103_ok {d : Nat} {v0 : Nat} {v1 : Int32} {v2 : Int32} {v3 : Int32} {s0 : Int32} {s1 : Int32} {s2 : Nat} {μ : xM} {rv : Option Value} {μf : xM} {out : (Int32 × xM) ⊕ (xM)} (h : fM_replace_103 v0 v1 v2 v3 s0 s1 s2 μ = some out) (hK : fM_replace_K70 v0 v1 v2 d rv μf out) : xRun (d + 0) 167 103 [some (.ref v0), some (.int v1), some (.int v2), some (.int v3)] [.int s0, .int s1, .ref s2] μ rv μf := by
  unfold fM_replace_103 at h
  obtain ⟨μ1, hμ1, h⟩ := Option.bind_eq_some_iff.mp h
  refine xr_opM (pc' := 104) (lo' := [some (.ref v0), some (.int v1), some (.int v2), some (.int v3)]) (st' := []) (o := stA μ s2 s1 s0) rfl hμ1 ?_
  refine xr_go 2 (pc' := 70) (lo' := [some (.ref v0), some (.int v1), some (.int v2), some (.int (v3 + xc 1))]) (st' := []) (μ' := μ1) rfl ?_
  refine xr_forget (lo := [some (.ref v0), some (.int v1), some (.int v2), some (.int (v3 + xc 1))]) ⟨rfl, rfl, rfl, rfl, trivial⟩ ?_
  have ho := Option.some.inj h
  subst ho
  exact hK
noncomputable def fM_replace_L70  (v0 : Nat) (v1 : Int32) (v2 : Int32) (v3 : Int32) (μ : xM) : Option ((Int32 × xM) ⊕ (xM)) := (ldF μ v0 9 33).bind fun x2 => if x2 ≤ v3 then (some (.inr μ)) else ((ldFR μ v0 9 34).bind fun x3 => (ldFR μ v0 9 34).bind fun x4 => (ldA μ x4 v3).bind fun x5 => if x5 = v1 then (fM_replace_103 v0 v1 v2 v3 v2 v3 x3 μ) else ((ldFR μ v0 9 34).bind fun x6 => (ldA μ x6 v3).bind fun x7 => fM_replace_103 v0 v1 v2 v3 x7 v3 x3 μ))
theorem fM_replace_L70_ok {d : Nat} {v0 : Nat} {v1 : Int32} {v2 : Int32} {v3 : Int32} {μ : xM} {rv : Option Value} {μf : xM} {out : (Int32 × xM) ⊕ (xM)} (h : fM_replace_L70 v0 v1 v2 v3 μ = some out) (hK : fM_replace_K70 v0 v1 v2 d rv μf out) : xRun (d + 0) 167 70 [some (.ref v0), some (.int v1), some (.int v2), some (.int v3)] [] μ rv μf := by
  unfold fM_replace_L70 at h
  refine xr_go 2 (pc' := 72) (lo' := [some (.ref v0), some (.int v1), some (.int v2), some (.int v3)]) (st' := [.ref v0, .int v3]) (μ' := μ) rfl ?_
  obtain ⟨x2, hx2, h⟩ := Option.bind_eq_some_iff.mp h
  refine xr_opI (pc' := 75) (lo' := [some (.ref v0), some (.int v1), some (.int v2), some (.int v3)]) (st' := [.int v3]) (o := ldF μ v0 9 33) rfl hx2 ?_
  refine xr_icmp (pct := 110) rfl rfl rfl (fun hc => ?_) (fun hc => ?_)
  · replace h := (if_pos (of_decide_eq_true hc)).symm.trans h
    have ho := Option.some.inj h
    subst ho
    obtain ⟨rfl, rfl⟩ := hK
    exact xr_ret (rv := none) rfl rfl (rfl)
  · replace h := (if_neg (of_decide_eq_false hc)).symm.trans h
    refine xr_go 1 (pc' := 79) (lo' := [some (.ref v0), some (.int v1), some (.int v2), some (.int v3)]) (st' := [.ref v0]) (μ' := μ) rfl ?_
    obtain ⟨x3, hx3, h⟩ := Option.bind_eq_some_iff.mp h
    refine xr_opA (pc' := 82) (lo' := [some (.ref v0), some (.int v1), some (.int v2), some (.int v3)]) (st' := []) (o := ldFR μ v0 9 34) rfl hx3 ?_
    refine xr_go 2 (pc' := 84) (lo' := [some (.ref v0), some (.int v1), some (.int v2), some (.int v3)]) (st' := [.ref v0, .int v3, .ref x3]) (μ' := μ) rfl ?_
    obtain ⟨x4, hx4, h⟩ := Option.bind_eq_some_iff.mp h
    refine xr_opA (pc' := 87) (lo' := [some (.ref v0), some (.int v1), some (.int v2), some (.int v3)]) (st' := [.int v3, .ref x3]) (o := ldFR μ v0 9 34) rfl hx4 ?_
    refine xr_go 1 (pc' := 88) (lo' := [some (.ref v0), some (.int v1), some (.int v2), some (.int v3)]) (st' := [.int v3, .ref x4, .int v3, .ref x3]) (μ' := μ) rfl ?_
    obtain ⟨x5, hx5, h⟩ := Option.bind_eq_some_iff.mp h
    refine xr_opI (pc' := 89) (lo' := [some (.ref v0), some (.int v1), some (.int v2), some (.int v3)]) (st' := [.int v3, .ref x3]) (o := ldA μ x4 v3) rfl hx5 ?_
    refine xr_go 1 (pc' := 90) (lo' := [some (.ref v0), some (.int v1), some (.int v2), some (.int v3)]) (st' := [.int v1, .int x5, .int v3, .ref x3]) (μ' := μ) rfl ?_
    refine xr_icmp (pct := 97) rfl rfl rfl (fun hc => ?_) (fun hc => ?_)
    · replace h := (if_neg (of_decide_eq_true hc)).symm.trans h
      refine xr_go 1 (pc' := 98) (lo' := [some (.ref v0), some (.int v1), some (.int v2), some (.int v3)]) (st' := [.ref v0, .int v3, .ref x3]) (μ' := μ) rfl ?_
      obtain ⟨x6, hx6, h⟩ := Option.bind_eq_some_iff.mp h
      refine xr_opA (pc' := 101) (lo' := [some (.ref v0), some (.int v1), some (.int v2), some (.int v3)]) (st' := [.int v3, .ref x3]) (o := ldFR μ v0 9 34) rfl hx6 ?_
      refine xr_go 1 (pc' := 102) (lo' := [some (.ref v0), some (.int v1), some (.int v2), some (.int v3)]) (st' := [.int v3, .ref x6, .int v3, .ref x3]) (μ' := μ) rfl ?_
      obtain ⟨x7, hx7, h⟩ := Option.bind_eq_some_iff.mp h
      refine xr_opI (pc' := 103) (lo' := [some (.ref v0), some (.int v1), some (.int v2), some (.int v3)]) (st' := [.int v3, .ref x3]) (o := ldA μ x6 v3) rfl hx7 ?_
      refine xr_forget (lo := [some (.ref v0), some (.int v1), some (.int v2), some (.int v3)]) ⟨rfl, rfl, rfl, rfl, trivial⟩ ?_
      exact fM_replace_103_ok h hK
    · replace h := (if_pos (Decidable.of_not_not (of_decide_eq_false hc))).symm.trans h
      refine xr_go 2 (pc' := 103) (lo' := [some (.ref v0), some (.int v1), some (.int v2), some (.int v3)]) (st' := [.int v2, .int v3, .ref x3]) (μ' := μ) rfl ?_
      refine xr_forget (lo := [some (.ref v0), some (.int v1), some (.int v2), some (.int v3)]) ⟨rfl, rfl, rfl, rfl, trivial⟩ ?_
      exact fM_replace_103_ok h hK
theorem fM_replace_L70_lp {d : Nat} {v0 : Nat} {v1 : Int32} {v2 : Int32} {v3 : Int32} {μ : xM} {rv : Option Value} {μf : xM} {out : xM} (h : xwh (fun s : Int32 × xM => fM_replace_L70 v0 v1 v2 s.1 s.2) (v3, μ) = some out) (hK : fM_replace_K rv μf out) : xRun (d + 0) 167 70 [some (.ref v0), some (.int v1), some (.int v2), some (.int v3)] [] μ rv μf :=
  xwh_ind (Rh := fun s : Int32 × xM => xRun (d + 0) 167 70 [some (.ref v0), some (.int v1), some (.int v2), some (.int s.1)] [] s.2 rv μf) (Co := fM_replace_K rv μf) (fun s o hb hk => fM_replace_L70_ok hb hk) h hK
noncomputable def fM_replace_68  (v0 : Nat) (v1 : Int32) (v2 : Int32) (μ : xM) : Option (xM) := xwh (fun s : Int32 × xM => fM_replace_L70 v0 v1 v2 s.1 s.2) (xc 0, μ)
theorem fM_replace_68_ok {d : Nat} {v0 : Nat} {v1 : Int32} {v2 : Int32} {μ : xM} {rv : Option Value} {μf : xM} {out : xM} (h : fM_replace_68 v0 v1 v2 μ = some out) (hK : fM_replace_K rv μf out) : xRun (d + 0) 167 68 [some (.ref v0), some (.int v1), some (.int v2), none] [] μ rv μf := by
  unfold fM_replace_68 at h
  refine xr_go 2 (pc' := 70) (lo' := [some (.ref v0), some (.int v1), some (.int v2), some (.int (xc 0))]) (st' := []) (μ' := μ) rfl ?_
  refine xr_forget (lo := [some (.ref v0), some (.int v1), some (.int v2), some (.int (xc 0))]) ⟨rfl, rfl, rfl, rfl, trivial⟩ ?_
  exact fM_replace_L70_lp h hK
noncomputable def fM_replace_61  (v0 : Nat) (v1 : Int32) (v2 : Int32) (v3 : Int32) (s0 : Int32) (s1 : Int32) (s2 : Nat) (μ : xM) : Option ((Int32 × xM) ⊕ (xM)) := (stA μ s2 s1 s0).bind fun μ8 => some (.inl ((v3 + xc 1, μ8)))
theorem fM_replace_61_ok {d : Nat} {v0 : Nat} {v1 : Int32} {v2 : Int32} {v3 : Int32} {s0 : Int32} {s1 : Int32} {s2 : Nat} {μ : xM} {rv : Option Value} {μf : xM} {out : (Int32 × xM) ⊕ (xM)} (h : fM_replace_61 v0 v1 v2 v3 s0 s1 s2 μ = some out) (hK : fM_replace_K2 v0 v1 v2 d rv μf out) : xRun (d + 0) 167 61 [some (.ref v0), some (.int v1), some (.int v2), some (.int v3)] [.int s0, .int s1, .ref s2] μ rv μf := by
  unfold fM_replace_61 at h
  obtain ⟨μ8, hμ8, h⟩ := Option.bind_eq_some_iff.mp h
  refine xr_opM (pc' := 62) (lo' := [some (.ref v0), some (.int v1), some (.int v2), some (.int v3)]) (st' := []) (o := stA μ s2 s1 s0) rfl hμ8 ?_
  refine xr_go 2 (pc' := 2) (lo' := [some (.ref v0), some (.int v1), some (.int v2), some (.int (v3 + xc 1))]) (st' := []) (μ' := μ8) rfl ?_
  refine xr_forget (lo := [some (.ref v0), some (.int v1), some (.int v2), some (.int (v3 + xc 1))]) ⟨rfl, rfl, rfl, rfl, trivial⟩ ?_
  have ho := Option.some.inj h
  subst ho
  exact hK
noncomputable def fM_replace_35  (v0 : Nat) (v1 : Int32) (v2 : Int32) (v3 : Int32) (s0 : Int32) (s1 : Int32) (s2 : Nat) (μ : xM) : Option ((Int32 × xM) ⊕ (xM)) := (stA μ s2 s1 s0).bind fun μ9 => (ldFR μ9 v0 9 32).bind fun x10 => (ldFR μ9 v0 9 32).bind fun x11 => (ldA μ9 x11 v3).bind fun x12 => if x12 = v1 then (fM_replace_61 v0 v1 v2 v3 v2 v3 x10 μ9) else ((ldFR μ9 v0 9 32).bind fun x13 => (ldA μ9 x13 v3).bind fun x14 => fM_replace_61 v0 v1 v2 v3 x14 v3 x10 μ9)
theorem fM_replace_35_ok {d : Nat} {v0 : Nat} {v1 : Int32} {v2 : Int32} {v3 : Int32} {s0 : Int32} {s1 : Int32} {s2 : Nat} {μ : xM} {rv : Option Value} {μf : xM} {out : (Int32 × xM) ⊕ (xM)} (h : fM_replace_35 v0 v1 v2 v3 s0 s1 s2 μ = some out) (hK : fM_replace_K2 v0 v1 v2 d rv μf out) : xRun (d + 0) 167 35 [some (.ref v0), some (.int v1), some (.int v2), some (.int v3)] [.int s0, .int s1, .ref s2] μ rv μf := by
  unfold fM_replace_35 at h
  obtain ⟨μ9, hμ9, h⟩ := Option.bind_eq_some_iff.mp h
  refine xr_opM (pc' := 36) (lo' := [some (.ref v0), some (.int v1), some (.int v2), some (.int v3)]) (st' := []) (o := stA μ s2 s1 s0) rfl hμ9 ?_
  refine xr_go 1 (pc' := 37) (lo' := [some (.ref v0), some (.int v1), some (.int v2), some (.int v3)]) (st' := [.ref v0]) (μ' := μ9) rfl ?_
  obtain ⟨x10, hx10, h⟩ := Option.bind_eq_some_iff.mp h
  refine xr_opA (pc' := 40) (lo' := [some (.ref v0), some (.int v1), some (.int v2), some (.int v3)]) (st' := []) (o := ldFR μ9 v0 9 32) rfl hx10 ?_
  refine xr_go 2 (pc' := 42) (lo' := [some (.ref v0), some (.int v1), some (.int v2), some (.int v3)]) (st' := [.ref v0, .int v3, .ref x10]) (μ' := μ9) rfl ?_
  obtain ⟨x11, hx11, h⟩ := Option.bind_eq_some_iff.mp h
  refine xr_opA (pc' := 45) (lo' := [some (.ref v0), some (.int v1), some (.int v2), some (.int v3)]) (st' := [.int v3, .ref x10]) (o := ldFR μ9 v0 9 32) rfl hx11 ?_
  refine xr_go 1 (pc' := 46) (lo' := [some (.ref v0), some (.int v1), some (.int v2), some (.int v3)]) (st' := [.int v3, .ref x11, .int v3, .ref x10]) (μ' := μ9) rfl ?_
  obtain ⟨x12, hx12, h⟩ := Option.bind_eq_some_iff.mp h
  refine xr_opI (pc' := 47) (lo' := [some (.ref v0), some (.int v1), some (.int v2), some (.int v3)]) (st' := [.int v3, .ref x10]) (o := ldA μ9 x11 v3) rfl hx12 ?_
  refine xr_go 1 (pc' := 48) (lo' := [some (.ref v0), some (.int v1), some (.int v2), some (.int v3)]) (st' := [.int v1, .int x12, .int v3, .ref x10]) (μ' := μ9) rfl ?_
  refine xr_icmp (pct := 55) rfl rfl rfl (fun hc => ?_) (fun hc => ?_)
  · replace h := (if_neg (of_decide_eq_true hc)).symm.trans h
    refine xr_go 1 (pc' := 56) (lo' := [some (.ref v0), some (.int v1), some (.int v2), some (.int v3)]) (st' := [.ref v0, .int v3, .ref x10]) (μ' := μ9) rfl ?_
    obtain ⟨x13, hx13, h⟩ := Option.bind_eq_some_iff.mp h
    refine xr_opA (pc' := 59) (lo' := [some (.ref v0), some (.int v1), some (.int v2), some (.int v3)]) (st' := [.int v3, .ref x10]) (o := ldFR μ9 v0 9 32) rfl hx13 ?_
    refine xr_go 1 (pc' := 60) (lo' := [some (.ref v0), some (.int v1), some (.int v2), some (.int v3)]) (st' := [.int v3, .ref x13, .int v3, .ref x10]) (μ' := μ9) rfl ?_
    obtain ⟨x14, hx14, h⟩ := Option.bind_eq_some_iff.mp h
    refine xr_opI (pc' := 61) (lo' := [some (.ref v0), some (.int v1), some (.int v2), some (.int v3)]) (st' := [.int v3, .ref x10]) (o := ldA μ9 x13 v3) rfl hx14 ?_
    refine xr_forget (lo := [some (.ref v0), some (.int v1), some (.int v2), some (.int v3)]) ⟨rfl, rfl, rfl, rfl, trivial⟩ ?_
    exact fM_replace_61_ok h hK
  · replace h := (if_pos (Decidable.of_not_not (of_decide_eq_false hc))).symm.trans h
    refine xr_go 2 (pc' := 61) (lo' := [some (.ref v0), some (.int v1), some (.int v2), some (.int v3)]) (st' := [.int v2, .int v3, .ref x10]) (μ' := μ9) rfl ?_
    refine xr_forget (lo := [some (.ref v0), some (.int v1), some (.int v2), some (.int v3)]) ⟨rfl, rfl, rfl, rfl, trivial⟩ ?_
    exact fM_replace_61_ok h hK
noncomputable def fM_replace_L2  (v0 : Nat) (v1 : Int32) (v2 : Int32) (v3 : Int32) (μ : xM) : Option ((Int32 × xM) ⊕ (xM)) := (ldF μ v0 9 29).bind fun x15 => if x15 ≤ v3 then ((fM_replace_68 v0 v1 v2 μ).map (fun o => .inr o)) else ((ldFR μ v0 9 31).bind fun x16 => (ldFR μ v0 9 31).bind fun x17 => (ldA μ x17 v3).bind fun x18 => if x18 = v1 then (fM_replace_35 v0 v1 v2 v3 v2 v3 x16 μ) else ((ldFR μ v0 9 31).bind fun x19 => (ldA μ x19 v3).bind fun x20 => fM_replace_35 v0 v1 v2 v3 x20 v3 x16 μ))
theorem fM_replace_L2_ok {d : Nat} {v0 : Nat} {v1 : Int32} {v2 : Int32} {v3 : Int32} {μ : xM} {rv : Option Value} {μf : xM} {out : (Int32 × xM) ⊕ (xM)} (h : fM_replace_L2 v0 v1 v2 v3 μ = some out) (hK : fM_replace_K2 v0 v1 v2 d rv μf out) : xRun (d + 0) 167 2 [some (.ref v0), some (.int v1), some (.int v2), some (.int v3)] [] μ rv μf := by
  unfold fM_replace_L2 at h
  refine xr_go 2 (pc' := 4) (lo' := [some (.ref v0), some (.int v1), some (.int v2), some (.int v3)]) (st' := [.ref v0, .int v3]) (μ' := μ) rfl ?_
  obtain ⟨x15, hx15, h⟩ := Option.bind_eq_some_iff.mp h
  refine xr_opI (pc' := 7) (lo' := [some (.ref v0), some (.int v1), some (.int v2), some (.int v3)]) (st' := [.int v3]) (o := ldF μ v0 9 29) rfl hx15 ?_
  refine xr_icmp (pct := 68) rfl rfl rfl (fun hc => ?_) (fun hc => ?_)
  · replace h := (if_pos (of_decide_eq_true hc)).symm.trans h
    refine xr_forget (lo := [some (.ref v0), some (.int v1), some (.int v2), none]) ⟨rfl, rfl, rfl, trivial⟩ ?_
    obtain ⟨o, h2, rfl⟩ := Option.map_eq_some_iff.mp h
    exact fM_replace_68_ok h2 hK
  · replace h := (if_neg (of_decide_eq_false hc)).symm.trans h
    refine xr_go 1 (pc' := 11) (lo' := [some (.ref v0), some (.int v1), some (.int v2), some (.int v3)]) (st' := [.ref v0]) (μ' := μ) rfl ?_
    obtain ⟨x16, hx16, h⟩ := Option.bind_eq_some_iff.mp h
    refine xr_opA (pc' := 14) (lo' := [some (.ref v0), some (.int v1), some (.int v2), some (.int v3)]) (st' := []) (o := ldFR μ v0 9 31) rfl hx16 ?_
    refine xr_go 2 (pc' := 16) (lo' := [some (.ref v0), some (.int v1), some (.int v2), some (.int v3)]) (st' := [.ref v0, .int v3, .ref x16]) (μ' := μ) rfl ?_
    obtain ⟨x17, hx17, h⟩ := Option.bind_eq_some_iff.mp h
    refine xr_opA (pc' := 19) (lo' := [some (.ref v0), some (.int v1), some (.int v2), some (.int v3)]) (st' := [.int v3, .ref x16]) (o := ldFR μ v0 9 31) rfl hx17 ?_
    refine xr_go 1 (pc' := 20) (lo' := [some (.ref v0), some (.int v1), some (.int v2), some (.int v3)]) (st' := [.int v3, .ref x17, .int v3, .ref x16]) (μ' := μ) rfl ?_
    obtain ⟨x18, hx18, h⟩ := Option.bind_eq_some_iff.mp h
    refine xr_opI (pc' := 21) (lo' := [some (.ref v0), some (.int v1), some (.int v2), some (.int v3)]) (st' := [.int v3, .ref x16]) (o := ldA μ x17 v3) rfl hx18 ?_
    refine xr_go 1 (pc' := 22) (lo' := [some (.ref v0), some (.int v1), some (.int v2), some (.int v3)]) (st' := [.int v1, .int x18, .int v3, .ref x16]) (μ' := μ) rfl ?_
    refine xr_icmp (pct := 29) rfl rfl rfl (fun hc => ?_) (fun hc => ?_)
    · replace h := (if_neg (of_decide_eq_true hc)).symm.trans h
      refine xr_go 1 (pc' := 30) (lo' := [some (.ref v0), some (.int v1), some (.int v2), some (.int v3)]) (st' := [.ref v0, .int v3, .ref x16]) (μ' := μ) rfl ?_
      obtain ⟨x19, hx19, h⟩ := Option.bind_eq_some_iff.mp h
      refine xr_opA (pc' := 33) (lo' := [some (.ref v0), some (.int v1), some (.int v2), some (.int v3)]) (st' := [.int v3, .ref x16]) (o := ldFR μ v0 9 31) rfl hx19 ?_
      refine xr_go 1 (pc' := 34) (lo' := [some (.ref v0), some (.int v1), some (.int v2), some (.int v3)]) (st' := [.int v3, .ref x19, .int v3, .ref x16]) (μ' := μ) rfl ?_
      obtain ⟨x20, hx20, h⟩ := Option.bind_eq_some_iff.mp h
      refine xr_opI (pc' := 35) (lo' := [some (.ref v0), some (.int v1), some (.int v2), some (.int v3)]) (st' := [.int v3, .ref x16]) (o := ldA μ x19 v3) rfl hx20 ?_
      refine xr_forget (lo := [some (.ref v0), some (.int v1), some (.int v2), some (.int v3)]) ⟨rfl, rfl, rfl, rfl, trivial⟩ ?_
      exact fM_replace_35_ok h hK
    · replace h := (if_pos (Decidable.of_not_not (of_decide_eq_false hc))).symm.trans h
      refine xr_go 2 (pc' := 35) (lo' := [some (.ref v0), some (.int v1), some (.int v2), some (.int v3)]) (st' := [.int v2, .int v3, .ref x16]) (μ' := μ) rfl ?_
      refine xr_forget (lo := [some (.ref v0), some (.int v1), some (.int v2), some (.int v3)]) ⟨rfl, rfl, rfl, rfl, trivial⟩ ?_
      exact fM_replace_35_ok h hK
theorem fM_replace_L2_lp {d : Nat} {v0 : Nat} {v1 : Int32} {v2 : Int32} {v3 : Int32} {μ : xM} {rv : Option Value} {μf : xM} {out : xM} (h : xwh (fun s : Int32 × xM => fM_replace_L2 v0 v1 v2 s.1 s.2) (v3, μ) = some out) (hK : fM_replace_K rv μf out) : xRun (d + 0) 167 2 [some (.ref v0), some (.int v1), some (.int v2), some (.int v3)] [] μ rv μf :=
  xwh_ind (Rh := fun s : Int32 × xM => xRun (d + 0) 167 2 [some (.ref v0), some (.int v1), some (.int v2), some (.int s.1)] [] s.2 rv μf) (Co := fM_replace_K rv μf) (fun s o hb hk => fM_replace_L2_ok hb hk) h hK
noncomputable def fM_replace_0  (v0 : Nat) (v1 : Int32) (v2 : Int32) (μ : xM) : Option (xM) := xwh (fun s : Int32 × xM => fM_replace_L2 v0 v1 v2 s.1 s.2) (xc 0, μ)
theorem fM_replace_0_ok {d : Nat} {v0 : Nat} {v1 : Int32} {v2 : Int32} {μ : xM} {rv : Option Value} {μf : xM} {out : xM} (h : fM_replace_0 v0 v1 v2 μ = some out) (hK : fM_replace_K rv μf out) : xRun (d + 0) 167 0 [some (.ref v0), some (.int v1), some (.int v2), none] [] μ rv μf := by
  unfold fM_replace_0 at h
  refine xr_go 2 (pc' := 2) (lo' := [some (.ref v0), some (.int v1), some (.int v2), some (.int (xc 0))]) (st' := []) (μ' := μ) rfl ?_
  refine xr_forget (lo := [some (.ref v0), some (.int v1), some (.int v2), some (.int (xc 0))]) ⟨rfl, rfl, rfl, rfl, trivial⟩ ?_
  exact fM_replace_L2_lp h hK
noncomputable def fM_replace (a0 : Nat) (a1 : Int32) (a2 : Int32) (μ : xM) : Option (xM) := xgd μ a0 9 (fM_replace_0 a0 a1 a2 μ)
theorem fM_replace_kd {a0 : Nat} {a1 : Int32} {a2 : Int32} {μ : xM} {o : xM} (h : fM_replace a0 a1 a2 μ = some o) : (xK μ a0).1 = 10 + 9 := (xgd_some h).1
theorem fM_replace_ok {d : Nat} {a0 : Nat} {a1 : Int32} {a2 : Int32} {μ : xM} {o : xM} (h : fM_replace a0 a1 a2 μ = some o) : xRun (d + 0) 167 0 [some (.ref a0), some (.int a1), some (.int a2), none] [] μ none o :=
  xr_forget (lo := [some (.ref a0), some (.int a1), some (.int a2), none]) (⟨rfl, rfl, rfl, trivial⟩) (fM_replace_0_ok (d := d) (xgd_some h).2 (show fM_replace_K _ _ o from ⟨rfl, rfl⟩))
-- KeptAnswersModel.step()Z 
def fM_step_K (rv : Option Value) (μf : xM) : (Int32 × xM) → Prop := fun o => rv = some (.int o.1) ∧ μf = o.2
def fM_step_K2 (v0 : Nat) (μ : xM) (d : Nat) (rv : Option Value) (μf : xM) : ((Int32) ⊕ (Int32 × xM)) → Prop := Sum.elim (fun s : Int32 => xRun (d + 1) 169 2 [some (.ref v0), some (.int s), none, none, none] [] μ rv μf) (fM_step_K rv μf)
def fM_step_K14 (v0 : Nat) (v1 : Int32) (μ : xM) (d : Nat) (rv : Option Value) (μf : xM) : ((Int32) ⊕ ((Int32) ⊕ (Int32 × xM))) → Prop := Sum.elim (fun s : Int32 => xRun (d + 1) 169 14 [some (.ref v0), some (.int v1), some (.int s), none, none] [] μ rv μf) (fM_step_K2 v0 μ d rv μf)
noncomputable def fM_step_212  (μ : xM) : Option (Int32 × xM) := some ((xc 0, μ))
theorem fM_step_212_ok {d : Nat} {μ : xM} {rv : Option Value} {μf : xM} {out : Int32 × xM} (h : fM_step_212 μ = some out) (hK : fM_step_K rv μf out) : xRun (d + 1) 169 212 [none, none, none, none, none] [] μ rv μf := by
  unfold fM_step_212 at h
  refine xr_go 1 (pc' := 213) (lo' := [none, none, none, none, none]) (st' := [.int (xc 0)]) (μ' := μ) rfl ?_
  have ho := Option.some.inj h
  subst ho
  obtain ⟨rfl, rfl⟩ := hK
  exact xr_ret (rv := some (.int (xc 0))) rfl rfl (Or.inr ⟨rfl, Or.inl rfl⟩)
noncomputable def fM_step_206  (v0 : Nat) (v1 : Int32) (μ : xM) : Option ((Int32) ⊕ (Int32 × xM)) := some (.inl ((v1 + xc 1)))
theorem fM_step_206_ok {d : Nat} {v0 : Nat} {v1 : Int32} {μ : xM} {rv : Option Value} {μf : xM} {out : (Int32) ⊕ (Int32 × xM)} (h : fM_step_206 v0 v1 μ = some out) (hK : fM_step_K2 v0 μ d rv μf out) : xRun (d + 1) 169 206 [some (.ref v0), some (.int v1), none, none, none] [] μ rv μf := by
  unfold fM_step_206 at h
  refine xr_go 2 (pc' := 2) (lo' := [some (.ref v0), some (.int (v1 + xc 1)), none, none, none]) (st' := []) (μ' := μ) rfl ?_
  refine xr_forget (lo := [some (.ref v0), some (.int (v1 + xc 1)), none, none, none]) ⟨rfl, rfl, trivial⟩ ?_
  have ho := Option.some.inj h
  subst ho
  exact hK
noncomputable def fM_step_200  (v0 : Nat) (v1 : Int32) (v2 : Int32) (μ : xM) : Option ((Int32) ⊕ ((Int32) ⊕ (Int32 × xM))) := some (.inl ((v2 + xc 1)))
theorem fM_step_200_ok {d : Nat} {v0 : Nat} {v1 : Int32} {v2 : Int32} {μ : xM} {rv : Option Value} {μf : xM} {out : (Int32) ⊕ ((Int32) ⊕ (Int32 × xM))} (h : fM_step_200 v0 v1 v2 μ = some out) (hK : fM_step_K14 v0 v1 μ d rv μf out) : xRun (d + 1) 169 200 [some (.ref v0), some (.int v1), some (.int v2), none, none] [] μ rv μf := by
  unfold fM_step_200 at h
  refine xr_go 2 (pc' := 14) (lo' := [some (.ref v0), some (.int v1), some (.int (v2 + xc 1)), none, none]) (st' := []) (μ' := μ) rfl ?_
  refine xr_forget (lo := [some (.ref v0), some (.int v1), some (.int (v2 + xc 1)), none, none]) ⟨rfl, rfl, rfl, trivial⟩ ?_
  have ho := Option.some.inj h
  subst ho
  exact hK
noncomputable def fM_step_187  (v0 : Nat) (μ : xM) : Option (Int32 × xM) := (ldF μ v0 9 35).bind fun x1 => if x1 = 0 then (some ((xc 1, μ))) else (some ((xc 0, μ)))
theorem fM_step_187_ok {d : Nat} {v0 : Nat} {μ : xM} {rv : Option Value} {μf : xM} {out : Int32 × xM} (h : fM_step_187 v0 μ = some out) (hK : fM_step_K rv μf out) : xRun (d + 1) 169 187 [some (.ref v0), none, none, none, none] [] μ rv μf := by
  unfold fM_step_187 at h
  refine xr_go 1 (pc' := 188) (lo' := [some (.ref v0), none, none, none, none]) (st' := [.ref v0]) (μ' := μ) rfl ?_
  obtain ⟨x1, hx1, h⟩ := Option.bind_eq_some_iff.mp h
  refine xr_opI (pc' := 191) (lo' := [some (.ref v0), none, none, none, none]) (st' := []) (o := ldF μ v0 9 35) rfl hx1 ?_
  refine xr_ifc (pct := 198) rfl rfl rfl (fun hc => ?_) (fun hc => ?_)
  · replace h := (if_neg (of_decide_eq_true hc)).symm.trans h
    refine xr_go 1 (pc' := 199) (lo' := [some (.ref v0), none, none, none, none]) (st' := [.int (xc 0)]) (μ' := μ) rfl ?_
    have ho := Option.some.inj h
    subst ho
    obtain ⟨rfl, rfl⟩ := hK
    exact xr_ret (rv := some (.int (xc 0))) rfl rfl (Or.inr ⟨rfl, Or.inl rfl⟩)
  · replace h := (if_pos (Decidable.of_not_not (of_decide_eq_false hc))).symm.trans h
    refine xr_go 2 (pc' := 199) (lo' := [some (.ref v0), none, none, none, none]) (st' := [.int (xc 1)]) (μ' := μ) rfl ?_
    have ho := Option.some.inj h
    subst ho
    obtain ⟨rfl, rfl⟩ := hK
    exact xr_ret (rv := some (.int (xc 1))) rfl rfl (Or.inr ⟨rfl, Or.inr rfl⟩)
noncomputable def fM_step_156  (v0 : Nat) (v3 : Int32) (v4 : Int32) (s0 : Int32) (s1 : Nat) (μ : xM) : Option (Int32 × xM) := (stFZ μ s1 9 35 s0).bind fun μ2 => (ldF μ2 v0 9 35).bind fun x3 => if x3 = 0 then ((ldF μ2 v0 9 36).bind fun x4 => (stF μ2 v0 9 36 (x4 + (xc 1))).bind fun μ5 => (fM_replace v0 v4 v3 μ5).bind fun r6 => (fM_thin v0 r6).bind fun r7 => fM_step_187 v0 r7) else (fM_step_187 v0 μ2)
theorem fM_step_156_ok {d : Nat} {v0 : Nat} {v3 : Int32} {v4 : Int32} {s0 : Int32} {s1 : Nat} {μ : xM} {rv : Option Value} {μf : xM} {out : Int32 × xM} (h : fM_step_156 v0 v3 v4 s0 s1 μ = some out) (hK : fM_step_K rv μf out) : xRun (d + 1) 169 156 [some (.ref v0), none, none, some (.int v3), some (.int v4)] [.int s0, .ref s1] μ rv μf := by
  unfold fM_step_156 at h
  obtain ⟨μ2, hμ2, h⟩ := Option.bind_eq_some_iff.mp h
  refine xr_opM (pc' := 159) (lo' := [some (.ref v0), none, none, some (.int v3), some (.int v4)]) (st' := []) (o := stFZ μ s1 9 35 s0) rfl hμ2 ?_
  refine xr_go 1 (pc' := 160) (lo' := [some (.ref v0), none, none, some (.int v3), some (.int v4)]) (st' := [.ref v0]) (μ' := μ2) rfl ?_
  obtain ⟨x3, hx3, h⟩ := Option.bind_eq_some_iff.mp h
  refine xr_opI (pc' := 163) (lo' := [some (.ref v0), none, none, some (.int v3), some (.int v4)]) (st' := []) (o := ldF μ2 v0 9 35) rfl hx3 ?_
  refine xr_ifc (pct := 187) rfl rfl rfl (fun hc => ?_) (fun hc => ?_)
  · replace h := (if_neg (of_decide_eq_true hc)).symm.trans h
    refine xr_forget (lo := [some (.ref v0), none, none, none, none]) ⟨rfl, trivial⟩ ?_
    exact fM_step_187_ok h hK
  · replace h := (if_pos (Decidable.of_not_not (of_decide_eq_false hc))).symm.trans h
    refine xr_go 2 (pc' := 168) (lo' := [some (.ref v0), none, none, some (.int v3), some (.int v4)]) (st' := [.ref v0, .ref v0]) (μ' := μ2) rfl ?_
    obtain ⟨x4, hx4, h⟩ := Option.bind_eq_some_iff.mp h
    refine xr_opI (pc' := 171) (lo' := [some (.ref v0), none, none, some (.int v3), some (.int v4)]) (st' := [.ref v0]) (o := ldF μ2 v0 9 36) rfl hx4 ?_
    refine xr_go 2 (pc' := 173) (lo' := [some (.ref v0), none, none, some (.int v3), some (.int v4)]) (st' := [.int (x4 + (xc 1)), .ref v0]) (μ' := μ2) rfl ?_
    obtain ⟨μ5, hμ5, h⟩ := Option.bind_eq_some_iff.mp h
    refine xr_opM (pc' := 176) (lo' := [some (.ref v0), none, none, some (.int v3), some (.int v4)]) (st' := []) (o := stF μ2 v0 9 36 (x4 + (xc 1))) rfl hμ5 ?_
    refine xr_go 3 (pc' := 180) (lo' := [some (.ref v0), none, none, some (.int v3), some (.int v4)]) (st' := [.int v3, .int v4, .ref v0]) (μ' := μ5) rfl ?_
    obtain ⟨r6, hr6, h⟩ := Option.bind_eq_some_iff.mp h
    refine xr_callV (j := 167) (d' := (d + 0)) (rv1 := none) (μ1 := r6) (rest := []) (As := [.int v4, .int v3]) rfl rfl rfl rfl (Nat.le_of_ble_eq_true rfl) (fM_replace_kd hr6) rfl (by exact (fM_replace_ok (d := d + (0)) hr6)) ?_
    refine xr_go 1 (pc' := 184) (lo' := [some (.ref v0), none, none, some (.int v3), some (.int v4)]) (st' := [.ref v0]) (μ' := r6) rfl ?_
    obtain ⟨r7, hr7, h⟩ := Option.bind_eq_some_iff.mp h
    refine xr_callV (j := 168) (d' := (d + 0)) (rv1 := none) (μ1 := r7) (rest := []) (As := []) rfl rfl rfl rfl (Nat.le_of_ble_eq_true rfl) (fM_thin_kd hr7) rfl (by exact (fM_thin_ok (d := d + (0)) hr7)) ?_
    refine xr_forget (lo := [some (.ref v0), none, none, none, none]) ⟨rfl, trivial⟩ ?_
    exact fM_step_187_ok h hK
noncomputable def fM_step_142  (v0 : Nat) (v3 : Int32) (s0 : Int32) (μ : xM) : Option (Int32 × xM) := if (xc 2) ≤ s0 then (fM_step_156 v0 v3 s0 (xc 0) v0 μ) else (fM_step_156 v0 v3 s0 (xc 1) v0 μ)
theorem fM_step_142_ok {d : Nat} {v0 : Nat} {v3 : Int32} {s0 : Int32} {μ : xM} {rv : Option Value} {μf : xM} {out : Int32 × xM} (h : fM_step_142 v0 v3 s0 μ = some out) (hK : fM_step_K rv μf out) : xRun (d + 1) 169 142 [some (.ref v0), none, none, some (.int v3), none] [.int s0] μ rv μf := by
  unfold fM_step_142 at h
  refine xr_go 4 (pc' := 148) (lo' := [some (.ref v0), none, none, some (.int v3), some (.int s0)]) (st' := [.int (xc 2), .int s0, .ref v0]) (μ' := μ) rfl ?_
  refine xr_icmp (pct := 155) rfl rfl rfl (fun hc => ?_) (fun hc => ?_)
  · replace h := (if_pos (of_decide_eq_true hc)).symm.trans h
    refine xr_go 1 (pc' := 156) (lo' := [some (.ref v0), none, none, some (.int v3), some (.int s0)]) (st' := [.int (xc 0), .ref v0]) (μ' := μ) rfl ?_
    refine xr_forget (lo := [some (.ref v0), none, none, some (.int v3), some (.int s0)]) ⟨rfl, rfl, rfl, trivial⟩ ?_
    exact fM_step_156_ok h hK
  · replace h := (if_neg (of_decide_eq_false hc)).symm.trans h
    refine xr_go 2 (pc' := 156) (lo' := [some (.ref v0), none, none, some (.int v3), some (.int s0)]) (st' := [.int (xc 1), .ref v0]) (μ' := μ) rfl ?_
    refine xr_forget (lo := [some (.ref v0), none, none, some (.int v3), some (.int s0)]) ⟨rfl, rfl, rfl, trivial⟩ ?_
    exact fM_step_156_ok h hK
noncomputable def fM_step_111  (v0 : Nat) (v1 : Int32) (v2 : Int32) (s0 : Int32) (μ : xM) : Option (Int32 × xM) := (ldFR μ v0 9 32).bind fun x8 => (ldA μ x8 v1).bind fun x9 => (ldFR μ v0 9 32).bind fun x10 => (ldA μ x10 v2).bind fun x11 => if x11 ≤ x9 then ((ldFR μ v0 9 32).bind fun x12 => (ldA μ x12 v1).bind fun x13 => fM_step_142 v0 s0 x13 μ) else ((ldFR μ v0 9 32).bind fun x14 => (ldA μ x14 v2).bind fun x15 => fM_step_142 v0 s0 x15 μ)
theorem fM_step_111_ok {d : Nat} {v0 : Nat} {v1 : Int32} {v2 : Int32} {s0 : Int32} {μ : xM} {rv : Option Value} {μf : xM} {out : Int32 × xM} (h : fM_step_111 v0 v1 v2 s0 μ = some out) (hK : fM_step_K rv μf out) : xRun (d + 1) 169 111 [some (.ref v0), some (.int v1), some (.int v2), none, none] [.int s0] μ rv μf := by
  unfold fM_step_111 at h
  refine xr_go 2 (pc' := 113) (lo' := [some (.ref v0), some (.int v1), some (.int v2), some (.int s0), none]) (st' := [.ref v0]) (μ' := μ) rfl ?_
  obtain ⟨x8, hx8, h⟩ := Option.bind_eq_some_iff.mp h
  refine xr_opA (pc' := 116) (lo' := [some (.ref v0), some (.int v1), some (.int v2), some (.int s0), none]) (st' := []) (o := ldFR μ v0 9 32) rfl hx8 ?_
  refine xr_go 1 (pc' := 117) (lo' := [some (.ref v0), some (.int v1), some (.int v2), some (.int s0), none]) (st' := [.int v1, .ref x8]) (μ' := μ) rfl ?_
  obtain ⟨x9, hx9, h⟩ := Option.bind_eq_some_iff.mp h
  refine xr_opI (pc' := 118) (lo' := [some (.ref v0), some (.int v1), some (.int v2), some (.int s0), none]) (st' := []) (o := ldA μ x8 v1) rfl hx9 ?_
  refine xr_go 1 (pc' := 119) (lo' := [some (.ref v0), some (.int v1), some (.int v2), some (.int s0), none]) (st' := [.ref v0, .int x9]) (μ' := μ) rfl ?_
  obtain ⟨x10, hx10, h⟩ := Option.bind_eq_some_iff.mp h
  refine xr_opA (pc' := 122) (lo' := [some (.ref v0), some (.int v1), some (.int v2), some (.int s0), none]) (st' := [.int x9]) (o := ldFR μ v0 9 32) rfl hx10 ?_
  refine xr_go 1 (pc' := 123) (lo' := [some (.ref v0), some (.int v1), some (.int v2), some (.int s0), none]) (st' := [.int v2, .ref x10, .int x9]) (μ' := μ) rfl ?_
  obtain ⟨x11, hx11, h⟩ := Option.bind_eq_some_iff.mp h
  refine xr_opI (pc' := 124) (lo' := [some (.ref v0), some (.int v1), some (.int v2), some (.int s0), none]) (st' := [.int x9]) (o := ldA μ x10 v2) rfl hx11 ?_
  refine xr_icmp (pct := 136) rfl rfl rfl (fun hc => ?_) (fun hc => ?_)
  · replace h := (if_pos (of_decide_eq_true hc)).symm.trans h
    refine xr_go 1 (pc' := 137) (lo' := [some (.ref v0), some (.int v1), some (.int v2), some (.int s0), none]) (st' := [.ref v0]) (μ' := μ) rfl ?_
    obtain ⟨x12, hx12, h⟩ := Option.bind_eq_some_iff.mp h
    refine xr_opA (pc' := 140) (lo' := [some (.ref v0), some (.int v1), some (.int v2), some (.int s0), none]) (st' := []) (o := ldFR μ v0 9 32) rfl hx12 ?_
    refine xr_go 1 (pc' := 141) (lo' := [some (.ref v0), some (.int v1), some (.int v2), some (.int s0), none]) (st' := [.int v1, .ref x12]) (μ' := μ) rfl ?_
    obtain ⟨x13, hx13, h⟩ := Option.bind_eq_some_iff.mp h
    refine xr_opI (pc' := 142) (lo' := [some (.ref v0), some (.int v1), some (.int v2), some (.int s0), none]) (st' := []) (o := ldA μ x12 v1) rfl hx13 ?_
    refine xr_forget (lo := [some (.ref v0), none, none, some (.int s0), none]) ⟨rfl, rfl, trivial⟩ ?_
    exact fM_step_142_ok h hK
  · replace h := (if_neg (of_decide_eq_false hc)).symm.trans h
    refine xr_go 1 (pc' := 128) (lo' := [some (.ref v0), some (.int v1), some (.int v2), some (.int s0), none]) (st' := [.ref v0]) (μ' := μ) rfl ?_
    obtain ⟨x14, hx14, h⟩ := Option.bind_eq_some_iff.mp h
    refine xr_opA (pc' := 131) (lo' := [some (.ref v0), some (.int v1), some (.int v2), some (.int s0), none]) (st' := []) (o := ldFR μ v0 9 32) rfl hx14 ?_
    refine xr_go 1 (pc' := 132) (lo' := [some (.ref v0), some (.int v1), some (.int v2), some (.int s0), none]) (st' := [.int v2, .ref x14]) (μ' := μ) rfl ?_
    obtain ⟨x15, hx15, h⟩ := Option.bind_eq_some_iff.mp h
    refine xr_opI (pc' := 133) (lo' := [some (.ref v0), some (.int v1), some (.int v2), some (.int s0), none]) (st' := []) (o := ldA μ x14 v2) rfl hx15 ?_
    refine xr_go 1 (pc' := 142) (lo' := [some (.ref v0), some (.int v1), some (.int v2), some (.int s0), none]) (st' := [.int x15]) (μ' := μ) rfl ?_
    refine xr_forget (lo := [some (.ref v0), none, none, some (.int s0), none]) ⟨rfl, rfl, trivial⟩ ?_
    exact fM_step_142_ok h hK
noncomputable def fM_step_81  (v0 : Nat) (v1 : Int32) (v2 : Int32) (μ : xM) : Option (Int32 × xM) := (ldFR μ v0 9 32).bind fun x16 => (ldA μ x16 v1).bind fun x17 => (ldFR μ v0 9 32).bind fun x18 => (ldA μ x18 v2).bind fun x19 => if x19 ≤ x17 then ((ldFR μ v0 9 32).bind fun x20 => (ldA μ x20 v2).bind fun x21 => fM_step_111 v0 v1 v2 x21 μ) else ((ldFR μ v0 9 32).bind fun x22 => (ldA μ x22 v1).bind fun x23 => fM_step_111 v0 v1 v2 x23 μ)
theorem fM_step_81_ok {d : Nat} {v0 : Nat} {v1 : Int32} {v2 : Int32} {μ : xM} {rv : Option Value} {μf : xM} {out : Int32 × xM} (h : fM_step_81 v0 v1 v2 μ = some out) (hK : fM_step_K rv μf out) : xRun (d + 1) 169 81 [some (.ref v0), some (.int v1), some (.int v2), none, none] [] μ rv μf := by
  unfold fM_step_81 at h
  refine xr_go 1 (pc' := 82) (lo' := [some (.ref v0), some (.int v1), some (.int v2), none, none]) (st' := [.ref v0]) (μ' := μ) rfl ?_
  obtain ⟨x16, hx16, h⟩ := Option.bind_eq_some_iff.mp h
  refine xr_opA (pc' := 85) (lo' := [some (.ref v0), some (.int v1), some (.int v2), none, none]) (st' := []) (o := ldFR μ v0 9 32) rfl hx16 ?_
  refine xr_go 1 (pc' := 86) (lo' := [some (.ref v0), some (.int v1), some (.int v2), none, none]) (st' := [.int v1, .ref x16]) (μ' := μ) rfl ?_
  obtain ⟨x17, hx17, h⟩ := Option.bind_eq_some_iff.mp h
  refine xr_opI (pc' := 87) (lo' := [some (.ref v0), some (.int v1), some (.int v2), none, none]) (st' := []) (o := ldA μ x16 v1) rfl hx17 ?_
  refine xr_go 1 (pc' := 88) (lo' := [some (.ref v0), some (.int v1), some (.int v2), none, none]) (st' := [.ref v0, .int x17]) (μ' := μ) rfl ?_
  obtain ⟨x18, hx18, h⟩ := Option.bind_eq_some_iff.mp h
  refine xr_opA (pc' := 91) (lo' := [some (.ref v0), some (.int v1), some (.int v2), none, none]) (st' := [.int x17]) (o := ldFR μ v0 9 32) rfl hx18 ?_
  refine xr_go 1 (pc' := 92) (lo' := [some (.ref v0), some (.int v1), some (.int v2), none, none]) (st' := [.int v2, .ref x18, .int x17]) (μ' := μ) rfl ?_
  obtain ⟨x19, hx19, h⟩ := Option.bind_eq_some_iff.mp h
  refine xr_opI (pc' := 93) (lo' := [some (.ref v0), some (.int v1), some (.int v2), none, none]) (st' := [.int x17]) (o := ldA μ x18 v2) rfl hx19 ?_
  refine xr_icmp (pct := 105) rfl rfl rfl (fun hc => ?_) (fun hc => ?_)
  · replace h := (if_pos (of_decide_eq_true hc)).symm.trans h
    refine xr_go 1 (pc' := 106) (lo' := [some (.ref v0), some (.int v1), some (.int v2), none, none]) (st' := [.ref v0]) (μ' := μ) rfl ?_
    obtain ⟨x20, hx20, h⟩ := Option.bind_eq_some_iff.mp h
    refine xr_opA (pc' := 109) (lo' := [some (.ref v0), some (.int v1), some (.int v2), none, none]) (st' := []) (o := ldFR μ v0 9 32) rfl hx20 ?_
    refine xr_go 1 (pc' := 110) (lo' := [some (.ref v0), some (.int v1), some (.int v2), none, none]) (st' := [.int v2, .ref x20]) (μ' := μ) rfl ?_
    obtain ⟨x21, hx21, h⟩ := Option.bind_eq_some_iff.mp h
    refine xr_opI (pc' := 111) (lo' := [some (.ref v0), some (.int v1), some (.int v2), none, none]) (st' := []) (o := ldA μ x20 v2) rfl hx21 ?_
    refine xr_forget (lo := [some (.ref v0), some (.int v1), some (.int v2), none, none]) ⟨rfl, rfl, rfl, trivial⟩ ?_
    exact fM_step_111_ok h hK
  · replace h := (if_neg (of_decide_eq_false hc)).symm.trans h
    refine xr_go 1 (pc' := 97) (lo' := [some (.ref v0), some (.int v1), some (.int v2), none, none]) (st' := [.ref v0]) (μ' := μ) rfl ?_
    obtain ⟨x22, hx22, h⟩ := Option.bind_eq_some_iff.mp h
    refine xr_opA (pc' := 100) (lo' := [some (.ref v0), some (.int v1), some (.int v2), none, none]) (st' := []) (o := ldFR μ v0 9 32) rfl hx22 ?_
    refine xr_go 1 (pc' := 101) (lo' := [some (.ref v0), some (.int v1), some (.int v2), none, none]) (st' := [.int v1, .ref x22]) (μ' := μ) rfl ?_
    obtain ⟨x23, hx23, h⟩ := Option.bind_eq_some_iff.mp h
    refine xr_opI (pc' := 102) (lo' := [some (.ref v0), some (.int v1), some (.int v2), none, none]) (st' := []) (o := ldA μ x22 v1) rfl hx23 ?_
    refine xr_go 1 (pc' := 111) (lo' := [some (.ref v0), some (.int v1), some (.int v2), none, none]) (st' := [.int x23]) (μ' := μ) rfl ?_
    refine xr_forget (lo := [some (.ref v0), some (.int v1), some (.int v2), none, none]) ⟨rfl, rfl, rfl, trivial⟩ ?_
    exact fM_step_111_ok h hK
noncomputable def fM_step_L14  (v0 : Nat) (v1 : Int32) (v2 : Int32) (μ : xM) : Option ((Int32) ⊕ ((Int32) ⊕ (Int32 × xM))) := (ldF μ v0 9 29).bind fun x24 => if x24 ≤ v2 then ((fM_step_206 v0 v1 μ).map (fun o => .inr o)) else ((ldFR μ v0 9 1).bind fun x25 => (ldFR μ v0 9 30).bind fun x26 => (ldA μ x26 v1).bind fun x27 => (ldAZ μ x25 x27).bind fun x28 => if x28 = 0 then (fM_step_200 v0 v1 v2 μ) else ((ldFR μ v0 9 30).bind fun x29 => (ldA μ x29 v2).bind fun x30 => (ldFR μ v0 9 30).bind fun x31 => (ldA μ x31 v1).bind fun x32 => if x30 = x32 then ((ldFR μ v0 9 31).bind fun x33 => (ldA μ x33 v1).bind fun x34 => (ldFR μ v0 9 31).bind fun x35 => (ldA μ x35 v2).bind fun x36 => if x34 = x36 then ((ldFR μ v0 9 32).bind fun x37 => (ldA μ x37 v1).bind fun x38 => (ldFR μ v0 9 32).bind fun x39 => (ldA μ x39 v2).bind fun x40 => if x38 = x40 then (fM_step_200 v0 v1 v2 μ) else ((fM_step_81 v0 v1 v2 μ).map (fun o => .inr (.inr o)))) else (fM_step_200 v0 v1 v2 μ)) else (fM_step_200 v0 v1 v2 μ)))
theorem fM_step_L14_ok {d : Nat} {v0 : Nat} {v1 : Int32} {v2 : Int32} {μ : xM} {rv : Option Value} {μf : xM} {out : (Int32) ⊕ ((Int32) ⊕ (Int32 × xM))} (h : fM_step_L14 v0 v1 v2 μ = some out) (hK : fM_step_K14 v0 v1 μ d rv μf out) : xRun (d + 1) 169 14 [some (.ref v0), some (.int v1), some (.int v2), none, none] [] μ rv μf := by
  unfold fM_step_L14 at h
  refine xr_go 2 (pc' := 16) (lo' := [some (.ref v0), some (.int v1), some (.int v2), none, none]) (st' := [.ref v0, .int v2]) (μ' := μ) rfl ?_
  obtain ⟨x24, hx24, h⟩ := Option.bind_eq_some_iff.mp h
  refine xr_opI (pc' := 19) (lo' := [some (.ref v0), some (.int v1), some (.int v2), none, none]) (st' := [.int v2]) (o := ldF μ v0 9 29) rfl hx24 ?_
  refine xr_icmp (pct := 206) rfl rfl rfl (fun hc => ?_) (fun hc => ?_)
  · replace h := (if_pos (of_decide_eq_true hc)).symm.trans h
    refine xr_forget (lo := [some (.ref v0), some (.int v1), none, none, none]) ⟨rfl, rfl, trivial⟩ ?_
    obtain ⟨o, h2, rfl⟩ := Option.map_eq_some_iff.mp h
    exact fM_step_206_ok h2 hK
  · replace h := (if_neg (of_decide_eq_false hc)).symm.trans h
    refine xr_go 1 (pc' := 23) (lo' := [some (.ref v0), some (.int v1), some (.int v2), none, none]) (st' := [.ref v0]) (μ' := μ) rfl ?_
    obtain ⟨x25, hx25, h⟩ := Option.bind_eq_some_iff.mp h
    refine xr_opA (pc' := 26) (lo' := [some (.ref v0), some (.int v1), some (.int v2), none, none]) (st' := []) (o := ldFR μ v0 9 1) rfl hx25 ?_
    refine xr_go 1 (pc' := 27) (lo' := [some (.ref v0), some (.int v1), some (.int v2), none, none]) (st' := [.ref v0, .ref x25]) (μ' := μ) rfl ?_
    obtain ⟨x26, hx26, h⟩ := Option.bind_eq_some_iff.mp h
    refine xr_opA (pc' := 30) (lo' := [some (.ref v0), some (.int v1), some (.int v2), none, none]) (st' := [.ref x25]) (o := ldFR μ v0 9 30) rfl hx26 ?_
    refine xr_go 1 (pc' := 31) (lo' := [some (.ref v0), some (.int v1), some (.int v2), none, none]) (st' := [.int v1, .ref x26, .ref x25]) (μ' := μ) rfl ?_
    obtain ⟨x27, hx27, h⟩ := Option.bind_eq_some_iff.mp h
    refine xr_opI (pc' := 32) (lo' := [some (.ref v0), some (.int v1), some (.int v2), none, none]) (st' := [.ref x25]) (o := ldA μ x26 v1) rfl hx27 ?_
    obtain ⟨x28, hx28, h⟩ := Option.bind_eq_some_iff.mp h
    refine xr_opI (pc' := 33) (lo' := [some (.ref v0), some (.int v1), some (.int v2), none, none]) (st' := []) (o := ldAZ μ x25 x27) rfl hx28 ?_
    refine xr_ifc (pct := 200) rfl rfl rfl (fun hc => ?_) (fun hc => ?_)
    · replace h := (if_pos (of_decide_eq_true hc)).symm.trans h
      refine xr_forget (lo := [some (.ref v0), some (.int v1), some (.int v2), none, none]) ⟨rfl, rfl, rfl, trivial⟩ ?_
      exact fM_step_200_ok h hK
    · replace h := (if_neg (of_decide_eq_false hc)).symm.trans h
      refine xr_go 1 (pc' := 37) (lo' := [some (.ref v0), some (.int v1), some (.int v2), none, none]) (st' := [.ref v0]) (μ' := μ) rfl ?_
      obtain ⟨x29, hx29, h⟩ := Option.bind_eq_some_iff.mp h
      refine xr_opA (pc' := 40) (lo' := [some (.ref v0), some (.int v1), some (.int v2), none, none]) (st' := []) (o := ldFR μ v0 9 30) rfl hx29 ?_
      refine xr_go 1 (pc' := 41) (lo' := [some (.ref v0), some (.int v1), some (.int v2), none, none]) (st' := [.int v2, .ref x29]) (μ' := μ) rfl ?_
      obtain ⟨x30, hx30, h⟩ := Option.bind_eq_some_iff.mp h
      refine xr_opI (pc' := 42) (lo' := [some (.ref v0), some (.int v1), some (.int v2), none, none]) (st' := []) (o := ldA μ x29 v2) rfl hx30 ?_
      refine xr_go 1 (pc' := 43) (lo' := [some (.ref v0), some (.int v1), some (.int v2), none, none]) (st' := [.ref v0, .int x30]) (μ' := μ) rfl ?_
      obtain ⟨x31, hx31, h⟩ := Option.bind_eq_some_iff.mp h
      refine xr_opA (pc' := 46) (lo' := [some (.ref v0), some (.int v1), some (.int v2), none, none]) (st' := [.int x30]) (o := ldFR μ v0 9 30) rfl hx31 ?_
      refine xr_go 1 (pc' := 47) (lo' := [some (.ref v0), some (.int v1), some (.int v2), none, none]) (st' := [.int v1, .ref x31, .int x30]) (μ' := μ) rfl ?_
      obtain ⟨x32, hx32, h⟩ := Option.bind_eq_some_iff.mp h
      refine xr_opI (pc' := 48) (lo' := [some (.ref v0), some (.int v1), some (.int v2), none, none]) (st' := [.int x30]) (o := ldA μ x31 v1) rfl hx32 ?_
      refine xr_icmp (pct := 200) rfl rfl rfl (fun hc => ?_) (fun hc => ?_)
      · replace h := (if_neg (of_decide_eq_true hc)).symm.trans h
        refine xr_forget (lo := [some (.ref v0), some (.int v1), some (.int v2), none, none]) ⟨rfl, rfl, rfl, trivial⟩ ?_
        exact fM_step_200_ok h hK
      · replace h := (if_pos (Decidable.of_not_not (of_decide_eq_false hc))).symm.trans h
        refine xr_go 1 (pc' := 52) (lo' := [some (.ref v0), some (.int v1), some (.int v2), none, none]) (st' := [.ref v0]) (μ' := μ) rfl ?_
        obtain ⟨x33, hx33, h⟩ := Option.bind_eq_some_iff.mp h
        refine xr_opA (pc' := 55) (lo' := [some (.ref v0), some (.int v1), some (.int v2), none, none]) (st' := []) (o := ldFR μ v0 9 31) rfl hx33 ?_
        refine xr_go 1 (pc' := 56) (lo' := [some (.ref v0), some (.int v1), some (.int v2), none, none]) (st' := [.int v1, .ref x33]) (μ' := μ) rfl ?_
        obtain ⟨x34, hx34, h⟩ := Option.bind_eq_some_iff.mp h
        refine xr_opI (pc' := 57) (lo' := [some (.ref v0), some (.int v1), some (.int v2), none, none]) (st' := []) (o := ldA μ x33 v1) rfl hx34 ?_
        refine xr_go 1 (pc' := 58) (lo' := [some (.ref v0), some (.int v1), some (.int v2), none, none]) (st' := [.ref v0, .int x34]) (μ' := μ) rfl ?_
        obtain ⟨x35, hx35, h⟩ := Option.bind_eq_some_iff.mp h
        refine xr_opA (pc' := 61) (lo' := [some (.ref v0), some (.int v1), some (.int v2), none, none]) (st' := [.int x34]) (o := ldFR μ v0 9 31) rfl hx35 ?_
        refine xr_go 1 (pc' := 62) (lo' := [some (.ref v0), some (.int v1), some (.int v2), none, none]) (st' := [.int v2, .ref x35, .int x34]) (μ' := μ) rfl ?_
        obtain ⟨x36, hx36, h⟩ := Option.bind_eq_some_iff.mp h
        refine xr_opI (pc' := 63) (lo' := [some (.ref v0), some (.int v1), some (.int v2), none, none]) (st' := [.int x34]) (o := ldA μ x35 v2) rfl hx36 ?_
        refine xr_icmp (pct := 200) rfl rfl rfl (fun hc => ?_) (fun hc => ?_)
        · replace h := (if_neg (of_decide_eq_true hc)).symm.trans h
          refine xr_forget (lo := [some (.ref v0), some (.int v1), some (.int v2), none, none]) ⟨rfl, rfl, rfl, trivial⟩ ?_
          exact fM_step_200_ok h hK
        · replace h := (if_pos (Decidable.of_not_not (of_decide_eq_false hc))).symm.trans h
          refine xr_go 1 (pc' := 67) (lo' := [some (.ref v0), some (.int v1), some (.int v2), none, none]) (st' := [.ref v0]) (μ' := μ) rfl ?_
          obtain ⟨x37, hx37, h⟩ := Option.bind_eq_some_iff.mp h
          refine xr_opA (pc' := 70) (lo' := [some (.ref v0), some (.int v1), some (.int v2), none, none]) (st' := []) (o := ldFR μ v0 9 32) rfl hx37 ?_
          refine xr_go 1 (pc' := 71) (lo' := [some (.ref v0), some (.int v1), some (.int v2), none, none]) (st' := [.int v1, .ref x37]) (μ' := μ) rfl ?_
          obtain ⟨x38, hx38, h⟩ := Option.bind_eq_some_iff.mp h
          refine xr_opI (pc' := 72) (lo' := [some (.ref v0), some (.int v1), some (.int v2), none, none]) (st' := []) (o := ldA μ x37 v1) rfl hx38 ?_
          refine xr_go 1 (pc' := 73) (lo' := [some (.ref v0), some (.int v1), some (.int v2), none, none]) (st' := [.ref v0, .int x38]) (μ' := μ) rfl ?_
          obtain ⟨x39, hx39, h⟩ := Option.bind_eq_some_iff.mp h
          refine xr_opA (pc' := 76) (lo' := [some (.ref v0), some (.int v1), some (.int v2), none, none]) (st' := [.int x38]) (o := ldFR μ v0 9 32) rfl hx39 ?_
          refine xr_go 1 (pc' := 77) (lo' := [some (.ref v0), some (.int v1), some (.int v2), none, none]) (st' := [.int v2, .ref x39, .int x38]) (μ' := μ) rfl ?_
          obtain ⟨x40, hx40, h⟩ := Option.bind_eq_some_iff.mp h
          refine xr_opI (pc' := 78) (lo' := [some (.ref v0), some (.int v1), some (.int v2), none, none]) (st' := [.int x38]) (o := ldA μ x39 v2) rfl hx40 ?_
          refine xr_icmp (pct := 200) rfl rfl rfl (fun hc => ?_) (fun hc => ?_)
          · replace h := (if_pos (of_decide_eq_true hc)).symm.trans h
            refine xr_forget (lo := [some (.ref v0), some (.int v1), some (.int v2), none, none]) ⟨rfl, rfl, rfl, trivial⟩ ?_
            exact fM_step_200_ok h hK
          · replace h := (if_neg (of_decide_eq_false hc)).symm.trans h
            refine xr_forget (lo := [some (.ref v0), some (.int v1), some (.int v2), none, none]) ⟨rfl, rfl, rfl, trivial⟩ ?_
            obtain ⟨o, h2, rfl⟩ := Option.map_eq_some_iff.mp h
            exact fM_step_81_ok h2 hK
theorem fM_step_L14_lp {d : Nat} {v0 : Nat} {v1 : Int32} {v2 : Int32} {μ : xM} {rv : Option Value} {μf : xM} {out : (Int32) ⊕ (Int32 × xM)} (h : xwh (fun s : Int32 => fM_step_L14 v0 v1 s μ) (v2) = some out) (hK : fM_step_K2 v0 μ d rv μf out) : xRun (d + 1) 169 14 [some (.ref v0), some (.int v1), some (.int v2), none, none] [] μ rv μf :=
  xwh_ind (Rh := fun s : Int32 => xRun (d + 1) 169 14 [some (.ref v0), some (.int v1), some (.int s), none, none] [] μ rv μf) (Co := fM_step_K2 v0 μ d rv μf) (fun s o hb hk => fM_step_L14_ok hb hk) h hK
noncomputable def fM_step_L2  (v0 : Nat) (v1 : Int32) (μ : xM) : Option ((Int32) ⊕ (Int32 × xM)) := (ldF μ v0 9 29).bind fun x41 => if x41 ≤ v1 then ((fM_step_212 μ).map (fun o => .inr o)) else (xwh (fun s : Int32 => fM_step_L14 v0 v1 s μ) (v1 + (xc 1)))
theorem fM_step_L2_ok {d : Nat} {v0 : Nat} {v1 : Int32} {μ : xM} {rv : Option Value} {μf : xM} {out : (Int32) ⊕ (Int32 × xM)} (h : fM_step_L2 v0 v1 μ = some out) (hK : fM_step_K2 v0 μ d rv μf out) : xRun (d + 1) 169 2 [some (.ref v0), some (.int v1), none, none, none] [] μ rv μf := by
  unfold fM_step_L2 at h
  refine xr_go 2 (pc' := 4) (lo' := [some (.ref v0), some (.int v1), none, none, none]) (st' := [.ref v0, .int v1]) (μ' := μ) rfl ?_
  obtain ⟨x41, hx41, h⟩ := Option.bind_eq_some_iff.mp h
  refine xr_opI (pc' := 7) (lo' := [some (.ref v0), some (.int v1), none, none, none]) (st' := [.int v1]) (o := ldF μ v0 9 29) rfl hx41 ?_
  refine xr_icmp (pct := 212) rfl rfl rfl (fun hc => ?_) (fun hc => ?_)
  · replace h := (if_pos (of_decide_eq_true hc)).symm.trans h
    refine xr_forget (lo := [none, none, none, none, none]) trivial ?_
    obtain ⟨o, h2, rfl⟩ := Option.map_eq_some_iff.mp h
    exact fM_step_212_ok h2 hK
  · replace h := (if_neg (of_decide_eq_false hc)).symm.trans h
    refine xr_go 4 (pc' := 14) (lo' := [some (.ref v0), some (.int v1), some (.int (v1 + (xc 1))), none, none]) (st' := []) (μ' := μ) rfl ?_
    refine xr_forget (lo := [some (.ref v0), some (.int v1), some (.int (v1 + (xc 1))), none, none]) ⟨rfl, rfl, rfl, trivial⟩ ?_
    exact fM_step_L14_lp h hK
theorem fM_step_L2_lp {d : Nat} {v0 : Nat} {v1 : Int32} {μ : xM} {rv : Option Value} {μf : xM} {out : Int32 × xM} (h : xwh (fun s : Int32 => fM_step_L2 v0 s μ) (v1) = some out) (hK : fM_step_K rv μf out) : xRun (d + 1) 169 2 [some (.ref v0), some (.int v1), none, none, none] [] μ rv μf :=
  xwh_ind (Rh := fun s : Int32 => xRun (d + 1) 169 2 [some (.ref v0), some (.int s), none, none, none] [] μ rv μf) (Co := fM_step_K rv μf) (fun s o hb hk => fM_step_L2_ok hb hk) h hK
noncomputable def fM_step_0  (v0 : Nat) (μ : xM) : Option (Int32 × xM) := xwh (fun s : Int32 => fM_step_L2 v0 s μ) (xc 0)
theorem fM_step_0_ok {d : Nat} {v0 : Nat} {μ : xM} {rv : Option Value} {μf : xM} {out : Int32 × xM} (h : fM_step_0 v0 μ = some out) (hK : fM_step_K rv μf out) : xRun (d + 1) 169 0 [some (.ref v0), none, none, none, none] [] μ rv μf := by
  unfold fM_step_0 at h
  refine xr_go 2 (pc' := 2) (lo' := [some (.ref v0), some (.int (xc 0)), none, none, none]) (st' := []) (μ' := μ) rfl ?_
  refine xr_forget (lo := [some (.ref v0), some (.int (xc 0)), none, none, none]) ⟨rfl, rfl, trivial⟩ ?_
  exact fM_step_L2_lp h hK
noncomputable def fM_step (a0 : Nat) (μ : xM) : Option (Int32 × xM) := xgd μ a0 9 (fM_step_0 a0 μ)
theorem fM_step_kd {a0 : Nat} {μ : xM} {o : Int32 × xM} (h : fM_step a0 μ = some o) : (xK μ a0).1 = 10 + 9 := (xgd_some h).1
theorem fM_step_ok {d : Nat} {a0 : Nat} {μ : xM} {o : Int32 × xM} (h : fM_step a0 μ = some o) : xRun (d + 1) 169 0 [some (.ref a0), none, none, none, none] [] μ (some (.int o.1)) o.2 :=
  xr_forget (lo := [some (.ref a0), none, none, none, none]) (⟨rfl, trivial⟩) (fM_step_0_ok (d := d) (xgd_some h).2 (show fM_step_K _ _ o from ⟨rfl, rfl⟩))
-- KeptAnswersModel.goToEnd()V 
def fM_goToEnd_K (rv : Option Value) (μf : xM) : (xM) → Prop := fun o => rv = none ∧ μf = o
def fM_goToEnd_K16 (v0 : Nat) (d : Nat) (rv : Option Value) (μf : xM) : ((Int32 × xM) ⊕ (xM)) → Prop := Sum.elim (fun s : Int32 × xM => xRun (d + 2) 170 16 [some (.ref v0), some (.int s.1)] [] s.2 rv μf) (fM_goToEnd_K rv μf)
noncomputable def fM_goToEnd_L16  (v0 : Nat) (v1 : Int32) (μ : xM) : Option ((Int32 × xM) ⊕ (xM)) := if v1 = 0 then (some (.inr μ)) else ((fM_step v0 μ).bind fun r1 => some (.inl ((r1.1, r1.2))))
theorem fM_goToEnd_L16_ok {d : Nat} {v0 : Nat} {v1 : Int32} {μ : xM} {rv : Option Value} {μf : xM} {out : (Int32 × xM) ⊕ (xM)} (h : fM_goToEnd_L16 v0 v1 μ = some out) (hK : fM_goToEnd_K16 v0 d rv μf out) : xRun (d + 2) 170 16 [some (.ref v0), some (.int v1)] [] μ rv μf := by
  unfold fM_goToEnd_L16 at h
  refine xr_go 1 (pc' := 17) (lo' := [some (.ref v0), some (.int v1)]) (st' := [.int v1]) (μ' := μ) rfl ?_
  refine xr_ifc (pct := 28) rfl rfl rfl (fun hc => ?_) (fun hc => ?_)
  · replace h := (if_pos (of_decide_eq_true hc)).symm.trans h
    have ho := Option.some.inj h
    subst ho
    obtain ⟨rfl, rfl⟩ := hK
    exact xr_ret (rv := none) rfl rfl (rfl)
  · replace h := (if_neg (of_decide_eq_false hc)).symm.trans h
    refine xr_go 1 (pc' := 21) (lo' := [some (.ref v0), some (.int v1)]) (st' := [.ref v0]) (μ' := μ) rfl ?_
    obtain ⟨r1, hr1, h⟩ := Option.bind_eq_some_iff.mp h
    refine xr_callV (j := 169) (d' := (d + 1)) (rv1 := some (.int r1.1)) (μ1 := r1.2) (rest := []) (As := []) rfl rfl rfl rfl (Nat.le_of_ble_eq_true rfl) (fM_step_kd hr1) rfl (by exact (fM_step_ok (d := d + (0)) hr1)) ?_
    refine xr_go 2 (pc' := 16) (lo' := [some (.ref v0), some (.int r1.1)]) (st' := []) (μ' := r1.2) rfl ?_
    refine xr_forget (lo := [some (.ref v0), some (.int r1.1)]) ⟨rfl, rfl, trivial⟩ ?_
    have ho := Option.some.inj h
    subst ho
    exact hK
theorem fM_goToEnd_L16_lp {d : Nat} {v0 : Nat} {v1 : Int32} {μ : xM} {rv : Option Value} {μf : xM} {out : xM} (h : xwh (fun s : Int32 × xM => fM_goToEnd_L16 v0 s.1 s.2) (v1, μ) = some out) (hK : fM_goToEnd_K rv μf out) : xRun (d + 2) 170 16 [some (.ref v0), some (.int v1)] [] μ rv μf :=
  xwh_ind (Rh := fun s : Int32 × xM => xRun (d + 2) 170 16 [some (.ref v0), some (.int s.1)] [] s.2 rv μf) (Co := fM_goToEnd_K rv μf) (fun s o hb hk => fM_goToEnd_L16_ok hb hk) h hK
noncomputable def fM_goToEnd_0  (v0 : Nat) (μ : xM) : Option (xM) := (stFZ μ v0 9 35 (xc 0)).bind fun μ2 => (stF μ2 v0 9 36 (xc 0)).bind fun μ3 => (fM_thin v0 μ3).bind fun r4 => xwh (fun s : Int32 × xM => fM_goToEnd_L16 v0 s.1 s.2) (xc 1, r4)
theorem fM_goToEnd_0_ok {d : Nat} {v0 : Nat} {μ : xM} {rv : Option Value} {μf : xM} {out : xM} (h : fM_goToEnd_0 v0 μ = some out) (hK : fM_goToEnd_K rv μf out) : xRun (d + 2) 170 0 [some (.ref v0), none] [] μ rv μf := by
  unfold fM_goToEnd_0 at h
  refine xr_go 2 (pc' := 2) (lo' := [some (.ref v0), none]) (st' := [.int (xc 0), .ref v0]) (μ' := μ) rfl ?_
  obtain ⟨μ2, hμ2, h⟩ := Option.bind_eq_some_iff.mp h
  refine xr_opM (pc' := 5) (lo' := [some (.ref v0), none]) (st' := []) (o := stFZ μ v0 9 35 (xc 0)) rfl hμ2 ?_
  refine xr_go 2 (pc' := 7) (lo' := [some (.ref v0), none]) (st' := [.int (xc 0), .ref v0]) (μ' := μ2) rfl ?_
  obtain ⟨μ3, hμ3, h⟩ := Option.bind_eq_some_iff.mp h
  refine xr_opM (pc' := 10) (lo' := [some (.ref v0), none]) (st' := []) (o := stF μ2 v0 9 36 (xc 0)) rfl hμ3 ?_
  refine xr_go 1 (pc' := 11) (lo' := [some (.ref v0), none]) (st' := [.ref v0]) (μ' := μ3) rfl ?_
  obtain ⟨r4, hr4, h⟩ := Option.bind_eq_some_iff.mp h
  refine xr_callV (j := 168) (d' := (d + 1)) (rv1 := none) (μ1 := r4) (rest := []) (As := []) rfl rfl rfl rfl (Nat.le_of_ble_eq_true rfl) (fM_thin_kd hr4) rfl (by exact (fM_thin_ok (d := d + (1)) hr4)) ?_
  refine xr_go 2 (pc' := 16) (lo' := [some (.ref v0), some (.int (xc 1))]) (st' := []) (μ' := r4) rfl ?_
  refine xr_forget (lo := [some (.ref v0), some (.int (xc 1))]) ⟨rfl, rfl, trivial⟩ ?_
  exact fM_goToEnd_L16_lp h hK
noncomputable def fM_goToEnd (a0 : Nat) (μ : xM) : Option (xM) := xgd μ a0 9 (fM_goToEnd_0 a0 μ)
theorem fM_goToEnd_kd {a0 : Nat} {μ : xM} {o : xM} (h : fM_goToEnd a0 μ = some o) : (xK μ a0).1 = 10 + 9 := (xgd_some h).1
theorem fM_goToEnd_ok {d : Nat} {a0 : Nat} {μ : xM} {o : xM} (h : fM_goToEnd a0 μ = some o) : xRun (d + 2) 170 0 [some (.ref a0), none] [] μ none o :=
  xr_forget (lo := [some (.ref a0), none]) (⟨rfl, trivial⟩) (fM_goToEnd_0_ok (d := d) (xgd_some h).2 (show fM_goToEnd_K _ _ o from ⟨rfl, rfl⟩))
-- KeptAnswersModel.findEnd(I)V 
def fM_findEnd_K (rv : Option Value) (μf : xM) : (xM) → Prop := fun o => rv = none ∧ μf = o
noncomputable def fM_findEnd_0  (v0 : Nat) (v1 : Int32) (μ : xM) : Option (xM) := (fM_load v0 v1 μ).bind fun r1 => (fM_goToEnd v0 r1).bind fun r2 => some r2
theorem fM_findEnd_0_ok {d : Nat} {v0 : Nat} {v1 : Int32} {μ : xM} {rv : Option Value} {μf : xM} {out : xM} (h : fM_findEnd_0 v0 v1 μ = some out) (hK : fM_findEnd_K rv μf out) : xRun (d + 3) 171 0 [some (.ref v0), some (.int v1)] [] μ rv μf := by
  unfold fM_findEnd_0 at h
  refine xr_go 2 (pc' := 2) (lo' := [some (.ref v0), some (.int v1)]) (st' := [.int v1, .ref v0]) (μ' := μ) rfl ?_
  obtain ⟨r1, hr1, h⟩ := Option.bind_eq_some_iff.mp h
  refine xr_callV (j := 166) (d' := (d + 2)) (rv1 := none) (μ1 := r1) (rest := []) (As := [.int v1]) rfl rfl rfl rfl (Nat.le_of_ble_eq_true rfl) (fM_load_kd hr1) rfl (by exact (fM_load_ok (d := d + (2)) hr1)) ?_
  refine xr_go 1 (pc' := 6) (lo' := [some (.ref v0), some (.int v1)]) (st' := [.ref v0]) (μ' := r1) rfl ?_
  obtain ⟨r2, hr2, h⟩ := Option.bind_eq_some_iff.mp h
  refine xr_callV (j := 170) (d' := (d + 2)) (rv1 := none) (μ1 := r2) (rest := []) (As := []) rfl rfl rfl rfl (Nat.le_of_ble_eq_true rfl) (fM_goToEnd_kd hr2) rfl (by exact (fM_goToEnd_ok (d := d + (0)) hr2)) ?_
  have ho := Option.some.inj h
  subst ho
  obtain ⟨rfl, rfl⟩ := hK
  exact xr_ret (rv := none) rfl rfl (rfl)
noncomputable def fM_findEnd (a0 : Nat) (a1 : Int32) (μ : xM) : Option (xM) := xgd μ a0 9 (fM_findEnd_0 a0 a1 μ)
theorem fM_findEnd_kd {a0 : Nat} {a1 : Int32} {μ : xM} {o : xM} (h : fM_findEnd a0 a1 μ = some o) : (xK μ a0).1 = 10 + 9 := (xgd_some h).1
theorem fM_findEnd_ok {d : Nat} {a0 : Nat} {a1 : Int32} {μ : xM} {o : xM} (h : fM_findEnd a0 a1 μ = some o) : xRun (d + 3) 171 0 [some (.ref a0), some (.int a1)] [] μ none o :=
  xr_forget (lo := [some (.ref a0), some (.int a1)]) (⟨rfl, rfl, trivial⟩) (fM_findEnd_0_ok (d := d) (xgd_some h).2 (show fM_findEnd_K _ _ o from ⟨rfl, rfl⟩))
-- KeptAnswersModel.steps(II)I 
def fM_steps_K (rv : Option Value) (μf : xM) : (Int32 × xM) → Prop := fun o => rv = some (.int o.1) ∧ μf = o.2
noncomputable def fM_steps_0  (v0 : Nat) (v1 : Int32) (v2 : Int32) (μ : xM) : Option (Int32 × xM) := (fM_isAsk v0 v1 μ).bind fun r1 => if r1 = 0 then ((fM_refuse v0 (xc (-1)) μ).bind fun r9 => some ((r9.1, r9.2))) else ((fM_isIn (Int32.toInt64 v2) (Int64.ofNat 0) (Int64.ofNat 3) μ).bind fun r2 => if r2 = 0 then ((fM_refuse v0 (xc (-2)) μ).bind fun r8 => some ((r8.1, r8.2))) else ((fM_findEnd v0 v1 μ).bind fun r3 => if v2 = 0 then ((ldF r3 v0 9 36).bind fun x7 => some ((x7, r3))) else (if v2 = (xc 1) then ((ldF r3 v0 9 35).bind fun x6 => if x6 = 0 then (some ((xc 0, r3))) else (some ((xc 1, r3)))) else (if v2 = (xc 2) then ((ldF r3 v0 9 29).bind fun x5 => some ((x5, r3))) else ((ldF r3 v0 9 33).bind fun x4 => some ((x4, r3)))))))
theorem fM_steps_0_ok {d : Nat} {v0 : Nat} {v1 : Int32} {v2 : Int32} {μ : xM} {rv : Option Value} {μf : xM} {out : Int32 × xM} (h : fM_steps_0 v0 v1 v2 μ = some out) (hK : fM_steps_K rv μf out) : xRun (d + 4) 172 0 [some (.ref v0), some (.int v1), some (.int v2)] [] μ rv μf := by
  unfold fM_steps_0 at h
  refine xr_go 2 (pc' := 2) (lo' := [some (.ref v0), some (.int v1), some (.int v2)]) (st' := [.int v1, .ref v0]) (μ' := μ) rfl ?_
  obtain ⟨r1, hr1, h⟩ := Option.bind_eq_some_iff.mp h
  refine xr_callV (j := 139) (d' := (d + 3)) (rv1 := some (.int r1)) (μ1 := μ) (rest := []) (As := [.int v1]) rfl rfl rfl rfl (Nat.le_of_ble_eq_true rfl) (fM_isAsk_kd hr1) rfl (by exact (fM_isAsk_ok (d := d + (2)) hr1)) ?_
  refine xr_ifc (pct := 14) rfl rfl rfl (fun hc => ?_) (fun hc => ?_)
  · replace h := (if_neg (of_decide_eq_true hc)).symm.trans h
    refine xr_go 4 (pc' := 20) (lo' := [some (.ref v0), some (.int v1), some (.int v2)]) (st' := [.long (Int64.ofNat 3), .long (Int64.ofNat 0), .long (Int32.toInt64 v2)]) (μ' := μ) rfl ?_
    obtain ⟨r2, hr2, h⟩ := Option.bind_eq_some_iff.mp h
    refine xr_callS (j := 137) (d' := (d + 3)) (rv1 := some (.int r2)) (μ1 := μ) (rest := []) (As := [.long (Int32.toInt64 v2), .long (Int64.ofNat 0), .long (Int64.ofNat 3)]) rfl rfl rfl rfl (Nat.le_of_ble_eq_true rfl) rfl (by exact (fM_isIn_ok (d := d + (3)) hr2)) ?_
    refine xr_ifc (pct := 33) rfl rfl rfl (fun hc => ?_) (fun hc => ?_)
    · replace h := (if_neg (of_decide_eq_true hc)).symm.trans h
      refine xr_go 2 (pc' := 35) (lo' := [some (.ref v0), some (.int v1), some (.int v2)]) (st' := [.int v1, .ref v0]) (μ' := μ) rfl ?_
      obtain ⟨r3, hr3, h⟩ := Option.bind_eq_some_iff.mp h
      refine xr_callV (j := 171) (d' := (d + 3)) (rv1 := none) (μ1 := r3) (rest := []) (As := [.int v1]) rfl rfl rfl rfl (Nat.le_of_ble_eq_true rfl) (fM_findEnd_kd hr3) rfl (by exact (fM_findEnd_ok (d := d + (0)) hr3)) ?_
      refine xr_go 1 (pc' := 39) (lo' := [some (.ref v0), some (.int v1), some (.int v2)]) (st' := [.int v2]) (μ' := r3) rfl ?_
      refine xr_ifc (pct := 49) rfl rfl rfl (fun hc => ?_) (fun hc => ?_)
      · replace h := (if_neg (of_decide_eq_true hc)).symm.trans h
        refine xr_go 2 (pc' := 51) (lo' := [some (.ref v0), some (.int v1), some (.int v2)]) (st' := [.int (xc 1), .int v2]) (μ' := r3) rfl ?_
        refine xr_icmp (pct := 69) rfl rfl rfl (fun hc => ?_) (fun hc => ?_)
        · replace h := (if_neg (of_decide_eq_true hc)).symm.trans h
          refine xr_go 2 (pc' := 71) (lo' := [some (.ref v0), some (.int v1), some (.int v2)]) (st' := [.int (xc 2), .int v2]) (μ' := r3) rfl ?_
          refine xr_icmp (pct := 81) rfl rfl rfl (fun hc => ?_) (fun hc => ?_)
          · replace h := (if_neg (of_decide_eq_true hc)).symm.trans h
            refine xr_go 1 (pc' := 82) (lo' := [some (.ref v0), some (.int v1), some (.int v2)]) (st' := [.ref v0]) (μ' := r3) rfl ?_
            obtain ⟨x4, hx4, h⟩ := Option.bind_eq_some_iff.mp h
            refine xr_opI (pc' := 85) (lo' := [some (.ref v0), some (.int v1), some (.int v2)]) (st' := []) (o := ldF r3 v0 9 33) rfl hx4 ?_
            have ho := Option.some.inj h
            subst ho
            obtain ⟨rfl, rfl⟩ := hK
            exact xr_ret (rv := some (.int x4)) rfl rfl (Or.inl rfl)
          · replace h := (if_pos (Decidable.of_not_not (of_decide_eq_false hc))).symm.trans h
            refine xr_go 1 (pc' := 75) (lo' := [some (.ref v0), some (.int v1), some (.int v2)]) (st' := [.ref v0]) (μ' := r3) rfl ?_
            obtain ⟨x5, hx5, h⟩ := Option.bind_eq_some_iff.mp h
            refine xr_opI (pc' := 78) (lo' := [some (.ref v0), some (.int v1), some (.int v2)]) (st' := []) (o := ldF r3 v0 9 29) rfl hx5 ?_
            refine xr_go 1 (pc' := 85) (lo' := [some (.ref v0), some (.int v1), some (.int v2)]) (st' := [.int x5]) (μ' := r3) rfl ?_
            have ho := Option.some.inj h
            subst ho
            obtain ⟨rfl, rfl⟩ := hK
            exact xr_ret (rv := some (.int x5)) rfl rfl (Or.inl rfl)
        · replace h := (if_pos (Decidable.of_not_not (of_decide_eq_false hc))).symm.trans h
          refine xr_go 1 (pc' := 55) (lo' := [some (.ref v0), some (.int v1), some (.int v2)]) (st' := [.ref v0]) (μ' := r3) rfl ?_
          obtain ⟨x6, hx6, h⟩ := Option.bind_eq_some_iff.mp h
          refine xr_opI (pc' := 58) (lo' := [some (.ref v0), some (.int v1), some (.int v2)]) (st' := []) (o := ldF r3 v0 9 35) rfl hx6 ?_
          refine xr_ifc (pct := 65) rfl rfl rfl (fun hc => ?_) (fun hc => ?_)
          · replace h := (if_pos (of_decide_eq_true hc)).symm.trans h
            refine xr_go 2 (pc' := 85) (lo' := [some (.ref v0), some (.int v1), some (.int v2)]) (st' := [.int (xc 0)]) (μ' := r3) rfl ?_
            have ho := Option.some.inj h
            subst ho
            obtain ⟨rfl, rfl⟩ := hK
            exact xr_ret (rv := some (.int (xc 0))) rfl rfl (Or.inl rfl)
          · replace h := (if_neg (of_decide_eq_false hc)).symm.trans h
            refine xr_go 2 (pc' := 85) (lo' := [some (.ref v0), some (.int v1), some (.int v2)]) (st' := [.int (xc 1)]) (μ' := r3) rfl ?_
            have ho := Option.some.inj h
            subst ho
            obtain ⟨rfl, rfl⟩ := hK
            exact xr_ret (rv := some (.int (xc 1))) rfl rfl (Or.inl rfl)
      · replace h := (if_pos (Decidable.of_not_not (of_decide_eq_false hc))).symm.trans h
        refine xr_go 1 (pc' := 43) (lo' := [some (.ref v0), some (.int v1), some (.int v2)]) (st' := [.ref v0]) (μ' := r3) rfl ?_
        obtain ⟨x7, hx7, h⟩ := Option.bind_eq_some_iff.mp h
        refine xr_opI (pc' := 46) (lo' := [some (.ref v0), some (.int v1), some (.int v2)]) (st' := []) (o := ldF r3 v0 9 36) rfl hx7 ?_
        refine xr_go 1 (pc' := 85) (lo' := [some (.ref v0), some (.int v1), some (.int v2)]) (st' := [.int x7]) (μ' := r3) rfl ?_
        have ho := Option.some.inj h
        subst ho
        obtain ⟨rfl, rfl⟩ := hK
        exact xr_ret (rv := some (.int x7)) rfl rfl (Or.inl rfl)
    · replace h := (if_pos (Decidable.of_not_not (of_decide_eq_false hc))).symm.trans h
      refine xr_go 2 (pc' := 29) (lo' := [some (.ref v0), some (.int v1), some (.int v2)]) (st' := [.int (xc (-2)), .ref v0]) (μ' := μ) rfl ?_
      obtain ⟨r8, hr8, h⟩ := Option.bind_eq_some_iff.mp h
      refine xr_callV (j := 138) (d' := (d + 3)) (rv1 := some (.int r8.1)) (μ1 := r8.2) (rest := []) (As := [.int (xc (-2))]) rfl rfl rfl rfl (Nat.le_of_ble_eq_true rfl) (fM_refuse_kd hr8) rfl (by exact (fM_refuse_ok (d := d + (3)) hr8)) ?_
      have ho := Option.some.inj h
      subst ho
      obtain ⟨rfl, rfl⟩ := hK
      exact xr_ret (rv := some (.int r8.1)) rfl rfl (Or.inl rfl)
  · replace h := (if_pos (Decidable.of_not_not (of_decide_eq_false hc))).symm.trans h
    refine xr_go 2 (pc' := 10) (lo' := [some (.ref v0), some (.int v1), some (.int v2)]) (st' := [.int (xc (-1)), .ref v0]) (μ' := μ) rfl ?_
    obtain ⟨r9, hr9, h⟩ := Option.bind_eq_some_iff.mp h
    refine xr_callV (j := 138) (d' := (d + 3)) (rv1 := some (.int r9.1)) (μ1 := r9.2) (rest := []) (As := [.int (xc (-1))]) rfl rfl rfl rfl (Nat.le_of_ble_eq_true rfl) (fM_refuse_kd hr9) rfl (by exact (fM_refuse_ok (d := d + (3)) hr9)) ?_
    have ho := Option.some.inj h
    subst ho
    obtain ⟨rfl, rfl⟩ := hK
    exact xr_ret (rv := some (.int r9.1)) rfl rfl (Or.inl rfl)
noncomputable def fM_steps (a0 : Nat) (a1 : Int32) (a2 : Int32) (μ : xM) : Option (Int32 × xM) := xgd μ a0 9 (fM_steps_0 a0 a1 a2 μ)
theorem fM_steps_kd {a0 : Nat} {a1 : Int32} {a2 : Int32} {μ : xM} {o : Int32 × xM} (h : fM_steps a0 a1 a2 μ = some o) : (xK μ a0).1 = 10 + 9 := (xgd_some h).1
theorem fM_steps_ok {d : Nat} {a0 : Nat} {a1 : Int32} {a2 : Int32} {μ : xM} {o : Int32 × xM} (h : fM_steps a0 a1 a2 μ = some o) : xRun (d + 4) 172 0 [some (.ref a0), some (.int a1), some (.int a2)] [] μ (some (.int o.1)) o.2 :=
  xr_forget (lo := [some (.ref a0), some (.int a1), some (.int a2)]) (⟨rfl, rfl, rfl, trivial⟩) (fM_steps_0_ok (d := d) (xgd_some h).2 (show fM_steps_K _ _ o from ⟨rfl, rfl⟩))
-- KeptAnswers.end(II)I 
def fX_end_K (rv : Option Value) (μf : xM) : (Int32 × xM) → Prop := fun o => rv = some (.int o.1) ∧ μf = o.2
noncomputable def fX_end_49  (μ : xM) : Option (Int32 × xM) := some ((xc (-9), μ))
theorem fX_end_49_ok {d : Nat} {μ : xM} {rv : Option Value} {μf : xM} {out : Int32 × xM} (h : fX_end_49 μ = some out) (hK : fX_end_K rv μf out) : xRun (d + 12) 13 49 [none, none, none, none] [] μ rv μf := by
  unfold fX_end_49 at h
  refine xr_go 1 (pc' := 51) (lo' := [none, none, none, none]) (st' := [.int (xc (-9))]) (μ' := μ) rfl ?_
  have ho := Option.some.inj h
  subst ho
  obtain ⟨rfl, rfl⟩ := hK
  exact xr_ret (rv := some (.int (xc (-9)))) rfl rfl (Or.inl rfl)
noncomputable def fX_end_0  (v0 : Nat) (v1 : Int32) (v2 : Int32) (μ : xM) : Option (Int32 × xM) := (fX_isAsk v0 v1 μ).bind fun r1 => if r1 = 0 then ((fX_refuse v0 (xc (-1)) μ).bind fun r13 => some ((r13.1, r13.2))) else ((fX_seen v0 v1 μ).bind fun r2 => (ldFR r2.2 r2.1 6 0).bind fun x3 => (ldF r2.2 x3 5 7).bind fun x4 => if x4 = 0 then (if v2 < 0 then (fX_end_49 r2.2) else ((ldF r2.2 x3 5 0).bind fun x5 => if v2 < x5 then ((ldFR r2.2 x3 5 1).bind fun x6 => (ldA r2.2 x6 v2).bind fun x7 => (ldFR r2.2 x3 5 2).bind fun x8 => (ldA r2.2 x8 v2).bind fun x9 => (ldFR r2.2 x3 5 3).bind fun x10 => (ldA r2.2 x10 v2).bind fun x11 => some (((((xc 100) * x7) + ((xc 10) * x9)) + x11, r2.2))) else (fX_end_49 r2.2))) else ((fX_refuse v0 (xc (-3)) r2.2).bind fun r12 => some ((r12.1, r12.2))))
theorem fX_end_0_ok {d : Nat} {v0 : Nat} {v1 : Int32} {v2 : Int32} {μ : xM} {rv : Option Value} {μf : xM} {out : Int32 × xM} (h : fX_end_0 v0 v1 v2 μ = some out) (hK : fX_end_K rv μf out) : xRun (d + 12) 13 0 [some (.ref v0), some (.int v1), some (.int v2), none] [] μ rv μf := by
  unfold fX_end_0 at h
  refine xr_go 2 (pc' := 2) (lo' := [some (.ref v0), some (.int v1), some (.int v2), none]) (st' := [.int v1, .ref v0]) (μ' := μ) rfl ?_
  obtain ⟨r1, hr1, h⟩ := Option.bind_eq_some_iff.mp h
  refine xr_callV (j := 39) (d' := (d + 11)) (rv1 := some (.int r1)) (μ1 := μ) (rest := []) (As := [.int v1]) rfl rfl rfl rfl (Nat.le_of_ble_eq_true rfl) (fX_isAsk_kd hr1) rfl (by exact (fX_isAsk_ok (d := d + (11)) hr1)) ?_
  refine xr_ifc (pct := 14) rfl rfl rfl (fun hc => ?_) (fun hc => ?_)
  · replace h := (if_neg (of_decide_eq_true hc)).symm.trans h
    refine xr_go 2 (pc' := 16) (lo' := [some (.ref v0), some (.int v1), some (.int v2), none]) (st' := [.int v1, .ref v0]) (μ' := μ) rfl ?_
    obtain ⟨r2, hr2, h⟩ := Option.bind_eq_some_iff.mp h
    refine xr_callV (j := 47) (d' := (d + 11)) (rv1 := some (.ref r2.1)) (μ1 := r2.2) (rest := []) (As := [.int v1]) rfl rfl rfl rfl (Nat.le_of_ble_eq_true rfl) (fX_seen_kd hr2) rfl (by exact (fX_seen_ok (d := d + (0)) hr2)) ?_
    obtain ⟨x3, hx3, h⟩ := Option.bind_eq_some_iff.mp h
    refine xr_opA (pc' := 22) (lo' := [some (.ref v0), some (.int v1), some (.int v2), none]) (st' := []) (o := ldFR r2.2 r2.1 6 0) rfl hx3 ?_
    refine xr_go 2 (pc' := 24) (lo' := [some (.ref v0), some (.int v1), some (.int v2), some (.ref x3)]) (st' := [.ref x3]) (μ' := r2.2) rfl ?_
    obtain ⟨x4, hx4, h⟩ := Option.bind_eq_some_iff.mp h
    refine xr_opI (pc' := 27) (lo' := [some (.ref v0), some (.int v1), some (.int v2), some (.ref x3)]) (st' := []) (o := ldF r2.2 x3 5 7) rfl hx4 ?_
    refine xr_ifc (pct := 37) rfl rfl rfl (fun hc => ?_) (fun hc => ?_)
    · replace h := (if_pos (of_decide_eq_true hc)).symm.trans h
      refine xr_go 1 (pc' := 38) (lo' := [some (.ref v0), some (.int v1), some (.int v2), some (.ref x3)]) (st' := [.int v2]) (μ' := r2.2) rfl ?_
      refine xr_ifc (pct := 49) rfl rfl rfl (fun hc => ?_) (fun hc => ?_)
      · replace h := (if_pos (of_decide_eq_true hc)).symm.trans h
        refine xr_forget (lo := [none, none, none, none]) trivial ?_
        exact fX_end_49_ok h hK
      · replace h := (if_neg (of_decide_eq_false hc)).symm.trans h
        refine xr_go 2 (pc' := 43) (lo' := [some (.ref v0), some (.int v1), some (.int v2), some (.ref x3)]) (st' := [.ref x3, .int v2]) (μ' := r2.2) rfl ?_
        obtain ⟨x5, hx5, h⟩ := Option.bind_eq_some_iff.mp h
        refine xr_opI (pc' := 46) (lo' := [some (.ref v0), some (.int v1), some (.int v2), some (.ref x3)]) (st' := [.int v2]) (o := ldF r2.2 x3 5 0) rfl hx5 ?_
        refine xr_icmp (pct := 52) rfl rfl rfl (fun hc => ?_) (fun hc => ?_)
        · replace h := (if_pos (of_decide_eq_true hc)).symm.trans h
          refine xr_go 2 (pc' := 55) (lo' := [some (.ref v0), some (.int v1), some (.int v2), some (.ref x3)]) (st' := [.ref x3, .int (xc 100)]) (μ' := r2.2) rfl ?_
          obtain ⟨x6, hx6, h⟩ := Option.bind_eq_some_iff.mp h
          refine xr_opA (pc' := 58) (lo' := [some (.ref v0), some (.int v1), some (.int v2), some (.ref x3)]) (st' := [.int (xc 100)]) (o := ldFR r2.2 x3 5 1) rfl hx6 ?_
          refine xr_go 1 (pc' := 59) (lo' := [some (.ref v0), some (.int v1), some (.int v2), some (.ref x3)]) (st' := [.int v2, .ref x6, .int (xc 100)]) (μ' := r2.2) rfl ?_
          obtain ⟨x7, hx7, h⟩ := Option.bind_eq_some_iff.mp h
          refine xr_opI (pc' := 60) (lo' := [some (.ref v0), some (.int v1), some (.int v2), some (.ref x3)]) (st' := [.int (xc 100)]) (o := ldA r2.2 x6 v2) rfl hx7 ?_
          refine xr_go 3 (pc' := 64) (lo' := [some (.ref v0), some (.int v1), some (.int v2), some (.ref x3)]) (st' := [.ref x3, .int (xc 10), .int ((xc 100) * x7)]) (μ' := r2.2) rfl ?_
          obtain ⟨x8, hx8, h⟩ := Option.bind_eq_some_iff.mp h
          refine xr_opA (pc' := 67) (lo' := [some (.ref v0), some (.int v1), some (.int v2), some (.ref x3)]) (st' := [.int (xc 10), .int ((xc 100) * x7)]) (o := ldFR r2.2 x3 5 2) rfl hx8 ?_
          refine xr_go 1 (pc' := 68) (lo' := [some (.ref v0), some (.int v1), some (.int v2), some (.ref x3)]) (st' := [.int v2, .ref x8, .int (xc 10), .int ((xc 100) * x7)]) (μ' := r2.2) rfl ?_
          obtain ⟨x9, hx9, h⟩ := Option.bind_eq_some_iff.mp h
          refine xr_opI (pc' := 69) (lo' := [some (.ref v0), some (.int v1), some (.int v2), some (.ref x3)]) (st' := [.int (xc 10), .int ((xc 100) * x7)]) (o := ldA r2.2 x8 v2) rfl hx9 ?_
          refine xr_go 3 (pc' := 72) (lo' := [some (.ref v0), some (.int v1), some (.int v2), some (.ref x3)]) (st' := [.ref x3, .int (((xc 100) * x7) + ((xc 10) * x9))]) (μ' := r2.2) rfl ?_
          obtain ⟨x10, hx10, h⟩ := Option.bind_eq_some_iff.mp h
          refine xr_opA (pc' := 75) (lo' := [some (.ref v0), some (.int v1), some (.int v2), some (.ref x3)]) (st' := [.int (((xc 100) * x7) + ((xc 10) * x9))]) (o := ldFR r2.2 x3 5 3) rfl hx10 ?_
          refine xr_go 1 (pc' := 76) (lo' := [some (.ref v0), some (.int v1), some (.int v2), some (.ref x3)]) (st' := [.int v2, .ref x10, .int (((xc 100) * x7) + ((xc 10) * x9))]) (μ' := r2.2) rfl ?_
          obtain ⟨x11, hx11, h⟩ := Option.bind_eq_some_iff.mp h
          refine xr_opI (pc' := 77) (lo' := [some (.ref v0), some (.int v1), some (.int v2), some (.ref x3)]) (st' := [.int (((xc 100) * x7) + ((xc 10) * x9))]) (o := ldA r2.2 x10 v2) rfl hx11 ?_
          refine xr_go 1 (pc' := 78) (lo' := [some (.ref v0), some (.int v1), some (.int v2), some (.ref x3)]) (st' := [.int ((((xc 100) * x7) + ((xc 10) * x9)) + x11)]) (μ' := r2.2) rfl ?_
          have ho := Option.some.inj h
          subst ho
          obtain ⟨rfl, rfl⟩ := hK
          exact xr_ret (rv := some (.int ((((xc 100) * x7) + ((xc 10) * x9)) + x11))) rfl rfl (Or.inl rfl)
        · replace h := (if_neg (of_decide_eq_false hc)).symm.trans h
          refine xr_forget (lo := [none, none, none, none]) trivial ?_
          exact fX_end_49_ok h hK
    · replace h := (if_neg (of_decide_eq_false hc)).symm.trans h
      refine xr_go 2 (pc' := 33) (lo' := [some (.ref v0), some (.int v1), some (.int v2), some (.ref x3)]) (st' := [.int (xc (-3)), .ref v0]) (μ' := r2.2) rfl ?_
      obtain ⟨r12, hr12, h⟩ := Option.bind_eq_some_iff.mp h
      refine xr_callV (j := 37) (d' := (d + 11)) (rv1 := some (.int r12.1)) (μ1 := r12.2) (rest := []) (As := [.int (xc (-3))]) rfl rfl rfl rfl (Nat.le_of_ble_eq_true rfl) (fX_refuse_kd hr12) rfl (by exact (fX_refuse_ok (d := d + (11)) hr12)) ?_
      have ho := Option.some.inj h
      subst ho
      obtain ⟨rfl, rfl⟩ := hK
      exact xr_ret (rv := some (.int r12.1)) rfl rfl (Or.inl rfl)
  · replace h := (if_pos (Decidable.of_not_not (of_decide_eq_false hc))).symm.trans h
    refine xr_go 2 (pc' := 10) (lo' := [some (.ref v0), some (.int v1), some (.int v2), none]) (st' := [.int (xc (-1)), .ref v0]) (μ' := μ) rfl ?_
    obtain ⟨r13, hr13, h⟩ := Option.bind_eq_some_iff.mp h
    refine xr_callV (j := 37) (d' := (d + 11)) (rv1 := some (.int r13.1)) (μ1 := r13.2) (rest := []) (As := [.int (xc (-1))]) rfl rfl rfl rfl (Nat.le_of_ble_eq_true rfl) (fX_refuse_kd hr13) rfl (by exact (fX_refuse_ok (d := d + (11)) hr13)) ?_
    have ho := Option.some.inj h
    subst ho
    obtain ⟨rfl, rfl⟩ := hK
    exact xr_ret (rv := some (.int r13.1)) rfl rfl (Or.inl rfl)
noncomputable def fX_end (a0 : Nat) (a1 : Int32) (a2 : Int32) (μ : xM) : Option (Int32 × xM) := xgd μ a0 0 (fX_end_0 a0 a1 a2 μ)
theorem fX_end_kd {a0 : Nat} {a1 : Int32} {a2 : Int32} {μ : xM} {o : Int32 × xM} (h : fX_end a0 a1 a2 μ = some o) : (xK μ a0).1 = 10 + 0 := (xgd_some h).1
theorem fX_end_ok {d : Nat} {a0 : Nat} {a1 : Int32} {a2 : Int32} {μ : xM} {o : Int32 × xM} (h : fX_end a0 a1 a2 μ = some o) : xRun (d + 12) 13 0 [some (.ref a0), some (.int a1), some (.int a2), none] [] μ (some (.int o.1)) o.2 :=
  xr_forget (lo := [some (.ref a0), some (.int a1), some (.int a2), none]) (⟨rfl, rfl, rfl, trivial⟩) (fX_end_0_ok (d := d) (xgd_some h).2 (show fX_end_K _ _ o from ⟨rfl, rfl⟩))
-- KeptAnswersModel.end(II)I 
def fM_end_K (rv : Option Value) (μf : xM) : (Int32 × xM) → Prop := fun o => rv = some (.int o.1) ∧ μf = o.2
noncomputable def fM_end_0  (v0 : Nat) (v1 : Int32) (v2 : Int32) (μ : xM) : Option (Int32 × xM) := (fM_isAsk v0 v1 μ).bind fun r1 => if r1 = 0 then ((fM_refuse v0 (xc (-1)) μ).bind fun r13 => some ((r13.1, r13.2))) else ((fM_findEnd v0 v1 μ).bind fun r2 => (ldF r2 v0 9 35).bind fun x3 => if x3 = 0 then ((ldF r2 v0 9 29).bind fun x4 => (fM_isIn (Int32.toInt64 v2) (Int64.ofNat 0) (Int32.toInt64 (x4 - (xc 1))) r2).bind fun r5 => if r5 = 0 then (some ((xc (-9), r2))) else ((ldFR r2 v0 9 30).bind fun x6 => (ldA r2 x6 v2).bind fun x7 => (ldFR r2 v0 9 31).bind fun x8 => (ldA r2 x8 v2).bind fun x9 => (ldFR r2 v0 9 32).bind fun x10 => (ldA r2 x10 v2).bind fun x11 => some (((((xc 100) * x7) + ((xc 10) * x9)) + x11, r2)))) else ((fM_refuse v0 (xc (-3)) r2).bind fun r12 => some ((r12.1, r12.2))))
theorem fM_end_0_ok {d : Nat} {v0 : Nat} {v1 : Int32} {v2 : Int32} {μ : xM} {rv : Option Value} {μf : xM} {out : Int32 × xM} (h : fM_end_0 v0 v1 v2 μ = some out) (hK : fM_end_K rv μf out) : xRun (d + 4) 173 0 [some (.ref v0), some (.int v1), some (.int v2)] [] μ rv μf := by
  unfold fM_end_0 at h
  refine xr_go 2 (pc' := 2) (lo' := [some (.ref v0), some (.int v1), some (.int v2)]) (st' := [.int v1, .ref v0]) (μ' := μ) rfl ?_
  obtain ⟨r1, hr1, h⟩ := Option.bind_eq_some_iff.mp h
  refine xr_callV (j := 139) (d' := (d + 3)) (rv1 := some (.int r1)) (μ1 := μ) (rest := []) (As := [.int v1]) rfl rfl rfl rfl (Nat.le_of_ble_eq_true rfl) (fM_isAsk_kd hr1) rfl (by exact (fM_isAsk_ok (d := d + (2)) hr1)) ?_
  refine xr_ifc (pct := 14) rfl rfl rfl (fun hc => ?_) (fun hc => ?_)
  · replace h := (if_neg (of_decide_eq_true hc)).symm.trans h
    refine xr_go 2 (pc' := 16) (lo' := [some (.ref v0), some (.int v1), some (.int v2)]) (st' := [.int v1, .ref v0]) (μ' := μ) rfl ?_
    obtain ⟨r2, hr2, h⟩ := Option.bind_eq_some_iff.mp h
    refine xr_callV (j := 171) (d' := (d + 3)) (rv1 := none) (μ1 := r2) (rest := []) (As := [.int v1]) rfl rfl rfl rfl (Nat.le_of_ble_eq_true rfl) (fM_findEnd_kd hr2) rfl (by exact (fM_findEnd_ok (d := d + (0)) hr2)) ?_
    refine xr_go 1 (pc' := 20) (lo' := [some (.ref v0), some (.int v1), some (.int v2)]) (st' := [.ref v0]) (μ' := r2) rfl ?_
    obtain ⟨x3, hx3, h⟩ := Option.bind_eq_some_iff.mp h
    refine xr_opI (pc' := 23) (lo' := [some (.ref v0), some (.int v1), some (.int v2)]) (st' := []) (o := ldF r2 v0 9 35) rfl hx3 ?_
    refine xr_ifc (pct := 33) rfl rfl rfl (fun hc => ?_) (fun hc => ?_)
    · replace h := (if_pos (of_decide_eq_true hc)).symm.trans h
      refine xr_go 4 (pc' := 37) (lo' := [some (.ref v0), some (.int v1), some (.int v2)]) (st' := [.ref v0, .long (Int64.ofNat 0), .long (Int32.toInt64 v2)]) (μ' := r2) rfl ?_
      obtain ⟨x4, hx4, h⟩ := Option.bind_eq_some_iff.mp h
      refine xr_opI (pc' := 40) (lo' := [some (.ref v0), some (.int v1), some (.int v2)]) (st' := [.long (Int64.ofNat 0), .long (Int32.toInt64 v2)]) (o := ldF r2 v0 9 29) rfl hx4 ?_
      refine xr_go 3 (pc' := 43) (lo' := [some (.ref v0), some (.int v1), some (.int v2)]) (st' := [.long (Int32.toInt64 (x4 - (xc 1))), .long (Int64.ofNat 0), .long (Int32.toInt64 v2)]) (μ' := r2) rfl ?_
      obtain ⟨r5, hr5, h⟩ := Option.bind_eq_some_iff.mp h
      refine xr_callS (j := 137) (d' := (d + 3)) (rv1 := some (.int r5)) (μ1 := r2) (rest := []) (As := [.long (Int32.toInt64 v2), .long (Int64.ofNat 0), .long (Int32.toInt64 (x4 - (xc 1)))]) rfl rfl rfl rfl (Nat.le_of_ble_eq_true rfl) rfl (by exact (fM_isIn_ok (d := d + (3)) hr5)) ?_
      refine xr_ifc (pct := 78) rfl rfl rfl (fun hc => ?_) (fun hc => ?_)
      · replace h := (if_pos (of_decide_eq_true hc)).symm.trans h
        refine xr_go 1 (pc' := 80) (lo' := [some (.ref v0), some (.int v1), some (.int v2)]) (st' := [.int (xc (-9))]) (μ' := r2) rfl ?_
        have ho := Option.some.inj h
        subst ho
        obtain ⟨rfl, rfl⟩ := hK
        exact xr_ret (rv := some (.int (xc (-9)))) rfl rfl (Or.inl rfl)
      · replace h := (if_neg (of_decide_eq_false hc)).symm.trans h
        refine xr_go 2 (pc' := 52) (lo' := [some (.ref v0), some (.int v1), some (.int v2)]) (st' := [.ref v0, .int (xc 100)]) (μ' := r2) rfl ?_
        obtain ⟨x6, hx6, h⟩ := Option.bind_eq_some_iff.mp h
        refine xr_opA (pc' := 55) (lo' := [some (.ref v0), some (.int v1), some (.int v2)]) (st' := [.int (xc 100)]) (o := ldFR r2 v0 9 30) rfl hx6 ?_
        refine xr_go 1 (pc' := 56) (lo' := [some (.ref v0), some (.int v1), some (.int v2)]) (st' := [.int v2, .ref x6, .int (xc 100)]) (μ' := r2) rfl ?_
        obtain ⟨x7, hx7, h⟩ := Option.bind_eq_some_iff.mp h
        refine xr_opI (pc' := 57) (lo' := [some (.ref v0), some (.int v1), some (.int v2)]) (st' := [.int (xc 100)]) (o := ldA r2 x6 v2) rfl hx7 ?_
        refine xr_go 3 (pc' := 61) (lo' := [some (.ref v0), some (.int v1), some (.int v2)]) (st' := [.ref v0, .int (xc 10), .int ((xc 100) * x7)]) (μ' := r2) rfl ?_
        obtain ⟨x8, hx8, h⟩ := Option.bind_eq_some_iff.mp h
        refine xr_opA (pc' := 64) (lo' := [some (.ref v0), some (.int v1), some (.int v2)]) (st' := [.int (xc 10), .int ((xc 100) * x7)]) (o := ldFR r2 v0 9 31) rfl hx8 ?_
        refine xr_go 1 (pc' := 65) (lo' := [some (.ref v0), some (.int v1), some (.int v2)]) (st' := [.int v2, .ref x8, .int (xc 10), .int ((xc 100) * x7)]) (μ' := r2) rfl ?_
        obtain ⟨x9, hx9, h⟩ := Option.bind_eq_some_iff.mp h
        refine xr_opI (pc' := 66) (lo' := [some (.ref v0), some (.int v1), some (.int v2)]) (st' := [.int (xc 10), .int ((xc 100) * x7)]) (o := ldA r2 x8 v2) rfl hx9 ?_
        refine xr_go 3 (pc' := 69) (lo' := [some (.ref v0), some (.int v1), some (.int v2)]) (st' := [.ref v0, .int (((xc 100) * x7) + ((xc 10) * x9))]) (μ' := r2) rfl ?_
        obtain ⟨x10, hx10, h⟩ := Option.bind_eq_some_iff.mp h
        refine xr_opA (pc' := 72) (lo' := [some (.ref v0), some (.int v1), some (.int v2)]) (st' := [.int (((xc 100) * x7) + ((xc 10) * x9))]) (o := ldFR r2 v0 9 32) rfl hx10 ?_
        refine xr_go 1 (pc' := 73) (lo' := [some (.ref v0), some (.int v1), some (.int v2)]) (st' := [.int v2, .ref x10, .int (((xc 100) * x7) + ((xc 10) * x9))]) (μ' := r2) rfl ?_
        obtain ⟨x11, hx11, h⟩ := Option.bind_eq_some_iff.mp h
        refine xr_opI (pc' := 74) (lo' := [some (.ref v0), some (.int v1), some (.int v2)]) (st' := [.int (((xc 100) * x7) + ((xc 10) * x9))]) (o := ldA r2 x10 v2) rfl hx11 ?_
        refine xr_go 2 (pc' := 80) (lo' := [some (.ref v0), some (.int v1), some (.int v2)]) (st' := [.int ((((xc 100) * x7) + ((xc 10) * x9)) + x11)]) (μ' := r2) rfl ?_
        have ho := Option.some.inj h
        subst ho
        obtain ⟨rfl, rfl⟩ := hK
        exact xr_ret (rv := some (.int ((((xc 100) * x7) + ((xc 10) * x9)) + x11))) rfl rfl (Or.inl rfl)
    · replace h := (if_neg (of_decide_eq_false hc)).symm.trans h
      refine xr_go 2 (pc' := 29) (lo' := [some (.ref v0), some (.int v1), some (.int v2)]) (st' := [.int (xc (-3)), .ref v0]) (μ' := r2) rfl ?_
      obtain ⟨r12, hr12, h⟩ := Option.bind_eq_some_iff.mp h
      refine xr_callV (j := 138) (d' := (d + 3)) (rv1 := some (.int r12.1)) (μ1 := r12.2) (rest := []) (As := [.int (xc (-3))]) rfl rfl rfl rfl (Nat.le_of_ble_eq_true rfl) (fM_refuse_kd hr12) rfl (by exact (fM_refuse_ok (d := d + (3)) hr12)) ?_
      have ho := Option.some.inj h
      subst ho
      obtain ⟨rfl, rfl⟩ := hK
      exact xr_ret (rv := some (.int r12.1)) rfl rfl (Or.inl rfl)
  · replace h := (if_pos (Decidable.of_not_not (of_decide_eq_false hc))).symm.trans h
    refine xr_go 2 (pc' := 10) (lo' := [some (.ref v0), some (.int v1), some (.int v2)]) (st' := [.int (xc (-1)), .ref v0]) (μ' := μ) rfl ?_
    obtain ⟨r13, hr13, h⟩ := Option.bind_eq_some_iff.mp h
    refine xr_callV (j := 138) (d' := (d + 3)) (rv1 := some (.int r13.1)) (μ1 := r13.2) (rest := []) (As := [.int (xc (-1))]) rfl rfl rfl rfl (Nat.le_of_ble_eq_true rfl) (fM_refuse_kd hr13) rfl (by exact (fM_refuse_ok (d := d + (3)) hr13)) ?_
    have ho := Option.some.inj h
    subst ho
    obtain ⟨rfl, rfl⟩ := hK
    exact xr_ret (rv := some (.int r13.1)) rfl rfl (Or.inl rfl)
noncomputable def fM_end (a0 : Nat) (a1 : Int32) (a2 : Int32) (μ : xM) : Option (Int32 × xM) := xgd μ a0 9 (fM_end_0 a0 a1 a2 μ)
theorem fM_end_kd {a0 : Nat} {a1 : Int32} {a2 : Int32} {μ : xM} {o : Int32 × xM} (h : fM_end a0 a1 a2 μ = some o) : (xK μ a0).1 = 10 + 9 := (xgd_some h).1
theorem fM_end_ok {d : Nat} {a0 : Nat} {a1 : Int32} {a2 : Int32} {μ : xM} {o : Int32 × xM} (h : fM_end a0 a1 a2 μ = some o) : xRun (d + 4) 173 0 [some (.ref a0), some (.int a1), some (.int a2)] [] μ (some (.int o.1)) o.2 :=
  xr_forget (lo := [some (.ref a0), some (.int a1), some (.int a2)]) (⟨rfl, rfl, rfl, trivial⟩) (fM_end_0_ok (d := d) (xgd_some h).2 (show fM_end_K _ _ o from ⟨rfl, rfl⟩))
-- KeptAnswers$Leading.leadRows(LKeptAnswers$Picture;LKeptAnswers$Picture;JILKeptAnswers$Sight;I)Z N
def fL_leadRowsN_K (μ : xM) (rv : Option Value) (μf : xM) : (Int32) → Prop := fun o => rv = some (.int o) ∧ μf = μ
def fL_leadRowsN_K51 (v0 : Nat) (v1 : Nat) (v2 : Int64) (v4 : Int32) (v6 : Int32) (μ : xM) (d : Nat) (k0 : Nat) (rv : Option Value) (μf : xM) : ((Int32) ⊕ (Int32)) → Prop := Sum.elim (fun s : Int32 => xRun (d + (k0 + 2)) 75 51 [some (.ref v0), some (.ref v1), some (.long v2), none, some (.int v4), some .null, some (.int v6), some (.int s), none, none] [] μ rv μf) (fL_leadRowsN_K μ rv μf)
def fL_leadRowsN_hrc (rc : Nat → Nat → Int64 → Int32 → Int32 → xM → Option (Int32)) (k0 : Nat) : Prop := ∀ (d : Nat) (a0 : Nat) (a1 : Nat) (a2 : Int64) (a3 : Int32) (a5 : Int32) (μ : xM) (o : Int32), rc a0 a1 a2 a3 a5 μ = some o → xRun (d + (k0 + 1)) 75 0 [some (.ref a0), some (.ref a1), some (.long a2), none, some (.int a3), some .null, some (.int a5), none, none, none] [] μ (some (.int o)) μ
theorem fL_leadRowsN_hrc_use {rc : Nat → Nat → Int64 → Int32 → Int32 → xM → Option (Int32)} {k0 d : Nat} (hrc : fL_leadRowsN_hrc rc k0) {a0 : Nat} {a1 : Nat} {a2 : Int64} {a3 : Int32} {a5 : Int32} {μ : xM} {o : Int32} (h : rc a0 a1 a2 a3 a5 μ = some o) : xRun (d + (k0 + 1)) 75 0 [some (.ref a0), some (.ref a1), some (.long a2), none, some (.int a3), some .null, some (.int a5), none, none, none] [] μ (some (.int o)) μ := hrc d a0 a1 a2 a3 a5 μ o h
noncomputable def fL_leadRowsN_147 (rc : Nat → Nat → Int64 → Int32 → Int32 → xM → Option (Int32))  (μ : xM) : Option (Int32) := some (xc 0)
theorem fL_leadRowsN_147_ok {d : Nat} {rc : Nat → Nat → Int64 → Int32 → Int32 → xM → Option (Int32)} {k0 : Nat} (hrc : fL_leadRowsN_hrc rc k0) {μ : xM} {rv : Option Value} {μf : xM} {out : Int32} (h : fL_leadRowsN_147 rc μ = some out) (hK : fL_leadRowsN_K μ rv μf out) : xRun (d + (k0 + 2)) 75 147 [none, none, none, none, none, none, none, none, none, none] [] μ rv μf := by
  unfold fL_leadRowsN_147 at h
  refine xr_go 1 (pc' := 148) (lo' := [none, none, none, none, none, none, none, none, none, none]) (st' := [.int (xc 0)]) (μ' := μ) rfl ?_
  have ho := Option.some.inj h
  subst ho
  obtain ⟨rfl, rfl⟩ := hK
  exact xr_ret (rv := some (.int (xc 0))) rfl rfl (Or.inr ⟨rfl, Or.inl rfl⟩)
noncomputable def fL_leadRowsN_141 (rc : Nat → Nat → Int64 → Int32 → Int32 → xM → Option (Int32))  (v0 : Nat) (v1 : Nat) (v2 : Int64) (v4 : Int32) (v6 : Int32) (v7 : Int32) (μ : xM) : Option ((Int32) ⊕ (Int32)) := some (.inl ((v7 + xc 1)))
theorem fL_leadRowsN_141_ok {d : Nat} {rc : Nat → Nat → Int64 → Int32 → Int32 → xM → Option (Int32)} {k0 : Nat} (hrc : fL_leadRowsN_hrc rc k0) {v0 : Nat} {v1 : Nat} {v2 : Int64} {v4 : Int32} {v6 : Int32} {v7 : Int32} {μ : xM} {rv : Option Value} {μf : xM} {out : (Int32) ⊕ (Int32)} (h : fL_leadRowsN_141 rc v0 v1 v2 v4 v6 v7 μ = some out) (hK : fL_leadRowsN_K51 v0 v1 v2 v4 v6 μ d k0 rv μf out) : xRun (d + (k0 + 2)) 75 141 [some (.ref v0), some (.ref v1), some (.long v2), none, some (.int v4), some .null, some (.int v6), some (.int v7), none, none] [] μ rv μf := by
  unfold fL_leadRowsN_141 at h
  refine xr_go 2 (pc' := 51) (lo' := [some (.ref v0), some (.ref v1), some (.long v2), none, some (.int v4), some .null, some (.int v6), some (.int (v7 + xc 1)), none, none]) (st' := []) (μ' := μ) rfl ?_
  refine xr_forget (lo := [some (.ref v0), some (.ref v1), some (.long v2), none, some (.int v4), some .null, some (.int v6), some (.int (v7 + xc 1)), none, none]) ⟨rfl, rfl, rfl, rfl, rfl, rfl, rfl, trivial⟩ ?_
  have ho := Option.some.inj h
  subst ho
  exact hK
noncomputable def fL_leadRowsN_139 (rc : Nat → Nat → Int64 → Int32 → Int32 → xM → Option (Int32))  (μ : xM) : Option (Int32) := some (xc 1)
theorem fL_leadRowsN_139_ok {d : Nat} {rc : Nat → Nat → Int64 → Int32 → Int32 → xM → Option (Int32)} {k0 : Nat} (hrc : fL_leadRowsN_hrc rc k0) {μ : xM} {rv : Option Value} {μf : xM} {out : Int32} (h : fL_leadRowsN_139 rc μ = some out) (hK : fL_leadRowsN_K μ rv μf out) : xRun (d + (k0 + 2)) 75 139 [none, none, none, none, none, none, none, none, none, none] [] μ rv μf := by
  unfold fL_leadRowsN_139 at h
  refine xr_go 1 (pc' := 140) (lo' := [none, none, none, none, none, none, none, none, none, none]) (st' := [.int (xc 1)]) (μ' := μ) rfl ?_
  have ho := Option.some.inj h
  subst ho
  obtain ⟨rfl, rfl⟩ := hK
  exact xr_ret (rv := some (.int (xc 1))) rfl rfl (Or.inr ⟨rfl, Or.inr rfl⟩)
noncomputable def fL_leadRowsN_L51 (rc : Nat → Nat → Int64 → Int32 → Int32 → xM → Option (Int32))  (v0 : Nat) (v1 : Nat) (v2 : Int64) (v4 : Int32) (v6 : Int32) (v7 : Int32) (μ : xM) : Option ((Int32) ⊕ (Int32)) := (ldF μ v1 5 0).bind fun x1 => if x1 ≤ v7 then ((fL_leadRowsN_147 rc μ).map (fun o => .inr o)) else ((ldFR μ v1 5 1).bind fun x2 => (ldA μ x2 v7).bind fun x3 => (ldFR μ v0 5 1).bind fun x4 => (ldA μ x4 v4).bind fun x5 => if x3 = x5 then ((ldFR μ v0 5 2).bind fun x6 => (ldA μ x6 v4).bind fun x7 => (ldFR μ v1 5 2).bind fun x8 => (ldA μ x8 v7).bind fun x9 => (fL_lead v2 x7 x9 μ).bind fun r10 => (ldFR μ v0 5 3).bind fun x11 => (ldA μ x11 v4).bind fun x12 => (ldFR μ v1 5 3).bind fun x13 => (ldA μ x13 v7).bind fun x14 => (fL_lead r10 x12 x14 μ).bind fun r15 => (rc v0 v1 r15 (v4 + (xc 1)) v6 μ).bind fun r16 => if r16 = 0 then (fL_leadRowsN_141 rc v0 v1 v2 v4 v6 v7 μ) else ((fL_leadRowsN_139 rc μ).map (fun o => .inr o))) else (fL_leadRowsN_141 rc v0 v1 v2 v4 v6 v7 μ))
theorem fL_leadRowsN_L51_ok {d : Nat} {rc : Nat → Nat → Int64 → Int32 → Int32 → xM → Option (Int32)} {k0 : Nat} (hrc : fL_leadRowsN_hrc rc k0) {v0 : Nat} {v1 : Nat} {v2 : Int64} {v4 : Int32} {v6 : Int32} {v7 : Int32} {μ : xM} {rv : Option Value} {μf : xM} {out : (Int32) ⊕ (Int32)} (h : fL_leadRowsN_L51 rc v0 v1 v2 v4 v6 v7 μ = some out) (hK : fL_leadRowsN_K51 v0 v1 v2 v4 v6 μ d k0 rv μf out) : xRun (d + (k0 + 2)) 75 51 [some (.ref v0), some (.ref v1), some (.long v2), none, some (.int v4), some .null, some (.int v6), some (.int v7), none, none] [] μ rv μf := by
  unfold fL_leadRowsN_L51 at h
  refine xr_go 2 (pc' := 54) (lo' := [some (.ref v0), some (.ref v1), some (.long v2), none, some (.int v4), some .null, some (.int v6), some (.int v7), none, none]) (st' := [.ref v1, .int v7]) (μ' := μ) rfl ?_
  obtain ⟨x1, hx1, h⟩ := Option.bind_eq_some_iff.mp h
  refine xr_opI (pc' := 57) (lo' := [some (.ref v0), some (.ref v1), some (.long v2), none, some (.int v4), some .null, some (.int v6), some (.int v7), none, none]) (st' := [.int v7]) (o := ldF μ v1 5 0) rfl hx1 ?_
  refine xr_icmp (pct := 147) rfl rfl rfl (fun hc => ?_) (fun hc => ?_)
  · replace h := (if_pos (of_decide_eq_true hc)).symm.trans h
    refine xr_forget (lo := [none, none, none, none, none, none, none, none, none, none]) trivial ?_
    obtain ⟨o, h2, rfl⟩ := Option.map_eq_some_iff.mp h
    exact fL_leadRowsN_147_ok hrc h2 hK
  · replace h := (if_neg (of_decide_eq_false hc)).symm.trans h
    refine xr_go 1 (pc' := 61) (lo' := [some (.ref v0), some (.ref v1), some (.long v2), none, some (.int v4), some .null, some (.int v6), some (.int v7), none, none]) (st' := [.ref v1]) (μ' := μ) rfl ?_
    obtain ⟨x2, hx2, h⟩ := Option.bind_eq_some_iff.mp h
    refine xr_opA (pc' := 64) (lo' := [some (.ref v0), some (.ref v1), some (.long v2), none, some (.int v4), some .null, some (.int v6), some (.int v7), none, none]) (st' := []) (o := ldFR μ v1 5 1) rfl hx2 ?_
    refine xr_go 1 (pc' := 66) (lo' := [some (.ref v0), some (.ref v1), some (.long v2), none, some (.int v4), some .null, some (.int v6), some (.int v7), none, none]) (st' := [.int v7, .ref x2]) (μ' := μ) rfl ?_
    obtain ⟨x3, hx3, h⟩ := Option.bind_eq_some_iff.mp h
    refine xr_opI (pc' := 67) (lo' := [some (.ref v0), some (.ref v1), some (.long v2), none, some (.int v4), some .null, some (.int v6), some (.int v7), none, none]) (st' := []) (o := ldA μ x2 v7) rfl hx3 ?_
    refine xr_go 1 (pc' := 68) (lo' := [some (.ref v0), some (.ref v1), some (.long v2), none, some (.int v4), some .null, some (.int v6), some (.int v7), none, none]) (st' := [.ref v0, .int x3]) (μ' := μ) rfl ?_
    obtain ⟨x4, hx4, h⟩ := Option.bind_eq_some_iff.mp h
    refine xr_opA (pc' := 71) (lo' := [some (.ref v0), some (.ref v1), some (.long v2), none, some (.int v4), some .null, some (.int v6), some (.int v7), none, none]) (st' := [.int x3]) (o := ldFR μ v0 5 1) rfl hx4 ?_
    refine xr_go 1 (pc' := 73) (lo' := [some (.ref v0), some (.ref v1), some (.long v2), none, some (.int v4), some .null, some (.int v6), some (.int v7), none, none]) (st' := [.int v4, .ref x4, .int x3]) (μ' := μ) rfl ?_
    obtain ⟨x5, hx5, h⟩ := Option.bind_eq_some_iff.mp h
    refine xr_opI (pc' := 74) (lo' := [some (.ref v0), some (.ref v1), some (.long v2), none, some (.int v4), some .null, some (.int v6), some (.int v7), none, none]) (st' := [.int x3]) (o := ldA μ x4 v4) rfl hx5 ?_
    refine xr_icmp (pct := 80) rfl rfl rfl (fun hc => ?_) (fun hc => ?_)
    · replace h := (if_pos (of_decide_eq_true hc)).symm.trans h
      refine xr_go 2 (pc' := 82) (lo' := [some (.ref v0), some (.ref v1), some (.long v2), none, some (.int v4), some .null, some (.int v6), some (.int v7), none, none]) (st' := [.ref v0, .long v2]) (μ' := μ) rfl ?_
      obtain ⟨x6, hx6, h⟩ := Option.bind_eq_some_iff.mp h
      refine xr_opA (pc' := 85) (lo' := [some (.ref v0), some (.ref v1), some (.long v2), none, some (.int v4), some .null, some (.int v6), some (.int v7), none, none]) (st' := [.long v2]) (o := ldFR μ v0 5 2) rfl hx6 ?_
      refine xr_go 1 (pc' := 87) (lo' := [some (.ref v0), some (.ref v1), some (.long v2), none, some (.int v4), some .null, some (.int v6), some (.int v7), none, none]) (st' := [.int v4, .ref x6, .long v2]) (μ' := μ) rfl ?_
      obtain ⟨x7, hx7, h⟩ := Option.bind_eq_some_iff.mp h
      refine xr_opI (pc' := 88) (lo' := [some (.ref v0), some (.ref v1), some (.long v2), none, some (.int v4), some .null, some (.int v6), some (.int v7), none, none]) (st' := [.long v2]) (o := ldA μ x6 v4) rfl hx7 ?_
      refine xr_go 1 (pc' := 89) (lo' := [some (.ref v0), some (.ref v1), some (.long v2), none, some (.int v4), some .null, some (.int v6), some (.int v7), none, none]) (st' := [.ref v1, .int x7, .long v2]) (μ' := μ) rfl ?_
      obtain ⟨x8, hx8, h⟩ := Option.bind_eq_some_iff.mp h
      refine xr_opA (pc' := 92) (lo' := [some (.ref v0), some (.ref v1), some (.long v2), none, some (.int v4), some .null, some (.int v6), some (.int v7), none, none]) (st' := [.int x7, .long v2]) (o := ldFR μ v1 5 2) rfl hx8 ?_
      refine xr_go 1 (pc' := 94) (lo' := [some (.ref v0), some (.ref v1), some (.long v2), none, some (.int v4), some .null, some (.int v6), some (.int v7), none, none]) (st' := [.int v7, .ref x8, .int x7, .long v2]) (μ' := μ) rfl ?_
      obtain ⟨x9, hx9, h⟩ := Option.bind_eq_some_iff.mp h
      refine xr_opI (pc' := 95) (lo' := [some (.ref v0), some (.ref v1), some (.long v2), none, some (.int v4), some .null, some (.int v6), some (.int v7), none, none]) (st' := [.int x7, .long v2]) (o := ldA μ x8 v7) rfl hx9 ?_
      obtain ⟨r10, hr10, h⟩ := Option.bind_eq_some_iff.mp h
      refine xr_callS (j := 74) (d' := (d + (k0 + 1))) (rv1 := some (.long r10)) (μ1 := μ) (rest := []) (As := [.long v2, .int x7, .int x9]) rfl rfl rfl rfl (Nat.le_of_ble_eq_true rfl) rfl (by exact (fL_lead_ok (d := d + (k0 + 0)) hr10)) ?_
      refine xr_go 3 (pc' := 103) (lo' := [some (.ref v0), some (.ref v1), some (.long v2), none, some (.int v4), some .null, some (.int v6), some (.int v7), some (.long r10), none]) (st' := [.ref v0, .long r10]) (μ' := μ) rfl ?_
      obtain ⟨x11, hx11, h⟩ := Option.bind_eq_some_iff.mp h
      refine xr_opA (pc' := 106) (lo' := [some (.ref v0), some (.ref v1), some (.long v2), none, some (.int v4), some .null, some (.int v6), some (.int v7), some (.long r10), none]) (st' := [.long r10]) (o := ldFR μ v0 5 3) rfl hx11 ?_
      refine xr_go 1 (pc' := 108) (lo' := [some (.ref v0), some (.ref v1), some (.long v2), none, some (.int v4), some .null, some (.int v6), some (.int v7), some (.long r10), none]) (st' := [.int v4, .ref x11, .long r10]) (μ' := μ) rfl ?_
      obtain ⟨x12, hx12, h⟩ := Option.bind_eq_some_iff.mp h
      refine xr_opI (pc' := 109) (lo' := [some (.ref v0), some (.ref v1), some (.long v2), none, some (.int v4), some .null, some (.int v6), some (.int v7), some (.long r10), none]) (st' := [.long r10]) (o := ldA μ x11 v4) rfl hx12 ?_
      refine xr_go 1 (pc' := 110) (lo' := [some (.ref v0), some (.ref v1), some (.long v2), none, some (.int v4), some .null, some (.int v6), some (.int v7), some (.long r10), none]) (st' := [.ref v1, .int x12, .long r10]) (μ' := μ) rfl ?_
      obtain ⟨x13, hx13, h⟩ := Option.bind_eq_some_iff.mp h
      refine xr_opA (pc' := 113) (lo' := [some (.ref v0), some (.ref v1), some (.long v2), none, some (.int v4), some .null, some (.int v6), some (.int v7), some (.long r10), none]) (st' := [.int x12, .long r10]) (o := ldFR μ v1 5 3) rfl hx13 ?_
      refine xr_go 1 (pc' := 115) (lo' := [some (.ref v0), some (.ref v1), some (.long v2), none, some (.int v4), some .null, some (.int v6), some (.int v7), some (.long r10), none]) (st' := [.int v7, .ref x13, .int x12, .long r10]) (μ' := μ) rfl ?_
      obtain ⟨x14, hx14, h⟩ := Option.bind_eq_some_iff.mp h
      refine xr_opI (pc' := 116) (lo' := [some (.ref v0), some (.ref v1), some (.long v2), none, some (.int v4), some .null, some (.int v6), some (.int v7), some (.long r10), none]) (st' := [.int x12, .long r10]) (o := ldA μ x13 v7) rfl hx14 ?_
      obtain ⟨r15, hr15, h⟩ := Option.bind_eq_some_iff.mp h
      refine xr_callS (j := 74) (d' := (d + (k0 + 1))) (rv1 := some (.long r15)) (μ1 := μ) (rest := []) (As := [.long r10, .int x12, .int x14]) rfl rfl rfl rfl (Nat.le_of_ble_eq_true rfl) rfl (by exact (fL_lead_ok (d := d + (k0 + 0)) hr15)) ?_
      refine xr_go 9 (pc' := 133) (lo' := [some (.ref v0), some (.ref v1), some (.long v2), none, some (.int v4), some .null, some (.int v6), some (.int v7), some (.long r15), none]) (st' := [.int v6, .null, .int (v4 + (xc 1)), .long r15, .ref v1, .ref v0]) (μ' := μ) rfl ?_
      obtain ⟨r16, hr16, h⟩ := Option.bind_eq_some_iff.mp h
      refine xr_callS (j := 75) (d' := (d + (k0 + 1))) (rv1 := some (.int r16)) (μ1 := μ) (rest := []) (As := [.ref v0, .ref v1, .long r15, .int (v4 + (xc 1)), .null, .int v6]) rfl rfl rfl rfl (Nat.le_of_ble_eq_true rfl) rfl (by exact (fL_leadRowsN_hrc_use hrc hr16)) ?_
      refine xr_ifc (pct := 141) rfl rfl rfl (fun hc => ?_) (fun hc => ?_)
      · replace h := (if_pos (of_decide_eq_true hc)).symm.trans h
        refine xr_forget (lo := [some (.ref v0), some (.ref v1), some (.long v2), none, some (.int v4), some .null, some (.int v6), some (.int v7), none, none]) ⟨rfl, rfl, rfl, rfl, rfl, rfl, rfl, trivial⟩ ?_
        exact fL_leadRowsN_141_ok hrc h hK
      · replace h := (if_neg (of_decide_eq_false hc)).symm.trans h
        refine xr_forget (lo := [none, none, none, none, none, none, none, none, none, none]) trivial ?_
        obtain ⟨o, h2, rfl⟩ := Option.map_eq_some_iff.mp h
        exact fL_leadRowsN_139_ok hrc h2 hK
    · replace h := (if_neg (of_decide_eq_false hc)).symm.trans h
      refine xr_go 1 (pc' := 141) (lo' := [some (.ref v0), some (.ref v1), some (.long v2), none, some (.int v4), some .null, some (.int v6), some (.int v7), none, none]) (st' := []) (μ' := μ) rfl ?_
      refine xr_forget (lo := [some (.ref v0), some (.ref v1), some (.long v2), none, some (.int v4), some .null, some (.int v6), some (.int v7), none, none]) ⟨rfl, rfl, rfl, rfl, rfl, rfl, rfl, trivial⟩ ?_
      exact fL_leadRowsN_141_ok hrc h hK
theorem fL_leadRowsN_L51_lp {d : Nat} {rc : Nat → Nat → Int64 → Int32 → Int32 → xM → Option (Int32)} {k0 : Nat} (hrc : fL_leadRowsN_hrc rc k0) {v0 : Nat} {v1 : Nat} {v2 : Int64} {v4 : Int32} {v6 : Int32} {v7 : Int32} {μ : xM} {rv : Option Value} {μf : xM} {out : Int32} (h : xwh (fun s : Int32 => fL_leadRowsN_L51 rc v0 v1 v2 v4 v6 s μ) (v7) = some out) (hK : fL_leadRowsN_K μ rv μf out) : xRun (d + (k0 + 2)) 75 51 [some (.ref v0), some (.ref v1), some (.long v2), none, some (.int v4), some .null, some (.int v6), some (.int v7), none, none] [] μ rv μf :=
  xwh_ind (Rh := fun s : Int32 => xRun (d + (k0 + 2)) 75 51 [some (.ref v0), some (.ref v1), some (.long v2), none, some (.int v4), some .null, some (.int v6), some (.int s), none, none] [] μ rv μf) (Co := fL_leadRowsN_K μ rv μf) (fun s o hb hk => fL_leadRowsN_L51_ok hrc hb hk) h hK
noncomputable def fL_leadRowsN_25 (rc : Nat → Nat → Int64 → Int32 → Int32 → xM → Option (Int32))  (μ : xM) : Option (Int32) := some (xc 1)
theorem fL_leadRowsN_25_ok {d : Nat} {rc : Nat → Nat → Int64 → Int32 → Int32 → xM → Option (Int32)} {k0 : Nat} (hrc : fL_leadRowsN_hrc rc k0) {μ : xM} {rv : Option Value} {μf : xM} {out : Int32} (h : fL_leadRowsN_25 rc μ = some out) (hK : fL_leadRowsN_K μ rv μf out) : xRun (d + (k0 + 2)) 75 25 [none, none, none, none, none, some .null, none, none, none, none] [] μ rv μf := by
  unfold fL_leadRowsN_25 at h
  refine xr_go 4 (pc' := 47) (lo' := [none, none, none, none, none, some .null, none, none, none, none]) (st' := [.int (xc 1)]) (μ' := μ) rfl ?_
  have ho := Option.some.inj h
  subst ho
  obtain ⟨rfl, rfl⟩ := hK
  exact xr_ret (rv := some (.int (xc 1))) rfl rfl (Or.inr ⟨rfl, Or.inr rfl⟩)
noncomputable def fL_leadRowsN_0 (rc : Nat → Nat → Int64 → Int32 → Int32 → xM → Option (Int32))  (v0 : Nat) (v1 : Nat) (v2 : Int64) (v4 : Int32) (v6 : Int32) (μ : xM) : Option (Int32) := if (lg_cmp v2 (Int64.ofNat 18446744073709551615)) = 0 then (some (xc 0)) else ((ldF μ v0 5 0).bind fun x17 => if x17 ≤ v4 then (fL_leadRowsN_25 rc μ) else (if v4 < (xc 4) then (xwh (fun s : Int32 => fL_leadRowsN_L51 rc v0 v1 v2 v4 v6 s μ) (xc 0)) else (fL_leadRowsN_25 rc μ)))
theorem fL_leadRowsN_0_ok {d : Nat} {rc : Nat → Nat → Int64 → Int32 → Int32 → xM → Option (Int32)} {k0 : Nat} (hrc : fL_leadRowsN_hrc rc k0) {v0 : Nat} {v1 : Nat} {v2 : Int64} {v4 : Int32} {v6 : Int32} {μ : xM} {rv : Option Value} {μf : xM} {out : Int32} (h : fL_leadRowsN_0 rc v0 v1 v2 v4 v6 μ = some out) (hK : fL_leadRowsN_K μ rv μf out) : xRun (d + (k0 + 2)) 75 0 [some (.ref v0), some (.ref v1), some (.long v2), none, some (.int v4), some .null, some (.int v6), none, none, none] [] μ rv μf := by
  unfold fL_leadRowsN_0 at h
  refine xr_go 3 (pc' := 5) (lo' := [some (.ref v0), some (.ref v1), some (.long v2), none, some (.int v4), some .null, some (.int v6), none, none, none]) (st' := [.int (lg_cmp v2 (Int64.ofNat 18446744073709551615))]) (μ' := μ) rfl ?_
  refine xr_ifc (pct := 10) rfl rfl rfl (fun hc => ?_) (fun hc => ?_)
  · replace h := (if_neg (of_decide_eq_true hc)).symm.trans h
    refine xr_go 2 (pc' := 13) (lo' := [some (.ref v0), some (.ref v1), some (.long v2), none, some (.int v4), some .null, some (.int v6), none, none, none]) (st' := [.ref v0, .int v4]) (μ' := μ) rfl ?_
    obtain ⟨x17, hx17, h⟩ := Option.bind_eq_some_iff.mp h
    refine xr_opI (pc' := 16) (lo' := [some (.ref v0), some (.ref v1), some (.long v2), none, some (.int v4), some .null, some (.int v6), none, none, none]) (st' := [.int v4]) (o := ldF μ v0 5 0) rfl hx17 ?_
    refine xr_icmp (pct := 25) rfl rfl rfl (fun hc => ?_) (fun hc => ?_)
    · replace h := (if_pos (of_decide_eq_true hc)).symm.trans h
      refine xr_forget (lo := [none, none, none, none, none, some .null, none, none, none, none]) ⟨rfl, trivial⟩ ?_
      exact fL_leadRowsN_25_ok hrc h hK
    · replace h := (if_neg (of_decide_eq_false hc)).symm.trans h
      refine xr_go 2 (pc' := 22) (lo' := [some (.ref v0), some (.ref v1), some (.long v2), none, some (.int v4), some .null, some (.int v6), none, none, none]) (st' := [.int (xc 4), .int v4]) (μ' := μ) rfl ?_
      refine xr_icmp (pct := 48) rfl rfl rfl (fun hc => ?_) (fun hc => ?_)
      · replace h := (if_pos (of_decide_eq_true hc)).symm.trans h
        refine xr_go 2 (pc' := 51) (lo' := [some (.ref v0), some (.ref v1), some (.long v2), none, some (.int v4), some .null, some (.int v6), some (.int (xc 0)), none, none]) (st' := []) (μ' := μ) rfl ?_
        refine xr_forget (lo := [some (.ref v0), some (.ref v1), some (.long v2), none, some (.int v4), some .null, some (.int v6), some (.int (xc 0)), none, none]) ⟨rfl, rfl, rfl, rfl, rfl, rfl, rfl, trivial⟩ ?_
        exact fL_leadRowsN_L51_lp hrc h hK
      · replace h := (if_neg (of_decide_eq_false hc)).symm.trans h
        refine xr_forget (lo := [none, none, none, none, none, some .null, none, none, none, none]) ⟨rfl, trivial⟩ ?_
        exact fL_leadRowsN_25_ok hrc h hK
  · replace h := (if_pos (Decidable.of_not_not (of_decide_eq_false hc))).symm.trans h
    refine xr_go 1 (pc' := 9) (lo' := [some (.ref v0), some (.ref v1), some (.long v2), none, some (.int v4), some .null, some (.int v6), none, none, none]) (st' := [.int (xc 0)]) (μ' := μ) rfl ?_
    have ho := Option.some.inj h
    subst ho
    obtain ⟨rfl, rfl⟩ := hK
    exact xr_ret (rv := some (.int (xc 0))) rfl rfl (Or.inr ⟨rfl, Or.inl rfl⟩)
noncomputable def fL_leadRowsN : Nat → Nat → Nat → Int64 → Int32 → Int32 → xM → Option (Int32)
  | 0, _, _, _, _, _, _ => none
  | k + 1, a0, a1, a2, a3, a5, μ => fL_leadRowsN_0 (fL_leadRowsN k) a0 a1 a2 a3 a5 μ
theorem fL_leadRowsN_ok : ∀ {k d : Nat} {a0 : Nat} {a1 : Nat} {a2 : Int64} {a3 : Int32} {a5 : Int32} {μ : xM} {o : Int32}, fL_leadRowsN k a0 a1 a2 a3 a5 μ = some o → xRun (d + (k + 2)) 75 0 [some (.ref a0), some (.ref a1), some (.long a2), none, some (.int a3), some .null, some (.int a5), none, none, none] [] μ (some (.int o)) μ
  | 0, d, a0, a1, a2, a3, a5,  μ, o, h => by cases h
  | k + 1, d, a0, a1, a2, a3, a5,  μ, o, h => by
    have hrc : fL_leadRowsN_hrc (fL_leadRowsN k) (k + 1) := fun d a0 a1 a2 a3 a5 μ o h => by
      have h2 := fL_leadRowsN_ok (d := d) h
      rw [show d + (k + 1 + 1) = d + (k + 2) by omega]
      exact h2
    exact xr_forget (lo := [some (.ref a0), some (.ref a1), some (.long a2), none, some (.int a3), some .null, some (.int a5), none, none, none]) (⟨rfl, rfl, rfl, rfl, rfl, rfl, trivial⟩) (fL_leadRowsN_0_ok (k0 := k + 1) (d := d) hrc h (show fL_leadRowsN_K μ _ _ o from ⟨rfl, rfl⟩))
-- KeptAnswers$Leading.isWithin(LKeptAnswers$Picture;LKeptAnswers$Picture;)Z 
def fL_isWithin_K (μ : xM) (rv : Option Value) (μf : xM) : (Int32) → Prop := fun o => rv = some (.int o) ∧ μf = μ
def fL_isWithin_K20 (v0 : Nat) (v1 : Nat) (μ : xM) (d : Nat) (rv : Option Value) (μf : xM) : ((Int64 × Int32) ⊕ (Int32)) → Prop := Sum.elim (fun s : Int64 × Int32 => xRun (d + 9) 71 20 [some (.ref v0), some (.ref v1), some (.long s.1), none, some (.int s.2)] [] μ rv μf) (fL_isWithin_K μ rv μf)
noncomputable def fL_isWithin_73  (μ : xM) : Option (Int32) := some (xc 1)
theorem fL_isWithin_73_ok {d : Nat} {μ : xM} {rv : Option Value} {μf : xM} {out : Int32} (h : fL_isWithin_73 μ = some out) (hK : fL_isWithin_K μ rv μf out) : xRun (d + 9) 71 73 [none, none, none, none, none] [] μ rv μf := by
  unfold fL_isWithin_73 at h
  refine xr_go 2 (pc' := 78) (lo' := [none, none, none, none, none]) (st' := [.int (xc 1)]) (μ' := μ) rfl ?_
  have ho := Option.some.inj h
  subst ho
  obtain ⟨rfl, rfl⟩ := hK
  exact xr_ret (rv := some (.int (xc 1))) rfl rfl (Or.inr ⟨rfl, Or.inr rfl⟩)
noncomputable def fL_isWithin_54  (v0 : Nat) (v1 : Nat) (v2 : Int64) (μ : xM) : Option (Int32) := (ldF μ v0 5 7).bind fun x1 => if x1 = 0 then ((fL_leadRowsN 6 v1 v0 v2 (xc 0) (xc 0) μ).bind fun r2 => if r2 = 0 then (some (xc 0)) else (fL_isWithin_73 μ)) else (fL_isWithin_73 μ)
theorem fL_isWithin_54_ok {d : Nat} {v0 : Nat} {v1 : Nat} {v2 : Int64} {μ : xM} {rv : Option Value} {μf : xM} {out : Int32} (h : fL_isWithin_54 v0 v1 v2 μ = some out) (hK : fL_isWithin_K μ rv μf out) : xRun (d + 9) 71 54 [some (.ref v0), some (.ref v1), some (.long v2), none, none] [] μ rv μf := by
  unfold fL_isWithin_54 at h
  refine xr_go 1 (pc' := 55) (lo' := [some (.ref v0), some (.ref v1), some (.long v2), none, none]) (st' := [.ref v0]) (μ' := μ) rfl ?_
  obtain ⟨x1, hx1, h⟩ := Option.bind_eq_some_iff.mp h
  refine xr_opI (pc' := 58) (lo' := [some (.ref v0), some (.ref v1), some (.long v2), none, none]) (st' := []) (o := ldF μ v0 5 7) rfl hx1 ?_
  refine xr_ifc (pct := 73) rfl rfl rfl (fun hc => ?_) (fun hc => ?_)
  · replace h := (if_neg (of_decide_eq_true hc)).symm.trans h
    refine xr_forget (lo := [none, none, none, none, none]) trivial ?_
    exact fL_isWithin_73_ok h hK
  · replace h := (if_pos (Decidable.of_not_not (of_decide_eq_false hc))).symm.trans h
    refine xr_go 6 (pc' := 67) (lo' := [some (.ref v0), some (.ref v1), some (.long v2), none, none]) (st' := [.int (xc 0), .null, .int (xc 0), .long v2, .ref v0, .ref v1]) (μ' := μ) rfl ?_
    obtain ⟨r2, hr2, h⟩ := Option.bind_eq_some_iff.mp h
    refine xr_callS (j := 75) (d' := (d + 8)) (rv1 := some (.int r2)) (μ1 := μ) (rest := []) (As := [.ref v1, .ref v0, .long v2, .int (xc 0), .null, .int (xc 0)]) rfl rfl rfl rfl (Nat.le_of_ble_eq_true rfl) rfl (by exact (fL_leadRowsN_ok (d := d + 0) hr2)) ?_
    refine xr_ifc (pct := 77) rfl rfl rfl (fun hc => ?_) (fun hc => ?_)
    · replace h := (if_pos (of_decide_eq_true hc)).symm.trans h
      refine xr_go 1 (pc' := 78) (lo' := [some (.ref v0), some (.ref v1), some (.long v2), none, none]) (st' := [.int (xc 0)]) (μ' := μ) rfl ?_
      have ho := Option.some.inj h
      subst ho
      obtain ⟨rfl, rfl⟩ := hK
      exact xr_ret (rv := some (.int (xc 0))) rfl rfl (Or.inr ⟨rfl, Or.inl rfl⟩)
    · replace h := (if_neg (of_decide_eq_false hc)).symm.trans h
      refine xr_forget (lo := [none, none, none, none, none]) trivial ?_
      exact fL_isWithin_73_ok h hK
noncomputable def fL_isWithin_L20  (v0 : Nat) (v1 : Nat) (v2 : Int64) (v4 : Int32) (μ : xM) : Option ((Int64 × Int32) ⊕ (Int32)) := (ldF μ v1 5 4).bind fun x3 => if x3 ≤ v4 then ((fL_isWithin_54 v0 v1 v2 μ).map (fun o => .inr o)) else ((ldFR μ v1 5 5).bind fun x4 => (ldA μ x4 v4).bind fun x5 => (ldFR μ v0 5 5).bind fun x6 => (ldA μ x6 v4).bind fun x7 => (fL_lead v2 x5 x7 μ).bind fun r8 => some (.inl ((r8, v4 + xc 1))))
theorem fL_isWithin_L20_ok {d : Nat} {v0 : Nat} {v1 : Nat} {v2 : Int64} {v4 : Int32} {μ : xM} {rv : Option Value} {μf : xM} {out : (Int64 × Int32) ⊕ (Int32)} (h : fL_isWithin_L20 v0 v1 v2 v4 μ = some out) (hK : fL_isWithin_K20 v0 v1 μ d rv μf out) : xRun (d + 9) 71 20 [some (.ref v0), some (.ref v1), some (.long v2), none, some (.int v4)] [] μ rv μf := by
  unfold fL_isWithin_L20 at h
  refine xr_go 2 (pc' := 23) (lo' := [some (.ref v0), some (.ref v1), some (.long v2), none, some (.int v4)]) (st' := [.ref v1, .int v4]) (μ' := μ) rfl ?_
  obtain ⟨x3, hx3, h⟩ := Option.bind_eq_some_iff.mp h
  refine xr_opI (pc' := 26) (lo' := [some (.ref v0), some (.ref v1), some (.long v2), none, some (.int v4)]) (st' := [.int v4]) (o := ldF μ v1 5 4) rfl hx3 ?_
  refine xr_icmp (pct := 54) rfl rfl rfl (fun hc => ?_) (fun hc => ?_)
  · replace h := (if_pos (of_decide_eq_true hc)).symm.trans h
    refine xr_forget (lo := [some (.ref v0), some (.ref v1), some (.long v2), none, none]) ⟨rfl, rfl, rfl, trivial⟩ ?_
    obtain ⟨o, h2, rfl⟩ := Option.map_eq_some_iff.mp h
    exact fL_isWithin_54_ok h2 hK
  · replace h := (if_neg (of_decide_eq_false hc)).symm.trans h
    refine xr_go 2 (pc' := 31) (lo' := [some (.ref v0), some (.ref v1), some (.long v2), none, some (.int v4)]) (st' := [.ref v1, .long v2]) (μ' := μ) rfl ?_
    obtain ⟨x4, hx4, h⟩ := Option.bind_eq_some_iff.mp h
    refine xr_opA (pc' := 34) (lo' := [some (.ref v0), some (.ref v1), some (.long v2), none, some (.int v4)]) (st' := [.long v2]) (o := ldFR μ v1 5 5) rfl hx4 ?_
    refine xr_go 1 (pc' := 36) (lo' := [some (.ref v0), some (.ref v1), some (.long v2), none, some (.int v4)]) (st' := [.int v4, .ref x4, .long v2]) (μ' := μ) rfl ?_
    obtain ⟨x5, hx5, h⟩ := Option.bind_eq_some_iff.mp h
    refine xr_opI (pc' := 37) (lo' := [some (.ref v0), some (.ref v1), some (.long v2), none, some (.int v4)]) (st' := [.long v2]) (o := ldA μ x4 v4) rfl hx5 ?_
    refine xr_go 1 (pc' := 38) (lo' := [some (.ref v0), some (.ref v1), some (.long v2), none, some (.int v4)]) (st' := [.ref v0, .int x5, .long v2]) (μ' := μ) rfl ?_
    obtain ⟨x6, hx6, h⟩ := Option.bind_eq_some_iff.mp h
    refine xr_opA (pc' := 41) (lo' := [some (.ref v0), some (.ref v1), some (.long v2), none, some (.int v4)]) (st' := [.int x5, .long v2]) (o := ldFR μ v0 5 5) rfl hx6 ?_
    refine xr_go 1 (pc' := 43) (lo' := [some (.ref v0), some (.ref v1), some (.long v2), none, some (.int v4)]) (st' := [.int v4, .ref x6, .int x5, .long v2]) (μ' := μ) rfl ?_
    obtain ⟨x7, hx7, h⟩ := Option.bind_eq_some_iff.mp h
    refine xr_opI (pc' := 44) (lo' := [some (.ref v0), some (.ref v1), some (.long v2), none, some (.int v4)]) (st' := [.int x5, .long v2]) (o := ldA μ x6 v4) rfl hx7 ?_
    obtain ⟨r8, hr8, h⟩ := Option.bind_eq_some_iff.mp h
    refine xr_callS (j := 74) (d' := (d + 8)) (rv1 := some (.long r8)) (μ1 := μ) (rest := []) (As := [.long v2, .int x5, .int x7]) rfl rfl rfl rfl (Nat.le_of_ble_eq_true rfl) rfl (by exact (fL_lead_ok (d := d + (7)) hr8)) ?_
    refine xr_go 3 (pc' := 20) (lo' := [some (.ref v0), some (.ref v1), some (.long r8), none, some (.int (v4 + xc 1))]) (st' := []) (μ' := μ) rfl ?_
    refine xr_forget (lo := [some (.ref v0), some (.ref v1), some (.long r8), none, some (.int (v4 + xc 1))]) ⟨rfl, rfl, rfl, rfl, trivial⟩ ?_
    have ho := Option.some.inj h
    subst ho
    exact hK
theorem fL_isWithin_L20_lp {d : Nat} {v0 : Nat} {v1 : Nat} {v2 : Int64} {v4 : Int32} {μ : xM} {rv : Option Value} {μf : xM} {out : Int32} (h : xwh (fun s : Int64 × Int32 => fL_isWithin_L20 v0 v1 s.1 s.2 μ) (v2, v4) = some out) (hK : fL_isWithin_K μ rv μf out) : xRun (d + 9) 71 20 [some (.ref v0), some (.ref v1), some (.long v2), none, some (.int v4)] [] μ rv μf :=
  xwh_ind (Rh := fun s : Int64 × Int32 => xRun (d + 9) 71 20 [some (.ref v0), some (.ref v1), some (.long s.1), none, some (.int s.2)] [] μ rv μf) (Co := fL_isWithin_K μ rv μf) (fun s o hb hk => fL_isWithin_L20_ok hb hk) h hK
noncomputable def fL_isWithin_0  (v0 : Nat) (v1 : Nat) (μ : xM) : Option (Int32) := (ldF μ v0 5 4).bind fun x9 => (ldF μ v1 5 4).bind fun x10 => if x9 = x10 then (xwh (fun s : Int64 × Int32 => fL_isWithin_L20 v0 v1 s.1 s.2 μ) (Int64.ofNat 34359737376, xc 0)) else (some (xc 0))
theorem fL_isWithin_0_ok {d : Nat} {v0 : Nat} {v1 : Nat} {μ : xM} {rv : Option Value} {μf : xM} {out : Int32} (h : fL_isWithin_0 v0 v1 μ = some out) (hK : fL_isWithin_K μ rv μf out) : xRun (d + 9) 71 0 [some (.ref v0), some (.ref v1), none, none, none] [] μ rv μf := by
  unfold fL_isWithin_0 at h
  refine xr_go 1 (pc' := 1) (lo' := [some (.ref v0), some (.ref v1), none, none, none]) (st' := [.ref v0]) (μ' := μ) rfl ?_
  obtain ⟨x9, hx9, h⟩ := Option.bind_eq_some_iff.mp h
  refine xr_opI (pc' := 4) (lo' := [some (.ref v0), some (.ref v1), none, none, none]) (st' := []) (o := ldF μ v0 5 4) rfl hx9 ?_
  refine xr_go 1 (pc' := 5) (lo' := [some (.ref v0), some (.ref v1), none, none, none]) (st' := [.ref v1, .int x9]) (μ' := μ) rfl ?_
  obtain ⟨x10, hx10, h⟩ := Option.bind_eq_some_iff.mp h
  refine xr_opI (pc' := 8) (lo' := [some (.ref v0), some (.ref v1), none, none, none]) (st' := [.int x9]) (o := ldF μ v1 5 4) rfl hx10 ?_
  refine xr_icmp (pct := 13) rfl rfl rfl (fun hc => ?_) (fun hc => ?_)
  · replace h := (if_pos (of_decide_eq_true hc)).symm.trans h
    refine xr_go 4 (pc' := 20) (lo' := [some (.ref v0), some (.ref v1), some (.long (Int64.ofNat 34359737376)), none, some (.int (xc 0))]) (st' := []) (μ' := μ) rfl ?_
    refine xr_forget (lo := [some (.ref v0), some (.ref v1), some (.long (Int64.ofNat 34359737376)), none, some (.int (xc 0))]) ⟨rfl, rfl, rfl, rfl, trivial⟩ ?_
    exact fL_isWithin_L20_lp h hK
  · replace h := (if_neg (of_decide_eq_false hc)).symm.trans h
    refine xr_go 1 (pc' := 12) (lo' := [some (.ref v0), some (.ref v1), none, none, none]) (st' := [.int (xc 0)]) (μ' := μ) rfl ?_
    have ho := Option.some.inj h
    subst ho
    obtain ⟨rfl, rfl⟩ := hK
    exact xr_ret (rv := some (.int (xc 0))) rfl rfl (Or.inr ⟨rfl, Or.inl rfl⟩)
noncomputable def fL_isWithin (a0 : Nat) (a1 : Nat) (μ : xM) : Option (Int32) := fL_isWithin_0 a0 a1 μ
theorem fL_isWithin_ok {d : Nat} {a0 : Nat} {a1 : Nat} {μ : xM} {o : Int32} (h : fL_isWithin a0 a1 μ = some o) : xRun (d + 9) 71 0 [some (.ref a0), some (.ref a1), none, none, none] [] μ (some (.int o)) μ :=
  xr_forget (lo := [some (.ref a0), some (.ref a1), none, none, none]) (⟨rfl, rfl, trivial⟩) (fL_isWithin_0_ok (d := d) h (show fL_isWithin_K μ _ _ o from ⟨rfl, rfl⟩))
-- KeptAnswers.liesWithin(II)Z 
def fX_liesWithin_K (rv : Option Value) (μf : xM) : (Int32 × xM) → Prop := fun o => rv = some (.int o.1) ∧ μf = o.2
noncomputable def fX_liesWithin_0  (v0 : Nat) (v1 : Int32) (v2 : Int32) (μ : xM) : Option (Int32 × xM) := (fX_seen v0 v1 μ).bind fun r1 => (ldFR r1.2 r1.1 6 0).bind fun x2 => (ldFR r1.2 v0 0 0).bind fun x3 => (ldFR r1.2 x3 3 8).bind fun x4 => (ldAR r1.2 x4 v2).bind fun x5 => (fL_isWithin x2 x5 r1.2).bind fun r6 => if r6 = 0 ∨ r6 = 1 then some ((r6, r1.2)) else none
theorem fX_liesWithin_0_ok {d : Nat} {v0 : Nat} {v1 : Int32} {v2 : Int32} {μ : xM} {rv : Option Value} {μf : xM} {out : Int32 × xM} (h : fX_liesWithin_0 v0 v1 v2 μ = some out) (hK : fX_liesWithin_K rv μf out) : xRun (d + 12) 49 0 [some (.ref v0), some (.int v1), some (.int v2)] [] μ rv μf := by
  unfold fX_liesWithin_0 at h
  refine xr_go 2 (pc' := 2) (lo' := [some (.ref v0), some (.int v1), some (.int v2)]) (st' := [.int v1, .ref v0]) (μ' := μ) rfl ?_
  obtain ⟨r1, hr1, h⟩ := Option.bind_eq_some_iff.mp h
  refine xr_callV (j := 47) (d' := (d + 11)) (rv1 := some (.ref r1.1)) (μ1 := r1.2) (rest := []) (As := [.int v1]) rfl rfl rfl rfl (Nat.le_of_ble_eq_true rfl) (fX_seen_kd hr1) rfl (by exact (fX_seen_ok (d := d + (0)) hr1)) ?_
  obtain ⟨x2, hx2, h⟩ := Option.bind_eq_some_iff.mp h
  refine xr_opA (pc' := 8) (lo' := [some (.ref v0), some (.int v1), some (.int v2)]) (st' := []) (o := ldFR r1.2 r1.1 6 0) rfl hx2 ?_
  refine xr_go 1 (pc' := 9) (lo' := [some (.ref v0), some (.int v1), some (.int v2)]) (st' := [.ref v0, .ref x2]) (μ' := r1.2) rfl ?_
  obtain ⟨x3, hx3, h⟩ := Option.bind_eq_some_iff.mp h
  refine xr_opA (pc' := 12) (lo' := [some (.ref v0), some (.int v1), some (.int v2)]) (st' := [.ref x2]) (o := ldFR r1.2 v0 0 0) rfl hx3 ?_
  obtain ⟨x4, hx4, h⟩ := Option.bind_eq_some_iff.mp h
  refine xr_opA (pc' := 15) (lo' := [some (.ref v0), some (.int v1), some (.int v2)]) (st' := [.ref x2]) (o := ldFR r1.2 x3 3 8) rfl hx4 ?_
  refine xr_go 1 (pc' := 16) (lo' := [some (.ref v0), some (.int v1), some (.int v2)]) (st' := [.int v2, .ref x4, .ref x2]) (μ' := r1.2) rfl ?_
  obtain ⟨x5, hx5, h⟩ := Option.bind_eq_some_iff.mp h
  refine xr_opA (pc' := 17) (lo' := [some (.ref v0), some (.int v1), some (.int v2)]) (st' := [.ref x2]) (o := ldAR r1.2 x4 v2) rfl hx5 ?_
  obtain ⟨r6, hr6, h⟩ := Option.bind_eq_some_iff.mp h
  refine xr_callS (j := 71) (d' := (d + 11)) (rv1 := some (.int r6)) (μ1 := r1.2) (rest := []) (As := [.ref x2, .ref x5]) rfl rfl rfl rfl (Nat.le_of_ble_eq_true rfl) rfl (by exact (fL_isWithin_ok (d := d + (2)) hr6)) ?_
  obtain ⟨hb, h⟩ := xifO h
  have ho := Option.some.inj h
  subst ho
  obtain ⟨rfl, rfl⟩ := hK
  exact xr_ret (rv := some (.int r6)) rfl rfl (Or.inr ⟨rfl, hb⟩)
noncomputable def fX_liesWithin (a0 : Nat) (a1 : Int32) (a2 : Int32) (μ : xM) : Option (Int32 × xM) := xgd μ a0 0 (fX_liesWithin_0 a0 a1 a2 μ)
theorem fX_liesWithin_kd {a0 : Nat} {a1 : Int32} {a2 : Int32} {μ : xM} {o : Int32 × xM} (h : fX_liesWithin a0 a1 a2 μ = some o) : (xK μ a0).1 = 10 + 0 := (xgd_some h).1
theorem fX_liesWithin_ok {d : Nat} {a0 : Nat} {a1 : Int32} {a2 : Int32} {μ : xM} {o : Int32 × xM} (h : fX_liesWithin a0 a1 a2 μ = some o) : xRun (d + 12) 49 0 [some (.ref a0), some (.int a1), some (.int a2)] [] μ (some (.int o.1)) o.2 :=
  xr_forget (lo := [some (.ref a0), some (.int a1), some (.int a2)]) (⟨rfl, rfl, rfl, trivial⟩) (fX_liesWithin_0_ok (d := d) (xgd_some h).2 (show fX_liesWithin_K _ _ o from ⟨rfl, rfl⟩))
-- KeptAnswers.within(II)I 
def fX_within_K (rv : Option Value) (μf : xM) : (Int32 × xM) → Prop := fun o => rv = some (.int o.1) ∧ μf = o.2
noncomputable def fX_within_16  (v0 : Nat) (μ : xM) : Option (Int32 × xM) := (fX_refuse v0 (xc (-1)) μ).bind fun r1 => some ((r1.1, r1.2))
theorem fX_within_16_ok {d : Nat} {v0 : Nat} {μ : xM} {rv : Option Value} {μf : xM} {out : Int32 × xM} (h : fX_within_16 v0 μ = some out) (hK : fX_within_K rv μf out) : xRun (d + 13) 14 16 [some (.ref v0), none, none] [] μ rv μf := by
  unfold fX_within_16 at h
  refine xr_go 2 (pc' := 18) (lo' := [some (.ref v0), none, none]) (st' := [.int (xc (-1)), .ref v0]) (μ' := μ) rfl ?_
  obtain ⟨r1, hr1, h⟩ := Option.bind_eq_some_iff.mp h
  refine xr_callV (j := 37) (d' := (d + 12)) (rv1 := some (.int r1.1)) (μ1 := r1.2) (rest := []) (As := [.int (xc (-1))]) rfl rfl rfl rfl (Nat.le_of_ble_eq_true rfl) (fX_refuse_kd hr1) rfl (by exact (fX_refuse_ok (d := d + (12)) hr1)) ?_
  have ho := Option.some.inj h
  subst ho
  obtain ⟨rfl, rfl⟩ := hK
  exact xr_ret (rv := some (.int r1.1)) rfl rfl (Or.inl rfl)
noncomputable def fX_within_0  (v0 : Nat) (v1 : Int32) (v2 : Int32) (μ : xM) : Option (Int32 × xM) := (fX_isAsk v0 v1 μ).bind fun r2 => if r2 = 0 then (fX_within_16 v0 μ) else ((fX_isAsk v0 v2 μ).bind fun r3 => if r3 = 0 then (fX_within_16 v0 μ) else ((fX_liesWithin v0 v1 v2 μ).bind fun r4 => if r4.1 = 0 then (some ((xc 0, r4.2))) else (some ((xc 1, r4.2)))))
theorem fX_within_0_ok {d : Nat} {v0 : Nat} {v1 : Int32} {v2 : Int32} {μ : xM} {rv : Option Value} {μf : xM} {out : Int32 × xM} (h : fX_within_0 v0 v1 v2 μ = some out) (hK : fX_within_K rv μf out) : xRun (d + 13) 14 0 [some (.ref v0), some (.int v1), some (.int v2)] [] μ rv μf := by
  unfold fX_within_0 at h
  refine xr_go 2 (pc' := 2) (lo' := [some (.ref v0), some (.int v1), some (.int v2)]) (st' := [.int v1, .ref v0]) (μ' := μ) rfl ?_
  obtain ⟨r2, hr2, h⟩ := Option.bind_eq_some_iff.mp h
  refine xr_callV (j := 39) (d' := (d + 12)) (rv1 := some (.int r2)) (μ1 := μ) (rest := []) (As := [.int v1]) rfl rfl rfl rfl (Nat.le_of_ble_eq_true rfl) (fX_isAsk_kd hr2) rfl (by exact (fX_isAsk_ok (d := d + (12)) hr2)) ?_
  refine xr_ifc (pct := 16) rfl rfl rfl (fun hc => ?_) (fun hc => ?_)
  · replace h := (if_pos (of_decide_eq_true hc)).symm.trans h
    refine xr_forget (lo := [some (.ref v0), none, none]) ⟨rfl, trivial⟩ ?_
    exact fX_within_16_ok h hK
  · replace h := (if_neg (of_decide_eq_false hc)).symm.trans h
    refine xr_go 2 (pc' := 10) (lo' := [some (.ref v0), some (.int v1), some (.int v2)]) (st' := [.int v2, .ref v0]) (μ' := μ) rfl ?_
    obtain ⟨r3, hr3, h⟩ := Option.bind_eq_some_iff.mp h
    refine xr_callV (j := 39) (d' := (d + 12)) (rv1 := some (.int r3)) (μ1 := μ) (rest := []) (As := [.int v2]) rfl rfl rfl rfl (Nat.le_of_ble_eq_true rfl) (fX_isAsk_kd hr3) rfl (by exact (fX_isAsk_ok (d := d + (12)) hr3)) ?_
    refine xr_ifc (pct := 22) rfl rfl rfl (fun hc => ?_) (fun hc => ?_)
    · replace h := (if_neg (of_decide_eq_true hc)).symm.trans h
      refine xr_go 3 (pc' := 25) (lo' := [some (.ref v0), some (.int v1), some (.int v2)]) (st' := [.int v2, .int v1, .ref v0]) (μ' := μ) rfl ?_
      obtain ⟨r4, hr4, h⟩ := Option.bind_eq_some_iff.mp h
      refine xr_callV (j := 49) (d' := (d + 12)) (rv1 := some (.int r4.1)) (μ1 := r4.2) (rest := []) (As := [.int v1, .int v2]) rfl rfl rfl rfl (Nat.le_of_ble_eq_true rfl) (fX_liesWithin_kd hr4) rfl (by exact (fX_liesWithin_ok (d := d + (0)) hr4)) ?_
      refine xr_ifc (pct := 35) rfl rfl rfl (fun hc => ?_) (fun hc => ?_)
      · replace h := (if_pos (of_decide_eq_true hc)).symm.trans h
        refine xr_go 1 (pc' := 36) (lo' := [some (.ref v0), some (.int v1), some (.int v2)]) (st' := [.int (xc 0)]) (μ' := r4.2) rfl ?_
        have ho := Option.some.inj h
        subst ho
        obtain ⟨rfl, rfl⟩ := hK
        exact xr_ret (rv := some (.int (xc 0))) rfl rfl (Or.inl rfl)
      · replace h := (if_neg (of_decide_eq_false hc)).symm.trans h
        refine xr_go 2 (pc' := 36) (lo' := [some (.ref v0), some (.int v1), some (.int v2)]) (st' := [.int (xc 1)]) (μ' := r4.2) rfl ?_
        have ho := Option.some.inj h
        subst ho
        obtain ⟨rfl, rfl⟩ := hK
        exact xr_ret (rv := some (.int (xc 1))) rfl rfl (Or.inl rfl)
    · replace h := (if_pos (Decidable.of_not_not (of_decide_eq_false hc))).symm.trans h
      refine xr_forget (lo := [some (.ref v0), none, none]) ⟨rfl, trivial⟩ ?_
      exact fX_within_16_ok h hK
noncomputable def fX_within (a0 : Nat) (a1 : Int32) (a2 : Int32) (μ : xM) : Option (Int32 × xM) := xgd μ a0 0 (fX_within_0 a0 a1 a2 μ)
theorem fX_within_kd {a0 : Nat} {a1 : Int32} {a2 : Int32} {μ : xM} {o : Int32 × xM} (h : fX_within a0 a1 a2 μ = some o) : (xK μ a0).1 = 10 + 0 := (xgd_some h).1
theorem fX_within_ok {d : Nat} {a0 : Nat} {a1 : Int32} {a2 : Int32} {μ : xM} {o : Int32 × xM} (h : fX_within a0 a1 a2 μ = some o) : xRun (d + 13) 14 0 [some (.ref a0), some (.int a1), some (.int a2)] [] μ (some (.int o.1)) o.2 :=
  xr_forget (lo := [some (.ref a0), some (.int a1), some (.int a2)]) (⟨rfl, rfl, rfl, trivial⟩) (fX_within_0_ok (d := d) (xgd_some h).2 (show fX_within_K _ _ o from ⟨rfl, rfl⟩))
-- KeptAnswersModel.agree(II)Z 
def fM_agree_K (rv : Option Value) (μf : xM) : (Int32 × xM) → Prop := fun o => rv = some (.int o.1) ∧ μf = o.2
def fM_agree_K32 (v0 : Nat) (v1 : Int32) (v2 : Int32) (d : Nat) (rv : Option Value) (μf : xM) : ((Int32 × xM) ⊕ (Int32 × xM)) → Prop := Sum.elim (fun s : Int32 × xM => xRun (d + 0) 174 32 [some (.ref v0), some (.int v1), some (.int v2), some (.int s.1), none, none] [] s.2 rv μf) (fM_agree_K rv μf)
def fM_agree_K2 (v0 : Nat) (v1 : Int32) (v2 : Int32) (d : Nat) (rv : Option Value) (μf : xM) : ((Int32 × xM) ⊕ (Int32 × xM)) → Prop := Sum.elim (fun s : Int32 × xM => xRun (d + 0) 174 2 [some (.ref v0), some (.int v1), some (.int v2), some (.int s.1), none, none] [] s.2 rv μf) (fM_agree_K rv μf)
noncomputable def fM_agree_193  (μ : xM) : Option (Int32 × xM) := some ((xc 1, μ))
theorem fM_agree_193_ok {d : Nat} {μ : xM} {rv : Option Value} {μf : xM} {out : Int32 × xM} (h : fM_agree_193 μ = some out) (hK : fM_agree_K rv μf out) : xRun (d + 0) 174 193 [none, none, none, none, none, none] [] μ rv μf := by
  unfold fM_agree_193 at h
  refine xr_go 1 (pc' := 194) (lo' := [none, none, none, none, none, none]) (st' := [.int (xc 1)]) (μ' := μ) rfl ?_
  have ho := Option.some.inj h
  subst ho
  obtain ⟨rfl, rfl⟩ := hK
  exact xr_ret (rv := some (.int (xc 1))) rfl rfl (Or.inr ⟨rfl, Or.inr rfl⟩)
noncomputable def fM_agree_168  (v0 : Nat) (v1 : Int32) (v2 : Int32) (v3 : Int32) (v4 : Int32) (v5 : Int32) (μ : xM) : Option ((Int32 × xM) ⊕ (Int32 × xM)) := (ldFR μ v0 9 38).bind fun x1 => (ldFR μ v0 9 13).bind fun x2 => (ldA μ x2 v4).bind fun x3 => (ldFR μ v0 9 32).bind fun x4 => (ldA μ x4 v5).bind fun x5 => (stA μ x1 x3 x5).bind fun μ6 => some (.inl ((v3 + xc 1, μ6)))
theorem fM_agree_168_ok {d : Nat} {v0 : Nat} {v1 : Int32} {v2 : Int32} {v3 : Int32} {v4 : Int32} {v5 : Int32} {μ : xM} {rv : Option Value} {μf : xM} {out : (Int32 × xM) ⊕ (Int32 × xM)} (h : fM_agree_168 v0 v1 v2 v3 v4 v5 μ = some out) (hK : fM_agree_K32 v0 v1 v2 d rv μf out) : xRun (d + 0) 174 168 [some (.ref v0), some (.int v1), some (.int v2), some (.int v3), some (.int v4), some (.int v5)] [] μ rv μf := by
  unfold fM_agree_168 at h
  refine xr_go 1 (pc' := 169) (lo' := [some (.ref v0), some (.int v1), some (.int v2), some (.int v3), some (.int v4), some (.int v5)]) (st' := [.ref v0]) (μ' := μ) rfl ?_
  obtain ⟨x1, hx1, h⟩ := Option.bind_eq_some_iff.mp h
  refine xr_opA (pc' := 172) (lo' := [some (.ref v0), some (.int v1), some (.int v2), some (.int v3), some (.int v4), some (.int v5)]) (st' := []) (o := ldFR μ v0 9 38) rfl hx1 ?_
  refine xr_go 1 (pc' := 173) (lo' := [some (.ref v0), some (.int v1), some (.int v2), some (.int v3), some (.int v4), some (.int v5)]) (st' := [.ref v0, .ref x1]) (μ' := μ) rfl ?_
  obtain ⟨x2, hx2, h⟩ := Option.bind_eq_some_iff.mp h
  refine xr_opA (pc' := 176) (lo' := [some (.ref v0), some (.int v1), some (.int v2), some (.int v3), some (.int v4), some (.int v5)]) (st' := [.ref x1]) (o := ldFR μ v0 9 13) rfl hx2 ?_
  refine xr_go 1 (pc' := 178) (lo' := [some (.ref v0), some (.int v1), some (.int v2), some (.int v3), some (.int v4), some (.int v5)]) (st' := [.int v4, .ref x2, .ref x1]) (μ' := μ) rfl ?_
  obtain ⟨x3, hx3, h⟩ := Option.bind_eq_some_iff.mp h
  refine xr_opI (pc' := 179) (lo' := [some (.ref v0), some (.int v1), some (.int v2), some (.int v3), some (.int v4), some (.int v5)]) (st' := [.ref x1]) (o := ldA μ x2 v4) rfl hx3 ?_
  refine xr_go 1 (pc' := 180) (lo' := [some (.ref v0), some (.int v1), some (.int v2), some (.int v3), some (.int v4), some (.int v5)]) (st' := [.ref v0, .int x3, .ref x1]) (μ' := μ) rfl ?_
  obtain ⟨x4, hx4, h⟩ := Option.bind_eq_some_iff.mp h
  refine xr_opA (pc' := 183) (lo' := [some (.ref v0), some (.int v1), some (.int v2), some (.int v3), some (.int v4), some (.int v5)]) (st' := [.int x3, .ref x1]) (o := ldFR μ v0 9 32) rfl hx4 ?_
  refine xr_go 1 (pc' := 185) (lo' := [some (.ref v0), some (.int v1), some (.int v2), some (.int v3), some (.int v4), some (.int v5)]) (st' := [.int v5, .ref x4, .int x3, .ref x1]) (μ' := μ) rfl ?_
  obtain ⟨x5, hx5, h⟩ := Option.bind_eq_some_iff.mp h
  refine xr_opI (pc' := 186) (lo' := [some (.ref v0), some (.int v1), some (.int v2), some (.int v3), some (.int v4), some (.int v5)]) (st' := [.int x3, .ref x1]) (o := ldA μ x4 v5) rfl hx5 ?_
  obtain ⟨μ6, hμ6, h⟩ := Option.bind_eq_some_iff.mp h
  refine xr_opM (pc' := 187) (lo' := [some (.ref v0), some (.int v1), some (.int v2), some (.int v3), some (.int v4), some (.int v5)]) (st' := []) (o := stA μ x1 x3 x5) rfl hμ6 ?_
  refine xr_go 2 (pc' := 32) (lo' := [some (.ref v0), some (.int v1), some (.int v2), some (.int (v3 + xc 1)), some (.int v4), some (.int v5)]) (st' := []) (μ' := μ6) rfl ?_
  refine xr_forget (lo := [some (.ref v0), some (.int v1), some (.int v2), some (.int (v3 + xc 1)), none, none]) ⟨rfl, rfl, rfl, rfl, trivial⟩ ?_
  have ho := Option.some.inj h
  subst ho
  exact hK
noncomputable def fM_agree_166  (μ : xM) : Option (Int32 × xM) := some ((xc 0, μ))
theorem fM_agree_166_ok {d : Nat} {μ : xM} {rv : Option Value} {μf : xM} {out : Int32 × xM} (h : fM_agree_166 μ = some out) (hK : fM_agree_K rv μf out) : xRun (d + 0) 174 166 [none, none, none, none, none, none] [] μ rv μf := by
  unfold fM_agree_166 at h
  refine xr_go 1 (pc' := 167) (lo' := [none, none, none, none, none, none]) (st' := [.int (xc 0)]) (μ' := μ) rfl ?_
  have ho := Option.some.inj h
  subst ho
  obtain ⟨rfl, rfl⟩ := hK
  exact xr_ret (rv := some (.int (xc 0))) rfl rfl (Or.inr ⟨rfl, Or.inl rfl⟩)
noncomputable def fM_agree_110  (v0 : Nat) (v1 : Int32) (v2 : Int32) (v3 : Int32) (v4 : Int32) (v5 : Int32) (μ : xM) : Option ((Int32 × xM) ⊕ (Int32 × xM)) := (ldFR μ v0 9 38).bind fun x7 => (ldFR μ v0 9 12).bind fun x8 => (ldA μ x8 v4).bind fun x9 => (ldFR μ v0 9 31).bind fun x10 => (ldA μ x10 v5).bind fun x11 => (stA μ x7 x9 x11).bind fun μ12 => (ldFR μ12 v0 9 38).bind fun x13 => (ldFR μ12 v0 9 13).bind fun x14 => (ldA μ12 x14 v4).bind fun x15 => (ldA μ12 x13 x15).bind fun x16 => if x16 < 0 then (fM_agree_168 v0 v1 v2 v3 v4 v5 μ12) else ((ldFR μ12 v0 9 38).bind fun x17 => (ldFR μ12 v0 9 13).bind fun x18 => (ldA μ12 x18 v4).bind fun x19 => (ldA μ12 x17 x19).bind fun x20 => (ldFR μ12 v0 9 32).bind fun x21 => (ldA μ12 x21 v5).bind fun x22 => if x20 = x22 then (fM_agree_168 v0 v1 v2 v3 v4 v5 μ12) else ((fM_agree_166 μ12).map (fun o => .inr o)))
theorem fM_agree_110_ok {d : Nat} {v0 : Nat} {v1 : Int32} {v2 : Int32} {v3 : Int32} {v4 : Int32} {v5 : Int32} {μ : xM} {rv : Option Value} {μf : xM} {out : (Int32 × xM) ⊕ (Int32 × xM)} (h : fM_agree_110 v0 v1 v2 v3 v4 v5 μ = some out) (hK : fM_agree_K32 v0 v1 v2 d rv μf out) : xRun (d + 0) 174 110 [some (.ref v0), some (.int v1), some (.int v2), some (.int v3), some (.int v4), some (.int v5)] [] μ rv μf := by
  unfold fM_agree_110 at h
  refine xr_go 1 (pc' := 111) (lo' := [some (.ref v0), some (.int v1), some (.int v2), some (.int v3), some (.int v4), some (.int v5)]) (st' := [.ref v0]) (μ' := μ) rfl ?_
  obtain ⟨x7, hx7, h⟩ := Option.bind_eq_some_iff.mp h
  refine xr_opA (pc' := 114) (lo' := [some (.ref v0), some (.int v1), some (.int v2), some (.int v3), some (.int v4), some (.int v5)]) (st' := []) (o := ldFR μ v0 9 38) rfl hx7 ?_
  refine xr_go 1 (pc' := 115) (lo' := [some (.ref v0), some (.int v1), some (.int v2), some (.int v3), some (.int v4), some (.int v5)]) (st' := [.ref v0, .ref x7]) (μ' := μ) rfl ?_
  obtain ⟨x8, hx8, h⟩ := Option.bind_eq_some_iff.mp h
  refine xr_opA (pc' := 118) (lo' := [some (.ref v0), some (.int v1), some (.int v2), some (.int v3), some (.int v4), some (.int v5)]) (st' := [.ref x7]) (o := ldFR μ v0 9 12) rfl hx8 ?_
  refine xr_go 1 (pc' := 120) (lo' := [some (.ref v0), some (.int v1), some (.int v2), some (.int v3), some (.int v4), some (.int v5)]) (st' := [.int v4, .ref x8, .ref x7]) (μ' := μ) rfl ?_
  obtain ⟨x9, hx9, h⟩ := Option.bind_eq_some_iff.mp h
  refine xr_opI (pc' := 121) (lo' := [some (.ref v0), some (.int v1), some (.int v2), some (.int v3), some (.int v4), some (.int v5)]) (st' := [.ref x7]) (o := ldA μ x8 v4) rfl hx9 ?_
  refine xr_go 1 (pc' := 122) (lo' := [some (.ref v0), some (.int v1), some (.int v2), some (.int v3), some (.int v4), some (.int v5)]) (st' := [.ref v0, .int x9, .ref x7]) (μ' := μ) rfl ?_
  obtain ⟨x10, hx10, h⟩ := Option.bind_eq_some_iff.mp h
  refine xr_opA (pc' := 125) (lo' := [some (.ref v0), some (.int v1), some (.int v2), some (.int v3), some (.int v4), some (.int v5)]) (st' := [.int x9, .ref x7]) (o := ldFR μ v0 9 31) rfl hx10 ?_
  refine xr_go 1 (pc' := 127) (lo' := [some (.ref v0), some (.int v1), some (.int v2), some (.int v3), some (.int v4), some (.int v5)]) (st' := [.int v5, .ref x10, .int x9, .ref x7]) (μ' := μ) rfl ?_
  obtain ⟨x11, hx11, h⟩ := Option.bind_eq_some_iff.mp h
  refine xr_opI (pc' := 128) (lo' := [some (.ref v0), some (.int v1), some (.int v2), some (.int v3), some (.int v4), some (.int v5)]) (st' := [.int x9, .ref x7]) (o := ldA μ x10 v5) rfl hx11 ?_
  obtain ⟨μ12, hμ12, h⟩ := Option.bind_eq_some_iff.mp h
  refine xr_opM (pc' := 129) (lo' := [some (.ref v0), some (.int v1), some (.int v2), some (.int v3), some (.int v4), some (.int v5)]) (st' := []) (o := stA μ x7 x9 x11) rfl hμ12 ?_
  refine xr_go 1 (pc' := 130) (lo' := [some (.ref v0), some (.int v1), some (.int v2), some (.int v3), some (.int v4), some (.int v5)]) (st' := [.ref v0]) (μ' := μ12) rfl ?_
  obtain ⟨x13, hx13, h⟩ := Option.bind_eq_some_iff.mp h
  refine xr_opA (pc' := 133) (lo' := [some (.ref v0), some (.int v1), some (.int v2), some (.int v3), some (.int v4), some (.int v5)]) (st' := []) (o := ldFR μ12 v0 9 38) rfl hx13 ?_
  refine xr_go 1 (pc' := 134) (lo' := [some (.ref v0), some (.int v1), some (.int v2), some (.int v3), some (.int v4), some (.int v5)]) (st' := [.ref v0, .ref x13]) (μ' := μ12) rfl ?_
  obtain ⟨x14, hx14, h⟩ := Option.bind_eq_some_iff.mp h
  refine xr_opA (pc' := 137) (lo' := [some (.ref v0), some (.int v1), some (.int v2), some (.int v3), some (.int v4), some (.int v5)]) (st' := [.ref x13]) (o := ldFR μ12 v0 9 13) rfl hx14 ?_
  refine xr_go 1 (pc' := 139) (lo' := [some (.ref v0), some (.int v1), some (.int v2), some (.int v3), some (.int v4), some (.int v5)]) (st' := [.int v4, .ref x14, .ref x13]) (μ' := μ12) rfl ?_
  obtain ⟨x15, hx15, h⟩ := Option.bind_eq_some_iff.mp h
  refine xr_opI (pc' := 140) (lo' := [some (.ref v0), some (.int v1), some (.int v2), some (.int v3), some (.int v4), some (.int v5)]) (st' := [.ref x13]) (o := ldA μ12 x14 v4) rfl hx15 ?_
  obtain ⟨x16, hx16, h⟩ := Option.bind_eq_some_iff.mp h
  refine xr_opI (pc' := 141) (lo' := [some (.ref v0), some (.int v1), some (.int v2), some (.int v3), some (.int v4), some (.int v5)]) (st' := []) (o := ldA μ12 x13 x15) rfl hx16 ?_
  refine xr_ifc (pct := 168) rfl rfl rfl (fun hc => ?_) (fun hc => ?_)
  · replace h := (if_pos (of_decide_eq_true hc)).symm.trans h
    refine xr_forget (lo := [some (.ref v0), some (.int v1), some (.int v2), some (.int v3), some (.int v4), some (.int v5)]) ⟨rfl, rfl, rfl, rfl, rfl, rfl, trivial⟩ ?_
    exact fM_agree_168_ok h hK
  · replace h := (if_neg (of_decide_eq_false hc)).symm.trans h
    refine xr_go 1 (pc' := 145) (lo' := [some (.ref v0), some (.int v1), some (.int v2), some (.int v3), some (.int v4), some (.int v5)]) (st' := [.ref v0]) (μ' := μ12) rfl ?_
    obtain ⟨x17, hx17, h⟩ := Option.bind_eq_some_iff.mp h
    refine xr_opA (pc' := 148) (lo' := [some (.ref v0), some (.int v1), some (.int v2), some (.int v3), some (.int v4), some (.int v5)]) (st' := []) (o := ldFR μ12 v0 9 38) rfl hx17 ?_
    refine xr_go 1 (pc' := 149) (lo' := [some (.ref v0), some (.int v1), some (.int v2), some (.int v3), some (.int v4), some (.int v5)]) (st' := [.ref v0, .ref x17]) (μ' := μ12) rfl ?_
    obtain ⟨x18, hx18, h⟩ := Option.bind_eq_some_iff.mp h
    refine xr_opA (pc' := 152) (lo' := [some (.ref v0), some (.int v1), some (.int v2), some (.int v3), some (.int v4), some (.int v5)]) (st' := [.ref x17]) (o := ldFR μ12 v0 9 13) rfl hx18 ?_
    refine xr_go 1 (pc' := 154) (lo' := [some (.ref v0), some (.int v1), some (.int v2), some (.int v3), some (.int v4), some (.int v5)]) (st' := [.int v4, .ref x18, .ref x17]) (μ' := μ12) rfl ?_
    obtain ⟨x19, hx19, h⟩ := Option.bind_eq_some_iff.mp h
    refine xr_opI (pc' := 155) (lo' := [some (.ref v0), some (.int v1), some (.int v2), some (.int v3), some (.int v4), some (.int v5)]) (st' := [.ref x17]) (o := ldA μ12 x18 v4) rfl hx19 ?_
    obtain ⟨x20, hx20, h⟩ := Option.bind_eq_some_iff.mp h
    refine xr_opI (pc' := 156) (lo' := [some (.ref v0), some (.int v1), some (.int v2), some (.int v3), some (.int v4), some (.int v5)]) (st' := []) (o := ldA μ12 x17 x19) rfl hx20 ?_
    refine xr_go 1 (pc' := 157) (lo' := [some (.ref v0), some (.int v1), some (.int v2), some (.int v3), some (.int v4), some (.int v5)]) (st' := [.ref v0, .int x20]) (μ' := μ12) rfl ?_
    obtain ⟨x21, hx21, h⟩ := Option.bind_eq_some_iff.mp h
    refine xr_opA (pc' := 160) (lo' := [some (.ref v0), some (.int v1), some (.int v2), some (.int v3), some (.int v4), some (.int v5)]) (st' := [.int x20]) (o := ldFR μ12 v0 9 32) rfl hx21 ?_
    refine xr_go 1 (pc' := 162) (lo' := [some (.ref v0), some (.int v1), some (.int v2), some (.int v3), some (.int v4), some (.int v5)]) (st' := [.int v5, .ref x21, .int x20]) (μ' := μ12) rfl ?_
    obtain ⟨x22, hx22, h⟩ := Option.bind_eq_some_iff.mp h
    refine xr_opI (pc' := 163) (lo' := [some (.ref v0), some (.int v1), some (.int v2), some (.int v3), some (.int v4), some (.int v5)]) (st' := [.int x20]) (o := ldA μ12 x21 v5) rfl hx22 ?_
    refine xr_icmp (pct := 168) rfl rfl rfl (fun hc => ?_) (fun hc => ?_)
    · replace h := (if_pos (of_decide_eq_true hc)).symm.trans h
      refine xr_forget (lo := [some (.ref v0), some (.int v1), some (.int v2), some (.int v3), some (.int v4), some (.int v5)]) ⟨rfl, rfl, rfl, rfl, rfl, rfl, trivial⟩ ?_
      exact fM_agree_168_ok h hK
    · replace h := (if_neg (of_decide_eq_false hc)).symm.trans h
      refine xr_forget (lo := [none, none, none, none, none, none]) trivial ?_
      obtain ⟨o, h2, rfl⟩ := Option.map_eq_some_iff.mp h
      exact fM_agree_166_ok h2 hK
noncomputable def fM_agree_108  (μ : xM) : Option (Int32 × xM) := some ((xc 0, μ))
theorem fM_agree_108_ok {d : Nat} {μ : xM} {rv : Option Value} {μf : xM} {out : Int32 × xM} (h : fM_agree_108 μ = some out) (hK : fM_agree_K rv μf out) : xRun (d + 0) 174 108 [none, none, none, none, none, none] [] μ rv μf := by
  unfold fM_agree_108 at h
  refine xr_go 1 (pc' := 109) (lo' := [none, none, none, none, none, none]) (st' := [.int (xc 0)]) (μ' := μ) rfl ?_
  have ho := Option.some.inj h
  subst ho
  obtain ⟨rfl, rfl⟩ := hK
  exact xr_ret (rv := some (.int (xc 0))) rfl rfl (Or.inr ⟨rfl, Or.inl rfl⟩)
noncomputable def fM_agree_69  (μ : xM) : Option (Int32 × xM) := some ((xc 0, μ))
theorem fM_agree_69_ok {d : Nat} {μ : xM} {rv : Option Value} {μf : xM} {out : Int32 × xM} (h : fM_agree_69 μ = some out) (hK : fM_agree_K rv μf out) : xRun (d + 0) 174 69 [none, none, none, none, none, none] [] μ rv μf := by
  unfold fM_agree_69 at h
  refine xr_go 1 (pc' := 70) (lo' := [none, none, none, none, none, none]) (st' := [.int (xc 0)]) (μ' := μ) rfl ?_
  have ho := Option.some.inj h
  subst ho
  obtain ⟨rfl, rfl⟩ := hK
  exact xr_ret (rv := some (.int (xc 0))) rfl rfl (Or.inr ⟨rfl, Or.inl rfl⟩)
noncomputable def fM_agree_L32  (v0 : Nat) (v1 : Int32) (v2 : Int32) (v3 : Int32) (μ : xM) : Option ((Int32 × xM) ⊕ (Int32 × xM)) := if v2 ≤ v3 then ((fM_agree_193 μ).map (fun o => .inr o)) else ((ldFR μ v0 9 37).bind fun x23 => (ldA μ x23 v3).bind fun x24 => (ldFR μ v0 9 11).bind fun x25 => (ldA μ x25 (((xc 4) * v1) + v3)).bind fun x26 => (ldFR μ v0 9 30).bind fun x27 => (ldA μ x27 x24).bind fun x28 => if x26 = x28 then ((ldFR μ v0 9 38).bind fun x29 => (ldFR μ v0 9 12).bind fun x30 => (ldA μ x30 (((xc 4) * v1) + v3)).bind fun x31 => (ldA μ x29 x31).bind fun x32 => if x32 < 0 then (fM_agree_110 v0 v1 v2 v3 (((xc 4) * v1) + v3) x24 μ) else ((ldFR μ v0 9 38).bind fun x33 => (ldFR μ v0 9 12).bind fun x34 => (ldA μ x34 (((xc 4) * v1) + v3)).bind fun x35 => (ldA μ x33 x35).bind fun x36 => (ldFR μ v0 9 31).bind fun x37 => (ldA μ x37 x24).bind fun x38 => if x36 = x38 then (fM_agree_110 v0 v1 v2 v3 (((xc 4) * v1) + v3) x24 μ) else ((fM_agree_108 μ).map (fun o => .inr o)))) else ((fM_agree_69 μ).map (fun o => .inr o)))
theorem fM_agree_L32_ok {d : Nat} {v0 : Nat} {v1 : Int32} {v2 : Int32} {v3 : Int32} {μ : xM} {rv : Option Value} {μf : xM} {out : (Int32 × xM) ⊕ (Int32 × xM)} (h : fM_agree_L32 v0 v1 v2 v3 μ = some out) (hK : fM_agree_K32 v0 v1 v2 d rv μf out) : xRun (d + 0) 174 32 [some (.ref v0), some (.int v1), some (.int v2), some (.int v3), none, none] [] μ rv μf := by
  unfold fM_agree_L32 at h
  refine xr_go 2 (pc' := 34) (lo' := [some (.ref v0), some (.int v1), some (.int v2), some (.int v3), none, none]) (st' := [.int v2, .int v3]) (μ' := μ) rfl ?_
  refine xr_icmp (pct := 193) rfl rfl rfl (fun hc => ?_) (fun hc => ?_)
  · replace h := (if_pos (of_decide_eq_true hc)).symm.trans h
    refine xr_forget (lo := [none, none, none, none, none, none]) trivial ?_
    obtain ⟨o, h2, rfl⟩ := Option.map_eq_some_iff.mp h
    exact fM_agree_193_ok h2 hK
  · replace h := (if_neg (of_decide_eq_false hc)).symm.trans h
    refine xr_go 7 (pc' := 45) (lo' := [some (.ref v0), some (.int v1), some (.int v2), some (.int v3), some (.int (((xc 4) * v1) + v3)), none]) (st' := [.ref v0]) (μ' := μ) rfl ?_
    obtain ⟨x23, hx23, h⟩ := Option.bind_eq_some_iff.mp h
    refine xr_opA (pc' := 48) (lo' := [some (.ref v0), some (.int v1), some (.int v2), some (.int v3), some (.int (((xc 4) * v1) + v3)), none]) (st' := []) (o := ldFR μ v0 9 37) rfl hx23 ?_
    refine xr_go 1 (pc' := 49) (lo' := [some (.ref v0), some (.int v1), some (.int v2), some (.int v3), some (.int (((xc 4) * v1) + v3)), none]) (st' := [.int v3, .ref x23]) (μ' := μ) rfl ?_
    obtain ⟨x24, hx24, h⟩ := Option.bind_eq_some_iff.mp h
    refine xr_opI (pc' := 50) (lo' := [some (.ref v0), some (.int v1), some (.int v2), some (.int v3), some (.int (((xc 4) * v1) + v3)), none]) (st' := []) (o := ldA μ x23 v3) rfl hx24 ?_
    refine xr_go 2 (pc' := 53) (lo' := [some (.ref v0), some (.int v1), some (.int v2), some (.int v3), some (.int (((xc 4) * v1) + v3)), some (.int x24)]) (st' := [.ref v0]) (μ' := μ) rfl ?_
    obtain ⟨x25, hx25, h⟩ := Option.bind_eq_some_iff.mp h
    refine xr_opA (pc' := 56) (lo' := [some (.ref v0), some (.int v1), some (.int v2), some (.int v3), some (.int (((xc 4) * v1) + v3)), some (.int x24)]) (st' := []) (o := ldFR μ v0 9 11) rfl hx25 ?_
    refine xr_go 1 (pc' := 58) (lo' := [some (.ref v0), some (.int v1), some (.int v2), some (.int v3), some (.int (((xc 4) * v1) + v3)), some (.int x24)]) (st' := [.int (((xc 4) * v1) + v3), .ref x25]) (μ' := μ) rfl ?_
    obtain ⟨x26, hx26, h⟩ := Option.bind_eq_some_iff.mp h
    refine xr_opI (pc' := 59) (lo' := [some (.ref v0), some (.int v1), some (.int v2), some (.int v3), some (.int (((xc 4) * v1) + v3)), some (.int x24)]) (st' := []) (o := ldA μ x25 (((xc 4) * v1) + v3)) rfl hx26 ?_
    refine xr_go 1 (pc' := 60) (lo' := [some (.ref v0), some (.int v1), some (.int v2), some (.int v3), some (.int (((xc 4) * v1) + v3)), some (.int x24)]) (st' := [.ref v0, .int x26]) (μ' := μ) rfl ?_
    obtain ⟨x27, hx27, h⟩ := Option.bind_eq_some_iff.mp h
    refine xr_opA (pc' := 63) (lo' := [some (.ref v0), some (.int v1), some (.int v2), some (.int v3), some (.int (((xc 4) * v1) + v3)), some (.int x24)]) (st' := [.int x26]) (o := ldFR μ v0 9 30) rfl hx27 ?_
    refine xr_go 1 (pc' := 65) (lo' := [some (.ref v0), some (.int v1), some (.int v2), some (.int v3), some (.int (((xc 4) * v1) + v3)), some (.int x24)]) (st' := [.int x24, .ref x27, .int x26]) (μ' := μ) rfl ?_
    obtain ⟨x28, hx28, h⟩ := Option.bind_eq_some_iff.mp h
    refine xr_opI (pc' := 66) (lo' := [some (.ref v0), some (.int v1), some (.int v2), some (.int v3), some (.int (((xc 4) * v1) + v3)), some (.int x24)]) (st' := [.int x26]) (o := ldA μ x27 x24) rfl hx28 ?_
    refine xr_icmp (pct := 71) rfl rfl rfl (fun hc => ?_) (fun hc => ?_)
    · replace h := (if_pos (of_decide_eq_true hc)).symm.trans h
      refine xr_go 1 (pc' := 72) (lo' := [some (.ref v0), some (.int v1), some (.int v2), some (.int v3), some (.int (((xc 4) * v1) + v3)), some (.int x24)]) (st' := [.ref v0]) (μ' := μ) rfl ?_
      obtain ⟨x29, hx29, h⟩ := Option.bind_eq_some_iff.mp h
      refine xr_opA (pc' := 75) (lo' := [some (.ref v0), some (.int v1), some (.int v2), some (.int v3), some (.int (((xc 4) * v1) + v3)), some (.int x24)]) (st' := []) (o := ldFR μ v0 9 38) rfl hx29 ?_
      refine xr_go 1 (pc' := 76) (lo' := [some (.ref v0), some (.int v1), some (.int v2), some (.int v3), some (.int (((xc 4) * v1) + v3)), some (.int x24)]) (st' := [.ref v0, .ref x29]) (μ' := μ) rfl ?_
      obtain ⟨x30, hx30, h⟩ := Option.bind_eq_some_iff.mp h
      refine xr_opA (pc' := 79) (lo' := [some (.ref v0), some (.int v1), some (.int v2), some (.int v3), some (.int (((xc 4) * v1) + v3)), some (.int x24)]) (st' := [.ref x29]) (o := ldFR μ v0 9 12) rfl hx30 ?_
      refine xr_go 1 (pc' := 81) (lo' := [some (.ref v0), some (.int v1), some (.int v2), some (.int v3), some (.int (((xc 4) * v1) + v3)), some (.int x24)]) (st' := [.int (((xc 4) * v1) + v3), .ref x30, .ref x29]) (μ' := μ) rfl ?_
      obtain ⟨x31, hx31, h⟩ := Option.bind_eq_some_iff.mp h
      refine xr_opI (pc' := 82) (lo' := [some (.ref v0), some (.int v1), some (.int v2), some (.int v3), some (.int (((xc 4) * v1) + v3)), some (.int x24)]) (st' := [.ref x29]) (o := ldA μ x30 (((xc 4) * v1) + v3)) rfl hx31 ?_
      obtain ⟨x32, hx32, h⟩ := Option.bind_eq_some_iff.mp h
      refine xr_opI (pc' := 83) (lo' := [some (.ref v0), some (.int v1), some (.int v2), some (.int v3), some (.int (((xc 4) * v1) + v3)), some (.int x24)]) (st' := []) (o := ldA μ x29 x31) rfl hx32 ?_
      refine xr_ifc (pct := 110) rfl rfl rfl (fun hc => ?_) (fun hc => ?_)
      · replace h := (if_pos (of_decide_eq_true hc)).symm.trans h
        refine xr_forget (lo := [some (.ref v0), some (.int v1), some (.int v2), some (.int v3), some (.int (((xc 4) * v1) + v3)), some (.int x24)]) ⟨rfl, rfl, rfl, rfl, rfl, rfl, trivial⟩ ?_
        exact fM_agree_110_ok h hK
      · replace h := (if_neg (of_decide_eq_false hc)).symm.trans h
        refine xr_go 1 (pc' := 87) (lo' := [some (.ref v0), some (.int v1), some (.int v2), some (.int v3), some (.int (((xc 4) * v1) + v3)), some (.int x24)]) (st' := [.ref v0]) (μ' := μ) rfl ?_
        obtain ⟨x33, hx33, h⟩ := Option.bind_eq_some_iff.mp h
        refine xr_opA (pc' := 90) (lo' := [some (.ref v0), some (.int v1), some (.int v2), some (.int v3), some (.int (((xc 4) * v1) + v3)), some (.int x24)]) (st' := []) (o := ldFR μ v0 9 38) rfl hx33 ?_
        refine xr_go 1 (pc' := 91) (lo' := [some (.ref v0), some (.int v1), some (.int v2), some (.int v3), some (.int (((xc 4) * v1) + v3)), some (.int x24)]) (st' := [.ref v0, .ref x33]) (μ' := μ) rfl ?_
        obtain ⟨x34, hx34, h⟩ := Option.bind_eq_some_iff.mp h
        refine xr_opA (pc' := 94) (lo' := [some (.ref v0), some (.int v1), some (.int v2), some (.int v3), some (.int (((xc 4) * v1) + v3)), some (.int x24)]) (st' := [.ref x33]) (o := ldFR μ v0 9 12) rfl hx34 ?_
        refine xr_go 1 (pc' := 96) (lo' := [some (.ref v0), some (.int v1), some (.int v2), some (.int v3), some (.int (((xc 4) * v1) + v3)), some (.int x24)]) (st' := [.int (((xc 4) * v1) + v3), .ref x34, .ref x33]) (μ' := μ) rfl ?_
        obtain ⟨x35, hx35, h⟩ := Option.bind_eq_some_iff.mp h
        refine xr_opI (pc' := 97) (lo' := [some (.ref v0), some (.int v1), some (.int v2), some (.int v3), some (.int (((xc 4) * v1) + v3)), some (.int x24)]) (st' := [.ref x33]) (o := ldA μ x34 (((xc 4) * v1) + v3)) rfl hx35 ?_
        obtain ⟨x36, hx36, h⟩ := Option.bind_eq_some_iff.mp h
        refine xr_opI (pc' := 98) (lo' := [some (.ref v0), some (.int v1), some (.int v2), some (.int v3), some (.int (((xc 4) * v1) + v3)), some (.int x24)]) (st' := []) (o := ldA μ x33 x35) rfl hx36 ?_
        refine xr_go 1 (pc' := 99) (lo' := [some (.ref v0), some (.int v1), some (.int v2), some (.int v3), some (.int (((xc 4) * v1) + v3)), some (.int x24)]) (st' := [.ref v0, .int x36]) (μ' := μ) rfl ?_
        obtain ⟨x37, hx37, h⟩ := Option.bind_eq_some_iff.mp h
        refine xr_opA (pc' := 102) (lo' := [some (.ref v0), some (.int v1), some (.int v2), some (.int v3), some (.int (((xc 4) * v1) + v3)), some (.int x24)]) (st' := [.int x36]) (o := ldFR μ v0 9 31) rfl hx37 ?_
        refine xr_go 1 (pc' := 104) (lo' := [some (.ref v0), some (.int v1), some (.int v2), some (.int v3), some (.int (((xc 4) * v1) + v3)), some (.int x24)]) (st' := [.int x24, .ref x37, .int x36]) (μ' := μ) rfl ?_
        obtain ⟨x38, hx38, h⟩ := Option.bind_eq_some_iff.mp h
        refine xr_opI (pc' := 105) (lo' := [some (.ref v0), some (.int v1), some (.int v2), some (.int v3), some (.int (((xc 4) * v1) + v3)), some (.int x24)]) (st' := [.int x36]) (o := ldA μ x37 x24) rfl hx38 ?_
        refine xr_icmp (pct := 110) rfl rfl rfl (fun hc => ?_) (fun hc => ?_)
        · replace h := (if_pos (of_decide_eq_true hc)).symm.trans h
          refine xr_forget (lo := [some (.ref v0), some (.int v1), some (.int v2), some (.int v3), some (.int (((xc 4) * v1) + v3)), some (.int x24)]) ⟨rfl, rfl, rfl, rfl, rfl, rfl, trivial⟩ ?_
          exact fM_agree_110_ok h hK
        · replace h := (if_neg (of_decide_eq_false hc)).symm.trans h
          refine xr_forget (lo := [none, none, none, none, none, none]) trivial ?_
          obtain ⟨o, h2, rfl⟩ := Option.map_eq_some_iff.mp h
          exact fM_agree_108_ok h2 hK
    · replace h := (if_neg (of_decide_eq_false hc)).symm.trans h
      refine xr_forget (lo := [none, none, none, none, none, none]) trivial ?_
      obtain ⟨o, h2, rfl⟩ := Option.map_eq_some_iff.mp h
      exact fM_agree_69_ok h2 hK
theorem fM_agree_L32_lp {d : Nat} {v0 : Nat} {v1 : Int32} {v2 : Int32} {v3 : Int32} {μ : xM} {rv : Option Value} {μf : xM} {out : Int32 × xM} (h : xwh (fun s : Int32 × xM => fM_agree_L32 v0 v1 v2 s.1 s.2) (v3, μ) = some out) (hK : fM_agree_K rv μf out) : xRun (d + 0) 174 32 [some (.ref v0), some (.int v1), some (.int v2), some (.int v3), none, none] [] μ rv μf :=
  xwh_ind (Rh := fun s : Int32 × xM => xRun (d + 0) 174 32 [some (.ref v0), some (.int v1), some (.int v2), some (.int s.1), none, none] [] s.2 rv μf) (Co := fM_agree_K rv μf) (fun s o hb hk => fM_agree_L32_ok hb hk) h hK
noncomputable def fM_agree_30  (v0 : Nat) (v1 : Int32) (v2 : Int32) (μ : xM) : Option (Int32 × xM) := xwh (fun s : Int32 × xM => fM_agree_L32 v0 v1 v2 s.1 s.2) (xc 0, μ)
theorem fM_agree_30_ok {d : Nat} {v0 : Nat} {v1 : Int32} {v2 : Int32} {μ : xM} {rv : Option Value} {μf : xM} {out : Int32 × xM} (h : fM_agree_30 v0 v1 v2 μ = some out) (hK : fM_agree_K rv μf out) : xRun (d + 0) 174 30 [some (.ref v0), some (.int v1), some (.int v2), none, none, none] [] μ rv μf := by
  unfold fM_agree_30 at h
  refine xr_go 2 (pc' := 32) (lo' := [some (.ref v0), some (.int v1), some (.int v2), some (.int (xc 0)), none, none]) (st' := []) (μ' := μ) rfl ?_
  refine xr_forget (lo := [some (.ref v0), some (.int v1), some (.int v2), some (.int (xc 0)), none, none]) ⟨rfl, rfl, rfl, rfl, trivial⟩ ?_
  exact fM_agree_L32_lp h hK
noncomputable def fM_agree_23  (v0 : Nat) (v1 : Int32) (v2 : Int32) (v3 : Int32) (s0 : Int32) (s1 : Int32) (s2 : Nat) (μ : xM) : Option ((Int32 × xM) ⊕ (Int32 × xM)) := (stA μ s2 s1 s0).bind fun μ39 => some (.inl ((v3 + xc 1, μ39)))
theorem fM_agree_23_ok {d : Nat} {v0 : Nat} {v1 : Int32} {v2 : Int32} {v3 : Int32} {s0 : Int32} {s1 : Int32} {s2 : Nat} {μ : xM} {rv : Option Value} {μf : xM} {out : (Int32 × xM) ⊕ (Int32 × xM)} (h : fM_agree_23 v0 v1 v2 v3 s0 s1 s2 μ = some out) (hK : fM_agree_K2 v0 v1 v2 d rv μf out) : xRun (d + 0) 174 23 [some (.ref v0), some (.int v1), some (.int v2), some (.int v3), none, none] [.int s0, .int s1, .ref s2] μ rv μf := by
  unfold fM_agree_23 at h
  obtain ⟨μ39, hμ39, h⟩ := Option.bind_eq_some_iff.mp h
  refine xr_opM (pc' := 24) (lo' := [some (.ref v0), some (.int v1), some (.int v2), some (.int v3), none, none]) (st' := []) (o := stA μ s2 s1 s0) rfl hμ39 ?_
  refine xr_go 2 (pc' := 2) (lo' := [some (.ref v0), some (.int v1), some (.int v2), some (.int (v3 + xc 1)), none, none]) (st' := []) (μ' := μ39) rfl ?_
  refine xr_forget (lo := [some (.ref v0), some (.int v1), some (.int v2), some (.int (v3 + xc 1)), none, none]) ⟨rfl, rfl, rfl, rfl, trivial⟩ ?_
  have ho := Option.some.inj h
  subst ho
  exact hK
noncomputable def fM_agree_L2  (v0 : Nat) (v1 : Int32) (v2 : Int32) (v3 : Int32) (μ : xM) : Option ((Int32 × xM) ⊕ (Int32 × xM)) := if (xc 7) ≤ v3 then ((fM_agree_30 v0 v1 v2 μ).map (fun o => .inr o)) else ((ldFR μ v0 9 38).bind fun x40 => if (xc 2) ≤ v3 then (fM_agree_23 v0 v1 v2 v3 (xc (-1)) v3 x40 μ) else (fM_agree_23 v0 v1 v2 v3 v3 v3 x40 μ))
theorem fM_agree_L2_ok {d : Nat} {v0 : Nat} {v1 : Int32} {v2 : Int32} {v3 : Int32} {μ : xM} {rv : Option Value} {μf : xM} {out : (Int32 × xM) ⊕ (Int32 × xM)} (h : fM_agree_L2 v0 v1 v2 v3 μ = some out) (hK : fM_agree_K2 v0 v1 v2 d rv μf out) : xRun (d + 0) 174 2 [some (.ref v0), some (.int v1), some (.int v2), some (.int v3), none, none] [] μ rv μf := by
  unfold fM_agree_L2 at h
  refine xr_go 2 (pc' := 5) (lo' := [some (.ref v0), some (.int v1), some (.int v2), some (.int v3), none, none]) (st' := [.int (xc 7), .int v3]) (μ' := μ) rfl ?_
  refine xr_icmp (pct := 30) rfl rfl rfl (fun hc => ?_) (fun hc => ?_)
  · replace h := (if_pos (of_decide_eq_true hc)).symm.trans h
    refine xr_forget (lo := [some (.ref v0), some (.int v1), some (.int v2), none, none, none]) ⟨rfl, rfl, rfl, trivial⟩ ?_
    obtain ⟨o, h2, rfl⟩ := Option.map_eq_some_iff.mp h
    exact fM_agree_30_ok h2 hK
  · replace h := (if_neg (of_decide_eq_false hc)).symm.trans h
    refine xr_go 1 (pc' := 9) (lo' := [some (.ref v0), some (.int v1), some (.int v2), some (.int v3), none, none]) (st' := [.ref v0]) (μ' := μ) rfl ?_
    obtain ⟨x40, hx40, h⟩ := Option.bind_eq_some_iff.mp h
    refine xr_opA (pc' := 12) (lo' := [some (.ref v0), some (.int v1), some (.int v2), some (.int v3), none, none]) (st' := []) (o := ldFR μ v0 9 38) rfl hx40 ?_
    refine xr_go 3 (pc' := 15) (lo' := [some (.ref v0), some (.int v1), some (.int v2), some (.int v3), none, none]) (st' := [.int (xc 2), .int v3, .int v3, .ref x40]) (μ' := μ) rfl ?_
    refine xr_icmp (pct := 22) rfl rfl rfl (fun hc => ?_) (fun hc => ?_)
    · replace h := (if_pos (of_decide_eq_true hc)).symm.trans h
      refine xr_go 1 (pc' := 23) (lo' := [some (.ref v0), some (.int v1), some (.int v2), some (.int v3), none, none]) (st' := [.int (xc (-1)), .int v3, .ref x40]) (μ' := μ) rfl ?_
      refine xr_forget (lo := [some (.ref v0), some (.int v1), some (.int v2), some (.int v3), none, none]) ⟨rfl, rfl, rfl, rfl, trivial⟩ ?_
      exact fM_agree_23_ok h hK
    · replace h := (if_neg (of_decide_eq_false hc)).symm.trans h
      refine xr_go 2 (pc' := 23) (lo' := [some (.ref v0), some (.int v1), some (.int v2), some (.int v3), none, none]) (st' := [.int v3, .int v3, .ref x40]) (μ' := μ) rfl ?_
      refine xr_forget (lo := [some (.ref v0), some (.int v1), some (.int v2), some (.int v3), none, none]) ⟨rfl, rfl, rfl, rfl, trivial⟩ ?_
      exact fM_agree_23_ok h hK
theorem fM_agree_L2_lp {d : Nat} {v0 : Nat} {v1 : Int32} {v2 : Int32} {v3 : Int32} {μ : xM} {rv : Option Value} {μf : xM} {out : Int32 × xM} (h : xwh (fun s : Int32 × xM => fM_agree_L2 v0 v1 v2 s.1 s.2) (v3, μ) = some out) (hK : fM_agree_K rv μf out) : xRun (d + 0) 174 2 [some (.ref v0), some (.int v1), some (.int v2), some (.int v3), none, none] [] μ rv μf :=
  xwh_ind (Rh := fun s : Int32 × xM => xRun (d + 0) 174 2 [some (.ref v0), some (.int v1), some (.int v2), some (.int s.1), none, none] [] s.2 rv μf) (Co := fM_agree_K rv μf) (fun s o hb hk => fM_agree_L2_ok hb hk) h hK
noncomputable def fM_agree_0  (v0 : Nat) (v1 : Int32) (v2 : Int32) (μ : xM) : Option (Int32 × xM) := xwh (fun s : Int32 × xM => fM_agree_L2 v0 v1 v2 s.1 s.2) (xc 0, μ)
theorem fM_agree_0_ok {d : Nat} {v0 : Nat} {v1 : Int32} {v2 : Int32} {μ : xM} {rv : Option Value} {μf : xM} {out : Int32 × xM} (h : fM_agree_0 v0 v1 v2 μ = some out) (hK : fM_agree_K rv μf out) : xRun (d + 0) 174 0 [some (.ref v0), some (.int v1), some (.int v2), none, none, none] [] μ rv μf := by
  unfold fM_agree_0 at h
  refine xr_go 2 (pc' := 2) (lo' := [some (.ref v0), some (.int v1), some (.int v2), some (.int (xc 0)), none, none]) (st' := []) (μ' := μ) rfl ?_
  refine xr_forget (lo := [some (.ref v0), some (.int v1), some (.int v2), some (.int (xc 0)), none, none]) ⟨rfl, rfl, rfl, rfl, trivial⟩ ?_
  exact fM_agree_L2_lp h hK
noncomputable def fM_agree (a0 : Nat) (a1 : Int32) (a2 : Int32) (μ : xM) : Option (Int32 × xM) := xgd μ a0 9 (fM_agree_0 a0 a1 a2 μ)
theorem fM_agree_kd {a0 : Nat} {a1 : Int32} {a2 : Int32} {μ : xM} {o : Int32 × xM} (h : fM_agree a0 a1 a2 μ = some o) : (xK μ a0).1 = 10 + 9 := (xgd_some h).1
theorem fM_agree_ok {d : Nat} {a0 : Nat} {a1 : Int32} {a2 : Int32} {μ : xM} {o : Int32 × xM} (h : fM_agree a0 a1 a2 μ = some o) : xRun (d + 0) 174 0 [some (.ref a0), some (.int a1), some (.int a2), none, none, none] [] μ (some (.int o.1)) o.2 :=
  xr_forget (lo := [some (.ref a0), some (.int a1), some (.int a2), none, none, none]) (⟨rfl, rfl, rfl, trivial⟩) (fM_agree_0_ok (d := d) (xgd_some h).2 (show fM_agree_K _ _ o from ⟨rfl, rfl⟩))
-- KeptAnswersModel.nextWay(IZ)Z 
def fM_nextWay_K (rv : Option Value) (μf : xM) : (Int32 × xM) → Prop := fun o => rv = some (.int o.1) ∧ μf = o.2
def fM_nextWay_K37 (v0 : Nat) (v1 : Int32) (d : Nat) (rv : Option Value) (μf : xM) : ((Int32 × xM) ⊕ (Int32 × xM)) → Prop := Sum.elim (fun s : Int32 × xM => xRun (d + 1) 175 37 [some (.ref v0), some (.int v1), none, some (.int s.1)] [] s.2 rv μf) (fM_nextWay_K rv μf)
noncomputable def fM_nextWay_108  (μ : xM) : Option (Int32 × xM) := some ((xc 0, μ))
theorem fM_nextWay_108_ok {d : Nat} {μ : xM} {rv : Option Value} {μf : xM} {out : Int32 × xM} (h : fM_nextWay_108 μ = some out) (hK : fM_nextWay_K rv μf out) : xRun (d + 1) 175 108 [none, none, none, none] [] μ rv μf := by
  unfold fM_nextWay_108 at h
  refine xr_go 1 (pc' := 109) (lo' := [none, none, none, none]) (st' := [.int (xc 0)]) (μ' := μ) rfl ?_
  have ho := Option.some.inj h
  subst ho
  obtain ⟨rfl, rfl⟩ := hK
  exact xr_ret (rv := some (.int (xc 0))) rfl rfl (Or.inr ⟨rfl, Or.inl rfl⟩)
noncomputable def fM_nextWay_93  (μ : xM) : Option (Int32 × xM) := some ((xc 1, μ))
theorem fM_nextWay_93_ok {d : Nat} {μ : xM} {rv : Option Value} {μf : xM} {out : Int32 × xM} (h : fM_nextWay_93 μ = some out) (hK : fM_nextWay_K rv μf out) : xRun (d + 1) 175 93 [none, none, none, none] [] μ rv μf := by
  unfold fM_nextWay_93 at h
  refine xr_go 1 (pc' := 94) (lo' := [none, none, none, none]) (st' := [.int (xc 1)]) (μ' := μ) rfl ?_
  have ho := Option.some.inj h
  subst ho
  obtain ⟨rfl, rfl⟩ := hK
  exact xr_ret (rv := some (.int (xc 1))) rfl rfl (Or.inr ⟨rfl, Or.inr rfl⟩)
noncomputable def fM_nextWay_L37  (v0 : Nat) (v1 : Int32) (v3 : Int32) (μ : xM) : Option ((Int32 × xM) ⊕ (Int32 × xM)) := if v3 < 0 then ((fM_nextWay_108 μ).map (fun o => .inr o)) else ((ldFR μ v0 9 37).bind fun x1 => (ldA μ x1 v3).bind fun x2 => (stA μ x1 v3 (x2 + (xc 1))).bind fun μ3 => (ldFR μ3 v0 9 37).bind fun x4 => (ldA μ3 x4 v3).bind fun x5 => (ldF μ3 v0 9 29).bind fun x6 => if x5 < x6 then ((fM_agree v0 v1 (v3 + (xc 1)) μ3).bind fun r7 => if r7.1 = 0 then (some (.inl ((v3, r7.2)))) else ((ldFR r7.2 v0 9 10).bind fun x8 => (ldA r7.2 x8 v1).bind fun x9 => if v3 = (x9 - (xc 1)) then ((fM_nextWay_93 r7.2).map (fun o => .inr o)) else ((ldFR r7.2 v0 9 37).bind fun x10 => (stA r7.2 x10 (v3 + xc 1) (xc (-1))).bind fun μ11 => some (.inl ((v3 + xc 1, μ11)))))) else (some (.inl ((v3 + xc (-1), μ3)))))
theorem fM_nextWay_L37_ok {d : Nat} {v0 : Nat} {v1 : Int32} {v3 : Int32} {μ : xM} {rv : Option Value} {μf : xM} {out : (Int32 × xM) ⊕ (Int32 × xM)} (h : fM_nextWay_L37 v0 v1 v3 μ = some out) (hK : fM_nextWay_K37 v0 v1 d rv μf out) : xRun (d + 1) 175 37 [some (.ref v0), some (.int v1), none, some (.int v3)] [] μ rv μf := by
  unfold fM_nextWay_L37 at h
  refine xr_go 1 (pc' := 38) (lo' := [some (.ref v0), some (.int v1), none, some (.int v3)]) (st' := [.int v3]) (μ' := μ) rfl ?_
  refine xr_ifc (pct := 108) rfl rfl rfl (fun hc => ?_) (fun hc => ?_)
  · replace h := (if_pos (of_decide_eq_true hc)).symm.trans h
    refine xr_forget (lo := [none, none, none, none]) trivial ?_
    obtain ⟨o, h2, rfl⟩ := Option.map_eq_some_iff.mp h
    exact fM_nextWay_108_ok h2 hK
  · replace h := (if_neg (of_decide_eq_false hc)).symm.trans h
    refine xr_go 1 (pc' := 42) (lo' := [some (.ref v0), some (.int v1), none, some (.int v3)]) (st' := [.ref v0]) (μ' := μ) rfl ?_
    obtain ⟨x1, hx1, h⟩ := Option.bind_eq_some_iff.mp h
    refine xr_opA (pc' := 45) (lo' := [some (.ref v0), some (.int v1), none, some (.int v3)]) (st' := []) (o := ldFR μ v0 9 37) rfl hx1 ?_
    refine xr_go 2 (pc' := 47) (lo' := [some (.ref v0), some (.int v1), none, some (.int v3)]) (st' := [.int v3, .ref x1, .int v3, .ref x1]) (μ' := μ) rfl ?_
    obtain ⟨x2, hx2, h⟩ := Option.bind_eq_some_iff.mp h
    refine xr_opI (pc' := 48) (lo' := [some (.ref v0), some (.int v1), none, some (.int v3)]) (st' := [.int v3, .ref x1]) (o := ldA μ x1 v3) rfl hx2 ?_
    refine xr_go 2 (pc' := 50) (lo' := [some (.ref v0), some (.int v1), none, some (.int v3)]) (st' := [.int (x2 + (xc 1)), .int v3, .ref x1]) (μ' := μ) rfl ?_
    obtain ⟨μ3, hμ3, h⟩ := Option.bind_eq_some_iff.mp h
    refine xr_opM (pc' := 51) (lo' := [some (.ref v0), some (.int v1), none, some (.int v3)]) (st' := []) (o := stA μ x1 v3 (x2 + (xc 1))) rfl hμ3 ?_
    refine xr_go 1 (pc' := 52) (lo' := [some (.ref v0), some (.int v1), none, some (.int v3)]) (st' := [.ref v0]) (μ' := μ3) rfl ?_
    obtain ⟨x4, hx4, h⟩ := Option.bind_eq_some_iff.mp h
    refine xr_opA (pc' := 55) (lo' := [some (.ref v0), some (.int v1), none, some (.int v3)]) (st' := []) (o := ldFR μ3 v0 9 37) rfl hx4 ?_
    refine xr_go 1 (pc' := 56) (lo' := [some (.ref v0), some (.int v1), none, some (.int v3)]) (st' := [.int v3, .ref x4]) (μ' := μ3) rfl ?_
    obtain ⟨x5, hx5, h⟩ := Option.bind_eq_some_iff.mp h
    refine xr_opI (pc' := 57) (lo' := [some (.ref v0), some (.int v1), none, some (.int v3)]) (st' := []) (o := ldA μ3 x4 v3) rfl hx5 ?_
    refine xr_go 1 (pc' := 58) (lo' := [some (.ref v0), some (.int v1), none, some (.int v3)]) (st' := [.ref v0, .int x5]) (μ' := μ3) rfl ?_
    obtain ⟨x6, hx6, h⟩ := Option.bind_eq_some_iff.mp h
    refine xr_opI (pc' := 61) (lo' := [some (.ref v0), some (.int v1), none, some (.int v3)]) (st' := [.int x5]) (o := ldF μ3 v0 9 29) rfl hx6 ?_
    refine xr_icmp (pct := 70) rfl rfl rfl (fun hc => ?_) (fun hc => ?_)
    · replace h := (if_pos (of_decide_eq_true hc)).symm.trans h
      refine xr_go 5 (pc' := 75) (lo' := [some (.ref v0), some (.int v1), none, some (.int v3)]) (st' := [.int (v3 + (xc 1)), .int v1, .ref v0]) (μ' := μ3) rfl ?_
      obtain ⟨r7, hr7, h⟩ := Option.bind_eq_some_iff.mp h
      refine xr_callV (j := 174) (d' := (d + 0)) (rv1 := some (.int r7.1)) (μ1 := r7.2) (rest := []) (As := [.int v1, .int (v3 + (xc 1))]) rfl rfl rfl rfl (Nat.le_of_ble_eq_true rfl) (fM_agree_kd hr7) rfl (by exact (fM_agree_ok (d := d + (0)) hr7)) ?_
      refine xr_ifc (pct := 37) rfl rfl rfl (fun hc => ?_) (fun hc => ?_)
      · replace h := (if_pos (of_decide_eq_true hc)).symm.trans h
        refine xr_forget (lo := [some (.ref v0), some (.int v1), none, some (.int v3)]) ⟨rfl, rfl, rfl, trivial⟩ ?_
        have ho := Option.some.inj h
        subst ho
        exact hK
      · replace h := (if_neg (of_decide_eq_false hc)).symm.trans h
        refine xr_go 2 (pc' := 83) (lo' := [some (.ref v0), some (.int v1), none, some (.int v3)]) (st' := [.ref v0, .int v3]) (μ' := r7.2) rfl ?_
        obtain ⟨x8, hx8, h⟩ := Option.bind_eq_some_iff.mp h
        refine xr_opA (pc' := 86) (lo' := [some (.ref v0), some (.int v1), none, some (.int v3)]) (st' := [.int v3]) (o := ldFR r7.2 v0 9 10) rfl hx8 ?_
        refine xr_go 1 (pc' := 87) (lo' := [some (.ref v0), some (.int v1), none, some (.int v3)]) (st' := [.int v1, .ref x8, .int v3]) (μ' := r7.2) rfl ?_
        obtain ⟨x9, hx9, h⟩ := Option.bind_eq_some_iff.mp h
        refine xr_opI (pc' := 88) (lo' := [some (.ref v0), some (.int v1), none, some (.int v3)]) (st' := [.int v3]) (o := ldA r7.2 x8 v1) rfl hx9 ?_
        refine xr_go 2 (pc' := 90) (lo' := [some (.ref v0), some (.int v1), none, some (.int v3)]) (st' := [.int (x9 - (xc 1)), .int v3]) (μ' := r7.2) rfl ?_
        refine xr_icmp (pct := 95) rfl rfl rfl (fun hc => ?_) (fun hc => ?_)
        · replace h := (if_neg (of_decide_eq_true hc)).symm.trans h
          refine xr_go 2 (pc' := 99) (lo' := [some (.ref v0), some (.int v1), none, some (.int (v3 + xc 1))]) (st' := [.ref v0]) (μ' := r7.2) rfl ?_
          obtain ⟨x10, hx10, h⟩ := Option.bind_eq_some_iff.mp h
          refine xr_opA (pc' := 102) (lo' := [some (.ref v0), some (.int v1), none, some (.int (v3 + xc 1))]) (st' := []) (o := ldFR r7.2 v0 9 37) rfl hx10 ?_
          refine xr_go 2 (pc' := 104) (lo' := [some (.ref v0), some (.int v1), none, some (.int (v3 + xc 1))]) (st' := [.int (xc (-1)), .int (v3 + xc 1), .ref x10]) (μ' := r7.2) rfl ?_
          obtain ⟨μ11, hμ11, h⟩ := Option.bind_eq_some_iff.mp h
          refine xr_opM (pc' := 105) (lo' := [some (.ref v0), some (.int v1), none, some (.int (v3 + xc 1))]) (st' := []) (o := stA r7.2 x10 (v3 + xc 1) (xc (-1))) rfl hμ11 ?_
          refine xr_go 1 (pc' := 37) (lo' := [some (.ref v0), some (.int v1), none, some (.int (v3 + xc 1))]) (st' := []) (μ' := μ11) rfl ?_
          refine xr_forget (lo := [some (.ref v0), some (.int v1), none, some (.int (v3 + xc 1))]) ⟨rfl, rfl, rfl, trivial⟩ ?_
          have ho := Option.some.inj h
          subst ho
          exact hK
        · replace h := (if_pos (Decidable.of_not_not (of_decide_eq_false hc))).symm.trans h
          refine xr_forget (lo := [none, none, none, none]) trivial ?_
          obtain ⟨o, h2, rfl⟩ := Option.map_eq_some_iff.mp h
          exact fM_nextWay_93_ok h2 hK
    · replace h := (if_neg (of_decide_eq_false hc)).symm.trans h
      refine xr_go 2 (pc' := 37) (lo' := [some (.ref v0), some (.int v1), none, some (.int (v3 + xc (-1)))]) (st' := []) (μ' := μ3) rfl ?_
      refine xr_forget (lo := [some (.ref v0), some (.int v1), none, some (.int (v3 + xc (-1)))]) ⟨rfl, rfl, rfl, trivial⟩ ?_
      have ho := Option.some.inj h
      subst ho
      exact hK
theorem fM_nextWay_L37_lp {d : Nat} {v0 : Nat} {v1 : Int32} {v3 : Int32} {μ : xM} {rv : Option Value} {μf : xM} {out : Int32 × xM} (h : xwh (fun s : Int32 × xM => fM_nextWay_L37 v0 v1 s.1 s.2) (v3, μ) = some out) (hK : fM_nextWay_K rv μf out) : xRun (d + 1) 175 37 [some (.ref v0), some (.int v1), none, some (.int v3)] [] μ rv μf :=
  xwh_ind (Rh := fun s : Int32 × xM => xRun (d + 1) 175 37 [some (.ref v0), some (.int v1), none, some (.int s.1)] [] s.2 rv μf) (Co := fM_nextWay_K rv μf) (fun s o hb hk => fM_nextWay_L37_ok hb hk) h hK
noncomputable def fM_nextWay_36  (v0 : Nat) (v1 : Int32) (v3 : Int32) (s0 : Int32) (s1 : Int32) (s2 : Nat) (μ : xM) : Option (Int32 × xM) := (stA μ s2 s1 s0).bind fun μ12 => xwh (fun s : Int32 × xM => fM_nextWay_L37 v0 v1 s.1 s.2) (v3, μ12)
theorem fM_nextWay_36_ok {d : Nat} {v0 : Nat} {v1 : Int32} {v3 : Int32} {s0 : Int32} {s1 : Int32} {s2 : Nat} {μ : xM} {rv : Option Value} {μf : xM} {out : Int32 × xM} (h : fM_nextWay_36 v0 v1 v3 s0 s1 s2 μ = some out) (hK : fM_nextWay_K rv μf out) : xRun (d + 1) 175 36 [some (.ref v0), some (.int v1), none, some (.int v3)] [.int s0, .int s1, .ref s2] μ rv μf := by
  unfold fM_nextWay_36 at h
  obtain ⟨μ12, hμ12, h⟩ := Option.bind_eq_some_iff.mp h
  refine xr_opM (pc' := 37) (lo' := [some (.ref v0), some (.int v1), none, some (.int v3)]) (st' := []) (o := stA μ s2 s1 s0) rfl hμ12 ?_
  refine xr_forget (lo := [some (.ref v0), some (.int v1), none, some (.int v3)]) ⟨rfl, rfl, rfl, trivial⟩ ?_
  exact fM_nextWay_L37_lp h hK
noncomputable def fM_nextWay_16  (v0 : Nat) (v1 : Int32) (v2 : Int32) (s0 : Int32) (μ : xM) : Option (Int32 × xM) := (ldFR μ v0 9 37).bind fun x13 => if v2 = 0 then ((ldFR μ v0 9 37).bind fun x14 => (ldA μ x14 (xc 0)).bind fun x15 => fM_nextWay_36 v0 v1 s0 x15 (xc 0) x13 μ) else (fM_nextWay_36 v0 v1 s0 (xc (-1)) (xc 0) x13 μ)
theorem fM_nextWay_16_ok {d : Nat} {v0 : Nat} {v1 : Int32} {v2 : Int32} {s0 : Int32} {μ : xM} {rv : Option Value} {μf : xM} {out : Int32 × xM} (h : fM_nextWay_16 v0 v1 v2 s0 μ = some out) (hK : fM_nextWay_K rv μf out) : xRun (d + 1) 175 16 [some (.ref v0), some (.int v1), some (.int v2), none] [.int s0] μ rv μf := by
  unfold fM_nextWay_16 at h
  refine xr_go 2 (pc' := 18) (lo' := [some (.ref v0), some (.int v1), some (.int v2), some (.int s0)]) (st' := [.ref v0]) (μ' := μ) rfl ?_
  obtain ⟨x13, hx13, h⟩ := Option.bind_eq_some_iff.mp h
  refine xr_opA (pc' := 21) (lo' := [some (.ref v0), some (.int v1), some (.int v2), some (.int s0)]) (st' := []) (o := ldFR μ v0 9 37) rfl hx13 ?_
  refine xr_go 2 (pc' := 23) (lo' := [some (.ref v0), some (.int v1), some (.int v2), some (.int s0)]) (st' := [.int v2, .int (xc 0), .ref x13]) (μ' := μ) rfl ?_
  refine xr_ifc (pct := 30) rfl rfl rfl (fun hc => ?_) (fun hc => ?_)
  · replace h := (if_pos (of_decide_eq_true hc)).symm.trans h
    refine xr_go 1 (pc' := 31) (lo' := [some (.ref v0), some (.int v1), some (.int v2), some (.int s0)]) (st' := [.ref v0, .int (xc 0), .ref x13]) (μ' := μ) rfl ?_
    obtain ⟨x14, hx14, h⟩ := Option.bind_eq_some_iff.mp h
    refine xr_opA (pc' := 34) (lo' := [some (.ref v0), some (.int v1), some (.int v2), some (.int s0)]) (st' := [.int (xc 0), .ref x13]) (o := ldFR μ v0 9 37) rfl hx14 ?_
    refine xr_go 1 (pc' := 35) (lo' := [some (.ref v0), some (.int v1), some (.int v2), some (.int s0)]) (st' := [.int (xc 0), .ref x14, .int (xc 0), .ref x13]) (μ' := μ) rfl ?_
    obtain ⟨x15, hx15, h⟩ := Option.bind_eq_some_iff.mp h
    refine xr_opI (pc' := 36) (lo' := [some (.ref v0), some (.int v1), some (.int v2), some (.int s0)]) (st' := [.int (xc 0), .ref x13]) (o := ldA μ x14 (xc 0)) rfl hx15 ?_
    refine xr_forget (lo := [some (.ref v0), some (.int v1), none, some (.int s0)]) ⟨rfl, rfl, rfl, trivial⟩ ?_
    exact fM_nextWay_36_ok h hK
  · replace h := (if_neg (of_decide_eq_false hc)).symm.trans h
    refine xr_go 2 (pc' := 36) (lo' := [some (.ref v0), some (.int v1), some (.int v2), some (.int s0)]) (st' := [.int (xc (-1)), .int (xc 0), .ref x13]) (μ' := μ) rfl ?_
    refine xr_forget (lo := [some (.ref v0), some (.int v1), none, some (.int s0)]) ⟨rfl, rfl, rfl, trivial⟩ ?_
    exact fM_nextWay_36_ok h hK
noncomputable def fM_nextWay_0  (v0 : Nat) (v1 : Int32) (v2 : Int32) (μ : xM) : Option (Int32 × xM) := if v2 = 0 then ((ldFR μ v0 9 10).bind fun x16 => (ldA μ x16 v1).bind fun x17 => fM_nextWay_16 v0 v1 v2 (x17 - (xc 1)) μ) else (fM_nextWay_16 v0 v1 v2 (xc 0) μ)
theorem fM_nextWay_0_ok {d : Nat} {v0 : Nat} {v1 : Int32} {v2 : Int32} {μ : xM} {rv : Option Value} {μf : xM} {out : Int32 × xM} (h : fM_nextWay_0 v0 v1 v2 μ = some out) (hK : fM_nextWay_K rv μf out) : xRun (d + 1) 175 0 [some (.ref v0), some (.int v1), some (.int v2), none] [] μ rv μf := by
  unfold fM_nextWay_0 at h
  refine xr_go 1 (pc' := 1) (lo' := [some (.ref v0), some (.int v1), some (.int v2), none]) (st' := [.int v2]) (μ' := μ) rfl ?_
  refine xr_ifc (pct := 8) rfl rfl rfl (fun hc => ?_) (fun hc => ?_)
  · replace h := (if_pos (of_decide_eq_true hc)).symm.trans h
    refine xr_go 1 (pc' := 9) (lo' := [some (.ref v0), some (.int v1), some (.int v2), none]) (st' := [.ref v0]) (μ' := μ) rfl ?_
    obtain ⟨x16, hx16, h⟩ := Option.bind_eq_some_iff.mp h
    refine xr_opA (pc' := 12) (lo' := [some (.ref v0), some (.int v1), some (.int v2), none]) (st' := []) (o := ldFR μ v0 9 10) rfl hx16 ?_
    refine xr_go 1 (pc' := 13) (lo' := [some (.ref v0), some (.int v1), some (.int v2), none]) (st' := [.int v1, .ref x16]) (μ' := μ) rfl ?_
    obtain ⟨x17, hx17, h⟩ := Option.bind_eq_some_iff.mp h
    refine xr_opI (pc' := 14) (lo' := [some (.ref v0), some (.int v1), some (.int v2), none]) (st' := []) (o := ldA μ x16 v1) rfl hx17 ?_
    refine xr_go 2 (pc' := 16) (lo' := [some (.ref v0), some (.int v1), some (.int v2), none]) (st' := [.int (x17 - (xc 1))]) (μ' := μ) rfl ?_
    refine xr_forget (lo := [some (.ref v0), some (.int v1), some (.int v2), none]) ⟨rfl, rfl, rfl, trivial⟩ ?_
    exact fM_nextWay_16_ok h hK
  · replace h := (if_neg (of_decide_eq_false hc)).symm.trans h
    refine xr_go 2 (pc' := 16) (lo' := [some (.ref v0), some (.int v1), some (.int v2), none]) (st' := [.int (xc 0)]) (μ' := μ) rfl ?_
    refine xr_forget (lo := [some (.ref v0), some (.int v1), some (.int v2), none]) ⟨rfl, rfl, rfl, trivial⟩ ?_
    exact fM_nextWay_16_ok h hK
noncomputable def fM_nextWay (a0 : Nat) (a1 : Int32) (a2 : Int32) (μ : xM) : Option (Int32 × xM) := xgd μ a0 9 (fM_nextWay_0 a0 a1 a2 μ)
theorem fM_nextWay_kd {a0 : Nat} {a1 : Int32} {a2 : Int32} {μ : xM} {o : Int32 × xM} (h : fM_nextWay a0 a1 a2 μ = some o) : (xK μ a0).1 = 10 + 9 := (xgd_some h).1
theorem fM_nextWay_ok {d : Nat} {a0 : Nat} {a1 : Int32} {a2 : Int32} {μ : xM} {o : Int32 × xM} (h : fM_nextWay a0 a1 a2 μ = some o) : xRun (d + 1) 175 0 [some (.ref a0), some (.int a1), some (.int a2), none] [] μ (some (.int o.1)) o.2 :=
  xr_forget (lo := [some (.ref a0), some (.int a1), some (.int a2), none]) (⟨rfl, rfl, rfl, trivial⟩) (fM_nextWay_0_ok (d := d) (xgd_some h).2 (show fM_nextWay_K _ _ o from ⟨rfl, rfl⟩))
-- KeptAnswersModel.liesWithin(I)Z 
def fM_liesWithin_K (rv : Option Value) (μf : xM) : (Int32 × xM) → Prop := fun o => rv = some (.int o.1) ∧ μf = o.2
def fM_liesWithin_K31 (v0 : Nat) (v1 : Int32) (d : Nat) (rv : Option Value) (μf : xM) : ((Int32 × xM) ⊕ (Int32 × xM)) → Prop := Sum.elim (fun s : Int32 × xM => xRun (d + 2) 176 31 [some (.ref v0), some (.int v1), some (.int s.1), none, none] [] s.2 rv μf) (fM_liesWithin_K rv μf)
def fM_liesWithin_K40 (v0 : Nat) (v1 : Int32) (μ : xM) (d : Nat) (rv : Option Value) (μf : xM) : ((Int32 × Int32) ⊕ ((Int32 × xM) ⊕ (Int32 × xM))) → Prop := Sum.elim (fun s : Int32 × Int32 => xRun (d + 2) 176 40 [some (.ref v0), some (.int v1), none, some (.int s.1), some (.int s.2)] [] μ rv μf) (fM_liesWithin_K31 v0 v1 d rv μf)
noncomputable def fM_liesWithin_107  (μ : xM) : Option (Int32 × xM) := some ((xc 0, μ))
theorem fM_liesWithin_107_ok {d : Nat} {μ : xM} {rv : Option Value} {μf : xM} {out : Int32 × xM} (h : fM_liesWithin_107 μ = some out) (hK : fM_liesWithin_K rv μf out) : xRun (d + 2) 176 107 [none, none, none, none, none] [] μ rv μf := by
  unfold fM_liesWithin_107 at h
  refine xr_go 1 (pc' := 108) (lo' := [none, none, none, none, none]) (st' := [.int (xc 0)]) (μ' := μ) rfl ?_
  have ho := Option.some.inj h
  subst ho
  obtain ⟨rfl, rfl⟩ := hK
  exact xr_ret (rv := some (.int (xc 0))) rfl rfl (Or.inr ⟨rfl, Or.inl rfl⟩)
noncomputable def fM_liesWithin_95  (μ : xM) : Option (Int32 × xM) := some ((xc 1, μ))
theorem fM_liesWithin_95_ok {d : Nat} {μ : xM} {rv : Option Value} {μf : xM} {out : Int32 × xM} (h : fM_liesWithin_95 μ = some out) (hK : fM_liesWithin_K rv μf out) : xRun (d + 2) 176 95 [none, none, none, none, none] [] μ rv μf := by
  unfold fM_liesWithin_95 at h
  refine xr_go 1 (pc' := 96) (lo' := [none, none, none, none, none]) (st' := [.int (xc 1)]) (μ' := μ) rfl ?_
  have ho := Option.some.inj h
  subst ho
  obtain ⟨rfl, rfl⟩ := hK
  exact xr_ret (rv := some (.int (xc 1))) rfl rfl (Or.inr ⟨rfl, Or.inr rfl⟩)
noncomputable def fM_liesWithin_91  (v0 : Nat) (v1 : Int32) (v3 : Int32) (μ : xM) : Option ((Int32 × xM) ⊕ (Int32 × xM)) := if v3 = 0 then ((fM_nextWay v0 v1 (xc 0) μ).bind fun r1 => some (.inl ((r1.1, r1.2)))) else ((fM_liesWithin_95 μ).map (fun o => .inr o))
theorem fM_liesWithin_91_ok {d : Nat} {v0 : Nat} {v1 : Int32} {v3 : Int32} {μ : xM} {rv : Option Value} {μf : xM} {out : (Int32 × xM) ⊕ (Int32 × xM)} (h : fM_liesWithin_91 v0 v1 v3 μ = some out) (hK : fM_liesWithin_K31 v0 v1 d rv μf out) : xRun (d + 2) 176 91 [some (.ref v0), some (.int v1), none, some (.int v3), none] [] μ rv μf := by
  unfold fM_liesWithin_91 at h
  refine xr_go 1 (pc' := 92) (lo' := [some (.ref v0), some (.int v1), none, some (.int v3), none]) (st' := [.int v3]) (μ' := μ) rfl ?_
  refine xr_ifc (pct := 97) rfl rfl rfl (fun hc => ?_) (fun hc => ?_)
  · replace h := (if_pos (of_decide_eq_true hc)).symm.trans h
    refine xr_go 3 (pc' := 100) (lo' := [some (.ref v0), some (.int v1), none, some (.int v3), none]) (st' := [.int (xc 0), .int v1, .ref v0]) (μ' := μ) rfl ?_
    obtain ⟨r1, hr1, h⟩ := Option.bind_eq_some_iff.mp h
    refine xr_callV (j := 175) (d' := (d + 1)) (rv1 := some (.int r1.1)) (μ1 := r1.2) (rest := []) (As := [.int v1, .int (xc 0)]) rfl rfl rfl rfl (Nat.le_of_ble_eq_true rfl) (fM_nextWay_kd hr1) rfl (by exact (fM_nextWay_ok (d := d + (0)) hr1)) ?_
    refine xr_go 2 (pc' := 31) (lo' := [some (.ref v0), some (.int v1), some (.int r1.1), some (.int v3), none]) (st' := []) (μ' := r1.2) rfl ?_
    refine xr_forget (lo := [some (.ref v0), some (.int v1), some (.int r1.1), none, none]) ⟨rfl, rfl, rfl, trivial⟩ ?_
    have ho := Option.some.inj h
    subst ho
    exact hK
  · replace h := (if_neg (of_decide_eq_false hc)).symm.trans h
    refine xr_forget (lo := [none, none, none, none, none]) trivial ?_
    obtain ⟨o, h2, rfl⟩ := Option.map_eq_some_iff.mp h
    exact fM_liesWithin_95_ok h2 hK
noncomputable def fM_liesWithin_84  (v0 : Nat) (v1 : Int32) (v4 : Int32) (s0 : Int32) (μ : xM) : Option ((Int32 × Int32) ⊕ ((Int32 × xM) ⊕ (Int32 × xM))) := some (.inl ((s0, v4 + xc 1)))
theorem fM_liesWithin_84_ok {d : Nat} {v0 : Nat} {v1 : Int32} {v4 : Int32} {s0 : Int32} {μ : xM} {rv : Option Value} {μf : xM} {out : (Int32 × Int32) ⊕ ((Int32 × xM) ⊕ (Int32 × xM))} (h : fM_liesWithin_84 v0 v1 v4 s0 μ = some out) (hK : fM_liesWithin_K40 v0 v1 μ d rv μf out) : xRun (d + 2) 176 84 [some (.ref v0), some (.int v1), none, none, some (.int v4)] [.int s0] μ rv μf := by
  unfold fM_liesWithin_84 at h
  refine xr_go 3 (pc' := 40) (lo' := [some (.ref v0), some (.int v1), none, some (.int s0), some (.int (v4 + xc 1))]) (st' := []) (μ' := μ) rfl ?_
  refine xr_forget (lo := [some (.ref v0), some (.int v1), none, some (.int s0), some (.int (v4 + xc 1))]) ⟨rfl, rfl, rfl, rfl, trivial⟩ ?_
  have ho := Option.some.inj h
  subst ho
  exact hK
noncomputable def fM_liesWithin_83  (v0 : Nat) (v1 : Int32) (v4 : Int32) (μ : xM) : Option ((Int32 × Int32) ⊕ ((Int32 × xM) ⊕ (Int32 × xM))) := fM_liesWithin_84 v0 v1 v4 (xc 0) μ
theorem fM_liesWithin_83_ok {d : Nat} {v0 : Nat} {v1 : Int32} {v4 : Int32} {μ : xM} {rv : Option Value} {μf : xM} {out : (Int32 × Int32) ⊕ ((Int32 × xM) ⊕ (Int32 × xM))} (h : fM_liesWithin_83 v0 v1 v4 μ = some out) (hK : fM_liesWithin_K40 v0 v1 μ d rv μf out) : xRun (d + 2) 176 83 [some (.ref v0), some (.int v1), none, none, some (.int v4)] [] μ rv μf := by
  unfold fM_liesWithin_83 at h
  refine xr_go 1 (pc' := 84) (lo' := [some (.ref v0), some (.int v1), none, none, some (.int v4)]) (st' := [.int (xc 0)]) (μ' := μ) rfl ?_
  refine xr_forget (lo := [some (.ref v0), some (.int v1), none, none, some (.int v4)]) ⟨rfl, rfl, rfl, trivial⟩ ?_
  exact fM_liesWithin_84_ok h hK
noncomputable def fM_liesWithin_L40  (v0 : Nat) (v1 : Int32) (v3 : Int32) (v4 : Int32) (μ : xM) : Option ((Int32 × Int32) ⊕ ((Int32 × xM) ⊕ (Int32 × xM))) := (ldF μ v0 9 33).bind fun x2 => if x2 ≤ v4 then ((fM_liesWithin_91 v0 v1 v3 μ).map (fun o => .inr o)) else (if v3 = 0 then (fM_liesWithin_83 v0 v1 v4 μ) else ((ldFR μ v0 9 38).bind fun x3 => (ldFR μ v0 9 15).bind fun x4 => (ldA μ x4 (((xc 3) * v1) + v4)).bind fun x5 => (ldA μ x3 x5).bind fun x6 => (ldFR μ v0 9 34).bind fun x7 => (ldA μ x7 v4).bind fun x8 => if x6 = x8 then (fM_liesWithin_84 v0 v1 v4 (xc 1) μ) else (fM_liesWithin_83 v0 v1 v4 μ)))
theorem fM_liesWithin_L40_ok {d : Nat} {v0 : Nat} {v1 : Int32} {v3 : Int32} {v4 : Int32} {μ : xM} {rv : Option Value} {μf : xM} {out : (Int32 × Int32) ⊕ ((Int32 × xM) ⊕ (Int32 × xM))} (h : fM_liesWithin_L40 v0 v1 v3 v4 μ = some out) (hK : fM_liesWithin_K40 v0 v1 μ d rv μf out) : xRun (d + 2) 176 40 [some (.ref v0), some (.int v1), none, some (.int v3), some (.int v4)] [] μ rv μf := by
  unfold fM_liesWithin_L40 at h
  refine xr_go 2 (pc' := 43) (lo' := [some (.ref v0), some (.int v1), none, some (.int v3), some (.int v4)]) (st' := [.ref v0, .int v4]) (μ' := μ) rfl ?_
  obtain ⟨x2, hx2, h⟩ := Option.bind_eq_some_iff.mp h
  refine xr_opI (pc' := 46) (lo' := [some (.ref v0), some (.int v1), none, some (.int v3), some (.int v4)]) (st' := [.int v4]) (o := ldF μ v0 9 33) rfl hx2 ?_
  refine xr_icmp (pct := 91) rfl rfl rfl (fun hc => ?_) (fun hc => ?_)
  · replace h := (if_pos (of_decide_eq_true hc)).symm.trans h
    refine xr_forget (lo := [some (.ref v0), some (.int v1), none, some (.int v3), none]) ⟨rfl, rfl, rfl, trivial⟩ ?_
    obtain ⟨o, h2, rfl⟩ := Option.map_eq_some_iff.mp h
    exact fM_liesWithin_91_ok h2 hK
  · replace h := (if_neg (of_decide_eq_false hc)).symm.trans h
    refine xr_go 1 (pc' := 50) (lo' := [some (.ref v0), some (.int v1), none, some (.int v3), some (.int v4)]) (st' := [.int v3]) (μ' := μ) rfl ?_
    refine xr_ifc (pct := 83) rfl rfl rfl (fun hc => ?_) (fun hc => ?_)
    · replace h := (if_pos (of_decide_eq_true hc)).symm.trans h
      refine xr_forget (lo := [some (.ref v0), some (.int v1), none, none, some (.int v4)]) ⟨rfl, rfl, rfl, trivial⟩ ?_
      exact fM_liesWithin_83_ok h hK
    · replace h := (if_neg (of_decide_eq_false hc)).symm.trans h
      refine xr_go 1 (pc' := 54) (lo' := [some (.ref v0), some (.int v1), none, some (.int v3), some (.int v4)]) (st' := [.ref v0]) (μ' := μ) rfl ?_
      obtain ⟨x3, hx3, h⟩ := Option.bind_eq_some_iff.mp h
      refine xr_opA (pc' := 57) (lo' := [some (.ref v0), some (.int v1), none, some (.int v3), some (.int v4)]) (st' := []) (o := ldFR μ v0 9 38) rfl hx3 ?_
      refine xr_go 1 (pc' := 58) (lo' := [some (.ref v0), some (.int v1), none, some (.int v3), some (.int v4)]) (st' := [.ref v0, .ref x3]) (μ' := μ) rfl ?_
      obtain ⟨x4, hx4, h⟩ := Option.bind_eq_some_iff.mp h
      refine xr_opA (pc' := 61) (lo' := [some (.ref v0), some (.int v1), none, some (.int v3), some (.int v4)]) (st' := [.ref x3]) (o := ldFR μ v0 9 15) rfl hx4 ?_
      refine xr_go 5 (pc' := 67) (lo' := [some (.ref v0), some (.int v1), none, some (.int v3), some (.int v4)]) (st' := [.int (((xc 3) * v1) + v4), .ref x4, .ref x3]) (μ' := μ) rfl ?_
      obtain ⟨x5, hx5, h⟩ := Option.bind_eq_some_iff.mp h
      refine xr_opI (pc' := 68) (lo' := [some (.ref v0), some (.int v1), none, some (.int v3), some (.int v4)]) (st' := [.ref x3]) (o := ldA μ x4 (((xc 3) * v1) + v4)) rfl hx5 ?_
      obtain ⟨x6, hx6, h⟩ := Option.bind_eq_some_iff.mp h
      refine xr_opI (pc' := 69) (lo' := [some (.ref v0), some (.int v1), none, some (.int v3), some (.int v4)]) (st' := []) (o := ldA μ x3 x5) rfl hx6 ?_
      refine xr_go 1 (pc' := 70) (lo' := [some (.ref v0), some (.int v1), none, some (.int v3), some (.int v4)]) (st' := [.ref v0, .int x6]) (μ' := μ) rfl ?_
      obtain ⟨x7, hx7, h⟩ := Option.bind_eq_some_iff.mp h
      refine xr_opA (pc' := 73) (lo' := [some (.ref v0), some (.int v1), none, some (.int v3), some (.int v4)]) (st' := [.int x6]) (o := ldFR μ v0 9 34) rfl hx7 ?_
      refine xr_go 1 (pc' := 75) (lo' := [some (.ref v0), some (.int v1), none, some (.int v3), some (.int v4)]) (st' := [.int v4, .ref x7, .int x6]) (μ' := μ) rfl ?_
      obtain ⟨x8, hx8, h⟩ := Option.bind_eq_some_iff.mp h
      refine xr_opI (pc' := 76) (lo' := [some (.ref v0), some (.int v1), none, some (.int v3), some (.int v4)]) (st' := [.int x6]) (o := ldA μ x7 v4) rfl hx8 ?_
      refine xr_icmp (pct := 83) rfl rfl rfl (fun hc => ?_) (fun hc => ?_)
      · replace h := (if_neg (of_decide_eq_true hc)).symm.trans h
        refine xr_forget (lo := [some (.ref v0), some (.int v1), none, none, some (.int v4)]) ⟨rfl, rfl, rfl, trivial⟩ ?_
        exact fM_liesWithin_83_ok h hK
      · replace h := (if_pos (Decidable.of_not_not (of_decide_eq_false hc))).symm.trans h
        refine xr_go 2 (pc' := 84) (lo' := [some (.ref v0), some (.int v1), none, some (.int v3), some (.int v4)]) (st' := [.int (xc 1)]) (μ' := μ) rfl ?_
        refine xr_forget (lo := [some (.ref v0), some (.int v1), none, none, some (.int v4)]) ⟨rfl, rfl, rfl, trivial⟩ ?_
        exact fM_liesWithin_84_ok h hK
theorem fM_liesWithin_L40_lp {d : Nat} {v0 : Nat} {v1 : Int32} {v3 : Int32} {v4 : Int32} {μ : xM} {rv : Option Value} {μf : xM} {out : (Int32 × xM) ⊕ (Int32 × xM)} (h : xwh (fun s : Int32 × Int32 => fM_liesWithin_L40 v0 v1 s.1 s.2 μ) (v3, v4) = some out) (hK : fM_liesWithin_K31 v0 v1 d rv μf out) : xRun (d + 2) 176 40 [some (.ref v0), some (.int v1), none, some (.int v3), some (.int v4)] [] μ rv μf :=
  xwh_ind (Rh := fun s : Int32 × Int32 => xRun (d + 2) 176 40 [some (.ref v0), some (.int v1), none, some (.int s.1), some (.int s.2)] [] μ rv μf) (Co := fM_liesWithin_K31 v0 v1 d rv μf) (fun s o hb hk => fM_liesWithin_L40_ok hb hk) h hK
noncomputable def fM_liesWithin_L31  (v0 : Nat) (v1 : Int32) (v2 : Int32) (μ : xM) : Option ((Int32 × xM) ⊕ (Int32 × xM)) := if v2 = 0 then ((fM_liesWithin_107 μ).map (fun o => .inr o)) else (xwh (fun s : Int32 × Int32 => fM_liesWithin_L40 v0 v1 s.1 s.2 μ) (xc 1, xc 0))
theorem fM_liesWithin_L31_ok {d : Nat} {v0 : Nat} {v1 : Int32} {v2 : Int32} {μ : xM} {rv : Option Value} {μf : xM} {out : (Int32 × xM) ⊕ (Int32 × xM)} (h : fM_liesWithin_L31 v0 v1 v2 μ = some out) (hK : fM_liesWithin_K31 v0 v1 d rv μf out) : xRun (d + 2) 176 31 [some (.ref v0), some (.int v1), some (.int v2), none, none] [] μ rv μf := by
  unfold fM_liesWithin_L31 at h
  refine xr_go 1 (pc' := 32) (lo' := [some (.ref v0), some (.int v1), some (.int v2), none, none]) (st' := [.int v2]) (μ' := μ) rfl ?_
  refine xr_ifc (pct := 107) rfl rfl rfl (fun hc => ?_) (fun hc => ?_)
  · replace h := (if_pos (of_decide_eq_true hc)).symm.trans h
    refine xr_forget (lo := [none, none, none, none, none]) trivial ?_
    obtain ⟨o, h2, rfl⟩ := Option.map_eq_some_iff.mp h
    exact fM_liesWithin_107_ok h2 hK
  · replace h := (if_neg (of_decide_eq_false hc)).symm.trans h
    refine xr_go 4 (pc' := 40) (lo' := [some (.ref v0), some (.int v1), some (.int v2), some (.int (xc 1)), some (.int (xc 0))]) (st' := []) (μ' := μ) rfl ?_
    refine xr_forget (lo := [some (.ref v0), some (.int v1), none, some (.int (xc 1)), some (.int (xc 0))]) ⟨rfl, rfl, rfl, rfl, trivial⟩ ?_
    exact fM_liesWithin_L40_lp h hK
theorem fM_liesWithin_L31_lp {d : Nat} {v0 : Nat} {v1 : Int32} {v2 : Int32} {μ : xM} {rv : Option Value} {μf : xM} {out : Int32 × xM} (h : xwh (fun s : Int32 × xM => fM_liesWithin_L31 v0 v1 s.1 s.2) (v2, μ) = some out) (hK : fM_liesWithin_K rv μf out) : xRun (d + 2) 176 31 [some (.ref v0), some (.int v1), some (.int v2), none, none] [] μ rv μf :=
  xwh_ind (Rh := fun s : Int32 × xM => xRun (d + 2) 176 31 [some (.ref v0), some (.int v1), some (.int s.1), none, none] [] s.2 rv μf) (Co := fM_liesWithin_K rv μf) (fun s o hb hk => fM_liesWithin_L31_ok hb hk) h hK
noncomputable def fM_liesWithin_0  (v0 : Nat) (v1 : Int32) (μ : xM) : Option (Int32 × xM) := (ldF μ v0 9 33).bind fun x9 => (ldFR μ v0 9 14).bind fun x10 => (ldA μ x10 v1).bind fun x11 => if x9 = x11 then ((ldF μ v0 9 35).bind fun x12 => if x12 = 0 then ((fM_nextWay v0 v1 (xc 1) μ).bind fun r13 => xwh (fun s : Int32 × xM => fM_liesWithin_L31 v0 v1 s.1 s.2) (r13.1, r13.2)) else (some ((xc 1, μ)))) else (some ((xc 0, μ)))
theorem fM_liesWithin_0_ok {d : Nat} {v0 : Nat} {v1 : Int32} {μ : xM} {rv : Option Value} {μf : xM} {out : Int32 × xM} (h : fM_liesWithin_0 v0 v1 μ = some out) (hK : fM_liesWithin_K rv μf out) : xRun (d + 2) 176 0 [some (.ref v0), some (.int v1), none, none, none] [] μ rv μf := by
  unfold fM_liesWithin_0 at h
  refine xr_go 1 (pc' := 1) (lo' := [some (.ref v0), some (.int v1), none, none, none]) (st' := [.ref v0]) (μ' := μ) rfl ?_
  obtain ⟨x9, hx9, h⟩ := Option.bind_eq_some_iff.mp h
  refine xr_opI (pc' := 4) (lo' := [some (.ref v0), some (.int v1), none, none, none]) (st' := []) (o := ldF μ v0 9 33) rfl hx9 ?_
  refine xr_go 1 (pc' := 5) (lo' := [some (.ref v0), some (.int v1), none, none, none]) (st' := [.ref v0, .int x9]) (μ' := μ) rfl ?_
  obtain ⟨x10, hx10, h⟩ := Option.bind_eq_some_iff.mp h
  refine xr_opA (pc' := 8) (lo' := [some (.ref v0), some (.int v1), none, none, none]) (st' := [.int x9]) (o := ldFR μ v0 9 14) rfl hx10 ?_
  refine xr_go 1 (pc' := 9) (lo' := [some (.ref v0), some (.int v1), none, none, none]) (st' := [.int v1, .ref x10, .int x9]) (μ' := μ) rfl ?_
  obtain ⟨x11, hx11, h⟩ := Option.bind_eq_some_iff.mp h
  refine xr_opI (pc' := 10) (lo' := [some (.ref v0), some (.int v1), none, none, none]) (st' := [.int x9]) (o := ldA μ x10 v1) rfl hx11 ?_
  refine xr_icmp (pct := 15) rfl rfl rfl (fun hc => ?_) (fun hc => ?_)
  · replace h := (if_pos (of_decide_eq_true hc)).symm.trans h
    refine xr_go 1 (pc' := 16) (lo' := [some (.ref v0), some (.int v1), none, none, none]) (st' := [.ref v0]) (μ' := μ) rfl ?_
    obtain ⟨x12, hx12, h⟩ := Option.bind_eq_some_iff.mp h
    refine xr_opI (pc' := 19) (lo' := [some (.ref v0), some (.int v1), none, none, none]) (st' := []) (o := ldF μ v0 9 35) rfl hx12 ?_
    refine xr_ifc (pct := 24) rfl rfl rfl (fun hc => ?_) (fun hc => ?_)
    · replace h := (if_pos (of_decide_eq_true hc)).symm.trans h
      refine xr_go 3 (pc' := 27) (lo' := [some (.ref v0), some (.int v1), none, none, none]) (st' := [.int (xc 1), .int v1, .ref v0]) (μ' := μ) rfl ?_
      obtain ⟨r13, hr13, h⟩ := Option.bind_eq_some_iff.mp h
      refine xr_callV (j := 175) (d' := (d + 1)) (rv1 := some (.int r13.1)) (μ1 := r13.2) (rest := []) (As := [.int v1, .int (xc 1)]) rfl rfl rfl rfl (Nat.le_of_ble_eq_true rfl) (fM_nextWay_kd hr13) rfl (by exact (fM_nextWay_ok (d := d + (0)) hr13)) ?_
      refine xr_go 1 (pc' := 31) (lo' := [some (.ref v0), some (.int v1), some (.int r13.1), none, none]) (st' := []) (μ' := r13.2) rfl ?_
      refine xr_forget (lo := [some (.ref v0), some (.int v1), some (.int r13.1), none, none]) ⟨rfl, rfl, rfl, trivial⟩ ?_
      exact fM_liesWithin_L31_lp h hK
    · replace h := (if_neg (of_decide_eq_false hc)).symm.trans h
      refine xr_go 1 (pc' := 23) (lo' := [some (.ref v0), some (.int v1), none, none, none]) (st' := [.int (xc 1)]) (μ' := μ) rfl ?_
      have ho := Option.some.inj h
      subst ho
      obtain ⟨rfl, rfl⟩ := hK
      exact xr_ret (rv := some (.int (xc 1))) rfl rfl (Or.inr ⟨rfl, Or.inr rfl⟩)
  · replace h := (if_neg (of_decide_eq_false hc)).symm.trans h
    refine xr_go 1 (pc' := 14) (lo' := [some (.ref v0), some (.int v1), none, none, none]) (st' := [.int (xc 0)]) (μ' := μ) rfl ?_
    have ho := Option.some.inj h
    subst ho
    obtain ⟨rfl, rfl⟩ := hK
    exact xr_ret (rv := some (.int (xc 0))) rfl rfl (Or.inr ⟨rfl, Or.inl rfl⟩)
noncomputable def fM_liesWithin (a0 : Nat) (a1 : Int32) (μ : xM) : Option (Int32 × xM) := xgd μ a0 9 (fM_liesWithin_0 a0 a1 μ)
theorem fM_liesWithin_kd {a0 : Nat} {a1 : Int32} {μ : xM} {o : Int32 × xM} (h : fM_liesWithin a0 a1 μ = some o) : (xK μ a0).1 = 10 + 9 := (xgd_some h).1
theorem fM_liesWithin_ok {d : Nat} {a0 : Nat} {a1 : Int32} {μ : xM} {o : Int32 × xM} (h : fM_liesWithin a0 a1 μ = some o) : xRun (d + 2) 176 0 [some (.ref a0), some (.int a1), none, none, none] [] μ (some (.int o.1)) o.2 :=
  xr_forget (lo := [some (.ref a0), some (.int a1), none, none, none]) (⟨rfl, rfl, trivial⟩) (fM_liesWithin_0_ok (d := d) (xgd_some h).2 (show fM_liesWithin_K _ _ o from ⟨rfl, rfl⟩))
-- KeptAnswersModel.isWithin(II)Z 
def fM_isWithin_K (rv : Option Value) (μf : xM) : (Int32 × xM) → Prop := fun o => rv = some (.int o.1) ∧ μf = o.2
noncomputable def fM_isWithin_0  (v0 : Nat) (v1 : Int32) (v2 : Int32) (μ : xM) : Option (Int32 × xM) := (fM_findEnd v0 v1 μ).bind fun r1 => (fM_liesWithin v0 v2 r1).bind fun r2 => if r2.1 = 0 ∨ r2.1 = 1 then some ((r2.1, r2.2)) else none
theorem fM_isWithin_0_ok {d : Nat} {v0 : Nat} {v1 : Int32} {v2 : Int32} {μ : xM} {rv : Option Value} {μf : xM} {out : Int32 × xM} (h : fM_isWithin_0 v0 v1 v2 μ = some out) (hK : fM_isWithin_K rv μf out) : xRun (d + 4) 177 0 [some (.ref v0), some (.int v1), some (.int v2)] [] μ rv μf := by
  unfold fM_isWithin_0 at h
  refine xr_go 2 (pc' := 2) (lo' := [some (.ref v0), some (.int v1), some (.int v2)]) (st' := [.int v1, .ref v0]) (μ' := μ) rfl ?_
  obtain ⟨r1, hr1, h⟩ := Option.bind_eq_some_iff.mp h
  refine xr_callV (j := 171) (d' := (d + 3)) (rv1 := none) (μ1 := r1) (rest := []) (As := [.int v1]) rfl rfl rfl rfl (Nat.le_of_ble_eq_true rfl) (fM_findEnd_kd hr1) rfl (by exact (fM_findEnd_ok (d := d + (0)) hr1)) ?_
  refine xr_go 2 (pc' := 7) (lo' := [some (.ref v0), some (.int v1), some (.int v2)]) (st' := [.int v2, .ref v0]) (μ' := r1) rfl ?_
  obtain ⟨r2, hr2, h⟩ := Option.bind_eq_some_iff.mp h
  refine xr_callV (j := 176) (d' := (d + 3)) (rv1 := some (.int r2.1)) (μ1 := r2.2) (rest := []) (As := [.int v2]) rfl rfl rfl rfl (Nat.le_of_ble_eq_true rfl) (fM_liesWithin_kd hr2) rfl (by exact (fM_liesWithin_ok (d := d + (1)) hr2)) ?_
  obtain ⟨hb, h⟩ := xifO h
  have ho := Option.some.inj h
  subst ho
  obtain ⟨rfl, rfl⟩ := hK
  exact xr_ret (rv := some (.int r2.1)) rfl rfl (Or.inr ⟨rfl, hb⟩)
noncomputable def fM_isWithin (a0 : Nat) (a1 : Int32) (a2 : Int32) (μ : xM) : Option (Int32 × xM) := xgd μ a0 9 (fM_isWithin_0 a0 a1 a2 μ)
theorem fM_isWithin_kd {a0 : Nat} {a1 : Int32} {a2 : Int32} {μ : xM} {o : Int32 × xM} (h : fM_isWithin a0 a1 a2 μ = some o) : (xK μ a0).1 = 10 + 9 := (xgd_some h).1
theorem fM_isWithin_ok {d : Nat} {a0 : Nat} {a1 : Int32} {a2 : Int32} {μ : xM} {o : Int32 × xM} (h : fM_isWithin a0 a1 a2 μ = some o) : xRun (d + 4) 177 0 [some (.ref a0), some (.int a1), some (.int a2)] [] μ (some (.int o.1)) o.2 :=
  xr_forget (lo := [some (.ref a0), some (.int a1), some (.int a2)]) (⟨rfl, rfl, rfl, trivial⟩) (fM_isWithin_0_ok (d := d) (xgd_some h).2 (show fM_isWithin_K _ _ o from ⟨rfl, rfl⟩))
-- KeptAnswersModel.within(II)I 
def fM_within_K (rv : Option Value) (μf : xM) : (Int32 × xM) → Prop := fun o => rv = some (.int o.1) ∧ μf = o.2
noncomputable def fM_within_16  (v0 : Nat) (μ : xM) : Option (Int32 × xM) := (fM_refuse v0 (xc (-1)) μ).bind fun r1 => some ((r1.1, r1.2))
theorem fM_within_16_ok {d : Nat} {v0 : Nat} {μ : xM} {rv : Option Value} {μf : xM} {out : Int32 × xM} (h : fM_within_16 v0 μ = some out) (hK : fM_within_K rv μf out) : xRun (d + 5) 178 16 [some (.ref v0), none, none] [] μ rv μf := by
  unfold fM_within_16 at h
  refine xr_go 2 (pc' := 18) (lo' := [some (.ref v0), none, none]) (st' := [.int (xc (-1)), .ref v0]) (μ' := μ) rfl ?_
  obtain ⟨r1, hr1, h⟩ := Option.bind_eq_some_iff.mp h
  refine xr_callV (j := 138) (d' := (d + 4)) (rv1 := some (.int r1.1)) (μ1 := r1.2) (rest := []) (As := [.int (xc (-1))]) rfl rfl rfl rfl (Nat.le_of_ble_eq_true rfl) (fM_refuse_kd hr1) rfl (by exact (fM_refuse_ok (d := d + (4)) hr1)) ?_
  have ho := Option.some.inj h
  subst ho
  obtain ⟨rfl, rfl⟩ := hK
  exact xr_ret (rv := some (.int r1.1)) rfl rfl (Or.inl rfl)
noncomputable def fM_within_0  (v0 : Nat) (v1 : Int32) (v2 : Int32) (μ : xM) : Option (Int32 × xM) := (fM_isAsk v0 v1 μ).bind fun r2 => if r2 = 0 then (fM_within_16 v0 μ) else ((fM_isAsk v0 v2 μ).bind fun r3 => if r3 = 0 then (fM_within_16 v0 μ) else ((fM_isWithin v0 v1 v2 μ).bind fun r4 => if r4.1 = 0 then (some ((xc 0, r4.2))) else (some ((xc 1, r4.2)))))
theorem fM_within_0_ok {d : Nat} {v0 : Nat} {v1 : Int32} {v2 : Int32} {μ : xM} {rv : Option Value} {μf : xM} {out : Int32 × xM} (h : fM_within_0 v0 v1 v2 μ = some out) (hK : fM_within_K rv μf out) : xRun (d + 5) 178 0 [some (.ref v0), some (.int v1), some (.int v2)] [] μ rv μf := by
  unfold fM_within_0 at h
  refine xr_go 2 (pc' := 2) (lo' := [some (.ref v0), some (.int v1), some (.int v2)]) (st' := [.int v1, .ref v0]) (μ' := μ) rfl ?_
  obtain ⟨r2, hr2, h⟩ := Option.bind_eq_some_iff.mp h
  refine xr_callV (j := 139) (d' := (d + 4)) (rv1 := some (.int r2)) (μ1 := μ) (rest := []) (As := [.int v1]) rfl rfl rfl rfl (Nat.le_of_ble_eq_true rfl) (fM_isAsk_kd hr2) rfl (by exact (fM_isAsk_ok (d := d + (3)) hr2)) ?_
  refine xr_ifc (pct := 16) rfl rfl rfl (fun hc => ?_) (fun hc => ?_)
  · replace h := (if_pos (of_decide_eq_true hc)).symm.trans h
    refine xr_forget (lo := [some (.ref v0), none, none]) ⟨rfl, trivial⟩ ?_
    exact fM_within_16_ok h hK
  · replace h := (if_neg (of_decide_eq_false hc)).symm.trans h
    refine xr_go 2 (pc' := 10) (lo' := [some (.ref v0), some (.int v1), some (.int v2)]) (st' := [.int v2, .ref v0]) (μ' := μ) rfl ?_
    obtain ⟨r3, hr3, h⟩ := Option.bind_eq_some_iff.mp h
    refine xr_callV (j := 139) (d' := (d + 4)) (rv1 := some (.int r3)) (μ1 := μ) (rest := []) (As := [.int v2]) rfl rfl rfl rfl (Nat.le_of_ble_eq_true rfl) (fM_isAsk_kd hr3) rfl (by exact (fM_isAsk_ok (d := d + (3)) hr3)) ?_
    refine xr_ifc (pct := 22) rfl rfl rfl (fun hc => ?_) (fun hc => ?_)
    · replace h := (if_neg (of_decide_eq_true hc)).symm.trans h
      refine xr_go 3 (pc' := 25) (lo' := [some (.ref v0), some (.int v1), some (.int v2)]) (st' := [.int v2, .int v1, .ref v0]) (μ' := μ) rfl ?_
      obtain ⟨r4, hr4, h⟩ := Option.bind_eq_some_iff.mp h
      refine xr_callV (j := 177) (d' := (d + 4)) (rv1 := some (.int r4.1)) (μ1 := r4.2) (rest := []) (As := [.int v1, .int v2]) rfl rfl rfl rfl (Nat.le_of_ble_eq_true rfl) (fM_isWithin_kd hr4) rfl (by exact (fM_isWithin_ok (d := d + (0)) hr4)) ?_
      refine xr_ifc (pct := 35) rfl rfl rfl (fun hc => ?_) (fun hc => ?_)
      · replace h := (if_pos (of_decide_eq_true hc)).symm.trans h
        refine xr_go 1 (pc' := 36) (lo' := [some (.ref v0), some (.int v1), some (.int v2)]) (st' := [.int (xc 0)]) (μ' := r4.2) rfl ?_
        have ho := Option.some.inj h
        subst ho
        obtain ⟨rfl, rfl⟩ := hK
        exact xr_ret (rv := some (.int (xc 0))) rfl rfl (Or.inl rfl)
      · replace h := (if_neg (of_decide_eq_false hc)).symm.trans h
        refine xr_go 2 (pc' := 36) (lo' := [some (.ref v0), some (.int v1), some (.int v2)]) (st' := [.int (xc 1)]) (μ' := r4.2) rfl ?_
        have ho := Option.some.inj h
        subst ho
        obtain ⟨rfl, rfl⟩ := hK
        exact xr_ret (rv := some (.int (xc 1))) rfl rfl (Or.inl rfl)
    · replace h := (if_pos (Decidable.of_not_not (of_decide_eq_false hc))).symm.trans h
      refine xr_forget (lo := [some (.ref v0), none, none]) ⟨rfl, trivial⟩ ?_
      exact fM_within_16_ok h hK
noncomputable def fM_within (a0 : Nat) (a1 : Int32) (a2 : Int32) (μ : xM) : Option (Int32 × xM) := xgd μ a0 9 (fM_within_0 a0 a1 a2 μ)
theorem fM_within_kd {a0 : Nat} {a1 : Int32} {a2 : Int32} {μ : xM} {o : Int32 × xM} (h : fM_within a0 a1 a2 μ = some o) : (xK μ a0).1 = 10 + 9 := (xgd_some h).1
theorem fM_within_ok {d : Nat} {a0 : Nat} {a1 : Int32} {a2 : Int32} {μ : xM} {o : Int32 × xM} (h : fM_within a0 a1 a2 μ = some o) : xRun (d + 5) 178 0 [some (.ref a0), some (.int a1), some (.int a2)] [] μ (some (.int o.1)) o.2 :=
  xr_forget (lo := [some (.ref a0), some (.int a1), some (.int a2)]) (⟨rfl, rfl, rfl, trivial⟩) (fM_within_0_ok (d := d) (xgd_some h).2 (show fM_within_K _ _ o from ⟨rfl, rfl⟩))
-- KeptAnswers.same(II)I 
def fX_same_K (rv : Option Value) (μf : xM) : (Int32 × xM) → Prop := fun o => rv = some (.int o.1) ∧ μf = o.2
noncomputable def fX_same_44  (μ : xM) : Option (Int32 × xM) := some ((xc 0, μ))
theorem fX_same_44_ok {d : Nat} {μ : xM} {rv : Option Value} {μf : xM} {out : Int32 × xM} (h : fX_same_44 μ = some out) (hK : fX_same_K rv μf out) : xRun (d + 13) 15 44 [none, none, none] [] μ rv μf := by
  unfold fX_same_44 at h
  refine xr_go 1 (pc' := 45) (lo' := [none, none, none]) (st' := [.int (xc 0)]) (μ' := μ) rfl ?_
  have ho := Option.some.inj h
  subst ho
  obtain ⟨rfl, rfl⟩ := hK
  exact xr_ret (rv := some (.int (xc 0))) rfl rfl (Or.inl rfl)
noncomputable def fX_same_16  (v0 : Nat) (μ : xM) : Option (Int32 × xM) := (fX_refuse v0 (xc (-1)) μ).bind fun r1 => some ((r1.1, r1.2))
theorem fX_same_16_ok {d : Nat} {v0 : Nat} {μ : xM} {rv : Option Value} {μf : xM} {out : Int32 × xM} (h : fX_same_16 v0 μ = some out) (hK : fX_same_K rv μf out) : xRun (d + 13) 15 16 [some (.ref v0), none, none] [] μ rv μf := by
  unfold fX_same_16 at h
  refine xr_go 2 (pc' := 18) (lo' := [some (.ref v0), none, none]) (st' := [.int (xc (-1)), .ref v0]) (μ' := μ) rfl ?_
  obtain ⟨r1, hr1, h⟩ := Option.bind_eq_some_iff.mp h
  refine xr_callV (j := 37) (d' := (d + 12)) (rv1 := some (.int r1.1)) (μ1 := r1.2) (rest := []) (As := [.int (xc (-1))]) rfl rfl rfl rfl (Nat.le_of_ble_eq_true rfl) (fX_refuse_kd hr1) rfl (by exact (fX_refuse_ok (d := d + (12)) hr1)) ?_
  have ho := Option.some.inj h
  subst ho
  obtain ⟨rfl, rfl⟩ := hK
  exact xr_ret (rv := some (.int r1.1)) rfl rfl (Or.inl rfl)
noncomputable def fX_same_0  (v0 : Nat) (v1 : Int32) (v2 : Int32) (μ : xM) : Option (Int32 × xM) := (fX_isAsk v0 v1 μ).bind fun r2 => if r2 = 0 then (fX_same_16 v0 μ) else ((fX_isAsk v0 v2 μ).bind fun r3 => if r3 = 0 then (fX_same_16 v0 μ) else ((fX_liesWithin v0 v1 v2 μ).bind fun r4 => if r4.1 = 0 then (fX_same_44 r4.2) else ((fX_liesWithin v0 v2 v1 r4.2).bind fun r5 => if r5.1 = 0 then (fX_same_44 r5.2) else (some ((xc 1, r5.2))))))
theorem fX_same_0_ok {d : Nat} {v0 : Nat} {v1 : Int32} {v2 : Int32} {μ : xM} {rv : Option Value} {μf : xM} {out : Int32 × xM} (h : fX_same_0 v0 v1 v2 μ = some out) (hK : fX_same_K rv μf out) : xRun (d + 13) 15 0 [some (.ref v0), some (.int v1), some (.int v2)] [] μ rv μf := by
  unfold fX_same_0 at h
  refine xr_go 2 (pc' := 2) (lo' := [some (.ref v0), some (.int v1), some (.int v2)]) (st' := [.int v1, .ref v0]) (μ' := μ) rfl ?_
  obtain ⟨r2, hr2, h⟩ := Option.bind_eq_some_iff.mp h
  refine xr_callV (j := 39) (d' := (d + 12)) (rv1 := some (.int r2)) (μ1 := μ) (rest := []) (As := [.int v1]) rfl rfl rfl rfl (Nat.le_of_ble_eq_true rfl) (fX_isAsk_kd hr2) rfl (by exact (fX_isAsk_ok (d := d + (12)) hr2)) ?_
  refine xr_ifc (pct := 16) rfl rfl rfl (fun hc => ?_) (fun hc => ?_)
  · replace h := (if_pos (of_decide_eq_true hc)).symm.trans h
    refine xr_forget (lo := [some (.ref v0), none, none]) ⟨rfl, trivial⟩ ?_
    exact fX_same_16_ok h hK
  · replace h := (if_neg (of_decide_eq_false hc)).symm.trans h
    refine xr_go 2 (pc' := 10) (lo' := [some (.ref v0), some (.int v1), some (.int v2)]) (st' := [.int v2, .ref v0]) (μ' := μ) rfl ?_
    obtain ⟨r3, hr3, h⟩ := Option.bind_eq_some_iff.mp h
    refine xr_callV (j := 39) (d' := (d + 12)) (rv1 := some (.int r3)) (μ1 := μ) (rest := []) (As := [.int v2]) rfl rfl rfl rfl (Nat.le_of_ble_eq_true rfl) (fX_isAsk_kd hr3) rfl (by exact (fX_isAsk_ok (d := d + (12)) hr3)) ?_
    refine xr_ifc (pct := 22) rfl rfl rfl (fun hc => ?_) (fun hc => ?_)
    · replace h := (if_neg (of_decide_eq_true hc)).symm.trans h
      refine xr_go 3 (pc' := 25) (lo' := [some (.ref v0), some (.int v1), some (.int v2)]) (st' := [.int v2, .int v1, .ref v0]) (μ' := μ) rfl ?_
      obtain ⟨r4, hr4, h⟩ := Option.bind_eq_some_iff.mp h
      refine xr_callV (j := 49) (d' := (d + 12)) (rv1 := some (.int r4.1)) (μ1 := r4.2) (rest := []) (As := [.int v1, .int v2]) rfl rfl rfl rfl (Nat.le_of_ble_eq_true rfl) (fX_liesWithin_kd hr4) rfl (by exact (fX_liesWithin_ok (d := d + (0)) hr4)) ?_
      refine xr_ifc (pct := 44) rfl rfl rfl (fun hc => ?_) (fun hc => ?_)
      · replace h := (if_pos (of_decide_eq_true hc)).symm.trans h
        refine xr_forget (lo := [none, none, none]) trivial ?_
        exact fX_same_44_ok h hK
      · replace h := (if_neg (of_decide_eq_false hc)).symm.trans h
        refine xr_go 3 (pc' := 34) (lo' := [some (.ref v0), some (.int v1), some (.int v2)]) (st' := [.int v1, .int v2, .ref v0]) (μ' := r4.2) rfl ?_
        obtain ⟨r5, hr5, h⟩ := Option.bind_eq_some_iff.mp h
        refine xr_callV (j := 49) (d' := (d + 12)) (rv1 := some (.int r5.1)) (μ1 := r5.2) (rest := []) (As := [.int v2, .int v1]) rfl rfl rfl rfl (Nat.le_of_ble_eq_true rfl) (fX_liesWithin_kd hr5) rfl (by exact (fX_liesWithin_ok (d := d + (0)) hr5)) ?_
        refine xr_ifc (pct := 44) rfl rfl rfl (fun hc => ?_) (fun hc => ?_)
        · replace h := (if_pos (of_decide_eq_true hc)).symm.trans h
          refine xr_forget (lo := [none, none, none]) trivial ?_
          exact fX_same_44_ok h hK
        · replace h := (if_neg (of_decide_eq_false hc)).symm.trans h
          refine xr_go 2 (pc' := 45) (lo' := [some (.ref v0), some (.int v1), some (.int v2)]) (st' := [.int (xc 1)]) (μ' := r5.2) rfl ?_
          have ho := Option.some.inj h
          subst ho
          obtain ⟨rfl, rfl⟩ := hK
          exact xr_ret (rv := some (.int (xc 1))) rfl rfl (Or.inl rfl)
    · replace h := (if_pos (Decidable.of_not_not (of_decide_eq_false hc))).symm.trans h
      refine xr_forget (lo := [some (.ref v0), none, none]) ⟨rfl, trivial⟩ ?_
      exact fX_same_16_ok h hK
noncomputable def fX_same (a0 : Nat) (a1 : Int32) (a2 : Int32) (μ : xM) : Option (Int32 × xM) := xgd μ a0 0 (fX_same_0 a0 a1 a2 μ)
theorem fX_same_kd {a0 : Nat} {a1 : Int32} {a2 : Int32} {μ : xM} {o : Int32 × xM} (h : fX_same a0 a1 a2 μ = some o) : (xK μ a0).1 = 10 + 0 := (xgd_some h).1
theorem fX_same_ok {d : Nat} {a0 : Nat} {a1 : Int32} {a2 : Int32} {μ : xM} {o : Int32 × xM} (h : fX_same a0 a1 a2 μ = some o) : xRun (d + 13) 15 0 [some (.ref a0), some (.int a1), some (.int a2)] [] μ (some (.int o.1)) o.2 :=
  xr_forget (lo := [some (.ref a0), some (.int a1), some (.int a2)]) (⟨rfl, rfl, rfl, trivial⟩) (fX_same_0_ok (d := d) (xgd_some h).2 (show fX_same_K _ _ o from ⟨rfl, rfl⟩))
-- KeptAnswersModel.same(II)I 
def fM_same_K (rv : Option Value) (μf : xM) : (Int32 × xM) → Prop := fun o => rv = some (.int o.1) ∧ μf = o.2
noncomputable def fM_same_44  (μ : xM) : Option (Int32 × xM) := some ((xc 0, μ))
theorem fM_same_44_ok {d : Nat} {μ : xM} {rv : Option Value} {μf : xM} {out : Int32 × xM} (h : fM_same_44 μ = some out) (hK : fM_same_K rv μf out) : xRun (d + 5) 179 44 [none, none, none] [] μ rv μf := by
  unfold fM_same_44 at h
  refine xr_go 1 (pc' := 45) (lo' := [none, none, none]) (st' := [.int (xc 0)]) (μ' := μ) rfl ?_
  have ho := Option.some.inj h
  subst ho
  obtain ⟨rfl, rfl⟩ := hK
  exact xr_ret (rv := some (.int (xc 0))) rfl rfl (Or.inl rfl)
noncomputable def fM_same_16  (v0 : Nat) (μ : xM) : Option (Int32 × xM) := (fM_refuse v0 (xc (-1)) μ).bind fun r1 => some ((r1.1, r1.2))
theorem fM_same_16_ok {d : Nat} {v0 : Nat} {μ : xM} {rv : Option Value} {μf : xM} {out : Int32 × xM} (h : fM_same_16 v0 μ = some out) (hK : fM_same_K rv μf out) : xRun (d + 5) 179 16 [some (.ref v0), none, none] [] μ rv μf := by
  unfold fM_same_16 at h
  refine xr_go 2 (pc' := 18) (lo' := [some (.ref v0), none, none]) (st' := [.int (xc (-1)), .ref v0]) (μ' := μ) rfl ?_
  obtain ⟨r1, hr1, h⟩ := Option.bind_eq_some_iff.mp h
  refine xr_callV (j := 138) (d' := (d + 4)) (rv1 := some (.int r1.1)) (μ1 := r1.2) (rest := []) (As := [.int (xc (-1))]) rfl rfl rfl rfl (Nat.le_of_ble_eq_true rfl) (fM_refuse_kd hr1) rfl (by exact (fM_refuse_ok (d := d + (4)) hr1)) ?_
  have ho := Option.some.inj h
  subst ho
  obtain ⟨rfl, rfl⟩ := hK
  exact xr_ret (rv := some (.int r1.1)) rfl rfl (Or.inl rfl)
noncomputable def fM_same_0  (v0 : Nat) (v1 : Int32) (v2 : Int32) (μ : xM) : Option (Int32 × xM) := (fM_isAsk v0 v1 μ).bind fun r2 => if r2 = 0 then (fM_same_16 v0 μ) else ((fM_isAsk v0 v2 μ).bind fun r3 => if r3 = 0 then (fM_same_16 v0 μ) else ((fM_isWithin v0 v1 v2 μ).bind fun r4 => if r4.1 = 0 then (fM_same_44 r4.2) else ((fM_isWithin v0 v2 v1 r4.2).bind fun r5 => if r5.1 = 0 then (fM_same_44 r5.2) else (some ((xc 1, r5.2))))))
theorem fM_same_0_ok {d : Nat} {v0 : Nat} {v1 : Int32} {v2 : Int32} {μ : xM} {rv : Option Value} {μf : xM} {out : Int32 × xM} (h : fM_same_0 v0 v1 v2 μ = some out) (hK : fM_same_K rv μf out) : xRun (d + 5) 179 0 [some (.ref v0), some (.int v1), some (.int v2)] [] μ rv μf := by
  unfold fM_same_0 at h
  refine xr_go 2 (pc' := 2) (lo' := [some (.ref v0), some (.int v1), some (.int v2)]) (st' := [.int v1, .ref v0]) (μ' := μ) rfl ?_
  obtain ⟨r2, hr2, h⟩ := Option.bind_eq_some_iff.mp h
  refine xr_callV (j := 139) (d' := (d + 4)) (rv1 := some (.int r2)) (μ1 := μ) (rest := []) (As := [.int v1]) rfl rfl rfl rfl (Nat.le_of_ble_eq_true rfl) (fM_isAsk_kd hr2) rfl (by exact (fM_isAsk_ok (d := d + (3)) hr2)) ?_
  refine xr_ifc (pct := 16) rfl rfl rfl (fun hc => ?_) (fun hc => ?_)
  · replace h := (if_pos (of_decide_eq_true hc)).symm.trans h
    refine xr_forget (lo := [some (.ref v0), none, none]) ⟨rfl, trivial⟩ ?_
    exact fM_same_16_ok h hK
  · replace h := (if_neg (of_decide_eq_false hc)).symm.trans h
    refine xr_go 2 (pc' := 10) (lo' := [some (.ref v0), some (.int v1), some (.int v2)]) (st' := [.int v2, .ref v0]) (μ' := μ) rfl ?_
    obtain ⟨r3, hr3, h⟩ := Option.bind_eq_some_iff.mp h
    refine xr_callV (j := 139) (d' := (d + 4)) (rv1 := some (.int r3)) (μ1 := μ) (rest := []) (As := [.int v2]) rfl rfl rfl rfl (Nat.le_of_ble_eq_true rfl) (fM_isAsk_kd hr3) rfl (by exact (fM_isAsk_ok (d := d + (3)) hr3)) ?_
    refine xr_ifc (pct := 22) rfl rfl rfl (fun hc => ?_) (fun hc => ?_)
    · replace h := (if_neg (of_decide_eq_true hc)).symm.trans h
      refine xr_go 3 (pc' := 25) (lo' := [some (.ref v0), some (.int v1), some (.int v2)]) (st' := [.int v2, .int v1, .ref v0]) (μ' := μ) rfl ?_
      obtain ⟨r4, hr4, h⟩ := Option.bind_eq_some_iff.mp h
      refine xr_callV (j := 177) (d' := (d + 4)) (rv1 := some (.int r4.1)) (μ1 := r4.2) (rest := []) (As := [.int v1, .int v2]) rfl rfl rfl rfl (Nat.le_of_ble_eq_true rfl) (fM_isWithin_kd hr4) rfl (by exact (fM_isWithin_ok (d := d + (0)) hr4)) ?_
      refine xr_ifc (pct := 44) rfl rfl rfl (fun hc => ?_) (fun hc => ?_)
      · replace h := (if_pos (of_decide_eq_true hc)).symm.trans h
        refine xr_forget (lo := [none, none, none]) trivial ?_
        exact fM_same_44_ok h hK
      · replace h := (if_neg (of_decide_eq_false hc)).symm.trans h
        refine xr_go 3 (pc' := 34) (lo' := [some (.ref v0), some (.int v1), some (.int v2)]) (st' := [.int v1, .int v2, .ref v0]) (μ' := r4.2) rfl ?_
        obtain ⟨r5, hr5, h⟩ := Option.bind_eq_some_iff.mp h
        refine xr_callV (j := 177) (d' := (d + 4)) (rv1 := some (.int r5.1)) (μ1 := r5.2) (rest := []) (As := [.int v2, .int v1]) rfl rfl rfl rfl (Nat.le_of_ble_eq_true rfl) (fM_isWithin_kd hr5) rfl (by exact (fM_isWithin_ok (d := d + (0)) hr5)) ?_
        refine xr_ifc (pct := 44) rfl rfl rfl (fun hc => ?_) (fun hc => ?_)
        · replace h := (if_pos (of_decide_eq_true hc)).symm.trans h
          refine xr_forget (lo := [none, none, none]) trivial ?_
          exact fM_same_44_ok h hK
        · replace h := (if_neg (of_decide_eq_false hc)).symm.trans h
          refine xr_go 2 (pc' := 45) (lo' := [some (.ref v0), some (.int v1), some (.int v2)]) (st' := [.int (xc 1)]) (μ' := r5.2) rfl ?_
          have ho := Option.some.inj h
          subst ho
          obtain ⟨rfl, rfl⟩ := hK
          exact xr_ret (rv := some (.int (xc 1))) rfl rfl (Or.inl rfl)
    · replace h := (if_pos (Decidable.of_not_not (of_decide_eq_false hc))).symm.trans h
      refine xr_forget (lo := [some (.ref v0), none, none]) ⟨rfl, trivial⟩ ?_
      exact fM_same_16_ok h hK
noncomputable def fM_same (a0 : Nat) (a1 : Int32) (a2 : Int32) (μ : xM) : Option (Int32 × xM) := xgd μ a0 9 (fM_same_0 a0 a1 a2 μ)
theorem fM_same_kd {a0 : Nat} {a1 : Int32} {a2 : Int32} {μ : xM} {o : Int32 × xM} (h : fM_same a0 a1 a2 μ = some o) : (xK μ a0).1 = 10 + 9 := (xgd_some h).1
theorem fM_same_ok {d : Nat} {a0 : Nat} {a1 : Int32} {a2 : Int32} {μ : xM} {o : Int32 × xM} (h : fM_same a0 a1 a2 μ = some o) : xRun (d + 5) 179 0 [some (.ref a0), some (.int a1), some (.int a2)] [] μ (some (.int o.1)) o.2 :=
  xr_forget (lo := [some (.ref a0), some (.int a1), some (.int a2)]) (⟨rfl, rfl, rfl, trivial⟩) (fM_same_0_ok (d := d) (xgd_some h).2 (show fM_same_K _ _ o from ⟨rfl, rfl⟩))
-- KeptAnswers.showsRefusal(I)I 
def fX_showsRefusal_K (rv : Option Value) (μf : xM) : (Int32 × xM) → Prop := fun o => rv = some (.int o.1) ∧ μf = o.2
noncomputable def fX_showsRefusal_0  (v0 : Nat) (v1 : Int32) (μ : xM) : Option (Int32 × xM) := (fX_isAsk v0 v1 μ).bind fun r1 => if r1 = 0 then (some ((xc (-1), μ))) else ((fX_seen v0 v1 μ).bind fun r2 => (ldF r2.2 r2.1 6 3).bind fun x3 => if x3 = 0 then (some ((xc 0, r2.2))) else (some ((xc (-5), r2.2))))
theorem fX_showsRefusal_0_ok {d : Nat} {v0 : Nat} {v1 : Int32} {μ : xM} {rv : Option Value} {μf : xM} {out : Int32 × xM} (h : fX_showsRefusal_0 v0 v1 μ = some out) (hK : fX_showsRefusal_K rv μf out) : xRun (d + 12) 43 0 [some (.ref v0), some (.int v1)] [] μ rv μf := by
  unfold fX_showsRefusal_0 at h
  refine xr_go 2 (pc' := 2) (lo' := [some (.ref v0), some (.int v1)]) (st' := [.int v1, .ref v0]) (μ' := μ) rfl ?_
  obtain ⟨r1, hr1, h⟩ := Option.bind_eq_some_iff.mp h
  refine xr_callV (j := 39) (d' := (d + 11)) (rv1 := some (.int r1)) (μ1 := μ) (rest := []) (As := [.int v1]) rfl rfl rfl rfl (Nat.le_of_ble_eq_true rfl) (fX_isAsk_kd hr1) rfl (by exact (fX_isAsk_ok (d := d + (11)) hr1)) ?_
  refine xr_ifc (pct := 10) rfl rfl rfl (fun hc => ?_) (fun hc => ?_)
  · replace h := (if_neg (of_decide_eq_true hc)).symm.trans h
    refine xr_go 2 (pc' := 12) (lo' := [some (.ref v0), some (.int v1)]) (st' := [.int v1, .ref v0]) (μ' := μ) rfl ?_
    obtain ⟨r2, hr2, h⟩ := Option.bind_eq_some_iff.mp h
    refine xr_callV (j := 47) (d' := (d + 11)) (rv1 := some (.ref r2.1)) (μ1 := r2.2) (rest := []) (As := [.int v1]) rfl rfl rfl rfl (Nat.le_of_ble_eq_true rfl) (fX_seen_kd hr2) rfl (by exact (fX_seen_ok (d := d + (0)) hr2)) ?_
    obtain ⟨x3, hx3, h⟩ := Option.bind_eq_some_iff.mp h
    refine xr_opI (pc' := 18) (lo' := [some (.ref v0), some (.int v1)]) (st' := []) (o := ldF r2.2 r2.1 6 3) rfl hx3 ?_
    refine xr_ifc (pct := 26) rfl rfl rfl (fun hc => ?_) (fun hc => ?_)
    · replace h := (if_pos (of_decide_eq_true hc)).symm.trans h
      refine xr_go 1 (pc' := 27) (lo' := [some (.ref v0), some (.int v1)]) (st' := [.int (xc 0)]) (μ' := r2.2) rfl ?_
      have ho := Option.some.inj h
      subst ho
      obtain ⟨rfl, rfl⟩ := hK
      exact xr_ret (rv := some (.int (xc 0))) rfl rfl (Or.inl rfl)
    · replace h := (if_neg (of_decide_eq_false hc)).symm.trans h
      refine xr_go 2 (pc' := 27) (lo' := [some (.ref v0), some (.int v1)]) (st' := [.int (xc (-5))]) (μ' := r2.2) rfl ?_
      have ho := Option.some.inj h
      subst ho
      obtain ⟨rfl, rfl⟩ := hK
      exact xr_ret (rv := some (.int (xc (-5)))) rfl rfl (Or.inl rfl)
  · replace h := (if_pos (Decidable.of_not_not (of_decide_eq_false hc))).symm.trans h
    refine xr_go 1 (pc' := 9) (lo' := [some (.ref v0), some (.int v1)]) (st' := [.int (xc (-1))]) (μ' := μ) rfl ?_
    have ho := Option.some.inj h
    subst ho
    obtain ⟨rfl, rfl⟩ := hK
    exact xr_ret (rv := some (.int (xc (-1)))) rfl rfl (Or.inl rfl)
noncomputable def fX_showsRefusal (a0 : Nat) (a1 : Int32) (μ : xM) : Option (Int32 × xM) := xgd μ a0 0 (fX_showsRefusal_0 a0 a1 μ)
theorem fX_showsRefusal_kd {a0 : Nat} {a1 : Int32} {μ : xM} {o : Int32 × xM} (h : fX_showsRefusal a0 a1 μ = some o) : (xK μ a0).1 = 10 + 0 := (xgd_some h).1
theorem fX_showsRefusal_ok {d : Nat} {a0 : Nat} {a1 : Int32} {μ : xM} {o : Int32 × xM} (h : fX_showsRefusal a0 a1 μ = some o) : xRun (d + 12) 43 0 [some (.ref a0), some (.int a1)] [] μ (some (.int o.1)) o.2 :=
  xr_forget (lo := [some (.ref a0), some (.int a1)]) (⟨rfl, rfl, trivial⟩) (fX_showsRefusal_0_ok (d := d) (xgd_some h).2 (show fX_showsRefusal_K _ _ o from ⟨rfl, rfl⟩))
-- KeptAnswers.shows(I)I 
def fX_shows_K (rv : Option Value) (μf : xM) : (Int32 × xM) → Prop := fun o => rv = some (.int o.1) ∧ μf = o.2
noncomputable def fX_shows_0  (v0 : Nat) (v1 : Int32) (μ : xM) : Option (Int32 × xM) := (fX_showsRefusal v0 v1 μ).bind fun r1 => if r1.1 = 0 then ((fX_seen v0 v1 r1.2).bind fun r2 => (ldF r2.2 r2.1 6 2).bind fun x3 => some ((x3, r2.2))) else ((fX_refuse v0 r1.1 r1.2).bind fun r4 => some ((r4.1, r4.2)))
theorem fX_shows_0_ok {d : Nat} {v0 : Nat} {v1 : Int32} {μ : xM} {rv : Option Value} {μf : xM} {out : Int32 × xM} (h : fX_shows_0 v0 v1 μ = some out) (hK : fX_shows_K rv μf out) : xRun (d + 13) 16 0 [some (.ref v0), some (.int v1), none] [] μ rv μf := by
  unfold fX_shows_0 at h
  refine xr_go 2 (pc' := 2) (lo' := [some (.ref v0), some (.int v1), none]) (st' := [.int v1, .ref v0]) (μ' := μ) rfl ?_
  obtain ⟨r1, hr1, h⟩ := Option.bind_eq_some_iff.mp h
  refine xr_callV (j := 43) (d' := (d + 12)) (rv1 := some (.int r1.1)) (μ1 := r1.2) (rest := []) (As := [.int v1]) rfl rfl rfl rfl (Nat.le_of_ble_eq_true rfl) (fX_showsRefusal_kd hr1) rfl (by exact (fX_showsRefusal_ok (d := d + (0)) hr1)) ?_
  refine xr_go 2 (pc' := 7) (lo' := [some (.ref v0), some (.int v1), some (.int r1.1)]) (st' := [.int r1.1]) (μ' := r1.2) rfl ?_
  refine xr_ifc (pct := 18) rfl rfl rfl (fun hc => ?_) (fun hc => ?_)
  · replace h := (if_pos (of_decide_eq_true hc)).symm.trans h
    refine xr_go 2 (pc' := 20) (lo' := [some (.ref v0), some (.int v1), some (.int r1.1)]) (st' := [.int v1, .ref v0]) (μ' := r1.2) rfl ?_
    obtain ⟨r2, hr2, h⟩ := Option.bind_eq_some_iff.mp h
    refine xr_callV (j := 47) (d' := (d + 12)) (rv1 := some (.ref r2.1)) (μ1 := r2.2) (rest := []) (As := [.int v1]) rfl rfl rfl rfl (Nat.le_of_ble_eq_true rfl) (fX_seen_kd hr2) rfl (by exact (fX_seen_ok (d := d + (1)) hr2)) ?_
    obtain ⟨x3, hx3, h⟩ := Option.bind_eq_some_iff.mp h
    refine xr_opI (pc' := 26) (lo' := [some (.ref v0), some (.int v1), some (.int r1.1)]) (st' := []) (o := ldF r2.2 r2.1 6 2) rfl hx3 ?_
    have ho := Option.some.inj h
    subst ho
    obtain ⟨rfl, rfl⟩ := hK
    exact xr_ret (rv := some (.int x3)) rfl rfl (Or.inl rfl)
  · replace h := (if_neg (of_decide_eq_false hc)).symm.trans h
    refine xr_go 2 (pc' := 12) (lo' := [some (.ref v0), some (.int v1), some (.int r1.1)]) (st' := [.int r1.1, .ref v0]) (μ' := r1.2) rfl ?_
    obtain ⟨r4, hr4, h⟩ := Option.bind_eq_some_iff.mp h
    refine xr_callV (j := 37) (d' := (d + 12)) (rv1 := some (.int r4.1)) (μ1 := r4.2) (rest := []) (As := [.int r1.1]) rfl rfl rfl rfl (Nat.le_of_ble_eq_true rfl) (fX_refuse_kd hr4) rfl (by exact (fX_refuse_ok (d := d + (12)) hr4)) ?_
    refine xr_go 1 (pc' := 26) (lo' := [some (.ref v0), some (.int v1), some (.int r1.1)]) (st' := [.int r4.1]) (μ' := r4.2) rfl ?_
    have ho := Option.some.inj h
    subst ho
    obtain ⟨rfl, rfl⟩ := hK
    exact xr_ret (rv := some (.int r4.1)) rfl rfl (Or.inl rfl)
noncomputable def fX_shows (a0 : Nat) (a1 : Int32) (μ : xM) : Option (Int32 × xM) := xgd μ a0 0 (fX_shows_0 a0 a1 μ)
theorem fX_shows_kd {a0 : Nat} {a1 : Int32} {μ : xM} {o : Int32 × xM} (h : fX_shows a0 a1 μ = some o) : (xK μ a0).1 = 10 + 0 := (xgd_some h).1
theorem fX_shows_ok {d : Nat} {a0 : Nat} {a1 : Int32} {μ : xM} {o : Int32 × xM} (h : fX_shows a0 a1 μ = some o) : xRun (d + 13) 16 0 [some (.ref a0), some (.int a1), none] [] μ (some (.int o.1)) o.2 :=
  xr_forget (lo := [some (.ref a0), some (.int a1), none]) (⟨rfl, rfl, trivial⟩) (fX_shows_0_ok (d := d) (xgd_some h).2 (show fX_shows_K _ _ o from ⟨rfl, rfl⟩))
-- KeptAnswersModel.termsOf(I)I 
def fM_termsOf_K (μ : xM) (rv : Option Value) (μf : xM) : (Int32) → Prop := fun o => rv = some (.int o) ∧ μf = μ
def fM_termsOf_K4 (v0 : Nat) (v1 : Int32) (μ : xM) (d : Nat) (rv : Option Value) (μf : xM) : ((Int32 × Int32) ⊕ (Int32)) → Prop := Sum.elim (fun s : Int32 × Int32 => xRun (d + 0) 180 4 [some (.ref v0), some (.int v1), some (.int s.1), some (.int s.2)] [] μ rv μf) (fM_termsOf_K μ rv μf)
noncomputable def fM_termsOf_47  (v2 : Int32) (μ : xM) : Option (Int32) := some v2
theorem fM_termsOf_47_ok {d : Nat} {v2 : Int32} {μ : xM} {rv : Option Value} {μf : xM} {out : Int32} (h : fM_termsOf_47 v2 μ = some out) (hK : fM_termsOf_K μ rv μf out) : xRun (d + 0) 180 47 [none, none, some (.int v2), none] [] μ rv μf := by
  unfold fM_termsOf_47 at h
  refine xr_go 1 (pc' := 48) (lo' := [none, none, some (.int v2), none]) (st' := [.int v2]) (μ' := μ) rfl ?_
  have ho := Option.some.inj h
  subst ho
  obtain ⟨rfl, rfl⟩ := hK
  exact xr_ret (rv := some (.int v2)) rfl rfl (Or.inl rfl)
noncomputable def fM_termsOf_L4  (v0 : Nat) (v1 : Int32) (v2 : Int32) (v3 : Int32) (μ : xM) : Option ((Int32 × Int32) ⊕ (Int32)) := (ldFR μ v0 9 14).bind fun x1 => (ldA μ x1 ((xc 10) + v1)).bind fun x2 => if x2 ≤ v3 then ((fM_termsOf_47 v2 μ).map (fun o => .inr o)) else ((ldFR μ v0 9 38).bind fun x3 => (ldFR μ v0 9 15).bind fun x4 => (ldA μ x4 (((xc 3) * ((xc 10) + v1)) + v3)).bind fun x5 => (ldA μ x3 x5).bind fun x6 => some (.inl ((((xc 7) * v2) + x6, v3 + xc 1))))
theorem fM_termsOf_L4_ok {d : Nat} {v0 : Nat} {v1 : Int32} {v2 : Int32} {v3 : Int32} {μ : xM} {rv : Option Value} {μf : xM} {out : (Int32 × Int32) ⊕ (Int32)} (h : fM_termsOf_L4 v0 v1 v2 v3 μ = some out) (hK : fM_termsOf_K4 v0 v1 μ d rv μf out) : xRun (d + 0) 180 4 [some (.ref v0), some (.int v1), some (.int v2), some (.int v3)] [] μ rv μf := by
  unfold fM_termsOf_L4 at h
  refine xr_go 2 (pc' := 6) (lo' := [some (.ref v0), some (.int v1), some (.int v2), some (.int v3)]) (st' := [.ref v0, .int v3]) (μ' := μ) rfl ?_
  obtain ⟨x1, hx1, h⟩ := Option.bind_eq_some_iff.mp h
  refine xr_opA (pc' := 9) (lo' := [some (.ref v0), some (.int v1), some (.int v2), some (.int v3)]) (st' := [.int v3]) (o := ldFR μ v0 9 14) rfl hx1 ?_
  refine xr_go 3 (pc' := 13) (lo' := [some (.ref v0), some (.int v1), some (.int v2), some (.int v3)]) (st' := [.int ((xc 10) + v1), .ref x1, .int v3]) (μ' := μ) rfl ?_
  obtain ⟨x2, hx2, h⟩ := Option.bind_eq_some_iff.mp h
  refine xr_opI (pc' := 14) (lo' := [some (.ref v0), some (.int v1), some (.int v2), some (.int v3)]) (st' := [.int v3]) (o := ldA μ x1 ((xc 10) + v1)) rfl hx2 ?_
  refine xr_icmp (pct := 47) rfl rfl rfl (fun hc => ?_) (fun hc => ?_)
  · replace h := (if_pos (of_decide_eq_true hc)).symm.trans h
    refine xr_forget (lo := [none, none, some (.int v2), none]) ⟨rfl, trivial⟩ ?_
    obtain ⟨o, h2, rfl⟩ := Option.map_eq_some_iff.mp h
    exact fM_termsOf_47_ok h2 hK
  · replace h := (if_neg (of_decide_eq_false hc)).symm.trans h
    refine xr_go 4 (pc' := 22) (lo' := [some (.ref v0), some (.int v1), some (.int v2), some (.int v3)]) (st' := [.ref v0, .int ((xc 7) * v2)]) (μ' := μ) rfl ?_
    obtain ⟨x3, hx3, h⟩ := Option.bind_eq_some_iff.mp h
    refine xr_opA (pc' := 25) (lo' := [some (.ref v0), some (.int v1), some (.int v2), some (.int v3)]) (st' := [.int ((xc 7) * v2)]) (o := ldFR μ v0 9 38) rfl hx3 ?_
    refine xr_go 1 (pc' := 26) (lo' := [some (.ref v0), some (.int v1), some (.int v2), some (.int v3)]) (st' := [.ref v0, .ref x3, .int ((xc 7) * v2)]) (μ' := μ) rfl ?_
    obtain ⟨x4, hx4, h⟩ := Option.bind_eq_some_iff.mp h
    refine xr_opA (pc' := 29) (lo' := [some (.ref v0), some (.int v1), some (.int v2), some (.int v3)]) (st' := [.ref x3, .int ((xc 7) * v2)]) (o := ldFR μ v0 9 15) rfl hx4 ?_
    refine xr_go 7 (pc' := 37) (lo' := [some (.ref v0), some (.int v1), some (.int v2), some (.int v3)]) (st' := [.int (((xc 3) * ((xc 10) + v1)) + v3), .ref x4, .ref x3, .int ((xc 7) * v2)]) (μ' := μ) rfl ?_
    obtain ⟨x5, hx5, h⟩ := Option.bind_eq_some_iff.mp h
    refine xr_opI (pc' := 38) (lo' := [some (.ref v0), some (.int v1), some (.int v2), some (.int v3)]) (st' := [.ref x3, .int ((xc 7) * v2)]) (o := ldA μ x4 (((xc 3) * ((xc 10) + v1)) + v3)) rfl hx5 ?_
    obtain ⟨x6, hx6, h⟩ := Option.bind_eq_some_iff.mp h
    refine xr_opI (pc' := 39) (lo' := [some (.ref v0), some (.int v1), some (.int v2), some (.int v3)]) (st' := [.int ((xc 7) * v2)]) (o := ldA μ x3 x5) rfl hx6 ?_
    refine xr_go 4 (pc' := 4) (lo' := [some (.ref v0), some (.int v1), some (.int (((xc 7) * v2) + x6)), some (.int (v3 + xc 1))]) (st' := []) (μ' := μ) rfl ?_
    refine xr_forget (lo := [some (.ref v0), some (.int v1), some (.int (((xc 7) * v2) + x6)), some (.int (v3 + xc 1))]) ⟨rfl, rfl, rfl, rfl, trivial⟩ ?_
    have ho := Option.some.inj h
    subst ho
    exact hK
theorem fM_termsOf_L4_lp {d : Nat} {v0 : Nat} {v1 : Int32} {v2 : Int32} {v3 : Int32} {μ : xM} {rv : Option Value} {μf : xM} {out : Int32} (h : xwh (fun s : Int32 × Int32 => fM_termsOf_L4 v0 v1 s.1 s.2 μ) (v2, v3) = some out) (hK : fM_termsOf_K μ rv μf out) : xRun (d + 0) 180 4 [some (.ref v0), some (.int v1), some (.int v2), some (.int v3)] [] μ rv μf :=
  xwh_ind (Rh := fun s : Int32 × Int32 => xRun (d + 0) 180 4 [some (.ref v0), some (.int v1), some (.int s.1), some (.int s.2)] [] μ rv μf) (Co := fM_termsOf_K μ rv μf) (fun s o hb hk => fM_termsOf_L4_ok hb hk) h hK
noncomputable def fM_termsOf_0  (v0 : Nat) (v1 : Int32) (μ : xM) : Option (Int32) := xwh (fun s : Int32 × Int32 => fM_termsOf_L4 v0 v1 s.1 s.2 μ) (xc 0, xc 0)
theorem fM_termsOf_0_ok {d : Nat} {v0 : Nat} {v1 : Int32} {μ : xM} {rv : Option Value} {μf : xM} {out : Int32} (h : fM_termsOf_0 v0 v1 μ = some out) (hK : fM_termsOf_K μ rv μf out) : xRun (d + 0) 180 0 [some (.ref v0), some (.int v1), none, none] [] μ rv μf := by
  unfold fM_termsOf_0 at h
  refine xr_go 4 (pc' := 4) (lo' := [some (.ref v0), some (.int v1), some (.int (xc 0)), some (.int (xc 0))]) (st' := []) (μ' := μ) rfl ?_
  refine xr_forget (lo := [some (.ref v0), some (.int v1), some (.int (xc 0)), some (.int (xc 0))]) ⟨rfl, rfl, rfl, rfl, trivial⟩ ?_
  exact fM_termsOf_L4_lp h hK
noncomputable def fM_termsOf (a0 : Nat) (a1 : Int32) (μ : xM) : Option (Int32) := xgd μ a0 9 (fM_termsOf_0 a0 a1 μ)
theorem fM_termsOf_kd {a0 : Nat} {a1 : Int32} {μ : xM} {o : Int32} (h : fM_termsOf a0 a1 μ = some o) : (xK μ a0).1 = 10 + 9 := (xgd_some h).1
theorem fM_termsOf_ok {d : Nat} {a0 : Nat} {a1 : Int32} {μ : xM} {o : Int32} (h : fM_termsOf a0 a1 μ = some o) : xRun (d + 0) 180 0 [some (.ref a0), some (.int a1), none, none] [] μ (some (.int o)) μ :=
  xr_forget (lo := [some (.ref a0), some (.int a1), none, none]) (⟨rfl, rfl, trivial⟩) (fM_termsOf_0_ok (d := d) (xgd_some h).2 (show fM_termsOf_K μ _ _ o from ⟨rfl, rfl⟩))
