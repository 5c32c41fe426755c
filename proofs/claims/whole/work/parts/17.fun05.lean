/-! methods as functions, printed with their proofs -/
-- KeptAnswers.knowsAllCovers()Z 
def fX_knowsAllCovers_K (rv : Option Value) (μf : xM) : (Int32 × xM) → Prop := fun o => rv = some (.int o.1) ∧ μf = o.2
def fX_knowsAllCovers_K2 (v0 : Nat) (d : Nat) (rv : Option Value) (μf : xM) : ((Int32 × xM) ⊕ (Int32 × xM)) → Prop := Sum.elim (fun s : Int32 × xM => xRun (d + 12) 50 2 [some (.ref v0), some (.int s.1)] [] s.2 rv μf) (fX_knowsAllCovers_K rv μf)
noncomputable def fX_knowsAllCovers_32  (μ : xM) : Option (Int32 × xM) := some ((xc 1, μ))
theorem fX_knowsAllCovers_32_ok {d : Nat} {μ : xM} {rv : Option Value} {μf : xM} {out : Int32 × xM} (h : fX_knowsAllCovers_32 μ = some out) (hK : fX_knowsAllCovers_K rv μf out) : xRun (d + 12) 50 32 [none, none] [] μ rv μf := by
  unfold fX_knowsAllCovers_32 at h
  refine xr_go 1 (pc' := 33) (lo' := [none, none]) (st' := [.int (xc 1)]) (μ' := μ) rfl ?_
  have ho := Option.some.inj h
  subst ho
  obtain ⟨rfl, rfl⟩ := hK
  exact xr_ret (rv := some (.int (xc 1))) rfl rfl (Or.inr ⟨rfl, Or.inr rfl⟩)
noncomputable def fX_knowsAllCovers_24  (μ : xM) : Option (Int32 × xM) := some ((xc 0, μ))
theorem fX_knowsAllCovers_24_ok {d : Nat} {μ : xM} {rv : Option Value} {μf : xM} {out : Int32 × xM} (h : fX_knowsAllCovers_24 μ = some out) (hK : fX_knowsAllCovers_K rv μf out) : xRun (d + 12) 50 24 [none, none] [] μ rv μf := by
  unfold fX_knowsAllCovers_24 at h
  refine xr_go 1 (pc' := 25) (lo' := [none, none]) (st' := [.int (xc 0)]) (μ' := μ) rfl ?_
  have ho := Option.some.inj h
  subst ho
  obtain ⟨rfl, rfl⟩ := hK
  exact xr_ret (rv := some (.int (xc 0))) rfl rfl (Or.inr ⟨rfl, Or.inl rfl⟩)
noncomputable def fX_knowsAllCovers_L2  (v0 : Nat) (v1 : Int32) (μ : xM) : Option ((Int32 × xM) ⊕ (Int32 × xM)) := (ldFR μ v0 0 0).bind fun x1 => (ldF μ x1 3 2).bind fun x2 => if x2 ≤ v1 then ((fX_knowsAllCovers_32 μ).map (fun o => .inr o)) else ((fX_seenThrough v0 v1 μ).bind fun r3 => (ldF r3.2 r3.1 6 3).bind fun x4 => if x4 = 0 then (some (.inl ((v1 + xc 1, r3.2)))) else ((fX_knowsAllCovers_24 r3.2).map (fun o => .inr o)))
theorem fX_knowsAllCovers_L2_ok {d : Nat} {v0 : Nat} {v1 : Int32} {μ : xM} {rv : Option Value} {μf : xM} {out : (Int32 × xM) ⊕ (Int32 × xM)} (h : fX_knowsAllCovers_L2 v0 v1 μ = some out) (hK : fX_knowsAllCovers_K2 v0 d rv μf out) : xRun (d + 12) 50 2 [some (.ref v0), some (.int v1)] [] μ rv μf := by
  unfold fX_knowsAllCovers_L2 at h
  refine xr_go 2 (pc' := 4) (lo' := [some (.ref v0), some (.int v1)]) (st' := [.ref v0, .int v1]) (μ' := μ) rfl ?_
  obtain ⟨x1, hx1, h⟩ := Option.bind_eq_some_iff.mp h
  refine xr_opA (pc' := 7) (lo' := [some (.ref v0), some (.int v1)]) (st' := [.int v1]) (o := ldFR μ v0 0 0) rfl hx1 ?_
  obtain ⟨x2, hx2, h⟩ := Option.bind_eq_some_iff.mp h
  refine xr_opI (pc' := 10) (lo' := [some (.ref v0), some (.int v1)]) (st' := [.int v1]) (o := ldF μ x1 3 2) rfl hx2 ?_
  refine xr_icmp (pct := 32) rfl rfl rfl (fun hc => ?_) (fun hc => ?_)
  · replace h := (if_pos (of_decide_eq_true hc)).symm.trans h
    refine xr_forget (lo := [none, none]) trivial ?_
    obtain ⟨o, h2, rfl⟩ := Option.map_eq_some_iff.mp h
    exact fX_knowsAllCovers_32_ok h2 hK
  · replace h := (if_neg (of_decide_eq_false hc)).symm.trans h
    refine xr_go 2 (pc' := 15) (lo' := [some (.ref v0), some (.int v1)]) (st' := [.int v1, .ref v0]) (μ' := μ) rfl ?_
    obtain ⟨r3, hr3, h⟩ := Option.bind_eq_some_iff.mp h
    refine xr_callV (j := 48) (d' := (d + 11)) (rv1 := some (.ref r3.1)) (μ1 := r3.2) (rest := []) (As := [.int v1]) rfl rfl rfl rfl (Nat.le_of_ble_eq_true rfl) (fX_seenThrough_kd hr3) rfl (by exact (fX_seenThrough_ok (d := d + (0)) hr3)) ?_
    obtain ⟨x4, hx4, h⟩ := Option.bind_eq_some_iff.mp h
    refine xr_opI (pc' := 21) (lo' := [some (.ref v0), some (.int v1)]) (st' := []) (o := ldF r3.2 r3.1 6 3) rfl hx4 ?_
    refine xr_ifc (pct := 26) rfl rfl rfl (fun hc => ?_) (fun hc => ?_)
    · replace h := (if_pos (of_decide_eq_true hc)).symm.trans h
      refine xr_go 2 (pc' := 2) (lo' := [some (.ref v0), some (.int (v1 + xc 1))]) (st' := []) (μ' := r3.2) rfl ?_
      refine xr_forget (lo := [some (.ref v0), some (.int (v1 + xc 1))]) ⟨rfl, rfl, trivial⟩ ?_
      have ho := Option.some.inj h
      subst ho
      exact hK
    · replace h := (if_neg (of_decide_eq_false hc)).symm.trans h
      refine xr_forget (lo := [none, none]) trivial ?_
      obtain ⟨o, h2, rfl⟩ := Option.map_eq_some_iff.mp h
      exact fX_knowsAllCovers_24_ok h2 hK
theorem fX_knowsAllCovers_L2_lp {d : Nat} {v0 : Nat} {v1 : Int32} {μ : xM} {rv : Option Value} {μf : xM} {out : Int32 × xM} (h : xwh (fun s : Int32 × xM => fX_knowsAllCovers_L2 v0 s.1 s.2) (v1, μ) = some out) (hK : fX_knowsAllCovers_K rv μf out) : xRun (d + 12) 50 2 [some (.ref v0), some (.int v1)] [] μ rv μf :=
  xwh_ind (Rh := fun s : Int32 × xM => xRun (d + 12) 50 2 [some (.ref v0), some (.int s.1)] [] s.2 rv μf) (Co := fX_knowsAllCovers_K rv μf) (fun s o hb hk => fX_knowsAllCovers_L2_ok hb hk) h hK
noncomputable def fX_knowsAllCovers_0  (v0 : Nat) (μ : xM) : Option (Int32 × xM) := xwh (fun s : Int32 × xM => fX_knowsAllCovers_L2 v0 s.1 s.2) (xc 0, μ)
theorem fX_knowsAllCovers_0_ok {d : Nat} {v0 : Nat} {μ : xM} {rv : Option Value} {μf : xM} {out : Int32 × xM} (h : fX_knowsAllCovers_0 v0 μ = some out) (hK : fX_knowsAllCovers_K rv μf out) : xRun (d + 12) 50 0 [some (.ref v0), none] [] μ rv μf := by
  unfold fX_knowsAllCovers_0 at h
  refine xr_go 2 (pc' := 2) (lo' := [some (.ref v0), some (.int (xc 0))]) (st' := []) (μ' := μ) rfl ?_
  refine xr_forget (lo := [some (.ref v0), some (.int (xc 0))]) ⟨rfl, rfl, trivial⟩ ?_
  exact fX_knowsAllCovers_L2_lp h hK
noncomputable def fX_knowsAllCovers (a0 : Nat) (μ : xM) : Option (Int32 × xM) := xgd μ a0 0 (fX_knowsAllCovers_0 a0 μ)
theorem fX_knowsAllCovers_kd {a0 : Nat} {μ : xM} {o : Int32 × xM} (h : fX_knowsAllCovers a0 μ = some o) : (xK μ a0).1 = 10 + 0 := (xgd_some h).1
theorem fX_knowsAllCovers_ok {d : Nat} {a0 : Nat} {μ : xM} {o : Int32 × xM} (h : fX_knowsAllCovers a0 μ = some o) : xRun (d + 12) 50 0 [some (.ref a0), none] [] μ (some (.int o.1)) o.2 :=
  xr_forget (lo := [some (.ref a0), none]) (⟨rfl, trivial⟩) (fX_knowsAllCovers_0_ok (d := d) (xgd_some h).2 (show fX_knowsAllCovers_K _ _ o from ⟨rfl, rfl⟩))
-- KeptAnswers$Holding.sumOver([II)I 
def fH_sumOver_K (μ : xM) (rv : Option Value) (μf : xM) : (Int32) → Prop := fun o => rv = some (.int o) ∧ μf = μ
def fH_sumOver_K5 (v1 : Nat) (v2 : Int32) (μ : xM) (d : Nat) (rv : Option Value) (μf : xM) : ((Int32 × Int32) ⊕ (Int32)) → Prop := Sum.elim (fun s : Int32 × Int32 => xRun (d + 0) 69 5 [none, some (.ref v1), some (.int v2), some (.int s.1), some (.int s.2)] [] μ rv μf) (fH_sumOver_K μ rv μf)
noncomputable def fH_sumOver_34  (v3 : Int32) (μ : xM) : Option (Int32) := some v3
theorem fH_sumOver_34_ok {d : Nat} {v3 : Int32} {μ : xM} {rv : Option Value} {μf : xM} {out : Int32} (h : fH_sumOver_34 v3 μ = some out) (hK : fH_sumOver_K μ rv μf out) : xRun (d + 0) 69 34 [none, none, none, some (.int v3), none] [] μ rv μf := by
  unfold fH_sumOver_34 at h
  refine xr_go 1 (pc' := 35) (lo' := [none, none, none, some (.int v3), none]) (st' := [.int v3]) (μ' := μ) rfl ?_
  have ho := Option.some.inj h
  subst ho
  obtain ⟨rfl, rfl⟩ := hK
  exact xr_ret (rv := some (.int v3)) rfl rfl (Or.inl rfl)
noncomputable def fH_sumOver_28  (v1 : Nat) (v2 : Int32) (v3 : Int32) (v4 : Int32) (μ : xM) : Option ((Int32 × Int32) ⊕ (Int32)) := some (.inl ((v3, v4 + xc 1)))
theorem fH_sumOver_28_ok {d : Nat} {v1 : Nat} {v2 : Int32} {v3 : Int32} {v4 : Int32} {μ : xM} {rv : Option Value} {μf : xM} {out : (Int32 × Int32) ⊕ (Int32)} (h : fH_sumOver_28 v1 v2 v3 v4 μ = some out) (hK : fH_sumOver_K5 v1 v2 μ d rv μf out) : xRun (d + 0) 69 28 [none, some (.ref v1), some (.int v2), some (.int v3), some (.int v4)] [] μ rv μf := by
  unfold fH_sumOver_28 at h
  refine xr_go 2 (pc' := 5) (lo' := [none, some (.ref v1), some (.int v2), some (.int v3), some (.int (v4 + xc 1))]) (st' := []) (μ' := μ) rfl ?_
  refine xr_forget (lo := [none, some (.ref v1), some (.int v2), some (.int v3), some (.int (v4 + xc 1))]) ⟨rfl, rfl, rfl, rfl, trivial⟩ ?_
  have ho := Option.some.inj h
  subst ho
  exact hK
noncomputable def fH_sumOver_L5  (v1 : Nat) (v2 : Int32) (v3 : Int32) (v4 : Int32) (μ : xM) : Option ((Int32 × Int32) ⊕ (Int32)) := if (xc 6) ≤ v4 then ((fH_sumOver_34 v3 μ).map (fun o => .inr o)) else (if ((v2 >>> (v4 &&& 31)) &&& (xc 1)) = 0 then (fH_sumOver_28 v1 v2 v3 v4 μ) else ((ldA μ v1 v4).bind fun x1 => fH_sumOver_28 v1 v2 (v3 + x1) v4 μ))
theorem fH_sumOver_L5_ok {d : Nat} {v1 : Nat} {v2 : Int32} {v3 : Int32} {v4 : Int32} {μ : xM} {rv : Option Value} {μf : xM} {out : (Int32 × Int32) ⊕ (Int32)} (h : fH_sumOver_L5 v1 v2 v3 v4 μ = some out) (hK : fH_sumOver_K5 v1 v2 μ d rv μf out) : xRun (d + 0) 69 5 [none, some (.ref v1), some (.int v2), some (.int v3), some (.int v4)] [] μ rv μf := by
  unfold fH_sumOver_L5 at h
  refine xr_go 2 (pc' := 9) (lo' := [none, some (.ref v1), some (.int v2), some (.int v3), some (.int v4)]) (st' := [.int (xc 6), .int v4]) (μ' := μ) rfl ?_
  refine xr_icmp (pct := 34) rfl rfl rfl (fun hc => ?_) (fun hc => ?_)
  · replace h := (if_pos (of_decide_eq_true hc)).symm.trans h
    refine xr_forget (lo := [none, none, none, some (.int v3), none]) ⟨rfl, trivial⟩ ?_
    obtain ⟨o, h2, rfl⟩ := Option.map_eq_some_iff.mp h
    exact fH_sumOver_34_ok h2 hK
  · replace h := (if_neg (of_decide_eq_false hc)).symm.trans h
    refine xr_go 5 (pc' := 18) (lo' := [none, some (.ref v1), some (.int v2), some (.int v3), some (.int v4)]) (st' := [.int ((v2 >>> (v4 &&& 31)) &&& (xc 1))]) (μ' := μ) rfl ?_
    refine xr_ifc (pct := 28) rfl rfl rfl (fun hc => ?_) (fun hc => ?_)
    · replace h := (if_pos (of_decide_eq_true hc)).symm.trans h
      refine xr_forget (lo := [none, some (.ref v1), some (.int v2), some (.int v3), some (.int v4)]) ⟨rfl, rfl, rfl, rfl, trivial⟩ ?_
      exact fH_sumOver_28_ok h hK
    · replace h := (if_neg (of_decide_eq_false hc)).symm.trans h
      refine xr_go 3 (pc' := 25) (lo' := [none, some (.ref v1), some (.int v2), some (.int v3), some (.int v4)]) (st' := [.int v4, .ref v1, .int v3]) (μ' := μ) rfl ?_
      obtain ⟨x1, hx1, h⟩ := Option.bind_eq_some_iff.mp h
      refine xr_opI (pc' := 26) (lo' := [none, some (.ref v1), some (.int v2), some (.int v3), some (.int v4)]) (st' := [.int v3]) (o := ldA μ v1 v4) rfl hx1 ?_
      refine xr_go 2 (pc' := 28) (lo' := [none, some (.ref v1), some (.int v2), some (.int (v3 + x1)), some (.int v4)]) (st' := []) (μ' := μ) rfl ?_
      refine xr_forget (lo := [none, some (.ref v1), some (.int v2), some (.int (v3 + x1)), some (.int v4)]) ⟨rfl, rfl, rfl, rfl, trivial⟩ ?_
      exact fH_sumOver_28_ok h hK
theorem fH_sumOver_L5_lp {d : Nat} {v1 : Nat} {v2 : Int32} {v3 : Int32} {v4 : Int32} {μ : xM} {rv : Option Value} {μf : xM} {out : Int32} (h : xwh (fun s : Int32 × Int32 => fH_sumOver_L5 v1 v2 s.1 s.2 μ) (v3, v4) = some out) (hK : fH_sumOver_K μ rv μf out) : xRun (d + 0) 69 5 [none, some (.ref v1), some (.int v2), some (.int v3), some (.int v4)] [] μ rv μf :=
  xwh_ind (Rh := fun s : Int32 × Int32 => xRun (d + 0) 69 5 [none, some (.ref v1), some (.int v2), some (.int s.1), some (.int s.2)] [] μ rv μf) (Co := fH_sumOver_K μ rv μf) (fun s o hb hk => fH_sumOver_L5_ok hb hk) h hK
noncomputable def fH_sumOver_0  (v1 : Nat) (v2 : Int32) (μ : xM) : Option (Int32) := xwh (fun s : Int32 × Int32 => fH_sumOver_L5 v1 v2 s.1 s.2 μ) (xc 0, xc 0)
theorem fH_sumOver_0_ok {d : Nat} {v1 : Nat} {v2 : Int32} {μ : xM} {rv : Option Value} {μf : xM} {out : Int32} (h : fH_sumOver_0 v1 v2 μ = some out) (hK : fH_sumOver_K μ rv μf out) : xRun (d + 0) 69 0 [none, some (.ref v1), some (.int v2), none, none] [] μ rv μf := by
  unfold fH_sumOver_0 at h
  refine xr_go 4 (pc' := 5) (lo' := [none, some (.ref v1), some (.int v2), some (.int (xc 0)), some (.int (xc 0))]) (st' := []) (μ' := μ) rfl ?_
  refine xr_forget (lo := [none, some (.ref v1), some (.int v2), some (.int (xc 0)), some (.int (xc 0))]) ⟨rfl, rfl, rfl, rfl, trivial⟩ ?_
  exact fH_sumOver_L5_lp h hK
noncomputable def fH_sumOver (a0 : Nat) (a1 : Nat) (a2 : Int32) (μ : xM) : Option (Int32) := xgd μ a0 3 (fH_sumOver_0 a1 a2 μ)
theorem fH_sumOver_kd {a0 : Nat} {a1 : Nat} {a2 : Int32} {μ : xM} {o : Int32} (h : fH_sumOver a0 a1 a2 μ = some o) : (xK μ a0).1 = 10 + 3 := (xgd_some h).1
theorem fH_sumOver_ok {d : Nat} {a0 : Nat} {a1 : Nat} {a2 : Int32} {μ : xM} {o : Int32} (h : fH_sumOver a0 a1 a2 μ = some o) : xRun (d + 0) 69 0 [some (.ref a0), some (.ref a1), some (.int a2), none, none] [] μ (some (.int o)) μ :=
  xr_forget (lo := [none, some (.ref a1), some (.int a2), none, none]) (⟨rfl, rfl, trivial⟩) (fH_sumOver_0_ok (d := d) (xgd_some h).2 (show fH_sumOver_K μ _ _ o from ⟨rfl, rfl⟩))
-- KeptAnswers.costOf(I)I 
def fX_costOf_K (μ : xM) (rv : Option Value) (μf : xM) : (Int32) → Prop := fun o => rv = some (.int o) ∧ μf = μ
def fX_costOf_K18 (v0 : Nat) (v1 : Int32) (μ : xM) (d : Nat) (rv : Option Value) (μf : xM) : ((Int32 × Int32) ⊕ (Int32)) → Prop := Sum.elim (fun s : Int32 × Int32 => xRun (d + 1) 51 18 [some (.ref v0), some (.int v1), some (.int s.1), some (.int s.2)] [] μ rv μf) (fX_costOf_K μ rv μf)
noncomputable def fX_costOf_72  (v2 : Int32) (μ : xM) : Option (Int32) := some v2
theorem fX_costOf_72_ok {d : Nat} {v2 : Int32} {μ : xM} {rv : Option Value} {μf : xM} {out : Int32} (h : fX_costOf_72 v2 μ = some out) (hK : fX_costOf_K μ rv μf out) : xRun (d + 1) 51 72 [none, none, some (.int v2), none] [] μ rv μf := by
  unfold fX_costOf_72 at h
  refine xr_go 1 (pc' := 73) (lo' := [none, none, some (.int v2), none]) (st' := [.int v2]) (μ' := μ) rfl ?_
  have ho := Option.some.inj h
  subst ho
  obtain ⟨rfl, rfl⟩ := hK
  exact xr_ret (rv := some (.int v2)) rfl rfl (Or.inl rfl)
noncomputable def fX_costOf_63  (v0 : Nat) (v1 : Int32) (v3 : Int32) (s0 : Int32) (s1 : Int32) (s2 : Int32) (μ : xM) : Option ((Int32 × Int32) ⊕ (Int32)) := some (.inl ((s2 + (s1 * s0), v3 + xc 1)))
theorem fX_costOf_63_ok {d : Nat} {v0 : Nat} {v1 : Int32} {v3 : Int32} {s0 : Int32} {s1 : Int32} {s2 : Int32} {μ : xM} {rv : Option Value} {μf : xM} {out : (Int32 × Int32) ⊕ (Int32)} (h : fX_costOf_63 v0 v1 v3 s0 s1 s2 μ = some out) (hK : fX_costOf_K18 v0 v1 μ d rv μf out) : xRun (d + 1) 51 63 [some (.ref v0), some (.int v1), none, some (.int v3)] [.int s0, .int s1, .int s2] μ rv μf := by
  unfold fX_costOf_63 at h
  refine xr_go 5 (pc' := 18) (lo' := [some (.ref v0), some (.int v1), some (.int (s2 + (s1 * s0))), some (.int (v3 + xc 1))]) (st' := []) (μ' := μ) rfl ?_
  refine xr_forget (lo := [some (.ref v0), some (.int v1), some (.int (s2 + (s1 * s0))), some (.int (v3 + xc 1))]) ⟨rfl, rfl, rfl, rfl, trivial⟩ ?_
  have ho := Option.some.inj h
  subst ho
  exact hK
noncomputable def fX_costOf_L18  (v0 : Nat) (v1 : Int32) (v2 : Int32) (v3 : Int32) (μ : xM) : Option ((Int32 × Int32) ⊕ (Int32)) := (ldFR μ v0 0 0).bind fun x1 => (ldF μ x1 3 2).bind fun x2 => if x2 ≤ v3 then ((fX_costOf_72 v2 μ).map (fun o => .inr o)) else ((ldFR μ v0 0 0).bind fun x3 => (ldFR μ x3 3 11).bind fun x4 => (ldA μ x4 v3).bind fun x5 => (ldFR μ v0 0 6).bind fun x6 => (ldAR μ x6 v3).bind fun x7 => (fS_isCoveredBy x7 v1 μ).bind fun r8 => if r8 = 0 then ((ldFR μ v0 0 0).bind fun x9 => (ldF μ x9 3 7).bind fun x10 => fX_costOf_63 v0 v1 v3 x10 x5 v2 μ) else (fX_costOf_63 v0 v1 v3 (xc 1) x5 v2 μ))
theorem fX_costOf_L18_ok {d : Nat} {v0 : Nat} {v1 : Int32} {v2 : Int32} {v3 : Int32} {μ : xM} {rv : Option Value} {μf : xM} {out : (Int32 × Int32) ⊕ (Int32)} (h : fX_costOf_L18 v0 v1 v2 v3 μ = some out) (hK : fX_costOf_K18 v0 v1 μ d rv μf out) : xRun (d + 1) 51 18 [some (.ref v0), some (.int v1), some (.int v2), some (.int v3)] [] μ rv μf := by
  unfold fX_costOf_L18 at h
  refine xr_go 2 (pc' := 20) (lo' := [some (.ref v0), some (.int v1), some (.int v2), some (.int v3)]) (st' := [.ref v0, .int v3]) (μ' := μ) rfl ?_
  obtain ⟨x1, hx1, h⟩ := Option.bind_eq_some_iff.mp h
  refine xr_opA (pc' := 23) (lo' := [some (.ref v0), some (.int v1), some (.int v2), some (.int v3)]) (st' := [.int v3]) (o := ldFR μ v0 0 0) rfl hx1 ?_
  obtain ⟨x2, hx2, h⟩ := Option.bind_eq_some_iff.mp h
  refine xr_opI (pc' := 26) (lo' := [some (.ref v0), some (.int v1), some (.int v2), some (.int v3)]) (st' := [.int v3]) (o := ldF μ x1 3 2) rfl hx2 ?_
  refine xr_icmp (pct := 72) rfl rfl rfl (fun hc => ?_) (fun hc => ?_)
  · replace h := (if_pos (of_decide_eq_true hc)).symm.trans h
    refine xr_forget (lo := [none, none, some (.int v2), none]) ⟨rfl, trivial⟩ ?_
    obtain ⟨o, h2, rfl⟩ := Option.map_eq_some_iff.mp h
    exact fX_costOf_72_ok h2 hK
  · replace h := (if_neg (of_decide_eq_false hc)).symm.trans h
    refine xr_go 2 (pc' := 31) (lo' := [some (.ref v0), some (.int v1), some (.int v2), some (.int v3)]) (st' := [.ref v0, .int v2]) (μ' := μ) rfl ?_
    obtain ⟨x3, hx3, h⟩ := Option.bind_eq_some_iff.mp h
    refine xr_opA (pc' := 34) (lo' := [some (.ref v0), some (.int v1), some (.int v2), some (.int v3)]) (st' := [.int v2]) (o := ldFR μ v0 0 0) rfl hx3 ?_
    obtain ⟨x4, hx4, h⟩ := Option.bind_eq_some_iff.mp h
    refine xr_opA (pc' := 37) (lo' := [some (.ref v0), some (.int v1), some (.int v2), some (.int v3)]) (st' := [.int v2]) (o := ldFR μ x3 3 11) rfl hx4 ?_
    refine xr_go 1 (pc' := 38) (lo' := [some (.ref v0), some (.int v1), some (.int v2), some (.int v3)]) (st' := [.int v3, .ref x4, .int v2]) (μ' := μ) rfl ?_
    obtain ⟨x5, hx5, h⟩ := Option.bind_eq_some_iff.mp h
    refine xr_opI (pc' := 39) (lo' := [some (.ref v0), some (.int v1), some (.int v2), some (.int v3)]) (st' := [.int v2]) (o := ldA μ x4 v3) rfl hx5 ?_
    refine xr_go 1 (pc' := 40) (lo' := [some (.ref v0), some (.int v1), some (.int v2), some (.int v3)]) (st' := [.ref v0, .int x5, .int v2]) (μ' := μ) rfl ?_
    obtain ⟨x6, hx6, h⟩ := Option.bind_eq_some_iff.mp h
    refine xr_opA (pc' := 43) (lo' := [some (.ref v0), some (.int v1), some (.int v2), some (.int v3)]) (st' := [.int x5, .int v2]) (o := ldFR μ v0 0 6) rfl hx6 ?_
    refine xr_go 1 (pc' := 44) (lo' := [some (.ref v0), some (.int v1), some (.int v2), some (.int v3)]) (st' := [.int v3, .ref x6, .int x5, .int v2]) (μ' := μ) rfl ?_
    obtain ⟨x7, hx7, h⟩ := Option.bind_eq_some_iff.mp h
    refine xr_opA (pc' := 45) (lo' := [some (.ref v0), some (.int v1), some (.int v2), some (.int v3)]) (st' := [.int x5, .int v2]) (o := ldAR μ x6 v3) rfl hx7 ?_
    refine xr_go 1 (pc' := 46) (lo' := [some (.ref v0), some (.int v1), some (.int v2), some (.int v3)]) (st' := [.int v1, .ref x7, .int x5, .int v2]) (μ' := μ) rfl ?_
    obtain ⟨r8, hr8, h⟩ := Option.bind_eq_some_iff.mp h
    refine xr_callV (j := 105) (d' := (d + 0)) (rv1 := some (.int r8)) (μ1 := μ) (rest := [.int x5, .int v2]) (As := [.int v1]) rfl rfl rfl rfl (Nat.le_of_ble_eq_true rfl) (fS_isCoveredBy_kd hr8) rfl (by exact (fS_isCoveredBy_ok (d := d + (0)) hr8)) ?_
    refine xr_ifc (pct := 56) rfl rfl rfl (fun hc => ?_) (fun hc => ?_)
    · replace h := (if_pos (of_decide_eq_true hc)).symm.trans h
      refine xr_go 1 (pc' := 57) (lo' := [some (.ref v0), some (.int v1), some (.int v2), some (.int v3)]) (st' := [.ref v0, .int x5, .int v2]) (μ' := μ) rfl ?_
      obtain ⟨x9, hx9, h⟩ := Option.bind_eq_some_iff.mp h
      refine xr_opA (pc' := 60) (lo' := [some (.ref v0), some (.int v1), some (.int v2), some (.int v3)]) (st' := [.int x5, .int v2]) (o := ldFR μ v0 0 0) rfl hx9 ?_
      obtain ⟨x10, hx10, h⟩ := Option.bind_eq_some_iff.mp h
      refine xr_opI (pc' := 63) (lo' := [some (.ref v0), some (.int v1), some (.int v2), some (.int v3)]) (st' := [.int x5, .int v2]) (o := ldF μ x9 3 7) rfl hx10 ?_
      refine xr_forget (lo := [some (.ref v0), some (.int v1), none, some (.int v3)]) ⟨rfl, rfl, rfl, trivial⟩ ?_
      exact fX_costOf_63_ok h hK
    · replace h := (if_neg (of_decide_eq_false hc)).symm.trans h
      refine xr_go 2 (pc' := 63) (lo' := [some (.ref v0), some (.int v1), some (.int v2), some (.int v3)]) (st' := [.int (xc 1), .int x5, .int v2]) (μ' := μ) rfl ?_
      refine xr_forget (lo := [some (.ref v0), some (.int v1), none, some (.int v3)]) ⟨rfl, rfl, rfl, trivial⟩ ?_
      exact fX_costOf_63_ok h hK
theorem fX_costOf_L18_lp {d : Nat} {v0 : Nat} {v1 : Int32} {v2 : Int32} {v3 : Int32} {μ : xM} {rv : Option Value} {μf : xM} {out : Int32} (h : xwh (fun s : Int32 × Int32 => fX_costOf_L18 v0 v1 s.1 s.2 μ) (v2, v3) = some out) (hK : fX_costOf_K μ rv μf out) : xRun (d + 1) 51 18 [some (.ref v0), some (.int v1), some (.int v2), some (.int v3)] [] μ rv μf :=
  xwh_ind (Rh := fun s : Int32 × Int32 => xRun (d + 1) 51 18 [some (.ref v0), some (.int v1), some (.int s.1), some (.int s.2)] [] μ rv μf) (Co := fX_costOf_K μ rv μf) (fun s o hb hk => fX_costOf_L18_ok hb hk) h hK
noncomputable def fX_costOf_0  (v0 : Nat) (v1 : Int32) (μ : xM) : Option (Int32) := (ldFR μ v0 0 0).bind fun x11 => (ldFR μ v0 0 0).bind fun x12 => (ldFR μ x12 3 13).bind fun x13 => (fH_sumOver x11 x13 v1 μ).bind fun r14 => xwh (fun s : Int32 × Int32 => fX_costOf_L18 v0 v1 s.1 s.2 μ) (r14, xc 0)
theorem fX_costOf_0_ok {d : Nat} {v0 : Nat} {v1 : Int32} {μ : xM} {rv : Option Value} {μf : xM} {out : Int32} (h : fX_costOf_0 v0 v1 μ = some out) (hK : fX_costOf_K μ rv μf out) : xRun (d + 1) 51 0 [some (.ref v0), some (.int v1), none, none] [] μ rv μf := by
  unfold fX_costOf_0 at h
  refine xr_go 1 (pc' := 1) (lo' := [some (.ref v0), some (.int v1), none, none]) (st' := [.ref v0]) (μ' := μ) rfl ?_
  obtain ⟨x11, hx11, h⟩ := Option.bind_eq_some_iff.mp h
  refine xr_opA (pc' := 4) (lo' := [some (.ref v0), some (.int v1), none, none]) (st' := []) (o := ldFR μ v0 0 0) rfl hx11 ?_
  refine xr_go 1 (pc' := 5) (lo' := [some (.ref v0), some (.int v1), none, none]) (st' := [.ref v0, .ref x11]) (μ' := μ) rfl ?_
  obtain ⟨x12, hx12, h⟩ := Option.bind_eq_some_iff.mp h
  refine xr_opA (pc' := 8) (lo' := [some (.ref v0), some (.int v1), none, none]) (st' := [.ref x11]) (o := ldFR μ v0 0 0) rfl hx12 ?_
  obtain ⟨x13, hx13, h⟩ := Option.bind_eq_some_iff.mp h
  refine xr_opA (pc' := 11) (lo' := [some (.ref v0), some (.int v1), none, none]) (st' := [.ref x11]) (o := ldFR μ x12 3 13) rfl hx13 ?_
  refine xr_go 1 (pc' := 12) (lo' := [some (.ref v0), some (.int v1), none, none]) (st' := [.int v1, .ref x13, .ref x11]) (μ' := μ) rfl ?_
  obtain ⟨r14, hr14, h⟩ := Option.bind_eq_some_iff.mp h
  refine xr_callV (j := 69) (d' := (d + 0)) (rv1 := some (.int r14)) (μ1 := μ) (rest := []) (As := [.ref x13, .int v1]) rfl rfl rfl rfl (Nat.le_of_ble_eq_true rfl) (fH_sumOver_kd hr14) rfl (by exact (fH_sumOver_ok (d := d + (0)) hr14)) ?_
  refine xr_go 3 (pc' := 18) (lo' := [some (.ref v0), some (.int v1), some (.int r14), some (.int (xc 0))]) (st' := []) (μ' := μ) rfl ?_
  refine xr_forget (lo := [some (.ref v0), some (.int v1), some (.int r14), some (.int (xc 0))]) ⟨rfl, rfl, rfl, rfl, trivial⟩ ?_
  exact fX_costOf_L18_lp h hK
noncomputable def fX_costOf (a0 : Nat) (a1 : Int32) (μ : xM) : Option (Int32) := xgd μ a0 0 (fX_costOf_0 a0 a1 μ)
theorem fX_costOf_kd {a0 : Nat} {a1 : Int32} {μ : xM} {o : Int32} (h : fX_costOf a0 a1 μ = some o) : (xK μ a0).1 = 10 + 0 := (xgd_some h).1
theorem fX_costOf_ok {d : Nat} {a0 : Nat} {a1 : Int32} {μ : xM} {o : Int32} (h : fX_costOf a0 a1 μ = some o) : xRun (d + 1) 51 0 [some (.ref a0), some (.int a1), none, none] [] μ (some (.int o)) μ :=
  xr_forget (lo := [some (.ref a0), some (.int a1), none, none]) (⟨rfl, rfl, trivial⟩) (fX_costOf_0_ok (d := d) (xgd_some h).2 (show fX_costOf_K μ _ _ o from ⟨rfl, rfl⟩))
-- KeptAnswers.cost(I)I 
def fX_cost_K (rv : Option Value) (μf : xM) : (Int32 × xM) → Prop := fun o => rv = some (.int o.1) ∧ μf = o.2
noncomputable def fX_cost_0  (v0 : Nat) (v1 : Int32) (μ : xM) : Option (Int32 × xM) := (fX_areViews v0 v1 μ).bind fun r1 => if r1 = 0 then ((fX_refuse v0 (xc (-1)) μ).bind fun r5 => some ((r5.1, r5.2))) else ((fX_knowsAllCovers v0 μ).bind fun r2 => if r2.1 = 0 then ((fX_refuse v0 (xc (-5)) r2.2).bind fun r3 => some ((r3.1, r3.2))) else ((fX_costOf v0 v1 r2.2).bind fun r4 => some ((r4, r2.2))))
theorem fX_cost_0_ok {d : Nat} {v0 : Nat} {v1 : Int32} {μ : xM} {rv : Option Value} {μf : xM} {out : Int32 × xM} (h : fX_cost_0 v0 v1 μ = some out) (hK : fX_cost_K rv μf out) : xRun (d + 13) 28 0 [some (.ref v0), some (.int v1)] [] μ rv μf := by
  unfold fX_cost_0 at h
  refine xr_go 2 (pc' := 2) (lo' := [some (.ref v0), some (.int v1)]) (st' := [.int v1, .ref v0]) (μ' := μ) rfl ?_
  obtain ⟨r1, hr1, h⟩ := Option.bind_eq_some_iff.mp h
  refine xr_callV (j := 41) (d' := (d + 12)) (rv1 := some (.int r1)) (μ1 := μ) (rest := []) (As := [.int v1]) rfl rfl rfl rfl (Nat.le_of_ble_eq_true rfl) (fX_areViews_kd hr1) rfl (by exact (fX_areViews_ok (d := d + (12)) hr1)) ?_
  refine xr_ifc (pct := 14) rfl rfl rfl (fun hc => ?_) (fun hc => ?_)
  · replace h := (if_neg (of_decide_eq_true hc)).symm.trans h
    refine xr_go 1 (pc' := 15) (lo' := [some (.ref v0), some (.int v1)]) (st' := [.ref v0]) (μ' := μ) rfl ?_
    obtain ⟨r2, hr2, h⟩ := Option.bind_eq_some_iff.mp h
    refine xr_callV (j := 50) (d' := (d + 12)) (rv1 := some (.int r2.1)) (μ1 := r2.2) (rest := []) (As := []) rfl rfl rfl rfl (Nat.le_of_ble_eq_true rfl) (fX_knowsAllCovers_kd hr2) rfl (by exact (fX_knowsAllCovers_ok (d := d + (0)) hr2)) ?_
    refine xr_ifc (pct := 29) rfl rfl rfl (fun hc => ?_) (fun hc => ?_)
    · replace h := (if_pos (of_decide_eq_true hc)).symm.trans h
      refine xr_go 2 (pc' := 32) (lo' := [some (.ref v0), some (.int v1)]) (st' := [.int (xc (-5)), .ref v0]) (μ' := r2.2) rfl ?_
      obtain ⟨r3, hr3, h⟩ := Option.bind_eq_some_iff.mp h
      refine xr_callV (j := 37) (d' := (d + 12)) (rv1 := some (.int r3.1)) (μ1 := r3.2) (rest := []) (As := [.int (xc (-5))]) rfl rfl rfl rfl (Nat.le_of_ble_eq_true rfl) (fX_refuse_kd hr3) rfl (by exact (fX_refuse_ok (d := d + (12)) hr3)) ?_
      have ho := Option.some.inj h
      subst ho
      obtain ⟨rfl, rfl⟩ := hK
      exact xr_ret (rv := some (.int r3.1)) rfl rfl (Or.inl rfl)
    · replace h := (if_neg (of_decide_eq_false hc)).symm.trans h
      refine xr_go 2 (pc' := 23) (lo' := [some (.ref v0), some (.int v1)]) (st' := [.int v1, .ref v0]) (μ' := r2.2) rfl ?_
      obtain ⟨r4, hr4, h⟩ := Option.bind_eq_some_iff.mp h
      refine xr_callV (j := 51) (d' := (d + 12)) (rv1 := some (.int r4)) (μ1 := r2.2) (rest := []) (As := [.int v1]) rfl rfl rfl rfl (Nat.le_of_ble_eq_true rfl) (fX_costOf_kd hr4) rfl (by exact (fX_costOf_ok (d := d + (11)) hr4)) ?_
      refine xr_go 1 (pc' := 35) (lo' := [some (.ref v0), some (.int v1)]) (st' := [.int r4]) (μ' := r2.2) rfl ?_
      have ho := Option.some.inj h
      subst ho
      obtain ⟨rfl, rfl⟩ := hK
      exact xr_ret (rv := some (.int r4)) rfl rfl (Or.inl rfl)
  · replace h := (if_pos (Decidable.of_not_not (of_decide_eq_false hc))).symm.trans h
    refine xr_go 2 (pc' := 10) (lo' := [some (.ref v0), some (.int v1)]) (st' := [.int (xc (-1)), .ref v0]) (μ' := μ) rfl ?_
    obtain ⟨r5, hr5, h⟩ := Option.bind_eq_some_iff.mp h
    refine xr_callV (j := 37) (d' := (d + 12)) (rv1 := some (.int r5.1)) (μ1 := r5.2) (rest := []) (As := [.int (xc (-1))]) rfl rfl rfl rfl (Nat.le_of_ble_eq_true rfl) (fX_refuse_kd hr5) rfl (by exact (fX_refuse_ok (d := d + (12)) hr5)) ?_
    have ho := Option.some.inj h
    subst ho
    obtain ⟨rfl, rfl⟩ := hK
    exact xr_ret (rv := some (.int r5.1)) rfl rfl (Or.inl rfl)
noncomputable def fX_cost (a0 : Nat) (a1 : Int32) (μ : xM) : Option (Int32 × xM) := xgd μ a0 0 (fX_cost_0 a0 a1 μ)
theorem fX_cost_kd {a0 : Nat} {a1 : Int32} {μ : xM} {o : Int32 × xM} (h : fX_cost a0 a1 μ = some o) : (xK μ a0).1 = 10 + 0 := (xgd_some h).1
theorem fX_cost_ok {d : Nat} {a0 : Nat} {a1 : Int32} {μ : xM} {o : Int32 × xM} (h : fX_cost a0 a1 μ = some o) : xRun (d + 13) 28 0 [some (.ref a0), some (.int a1)] [] μ (some (.int o.1)) o.2 :=
  xr_forget (lo := [some (.ref a0), some (.int a1)]) (⟨rfl, rfl, trivial⟩) (fX_cost_0_ok (d := d) (xgd_some h).2 (show fX_cost_K _ _ o from ⟨rfl, rfl⟩))
-- KeptAnswersModel.findCovered()Z 
def fM_findCovered_K (rv : Option Value) (μf : xM) : (Int32 × xM) → Prop := fun o => rv = some (.int o.1) ∧ μf = o.2
def fM_findCovered_K2 (v0 : Nat) (d : Nat) (rv : Option Value) (μf : xM) : ((Int32 × xM) ⊕ (Int32 × xM)) → Prop := Sum.elim (fun s : Int32 × xM => xRun (d + 6) 206 2 [some (.ref v0), some (.int s.1), none] [] s.2 rv μf) (fM_findCovered_K rv μf)
def fM_findCovered_K22 (v0 : Nat) (v1 : Int32) (d : Nat) (rv : Option Value) (μf : xM) : ((Int32 × xM) ⊕ ((Int32 × xM) ⊕ (Int32 × xM))) → Prop := Sum.elim (fun s : Int32 × xM => xRun (d + 6) 206 22 [some (.ref v0), some (.int v1), some (.int s.1)] [] s.2 rv μf) (fM_findCovered_K2 v0 d rv μf)
noncomputable def fM_findCovered_60  (μ : xM) : Option (Int32 × xM) := some ((xc 1, μ))
theorem fM_findCovered_60_ok {d : Nat} {μ : xM} {rv : Option Value} {μf : xM} {out : Int32 × xM} (h : fM_findCovered_60 μ = some out) (hK : fM_findCovered_K rv μf out) : xRun (d + 6) 206 60 [none, none, none] [] μ rv μf := by
  unfold fM_findCovered_60 at h
  refine xr_go 1 (pc' := 61) (lo' := [none, none, none]) (st' := [.int (xc 1)]) (μ' := μ) rfl ?_
  have ho := Option.some.inj h
  subst ho
  obtain ⟨rfl, rfl⟩ := hK
  exact xr_ret (rv := some (.int (xc 1))) rfl rfl (Or.inr ⟨rfl, Or.inr rfl⟩)
noncomputable def fM_findCovered_54  (v0 : Nat) (v1 : Int32) (μ : xM) : Option ((Int32 × xM) ⊕ (Int32 × xM)) := some (.inl ((v1 + xc 1, μ)))
theorem fM_findCovered_54_ok {d : Nat} {v0 : Nat} {v1 : Int32} {μ : xM} {rv : Option Value} {μf : xM} {out : (Int32 × xM) ⊕ (Int32 × xM)} (h : fM_findCovered_54 v0 v1 μ = some out) (hK : fM_findCovered_K2 v0 d rv μf out) : xRun (d + 6) 206 54 [some (.ref v0), some (.int v1), none] [] μ rv μf := by
  unfold fM_findCovered_54 at h
  refine xr_go 2 (pc' := 2) (lo' := [some (.ref v0), some (.int (v1 + xc 1)), none]) (st' := []) (μ' := μ) rfl ?_
  refine xr_forget (lo := [some (.ref v0), some (.int (v1 + xc 1)), none]) ⟨rfl, rfl, trivial⟩ ?_
  have ho := Option.some.inj h
  subst ho
  exact hK
noncomputable def fM_findCovered_L22  (v0 : Nat) (v1 : Int32) (v2 : Int32) (μ : xM) : Option ((Int32 × xM) ⊕ ((Int32 × xM) ⊕ (Int32 × xM))) := (ldF μ v0 9 9).bind fun x1 => if ((xc 1) <<< (x1 &&& 31)) ≤ v2 then ((fM_findCovered_54 v0 v1 μ).map (fun o => .inr o)) else ((ldFR μ v0 9 60).bind fun x2 => (fM_isCovered v0 v2 μ).bind fun r3 => (stAZ μ x2 (((xc 64) * v1) + v2) r3).bind fun μ4 => some (.inl ((v2 + xc 1, μ4))))
theorem fM_findCovered_L22_ok {d : Nat} {v0 : Nat} {v1 : Int32} {v2 : Int32} {μ : xM} {rv : Option Value} {μf : xM} {out : (Int32 × xM) ⊕ ((Int32 × xM) ⊕ (Int32 × xM))} (h : fM_findCovered_L22 v0 v1 v2 μ = some out) (hK : fM_findCovered_K22 v0 v1 d rv μf out) : xRun (d + 6) 206 22 [some (.ref v0), some (.int v1), some (.int v2)] [] μ rv μf := by
  unfold fM_findCovered_L22 at h
  refine xr_go 3 (pc' := 25) (lo' := [some (.ref v0), some (.int v1), some (.int v2)]) (st' := [.ref v0, .int (xc 1), .int v2]) (μ' := μ) rfl ?_
  obtain ⟨x1, hx1, h⟩ := Option.bind_eq_some_iff.mp h
  refine xr_opI (pc' := 28) (lo' := [some (.ref v0), some (.int v1), some (.int v2)]) (st' := [.int (xc 1), .int v2]) (o := ldF μ v0 9 9) rfl hx1 ?_
  refine xr_go 1 (pc' := 29) (lo' := [some (.ref v0), some (.int v1), some (.int v2)]) (st' := [.int ((xc 1) <<< (x1 &&& 31)), .int v2]) (μ' := μ) rfl ?_
  refine xr_icmp (pct := 54) rfl rfl rfl (fun hc => ?_) (fun hc => ?_)
  · replace h := (if_pos (of_decide_eq_true hc)).symm.trans h
    refine xr_forget (lo := [some (.ref v0), some (.int v1), none]) ⟨rfl, rfl, trivial⟩ ?_
    obtain ⟨o, h2, rfl⟩ := Option.map_eq_some_iff.mp h
    exact fM_findCovered_54_ok h2 hK
  · replace h := (if_neg (of_decide_eq_false hc)).symm.trans h
    refine xr_go 1 (pc' := 33) (lo' := [some (.ref v0), some (.int v1), some (.int v2)]) (st' := [.ref v0]) (μ' := μ) rfl ?_
    obtain ⟨x2, hx2, h⟩ := Option.bind_eq_some_iff.mp h
    refine xr_opA (pc' := 36) (lo' := [some (.ref v0), some (.int v1), some (.int v2)]) (st' := []) (o := ldFR μ v0 9 60) rfl hx2 ?_
    refine xr_go 7 (pc' := 44) (lo' := [some (.ref v0), some (.int v1), some (.int v2)]) (st' := [.int v2, .ref v0, .int (((xc 64) * v1) + v2), .ref x2]) (μ' := μ) rfl ?_
    obtain ⟨r3, hr3, h⟩ := Option.bind_eq_some_iff.mp h
    refine xr_callV (j := 193) (d' := (d + 5)) (rv1 := some (.int r3)) (μ1 := μ) (rest := [.int (((xc 64) * v1) + v2), .ref x2]) (As := [.int v2]) rfl rfl rfl rfl (Nat.le_of_ble_eq_true rfl) (fM_isCovered_kd hr3) rfl (by exact (fM_isCovered_ok (d := d + (4)) hr3)) ?_
    obtain ⟨μ4, hμ4, h⟩ := Option.bind_eq_some_iff.mp h
    refine xr_opM (pc' := 48) (lo' := [some (.ref v0), some (.int v1), some (.int v2)]) (st' := []) (o := stAZ μ x2 (((xc 64) * v1) + v2) r3) rfl hμ4 ?_
    refine xr_go 2 (pc' := 22) (lo' := [some (.ref v0), some (.int v1), some (.int (v2 + xc 1))]) (st' := []) (μ' := μ4) rfl ?_
    refine xr_forget (lo := [some (.ref v0), some (.int v1), some (.int (v2 + xc 1))]) ⟨rfl, rfl, rfl, trivial⟩ ?_
    have ho := Option.some.inj h
    subst ho
    exact hK
theorem fM_findCovered_L22_lp {d : Nat} {v0 : Nat} {v1 : Int32} {v2 : Int32} {μ : xM} {rv : Option Value} {μf : xM} {out : (Int32 × xM) ⊕ (Int32 × xM)} (h : xwh (fun s : Int32 × xM => fM_findCovered_L22 v0 v1 s.1 s.2) (v2, μ) = some out) (hK : fM_findCovered_K2 v0 d rv μf out) : xRun (d + 6) 206 22 [some (.ref v0), some (.int v1), some (.int v2)] [] μ rv μf :=
  xwh_ind (Rh := fun s : Int32 × xM => xRun (d + 6) 206 22 [some (.ref v0), some (.int v1), some (.int s.1)] [] s.2 rv μf) (Co := fM_findCovered_K2 v0 d rv μf) (fun s o hb hk => fM_findCovered_L22_ok hb hk) h hK
noncomputable def fM_findCovered_18  (μ : xM) : Option (Int32 × xM) := some ((xc 0, μ))
theorem fM_findCovered_18_ok {d : Nat} {μ : xM} {rv : Option Value} {μf : xM} {out : Int32 × xM} (h : fM_findCovered_18 μ = some out) (hK : fM_findCovered_K rv μf out) : xRun (d + 6) 206 18 [none, none, none] [] μ rv μf := by
  unfold fM_findCovered_18 at h
  refine xr_go 1 (pc' := 19) (lo' := [none, none, none]) (st' := [.int (xc 0)]) (μ' := μ) rfl ?_
  have ho := Option.some.inj h
  subst ho
  obtain ⟨rfl, rfl⟩ := hK
  exact xr_ret (rv := some (.int (xc 0))) rfl rfl (Or.inr ⟨rfl, Or.inl rfl⟩)
noncomputable def fM_findCovered_L2  (v0 : Nat) (v1 : Int32) (μ : xM) : Option ((Int32 × xM) ⊕ (Int32 × xM)) := (ldF μ v0 9 8).bind fun x5 => if x5 ≤ v1 then ((fM_findCovered_60 μ).map (fun o => .inr o)) else ((fM_findCovers v0 v1 μ).bind fun r6 => if r6.1 = 0 then ((fM_findCovered_18 r6.2).map (fun o => .inr o)) else (xwh (fun s : Int32 × xM => fM_findCovered_L22 v0 v1 s.1 s.2) (xc 0, r6.2)))
theorem fM_findCovered_L2_ok {d : Nat} {v0 : Nat} {v1 : Int32} {μ : xM} {rv : Option Value} {μf : xM} {out : (Int32 × xM) ⊕ (Int32 × xM)} (h : fM_findCovered_L2 v0 v1 μ = some out) (hK : fM_findCovered_K2 v0 d rv μf out) : xRun (d + 6) 206 2 [some (.ref v0), some (.int v1), none] [] μ rv μf := by
  unfold fM_findCovered_L2 at h
  refine xr_go 2 (pc' := 4) (lo' := [some (.ref v0), some (.int v1), none]) (st' := [.ref v0, .int v1]) (μ' := μ) rfl ?_
  obtain ⟨x5, hx5, h⟩ := Option.bind_eq_some_iff.mp h
  refine xr_opI (pc' := 7) (lo' := [some (.ref v0), some (.int v1), none]) (st' := [.int v1]) (o := ldF μ v0 9 8) rfl hx5 ?_
  refine xr_icmp (pct := 60) rfl rfl rfl (fun hc => ?_) (fun hc => ?_)
  · replace h := (if_pos (of_decide_eq_true hc)).symm.trans h
    refine xr_forget (lo := [none, none, none]) trivial ?_
    obtain ⟨o, h2, rfl⟩ := Option.map_eq_some_iff.mp h
    exact fM_findCovered_60_ok h2 hK
  · replace h := (if_neg (of_decide_eq_false hc)).symm.trans h
    refine xr_go 2 (pc' := 12) (lo' := [some (.ref v0), some (.int v1), none]) (st' := [.int v1, .ref v0]) (μ' := μ) rfl ?_
    obtain ⟨r6, hr6, h⟩ := Option.bind_eq_some_iff.mp h
    refine xr_callV (j := 188) (d' := (d + 5)) (rv1 := some (.int r6.1)) (μ1 := r6.2) (rest := []) (As := [.int v1]) rfl rfl rfl rfl (Nat.le_of_ble_eq_true rfl) (fM_findCovers_kd hr6) rfl (by exact (fM_findCovers_ok (d := d + (0)) hr6)) ?_
    refine xr_ifc (pct := 20) rfl rfl rfl (fun hc => ?_) (fun hc => ?_)
    · replace h := (if_neg (of_decide_eq_true hc)).symm.trans h
      refine xr_go 2 (pc' := 22) (lo' := [some (.ref v0), some (.int v1), some (.int (xc 0))]) (st' := []) (μ' := r6.2) rfl ?_
      refine xr_forget (lo := [some (.ref v0), some (.int v1), some (.int (xc 0))]) ⟨rfl, rfl, rfl, trivial⟩ ?_
      exact fM_findCovered_L22_lp h hK
    · replace h := (if_pos (Decidable.of_not_not (of_decide_eq_false hc))).symm.trans h
      refine xr_forget (lo := [none, none, none]) trivial ?_
      obtain ⟨o, h2, rfl⟩ := Option.map_eq_some_iff.mp h
      exact fM_findCovered_18_ok h2 hK
theorem fM_findCovered_L2_lp {d : Nat} {v0 : Nat} {v1 : Int32} {μ : xM} {rv : Option Value} {μf : xM} {out : Int32 × xM} (h : xwh (fun s : Int32 × xM => fM_findCovered_L2 v0 s.1 s.2) (v1, μ) = some out) (hK : fM_findCovered_K rv μf out) : xRun (d + 6) 206 2 [some (.ref v0), some (.int v1), none] [] μ rv μf :=
  xwh_ind (Rh := fun s : Int32 × xM => xRun (d + 6) 206 2 [some (.ref v0), some (.int s.1), none] [] s.2 rv μf) (Co := fM_findCovered_K rv μf) (fun s o hb hk => fM_findCovered_L2_ok hb hk) h hK
noncomputable def fM_findCovered_0  (v0 : Nat) (μ : xM) : Option (Int32 × xM) := xwh (fun s : Int32 × xM => fM_findCovered_L2 v0 s.1 s.2) (xc 0, μ)
theorem fM_findCovered_0_ok {d : Nat} {v0 : Nat} {μ : xM} {rv : Option Value} {μf : xM} {out : Int32 × xM} (h : fM_findCovered_0 v0 μ = some out) (hK : fM_findCovered_K rv μf out) : xRun (d + 6) 206 0 [some (.ref v0), none, none] [] μ rv μf := by
  unfold fM_findCovered_0 at h
  refine xr_go 2 (pc' := 2) (lo' := [some (.ref v0), some (.int (xc 0)), none]) (st' := []) (μ' := μ) rfl ?_
  refine xr_forget (lo := [some (.ref v0), some (.int (xc 0)), none]) ⟨rfl, rfl, trivial⟩ ?_
  exact fM_findCovered_L2_lp h hK
noncomputable def fM_findCovered (a0 : Nat) (μ : xM) : Option (Int32 × xM) := xgd μ a0 9 (fM_findCovered_0 a0 μ)
theorem fM_findCovered_kd {a0 : Nat} {μ : xM} {o : Int32 × xM} (h : fM_findCovered a0 μ = some o) : (xK μ a0).1 = 10 + 9 := (xgd_some h).1
theorem fM_findCovered_ok {d : Nat} {a0 : Nat} {μ : xM} {o : Int32 × xM} (h : fM_findCovered a0 μ = some o) : xRun (d + 6) 206 0 [some (.ref a0), none, none] [] μ (some (.int o.1)) o.2 :=
  xr_forget (lo := [some (.ref a0), none, none]) (⟨rfl, trivial⟩) (fM_findCovered_0_ok (d := d) (xgd_some h).2 (show fM_findCovered_K _ _ o from ⟨rfl, rfl⟩))
-- KeptAnswersModel.costOf(I)I 
def fM_costOf_K (μ : xM) (rv : Option Value) (μf : xM) : (Int32) → Prop := fun o => rv = some (.int o) ∧ μf = μ
def fM_costOf_K35 (v0 : Nat) (v1 : Int32) (μ : xM) (d : Nat) (rv : Option Value) (μf : xM) : ((Int32 × Int32) ⊕ (Int32)) → Prop := Sum.elim (fun s : Int32 × Int32 => xRun (d + 0) 207 35 [some (.ref v0), some (.int v1), some (.int s.1), some (.int s.2)] [] μ rv μf) (fM_costOf_K μ rv μf)
def fM_costOf_K4 (v0 : Nat) (v1 : Int32) (μ : xM) (d : Nat) (rv : Option Value) (μf : xM) : ((Int32 × Int32) ⊕ (Int32)) → Prop := Sum.elim (fun s : Int32 × Int32 => xRun (d + 0) 207 4 [some (.ref v0), some (.int v1), some (.int s.1), some (.int s.2)] [] μ rv μf) (fM_costOf_K μ rv μf)
noncomputable def fM_costOf_81  (v2 : Int32) (μ : xM) : Option (Int32) := some v2
theorem fM_costOf_81_ok {d : Nat} {v2 : Int32} {μ : xM} {rv : Option Value} {μf : xM} {out : Int32} (h : fM_costOf_81 v2 μ = some out) (hK : fM_costOf_K μ rv μf out) : xRun (d + 0) 207 81 [none, none, some (.int v2), none] [] μ rv μf := by
  unfold fM_costOf_81 at h
  refine xr_go 1 (pc' := 82) (lo' := [none, none, some (.int v2), none]) (st' := [.int v2]) (μ' := μ) rfl ?_
  have ho := Option.some.inj h
  subst ho
  obtain ⟨rfl, rfl⟩ := hK
  exact xr_ret (rv := some (.int v2)) rfl rfl (Or.inl rfl)
noncomputable def fM_costOf_72  (v0 : Nat) (v1 : Int32) (v3 : Int32) (s0 : Int32) (s1 : Int32) (s2 : Int32) (μ : xM) : Option ((Int32 × Int32) ⊕ (Int32)) := some (.inl ((s2 + (s1 * s0), v3 + xc 1)))
theorem fM_costOf_72_ok {d : Nat} {v0 : Nat} {v1 : Int32} {v3 : Int32} {s0 : Int32} {s1 : Int32} {s2 : Int32} {μ : xM} {rv : Option Value} {μf : xM} {out : (Int32 × Int32) ⊕ (Int32)} (h : fM_costOf_72 v0 v1 v3 s0 s1 s2 μ = some out) (hK : fM_costOf_K35 v0 v1 μ d rv μf out) : xRun (d + 0) 207 72 [some (.ref v0), some (.int v1), none, some (.int v3)] [.int s0, .int s1, .int s2] μ rv μf := by
  unfold fM_costOf_72 at h
  refine xr_go 5 (pc' := 35) (lo' := [some (.ref v0), some (.int v1), some (.int (s2 + (s1 * s0))), some (.int (v3 + xc 1))]) (st' := []) (μ' := μ) rfl ?_
  refine xr_forget (lo := [some (.ref v0), some (.int v1), some (.int (s2 + (s1 * s0))), some (.int (v3 + xc 1))]) ⟨rfl, rfl, rfl, rfl, trivial⟩ ?_
  have ho := Option.some.inj h
  subst ho
  exact hK
noncomputable def fM_costOf_L35  (v0 : Nat) (v1 : Int32) (v2 : Int32) (v3 : Int32) (μ : xM) : Option ((Int32 × Int32) ⊕ (Int32)) := (ldF μ v0 9 8).bind fun x1 => if x1 ≤ v3 then ((fM_costOf_81 v2 μ).map (fun o => .inr o)) else ((ldFR μ v0 9 17).bind fun x2 => (ldA μ x2 v3).bind fun x3 => (ldFR μ v0 9 60).bind fun x4 => (ldAZ μ x4 (((xc 64) * v3) + v1)).bind fun x5 => if x5 = 0 then ((ldF μ v0 9 24).bind fun x6 => fM_costOf_72 v0 v1 v3 x6 x3 v2 μ) else (fM_costOf_72 v0 v1 v3 (xc 1) x3 v2 μ))
theorem fM_costOf_L35_ok {d : Nat} {v0 : Nat} {v1 : Int32} {v2 : Int32} {v3 : Int32} {μ : xM} {rv : Option Value} {μf : xM} {out : (Int32 × Int32) ⊕ (Int32)} (h : fM_costOf_L35 v0 v1 v2 v3 μ = some out) (hK : fM_costOf_K35 v0 v1 μ d rv μf out) : xRun (d + 0) 207 35 [some (.ref v0), some (.int v1), some (.int v2), some (.int v3)] [] μ rv μf := by
  unfold fM_costOf_L35 at h
  refine xr_go 2 (pc' := 37) (lo' := [some (.ref v0), some (.int v1), some (.int v2), some (.int v3)]) (st' := [.ref v0, .int v3]) (μ' := μ) rfl ?_
  obtain ⟨x1, hx1, h⟩ := Option.bind_eq_some_iff.mp h
  refine xr_opI (pc' := 40) (lo' := [some (.ref v0), some (.int v1), some (.int v2), some (.int v3)]) (st' := [.int v3]) (o := ldF μ v0 9 8) rfl hx1 ?_
  refine xr_icmp (pct := 81) rfl rfl rfl (fun hc => ?_) (fun hc => ?_)
  · replace h := (if_pos (of_decide_eq_true hc)).symm.trans h
    refine xr_forget (lo := [none, none, some (.int v2), none]) ⟨rfl, trivial⟩ ?_
    obtain ⟨o, h2, rfl⟩ := Option.map_eq_some_iff.mp h
    exact fM_costOf_81_ok h2 hK
  · replace h := (if_neg (of_decide_eq_false hc)).symm.trans h
    refine xr_go 2 (pc' := 45) (lo' := [some (.ref v0), some (.int v1), some (.int v2), some (.int v3)]) (st' := [.ref v0, .int v2]) (μ' := μ) rfl ?_
    obtain ⟨x2, hx2, h⟩ := Option.bind_eq_some_iff.mp h
    refine xr_opA (pc' := 48) (lo' := [some (.ref v0), some (.int v1), some (.int v2), some (.int v3)]) (st' := [.int v2]) (o := ldFR μ v0 9 17) rfl hx2 ?_
    refine xr_go 1 (pc' := 49) (lo' := [some (.ref v0), some (.int v1), some (.int v2), some (.int v3)]) (st' := [.int v3, .ref x2, .int v2]) (μ' := μ) rfl ?_
    obtain ⟨x3, hx3, h⟩ := Option.bind_eq_some_iff.mp h
    refine xr_opI (pc' := 50) (lo' := [some (.ref v0), some (.int v1), some (.int v2), some (.int v3)]) (st' := [.int v2]) (o := ldA μ x2 v3) rfl hx3 ?_
    refine xr_go 1 (pc' := 51) (lo' := [some (.ref v0), some (.int v1), some (.int v2), some (.int v3)]) (st' := [.ref v0, .int x3, .int v2]) (μ' := μ) rfl ?_
    obtain ⟨x4, hx4, h⟩ := Option.bind_eq_some_iff.mp h
    refine xr_opA (pc' := 54) (lo' := [some (.ref v0), some (.int v1), some (.int v2), some (.int v3)]) (st' := [.int x3, .int v2]) (o := ldFR μ v0 9 60) rfl hx4 ?_
    refine xr_go 5 (pc' := 60) (lo' := [some (.ref v0), some (.int v1), some (.int v2), some (.int v3)]) (st' := [.int (((xc 64) * v3) + v1), .ref x4, .int x3, .int v2]) (μ' := μ) rfl ?_
    obtain ⟨x5, hx5, h⟩ := Option.bind_eq_some_iff.mp h
    refine xr_opI (pc' := 61) (lo' := [some (.ref v0), some (.int v1), some (.int v2), some (.int v3)]) (st' := [.int x3, .int v2]) (o := ldAZ μ x4 (((xc 64) * v3) + v1)) rfl hx5 ?_
    refine xr_ifc (pct := 68) rfl rfl rfl (fun hc => ?_) (fun hc => ?_)
    · replace h := (if_pos (of_decide_eq_true hc)).symm.trans h
      refine xr_go 1 (pc' := 69) (lo' := [some (.ref v0), some (.int v1), some (.int v2), some (.int v3)]) (st' := [.ref v0, .int x3, .int v2]) (μ' := μ) rfl ?_
      obtain ⟨x6, hx6, h⟩ := Option.bind_eq_some_iff.mp h
      refine xr_opI (pc' := 72) (lo' := [some (.ref v0), some (.int v1), some (.int v2), some (.int v3)]) (st' := [.int x3, .int v2]) (o := ldF μ v0 9 24) rfl hx6 ?_
      refine xr_forget (lo := [some (.ref v0), some (.int v1), none, some (.int v3)]) ⟨rfl, rfl, rfl, trivial⟩ ?_
      exact fM_costOf_72_ok h hK
    · replace h := (if_neg (of_decide_eq_false hc)).symm.trans h
      refine xr_go 2 (pc' := 72) (lo' := [some (.ref v0), some (.int v1), some (.int v2), some (.int v3)]) (st' := [.int (xc 1), .int x3, .int v2]) (μ' := μ) rfl ?_
      refine xr_forget (lo := [some (.ref v0), some (.int v1), none, some (.int v3)]) ⟨rfl, rfl, rfl, trivial⟩ ?_
      exact fM_costOf_72_ok h hK
theorem fM_costOf_L35_lp {d : Nat} {v0 : Nat} {v1 : Int32} {v2 : Int32} {v3 : Int32} {μ : xM} {rv : Option Value} {μf : xM} {out : Int32} (h : xwh (fun s : Int32 × Int32 => fM_costOf_L35 v0 v1 s.1 s.2 μ) (v2, v3) = some out) (hK : fM_costOf_K μ rv μf out) : xRun (d + 0) 207 35 [some (.ref v0), some (.int v1), some (.int v2), some (.int v3)] [] μ rv μf :=
  xwh_ind (Rh := fun s : Int32 × Int32 => xRun (d + 0) 207 35 [some (.ref v0), some (.int v1), some (.int s.1), some (.int s.2)] [] μ rv μf) (Co := fM_costOf_K μ rv μf) (fun s o hb hk => fM_costOf_L35_ok hb hk) h hK
noncomputable def fM_costOf_33  (v0 : Nat) (v1 : Int32) (v2 : Int32) (μ : xM) : Option (Int32) := xwh (fun s : Int32 × Int32 => fM_costOf_L35 v0 v1 s.1 s.2 μ) (v2, xc 0)
theorem fM_costOf_33_ok {d : Nat} {v0 : Nat} {v1 : Int32} {v2 : Int32} {μ : xM} {rv : Option Value} {μf : xM} {out : Int32} (h : fM_costOf_33 v0 v1 v2 μ = some out) (hK : fM_costOf_K μ rv μf out) : xRun (d + 0) 207 33 [some (.ref v0), some (.int v1), some (.int v2), none] [] μ rv μf := by
  unfold fM_costOf_33 at h
  refine xr_go 2 (pc' := 35) (lo' := [some (.ref v0), some (.int v1), some (.int v2), some (.int (xc 0))]) (st' := []) (μ' := μ) rfl ?_
  refine xr_forget (lo := [some (.ref v0), some (.int v1), some (.int v2), some (.int (xc 0))]) ⟨rfl, rfl, rfl, rfl, trivial⟩ ?_
  exact fM_costOf_L35_lp h hK
noncomputable def fM_costOf_L4  (v0 : Nat) (v1 : Int32) (v2 : Int32) (v3 : Int32) (μ : xM) : Option ((Int32 × Int32) ⊕ (Int32)) := (ldF μ v0 9 9).bind fun x7 => if x7 ≤ v3 then ((fM_costOf_33 v0 v1 v2 μ).map (fun o => .inr o)) else ((ldFR μ v0 9 19).bind fun x8 => (ldA μ x8 v3).bind fun x9 => some (.inl ((v2 + (((v1 >>> (v3 &&& 31)) &&& (xc 1)) * x9), v3 + xc 1))))
theorem fM_costOf_L4_ok {d : Nat} {v0 : Nat} {v1 : Int32} {v2 : Int32} {v3 : Int32} {μ : xM} {rv : Option Value} {μf : xM} {out : (Int32 × Int32) ⊕ (Int32)} (h : fM_costOf_L4 v0 v1 v2 v3 μ = some out) (hK : fM_costOf_K4 v0 v1 μ d rv μf out) : xRun (d + 0) 207 4 [some (.ref v0), some (.int v1), some (.int v2), some (.int v3)] [] μ rv μf := by
  unfold fM_costOf_L4 at h
  refine xr_go 2 (pc' := 6) (lo' := [some (.ref v0), some (.int v1), some (.int v2), some (.int v3)]) (st' := [.ref v0, .int v3]) (μ' := μ) rfl ?_
  obtain ⟨x7, hx7, h⟩ := Option.bind_eq_some_iff.mp h
  refine xr_opI (pc' := 9) (lo' := [some (.ref v0), some (.int v1), some (.int v2), some (.int v3)]) (st' := [.int v3]) (o := ldF μ v0 9 9) rfl hx7 ?_
  refine xr_icmp (pct := 33) rfl rfl rfl (fun hc => ?_) (fun hc => ?_)
  · replace h := (if_pos (of_decide_eq_true hc)).symm.trans h
    refine xr_forget (lo := [some (.ref v0), some (.int v1), some (.int v2), none]) ⟨rfl, rfl, rfl, trivial⟩ ?_
    obtain ⟨o, h2, rfl⟩ := Option.map_eq_some_iff.mp h
    exact fM_costOf_33_ok h2 hK
  · replace h := (if_neg (of_decide_eq_false hc)).symm.trans h
    refine xr_go 7 (pc' := 19) (lo' := [some (.ref v0), some (.int v1), some (.int v2), some (.int v3)]) (st' := [.ref v0, .int ((v1 >>> (v3 &&& 31)) &&& (xc 1)), .int v2]) (μ' := μ) rfl ?_
    obtain ⟨x8, hx8, h⟩ := Option.bind_eq_some_iff.mp h
    refine xr_opA (pc' := 22) (lo' := [some (.ref v0), some (.int v1), some (.int v2), some (.int v3)]) (st' := [.int ((v1 >>> (v3 &&& 31)) &&& (xc 1)), .int v2]) (o := ldFR μ v0 9 19) rfl hx8 ?_
    refine xr_go 1 (pc' := 23) (lo' := [some (.ref v0), some (.int v1), some (.int v2), some (.int v3)]) (st' := [.int v3, .ref x8, .int ((v1 >>> (v3 &&& 31)) &&& (xc 1)), .int v2]) (μ' := μ) rfl ?_
    obtain ⟨x9, hx9, h⟩ := Option.bind_eq_some_iff.mp h
    refine xr_opI (pc' := 24) (lo' := [some (.ref v0), some (.int v1), some (.int v2), some (.int v3)]) (st' := [.int ((v1 >>> (v3 &&& 31)) &&& (xc 1)), .int v2]) (o := ldA μ x8 v3) rfl hx9 ?_
    refine xr_go 5 (pc' := 4) (lo' := [some (.ref v0), some (.int v1), some (.int (v2 + (((v1 >>> (v3 &&& 31)) &&& (xc 1)) * x9))), some (.int (v3 + xc 1))]) (st' := []) (μ' := μ) rfl ?_
    refine xr_forget (lo := [some (.ref v0), some (.int v1), some (.int (v2 + (((v1 >>> (v3 &&& 31)) &&& (xc 1)) * x9))), some (.int (v3 + xc 1))]) ⟨rfl, rfl, rfl, rfl, trivial⟩ ?_
    have ho := Option.some.inj h
    subst ho
    exact hK
theorem fM_costOf_L4_lp {d : Nat} {v0 : Nat} {v1 : Int32} {v2 : Int32} {v3 : Int32} {μ : xM} {rv : Option Value} {μf : xM} {out : Int32} (h : xwh (fun s : Int32 × Int32 => fM_costOf_L4 v0 v1 s.1 s.2 μ) (v2, v3) = some out) (hK : fM_costOf_K μ rv μf out) : xRun (d + 0) 207 4 [some (.ref v0), some (.int v1), some (.int v2), some (.int v3)] [] μ rv μf :=
  xwh_ind (Rh := fun s : Int32 × Int32 => xRun (d + 0) 207 4 [some (.ref v0), some (.int v1), some (.int s.1), some (.int s.2)] [] μ rv μf) (Co := fM_costOf_K μ rv μf) (fun s o hb hk => fM_costOf_L4_ok hb hk) h hK
noncomputable def fM_costOf_0  (v0 : Nat) (v1 : Int32) (μ : xM) : Option (Int32) := xwh (fun s : Int32 × Int32 => fM_costOf_L4 v0 v1 s.1 s.2 μ) (xc 0, xc 0)
theorem fM_costOf_0_ok {d : Nat} {v0 : Nat} {v1 : Int32} {μ : xM} {rv : Option Value} {μf : xM} {out : Int32} (h : fM_costOf_0 v0 v1 μ = some out) (hK : fM_costOf_K μ rv μf out) : xRun (d + 0) 207 0 [some (.ref v0), some (.int v1), none, none] [] μ rv μf := by
  unfold fM_costOf_0 at h
  refine xr_go 4 (pc' := 4) (lo' := [some (.ref v0), some (.int v1), some (.int (xc 0)), some (.int (xc 0))]) (st' := []) (μ' := μ) rfl ?_
  refine xr_forget (lo := [some (.ref v0), some (.int v1), some (.int (xc 0)), some (.int (xc 0))]) ⟨rfl, rfl, rfl, rfl, trivial⟩ ?_
  exact fM_costOf_L4_lp h hK
noncomputable def fM_costOf (a0 : Nat) (a1 : Int32) (μ : xM) : Option (Int32) := xgd μ a0 9 (fM_costOf_0 a0 a1 μ)
theorem fM_costOf_kd {a0 : Nat} {a1 : Int32} {μ : xM} {o : Int32} (h : fM_costOf a0 a1 μ = some o) : (xK μ a0).1 = 10 + 9 := (xgd_some h).1
theorem fM_costOf_ok {d : Nat} {a0 : Nat} {a1 : Int32} {μ : xM} {o : Int32} (h : fM_costOf a0 a1 μ = some o) : xRun (d + 0) 207 0 [some (.ref a0), some (.int a1), none, none] [] μ (some (.int o)) μ :=
  xr_forget (lo := [some (.ref a0), some (.int a1), none, none]) (⟨rfl, rfl, trivial⟩) (fM_costOf_0_ok (d := d) (xgd_some h).2 (show fM_costOf_K μ _ _ o from ⟨rfl, rfl⟩))
-- KeptAnswersModel.cost(I)I 
def fM_cost_K (rv : Option Value) (μf : xM) : (Int32 × xM) → Prop := fun o => rv = some (.int o.1) ∧ μf = o.2
noncomputable def fM_cost_0  (v0 : Nat) (v1 : Int32) (μ : xM) : Option (Int32 × xM) := (fM_areViews v0 v1 μ).bind fun r1 => if r1 = 0 then ((fM_refuse v0 (xc (-1)) μ).bind fun r5 => some ((r5.1, r5.2))) else ((fM_findCovered v0 μ).bind fun r2 => if r2.1 = 0 then ((fM_refuse v0 (xc (-5)) r2.2).bind fun r3 => some ((r3.1, r3.2))) else ((fM_costOf v0 v1 r2.2).bind fun r4 => some ((r4, r2.2))))
theorem fM_cost_0_ok {d : Nat} {v0 : Nat} {v1 : Int32} {μ : xM} {rv : Option Value} {μf : xM} {out : Int32 × xM} (h : fM_cost_0 v0 v1 μ = some out) (hK : fM_cost_K rv μf out) : xRun (d + 7) 208 0 [some (.ref v0), some (.int v1)] [] μ rv μf := by
  unfold fM_cost_0 at h
  refine xr_go 2 (pc' := 2) (lo' := [some (.ref v0), some (.int v1)]) (st' := [.int v1, .ref v0]) (μ' := μ) rfl ?_
  obtain ⟨r1, hr1, h⟩ := Option.bind_eq_some_iff.mp h
  refine xr_callV (j := 194) (d' := (d + 6)) (rv1 := some (.int r1)) (μ1 := μ) (rest := []) (As := [.int v1]) rfl rfl rfl rfl (Nat.le_of_ble_eq_true rfl) (fM_areViews_kd hr1) rfl (by exact (fM_areViews_ok (d := d + (5)) hr1)) ?_
  refine xr_ifc (pct := 14) rfl rfl rfl (fun hc => ?_) (fun hc => ?_)
  · replace h := (if_neg (of_decide_eq_true hc)).symm.trans h
    refine xr_go 1 (pc' := 15) (lo' := [some (.ref v0), some (.int v1)]) (st' := [.ref v0]) (μ' := μ) rfl ?_
    obtain ⟨r2, hr2, h⟩ := Option.bind_eq_some_iff.mp h
    refine xr_callV (j := 206) (d' := (d + 6)) (rv1 := some (.int r2.1)) (μ1 := r2.2) (rest := []) (As := []) rfl rfl rfl rfl (Nat.le_of_ble_eq_true rfl) (fM_findCovered_kd hr2) rfl (by exact (fM_findCovered_ok (d := d + (0)) hr2)) ?_
    refine xr_ifc (pct := 29) rfl rfl rfl (fun hc => ?_) (fun hc => ?_)
    · replace h := (if_pos (of_decide_eq_true hc)).symm.trans h
      refine xr_go 2 (pc' := 32) (lo' := [some (.ref v0), some (.int v1)]) (st' := [.int (xc (-5)), .ref v0]) (μ' := r2.2) rfl ?_
      obtain ⟨r3, hr3, h⟩ := Option.bind_eq_some_iff.mp h
      refine xr_callV (j := 138) (d' := (d + 6)) (rv1 := some (.int r3.1)) (μ1 := r3.2) (rest := []) (As := [.int (xc (-5))]) rfl rfl rfl rfl (Nat.le_of_ble_eq_true rfl) (fM_refuse_kd hr3) rfl (by exact (fM_refuse_ok (d := d + (6)) hr3)) ?_
      have ho := Option.some.inj h
      subst ho
      obtain ⟨rfl, rfl⟩ := hK
      exact xr_ret (rv := some (.int r3.1)) rfl rfl (Or.inl rfl)
    · replace h := (if_neg (of_decide_eq_false hc)).symm.trans h
      refine xr_go 2 (pc' := 23) (lo' := [some (.ref v0), some (.int v1)]) (st' := [.int v1, .ref v0]) (μ' := r2.2) rfl ?_
      obtain ⟨r4, hr4, h⟩ := Option.bind_eq_some_iff.mp h
      refine xr_callV (j := 207) (d' := (d + 6)) (rv1 := some (.int r4)) (μ1 := r2.2) (rest := []) (As := [.int v1]) rfl rfl rfl rfl (Nat.le_of_ble_eq_true rfl) (fM_costOf_kd hr4) rfl (by exact (fM_costOf_ok (d := d + (6)) hr4)) ?_
      refine xr_go 1 (pc' := 35) (lo' := [some (.ref v0), some (.int v1)]) (st' := [.int r4]) (μ' := r2.2) rfl ?_
      have ho := Option.some.inj h
      subst ho
      obtain ⟨rfl, rfl⟩ := hK
      exact xr_ret (rv := some (.int r4)) rfl rfl (Or.inl rfl)
  · replace h := (if_pos (Decidable.of_not_not (of_decide_eq_false hc))).symm.trans h
    refine xr_go 2 (pc' := 10) (lo' := [some (.ref v0), some (.int v1)]) (st' := [.int (xc (-1)), .ref v0]) (μ' := μ) rfl ?_
    obtain ⟨r5, hr5, h⟩ := Option.bind_eq_some_iff.mp h
    refine xr_callV (j := 138) (d' := (d + 6)) (rv1 := some (.int r5.1)) (μ1 := r5.2) (rest := []) (As := [.int (xc (-1))]) rfl rfl rfl rfl (Nat.le_of_ble_eq_true rfl) (fM_refuse_kd hr5) rfl (by exact (fM_refuse_ok (d := d + (6)) hr5)) ?_
    have ho := Option.some.inj h
    subst ho
    obtain ⟨rfl, rfl⟩ := hK
    exact xr_ret (rv := some (.int r5.1)) rfl rfl (Or.inl rfl)
noncomputable def fM_cost (a0 : Nat) (a1 : Int32) (μ : xM) : Option (Int32 × xM) := xgd μ a0 9 (fM_cost_0 a0 a1 μ)
theorem fM_cost_kd {a0 : Nat} {a1 : Int32} {μ : xM} {o : Int32 × xM} (h : fM_cost a0 a1 μ = some o) : (xK μ a0).1 = 10 + 9 := (xgd_some h).1
theorem fM_cost_ok {d : Nat} {a0 : Nat} {a1 : Int32} {μ : xM} {o : Int32 × xM} (h : fM_cost a0 a1 μ = some o) : xRun (d + 7) 208 0 [some (.ref a0), some (.int a1)] [] μ (some (.int o.1)) o.2 :=
  xr_forget (lo := [some (.ref a0), some (.int a1)]) (⟨rfl, rfl, trivial⟩) (fM_cost_0_ok (d := d) (xgd_some h).2 (show fM_cost_K _ _ o from ⟨rfl, rfl⟩))
-- KeptAnswers.cheapestViews()I 
def fX_cheapestViews_K (μ : xM) (rv : Option Value) (μf : xM) : (Int32) → Prop := fun o => rv = some (.int o) ∧ μf = μ
def fX_cheapestViews_K10 (v0 : Nat) (μ : xM) (d : Nat) (rv : Option Value) (μf : xM) : ((Int32 × Int32 × Int32) ⊕ (Int32)) → Prop := Sum.elim (fun s : Int32 × Int32 × Int32 => xRun (d + 2) 52 10 [some (.ref v0), some (.int s.1), some (.int s.2.1), some (.int s.2.2), none, none] [] μ rv μf) (fX_cheapestViews_K μ rv μf)
noncomputable def fX_cheapestViews_104  (v1 : Int32) (μ : xM) : Option (Int32) := some v1
theorem fX_cheapestViews_104_ok {d : Nat} {v1 : Int32} {μ : xM} {rv : Option Value} {μf : xM} {out : Int32} (h : fX_cheapestViews_104 v1 μ = some out) (hK : fX_cheapestViews_K μ rv μf out) : xRun (d + 2) 52 104 [none, some (.int v1), none, none, none, none] [] μ rv μf := by
  unfold fX_cheapestViews_104 at h
  refine xr_go 1 (pc' := 105) (lo' := [none, some (.int v1), none, none, none, none]) (st' := [.int v1]) (μ' := μ) rfl ?_
  have ho := Option.some.inj h
  subst ho
  obtain ⟨rfl, rfl⟩ := hK
  exact xr_ret (rv := some (.int v1)) rfl rfl (Or.inl rfl)
noncomputable def fX_cheapestViews_98  (v0 : Nat) (v1 : Int32) (v2 : Int32) (v3 : Int32) (μ : xM) : Option ((Int32 × Int32 × Int32) ⊕ (Int32)) := some (.inl ((v1, v2, v3 + xc 1)))
theorem fX_cheapestViews_98_ok {d : Nat} {v0 : Nat} {v1 : Int32} {v2 : Int32} {v3 : Int32} {μ : xM} {rv : Option Value} {μf : xM} {out : (Int32 × Int32 × Int32) ⊕ (Int32)} (h : fX_cheapestViews_98 v0 v1 v2 v3 μ = some out) (hK : fX_cheapestViews_K10 v0 μ d rv μf out) : xRun (d + 2) 52 98 [some (.ref v0), some (.int v1), some (.int v2), some (.int v3), none, none] [] μ rv μf := by
  unfold fX_cheapestViews_98 at h
  refine xr_go 2 (pc' := 10) (lo' := [some (.ref v0), some (.int v1), some (.int v2), some (.int (v3 + xc 1)), none, none]) (st' := []) (μ' := μ) rfl ?_
  refine xr_forget (lo := [some (.ref v0), some (.int v1), some (.int v2), some (.int (v3 + xc 1)), none, none]) ⟨rfl, rfl, rfl, rfl, trivial⟩ ?_
  have ho := Option.some.inj h
  subst ho
  exact hK
noncomputable def fX_cheapestViews_93  (v0 : Nat) (v3 : Int32) (v4 : Int32) (μ : xM) : Option ((Int32 × Int32 × Int32) ⊕ (Int32)) := fX_cheapestViews_98 v0 v3 v4 v3 μ
theorem fX_cheapestViews_93_ok {d : Nat} {v0 : Nat} {v3 : Int32} {v4 : Int32} {μ : xM} {rv : Option Value} {μf : xM} {out : (Int32 × Int32 × Int32) ⊕ (Int32)} (h : fX_cheapestViews_93 v0 v3 v4 μ = some out) (hK : fX_cheapestViews_K10 v0 μ d rv μf out) : xRun (d + 2) 52 93 [some (.ref v0), none, none, some (.int v3), some (.int v4), none] [] μ rv μf := by
  unfold fX_cheapestViews_93 at h
  refine xr_go 4 (pc' := 98) (lo' := [some (.ref v0), some (.int v3), some (.int v4), some (.int v3), some (.int v4), none]) (st' := []) (μ' := μ) rfl ?_
  refine xr_forget (lo := [some (.ref v0), some (.int v3), some (.int v4), some (.int v3), none, none]) ⟨rfl, rfl, rfl, rfl, trivial⟩ ?_
  exact fX_cheapestViews_98_ok h hK
noncomputable def fX_cheapestViews_74  (v0 : Nat) (v1 : Int32) (v2 : Int32) (v3 : Int32) (v4 : Int32) (s0 : Int32) (μ : xM) : Option ((Int32 × Int32 × Int32) ⊕ (Int32)) := if v4 < v2 then (fX_cheapestViews_93 v0 v3 v4 μ) else (if v4 = v2 then (if s0 = 0 then (fX_cheapestViews_98 v0 v1 v2 v3 μ) else (fX_cheapestViews_93 v0 v3 v4 μ)) else (fX_cheapestViews_98 v0 v1 v2 v3 μ))
theorem fX_cheapestViews_74_ok {d : Nat} {v0 : Nat} {v1 : Int32} {v2 : Int32} {v3 : Int32} {v4 : Int32} {s0 : Int32} {μ : xM} {rv : Option Value} {μf : xM} {out : (Int32 × Int32 × Int32) ⊕ (Int32)} (h : fX_cheapestViews_74 v0 v1 v2 v3 v4 s0 μ = some out) (hK : fX_cheapestViews_K10 v0 μ d rv μf out) : xRun (d + 2) 52 74 [some (.ref v0), some (.int v1), some (.int v2), some (.int v3), some (.int v4), none] [.int s0] μ rv μf := by
  unfold fX_cheapestViews_74 at h
  refine xr_go 3 (pc' := 79) (lo' := [some (.ref v0), some (.int v1), some (.int v2), some (.int v3), some (.int v4), some (.int s0)]) (st' := [.int v2, .int v4]) (μ' := μ) rfl ?_
  refine xr_icmp (pct := 93) rfl rfl rfl (fun hc => ?_) (fun hc => ?_)
  · replace h := (if_pos (of_decide_eq_true hc)).symm.trans h
    refine xr_forget (lo := [some (.ref v0), none, none, some (.int v3), some (.int v4), none]) ⟨rfl, rfl, rfl, trivial⟩ ?_
    exact fX_cheapestViews_93_ok h hK
  · replace h := (if_neg (of_decide_eq_false hc)).symm.trans h
    refine xr_go 2 (pc' := 85) (lo' := [some (.ref v0), some (.int v1), some (.int v2), some (.int v3), some (.int v4), some (.int s0)]) (st' := [.int v2, .int v4]) (μ' := μ) rfl ?_
    refine xr_icmp (pct := 98) rfl rfl rfl (fun hc => ?_) (fun hc => ?_)
    · replace h := (if_neg (of_decide_eq_true hc)).symm.trans h
      refine xr_forget (lo := [some (.ref v0), some (.int v1), some (.int v2), some (.int v3), none, none]) ⟨rfl, rfl, rfl, rfl, trivial⟩ ?_
      exact fX_cheapestViews_98_ok h hK
    · replace h := (if_pos (Decidable.of_not_not (of_decide_eq_false hc))).symm.trans h
      refine xr_go 1 (pc' := 90) (lo' := [some (.ref v0), some (.int v1), some (.int v2), some (.int v3), some (.int v4), some (.int s0)]) (st' := [.int s0]) (μ' := μ) rfl ?_
      refine xr_ifc (pct := 98) rfl rfl rfl (fun hc => ?_) (fun hc => ?_)
      · replace h := (if_pos (of_decide_eq_true hc)).symm.trans h
        refine xr_forget (lo := [some (.ref v0), some (.int v1), some (.int v2), some (.int v3), none, none]) ⟨rfl, rfl, rfl, rfl, trivial⟩ ?_
        exact fX_cheapestViews_98_ok h hK
      · replace h := (if_neg (of_decide_eq_false hc)).symm.trans h
        refine xr_forget (lo := [some (.ref v0), none, none, some (.int v3), some (.int v4), none]) ⟨rfl, rfl, rfl, trivial⟩ ?_
        exact fX_cheapestViews_93_ok h hK
noncomputable def fX_cheapestViews_L10  (v0 : Nat) (v1 : Int32) (v2 : Int32) (v3 : Int32) (μ : xM) : Option ((Int32 × Int32 × Int32) ⊕ (Int32)) := (ldFR μ v0 0 0).bind fun x1 => (ldF μ x1 3 3).bind fun x2 => if ((xc 1) <<< (x2 &&& 31)) ≤ v3 then ((fX_cheapestViews_104 v1 μ).map (fun o => .inr o)) else ((ldFR μ v0 0 0).bind fun x3 => (ldFR μ v0 0 0).bind fun x4 => (ldFR μ x4 3 12).bind fun x5 => (fH_sumOver x3 x5 v3 μ).bind fun r6 => (ldFR μ v0 0 0).bind fun x7 => (ldF μ x7 3 6).bind fun x8 => if r6 ≤ x8 then ((fX_costOf v0 v3 μ).bind fun r9 => (fJI_bitCount v3 μ).bind fun r10 => (fJI_bitCount v1 μ).bind fun r11 => if r11 ≤ r10 then (fX_cheapestViews_74 v0 v1 v2 v3 r9 (xc 0) μ) else (fX_cheapestViews_74 v0 v1 v2 v3 r9 (xc 1) μ)) else (fX_cheapestViews_98 v0 v1 v2 v3 μ))
theorem fX_cheapestViews_L10_ok {d : Nat} {v0 : Nat} {v1 : Int32} {v2 : Int32} {v3 : Int32} {μ : xM} {rv : Option Value} {μf : xM} {out : (Int32 × Int32 × Int32) ⊕ (Int32)} (h : fX_cheapestViews_L10 v0 v1 v2 v3 μ = some out) (hK : fX_cheapestViews_K10 v0 μ d rv μf out) : xRun (d + 2) 52 10 [some (.ref v0), some (.int v1), some (.int v2), some (.int v3), none, none] [] μ rv μf := by
  unfold fX_cheapestViews_L10 at h
  refine xr_go 3 (pc' := 13) (lo' := [some (.ref v0), some (.int v1), some (.int v2), some (.int v3), none, none]) (st' := [.ref v0, .int (xc 1), .int v3]) (μ' := μ) rfl ?_
  obtain ⟨x1, hx1, h⟩ := Option.bind_eq_some_iff.mp h
  refine xr_opA (pc' := 16) (lo' := [some (.ref v0), some (.int v1), some (.int v2), some (.int v3), none, none]) (st' := [.int (xc 1), .int v3]) (o := ldFR μ v0 0 0) rfl hx1 ?_
  obtain ⟨x2, hx2, h⟩ := Option.bind_eq_some_iff.mp h
  refine xr_opI (pc' := 19) (lo' := [some (.ref v0), some (.int v1), some (.int v2), some (.int v3), none, none]) (st' := [.int (xc 1), .int v3]) (o := ldF μ x1 3 3) rfl hx2 ?_
  refine xr_go 1 (pc' := 20) (lo' := [some (.ref v0), some (.int v1), some (.int v2), some (.int v3), none, none]) (st' := [.int ((xc 1) <<< (x2 &&& 31)), .int v3]) (μ' := μ) rfl ?_
  refine xr_icmp (pct := 104) rfl rfl rfl (fun hc => ?_) (fun hc => ?_)
  · replace h := (if_pos (of_decide_eq_true hc)).symm.trans h
    refine xr_forget (lo := [none, some (.int v1), none, none, none, none]) ⟨rfl, trivial⟩ ?_
    obtain ⟨o, h2, rfl⟩ := Option.map_eq_some_iff.mp h
    exact fX_cheapestViews_104_ok h2 hK
  · replace h := (if_neg (of_decide_eq_false hc)).symm.trans h
    refine xr_go 1 (pc' := 24) (lo' := [some (.ref v0), some (.int v1), some (.int v2), some (.int v3), none, none]) (st' := [.ref v0]) (μ' := μ) rfl ?_
    obtain ⟨x3, hx3, h⟩ := Option.bind_eq_some_iff.mp h
    refine xr_opA (pc' := 27) (lo' := [some (.ref v0), some (.int v1), some (.int v2), some (.int v3), none, none]) (st' := []) (o := ldFR μ v0 0 0) rfl hx3 ?_
    refine xr_go 1 (pc' := 28) (lo' := [some (.ref v0), some (.int v1), some (.int v2), some (.int v3), none, none]) (st' := [.ref v0, .ref x3]) (μ' := μ) rfl ?_
    obtain ⟨x4, hx4, h⟩ := Option.bind_eq_some_iff.mp h
    refine xr_opA (pc' := 31) (lo' := [some (.ref v0), some (.int v1), some (.int v2), some (.int v3), none, none]) (st' := [.ref x3]) (o := ldFR μ v0 0 0) rfl hx4 ?_
    obtain ⟨x5, hx5, h⟩ := Option.bind_eq_some_iff.mp h
    refine xr_opA (pc' := 34) (lo' := [some (.ref v0), some (.int v1), some (.int v2), some (.int v3), none, none]) (st' := [.ref x3]) (o := ldFR μ x4 3 12) rfl hx5 ?_
    refine xr_go 1 (pc' := 35) (lo' := [some (.ref v0), some (.int v1), some (.int v2), some (.int v3), none, none]) (st' := [.int v3, .ref x5, .ref x3]) (μ' := μ) rfl ?_
    obtain ⟨r6, hr6, h⟩ := Option.bind_eq_some_iff.mp h
    refine xr_callV (j := 69) (d' := (d + 1)) (rv1 := some (.int r6)) (μ1 := μ) (rest := []) (As := [.ref x5, .int v3]) rfl rfl rfl rfl (Nat.le_of_ble_eq_true rfl) (fH_sumOver_kd hr6) rfl (by exact (fH_sumOver_ok (d := d + (1)) hr6)) ?_
    refine xr_go 1 (pc' := 39) (lo' := [some (.ref v0), some (.int v1), some (.int v2), some (.int v3), none, none]) (st' := [.ref v0, .int r6]) (μ' := μ) rfl ?_
    obtain ⟨x7, hx7, h⟩ := Option.bind_eq_some_iff.mp h
    refine xr_opA (pc' := 42) (lo' := [some (.ref v0), some (.int v1), some (.int v2), some (.int v3), none, none]) (st' := [.int r6]) (o := ldFR μ v0 0 0) rfl hx7 ?_
    obtain ⟨x8, hx8, h⟩ := Option.bind_eq_some_iff.mp h
    refine xr_opI (pc' := 45) (lo' := [some (.ref v0), some (.int v1), some (.int v2), some (.int v3), none, none]) (st' := [.int r6]) (o := ldF μ x7 3 6) rfl hx8 ?_
    refine xr_icmp (pct := 51) rfl rfl rfl (fun hc => ?_) (fun hc => ?_)
    · replace h := (if_pos (of_decide_eq_true hc)).symm.trans h
      refine xr_go 2 (pc' := 53) (lo' := [some (.ref v0), some (.int v1), some (.int v2), some (.int v3), none, none]) (st' := [.int v3, .ref v0]) (μ' := μ) rfl ?_
      obtain ⟨r9, hr9, h⟩ := Option.bind_eq_some_iff.mp h
      refine xr_callV (j := 51) (d' := (d + 1)) (rv1 := some (.int r9)) (μ1 := μ) (rest := []) (As := [.int v3]) rfl rfl rfl rfl (Nat.le_of_ble_eq_true rfl) (fX_costOf_kd hr9) rfl (by exact (fX_costOf_ok (d := d + (0)) hr9)) ?_
      refine xr_go 2 (pc' := 59) (lo' := [some (.ref v0), some (.int v1), some (.int v2), some (.int v3), some (.int r9), none]) (st' := [.int v3]) (μ' := μ) rfl ?_
      obtain ⟨r10, hr10, h⟩ := Option.bind_eq_some_iff.mp h
      refine xr_callS (j := 221) (d' := (d + 1)) (rv1 := some (.int r10)) (μ1 := μ) (rest := []) (As := [.int v3]) rfl rfl rfl rfl (Nat.le_of_ble_eq_true rfl) rfl (by exact (fJI_bitCount_ok (d := d + (1)) hr10)) ?_
      refine xr_go 1 (pc' := 63) (lo' := [some (.ref v0), some (.int v1), some (.int v2), some (.int v3), some (.int r9), none]) (st' := [.int v1, .int r10]) (μ' := μ) rfl ?_
      obtain ⟨r11, hr11, h⟩ := Option.bind_eq_some_iff.mp h
      refine xr_callS (j := 221) (d' := (d + 1)) (rv1 := some (.int r11)) (μ1 := μ) (rest := [.int r10]) (As := [.int v1]) rfl rfl rfl rfl (Nat.le_of_ble_eq_true rfl) rfl (by exact (fJI_bitCount_ok (d := d + (1)) hr11)) ?_
      refine xr_icmp (pct := 73) rfl rfl rfl (fun hc => ?_) (fun hc => ?_)
      · replace h := (if_pos (of_decide_eq_true hc)).symm.trans h
        refine xr_go 1 (pc' := 74) (lo' := [some (.ref v0), some (.int v1), some (.int v2), some (.int v3), some (.int r9), none]) (st' := [.int (xc 0)]) (μ' := μ) rfl ?_
        refine xr_forget (lo := [some (.ref v0), some (.int v1), some (.int v2), some (.int v3), some (.int r9), none]) ⟨rfl, rfl, rfl, rfl, rfl, trivial⟩ ?_
        exact fX_cheapestViews_74_ok h hK
      · replace h := (if_neg (of_decide_eq_false hc)).symm.trans h
        refine xr_go 2 (pc' := 74) (lo' := [some (.ref v0), some (.int v1), some (.int v2), some (.int v3), some (.int r9), none]) (st' := [.int (xc 1)]) (μ' := μ) rfl ?_
        refine xr_forget (lo := [some (.ref v0), some (.int v1), some (.int v2), some (.int v3), some (.int r9), none]) ⟨rfl, rfl, rfl, rfl, rfl, trivial⟩ ?_
        exact fX_cheapestViews_74_ok h hK
    · replace h := (if_neg (of_decide_eq_false hc)).symm.trans h
      refine xr_go 1 (pc' := 98) (lo' := [some (.ref v0), some (.int v1), some (.int v2), some (.int v3), none, none]) (st' := []) (μ' := μ) rfl ?_
      refine xr_forget (lo := [some (.ref v0), some (.int v1), some (.int v2), some (.int v3), none, none]) ⟨rfl, rfl, rfl, rfl, trivial⟩ ?_
      exact fX_cheapestViews_98_ok h hK
theorem fX_cheapestViews_L10_lp {d : Nat} {v0 : Nat} {v1 : Int32} {v2 : Int32} {v3 : Int32} {μ : xM} {rv : Option Value} {μf : xM} {out : Int32} (h : xwh (fun s : Int32 × Int32 × Int32 => fX_cheapestViews_L10 v0 s.1 s.2.1 s.2.2 μ) (v1, v2, v3) = some out) (hK : fX_cheapestViews_K μ rv μf out) : xRun (d + 2) 52 10 [some (.ref v0), some (.int v1), some (.int v2), some (.int v3), none, none] [] μ rv μf :=
  xwh_ind (Rh := fun s : Int32 × Int32 × Int32 => xRun (d + 2) 52 10 [some (.ref v0), some (.int s.1), some (.int s.2.1), some (.int s.2.2), none, none] [] μ rv μf) (Co := fX_cheapestViews_K μ rv μf) (fun s o hb hk => fX_cheapestViews_L10_ok hb hk) h hK
noncomputable def fX_cheapestViews_0  (v0 : Nat) (μ : xM) : Option (Int32) := (fX_costOf v0 (xc 0) μ).bind fun r12 => xwh (fun s : Int32 × Int32 × Int32 => fX_cheapestViews_L10 v0 s.1 s.2.1 s.2.2 μ) (xc 0, r12, xc 1)
theorem fX_cheapestViews_0_ok {d : Nat} {v0 : Nat} {μ : xM} {rv : Option Value} {μf : xM} {out : Int32} (h : fX_cheapestViews_0 v0 μ = some out) (hK : fX_cheapestViews_K μ rv μf out) : xRun (d + 2) 52 0 [some (.ref v0), none, none, none, none, none] [] μ rv μf := by
  unfold fX_cheapestViews_0 at h
  refine xr_go 4 (pc' := 4) (lo' := [some (.ref v0), some (.int (xc 0)), none, none, none, none]) (st' := [.int (xc 0), .ref v0]) (μ' := μ) rfl ?_
  obtain ⟨r12, hr12, h⟩ := Option.bind_eq_some_iff.mp h
  refine xr_callV (j := 51) (d' := (d + 1)) (rv1 := some (.int r12)) (μ1 := μ) (rest := []) (As := [.int (xc 0)]) rfl rfl rfl rfl (Nat.le_of_ble_eq_true rfl) (fX_costOf_kd hr12) rfl (by exact (fX_costOf_ok (d := d + (0)) hr12)) ?_
  refine xr_go 3 (pc' := 10) (lo' := [some (.ref v0), some (.int (xc 0)), some (.int r12), some (.int (xc 1)), none, none]) (st' := []) (μ' := μ) rfl ?_
  refine xr_forget (lo := [some (.ref v0), some (.int (xc 0)), some (.int r12), some (.int (xc 1)), none, none]) ⟨rfl, rfl, rfl, rfl, trivial⟩ ?_
  exact fX_cheapestViews_L10_lp h hK
noncomputable def fX_cheapestViews (a0 : Nat) (μ : xM) : Option (Int32) := xgd μ a0 0 (fX_cheapestViews_0 a0 μ)
theorem fX_cheapestViews_kd {a0 : Nat} {μ : xM} {o : Int32} (h : fX_cheapestViews a0 μ = some o) : (xK μ a0).1 = 10 + 0 := (xgd_some h).1
theorem fX_cheapestViews_ok {d : Nat} {a0 : Nat} {μ : xM} {o : Int32} (h : fX_cheapestViews a0 μ = some o) : xRun (d + 2) 52 0 [some (.ref a0), none, none, none, none, none] [] μ (some (.int o)) μ :=
  xr_forget (lo := [some (.ref a0), none, none, none, none, none]) (⟨rfl, trivial⟩) (fX_cheapestViews_0_ok (d := d) (xgd_some h).2 (show fX_cheapestViews_K μ _ _ o from ⟨rfl, rfl⟩))
-- KeptAnswers.which(I)I 
def fX_which_K (rv : Option Value) (μf : xM) : (Int32 × xM) → Prop := fun o => rv = some (.int o.1) ∧ μf = o.2
noncomputable def fX_which_9  (v0 : Nat) (μ : xM) : Option (Int32 × xM) := (fX_refuse v0 (xc (-2)) μ).bind fun r1 => some ((r1.1, r1.2))
theorem fX_which_9_ok {d : Nat} {v0 : Nat} {μ : xM} {rv : Option Value} {μf : xM} {out : Int32 × xM} (h : fX_which_9 v0 μ = some out) (hK : fX_which_K rv μf out) : xRun (d + 13) 29 9 [some (.ref v0), none, none] [] μ rv μf := by
  unfold fX_which_9 at h
  refine xr_go 2 (pc' := 12) (lo' := [some (.ref v0), none, none]) (st' := [.int (xc (-2)), .ref v0]) (μ' := μ) rfl ?_
  obtain ⟨r1, hr1, h⟩ := Option.bind_eq_some_iff.mp h
  refine xr_callV (j := 37) (d' := (d + 12)) (rv1 := some (.int r1.1)) (μ1 := r1.2) (rest := []) (As := [.int (xc (-2))]) rfl rfl rfl rfl (Nat.le_of_ble_eq_true rfl) (fX_refuse_kd hr1) rfl (by exact (fX_refuse_ok (d := d + (12)) hr1)) ?_
  have ho := Option.some.inj h
  subst ho
  obtain ⟨rfl, rfl⟩ := hK
  exact xr_ret (rv := some (.int r1.1)) rfl rfl (Or.inl rfl)
noncomputable def fX_which_0  (v0 : Nat) (v1 : Int32) (μ : xM) : Option (Int32 × xM) := if v1 < 0 then (fX_which_9 v0 μ) else (if v1 ≤ (xc 1) then ((fX_knowsAllCovers v0 μ).bind fun r2 => if r2.1 = 0 then ((fX_refuse v0 (xc (-5)) r2.2).bind fun r5 => some ((r5.1, r5.2))) else ((fX_cheapestViews v0 r2.2).bind fun r3 => if v1 = 0 then (some ((r3, r2.2))) else ((fX_costOf v0 r3 r2.2).bind fun r4 => some ((r4, r2.2))))) else (fX_which_9 v0 μ))
theorem fX_which_0_ok {d : Nat} {v0 : Nat} {v1 : Int32} {μ : xM} {rv : Option Value} {μf : xM} {out : Int32 × xM} (h : fX_which_0 v0 v1 μ = some out) (hK : fX_which_K rv μf out) : xRun (d + 13) 29 0 [some (.ref v0), some (.int v1), none] [] μ rv μf := by
  unfold fX_which_0 at h
  refine xr_go 1 (pc' := 1) (lo' := [some (.ref v0), some (.int v1), none]) (st' := [.int v1]) (μ' := μ) rfl ?_
  refine xr_ifc (pct := 9) rfl rfl rfl (fun hc => ?_) (fun hc => ?_)
  · replace h := (if_pos (of_decide_eq_true hc)).symm.trans h
    refine xr_forget (lo := [some (.ref v0), none, none]) ⟨rfl, trivial⟩ ?_
    exact fX_which_9_ok h hK
  · replace h := (if_neg (of_decide_eq_false hc)).symm.trans h
    refine xr_go 2 (pc' := 6) (lo' := [some (.ref v0), some (.int v1), none]) (st' := [.int (xc 1), .int v1]) (μ' := μ) rfl ?_
    refine xr_icmp (pct := 16) rfl rfl rfl (fun hc => ?_) (fun hc => ?_)
    · replace h := (if_pos (of_decide_eq_true hc)).symm.trans h
      refine xr_go 1 (pc' := 17) (lo' := [some (.ref v0), some (.int v1), none]) (st' := [.ref v0]) (μ' := μ) rfl ?_
      obtain ⟨r2, hr2, h⟩ := Option.bind_eq_some_iff.mp h
      refine xr_callV (j := 50) (d' := (d + 12)) (rv1 := some (.int r2.1)) (μ1 := r2.2) (rest := []) (As := []) rfl rfl rfl rfl (Nat.le_of_ble_eq_true rfl) (fX_knowsAllCovers_kd hr2) rfl (by exact (fX_knowsAllCovers_ok (d := d + (0)) hr2)) ?_
      refine xr_ifc (pct := 30) rfl rfl rfl (fun hc => ?_) (fun hc => ?_)
      · replace h := (if_neg (of_decide_eq_true hc)).symm.trans h
        refine xr_go 1 (pc' := 31) (lo' := [some (.ref v0), some (.int v1), none]) (st' := [.ref v0]) (μ' := r2.2) rfl ?_
        obtain ⟨r3, hr3, h⟩ := Option.bind_eq_some_iff.mp h
        refine xr_callV (j := 52) (d' := (d + 12)) (rv1 := some (.int r3)) (μ1 := r2.2) (rest := []) (As := []) rfl rfl rfl rfl (Nat.le_of_ble_eq_true rfl) (fX_cheapestViews_kd hr3) rfl (by exact (fX_cheapestViews_ok (d := d + (10)) hr3)) ?_
        refine xr_go 2 (pc' := 36) (lo' := [some (.ref v0), some (.int v1), some (.int r3)]) (st' := [.int v1]) (μ' := r2.2) rfl ?_
        refine xr_ifc (pct := 43) rfl rfl rfl (fun hc => ?_) (fun hc => ?_)
        · replace h := (if_neg (of_decide_eq_true hc)).symm.trans h
          refine xr_go 2 (pc' := 45) (lo' := [some (.ref v0), some (.int v1), some (.int r3)]) (st' := [.int r3, .ref v0]) (μ' := r2.2) rfl ?_
          obtain ⟨r4, hr4, h⟩ := Option.bind_eq_some_iff.mp h
          refine xr_callV (j := 51) (d' := (d + 12)) (rv1 := some (.int r4)) (μ1 := r2.2) (rest := []) (As := [.int r3]) rfl rfl rfl rfl (Nat.le_of_ble_eq_true rfl) (fX_costOf_kd hr4) rfl (by exact (fX_costOf_ok (d := d + (11)) hr4)) ?_
          have ho := Option.some.inj h
          subst ho
          obtain ⟨rfl, rfl⟩ := hK
          exact xr_ret (rv := some (.int r4)) rfl rfl (Or.inl rfl)
        · replace h := (if_pos (Decidable.of_not_not (of_decide_eq_false hc))).symm.trans h
          refine xr_go 2 (pc' := 48) (lo' := [some (.ref v0), some (.int v1), some (.int r3)]) (st' := [.int r3]) (μ' := r2.2) rfl ?_
          have ho := Option.some.inj h
          subst ho
          obtain ⟨rfl, rfl⟩ := hK
          exact xr_ret (rv := some (.int r3)) rfl rfl (Or.inl rfl)
      · replace h := (if_pos (Decidable.of_not_not (of_decide_eq_false hc))).symm.trans h
        refine xr_go 2 (pc' := 26) (lo' := [some (.ref v0), some (.int v1), none]) (st' := [.int (xc (-5)), .ref v0]) (μ' := r2.2) rfl ?_
        obtain ⟨r5, hr5, h⟩ := Option.bind_eq_some_iff.mp h
        refine xr_callV (j := 37) (d' := (d + 12)) (rv1 := some (.int r5.1)) (μ1 := r5.2) (rest := []) (As := [.int (xc (-5))]) rfl rfl rfl rfl (Nat.le_of_ble_eq_true rfl) (fX_refuse_kd hr5) rfl (by exact (fX_refuse_ok (d := d + (12)) hr5)) ?_
        have ho := Option.some.inj h
        subst ho
        obtain ⟨rfl, rfl⟩ := hK
        exact xr_ret (rv := some (.int r5.1)) rfl rfl (Or.inl rfl)
    · replace h := (if_neg (of_decide_eq_false hc)).symm.trans h
      refine xr_forget (lo := [some (.ref v0), none, none]) ⟨rfl, trivial⟩ ?_
      exact fX_which_9_ok h hK
noncomputable def fX_which (a0 : Nat) (a1 : Int32) (μ : xM) : Option (Int32 × xM) := xgd μ a0 0 (fX_which_0 a0 a1 μ)
theorem fX_which_kd {a0 : Nat} {a1 : Int32} {μ : xM} {o : Int32 × xM} (h : fX_which a0 a1 μ = some o) : (xK μ a0).1 = 10 + 0 := (xgd_some h).1
theorem fX_which_ok {d : Nat} {a0 : Nat} {a1 : Int32} {μ : xM} {o : Int32 × xM} (h : fX_which a0 a1 μ = some o) : xRun (d + 13) 29 0 [some (.ref a0), some (.int a1), none] [] μ (some (.int o.1)) o.2 :=
  xr_forget (lo := [some (.ref a0), some (.int a1), none]) (⟨rfl, rfl, trivial⟩) (fX_which_0_ok (d := d) (xgd_some h).2 (show fX_which_K _ _ o from ⟨rfl, rfl⟩))
-- KeptAnswersModel.sizeOf(I)I 
def fM_sizeOf_K (μ : xM) (rv : Option Value) (μf : xM) : (Int32) → Prop := fun o => rv = some (.int o) ∧ μf = μ
def fM_sizeOf_K4 (v0 : Nat) (v1 : Int32) (μ : xM) (d : Nat) (rv : Option Value) (μf : xM) : ((Int32 × Int32) ⊕ (Int32)) → Prop := Sum.elim (fun s : Int32 × Int32 => xRun (d + 0) 209 4 [some (.ref v0), some (.int v1), some (.int s.1), some (.int s.2)] [] μ rv μf) (fM_sizeOf_K μ rv μf)
noncomputable def fM_sizeOf_33  (v2 : Int32) (μ : xM) : Option (Int32) := some v2
theorem fM_sizeOf_33_ok {d : Nat} {v2 : Int32} {μ : xM} {rv : Option Value} {μf : xM} {out : Int32} (h : fM_sizeOf_33 v2 μ = some out) (hK : fM_sizeOf_K μ rv μf out) : xRun (d + 0) 209 33 [none, none, some (.int v2), none] [] μ rv μf := by
  unfold fM_sizeOf_33 at h
  refine xr_go 1 (pc' := 34) (lo' := [none, none, some (.int v2), none]) (st' := [.int v2]) (μ' := μ) rfl ?_
  have ho := Option.some.inj h
  subst ho
  obtain ⟨rfl, rfl⟩ := hK
  exact xr_ret (rv := some (.int v2)) rfl rfl (Or.inl rfl)
noncomputable def fM_sizeOf_L4  (v0 : Nat) (v1 : Int32) (v2 : Int32) (v3 : Int32) (μ : xM) : Option ((Int32 × Int32) ⊕ (Int32)) := (ldF μ v0 9 9).bind fun x1 => if x1 ≤ v3 then ((fM_sizeOf_33 v2 μ).map (fun o => .inr o)) else ((ldFR μ v0 9 18).bind fun x2 => (ldA μ x2 v3).bind fun x3 => some (.inl ((v2 + (((v1 >>> (v3 &&& 31)) &&& (xc 1)) * x3), v3 + xc 1))))
theorem fM_sizeOf_L4_ok {d : Nat} {v0 : Nat} {v1 : Int32} {v2 : Int32} {v3 : Int32} {μ : xM} {rv : Option Value} {μf : xM} {out : (Int32 × Int32) ⊕ (Int32)} (h : fM_sizeOf_L4 v0 v1 v2 v3 μ = some out) (hK : fM_sizeOf_K4 v0 v1 μ d rv μf out) : xRun (d + 0) 209 4 [some (.ref v0), some (.int v1), some (.int v2), some (.int v3)] [] μ rv μf := by
  unfold fM_sizeOf_L4 at h
  refine xr_go 2 (pc' := 6) (lo' := [some (.ref v0), some (.int v1), some (.int v2), some (.int v3)]) (st' := [.ref v0, .int v3]) (μ' := μ) rfl ?_
  obtain ⟨x1, hx1, h⟩ := Option.bind_eq_some_iff.mp h
  refine xr_opI (pc' := 9) (lo' := [some (.ref v0), some (.int v1), some (.int v2), some (.int v3)]) (st' := [.int v3]) (o := ldF μ v0 9 9) rfl hx1 ?_
  refine xr_icmp (pct := 33) rfl rfl rfl (fun hc => ?_) (fun hc => ?_)
  · replace h := (if_pos (of_decide_eq_true hc)).symm.trans h
    refine xr_forget (lo := [none, none, some (.int v2), none]) ⟨rfl, trivial⟩ ?_
    obtain ⟨o, h2, rfl⟩ := Option.map_eq_some_iff.mp h
    exact fM_sizeOf_33_ok h2 hK
  · replace h := (if_neg (of_decide_eq_false hc)).symm.trans h
    refine xr_go 7 (pc' := 19) (lo' := [some (.ref v0), some (.int v1), some (.int v2), some (.int v3)]) (st' := [.ref v0, .int ((v1 >>> (v3 &&& 31)) &&& (xc 1)), .int v2]) (μ' := μ) rfl ?_
    obtain ⟨x2, hx2, h⟩ := Option.bind_eq_some_iff.mp h
    refine xr_opA (pc' := 22) (lo' := [some (.ref v0), some (.int v1), some (.int v2), some (.int v3)]) (st' := [.int ((v1 >>> (v3 &&& 31)) &&& (xc 1)), .int v2]) (o := ldFR μ v0 9 18) rfl hx2 ?_
    refine xr_go 1 (pc' := 23) (lo' := [some (.ref v0), some (.int v1), some (.int v2), some (.int v3)]) (st' := [.int v3, .ref x2, .int ((v1 >>> (v3 &&& 31)) &&& (xc 1)), .int v2]) (μ' := μ) rfl ?_
    obtain ⟨x3, hx3, h⟩ := Option.bind_eq_some_iff.mp h
    refine xr_opI (pc' := 24) (lo' := [some (.ref v0), some (.int v1), some (.int v2), some (.int v3)]) (st' := [.int ((v1 >>> (v3 &&& 31)) &&& (xc 1)), .int v2]) (o := ldA μ x2 v3) rfl hx3 ?_
    refine xr_go 5 (pc' := 4) (lo' := [some (.ref v0), some (.int v1), some (.int (v2 + (((v1 >>> (v3 &&& 31)) &&& (xc 1)) * x3))), some (.int (v3 + xc 1))]) (st' := []) (μ' := μ) rfl ?_
    refine xr_forget (lo := [some (.ref v0), some (.int v1), some (.int (v2 + (((v1 >>> (v3 &&& 31)) &&& (xc 1)) * x3))), some (.int (v3 + xc 1))]) ⟨rfl, rfl, rfl, rfl, trivial⟩ ?_
    have ho := Option.some.inj h
    subst ho
    exact hK
theorem fM_sizeOf_L4_lp {d : Nat} {v0 : Nat} {v1 : Int32} {v2 : Int32} {v3 : Int32} {μ : xM} {rv : Option Value} {μf : xM} {out : Int32} (h : xwh (fun s : Int32 × Int32 => fM_sizeOf_L4 v0 v1 s.1 s.2 μ) (v2, v3) = some out) (hK : fM_sizeOf_K μ rv μf out) : xRun (d + 0) 209 4 [some (.ref v0), some (.int v1), some (.int v2), some (.int v3)] [] μ rv μf :=
  xwh_ind (Rh := fun s : Int32 × Int32 => xRun (d + 0) 209 4 [some (.ref v0), some (.int v1), some (.int s.1), some (.int s.2)] [] μ rv μf) (Co := fM_sizeOf_K μ rv μf) (fun s o hb hk => fM_sizeOf_L4_ok hb hk) h hK
noncomputable def fM_sizeOf_0  (v0 : Nat) (v1 : Int32) (μ : xM) : Option (Int32) := xwh (fun s : Int32 × Int32 => fM_sizeOf_L4 v0 v1 s.1 s.2 μ) (xc 0, xc 0)
theorem fM_sizeOf_0_ok {d : Nat} {v0 : Nat} {v1 : Int32} {μ : xM} {rv : Option Value} {μf : xM} {out : Int32} (h : fM_sizeOf_0 v0 v1 μ = some out) (hK : fM_sizeOf_K μ rv μf out) : xRun (d + 0) 209 0 [some (.ref v0), some (.int v1), none, none] [] μ rv μf := by
  unfold fM_sizeOf_0 at h
  refine xr_go 4 (pc' := 4) (lo' := [some (.ref v0), some (.int v1), some (.int (xc 0)), some (.int (xc 0))]) (st' := []) (μ' := μ) rfl ?_
  refine xr_forget (lo := [some (.ref v0), some (.int v1), some (.int (xc 0)), some (.int (xc 0))]) ⟨rfl, rfl, rfl, rfl, trivial⟩ ?_
  exact fM_sizeOf_L4_lp h hK
noncomputable def fM_sizeOf (a0 : Nat) (a1 : Int32) (μ : xM) : Option (Int32) := xgd μ a0 9 (fM_sizeOf_0 a0 a1 μ)
theorem fM_sizeOf_kd {a0 : Nat} {a1 : Int32} {μ : xM} {o : Int32} (h : fM_sizeOf a0 a1 μ = some o) : (xK μ a0).1 = 10 + 9 := (xgd_some h).1
theorem fM_sizeOf_ok {d : Nat} {a0 : Nat} {a1 : Int32} {μ : xM} {o : Int32} (h : fM_sizeOf a0 a1 μ = some o) : xRun (d + 0) 209 0 [some (.ref a0), some (.int a1), none, none] [] μ (some (.int o)) μ :=
  xr_forget (lo := [some (.ref a0), some (.int a1), none, none]) (⟨rfl, rfl, trivial⟩) (fM_sizeOf_0_ok (d := d) (xgd_some h).2 (show fM_sizeOf_K μ _ _ o from ⟨rfl, rfl⟩))
-- KeptAnswersModel.which(I)I 
def fM_which_K (rv : Option Value) (μf : xM) : (Int32 × xM) → Prop := fun o => rv = some (.int o.1) ∧ μf = o.2
def fM_which_K35 (v0 : Nat) (v1 : Int32) (μ : xM) (d : Nat) (rv : Option Value) (μf : xM) : ((Int32 × Int32) ⊕ (Int32 × xM)) → Prop := Sum.elim (fun s : Int32 × Int32 => xRun (d + 7) 210 35 [some (.ref v0), some (.int v1), some (.int s.1), some (.int s.2), none] [] μ rv μf) (fM_which_K rv μf)
noncomputable def fM_which_122  (v0 : Nat) (v1 : Int32) (v2 : Int32) (μ : xM) : Option (Int32 × xM) := if v1 = 0 then (some ((v2, μ))) else ((fM_costOf v0 v2 μ).bind fun r1 => some ((r1, μ)))
theorem fM_which_122_ok {d : Nat} {v0 : Nat} {v1 : Int32} {v2 : Int32} {μ : xM} {rv : Option Value} {μf : xM} {out : Int32 × xM} (h : fM_which_122 v0 v1 v2 μ = some out) (hK : fM_which_K rv μf out) : xRun (d + 7) 210 122 [some (.ref v0), some (.int v1), some (.int v2), none, none] [] μ rv μf := by
  unfold fM_which_122 at h
  refine xr_go 1 (pc' := 123) (lo' := [some (.ref v0), some (.int v1), some (.int v2), none, none]) (st' := [.int v1]) (μ' := μ) rfl ?_
  refine xr_ifc (pct := 130) rfl rfl rfl (fun hc => ?_) (fun hc => ?_)
  · replace h := (if_neg (of_decide_eq_true hc)).symm.trans h
    refine xr_go 2 (pc' := 132) (lo' := [some (.ref v0), some (.int v1), some (.int v2), none, none]) (st' := [.int v2, .ref v0]) (μ' := μ) rfl ?_
    obtain ⟨r1, hr1, h⟩ := Option.bind_eq_some_iff.mp h
    refine xr_callV (j := 207) (d' := (d + 6)) (rv1 := some (.int r1)) (μ1 := μ) (rest := []) (As := [.int v2]) rfl rfl rfl rfl (Nat.le_of_ble_eq_true rfl) (fM_costOf_kd hr1) rfl (by exact (fM_costOf_ok (d := d + (6)) hr1)) ?_
    have ho := Option.some.inj h
    subst ho
    obtain ⟨rfl, rfl⟩ := hK
    exact xr_ret (rv := some (.int r1)) rfl rfl (Or.inl rfl)
  · replace h := (if_pos (Decidable.of_not_not (of_decide_eq_false hc))).symm.trans h
    refine xr_go 2 (pc' := 135) (lo' := [some (.ref v0), some (.int v1), some (.int v2), none, none]) (st' := [.int v2]) (μ' := μ) rfl ?_
    have ho := Option.some.inj h
    subst ho
    obtain ⟨rfl, rfl⟩ := hK
    exact xr_ret (rv := some (.int v2)) rfl rfl (Or.inl rfl)
noncomputable def fM_which_116  (v0 : Nat) (v1 : Int32) (v2 : Int32) (v3 : Int32) (μ : xM) : Option ((Int32 × Int32) ⊕ (Int32 × xM)) := some (.inl ((v2, v3 + xc 1)))
theorem fM_which_116_ok {d : Nat} {v0 : Nat} {v1 : Int32} {v2 : Int32} {v3 : Int32} {μ : xM} {rv : Option Value} {μf : xM} {out : (Int32 × Int32) ⊕ (Int32 × xM)} (h : fM_which_116 v0 v1 v2 v3 μ = some out) (hK : fM_which_K35 v0 v1 μ d rv μf out) : xRun (d + 7) 210 116 [some (.ref v0), some (.int v1), some (.int v2), some (.int v3), none] [] μ rv μf := by
  unfold fM_which_116 at h
  refine xr_go 2 (pc' := 35) (lo' := [some (.ref v0), some (.int v1), some (.int v2), some (.int (v3 + xc 1)), none]) (st' := []) (μ' := μ) rfl ?_
  refine xr_forget (lo := [some (.ref v0), some (.int v1), some (.int v2), some (.int (v3 + xc 1)), none]) ⟨rfl, rfl, rfl, rfl, trivial⟩ ?_
  have ho := Option.some.inj h
  subst ho
  exact hK
noncomputable def fM_which_115  (v0 : Nat) (v1 : Int32) (v3 : Int32) (s0 : Int32) (μ : xM) : Option ((Int32 × Int32) ⊕ (Int32 × xM)) := fM_which_116 v0 v1 s0 v3 μ
theorem fM_which_115_ok {d : Nat} {v0 : Nat} {v1 : Int32} {v3 : Int32} {s0 : Int32} {μ : xM} {rv : Option Value} {μf : xM} {out : (Int32 × Int32) ⊕ (Int32 × xM)} (h : fM_which_115 v0 v1 v3 s0 μ = some out) (hK : fM_which_K35 v0 v1 μ d rv μf out) : xRun (d + 7) 210 115 [some (.ref v0), some (.int v1), none, some (.int v3), none] [.int s0] μ rv μf := by
  unfold fM_which_115 at h
  refine xr_go 1 (pc' := 116) (lo' := [some (.ref v0), some (.int v1), some (.int s0), some (.int v3), none]) (st' := []) (μ' := μ) rfl ?_
  refine xr_forget (lo := [some (.ref v0), some (.int v1), some (.int s0), some (.int v3), none]) ⟨rfl, rfl, rfl, rfl, trivial⟩ ?_
  exact fM_which_116_ok h hK
noncomputable def fM_which_103  (v0 : Nat) (v1 : Int32) (v2 : Int32) (v3 : Int32) (s0 : Int32) (μ : xM) : Option ((Int32 × Int32) ⊕ (Int32 × xM)) := if s0 = 0 then (fM_which_115 v0 v1 v3 v2 μ) else (fM_which_115 v0 v1 v3 v3 μ)
theorem fM_which_103_ok {d : Nat} {v0 : Nat} {v1 : Int32} {v2 : Int32} {v3 : Int32} {s0 : Int32} {μ : xM} {rv : Option Value} {μf : xM} {out : (Int32 × Int32) ⊕ (Int32 × xM)} (h : fM_which_103 v0 v1 v2 v3 s0 μ = some out) (hK : fM_which_K35 v0 v1 μ d rv μf out) : xRun (d + 7) 210 103 [some (.ref v0), some (.int v1), some (.int v2), some (.int v3), none] [.int s0] μ rv μf := by
  unfold fM_which_103 at h
  refine xr_go 2 (pc' := 107) (lo' := [some (.ref v0), some (.int v1), some (.int v2), some (.int v3), some (.int s0)]) (st' := [.int s0]) (μ' := μ) rfl ?_
  refine xr_ifc (pct := 114) rfl rfl rfl (fun hc => ?_) (fun hc => ?_)
  · replace h := (if_pos (of_decide_eq_true hc)).symm.trans h
    refine xr_go 1 (pc' := 115) (lo' := [some (.ref v0), some (.int v1), some (.int v2), some (.int v3), some (.int s0)]) (st' := [.int v2]) (μ' := μ) rfl ?_
    refine xr_forget (lo := [some (.ref v0), some (.int v1), none, some (.int v3), none]) ⟨rfl, rfl, rfl, trivial⟩ ?_
    exact fM_which_115_ok h hK
  · replace h := (if_neg (of_decide_eq_false hc)).symm.trans h
    refine xr_go 2 (pc' := 115) (lo' := [some (.ref v0), some (.int v1), some (.int v2), some (.int v3), some (.int s0)]) (st' := [.int v3]) (μ' := μ) rfl ?_
    refine xr_forget (lo := [some (.ref v0), some (.int v1), none, some (.int v3), none]) ⟨rfl, rfl, rfl, trivial⟩ ?_
    exact fM_which_115_ok h hK
noncomputable def fM_which_102  (v0 : Nat) (v1 : Int32) (v2 : Int32) (v3 : Int32) (μ : xM) : Option ((Int32 × Int32) ⊕ (Int32 × xM)) := fM_which_103 v0 v1 v2 v3 (xc 0) μ
theorem fM_which_102_ok {d : Nat} {v0 : Nat} {v1 : Int32} {v2 : Int32} {v3 : Int32} {μ : xM} {rv : Option Value} {μf : xM} {out : (Int32 × Int32) ⊕ (Int32 × xM)} (h : fM_which_102 v0 v1 v2 v3 μ = some out) (hK : fM_which_K35 v0 v1 μ d rv μf out) : xRun (d + 7) 210 102 [some (.ref v0), some (.int v1), some (.int v2), some (.int v3), none] [] μ rv μf := by
  unfold fM_which_102 at h
  refine xr_go 1 (pc' := 103) (lo' := [some (.ref v0), some (.int v1), some (.int v2), some (.int v3), none]) (st' := [.int (xc 0)]) (μ' := μ) rfl ?_
  refine xr_forget (lo := [some (.ref v0), some (.int v1), some (.int v2), some (.int v3), none]) ⟨rfl, rfl, rfl, rfl, trivial⟩ ?_
  exact fM_which_103_ok h hK
noncomputable def fM_which_98  (v0 : Nat) (v1 : Int32) (v2 : Int32) (v3 : Int32) (μ : xM) : Option ((Int32 × Int32) ⊕ (Int32 × xM)) := fM_which_103 v0 v1 v2 v3 (xc 1) μ
theorem fM_which_98_ok {d : Nat} {v0 : Nat} {v1 : Int32} {v2 : Int32} {v3 : Int32} {μ : xM} {rv : Option Value} {μf : xM} {out : (Int32 × Int32) ⊕ (Int32 × xM)} (h : fM_which_98 v0 v1 v2 v3 μ = some out) (hK : fM_which_K35 v0 v1 μ d rv μf out) : xRun (d + 7) 210 98 [some (.ref v0), some (.int v1), some (.int v2), some (.int v3), none] [] μ rv μf := by
  unfold fM_which_98 at h
  refine xr_go 2 (pc' := 103) (lo' := [some (.ref v0), some (.int v1), some (.int v2), some (.int v3), none]) (st' := [.int (xc 1)]) (μ' := μ) rfl ?_
  refine xr_forget (lo := [some (.ref v0), some (.int v1), some (.int v2), some (.int v3), none]) ⟨rfl, rfl, rfl, rfl, trivial⟩ ?_
  exact fM_which_103_ok h hK
noncomputable def fM_which_L35  (v0 : Nat) (v1 : Int32) (v2 : Int32) (v3 : Int32) (μ : xM) : Option ((Int32 × Int32) ⊕ (Int32 × xM)) := (ldF μ v0 9 9).bind fun x2 => if ((xc 1) <<< (x2 &&& 31)) ≤ v3 then ((fM_which_122 v0 v1 v2 μ).map (fun o => .inr o)) else ((fM_sizeOf v0 v3 μ).bind fun r3 => (ldF μ v0 9 23).bind fun x4 => if x4 < r3 then (fM_which_116 v0 v1 v2 v3 μ) else (if v2 < 0 then (fM_which_98 v0 v1 v2 v3 μ) else ((fM_costOf v0 v3 μ).bind fun r5 => (fM_costOf v0 v2 μ).bind fun r6 => if r5 < r6 then (fM_which_98 v0 v1 v2 v3 μ) else ((fM_costOf v0 v3 μ).bind fun r7 => (fM_costOf v0 v2 μ).bind fun r8 => if r7 = r8 then ((fM_ones v3 μ).bind fun r9 => (fM_ones v2 μ).bind fun r10 => if r10 ≤ r9 then (fM_which_102 v0 v1 v2 v3 μ) else (fM_which_98 v0 v1 v2 v3 μ)) else (fM_which_102 v0 v1 v2 v3 μ)))))
theorem fM_which_L35_ok {d : Nat} {v0 : Nat} {v1 : Int32} {v2 : Int32} {v3 : Int32} {μ : xM} {rv : Option Value} {μf : xM} {out : (Int32 × Int32) ⊕ (Int32 × xM)} (h : fM_which_L35 v0 v1 v2 v3 μ = some out) (hK : fM_which_K35 v0 v1 μ d rv μf out) : xRun (d + 7) 210 35 [some (.ref v0), some (.int v1), some (.int v2), some (.int v3), none] [] μ rv μf := by
  unfold fM_which_L35 at h
  refine xr_go 3 (pc' := 38) (lo' := [some (.ref v0), some (.int v1), some (.int v2), some (.int v3), none]) (st' := [.ref v0, .int (xc 1), .int v3]) (μ' := μ) rfl ?_
  obtain ⟨x2, hx2, h⟩ := Option.bind_eq_some_iff.mp h
  refine xr_opI (pc' := 41) (lo' := [some (.ref v0), some (.int v1), some (.int v2), some (.int v3), none]) (st' := [.int (xc 1), .int v3]) (o := ldF μ v0 9 9) rfl hx2 ?_
  refine xr_go 1 (pc' := 42) (lo' := [some (.ref v0), some (.int v1), some (.int v2), some (.int v3), none]) (st' := [.int ((xc 1) <<< (x2 &&& 31)), .int v3]) (μ' := μ) rfl ?_
  refine xr_icmp (pct := 122) rfl rfl rfl (fun hc => ?_) (fun hc => ?_)
  · replace h := (if_pos (of_decide_eq_true hc)).symm.trans h
    refine xr_forget (lo := [some (.ref v0), some (.int v1), some (.int v2), none, none]) ⟨rfl, rfl, rfl, trivial⟩ ?_
    obtain ⟨o, h2, rfl⟩ := Option.map_eq_some_iff.mp h
    exact fM_which_122_ok h2 hK
  · replace h := (if_neg (of_decide_eq_false hc)).symm.trans h
    refine xr_go 2 (pc' := 47) (lo' := [some (.ref v0), some (.int v1), some (.int v2), some (.int v3), none]) (st' := [.int v3, .ref v0]) (μ' := μ) rfl ?_
    obtain ⟨r3, hr3, h⟩ := Option.bind_eq_some_iff.mp h
    refine xr_callV (j := 209) (d' := (d + 6)) (rv1 := some (.int r3)) (μ1 := μ) (rest := []) (As := [.int v3]) rfl rfl rfl rfl (Nat.le_of_ble_eq_true rfl) (fM_sizeOf_kd hr3) rfl (by exact (fM_sizeOf_ok (d := d + (6)) hr3)) ?_
    refine xr_go 1 (pc' := 51) (lo' := [some (.ref v0), some (.int v1), some (.int v2), some (.int v3), none]) (st' := [.ref v0, .int r3]) (μ' := μ) rfl ?_
    obtain ⟨x4, hx4, h⟩ := Option.bind_eq_some_iff.mp h
    refine xr_opI (pc' := 54) (lo' := [some (.ref v0), some (.int v1), some (.int v2), some (.int v3), none]) (st' := [.int r3]) (o := ldF μ v0 9 23) rfl hx4 ?_
    refine xr_icmp (pct := 116) rfl rfl rfl (fun hc => ?_) (fun hc => ?_)
    · replace h := (if_pos (of_decide_eq_true hc)).symm.trans h
      refine xr_forget (lo := [some (.ref v0), some (.int v1), some (.int v2), some (.int v3), none]) ⟨rfl, rfl, rfl, rfl, trivial⟩ ?_
      exact fM_which_116_ok h hK
    · replace h := (if_neg (of_decide_eq_false hc)).symm.trans h
      refine xr_go 1 (pc' := 58) (lo' := [some (.ref v0), some (.int v1), some (.int v2), some (.int v3), none]) (st' := [.int v2]) (μ' := μ) rfl ?_
      refine xr_ifc (pct := 98) rfl rfl rfl (fun hc => ?_) (fun hc => ?_)
      · replace h := (if_pos (of_decide_eq_true hc)).symm.trans h
        refine xr_forget (lo := [some (.ref v0), some (.int v1), some (.int v2), some (.int v3), none]) ⟨rfl, rfl, rfl, rfl, trivial⟩ ?_
        exact fM_which_98_ok h hK
      · replace h := (if_neg (of_decide_eq_false hc)).symm.trans h
        refine xr_go 2 (pc' := 63) (lo' := [some (.ref v0), some (.int v1), some (.int v2), some (.int v3), none]) (st' := [.int v3, .ref v0]) (μ' := μ) rfl ?_
        obtain ⟨r5, hr5, h⟩ := Option.bind_eq_some_iff.mp h
        refine xr_callV (j := 207) (d' := (d + 6)) (rv1 := some (.int r5)) (μ1 := μ) (rest := []) (As := [.int v3]) rfl rfl rfl rfl (Nat.le_of_ble_eq_true rfl) (fM_costOf_kd hr5) rfl (by exact (fM_costOf_ok (d := d + (6)) hr5)) ?_
        refine xr_go 2 (pc' := 68) (lo' := [some (.ref v0), some (.int v1), some (.int v2), some (.int v3), none]) (st' := [.int v2, .ref v0, .int r5]) (μ' := μ) rfl ?_
        obtain ⟨r6, hr6, h⟩ := Option.bind_eq_some_iff.mp h
        refine xr_callV (j := 207) (d' := (d + 6)) (rv1 := some (.int r6)) (μ1 := μ) (rest := [.int r5]) (As := [.int v2]) rfl rfl rfl rfl (Nat.le_of_ble_eq_true rfl) (fM_costOf_kd hr6) rfl (by exact (fM_costOf_ok (d := d + (6)) hr6)) ?_
        refine xr_icmp (pct := 98) rfl rfl rfl (fun hc => ?_) (fun hc => ?_)
        · replace h := (if_pos (of_decide_eq_true hc)).symm.trans h
          refine xr_forget (lo := [some (.ref v0), some (.int v1), some (.int v2), some (.int v3), none]) ⟨rfl, rfl, rfl, rfl, trivial⟩ ?_
          exact fM_which_98_ok h hK
        · replace h := (if_neg (of_decide_eq_false hc)).symm.trans h
          refine xr_go 2 (pc' := 76) (lo' := [some (.ref v0), some (.int v1), some (.int v2), some (.int v3), none]) (st' := [.int v3, .ref v0]) (μ' := μ) rfl ?_
          obtain ⟨r7, hr7, h⟩ := Option.bind_eq_some_iff.mp h
          refine xr_callV (j := 207) (d' := (d + 6)) (rv1 := some (.int r7)) (μ1 := μ) (rest := []) (As := [.int v3]) rfl rfl rfl rfl (Nat.le_of_ble_eq_true rfl) (fM_costOf_kd hr7) rfl (by exact (fM_costOf_ok (d := d + (6)) hr7)) ?_
          refine xr_go 2 (pc' := 81) (lo' := [some (.ref v0), some (.int v1), some (.int v2), some (.int v3), none]) (st' := [.int v2, .ref v0, .int r7]) (μ' := μ) rfl ?_
          obtain ⟨r8, hr8, h⟩ := Option.bind_eq_some_iff.mp h
          refine xr_callV (j := 207) (d' := (d + 6)) (rv1 := some (.int r8)) (μ1 := μ) (rest := [.int r7]) (As := [.int v2]) rfl rfl rfl rfl (Nat.le_of_ble_eq_true rfl) (fM_costOf_kd hr8) rfl (by exact (fM_costOf_ok (d := d + (6)) hr8)) ?_
          refine xr_icmp (pct := 102) rfl rfl rfl (fun hc => ?_) (fun hc => ?_)
          · replace h := (if_neg (of_decide_eq_true hc)).symm.trans h
            refine xr_forget (lo := [some (.ref v0), some (.int v1), some (.int v2), some (.int v3), none]) ⟨rfl, rfl, rfl, rfl, trivial⟩ ?_
            exact fM_which_102_ok h hK
          · replace h := (if_pos (Decidable.of_not_not (of_decide_eq_false hc))).symm.trans h
            refine xr_go 1 (pc' := 88) (lo' := [some (.ref v0), some (.int v1), some (.int v2), some (.int v3), none]) (st' := [.int v3]) (μ' := μ) rfl ?_
            obtain ⟨r9, hr9, h⟩ := Option.bind_eq_some_iff.mp h
            refine xr_callS (j := 141) (d' := (d + 6)) (rv1 := some (.int r9)) (μ1 := μ) (rest := []) (As := [.int v3]) rfl rfl rfl rfl (Nat.le_of_ble_eq_true rfl) rfl (by exact (fM_ones_ok (d := d + (6)) hr9)) ?_
            refine xr_go 1 (pc' := 92) (lo' := [some (.ref v0), some (.int v1), some (.int v2), some (.int v3), none]) (st' := [.int v2, .int r9]) (μ' := μ) rfl ?_
            obtain ⟨r10, hr10, h⟩ := Option.bind_eq_some_iff.mp h
            refine xr_callS (j := 141) (d' := (d + 6)) (rv1 := some (.int r10)) (μ1 := μ) (rest := [.int r9]) (As := [.int v2]) rfl rfl rfl rfl (Nat.le_of_ble_eq_true rfl) rfl (by exact (fM_ones_ok (d := d + (6)) hr10)) ?_
            refine xr_icmp (pct := 102) rfl rfl rfl (fun hc => ?_) (fun hc => ?_)
            · replace h := (if_pos (of_decide_eq_true hc)).symm.trans h
              refine xr_forget (lo := [some (.ref v0), some (.int v1), some (.int v2), some (.int v3), none]) ⟨rfl, rfl, rfl, rfl, trivial⟩ ?_
              exact fM_which_102_ok h hK
            · replace h := (if_neg (of_decide_eq_false hc)).symm.trans h
              refine xr_forget (lo := [some (.ref v0), some (.int v1), some (.int v2), some (.int v3), none]) ⟨rfl, rfl, rfl, rfl, trivial⟩ ?_
              exact fM_which_98_ok h hK
theorem fM_which_L35_lp {d : Nat} {v0 : Nat} {v1 : Int32} {v2 : Int32} {v3 : Int32} {μ : xM} {rv : Option Value} {μf : xM} {out : Int32 × xM} (h : xwh (fun s : Int32 × Int32 => fM_which_L35 v0 v1 s.1 s.2 μ) (v2, v3) = some out) (hK : fM_which_K rv μf out) : xRun (d + 7) 210 35 [some (.ref v0), some (.int v1), some (.int v2), some (.int v3), none] [] μ rv μf :=
  xwh_ind (Rh := fun s : Int32 × Int32 => xRun (d + 7) 210 35 [some (.ref v0), some (.int v1), some (.int s.1), some (.int s.2), none] [] μ rv μf) (Co := fM_which_K rv μf) (fun s o hb hk => fM_which_L35_ok hb hk) h hK
noncomputable def fM_which_0  (v0 : Nat) (v1 : Int32) (μ : xM) : Option (Int32 × xM) := (fM_isIn (Int32.toInt64 v1) (Int64.ofNat 0) (Int64.ofNat 1) μ).bind fun r11 => if r11 = 0 then ((fM_refuse v0 (xc (-2)) μ).bind fun r14 => some ((r14.1, r14.2))) else ((fM_findCovered v0 μ).bind fun r12 => if r12.1 = 0 then ((fM_refuse v0 (xc (-5)) r12.2).bind fun r13 => some ((r13.1, r13.2))) else (xwh (fun s : Int32 × Int32 => fM_which_L35 v0 v1 s.1 s.2 r12.2) (xc (-1), xc 0)))
theorem fM_which_0_ok {d : Nat} {v0 : Nat} {v1 : Int32} {μ : xM} {rv : Option Value} {μf : xM} {out : Int32 × xM} (h : fM_which_0 v0 v1 μ = some out) (hK : fM_which_K rv μf out) : xRun (d + 7) 210 0 [some (.ref v0), some (.int v1), none, none, none] [] μ rv μf := by
  unfold fM_which_0 at h
  refine xr_go 4 (pc' := 4) (lo' := [some (.ref v0), some (.int v1), none, none, none]) (st' := [.long (Int64.ofNat 1), .long (Int64.ofNat 0), .long (Int32.toInt64 v1)]) (μ' := μ) rfl ?_
  obtain ⟨r11, hr11, h⟩ := Option.bind_eq_some_iff.mp h
  refine xr_callS (j := 137) (d' := (d + 6)) (rv1 := some (.int r11)) (μ1 := μ) (rest := []) (As := [.long (Int32.toInt64 v1), .long (Int64.ofNat 0), .long (Int64.ofNat 1)]) rfl rfl rfl rfl (Nat.le_of_ble_eq_true rfl) rfl (by exact (fM_isIn_ok (d := d + (6)) hr11)) ?_
  refine xr_ifc (pct := 17) rfl rfl rfl (fun hc => ?_) (fun hc => ?_)
  · replace h := (if_neg (of_decide_eq_true hc)).symm.trans h
    refine xr_go 1 (pc' := 18) (lo' := [some (.ref v0), some (.int v1), none, none, none]) (st' := [.ref v0]) (μ' := μ) rfl ?_
    obtain ⟨r12, hr12, h⟩ := Option.bind_eq_some_iff.mp h
    refine xr_callV (j := 206) (d' := (d + 6)) (rv1 := some (.int r12.1)) (μ1 := r12.2) (rest := []) (As := []) rfl rfl rfl rfl (Nat.le_of_ble_eq_true rfl) (fM_findCovered_kd hr12) rfl (by exact (fM_findCovered_ok (d := d + (0)) hr12)) ?_
    refine xr_ifc (pct := 31) rfl rfl rfl (fun hc => ?_) (fun hc => ?_)
    · replace h := (if_neg (of_decide_eq_true hc)).symm.trans h
      refine xr_go 4 (pc' := 35) (lo' := [some (.ref v0), some (.int v1), some (.int (xc (-1))), some (.int (xc 0)), none]) (st' := []) (μ' := r12.2) rfl ?_
      refine xr_forget (lo := [some (.ref v0), some (.int v1), some (.int (xc (-1))), some (.int (xc 0)), none]) ⟨rfl, rfl, rfl, rfl, trivial⟩ ?_
      exact fM_which_L35_lp h hK
    · replace h := (if_pos (Decidable.of_not_not (of_decide_eq_false hc))).symm.trans h
      refine xr_go 2 (pc' := 27) (lo' := [some (.ref v0), some (.int v1), none, none, none]) (st' := [.int (xc (-5)), .ref v0]) (μ' := r12.2) rfl ?_
      obtain ⟨r13, hr13, h⟩ := Option.bind_eq_some_iff.mp h
      refine xr_callV (j := 138) (d' := (d + 6)) (rv1 := some (.int r13.1)) (μ1 := r13.2) (rest := []) (As := [.int (xc (-5))]) rfl rfl rfl rfl (Nat.le_of_ble_eq_true rfl) (fM_refuse_kd hr13) rfl (by exact (fM_refuse_ok (d := d + (6)) hr13)) ?_
      have ho := Option.some.inj h
      subst ho
      obtain ⟨rfl, rfl⟩ := hK
      exact xr_ret (rv := some (.int r13.1)) rfl rfl (Or.inl rfl)
  · replace h := (if_pos (Decidable.of_not_not (of_decide_eq_false hc))).symm.trans h
    refine xr_go 2 (pc' := 13) (lo' := [some (.ref v0), some (.int v1), none, none, none]) (st' := [.int (xc (-2)), .ref v0]) (μ' := μ) rfl ?_
    obtain ⟨r14, hr14, h⟩ := Option.bind_eq_some_iff.mp h
    refine xr_callV (j := 138) (d' := (d + 6)) (rv1 := some (.int r14.1)) (μ1 := r14.2) (rest := []) (As := [.int (xc (-2))]) rfl rfl rfl rfl (Nat.le_of_ble_eq_true rfl) (fM_refuse_kd hr14) rfl (by exact (fM_refuse_ok (d := d + (6)) hr14)) ?_
    have ho := Option.some.inj h
    subst ho
    obtain ⟨rfl, rfl⟩ := hK
    exact xr_ret (rv := some (.int r14.1)) rfl rfl (Or.inl rfl)
noncomputable def fM_which (a0 : Nat) (a1 : Int32) (μ : xM) : Option (Int32 × xM) := xgd μ a0 9 (fM_which_0 a0 a1 μ)
theorem fM_which_kd {a0 : Nat} {a1 : Int32} {μ : xM} {o : Int32 × xM} (h : fM_which a0 a1 μ = some o) : (xK μ a0).1 = 10 + 9 := (xgd_some h).1
theorem fM_which_ok {d : Nat} {a0 : Nat} {a1 : Int32} {μ : xM} {o : Int32 × xM} (h : fM_which a0 a1 μ = some o) : xRun (d + 7) 210 0 [some (.ref a0), some (.int a1), none, none, none] [] μ (some (.int o.1)) o.2 :=
  xr_forget (lo := [some (.ref a0), some (.int a1), none, none, none]) (⟨rfl, rfl, trivial⟩) (fM_which_0_ok (d := d) (xgd_some h).2 (show fM_which_K _ _ o from ⟨rfl, rfl⟩))
-- KeptAnswers.hours(III)I 
def fX_hours_K (rv : Option Value) (μf : xM) : (Int32 × xM) → Prop := fun o => rv = some (.int o.1) ∧ μf = o.2
noncomputable def fX_hours_41  (v0 : Nat) (μ : xM) : Option (Int32 × xM) := (fX_refuse v0 (xc (-6)) μ).bind fun r1 => some ((r1.1, r1.2))
theorem fX_hours_41_ok {d : Nat} {v0 : Nat} {μ : xM} {rv : Option Value} {μf : xM} {out : Int32 × xM} (h : fX_hours_41 v0 μ = some out) (hK : fX_hours_K rv μf out) : xRun (d + 1) 30 41 [some (.ref v0), none, none, none] [] μ rv μf := by
  unfold fX_hours_41 at h
  refine xr_go 2 (pc' := 44) (lo' := [some (.ref v0), none, none, none]) (st' := [.int (xc (-6)), .ref v0]) (μ' := μ) rfl ?_
  obtain ⟨r1, hr1, h⟩ := Option.bind_eq_some_iff.mp h
  refine xr_callV (j := 37) (d' := (d + 0)) (rv1 := some (.int r1.1)) (μ1 := r1.2) (rest := []) (As := [.int (xc (-6))]) rfl rfl rfl rfl (Nat.le_of_ble_eq_true rfl) (fX_refuse_kd hr1) rfl (by exact (fX_refuse_ok (d := d + (0)) hr1)) ?_
  have ho := Option.some.inj h
  subst ho
  obtain ⟨rfl, rfl⟩ := hK
  exact xr_ret (rv := some (.int r1.1)) rfl rfl (Or.inl rfl)
noncomputable def fX_hours_22  (v0 : Nat) (μ : xM) : Option (Int32 × xM) := (fX_refuse v0 (xc (-4)) μ).bind fun r2 => some ((r2.1, r2.2))
theorem fX_hours_22_ok {d : Nat} {v0 : Nat} {μ : xM} {rv : Option Value} {μf : xM} {out : Int32 × xM} (h : fX_hours_22 v0 μ = some out) (hK : fX_hours_K rv μf out) : xRun (d + 1) 30 22 [some (.ref v0), none, none, none] [] μ rv μf := by
  unfold fX_hours_22 at h
  refine xr_go 2 (pc' := 25) (lo' := [some (.ref v0), none, none, none]) (st' := [.int (xc (-4)), .ref v0]) (μ' := μ) rfl ?_
  obtain ⟨r2, hr2, h⟩ := Option.bind_eq_some_iff.mp h
  refine xr_callV (j := 37) (d' := (d + 0)) (rv1 := some (.int r2.1)) (μ1 := r2.2) (rest := []) (As := [.int (xc (-4))]) rfl rfl rfl rfl (Nat.le_of_ble_eq_true rfl) (fX_refuse_kd hr2) rfl (by exact (fX_refuse_ok (d := d + (0)) hr2)) ?_
  have ho := Option.some.inj h
  subst ho
  obtain ⟨rfl, rfl⟩ := hK
  exact xr_ret (rv := some (.int r2.1)) rfl rfl (Or.inl rfl)
noncomputable def fX_hours_0  (v0 : Nat) (v1 : Int32) (v2 : Int32) (v3 : Int32) (μ : xM) : Option (Int32 × xM) := (fX_isView v0 v1 μ).bind fun r3 => if r3 = 0 then ((fX_refuse v0 (xc (-1)) μ).bind fun r11 => some ((r11.1, r11.2))) else (if v2 < 0 then (fX_hours_22 v0 μ) else (if 0 ≤ v3 then (if (xc 99) < v2 then (fX_hours_41 v0 μ) else (if v3 ≤ (xc 99) then (if v2 ≤ v3 then ((ldFR μ v0 0 0).bind fun x4 => (ldFR μ x4 3 14).bind fun x5 => (stA μ x5 v1 v2).bind fun μ6 => (ldFR μ6 v0 0 0).bind fun x7 => (ldFR μ6 x7 3 15).bind fun x8 => (stA μ6 x8 v1 v3).bind fun μ9 => some ((xc 1, μ9))) else ((fX_refuse v0 (xc (-3)) μ).bind fun r10 => some ((r10.1, r10.2)))) else (fX_hours_41 v0 μ))) else (fX_hours_22 v0 μ)))
theorem fX_hours_0_ok {d : Nat} {v0 : Nat} {v1 : Int32} {v2 : Int32} {v3 : Int32} {μ : xM} {rv : Option Value} {μf : xM} {out : Int32 × xM} (h : fX_hours_0 v0 v1 v2 v3 μ = some out) (hK : fX_hours_K rv μf out) : xRun (d + 1) 30 0 [some (.ref v0), some (.int v1), some (.int v2), some (.int v3)] [] μ rv μf := by
  unfold fX_hours_0 at h
  refine xr_go 2 (pc' := 2) (lo' := [some (.ref v0), some (.int v1), some (.int v2), some (.int v3)]) (st' := [.int v1, .ref v0]) (μ' := μ) rfl ?_
  obtain ⟨r3, hr3, h⟩ := Option.bind_eq_some_iff.mp h
  refine xr_callV (j := 40) (d' := (d + 0)) (rv1 := some (.int r3)) (μ1 := μ) (rest := []) (As := [.int v1]) rfl rfl rfl rfl (Nat.le_of_ble_eq_true rfl) (fX_isView_kd hr3) rfl (by exact (fX_isView_ok (d := d + (0)) hr3)) ?_
  refine xr_ifc (pct := 14) rfl rfl rfl (fun hc => ?_) (fun hc => ?_)
  · replace h := (if_neg (of_decide_eq_true hc)).symm.trans h
    refine xr_go 1 (pc' := 15) (lo' := [some (.ref v0), some (.int v1), some (.int v2), some (.int v3)]) (st' := [.int v2]) (μ' := μ) rfl ?_
    refine xr_ifc (pct := 22) rfl rfl rfl (fun hc => ?_) (fun hc => ?_)
    · replace h := (if_pos (of_decide_eq_true hc)).symm.trans h
      refine xr_forget (lo := [some (.ref v0), none, none, none]) ⟨rfl, trivial⟩ ?_
      exact fX_hours_22_ok h hK
    · replace h := (if_neg (of_decide_eq_false hc)).symm.trans h
      refine xr_go 1 (pc' := 19) (lo' := [some (.ref v0), some (.int v1), some (.int v2), some (.int v3)]) (st' := [.int v3]) (μ' := μ) rfl ?_
      refine xr_ifc (pct := 29) rfl rfl rfl (fun hc => ?_) (fun hc => ?_)
      · replace h := (if_pos (of_decide_eq_true hc)).symm.trans h
        refine xr_go 2 (pc' := 32) (lo' := [some (.ref v0), some (.int v1), some (.int v2), some (.int v3)]) (st' := [.int (xc 99), .int v2]) (μ' := μ) rfl ?_
        refine xr_icmp (pct := 41) rfl rfl rfl (fun hc => ?_) (fun hc => ?_)
        · replace h := (if_pos (of_decide_eq_true hc)).symm.trans h
          refine xr_forget (lo := [some (.ref v0), none, none, none]) ⟨rfl, trivial⟩ ?_
          exact fX_hours_41_ok h hK
        · replace h := (if_neg (of_decide_eq_false hc)).symm.trans h
          refine xr_go 2 (pc' := 38) (lo' := [some (.ref v0), some (.int v1), some (.int v2), some (.int v3)]) (st' := [.int (xc 99), .int v3]) (μ' := μ) rfl ?_
          refine xr_icmp (pct := 48) rfl rfl rfl (fun hc => ?_) (fun hc => ?_)
          · replace h := (if_pos (of_decide_eq_true hc)).symm.trans h
            refine xr_go 2 (pc' := 50) (lo' := [some (.ref v0), some (.int v1), some (.int v2), some (.int v3)]) (st' := [.int v2, .int v3]) (μ' := μ) rfl ?_
            refine xr_icmp (pct := 60) rfl rfl rfl (fun hc => ?_) (fun hc => ?_)
            · replace h := (if_pos (of_decide_eq_true hc)).symm.trans h
              refine xr_go 1 (pc' := 61) (lo' := [some (.ref v0), some (.int v1), some (.int v2), some (.int v3)]) (st' := [.ref v0]) (μ' := μ) rfl ?_
              obtain ⟨x4, hx4, h⟩ := Option.bind_eq_some_iff.mp h
              refine xr_opA (pc' := 64) (lo' := [some (.ref v0), some (.int v1), some (.int v2), some (.int v3)]) (st' := []) (o := ldFR μ v0 0 0) rfl hx4 ?_
              obtain ⟨x5, hx5, h⟩ := Option.bind_eq_some_iff.mp h
              refine xr_opA (pc' := 67) (lo' := [some (.ref v0), some (.int v1), some (.int v2), some (.int v3)]) (st' := []) (o := ldFR μ x4 3 14) rfl hx5 ?_
              refine xr_go 2 (pc' := 69) (lo' := [some (.ref v0), some (.int v1), some (.int v2), some (.int v3)]) (st' := [.int v2, .int v1, .ref x5]) (μ' := μ) rfl ?_
              obtain ⟨μ6, hμ6, h⟩ := Option.bind_eq_some_iff.mp h
              refine xr_opM (pc' := 70) (lo' := [some (.ref v0), some (.int v1), some (.int v2), some (.int v3)]) (st' := []) (o := stA μ x5 v1 v2) rfl hμ6 ?_
              refine xr_go 1 (pc' := 71) (lo' := [some (.ref v0), some (.int v1), some (.int v2), some (.int v3)]) (st' := [.ref v0]) (μ' := μ6) rfl ?_
              obtain ⟨x7, hx7, h⟩ := Option.bind_eq_some_iff.mp h
              refine xr_opA (pc' := 74) (lo' := [some (.ref v0), some (.int v1), some (.int v2), some (.int v3)]) (st' := []) (o := ldFR μ6 v0 0 0) rfl hx7 ?_
              obtain ⟨x8, hx8, h⟩ := Option.bind_eq_some_iff.mp h
              refine xr_opA (pc' := 77) (lo' := [some (.ref v0), some (.int v1), some (.int v2), some (.int v3)]) (st' := []) (o := ldFR μ6 x7 3 15) rfl hx8 ?_
              refine xr_go 2 (pc' := 79) (lo' := [some (.ref v0), some (.int v1), some (.int v2), some (.int v3)]) (st' := [.int v3, .int v1, .ref x8]) (μ' := μ6) rfl ?_
              obtain ⟨μ9, hμ9, h⟩ := Option.bind_eq_some_iff.mp h
              refine xr_opM (pc' := 80) (lo' := [some (.ref v0), some (.int v1), some (.int v2), some (.int v3)]) (st' := []) (o := stA μ6 x8 v1 v3) rfl hμ9 ?_
              refine xr_go 1 (pc' := 81) (lo' := [some (.ref v0), some (.int v1), some (.int v2), some (.int v3)]) (st' := [.int (xc 1)]) (μ' := μ9) rfl ?_
              have ho := Option.some.inj h
              subst ho
              obtain ⟨rfl, rfl⟩ := hK
              exact xr_ret (rv := some (.int (xc 1))) rfl rfl (Or.inl rfl)
            · replace h := (if_neg (of_decide_eq_false hc)).symm.trans h
              refine xr_go 2 (pc' := 56) (lo' := [some (.ref v0), some (.int v1), some (.int v2), some (.int v3)]) (st' := [.int (xc (-3)), .ref v0]) (μ' := μ) rfl ?_
              obtain ⟨r10, hr10, h⟩ := Option.bind_eq_some_iff.mp h
              refine xr_callV (j := 37) (d' := (d + 0)) (rv1 := some (.int r10.1)) (μ1 := r10.2) (rest := []) (As := [.int (xc (-3))]) rfl rfl rfl rfl (Nat.le_of_ble_eq_true rfl) (fX_refuse_kd hr10) rfl (by exact (fX_refuse_ok (d := d + (0)) hr10)) ?_
              have ho := Option.some.inj h
              subst ho
              obtain ⟨rfl, rfl⟩ := hK
              exact xr_ret (rv := some (.int r10.1)) rfl rfl (Or.inl rfl)
          · replace h := (if_neg (of_decide_eq_false hc)).symm.trans h
            refine xr_forget (lo := [some (.ref v0), none, none, none]) ⟨rfl, trivial⟩ ?_
            exact fX_hours_41_ok h hK
      · replace h := (if_neg (of_decide_eq_false hc)).symm.trans h
        refine xr_forget (lo := [some (.ref v0), none, none, none]) ⟨rfl, trivial⟩ ?_
        exact fX_hours_22_ok h hK
  · replace h := (if_pos (Decidable.of_not_not (of_decide_eq_false hc))).symm.trans h
    refine xr_go 2 (pc' := 10) (lo' := [some (.ref v0), some (.int v1), some (.int v2), some (.int v3)]) (st' := [.int (xc (-1)), .ref v0]) (μ' := μ) rfl ?_
    obtain ⟨r11, hr11, h⟩ := Option.bind_eq_some_iff.mp h
    refine xr_callV (j := 37) (d' := (d + 0)) (rv1 := some (.int r11.1)) (μ1 := r11.2) (rest := []) (As := [.int (xc (-1))]) rfl rfl rfl rfl (Nat.le_of_ble_eq_true rfl) (fX_refuse_kd hr11) rfl (by exact (fX_refuse_ok (d := d + (0)) hr11)) ?_
    have ho := Option.some.inj h
    subst ho
    obtain ⟨rfl, rfl⟩ := hK
    exact xr_ret (rv := some (.int r11.1)) rfl rfl (Or.inl rfl)
noncomputable def fX_hours (a0 : Nat) (a1 : Int32) (a2 : Int32) (a3 : Int32) (μ : xM) : Option (Int32 × xM) := xgd μ a0 0 (fX_hours_0 a0 a1 a2 a3 μ)
theorem fX_hours_kd {a0 : Nat} {a1 : Int32} {a2 : Int32} {a3 : Int32} {μ : xM} {o : Int32 × xM} (h : fX_hours a0 a1 a2 a3 μ = some o) : (xK μ a0).1 = 10 + 0 := (xgd_some h).1
theorem fX_hours_ok {d : Nat} {a0 : Nat} {a1 : Int32} {a2 : Int32} {a3 : Int32} {μ : xM} {o : Int32 × xM} (h : fX_hours a0 a1 a2 a3 μ = some o) : xRun (d + 1) 30 0 [some (.ref a0), some (.int a1), some (.int a2), some (.int a3)] [] μ (some (.int o.1)) o.2 :=
  xr_forget (lo := [some (.ref a0), some (.int a1), some (.int a2), some (.int a3)]) (⟨rfl, rfl, rfl, rfl, trivial⟩) (fX_hours_0_ok (d := d) (xgd_some h).2 (show fX_hours_K _ _ o from ⟨rfl, rfl⟩))
-- KeptAnswersModel.hours(III)I 
def fM_hours_K (rv : Option Value) (μf : xM) : (Int32 × xM) → Prop := fun o => rv = some (.int o.1) ∧ μf = o.2
noncomputable def fM_hours_41  (v0 : Nat) (μ : xM) : Option (Int32 × xM) := (fM_refuse v0 (xc (-6)) μ).bind fun r1 => some ((r1.1, r1.2))
theorem fM_hours_41_ok {d : Nat} {v0 : Nat} {μ : xM} {rv : Option Value} {μf : xM} {out : Int32 × xM} (h : fM_hours_41 v0 μ = some out) (hK : fM_hours_K rv μf out) : xRun (d + 2) 211 41 [some (.ref v0), none, none, none] [] μ rv μf := by
  unfold fM_hours_41 at h
  refine xr_go 2 (pc' := 44) (lo' := [some (.ref v0), none, none, none]) (st' := [.int (xc (-6)), .ref v0]) (μ' := μ) rfl ?_
  obtain ⟨r1, hr1, h⟩ := Option.bind_eq_some_iff.mp h
  refine xr_callV (j := 138) (d' := (d + 1)) (rv1 := some (.int r1.1)) (μ1 := r1.2) (rest := []) (As := [.int (xc (-6))]) rfl rfl rfl rfl (Nat.le_of_ble_eq_true rfl) (fM_refuse_kd hr1) rfl (by exact (fM_refuse_ok (d := d + (1)) hr1)) ?_
  have ho := Option.some.inj h
  subst ho
  obtain ⟨rfl, rfl⟩ := hK
  exact xr_ret (rv := some (.int r1.1)) rfl rfl (Or.inl rfl)
noncomputable def fM_hours_22  (v0 : Nat) (μ : xM) : Option (Int32 × xM) := (fM_refuse v0 (xc (-4)) μ).bind fun r2 => some ((r2.1, r2.2))
theorem fM_hours_22_ok {d : Nat} {v0 : Nat} {μ : xM} {rv : Option Value} {μf : xM} {out : Int32 × xM} (h : fM_hours_22 v0 μ = some out) (hK : fM_hours_K rv μf out) : xRun (d + 2) 211 22 [some (.ref v0), none, none, none] [] μ rv μf := by
  unfold fM_hours_22 at h
  refine xr_go 2 (pc' := 25) (lo' := [some (.ref v0), none, none, none]) (st' := [.int (xc (-4)), .ref v0]) (μ' := μ) rfl ?_
  obtain ⟨r2, hr2, h⟩ := Option.bind_eq_some_iff.mp h
  refine xr_callV (j := 138) (d' := (d + 1)) (rv1 := some (.int r2.1)) (μ1 := r2.2) (rest := []) (As := [.int (xc (-4))]) rfl rfl rfl rfl (Nat.le_of_ble_eq_true rfl) (fM_refuse_kd hr2) rfl (by exact (fM_refuse_ok (d := d + (1)) hr2)) ?_
  have ho := Option.some.inj h
  subst ho
  obtain ⟨rfl, rfl⟩ := hK
  exact xr_ret (rv := some (.int r2.1)) rfl rfl (Or.inl rfl)
noncomputable def fM_hours_0  (v0 : Nat) (v1 : Int32) (v2 : Int32) (v3 : Int32) (μ : xM) : Option (Int32 × xM) := (fM_isView v0 v1 μ).bind fun r3 => if r3 = 0 then ((fM_refuse v0 (xc (-1)) μ).bind fun r9 => some ((r9.1, r9.2))) else (if v2 < 0 then (fM_hours_22 v0 μ) else (if 0 ≤ v3 then (if (xc 99) < v2 then (fM_hours_41 v0 μ) else (if v3 ≤ (xc 99) then (if v2 ≤ v3 then ((ldFR μ v0 9 20).bind fun x4 => (stA μ x4 v1 v2).bind fun μ5 => (ldFR μ5 v0 9 21).bind fun x6 => (stA μ5 x6 v1 v3).bind fun μ7 => some ((xc 1, μ7))) else ((fM_refuse v0 (xc (-3)) μ).bind fun r8 => some ((r8.1, r8.2)))) else (fM_hours_41 v0 μ))) else (fM_hours_22 v0 μ)))
theorem fM_hours_0_ok {d : Nat} {v0 : Nat} {v1 : Int32} {v2 : Int32} {v3 : Int32} {μ : xM} {rv : Option Value} {μf : xM} {out : Int32 × xM} (h : fM_hours_0 v0 v1 v2 v3 μ = some out) (hK : fM_hours_K rv μf out) : xRun (d + 2) 211 0 [some (.ref v0), some (.int v1), some (.int v2), some (.int v3)] [] μ rv μf := by
  unfold fM_hours_0 at h
  refine xr_go 2 (pc' := 2) (lo' := [some (.ref v0), some (.int v1), some (.int v2), some (.int v3)]) (st' := [.int v1, .ref v0]) (μ' := μ) rfl ?_
  obtain ⟨r3, hr3, h⟩ := Option.bind_eq_some_iff.mp h
  refine xr_callV (j := 140) (d' := (d + 1)) (rv1 := some (.int r3)) (μ1 := μ) (rest := []) (As := [.int v1]) rfl rfl rfl rfl (Nat.le_of_ble_eq_true rfl) (fM_isView_kd hr3) rfl (by exact (fM_isView_ok (d := d + (0)) hr3)) ?_
  refine xr_ifc (pct := 14) rfl rfl rfl (fun hc => ?_) (fun hc => ?_)
  · replace h := (if_neg (of_decide_eq_true hc)).symm.trans h
    refine xr_go 1 (pc' := 15) (lo' := [some (.ref v0), some (.int v1), some (.int v2), some (.int v3)]) (st' := [.int v2]) (μ' := μ) rfl ?_
    refine xr_ifc (pct := 22) rfl rfl rfl (fun hc => ?_) (fun hc => ?_)
    · replace h := (if_pos (of_decide_eq_true hc)).symm.trans h
      refine xr_forget (lo := [some (.ref v0), none, none, none]) ⟨rfl, trivial⟩ ?_
      exact fM_hours_22_ok h hK
    · replace h := (if_neg (of_decide_eq_false hc)).symm.trans h
      refine xr_go 1 (pc' := 19) (lo' := [some (.ref v0), some (.int v1), some (.int v2), some (.int v3)]) (st' := [.int v3]) (μ' := μ) rfl ?_
      refine xr_ifc (pct := 29) rfl rfl rfl (fun hc => ?_) (fun hc => ?_)
      · replace h := (if_pos (of_decide_eq_true hc)).symm.trans h
        refine xr_go 2 (pc' := 32) (lo' := [some (.ref v0), some (.int v1), some (.int v2), some (.int v3)]) (st' := [.int (xc 99), .int v2]) (μ' := μ) rfl ?_
        refine xr_icmp (pct := 41) rfl rfl rfl (fun hc => ?_) (fun hc => ?_)
        · replace h := (if_pos (of_decide_eq_true hc)).symm.trans h
          refine xr_forget (lo := [some (.ref v0), none, none, none]) ⟨rfl, trivial⟩ ?_
          exact fM_hours_41_ok h hK
        · replace h := (if_neg (of_decide_eq_false hc)).symm.trans h
          refine xr_go 2 (pc' := 38) (lo' := [some (.ref v0), some (.int v1), some (.int v2), some (.int v3)]) (st' := [.int (xc 99), .int v3]) (μ' := μ) rfl ?_
          refine xr_icmp (pct := 48) rfl rfl rfl (fun hc => ?_) (fun hc => ?_)
          · replace h := (if_pos (of_decide_eq_true hc)).symm.trans h
            refine xr_go 2 (pc' := 50) (lo' := [some (.ref v0), some (.int v1), some (.int v2), some (.int v3)]) (st' := [.int v2, .int v3]) (μ' := μ) rfl ?_
            refine xr_icmp (pct := 60) rfl rfl rfl (fun hc => ?_) (fun hc => ?_)
            · replace h := (if_pos (of_decide_eq_true hc)).symm.trans h
              refine xr_go 1 (pc' := 61) (lo' := [some (.ref v0), some (.int v1), some (.int v2), some (.int v3)]) (st' := [.ref v0]) (μ' := μ) rfl ?_
              obtain ⟨x4, hx4, h⟩ := Option.bind_eq_some_iff.mp h
              refine xr_opA (pc' := 64) (lo' := [some (.ref v0), some (.int v1), some (.int v2), some (.int v3)]) (st' := []) (o := ldFR μ v0 9 20) rfl hx4 ?_
              refine xr_go 2 (pc' := 66) (lo' := [some (.ref v0), some (.int v1), some (.int v2), some (.int v3)]) (st' := [.int v2, .int v1, .ref x4]) (μ' := μ) rfl ?_
              obtain ⟨μ5, hμ5, h⟩ := Option.bind_eq_some_iff.mp h
              refine xr_opM (pc' := 67) (lo' := [some (.ref v0), some (.int v1), some (.int v2), some (.int v3)]) (st' := []) (o := stA μ x4 v1 v2) rfl hμ5 ?_
              refine xr_go 1 (pc' := 68) (lo' := [some (.ref v0), some (.int v1), some (.int v2), some (.int v3)]) (st' := [.ref v0]) (μ' := μ5) rfl ?_
              obtain ⟨x6, hx6, h⟩ := Option.bind_eq_some_iff.mp h
              refine xr_opA (pc' := 71) (lo' := [some (.ref v0), some (.int v1), some (.int v2), some (.int v3)]) (st' := []) (o := ldFR μ5 v0 9 21) rfl hx6 ?_
              refine xr_go 2 (pc' := 73) (lo' := [some (.ref v0), some (.int v1), some (.int v2), some (.int v3)]) (st' := [.int v3, .int v1, .ref x6]) (μ' := μ5) rfl ?_
              obtain ⟨μ7, hμ7, h⟩ := Option.bind_eq_some_iff.mp h
              refine xr_opM (pc' := 74) (lo' := [some (.ref v0), some (.int v1), some (.int v2), some (.int v3)]) (st' := []) (o := stA μ5 x6 v1 v3) rfl hμ7 ?_
              refine xr_go 1 (pc' := 75) (lo' := [some (.ref v0), some (.int v1), some (.int v2), some (.int v3)]) (st' := [.int (xc 1)]) (μ' := μ7) rfl ?_
              have ho := Option.some.inj h
              subst ho
              obtain ⟨rfl, rfl⟩ := hK
              exact xr_ret (rv := some (.int (xc 1))) rfl rfl (Or.inl rfl)
            · replace h := (if_neg (of_decide_eq_false hc)).symm.trans h
              refine xr_go 2 (pc' := 56) (lo' := [some (.ref v0), some (.int v1), some (.int v2), some (.int v3)]) (st' := [.int (xc (-3)), .ref v0]) (μ' := μ) rfl ?_
              obtain ⟨r8, hr8, h⟩ := Option.bind_eq_some_iff.mp h
              refine xr_callV (j := 138) (d' := (d + 1)) (rv1 := some (.int r8.1)) (μ1 := r8.2) (rest := []) (As := [.int (xc (-3))]) rfl rfl rfl rfl (Nat.le_of_ble_eq_true rfl) (fM_refuse_kd hr8) rfl (by exact (fM_refuse_ok (d := d + (1)) hr8)) ?_
              have ho := Option.some.inj h
              subst ho
              obtain ⟨rfl, rfl⟩ := hK
              exact xr_ret (rv := some (.int r8.1)) rfl rfl (Or.inl rfl)
          · replace h := (if_neg (of_decide_eq_false hc)).symm.trans h
            refine xr_forget (lo := [some (.ref v0), none, none, none]) ⟨rfl, trivial⟩ ?_
            exact fM_hours_41_ok h hK
      · replace h := (if_neg (of_decide_eq_false hc)).symm.trans h
        refine xr_forget (lo := [some (.ref v0), none, none, none]) ⟨rfl, trivial⟩ ?_
        exact fM_hours_22_ok h hK
  · replace h := (if_pos (Decidable.of_not_not (of_decide_eq_false hc))).symm.trans h
    refine xr_go 2 (pc' := 10) (lo' := [some (.ref v0), some (.int v1), some (.int v2), some (.int v3)]) (st' := [.int (xc (-1)), .ref v0]) (μ' := μ) rfl ?_
    obtain ⟨r9, hr9, h⟩ := Option.bind_eq_some_iff.mp h
    refine xr_callV (j := 138) (d' := (d + 1)) (rv1 := some (.int r9.1)) (μ1 := r9.2) (rest := []) (As := [.int (xc (-1))]) rfl rfl rfl rfl (Nat.le_of_ble_eq_true rfl) (fM_refuse_kd hr9) rfl (by exact (fM_refuse_ok (d := d + (1)) hr9)) ?_
    have ho := Option.some.inj h
    subst ho
    obtain ⟨rfl, rfl⟩ := hK
    exact xr_ret (rv := some (.int r9.1)) rfl rfl (Or.inl rfl)
noncomputable def fM_hours (a0 : Nat) (a1 : Int32) (a2 : Int32) (a3 : Int32) (μ : xM) : Option (Int32 × xM) := xgd μ a0 9 (fM_hours_0 a0 a1 a2 a3 μ)
theorem fM_hours_kd {a0 : Nat} {a1 : Int32} {a2 : Int32} {a3 : Int32} {μ : xM} {o : Int32 × xM} (h : fM_hours a0 a1 a2 a3 μ = some o) : (xK μ a0).1 = 10 + 9 := (xgd_some h).1
theorem fM_hours_ok {d : Nat} {a0 : Nat} {a1 : Int32} {a2 : Int32} {a3 : Int32} {μ : xM} {o : Int32 × xM} (h : fM_hours a0 a1 a2 a3 μ = some o) : xRun (d + 2) 211 0 [some (.ref a0), some (.int a1), some (.int a2), some (.int a3)] [] μ (some (.int o.1)) o.2 :=
  xr_forget (lo := [some (.ref a0), some (.int a1), some (.int a2), some (.int a3)]) (⟨rfl, rfl, rfl, rfl, trivial⟩) (fM_hours_0_ok (d := d) (xgd_some h).2 (show fM_hours_K _ _ o from ⟨rfl, rfl⟩))
-- KeptAnswers$Holding.latestHour(I)I 
def fH_latestHour_K (μ : xM) (rv : Option Value) (μf : xM) : (Int32) → Prop := fun o => rv = some (.int o) ∧ μf = μ
def fH_latestHour_K8 (v0 : Nat) (v1 : Int32) (μ : xM) (d : Nat) (rv : Option Value) (μf : xM) : ((Int32 × Int32 × Int32) ⊕ (Int32)) → Prop := Sum.elim (fun s : Int32 × Int32 × Int32 => xRun (d + 0) 70 8 [some (.ref v0), some (.int v1), some (.int s.1), some (.int s.2.1), some (.int s.2.2)] [] μ rv μf) (fH_latestHour_K μ rv μf)
noncomputable def fH_latestHour_54  (v2 : Int32) (v3 : Int32) (μ : xM) : Option (Int32) := if v3 < v2 then (some (xc (-9))) else (some v3)
theorem fH_latestHour_54_ok {d : Nat} {v2 : Int32} {v3 : Int32} {μ : xM} {rv : Option Value} {μf : xM} {out : Int32} (h : fH_latestHour_54 v2 v3 μ = some out) (hK : fH_latestHour_K μ rv μf out) : xRun (d + 0) 70 54 [none, none, some (.int v2), some (.int v3), none] [] μ rv μf := by
  unfold fH_latestHour_54 at h
  refine xr_go 2 (pc' := 56) (lo' := [none, none, some (.int v2), some (.int v3), none]) (st' := [.int v3, .int v2]) (μ' := μ) rfl ?_
  refine xr_icmp (pct := 63) rfl rfl rfl (fun hc => ?_) (fun hc => ?_)
  · replace h := (if_pos (of_decide_eq_true hc)).symm.trans h
    refine xr_go 1 (pc' := 65) (lo' := [none, none, some (.int v2), some (.int v3), none]) (st' := [.int (xc (-9))]) (μ' := μ) rfl ?_
    have ho := Option.some.inj h
    subst ho
    obtain ⟨rfl, rfl⟩ := hK
    exact xr_ret (rv := some (.int (xc (-9)))) rfl rfl (Or.inl rfl)
  · replace h := (if_neg (of_decide_eq_false hc)).symm.trans h
    refine xr_go 2 (pc' := 65) (lo' := [none, none, some (.int v2), some (.int v3), none]) (st' := [.int v3]) (μ' := μ) rfl ?_
    have ho := Option.some.inj h
    subst ho
    obtain ⟨rfl, rfl⟩ := hK
    exact xr_ret (rv := some (.int v3)) rfl rfl (Or.inl rfl)
noncomputable def fH_latestHour_48  (v0 : Nat) (v1 : Int32) (v2 : Int32) (v3 : Int32) (v4 : Int32) (μ : xM) : Option ((Int32 × Int32 × Int32) ⊕ (Int32)) := some (.inl ((v2, v3, v4 + xc 1)))
theorem fH_latestHour_48_ok {d : Nat} {v0 : Nat} {v1 : Int32} {v2 : Int32} {v3 : Int32} {v4 : Int32} {μ : xM} {rv : Option Value} {μf : xM} {out : (Int32 × Int32 × Int32) ⊕ (Int32)} (h : fH_latestHour_48 v0 v1 v2 v3 v4 μ = some out) (hK : fH_latestHour_K8 v0 v1 μ d rv μf out) : xRun (d + 0) 70 48 [some (.ref v0), some (.int v1), some (.int v2), some (.int v3), some (.int v4)] [] μ rv μf := by
  unfold fH_latestHour_48 at h
  refine xr_go 2 (pc' := 8) (lo' := [some (.ref v0), some (.int v1), some (.int v2), some (.int v3), some (.int (v4 + xc 1))]) (st' := []) (μ' := μ) rfl ?_
  refine xr_forget (lo := [some (.ref v0), some (.int v1), some (.int v2), some (.int v3), some (.int (v4 + xc 1))]) ⟨rfl, rfl, rfl, rfl, rfl, trivial⟩ ?_
  have ho := Option.some.inj h
  subst ho
  exact hK
noncomputable def fH_latestHour_L8  (v0 : Nat) (v1 : Int32) (v2 : Int32) (v3 : Int32) (v4 : Int32) (μ : xM) : Option ((Int32 × Int32 × Int32) ⊕ (Int32)) := if (xc 6) ≤ v4 then ((fH_latestHour_54 v2 v3 μ).map (fun o => .inr o)) else (if ((v1 >>> (v4 &&& 31)) &&& (xc 1)) = 0 then (fH_latestHour_48 v0 v1 v2 v3 v4 μ) else ((ldFR μ v0 3 14).bind fun x1 => (ldA μ x1 v4).bind fun x2 => (ldFR μ v0 3 15).bind fun x3 => (ldA μ x3 v4).bind fun x4 => fH_latestHour_48 v0 v1 (if v2 < x2 then x2 else v2) (if x4 < v3 then x4 else v3) v4 μ))
theorem fH_latestHour_L8_ok {d : Nat} {v0 : Nat} {v1 : Int32} {v2 : Int32} {v3 : Int32} {v4 : Int32} {μ : xM} {rv : Option Value} {μf : xM} {out : (Int32 × Int32 × Int32) ⊕ (Int32)} (h : fH_latestHour_L8 v0 v1 v2 v3 v4 μ = some out) (hK : fH_latestHour_K8 v0 v1 μ d rv μf out) : xRun (d + 0) 70 8 [some (.ref v0), some (.int v1), some (.int v2), some (.int v3), some (.int v4)] [] μ rv μf := by
  unfold fH_latestHour_L8 at h
  refine xr_go 2 (pc' := 12) (lo' := [some (.ref v0), some (.int v1), some (.int v2), some (.int v3), some (.int v4)]) (st' := [.int (xc 6), .int v4]) (μ' := μ) rfl ?_
  refine xr_icmp (pct := 54) rfl rfl rfl (fun hc => ?_) (fun hc => ?_)
  · replace h := (if_pos (of_decide_eq_true hc)).symm.trans h
    refine xr_forget (lo := [none, none, some (.int v2), some (.int v3), none]) ⟨rfl, rfl, trivial⟩ ?_
    obtain ⟨o, h2, rfl⟩ := Option.map_eq_some_iff.mp h
    exact fH_latestHour_54_ok h2 hK
  · replace h := (if_neg (of_decide_eq_false hc)).symm.trans h
    refine xr_go 5 (pc' := 21) (lo' := [some (.ref v0), some (.int v1), some (.int v2), some (.int v3), some (.int v4)]) (st' := [.int ((v1 >>> (v4 &&& 31)) &&& (xc 1))]) (μ' := μ) rfl ?_
    refine xr_ifc (pct := 48) rfl rfl rfl (fun hc => ?_) (fun hc => ?_)
    · replace h := (if_pos (of_decide_eq_true hc)).symm.trans h
      refine xr_forget (lo := [some (.ref v0), some (.int v1), some (.int v2), some (.int v3), some (.int v4)]) ⟨rfl, rfl, rfl, rfl, rfl, trivial⟩ ?_
      exact fH_latestHour_48_ok h hK
    · replace h := (if_neg (of_decide_eq_false hc)).symm.trans h
      refine xr_go 2 (pc' := 26) (lo' := [some (.ref v0), some (.int v1), some (.int v2), some (.int v3), some (.int v4)]) (st' := [.ref v0, .int v2]) (μ' := μ) rfl ?_
      obtain ⟨x1, hx1, h⟩ := Option.bind_eq_some_iff.mp h
      refine xr_opA (pc' := 29) (lo' := [some (.ref v0), some (.int v1), some (.int v2), some (.int v3), some (.int v4)]) (st' := [.int v2]) (o := ldFR μ v0 3 14) rfl hx1 ?_
      refine xr_go 1 (pc' := 31) (lo' := [some (.ref v0), some (.int v1), some (.int v2), some (.int v3), some (.int v4)]) (st' := [.int v4, .ref x1, .int v2]) (μ' := μ) rfl ?_
      obtain ⟨x2, hx2, h⟩ := Option.bind_eq_some_iff.mp h
      refine xr_opI (pc' := 32) (lo' := [some (.ref v0), some (.int v1), some (.int v2), some (.int v3), some (.int v4)]) (st' := [.int v2]) (o := ldA μ x1 v4) rfl hx2 ?_
      refine xr_go 4 (pc' := 38) (lo' := [some (.ref v0), some (.int v1), some (.int (if v2 < x2 then x2 else v2)), some (.int v3), some (.int v4)]) (st' := [.ref v0, .int v3]) (μ' := μ) rfl ?_
      obtain ⟨x3, hx3, h⟩ := Option.bind_eq_some_iff.mp h
      refine xr_opA (pc' := 41) (lo' := [some (.ref v0), some (.int v1), some (.int (if v2 < x2 then x2 else v2)), some (.int v3), some (.int v4)]) (st' := [.int v3]) (o := ldFR μ v0 3 15) rfl hx3 ?_
      refine xr_go 1 (pc' := 43) (lo' := [some (.ref v0), some (.int v1), some (.int (if v2 < x2 then x2 else v2)), some (.int v3), some (.int v4)]) (st' := [.int v4, .ref x3, .int v3]) (μ' := μ) rfl ?_
      obtain ⟨x4, hx4, h⟩ := Option.bind_eq_some_iff.mp h
      refine xr_opI (pc' := 44) (lo' := [some (.ref v0), some (.int v1), some (.int (if v2 < x2 then x2 else v2)), some (.int v3), some (.int v4)]) (st' := [.int v3]) (o := ldA μ x3 v4) rfl hx4 ?_
      refine xr_go 2 (pc' := 48) (lo' := [some (.ref v0), some (.int v1), some (.int (if v2 < x2 then x2 else v2)), some (.int (if x4 < v3 then x4 else v3)), some (.int v4)]) (st' := []) (μ' := μ) rfl ?_
      refine xr_forget (lo := [some (.ref v0), some (.int v1), some (.int (if v2 < x2 then x2 else v2)), some (.int (if x4 < v3 then x4 else v3)), some (.int v4)]) ⟨rfl, rfl, rfl, rfl, rfl, trivial⟩ ?_
      exact fH_latestHour_48_ok h hK
theorem fH_latestHour_L8_lp {d : Nat} {v0 : Nat} {v1 : Int32} {v2 : Int32} {v3 : Int32} {v4 : Int32} {μ : xM} {rv : Option Value} {μf : xM} {out : Int32} (h : xwh (fun s : Int32 × Int32 × Int32 => fH_latestHour_L8 v0 v1 s.1 s.2.1 s.2.2 μ) (v2, v3, v4) = some out) (hK : fH_latestHour_K μ rv μf out) : xRun (d + 0) 70 8 [some (.ref v0), some (.int v1), some (.int v2), some (.int v3), some (.int v4)] [] μ rv μf :=
  xwh_ind (Rh := fun s : Int32 × Int32 × Int32 => xRun (d + 0) 70 8 [some (.ref v0), some (.int v1), some (.int s.1), some (.int s.2.1), some (.int s.2.2)] [] μ rv μf) (Co := fH_latestHour_K μ rv μf) (fun s o hb hk => fH_latestHour_L8_ok hb hk) h hK
noncomputable def fH_latestHour_0  (v0 : Nat) (v1 : Int32) (μ : xM) : Option (Int32) := xwh (fun s : Int32 × Int32 × Int32 => fH_latestHour_L8 v0 v1 s.1 s.2.1 s.2.2 μ) (xc 0, xc 99, xc 0)
theorem fH_latestHour_0_ok {d : Nat} {v0 : Nat} {v1 : Int32} {μ : xM} {rv : Option Value} {μf : xM} {out : Int32} (h : fH_latestHour_0 v0 v1 μ = some out) (hK : fH_latestHour_K μ rv μf out) : xRun (d + 0) 70 0 [some (.ref v0), some (.int v1), none, none, none] [] μ rv μf := by
  unfold fH_latestHour_0 at h
  refine xr_go 6 (pc' := 8) (lo' := [some (.ref v0), some (.int v1), some (.int (xc 0)), some (.int (xc 99)), some (.int (xc 0))]) (st' := []) (μ' := μ) rfl ?_
  refine xr_forget (lo := [some (.ref v0), some (.int v1), some (.int (xc 0)), some (.int (xc 99)), some (.int (xc 0))]) ⟨rfl, rfl, rfl, rfl, rfl, trivial⟩ ?_
  exact fH_latestHour_L8_lp h hK
noncomputable def fH_latestHour (a0 : Nat) (a1 : Int32) (μ : xM) : Option (Int32) := xgd μ a0 3 (fH_latestHour_0 a0 a1 μ)
theorem fH_latestHour_kd {a0 : Nat} {a1 : Int32} {μ : xM} {o : Int32} (h : fH_latestHour a0 a1 μ = some o) : (xK μ a0).1 = 10 + 3 := (xgd_some h).1
theorem fH_latestHour_ok {d : Nat} {a0 : Nat} {a1 : Int32} {μ : xM} {o : Int32} (h : fH_latestHour a0 a1 μ = some o) : xRun (d + 0) 70 0 [some (.ref a0), some (.int a1), none, none, none] [] μ (some (.int o)) μ :=
  xr_forget (lo := [some (.ref a0), some (.int a1), none, none, none]) (⟨rfl, rfl, trivial⟩) (fH_latestHour_0_ok (d := d) (xgd_some h).2 (show fH_latestHour_K μ _ _ o from ⟨rfl, rfl⟩))
-- KeptAnswers.latest(I)I 
def fX_latest_K (rv : Option Value) (μf : xM) : (Int32 × xM) → Prop := fun o => rv = some (.int o.1) ∧ μf = o.2
def fX_latest_K29 (v0 : Nat) (v3 : Nat) (μ : xM) (d : Nat) (rv : Option Value) (μf : xM) : ((Int32 × Int32) ⊕ (Int32 × xM)) → Prop := Sum.elim (fun s : Int32 × Int32 => xRun (d + 13) 31 29 [some (.ref v0), none, none, some (.ref v3), some (.int s.1), some (.int s.2)] [] μ rv μf) (fX_latest_K rv μf)
noncomputable def fX_latest_74  (v4 : Int32) (μ : xM) : Option (Int32 × xM) := some ((v4, μ))
theorem fX_latest_74_ok {d : Nat} {v4 : Int32} {μ : xM} {rv : Option Value} {μf : xM} {out : Int32 × xM} (h : fX_latest_74 v4 μ = some out) (hK : fX_latest_K rv μf out) : xRun (d + 13) 31 74 [none, none, none, none, some (.int v4), none] [] μ rv μf := by
  unfold fX_latest_74 at h
  refine xr_go 1 (pc' := 76) (lo' := [none, none, none, none, some (.int v4), none]) (st' := [.int v4]) (μ' := μ) rfl ?_
  have ho := Option.some.inj h
  subst ho
  obtain ⟨rfl, rfl⟩ := hK
  exact xr_ret (rv := some (.int v4)) rfl rfl (Or.inl rfl)
noncomputable def fX_latest_68  (v0 : Nat) (v3 : Nat) (v4 : Int32) (v5 : Int32) (μ : xM) : Option ((Int32 × Int32) ⊕ (Int32 × xM)) := some (.inl ((v4, v5 + xc 1)))
theorem fX_latest_68_ok {d : Nat} {v0 : Nat} {v3 : Nat} {v4 : Int32} {v5 : Int32} {μ : xM} {rv : Option Value} {μf : xM} {out : (Int32 × Int32) ⊕ (Int32 × xM)} (h : fX_latest_68 v0 v3 v4 v5 μ = some out) (hK : fX_latest_K29 v0 v3 μ d rv μf out) : xRun (d + 13) 31 68 [some (.ref v0), none, none, some (.ref v3), some (.int v4), some (.int v5)] [] μ rv μf := by
  unfold fX_latest_68 at h
  refine xr_go 2 (pc' := 29) (lo' := [some (.ref v0), none, none, some (.ref v3), some (.int v4), some (.int (v5 + xc 1))]) (st' := []) (μ' := μ) rfl ?_
  refine xr_forget (lo := [some (.ref v0), none, none, some (.ref v3), some (.int v4), some (.int (v5 + xc 1))]) ⟨rfl, rfl, rfl, rfl, trivial⟩ ?_
  have ho := Option.some.inj h
  subst ho
  exact hK
noncomputable def fX_latest_L29  (v0 : Nat) (v3 : Nat) (v4 : Int32) (v5 : Int32) (μ : xM) : Option ((Int32 × Int32) ⊕ (Int32 × xM)) := (ldFR μ v0 0 0).bind fun x1 => (ldF μ x1 3 3).bind fun x2 => if ((xc 1) <<< (x2 &&& 31)) ≤ v5 then ((fX_latest_74 v4 μ).map (fun o => .inr o)) else ((fS_isCoveredBy v3 v5 μ).bind fun r3 => if r3 = 0 then (fX_latest_68 v0 v3 v4 v5 μ) else ((ldFR μ v0 0 0).bind fun x4 => (fH_latestHour x4 v5 μ).bind fun r5 => fX_latest_68 v0 v3 (if v4 < r5 then r5 else v4) v5 μ))
theorem fX_latest_L29_ok {d : Nat} {v0 : Nat} {v3 : Nat} {v4 : Int32} {v5 : Int32} {μ : xM} {rv : Option Value} {μf : xM} {out : (Int32 × Int32) ⊕ (Int32 × xM)} (h : fX_latest_L29 v0 v3 v4 v5 μ = some out) (hK : fX_latest_K29 v0 v3 μ d rv μf out) : xRun (d + 13) 31 29 [some (.ref v0), none, none, some (.ref v3), some (.int v4), some (.int v5)] [] μ rv μf := by
  unfold fX_latest_L29 at h
  refine xr_go 3 (pc' := 33) (lo' := [some (.ref v0), none, none, some (.ref v3), some (.int v4), some (.int v5)]) (st' := [.ref v0, .int (xc 1), .int v5]) (μ' := μ) rfl ?_
  obtain ⟨x1, hx1, h⟩ := Option.bind_eq_some_iff.mp h
  refine xr_opA (pc' := 36) (lo' := [some (.ref v0), none, none, some (.ref v3), some (.int v4), some (.int v5)]) (st' := [.int (xc 1), .int v5]) (o := ldFR μ v0 0 0) rfl hx1 ?_
  obtain ⟨x2, hx2, h⟩ := Option.bind_eq_some_iff.mp h
  refine xr_opI (pc' := 39) (lo' := [some (.ref v0), none, none, some (.ref v3), some (.int v4), some (.int v5)]) (st' := [.int (xc 1), .int v5]) (o := ldF μ x1 3 3) rfl hx2 ?_
  refine xr_go 1 (pc' := 40) (lo' := [some (.ref v0), none, none, some (.ref v3), some (.int v4), some (.int v5)]) (st' := [.int ((xc 1) <<< (x2 &&& 31)), .int v5]) (μ' := μ) rfl ?_
  refine xr_icmp (pct := 74) rfl rfl rfl (fun hc => ?_) (fun hc => ?_)
  · replace h := (if_pos (of_decide_eq_true hc)).symm.trans h
    refine xr_forget (lo := [none, none, none, none, some (.int v4), none]) ⟨rfl, trivial⟩ ?_
    obtain ⟨o, h2, rfl⟩ := Option.map_eq_some_iff.mp h
    exact fX_latest_74_ok h2 hK
  · replace h := (if_neg (of_decide_eq_false hc)).symm.trans h
    refine xr_go 2 (pc' := 46) (lo' := [some (.ref v0), none, none, some (.ref v3), some (.int v4), some (.int v5)]) (st' := [.int v5, .ref v3]) (μ' := μ) rfl ?_
    obtain ⟨r3, hr3, h⟩ := Option.bind_eq_some_iff.mp h
    refine xr_callV (j := 105) (d' := (d + 12)) (rv1 := some (.int r3)) (μ1 := μ) (rest := []) (As := [.int v5]) rfl rfl rfl rfl (Nat.le_of_ble_eq_true rfl) (fS_isCoveredBy_kd hr3) rfl (by exact (fS_isCoveredBy_ok (d := d + (12)) hr3)) ?_
    refine xr_ifc (pct := 68) rfl rfl rfl (fun hc => ?_) (fun hc => ?_)
    · replace h := (if_pos (of_decide_eq_true hc)).symm.trans h
      refine xr_forget (lo := [some (.ref v0), none, none, some (.ref v3), some (.int v4), some (.int v5)]) ⟨rfl, rfl, rfl, rfl, trivial⟩ ?_
      exact fX_latest_68_ok h hK
    · replace h := (if_neg (of_decide_eq_false hc)).symm.trans h
      refine xr_go 2 (pc' := 55) (lo' := [some (.ref v0), none, none, some (.ref v3), some (.int v4), some (.int v5)]) (st' := [.ref v0, .int v4]) (μ' := μ) rfl ?_
      obtain ⟨x4, hx4, h⟩ := Option.bind_eq_some_iff.mp h
      refine xr_opA (pc' := 58) (lo' := [some (.ref v0), none, none, some (.ref v3), some (.int v4), some (.int v5)]) (st' := [.int v4]) (o := ldFR μ v0 0 0) rfl hx4 ?_
      refine xr_go 1 (pc' := 60) (lo' := [some (.ref v0), none, none, some (.ref v3), some (.int v4), some (.int v5)]) (st' := [.int v5, .ref x4, .int v4]) (μ' := μ) rfl ?_
      obtain ⟨r5, hr5, h⟩ := Option.bind_eq_some_iff.mp h
      refine xr_callV (j := 70) (d' := (d + 12)) (rv1 := some (.int r5)) (μ1 := μ) (rest := [.int v4]) (As := [.int v5]) rfl rfl rfl rfl (Nat.le_of_ble_eq_true rfl) (fH_latestHour_kd hr5) rfl (by exact (fH_latestHour_ok (d := d + (12)) hr5)) ?_
      refine xr_go 2 (pc' := 68) (lo' := [some (.ref v0), none, none, some (.ref v3), some (.int (if v4 < r5 then r5 else v4)), some (.int v5)]) (st' := []) (μ' := μ) rfl ?_
      refine xr_forget (lo := [some (.ref v0), none, none, some (.ref v3), some (.int (if v4 < r5 then r5 else v4)), some (.int v5)]) ⟨rfl, rfl, rfl, rfl, trivial⟩ ?_
      exact fX_latest_68_ok h hK
theorem fX_latest_L29_lp {d : Nat} {v0 : Nat} {v3 : Nat} {v4 : Int32} {v5 : Int32} {μ : xM} {rv : Option Value} {μf : xM} {out : Int32 × xM} (h : xwh (fun s : Int32 × Int32 => fX_latest_L29 v0 v3 s.1 s.2 μ) (v4, v5) = some out) (hK : fX_latest_K rv μf out) : xRun (d + 13) 31 29 [some (.ref v0), none, none, some (.ref v3), some (.int v4), some (.int v5)] [] μ rv μf :=
  xwh_ind (Rh := fun s : Int32 × Int32 => xRun (d + 13) 31 29 [some (.ref v0), none, none, some (.ref v3), some (.int s.1), some (.int s.2)] [] μ rv μf) (Co := fX_latest_K rv μf) (fun s o hb hk => fX_latest_L29_ok hb hk) h hK
noncomputable def fX_latest_0  (v0 : Nat) (v1 : Int32) (μ : xM) : Option (Int32 × xM) := (fX_showsRefusal v0 v1 μ).bind fun r6 => if r6.1 = 0 then ((fX_seenThrough v0 v1 r6.2).bind fun r7 => xwh (fun s : Int32 × Int32 => fX_latest_L29 v0 r7.1 s.1 s.2 r7.2) (xc (-9), xc 0)) else ((fX_refuse v0 r6.1 r6.2).bind fun r8 => some ((r8.1, r8.2)))
theorem fX_latest_0_ok {d : Nat} {v0 : Nat} {v1 : Int32} {μ : xM} {rv : Option Value} {μf : xM} {out : Int32 × xM} (h : fX_latest_0 v0 v1 μ = some out) (hK : fX_latest_K rv μf out) : xRun (d + 13) 31 0 [some (.ref v0), some (.int v1), none, none, none, none] [] μ rv μf := by
  unfold fX_latest_0 at h
  refine xr_go 2 (pc' := 2) (lo' := [some (.ref v0), some (.int v1), none, none, none, none]) (st' := [.int v1, .ref v0]) (μ' := μ) rfl ?_
  obtain ⟨r6, hr6, h⟩ := Option.bind_eq_some_iff.mp h
  refine xr_callV (j := 43) (d' := (d + 12)) (rv1 := some (.int r6.1)) (μ1 := r6.2) (rest := []) (As := [.int v1]) rfl rfl rfl rfl (Nat.le_of_ble_eq_true rfl) (fX_showsRefusal_kd hr6) rfl (by exact (fX_showsRefusal_ok (d := d + (0)) hr6)) ?_
  refine xr_go 2 (pc' := 7) (lo' := [some (.ref v0), some (.int v1), some (.int r6.1), none, none, none]) (st' := [.int r6.1]) (μ' := r6.2) rfl ?_
  refine xr_ifc (pct := 16) rfl rfl rfl (fun hc => ?_) (fun hc => ?_)
  · replace h := (if_pos (of_decide_eq_true hc)).symm.trans h
    refine xr_go 2 (pc' := 18) (lo' := [some (.ref v0), some (.int v1), some (.int r6.1), none, none, none]) (st' := [.int v1, .ref v0]) (μ' := r6.2) rfl ?_
    obtain ⟨r7, hr7, h⟩ := Option.bind_eq_some_iff.mp h
    refine xr_callV (j := 48) (d' := (d + 12)) (rv1 := some (.ref r7.1)) (μ1 := r7.2) (rest := []) (As := [.int v1]) rfl rfl rfl rfl (Nat.le_of_ble_eq_true rfl) (fX_seenThrough_kd hr7) rfl (by exact (fX_seenThrough_ok (d := d + (1)) hr7)) ?_
    refine xr_go 5 (pc' := 29) (lo' := [some (.ref v0), some (.int v1), some (.int r6.1), some (.ref r7.1), some (.int (xc (-9))), some (.int (xc 0))]) (st' := []) (μ' := r7.2) rfl ?_
    refine xr_forget (lo := [some (.ref v0), none, none, some (.ref r7.1), some (.int (xc (-9))), some (.int (xc 0))]) ⟨rfl, rfl, rfl, rfl, trivial⟩ ?_
    exact fX_latest_L29_lp h hK
  · replace h := (if_neg (of_decide_eq_false hc)).symm.trans h
    refine xr_go 2 (pc' := 12) (lo' := [some (.ref v0), some (.int v1), some (.int r6.1), none, none, none]) (st' := [.int r6.1, .ref v0]) (μ' := r6.2) rfl ?_
    obtain ⟨r8, hr8, h⟩ := Option.bind_eq_some_iff.mp h
    refine xr_callV (j := 37) (d' := (d + 12)) (rv1 := some (.int r8.1)) (μ1 := r8.2) (rest := []) (As := [.int r6.1]) rfl rfl rfl rfl (Nat.le_of_ble_eq_true rfl) (fX_refuse_kd hr8) rfl (by exact (fX_refuse_ok (d := d + (12)) hr8)) ?_
    have ho := Option.some.inj h
    subst ho
    obtain ⟨rfl, rfl⟩ := hK
    exact xr_ret (rv := some (.int r8.1)) rfl rfl (Or.inl rfl)
noncomputable def fX_latest (a0 : Nat) (a1 : Int32) (μ : xM) : Option (Int32 × xM) := xgd μ a0 0 (fX_latest_0 a0 a1 μ)
theorem fX_latest_kd {a0 : Nat} {a1 : Int32} {μ : xM} {o : Int32 × xM} (h : fX_latest a0 a1 μ = some o) : (xK μ a0).1 = 10 + 0 := (xgd_some h).1
theorem fX_latest_ok {d : Nat} {a0 : Nat} {a1 : Int32} {μ : xM} {o : Int32 × xM} (h : fX_latest a0 a1 μ = some o) : xRun (d + 13) 31 0 [some (.ref a0), some (.int a1), none, none, none, none] [] μ (some (.int o.1)) o.2 :=
  xr_forget (lo := [some (.ref a0), some (.int a1), none, none, none, none]) (⟨rfl, rfl, trivial⟩) (fX_latest_0_ok (d := d) (xgd_some h).2 (show fX_latest_K _ _ o from ⟨rfl, rfl⟩))
-- KeptAnswersModel.latest(I)I 
def fM_latest_K (rv : Option Value) (μf : xM) : (Int32 × xM) → Prop := fun o => rv = some (.int o.1) ∧ μf = o.2
def fM_latest_K34 (v0 : Nat) (μ : xM) (d : Nat) (rv : Option Value) (μf : xM) : ((Int32 × Int32) ⊕ (Int32 × xM)) → Prop := Sum.elim (fun s : Int32 × Int32 => xRun (d + 6) 212 34 [some (.ref v0), none, some (.int s.1), some (.int s.2), none, none, none, none] [] μ rv μf) (fM_latest_K rv μf)
def fM_latest_K64 (v0 : Nat) (v2 : Int32) (v3 : Int32) (v4 : Int32) (μ : xM) (d : Nat) (rv : Option Value) (μf : xM) : ((Int32 × Int32 × Int32) ⊕ ((Int32 × Int32) ⊕ (Int32 × xM))) → Prop := Sum.elim (fun s : Int32 × Int32 × Int32 => xRun (d + 6) 212 64 [some (.ref v0), none, some (.int v2), some (.int v3), some (.int v4), some (.int s.1), some (.int s.2.1), some (.int s.2.2)] [] μ rv μf) (fM_latest_K34 v0 μ d rv μf)
noncomputable def fM_latest_168  (v2 : Int32) (μ : xM) : Option (Int32 × xM) := some ((v2, μ))
theorem fM_latest_168_ok {d : Nat} {v2 : Int32} {μ : xM} {rv : Option Value} {μf : xM} {out : Int32 × xM} (h : fM_latest_168 v2 μ = some out) (hK : fM_latest_K rv μf out) : xRun (d + 6) 212 168 [none, none, some (.int v2), none, none, none, none, none] [] μ rv μf := by
  unfold fM_latest_168 at h
  refine xr_go 1 (pc' := 169) (lo' := [none, none, some (.int v2), none, none, none, none, none]) (st' := [.int v2]) (μ' := μ) rfl ?_
  have ho := Option.some.inj h
  subst ho
  obtain ⟨rfl, rfl⟩ := hK
  exact xr_ret (rv := some (.int v2)) rfl rfl (Or.inl rfl)
noncomputable def fM_latest_161  (v0 : Nat) (v3 : Int32) (s0 : Int32) (μ : xM) : Option ((Int32 × Int32) ⊕ (Int32 × xM)) := some (.inl ((s0, v3 + xc 1)))
theorem fM_latest_161_ok {d : Nat} {v0 : Nat} {v3 : Int32} {s0 : Int32} {μ : xM} {rv : Option Value} {μf : xM} {out : (Int32 × Int32) ⊕ (Int32 × xM)} (h : fM_latest_161 v0 v3 s0 μ = some out) (hK : fM_latest_K34 v0 μ d rv μf out) : xRun (d + 6) 212 161 [some (.ref v0), none, none, some (.int v3), none, none, none, none] [.int s0] μ rv μf := by
  unfold fM_latest_161 at h
  refine xr_go 3 (pc' := 34) (lo' := [some (.ref v0), none, some (.int s0), some (.int (v3 + xc 1)), none, none, none, none]) (st' := []) (μ' := μ) rfl ?_
  refine xr_forget (lo := [some (.ref v0), none, some (.int s0), some (.int (v3 + xc 1)), none, none, none, none]) ⟨rfl, rfl, rfl, trivial⟩ ?_
  have ho := Option.some.inj h
  subst ho
  exact hK
noncomputable def fM_latest_160  (v0 : Nat) (v2 : Int32) (v3 : Int32) (μ : xM) : Option ((Int32 × Int32) ⊕ (Int32 × xM)) := fM_latest_161 v0 v3 v2 μ
theorem fM_latest_160_ok {d : Nat} {v0 : Nat} {v2 : Int32} {v3 : Int32} {μ : xM} {rv : Option Value} {μf : xM} {out : (Int32 × Int32) ⊕ (Int32 × xM)} (h : fM_latest_160 v0 v2 v3 μ = some out) (hK : fM_latest_K34 v0 μ d rv μf out) : xRun (d + 6) 212 160 [some (.ref v0), none, some (.int v2), some (.int v3), none, none, none, none] [] μ rv μf := by
  unfold fM_latest_160 at h
  refine xr_go 1 (pc' := 161) (lo' := [some (.ref v0), none, some (.int v2), some (.int v3), none, none, none, none]) (st' := [.int v2]) (μ' := μ) rfl ?_
  refine xr_forget (lo := [some (.ref v0), none, none, some (.int v3), none, none, none, none]) ⟨rfl, rfl, trivial⟩ ?_
  exact fM_latest_161_ok h hK
noncomputable def fM_latest_142  (v0 : Nat) (v2 : Int32) (v3 : Int32) (v5 : Int32) (v6 : Int32) (μ : xM) : Option ((Int32 × Int32) ⊕ (Int32 × xM)) := if v6 < v5 then (fM_latest_160 v0 v2 v3 μ) else (if v6 ≤ v2 then (fM_latest_160 v0 v2 v3 μ) else (fM_latest_161 v0 v3 v6 μ))
theorem fM_latest_142_ok {d : Nat} {v0 : Nat} {v2 : Int32} {v3 : Int32} {v5 : Int32} {v6 : Int32} {μ : xM} {rv : Option Value} {μf : xM} {out : (Int32 × Int32) ⊕ (Int32 × xM)} (h : fM_latest_142 v0 v2 v3 v5 v6 μ = some out) (hK : fM_latest_K34 v0 μ d rv μf out) : xRun (d + 6) 212 142 [some (.ref v0), none, some (.int v2), some (.int v3), none, some (.int v5), some (.int v6), none] [] μ rv μf := by
  unfold fM_latest_142 at h
  refine xr_go 2 (pc' := 146) (lo' := [some (.ref v0), none, some (.int v2), some (.int v3), none, some (.int v5), some (.int v6), none]) (st' := [.int v6, .int v5]) (μ' := μ) rfl ?_
  refine xr_icmp (pct := 160) rfl rfl rfl (fun hc => ?_) (fun hc => ?_)
  · replace h := (if_pos (of_decide_eq_true hc)).symm.trans h
    refine xr_forget (lo := [some (.ref v0), none, some (.int v2), some (.int v3), none, none, none, none]) ⟨rfl, rfl, rfl, trivial⟩ ?_
    exact fM_latest_160_ok h hK
  · replace h := (if_neg (of_decide_eq_false hc)).symm.trans h
    refine xr_go 2 (pc' := 152) (lo' := [some (.ref v0), none, some (.int v2), some (.int v3), none, some (.int v5), some (.int v6), none]) (st' := [.int v2, .int v6]) (μ' := μ) rfl ?_
    refine xr_icmp (pct := 160) rfl rfl rfl (fun hc => ?_) (fun hc => ?_)
    · replace h := (if_pos (of_decide_eq_true hc)).symm.trans h
      refine xr_forget (lo := [some (.ref v0), none, some (.int v2), some (.int v3), none, none, none, none]) ⟨rfl, rfl, rfl, trivial⟩ ?_
      exact fM_latest_160_ok h hK
    · replace h := (if_neg (of_decide_eq_false hc)).symm.trans h
      refine xr_go 2 (pc' := 161) (lo' := [some (.ref v0), none, some (.int v2), some (.int v3), none, some (.int v5), some (.int v6), none]) (st' := [.int v6]) (μ' := μ) rfl ?_
      refine xr_forget (lo := [some (.ref v0), none, none, some (.int v3), none, none, none, none]) ⟨rfl, rfl, trivial⟩ ?_
      exact fM_latest_161_ok h hK
noncomputable def fM_latest_136  (v0 : Nat) (v2 : Int32) (v3 : Int32) (v4 : Int32) (v5 : Int32) (v6 : Int32) (v7 : Int32) (μ : xM) : Option ((Int32 × Int32 × Int32) ⊕ ((Int32 × Int32) ⊕ (Int32 × xM))) := some (.inl ((v5, v6, v7 + xc 1)))
theorem fM_latest_136_ok {d : Nat} {v0 : Nat} {v2 : Int32} {v3 : Int32} {v4 : Int32} {v5 : Int32} {v6 : Int32} {v7 : Int32} {μ : xM} {rv : Option Value} {μf : xM} {out : (Int32 × Int32 × Int32) ⊕ ((Int32 × Int32) ⊕ (Int32 × xM))} (h : fM_latest_136 v0 v2 v3 v4 v5 v6 v7 μ = some out) (hK : fM_latest_K64 v0 v2 v3 v4 μ d rv μf out) : xRun (d + 6) 212 136 [some (.ref v0), none, some (.int v2), some (.int v3), some (.int v4), some (.int v5), some (.int v6), some (.int v7)] [] μ rv μf := by
  unfold fM_latest_136 at h
  refine xr_go 2 (pc' := 64) (lo' := [some (.ref v0), none, some (.int v2), some (.int v3), some (.int v4), some (.int v5), some (.int v6), some (.int (v7 + xc 1))]) (st' := []) (μ' := μ) rfl ?_
  refine xr_forget (lo := [some (.ref v0), none, some (.int v2), some (.int v3), some (.int v4), some (.int v5), some (.int v6), some (.int (v7 + xc 1))]) ⟨rfl, rfl, rfl, rfl, rfl, rfl, rfl, trivial⟩ ?_
  have ho := Option.some.inj h
  subst ho
  exact hK
noncomputable def fM_latest_134  (v0 : Nat) (v2 : Int32) (v3 : Int32) (v4 : Int32) (v5 : Int32) (v7 : Int32) (s0 : Int32) (μ : xM) : Option ((Int32 × Int32 × Int32) ⊕ ((Int32 × Int32) ⊕ (Int32 × xM))) := fM_latest_136 v0 v2 v3 v4 v5 s0 v7 μ
theorem fM_latest_134_ok {d : Nat} {v0 : Nat} {v2 : Int32} {v3 : Int32} {v4 : Int32} {v5 : Int32} {v7 : Int32} {s0 : Int32} {μ : xM} {rv : Option Value} {μf : xM} {out : (Int32 × Int32 × Int32) ⊕ ((Int32 × Int32) ⊕ (Int32 × xM))} (h : fM_latest_134 v0 v2 v3 v4 v5 v7 s0 μ = some out) (hK : fM_latest_K64 v0 v2 v3 v4 μ d rv μf out) : xRun (d + 6) 212 134 [some (.ref v0), none, some (.int v2), some (.int v3), some (.int v4), some (.int v5), none, some (.int v7)] [.int s0] μ rv μf := by
  unfold fM_latest_134 at h
  refine xr_go 1 (pc' := 136) (lo' := [some (.ref v0), none, some (.int v2), some (.int v3), some (.int v4), some (.int v5), some (.int s0), some (.int v7)]) (st' := []) (μ' := μ) rfl ?_
  refine xr_forget (lo := [some (.ref v0), none, some (.int v2), some (.int v3), some (.int v4), some (.int v5), some (.int s0), some (.int v7)]) ⟨rfl, rfl, rfl, rfl, rfl, rfl, rfl, trivial⟩ ?_
  exact fM_latest_136_ok h hK
noncomputable def fM_latest_108  (v0 : Nat) (v2 : Int32) (v3 : Int32) (v4 : Int32) (v6 : Int32) (v7 : Int32) (s0 : Int32) (μ : xM) : Option ((Int32 × Int32 × Int32) ⊕ ((Int32 × Int32) ⊕ (Int32 × xM))) := (ldFR μ v0 9 21).bind fun x1 => (ldA μ x1 v7).bind fun x2 => if v6 ≤ x2 then (fM_latest_134 v0 v2 v3 v4 s0 v7 v6 μ) else ((ldFR μ v0 9 21).bind fun x3 => (ldA μ x3 v7).bind fun x4 => fM_latest_134 v0 v2 v3 v4 s0 v7 x4 μ)
theorem fM_latest_108_ok {d : Nat} {v0 : Nat} {v2 : Int32} {v3 : Int32} {v4 : Int32} {v6 : Int32} {v7 : Int32} {s0 : Int32} {μ : xM} {rv : Option Value} {μf : xM} {out : (Int32 × Int32 × Int32) ⊕ ((Int32 × Int32) ⊕ (Int32 × xM))} (h : fM_latest_108 v0 v2 v3 v4 v6 v7 s0 μ = some out) (hK : fM_latest_K64 v0 v2 v3 v4 μ d rv μf out) : xRun (d + 6) 212 108 [some (.ref v0), none, some (.int v2), some (.int v3), some (.int v4), none, some (.int v6), some (.int v7)] [.int s0] μ rv μf := by
  unfold fM_latest_108 at h
  refine xr_go 2 (pc' := 111) (lo' := [some (.ref v0), none, some (.int v2), some (.int v3), some (.int v4), some (.int s0), some (.int v6), some (.int v7)]) (st' := [.ref v0]) (μ' := μ) rfl ?_
  obtain ⟨x1, hx1, h⟩ := Option.bind_eq_some_iff.mp h
  refine xr_opA (pc' := 114) (lo' := [some (.ref v0), none, some (.int v2), some (.int v3), some (.int v4), some (.int s0), some (.int v6), some (.int v7)]) (st' := []) (o := ldFR μ v0 9 21) rfl hx1 ?_
  refine xr_go 1 (pc' := 116) (lo' := [some (.ref v0), none, some (.int v2), some (.int v3), some (.int v4), some (.int s0), some (.int v6), some (.int v7)]) (st' := [.int v7, .ref x1]) (μ' := μ) rfl ?_
  obtain ⟨x2, hx2, h⟩ := Option.bind_eq_some_iff.mp h
  refine xr_opI (pc' := 117) (lo' := [some (.ref v0), none, some (.int v2), some (.int v3), some (.int v4), some (.int s0), some (.int v6), some (.int v7)]) (st' := []) (o := ldA μ x1 v7) rfl hx2 ?_
  refine xr_go 1 (pc' := 119) (lo' := [some (.ref v0), none, some (.int v2), some (.int v3), some (.int v4), some (.int s0), some (.int v6), some (.int v7)]) (st' := [.int v6, .int x2]) (μ' := μ) rfl ?_
  refine xr_icmp (pct := 132) rfl rfl rfl (fun hc => ?_) (fun hc => ?_)
  · replace h := (if_pos (of_decide_eq_true hc)).symm.trans h
    refine xr_go 1 (pc' := 134) (lo' := [some (.ref v0), none, some (.int v2), some (.int v3), some (.int v4), some (.int s0), some (.int v6), some (.int v7)]) (st' := [.int v6]) (μ' := μ) rfl ?_
    refine xr_forget (lo := [some (.ref v0), none, some (.int v2), some (.int v3), some (.int v4), some (.int s0), none, some (.int v7)]) ⟨rfl, rfl, rfl, rfl, rfl, rfl, trivial⟩ ?_
    exact fM_latest_134_ok h hK
  · replace h := (if_neg (of_decide_eq_false hc)).symm.trans h
    refine xr_go 1 (pc' := 123) (lo' := [some (.ref v0), none, some (.int v2), some (.int v3), some (.int v4), some (.int s0), some (.int v6), some (.int v7)]) (st' := [.ref v0]) (μ' := μ) rfl ?_
    obtain ⟨x3, hx3, h⟩ := Option.bind_eq_some_iff.mp h
    refine xr_opA (pc' := 126) (lo' := [some (.ref v0), none, some (.int v2), some (.int v3), some (.int v4), some (.int s0), some (.int v6), some (.int v7)]) (st' := []) (o := ldFR μ v0 9 21) rfl hx3 ?_
    refine xr_go 1 (pc' := 128) (lo' := [some (.ref v0), none, some (.int v2), some (.int v3), some (.int v4), some (.int s0), some (.int v6), some (.int v7)]) (st' := [.int v7, .ref x3]) (μ' := μ) rfl ?_
    obtain ⟨x4, hx4, h⟩ := Option.bind_eq_some_iff.mp h
    refine xr_opI (pc' := 129) (lo' := [some (.ref v0), none, some (.int v2), some (.int v3), some (.int v4), some (.int s0), some (.int v6), some (.int v7)]) (st' := []) (o := ldA μ x3 v7) rfl hx4 ?_
    refine xr_go 1 (pc' := 134) (lo' := [some (.ref v0), none, some (.int v2), some (.int v3), some (.int v4), some (.int s0), some (.int v6), some (.int v7)]) (st' := [.int x4]) (μ' := μ) rfl ?_
    refine xr_forget (lo := [some (.ref v0), none, some (.int v2), some (.int v3), some (.int v4), some (.int s0), none, some (.int v7)]) ⟨rfl, rfl, rfl, rfl, rfl, rfl, trivial⟩ ?_
    exact fM_latest_134_ok h hK
noncomputable def fM_latest_L64  (v0 : Nat) (v2 : Int32) (v3 : Int32) (v4 : Int32) (v5 : Int32) (v6 : Int32) (v7 : Int32) (μ : xM) : Option ((Int32 × Int32 × Int32) ⊕ ((Int32 × Int32) ⊕ (Int32 × xM))) := (ldF μ v0 9 9).bind fun x5 => if x5 ≤ v7 then ((fM_latest_142 v0 v2 v3 v5 v6 μ).map (fun o => .inr o)) else (if ((v4 >>> (v7 &&& 31)) &&& (xc 1)) = (xc 1) then ((ldFR μ v0 9 20).bind fun x6 => (ldA μ x6 v7).bind fun x7 => if x7 ≤ v5 then (fM_latest_108 v0 v2 v3 v4 v6 v7 v5 μ) else ((ldFR μ v0 9 20).bind fun x8 => (ldA μ x8 v7).bind fun x9 => fM_latest_108 v0 v2 v3 v4 v6 v7 x9 μ)) else (fM_latest_136 v0 v2 v3 v4 v5 v6 v7 μ))
theorem fM_latest_L64_ok {d : Nat} {v0 : Nat} {v2 : Int32} {v3 : Int32} {v4 : Int32} {v5 : Int32} {v6 : Int32} {v7 : Int32} {μ : xM} {rv : Option Value} {μf : xM} {out : (Int32 × Int32 × Int32) ⊕ ((Int32 × Int32) ⊕ (Int32 × xM))} (h : fM_latest_L64 v0 v2 v3 v4 v5 v6 v7 μ = some out) (hK : fM_latest_K64 v0 v2 v3 v4 μ d rv μf out) : xRun (d + 6) 212 64 [some (.ref v0), none, some (.int v2), some (.int v3), some (.int v4), some (.int v5), some (.int v6), some (.int v7)] [] μ rv μf := by
  unfold fM_latest_L64 at h
  refine xr_go 2 (pc' := 67) (lo' := [some (.ref v0), none, some (.int v2), some (.int v3), some (.int v4), some (.int v5), some (.int v6), some (.int v7)]) (st' := [.ref v0, .int v7]) (μ' := μ) rfl ?_
  obtain ⟨x5, hx5, h⟩ := Option.bind_eq_some_iff.mp h
  refine xr_opI (pc' := 70) (lo' := [some (.ref v0), none, some (.int v2), some (.int v3), some (.int v4), some (.int v5), some (.int v6), some (.int v7)]) (st' := [.int v7]) (o := ldF μ v0 9 9) rfl hx5 ?_
  refine xr_icmp (pct := 142) rfl rfl rfl (fun hc => ?_) (fun hc => ?_)
  · replace h := (if_pos (of_decide_eq_true hc)).symm.trans h
    refine xr_forget (lo := [some (.ref v0), none, some (.int v2), some (.int v3), none, some (.int v5), some (.int v6), none]) ⟨rfl, rfl, rfl, rfl, rfl, trivial⟩ ?_
    obtain ⟨o, h2, rfl⟩ := Option.map_eq_some_iff.mp h
    exact fM_latest_142_ok h2 hK
  · replace h := (if_neg (of_decide_eq_false hc)).symm.trans h
    refine xr_go 6 (pc' := 81) (lo' := [some (.ref v0), none, some (.int v2), some (.int v3), some (.int v4), some (.int v5), some (.int v6), some (.int v7)]) (st' := [.int (xc 1), .int ((v4 >>> (v7 &&& 31)) &&& (xc 1))]) (μ' := μ) rfl ?_
    refine xr_icmp (pct := 136) rfl rfl rfl (fun hc => ?_) (fun hc => ?_)
    · replace h := (if_neg (of_decide_eq_true hc)).symm.trans h
      refine xr_forget (lo := [some (.ref v0), none, some (.int v2), some (.int v3), some (.int v4), some (.int v5), some (.int v6), some (.int v7)]) ⟨rfl, rfl, rfl, rfl, rfl, rfl, rfl, trivial⟩ ?_
      exact fM_latest_136_ok h hK
    · replace h := (if_pos (Decidable.of_not_not (of_decide_eq_false hc))).symm.trans h
      refine xr_go 1 (pc' := 85) (lo' := [some (.ref v0), none, some (.int v2), some (.int v3), some (.int v4), some (.int v5), some (.int v6), some (.int v7)]) (st' := [.ref v0]) (μ' := μ) rfl ?_
      obtain ⟨x6, hx6, h⟩ := Option.bind_eq_some_iff.mp h
      refine xr_opA (pc' := 88) (lo' := [some (.ref v0), none, some (.int v2), some (.int v3), some (.int v4), some (.int v5), some (.int v6), some (.int v7)]) (st' := []) (o := ldFR μ v0 9 20) rfl hx6 ?_
      refine xr_go 1 (pc' := 90) (lo' := [some (.ref v0), none, some (.int v2), some (.int v3), some (.int v4), some (.int v5), some (.int v6), some (.int v7)]) (st' := [.int v7, .ref x6]) (μ' := μ) rfl ?_
      obtain ⟨x7, hx7, h⟩ := Option.bind_eq_some_iff.mp h
      refine xr_opI (pc' := 91) (lo' := [some (.ref v0), none, some (.int v2), some (.int v3), some (.int v4), some (.int v5), some (.int v6), some (.int v7)]) (st' := []) (o := ldA μ x6 v7) rfl hx7 ?_
      refine xr_go 1 (pc' := 93) (lo' := [some (.ref v0), none, some (.int v2), some (.int v3), some (.int v4), some (.int v5), some (.int v6), some (.int v7)]) (st' := [.int v5, .int x7]) (μ' := μ) rfl ?_
      refine xr_icmp (pct := 106) rfl rfl rfl (fun hc => ?_) (fun hc => ?_)
      · replace h := (if_pos (of_decide_eq_true hc)).symm.trans h
        refine xr_go 1 (pc' := 108) (lo' := [some (.ref v0), none, some (.int v2), some (.int v3), some (.int v4), some (.int v5), some (.int v6), some (.int v7)]) (st' := [.int v5]) (μ' := μ) rfl ?_
        refine xr_forget (lo := [some (.ref v0), none, some (.int v2), some (.int v3), some (.int v4), none, some (.int v6), some (.int v7)]) ⟨rfl, rfl, rfl, rfl, rfl, rfl, trivial⟩ ?_
        exact fM_latest_108_ok h hK
      · replace h := (if_neg (of_decide_eq_false hc)).symm.trans h
        refine xr_go 1 (pc' := 97) (lo' := [some (.ref v0), none, some (.int v2), some (.int v3), some (.int v4), some (.int v5), some (.int v6), some (.int v7)]) (st' := [.ref v0]) (μ' := μ) rfl ?_
        obtain ⟨x8, hx8, h⟩ := Option.bind_eq_some_iff.mp h
        refine xr_opA (pc' := 100) (lo' := [some (.ref v0), none, some (.int v2), some (.int v3), some (.int v4), some (.int v5), some (.int v6), some (.int v7)]) (st' := []) (o := ldFR μ v0 9 20) rfl hx8 ?_
        refine xr_go 1 (pc' := 102) (lo' := [some (.ref v0), none, some (.int v2), some (.int v3), some (.int v4), some (.int v5), some (.int v6), some (.int v7)]) (st' := [.int v7, .ref x8]) (μ' := μ) rfl ?_
        obtain ⟨x9, hx9, h⟩ := Option.bind_eq_some_iff.mp h
        refine xr_opI (pc' := 103) (lo' := [some (.ref v0), none, some (.int v2), some (.int v3), some (.int v4), some (.int v5), some (.int v6), some (.int v7)]) (st' := []) (o := ldA μ x8 v7) rfl hx9 ?_
        refine xr_go 1 (pc' := 108) (lo' := [some (.ref v0), none, some (.int v2), some (.int v3), some (.int v4), some (.int v5), some (.int v6), some (.int v7)]) (st' := [.int x9]) (μ' := μ) rfl ?_
        refine xr_forget (lo := [some (.ref v0), none, some (.int v2), some (.int v3), some (.int v4), none, some (.int v6), some (.int v7)]) ⟨rfl, rfl, rfl, rfl, rfl, rfl, trivial⟩ ?_
        exact fM_latest_108_ok h hK
theorem fM_latest_L64_lp {d : Nat} {v0 : Nat} {v2 : Int32} {v3 : Int32} {v4 : Int32} {v5 : Int32} {v6 : Int32} {v7 : Int32} {μ : xM} {rv : Option Value} {μf : xM} {out : (Int32 × Int32) ⊕ (Int32 × xM)} (h : xwh (fun s : Int32 × Int32 × Int32 => fM_latest_L64 v0 v2 v3 v4 s.1 s.2.1 s.2.2 μ) (v5, v6, v7) = some out) (hK : fM_latest_K34 v0 μ d rv μf out) : xRun (d + 6) 212 64 [some (.ref v0), none, some (.int v2), some (.int v3), some (.int v4), some (.int v5), some (.int v6), some (.int v7)] [] μ rv μf :=
  xwh_ind (Rh := fun s : Int32 × Int32 × Int32 => xRun (d + 6) 212 64 [some (.ref v0), none, some (.int v2), some (.int v3), some (.int v4), some (.int s.1), some (.int s.2.1), some (.int s.2.2)] [] μ rv μf) (Co := fM_latest_K34 v0 μ d rv μf) (fun s o hb hk => fM_latest_L64_ok hb hk) h hK
noncomputable def fM_latest_L34  (v0 : Nat) (v2 : Int32) (v3 : Int32) (μ : xM) : Option ((Int32 × Int32) ⊕ (Int32 × xM)) := (ldF μ v0 9 52).bind fun x10 => if x10 ≤ v3 then ((fM_latest_168 v2 μ).map (fun o => .inr o)) else ((ldFR μ v0 9 53).bind fun x11 => (ldA μ x11 v3).bind fun x12 => (fM_viewsOf v0 x12 μ).bind fun r13 => xwh (fun s : Int32 × Int32 × Int32 => fM_latest_L64 v0 v2 v3 r13 s.1 s.2.1 s.2.2 μ) (xc 0, xc 99, xc 0))
theorem fM_latest_L34_ok {d : Nat} {v0 : Nat} {v2 : Int32} {v3 : Int32} {μ : xM} {rv : Option Value} {μf : xM} {out : (Int32 × Int32) ⊕ (Int32 × xM)} (h : fM_latest_L34 v0 v2 v3 μ = some out) (hK : fM_latest_K34 v0 μ d rv μf out) : xRun (d + 6) 212 34 [some (.ref v0), none, some (.int v2), some (.int v3), none, none, none, none] [] μ rv μf := by
  unfold fM_latest_L34 at h
  refine xr_go 2 (pc' := 36) (lo' := [some (.ref v0), none, some (.int v2), some (.int v3), none, none, none, none]) (st' := [.ref v0, .int v3]) (μ' := μ) rfl ?_
  obtain ⟨x10, hx10, h⟩ := Option.bind_eq_some_iff.mp h
  refine xr_opI (pc' := 39) (lo' := [some (.ref v0), none, some (.int v2), some (.int v3), none, none, none, none]) (st' := [.int v3]) (o := ldF μ v0 9 52) rfl hx10 ?_
  refine xr_icmp (pct := 168) rfl rfl rfl (fun hc => ?_) (fun hc => ?_)
  · replace h := (if_pos (of_decide_eq_true hc)).symm.trans h
    refine xr_forget (lo := [none, none, some (.int v2), none, none, none, none, none]) ⟨rfl, trivial⟩ ?_
    obtain ⟨o, h2, rfl⟩ := Option.map_eq_some_iff.mp h
    exact fM_latest_168_ok h2 hK
  · replace h := (if_neg (of_decide_eq_false hc)).symm.trans h
    refine xr_go 2 (pc' := 44) (lo' := [some (.ref v0), none, some (.int v2), some (.int v3), none, none, none, none]) (st' := [.ref v0, .ref v0]) (μ' := μ) rfl ?_
    obtain ⟨x11, hx11, h⟩ := Option.bind_eq_some_iff.mp h
    refine xr_opA (pc' := 47) (lo' := [some (.ref v0), none, some (.int v2), some (.int v3), none, none, none, none]) (st' := [.ref v0]) (o := ldFR μ v0 9 53) rfl hx11 ?_
    refine xr_go 1 (pc' := 48) (lo' := [some (.ref v0), none, some (.int v2), some (.int v3), none, none, none, none]) (st' := [.int v3, .ref x11, .ref v0]) (μ' := μ) rfl ?_
    obtain ⟨x12, hx12, h⟩ := Option.bind_eq_some_iff.mp h
    refine xr_opI (pc' := 49) (lo' := [some (.ref v0), none, some (.int v2), some (.int v3), none, none, none, none]) (st' := [.ref v0]) (o := ldA μ x11 v3) rfl hx12 ?_
    obtain ⟨r13, hr13, h⟩ := Option.bind_eq_some_iff.mp h
    refine xr_callV (j := 189) (d' := (d + 5)) (rv1 := some (.int r13)) (μ1 := μ) (rest := []) (As := [.int x12]) rfl rfl rfl rfl (Nat.le_of_ble_eq_true rfl) (fM_viewsOf_kd hr13) rfl (by exact (fM_viewsOf_ok (d := d + (5)) hr13)) ?_
    refine xr_go 7 (pc' := 64) (lo' := [some (.ref v0), none, some (.int v2), some (.int v3), some (.int r13), some (.int (xc 0)), some (.int (xc 99)), some (.int (xc 0))]) (st' := []) (μ' := μ) rfl ?_
    refine xr_forget (lo := [some (.ref v0), none, some (.int v2), some (.int v3), some (.int r13), some (.int (xc 0)), some (.int (xc 99)), some (.int (xc 0))]) ⟨rfl, rfl, rfl, rfl, rfl, rfl, rfl, trivial⟩ ?_
    exact fM_latest_L64_lp h hK
theorem fM_latest_L34_lp {d : Nat} {v0 : Nat} {v2 : Int32} {v3 : Int32} {μ : xM} {rv : Option Value} {μf : xM} {out : Int32 × xM} (h : xwh (fun s : Int32 × Int32 => fM_latest_L34 v0 s.1 s.2 μ) (v2, v3) = some out) (hK : fM_latest_K rv μf out) : xRun (d + 6) 212 34 [some (.ref v0), none, some (.int v2), some (.int v3), none, none, none, none] [] μ rv μf :=
  xwh_ind (Rh := fun s : Int32 × Int32 => xRun (d + 6) 212 34 [some (.ref v0), none, some (.int s.1), some (.int s.2), none, none, none, none] [] μ rv μf) (Co := fM_latest_K rv μf) (fun s o hb hk => fM_latest_L34_ok hb hk) h hK
noncomputable def fM_latest_0  (v0 : Nat) (v1 : Int32) (μ : xM) : Option (Int32 × xM) := (fM_isAsk v0 v1 μ).bind fun r14 => if r14 = 0 then ((fM_refuse v0 (xc (-1)) μ).bind fun r17 => some ((r17.1, r17.2))) else ((fM_findCovers v0 v1 μ).bind fun r15 => if r15.1 = 0 then ((fM_refuse v0 (xc (-5)) r15.2).bind fun r16 => some ((r16.1, r16.2))) else (xwh (fun s : Int32 × Int32 => fM_latest_L34 v0 s.1 s.2 r15.2) (xc (-9), xc 0)))
theorem fM_latest_0_ok {d : Nat} {v0 : Nat} {v1 : Int32} {μ : xM} {rv : Option Value} {μf : xM} {out : Int32 × xM} (h : fM_latest_0 v0 v1 μ = some out) (hK : fM_latest_K rv μf out) : xRun (d + 6) 212 0 [some (.ref v0), some (.int v1), none, none, none, none, none, none] [] μ rv μf := by
  unfold fM_latest_0 at h
  refine xr_go 2 (pc' := 2) (lo' := [some (.ref v0), some (.int v1), none, none, none, none, none, none]) (st' := [.int v1, .ref v0]) (μ' := μ) rfl ?_
  obtain ⟨r14, hr14, h⟩ := Option.bind_eq_some_iff.mp h
  refine xr_callV (j := 139) (d' := (d + 5)) (rv1 := some (.int r14)) (μ1 := μ) (rest := []) (As := [.int v1]) rfl rfl rfl rfl (Nat.le_of_ble_eq_true rfl) (fM_isAsk_kd hr14) rfl (by exact (fM_isAsk_ok (d := d + (4)) hr14)) ?_
  refine xr_ifc (pct := 14) rfl rfl rfl (fun hc => ?_) (fun hc => ?_)
  · replace h := (if_neg (of_decide_eq_true hc)).symm.trans h
    refine xr_go 2 (pc' := 16) (lo' := [some (.ref v0), some (.int v1), none, none, none, none, none, none]) (st' := [.int v1, .ref v0]) (μ' := μ) rfl ?_
    obtain ⟨r15, hr15, h⟩ := Option.bind_eq_some_iff.mp h
    refine xr_callV (j := 188) (d' := (d + 5)) (rv1 := some (.int r15.1)) (μ1 := r15.2) (rest := []) (As := [.int v1]) rfl rfl rfl rfl (Nat.le_of_ble_eq_true rfl) (fM_findCovers_kd hr15) rfl (by exact (fM_findCovers_ok (d := d + (0)) hr15)) ?_
    refine xr_ifc (pct := 29) rfl rfl rfl (fun hc => ?_) (fun hc => ?_)
    · replace h := (if_neg (of_decide_eq_true hc)).symm.trans h
      refine xr_go 4 (pc' := 34) (lo' := [some (.ref v0), some (.int v1), some (.int (xc (-9))), some (.int (xc 0)), none, none, none, none]) (st' := []) (μ' := r15.2) rfl ?_
      refine xr_forget (lo := [some (.ref v0), none, some (.int (xc (-9))), some (.int (xc 0)), none, none, none, none]) ⟨rfl, rfl, rfl, trivial⟩ ?_
      exact fM_latest_L34_lp h hK
    · replace h := (if_pos (Decidable.of_not_not (of_decide_eq_false hc))).symm.trans h
      refine xr_go 2 (pc' := 25) (lo' := [some (.ref v0), some (.int v1), none, none, none, none, none, none]) (st' := [.int (xc (-5)), .ref v0]) (μ' := r15.2) rfl ?_
      obtain ⟨r16, hr16, h⟩ := Option.bind_eq_some_iff.mp h
      refine xr_callV (j := 138) (d' := (d + 5)) (rv1 := some (.int r16.1)) (μ1 := r16.2) (rest := []) (As := [.int (xc (-5))]) rfl rfl rfl rfl (Nat.le_of_ble_eq_true rfl) (fM_refuse_kd hr16) rfl (by exact (fM_refuse_ok (d := d + (5)) hr16)) ?_
      have ho := Option.some.inj h
      subst ho
      obtain ⟨rfl, rfl⟩ := hK
      exact xr_ret (rv := some (.int r16.1)) rfl rfl (Or.inl rfl)
  · replace h := (if_pos (Decidable.of_not_not (of_decide_eq_false hc))).symm.trans h
    refine xr_go 2 (pc' := 10) (lo' := [some (.ref v0), some (.int v1), none, none, none, none, none, none]) (st' := [.int (xc (-1)), .ref v0]) (μ' := μ) rfl ?_
    obtain ⟨r17, hr17, h⟩ := Option.bind_eq_some_iff.mp h
    refine xr_callV (j := 138) (d' := (d + 5)) (rv1 := some (.int r17.1)) (μ1 := r17.2) (rest := []) (As := [.int (xc (-1))]) rfl rfl rfl rfl (Nat.le_of_ble_eq_true rfl) (fM_refuse_kd hr17) rfl (by exact (fM_refuse_ok (d := d + (5)) hr17)) ?_
    have ho := Option.some.inj h
    subst ho
    obtain ⟨rfl, rfl⟩ := hK
    exact xr_ret (rv := some (.int r17.1)) rfl rfl (Or.inl rfl)
noncomputable def fM_latest (a0 : Nat) (a1 : Int32) (μ : xM) : Option (Int32 × xM) := xgd μ a0 9 (fM_latest_0 a0 a1 μ)
theorem fM_latest_kd {a0 : Nat} {a1 : Int32} {μ : xM} {o : Int32 × xM} (h : fM_latest a0 a1 μ = some o) : (xK μ a0).1 = 10 + 9 := (xgd_some h).1
theorem fM_latest_ok {d : Nat} {a0 : Nat} {a1 : Int32} {μ : xM} {o : Int32 × xM} (h : fM_latest a0 a1 μ = some o) : xRun (d + 6) 212 0 [some (.ref a0), some (.int a1), none, none, none, none, none, none] [] μ (some (.int o.1)) o.2 :=
  xr_forget (lo := [some (.ref a0), some (.int a1), none, none, none, none, none, none]) (⟨rfl, rfl, trivial⟩) (fM_latest_0_ok (d := d) (xgd_some h).2 (show fM_latest_K _ _ o from ⟨rfl, rfl⟩))
-- KeptAnswers.given(IZ)I 
def fX_given_K (rv : Option Value) (μf : xM) : (Int32 × xM) → Prop := fun o => rv = some (.int o.1) ∧ μf = o.2
noncomputable def fX_given_56  (v0 : Nat) (v1 : Int32) (s0 : Int32) (s1 : Int32) (μ : xM) : Option (Int32 × xM) := if s1 = s0 then (some ((xc 0, μ))) else ((ldFR μ v0 0 0).bind fun x1 => (ldF μ x1 3 5).bind fun x2 => (stF μ x1 3 5 (x2 ^^^ ((xc 1) <<< (v1 &&& 31)))).bind fun μ3 => some ((xc 1, μ3)))
theorem fX_given_56_ok {d : Nat} {v0 : Nat} {v1 : Int32} {s0 : Int32} {s1 : Int32} {μ : xM} {rv : Option Value} {μf : xM} {out : Int32 × xM} (h : fX_given_56 v0 v1 s0 s1 μ = some out) (hK : fX_given_K rv μf out) : xRun (d + 1) 32 56 [some (.ref v0), some (.int v1), none] [.int s0, .int s1] μ rv μf := by
  unfold fX_given_56 at h
  refine xr_icmp (pct := 61) rfl rfl rfl (fun hc => ?_) (fun hc => ?_)
  · replace h := (if_neg (of_decide_eq_true hc)).symm.trans h
    refine xr_go 1 (pc' := 62) (lo' := [some (.ref v0), some (.int v1), none]) (st' := [.ref v0]) (μ' := μ) rfl ?_
    obtain ⟨x1, hx1, h⟩ := Option.bind_eq_some_iff.mp h
    refine xr_opA (pc' := 65) (lo' := [some (.ref v0), some (.int v1), none]) (st' := []) (o := ldFR μ v0 0 0) rfl hx1 ?_
    refine xr_go 1 (pc' := 66) (lo' := [some (.ref v0), some (.int v1), none]) (st' := [.ref x1, .ref x1]) (μ' := μ) rfl ?_
    obtain ⟨x2, hx2, h⟩ := Option.bind_eq_some_iff.mp h
    refine xr_opI (pc' := 69) (lo' := [some (.ref v0), some (.int v1), none]) (st' := [.ref x1]) (o := ldF μ x1 3 5) rfl hx2 ?_
    refine xr_go 4 (pc' := 73) (lo' := [some (.ref v0), some (.int v1), none]) (st' := [.int (x2 ^^^ ((xc 1) <<< (v1 &&& 31))), .ref x1]) (μ' := μ) rfl ?_
    obtain ⟨μ3, hμ3, h⟩ := Option.bind_eq_some_iff.mp h
    refine xr_opM (pc' := 76) (lo' := [some (.ref v0), some (.int v1), none]) (st' := []) (o := stF μ x1 3 5 (x2 ^^^ ((xc 1) <<< (v1 &&& 31)))) rfl hμ3 ?_
    refine xr_go 1 (pc' := 77) (lo' := [some (.ref v0), some (.int v1), none]) (st' := [.int (xc 1)]) (μ' := μ3) rfl ?_
    have ho := Option.some.inj h
    subst ho
    obtain ⟨rfl, rfl⟩ := hK
    exact xr_ret (rv := some (.int (xc 1))) rfl rfl (Or.inl rfl)
  · replace h := (if_pos (Decidable.of_not_not (of_decide_eq_false hc))).symm.trans h
    refine xr_go 1 (pc' := 60) (lo' := [some (.ref v0), some (.int v1), none]) (st' := [.int (xc 0)]) (μ' := μ) rfl ?_
    have ho := Option.some.inj h
    subst ho
    obtain ⟨rfl, rfl⟩ := hK
    exact xr_ret (rv := some (.int (xc 0))) rfl rfl (Or.inl rfl)
noncomputable def fX_given_0  (v0 : Nat) (v1 : Int32) (v2 : Int32) (μ : xM) : Option (Int32 × xM) := (fX_isView v0 v1 μ).bind fun r4 => if r4 = 0 then ((fX_refuse v0 (xc (-1)) μ).bind fun r12 => some ((r12.1, r12.2))) else ((ldFR μ v0 0 0).bind fun x5 => (ldFR μ x5 3 9).bind fun x6 => (ldAR μ x6 v1).bind fun x7 => (ldF μ x7 5 4).bind fun x8 => if x8 = 0 then ((fX_refuse v0 (xc (-3)) μ).bind fun r11 => some ((r11.1, r11.2))) else ((ldFR μ v0 0 0).bind fun x9 => (ldF μ x9 3 5).bind fun x10 => if v2 = 0 then (fX_given_56 v0 v1 (xc 0) ((x10 >>> (v1 &&& 31)) &&& (xc 1)) μ) else (fX_given_56 v0 v1 (xc 1) ((x10 >>> (v1 &&& 31)) &&& (xc 1)) μ)))
theorem fX_given_0_ok {d : Nat} {v0 : Nat} {v1 : Int32} {v2 : Int32} {μ : xM} {rv : Option Value} {μf : xM} {out : Int32 × xM} (h : fX_given_0 v0 v1 v2 μ = some out) (hK : fX_given_K rv μf out) : xRun (d + 1) 32 0 [some (.ref v0), some (.int v1), some (.int v2)] [] μ rv μf := by
  unfold fX_given_0 at h
  refine xr_go 2 (pc' := 2) (lo' := [some (.ref v0), some (.int v1), some (.int v2)]) (st' := [.int v1, .ref v0]) (μ' := μ) rfl ?_
  obtain ⟨r4, hr4, h⟩ := Option.bind_eq_some_iff.mp h
  refine xr_callV (j := 40) (d' := (d + 0)) (rv1 := some (.int r4)) (μ1 := μ) (rest := []) (As := [.int v1]) rfl rfl rfl rfl (Nat.le_of_ble_eq_true rfl) (fX_isView_kd hr4) rfl (by exact (fX_isView_ok (d := d + (0)) hr4)) ?_
  refine xr_ifc (pct := 14) rfl rfl rfl (fun hc => ?_) (fun hc => ?_)
  · replace h := (if_neg (of_decide_eq_true hc)).symm.trans h
    refine xr_go 1 (pc' := 15) (lo' := [some (.ref v0), some (.int v1), some (.int v2)]) (st' := [.ref v0]) (μ' := μ) rfl ?_
    obtain ⟨x5, hx5, h⟩ := Option.bind_eq_some_iff.mp h
    refine xr_opA (pc' := 18) (lo' := [some (.ref v0), some (.int v1), some (.int v2)]) (st' := []) (o := ldFR μ v0 0 0) rfl hx5 ?_
    obtain ⟨x6, hx6, h⟩ := Option.bind_eq_some_iff.mp h
    refine xr_opA (pc' := 21) (lo' := [some (.ref v0), some (.int v1), some (.int v2)]) (st' := []) (o := ldFR μ x5 3 9) rfl hx6 ?_
    refine xr_go 1 (pc' := 22) (lo' := [some (.ref v0), some (.int v1), some (.int v2)]) (st' := [.int v1, .ref x6]) (μ' := μ) rfl ?_
    obtain ⟨x7, hx7, h⟩ := Option.bind_eq_some_iff.mp h
    refine xr_opA (pc' := 23) (lo' := [some (.ref v0), some (.int v1), some (.int v2)]) (st' := []) (o := ldAR μ x6 v1) rfl hx7 ?_
    obtain ⟨x8, hx8, h⟩ := Option.bind_eq_some_iff.mp h
    refine xr_opI (pc' := 26) (lo' := [some (.ref v0), some (.int v1), some (.int v2)]) (st' := []) (o := ldF μ x7 5 4) rfl hx8 ?_
    refine xr_ifc (pct := 36) rfl rfl rfl (fun hc => ?_) (fun hc => ?_)
    · replace h := (if_neg (of_decide_eq_true hc)).symm.trans h
      refine xr_go 1 (pc' := 37) (lo' := [some (.ref v0), some (.int v1), some (.int v2)]) (st' := [.ref v0]) (μ' := μ) rfl ?_
      obtain ⟨x9, hx9, h⟩ := Option.bind_eq_some_iff.mp h
      refine xr_opA (pc' := 40) (lo' := [some (.ref v0), some (.int v1), some (.int v2)]) (st' := []) (o := ldFR μ v0 0 0) rfl hx9 ?_
      obtain ⟨x10, hx10, h⟩ := Option.bind_eq_some_iff.mp h
      refine xr_opI (pc' := 43) (lo' := [some (.ref v0), some (.int v1), some (.int v2)]) (st' := []) (o := ldF μ x9 3 5) rfl hx10 ?_
      refine xr_go 5 (pc' := 48) (lo' := [some (.ref v0), some (.int v1), some (.int v2)]) (st' := [.int v2, .int ((x10 >>> (v1 &&& 31)) &&& (xc 1))]) (μ' := μ) rfl ?_
      refine xr_ifc (pct := 55) rfl rfl rfl (fun hc => ?_) (fun hc => ?_)
      · replace h := (if_pos (of_decide_eq_true hc)).symm.trans h
        refine xr_go 1 (pc' := 56) (lo' := [some (.ref v0), some (.int v1), some (.int v2)]) (st' := [.int (xc 0), .int ((x10 >>> (v1 &&& 31)) &&& (xc 1))]) (μ' := μ) rfl ?_
        refine xr_forget (lo := [some (.ref v0), some (.int v1), none]) ⟨rfl, rfl, trivial⟩ ?_
        exact fX_given_56_ok h hK
      · replace h := (if_neg (of_decide_eq_false hc)).symm.trans h
        refine xr_go 2 (pc' := 56) (lo' := [some (.ref v0), some (.int v1), some (.int v2)]) (st' := [.int (xc 1), .int ((x10 >>> (v1 &&& 31)) &&& (xc 1))]) (μ' := μ) rfl ?_
        refine xr_forget (lo := [some (.ref v0), some (.int v1), none]) ⟨rfl, rfl, trivial⟩ ?_
        exact fX_given_56_ok h hK
    · replace h := (if_pos (Decidable.of_not_not (of_decide_eq_false hc))).symm.trans h
      refine xr_go 2 (pc' := 32) (lo' := [some (.ref v0), some (.int v1), some (.int v2)]) (st' := [.int (xc (-3)), .ref v0]) (μ' := μ) rfl ?_
      obtain ⟨r11, hr11, h⟩ := Option.bind_eq_some_iff.mp h
      refine xr_callV (j := 37) (d' := (d + 0)) (rv1 := some (.int r11.1)) (μ1 := r11.2) (rest := []) (As := [.int (xc (-3))]) rfl rfl rfl rfl (Nat.le_of_ble_eq_true rfl) (fX_refuse_kd hr11) rfl (by exact (fX_refuse_ok (d := d + (0)) hr11)) ?_
      have ho := Option.some.inj h
      subst ho
      obtain ⟨rfl, rfl⟩ := hK
      exact xr_ret (rv := some (.int r11.1)) rfl rfl (Or.inl rfl)
  · replace h := (if_pos (Decidable.of_not_not (of_decide_eq_false hc))).symm.trans h
    refine xr_go 2 (pc' := 10) (lo' := [some (.ref v0), some (.int v1), some (.int v2)]) (st' := [.int (xc (-1)), .ref v0]) (μ' := μ) rfl ?_
    obtain ⟨r12, hr12, h⟩ := Option.bind_eq_some_iff.mp h
    refine xr_callV (j := 37) (d' := (d + 0)) (rv1 := some (.int r12.1)) (μ1 := r12.2) (rest := []) (As := [.int (xc (-1))]) rfl rfl rfl rfl (Nat.le_of_ble_eq_true rfl) (fX_refuse_kd hr12) rfl (by exact (fX_refuse_ok (d := d + (0)) hr12)) ?_
    have ho := Option.some.inj h
    subst ho
    obtain ⟨rfl, rfl⟩ := hK
    exact xr_ret (rv := some (.int r12.1)) rfl rfl (Or.inl rfl)
noncomputable def fX_given (a0 : Nat) (a1 : Int32) (a2 : Int32) (μ : xM) : Option (Int32 × xM) := xgd μ a0 0 (fX_given_0 a0 a1 a2 μ)
theorem fX_given_kd {a0 : Nat} {a1 : Int32} {a2 : Int32} {μ : xM} {o : Int32 × xM} (h : fX_given a0 a1 a2 μ = some o) : (xK μ a0).1 = 10 + 0 := (xgd_some h).1
theorem fX_given_ok {d : Nat} {a0 : Nat} {a1 : Int32} {a2 : Int32} {μ : xM} {o : Int32 × xM} (h : fX_given a0 a1 a2 μ = some o) : xRun (d + 1) 32 0 [some (.ref a0), some (.int a1), some (.int a2)] [] μ (some (.int o.1)) o.2 :=
  xr_forget (lo := [some (.ref a0), some (.int a1), some (.int a2)]) (⟨rfl, rfl, rfl, trivial⟩) (fX_given_0_ok (d := d) (xgd_some h).2 (show fX_given_K _ _ o from ⟨rfl, rfl⟩))
-- KeptAnswersModel.given(IZ)I 
def fM_given_K (rv : Option Value) (μf : xM) : (Int32 × xM) → Prop := fun o => rv = some (.int o.1) ∧ μf = o.2
noncomputable def fM_given_0  (v0 : Nat) (v1 : Int32) (v2 : Int32) (μ : xM) : Option (Int32 × xM) := (fM_isView v0 v1 μ).bind fun r1 => if r1 = 0 then ((fM_refuse v0 (xc (-1)) μ).bind fun r9 => some ((r9.1, r9.2))) else ((ldFR μ v0 9 14).bind fun x2 => (ldA μ x2 ((xc 10) + v1)).bind fun x3 => if x3 = 0 then ((fM_refuse v0 (xc (-3)) μ).bind fun r8 => some ((r8.1, r8.2))) else ((ldFR μ v0 9 22).bind fun x4 => (ldAZ μ x4 v1).bind fun x5 => (ldFR μ v0 9 22).bind fun x6 => (stAZ μ x6 v1 v2).bind fun μ7 => if x5 = v2 then (some ((xc 0, μ7))) else (some ((xc 1, μ7)))))
theorem fM_given_0_ok {d : Nat} {v0 : Nat} {v1 : Int32} {v2 : Int32} {μ : xM} {rv : Option Value} {μf : xM} {out : Int32 × xM} (h : fM_given_0 v0 v1 v2 μ = some out) (hK : fM_given_K rv μf out) : xRun (d + 2) 213 0 [some (.ref v0), some (.int v1), some (.int v2), none] [] μ rv μf := by
  unfold fM_given_0 at h
  refine xr_go 2 (pc' := 2) (lo' := [some (.ref v0), some (.int v1), some (.int v2), none]) (st' := [.int v1, .ref v0]) (μ' := μ) rfl ?_
  obtain ⟨r1, hr1, h⟩ := Option.bind_eq_some_iff.mp h
  refine xr_callV (j := 140) (d' := (d + 1)) (rv1 := some (.int r1)) (μ1 := μ) (rest := []) (As := [.int v1]) rfl rfl rfl rfl (Nat.le_of_ble_eq_true rfl) (fM_isView_kd hr1) rfl (by exact (fM_isView_ok (d := d + (0)) hr1)) ?_
  refine xr_ifc (pct := 14) rfl rfl rfl (fun hc => ?_) (fun hc => ?_)
  · replace h := (if_neg (of_decide_eq_true hc)).symm.trans h
    refine xr_go 1 (pc' := 15) (lo' := [some (.ref v0), some (.int v1), some (.int v2), none]) (st' := [.ref v0]) (μ' := μ) rfl ?_
    obtain ⟨x2, hx2, h⟩ := Option.bind_eq_some_iff.mp h
    refine xr_opA (pc' := 18) (lo' := [some (.ref v0), some (.int v1), some (.int v2), none]) (st' := []) (o := ldFR μ v0 9 14) rfl hx2 ?_
    refine xr_go 3 (pc' := 22) (lo' := [some (.ref v0), some (.int v1), some (.int v2), none]) (st' := [.int ((xc 10) + v1), .ref x2]) (μ' := μ) rfl ?_
    obtain ⟨x3, hx3, h⟩ := Option.bind_eq_some_iff.mp h
    refine xr_opI (pc' := 23) (lo' := [some (.ref v0), some (.int v1), some (.int v2), none]) (st' := []) (o := ldA μ x2 ((xc 10) + v1)) rfl hx3 ?_
    refine xr_ifc (pct := 33) rfl rfl rfl (fun hc => ?_) (fun hc => ?_)
    · replace h := (if_neg (of_decide_eq_true hc)).symm.trans h
      refine xr_go 1 (pc' := 34) (lo' := [some (.ref v0), some (.int v1), some (.int v2), none]) (st' := [.ref v0]) (μ' := μ) rfl ?_
      obtain ⟨x4, hx4, h⟩ := Option.bind_eq_some_iff.mp h
      refine xr_opA (pc' := 37) (lo' := [some (.ref v0), some (.int v1), some (.int v2), none]) (st' := []) (o := ldFR μ v0 9 22) rfl hx4 ?_
      refine xr_go 1 (pc' := 38) (lo' := [some (.ref v0), some (.int v1), some (.int v2), none]) (st' := [.int v1, .ref x4]) (μ' := μ) rfl ?_
      obtain ⟨x5, hx5, h⟩ := Option.bind_eq_some_iff.mp h
      refine xr_opI (pc' := 39) (lo' := [some (.ref v0), some (.int v1), some (.int v2), none]) (st' := []) (o := ldAZ μ x4 v1) rfl hx5 ?_
      refine xr_go 2 (pc' := 41) (lo' := [some (.ref v0), some (.int v1), some (.int v2), some (.int x5)]) (st' := [.ref v0]) (μ' := μ) rfl ?_
      obtain ⟨x6, hx6, h⟩ := Option.bind_eq_some_iff.mp h
      refine xr_opA (pc' := 44) (lo' := [some (.ref v0), some (.int v1), some (.int v2), some (.int x5)]) (st' := []) (o := ldFR μ v0 9 22) rfl hx6 ?_
      refine xr_go 2 (pc' := 46) (lo' := [some (.ref v0), some (.int v1), some (.int v2), some (.int x5)]) (st' := [.int v2, .int v1, .ref x6]) (μ' := μ) rfl ?_
      obtain ⟨μ7, hμ7, h⟩ := Option.bind_eq_some_iff.mp h
      refine xr_opM (pc' := 47) (lo' := [some (.ref v0), some (.int v1), some (.int v2), some (.int x5)]) (st' := []) (o := stAZ μ x6 v1 v2) rfl hμ7 ?_
      refine xr_go 2 (pc' := 49) (lo' := [some (.ref v0), some (.int v1), some (.int v2), some (.int x5)]) (st' := [.int v2, .int x5]) (μ' := μ7) rfl ?_
      refine xr_icmp (pct := 56) rfl rfl rfl (fun hc => ?_) (fun hc => ?_)
      · replace h := (if_neg (of_decide_eq_true hc)).symm.trans h
        refine xr_go 1 (pc' := 57) (lo' := [some (.ref v0), some (.int v1), some (.int v2), some (.int x5)]) (st' := [.int (xc 1)]) (μ' := μ7) rfl ?_
        have ho := Option.some.inj h
        subst ho
        obtain ⟨rfl, rfl⟩ := hK
        exact xr_ret (rv := some (.int (xc 1))) rfl rfl (Or.inl rfl)
      · replace h := (if_pos (Decidable.of_not_not (of_decide_eq_false hc))).symm.trans h
        refine xr_go 2 (pc' := 57) (lo' := [some (.ref v0), some (.int v1), some (.int v2), some (.int x5)]) (st' := [.int (xc 0)]) (μ' := μ7) rfl ?_
        have ho := Option.some.inj h
        subst ho
        obtain ⟨rfl, rfl⟩ := hK
        exact xr_ret (rv := some (.int (xc 0))) rfl rfl (Or.inl rfl)
    · replace h := (if_pos (Decidable.of_not_not (of_decide_eq_false hc))).symm.trans h
      refine xr_go 2 (pc' := 29) (lo' := [some (.ref v0), some (.int v1), some (.int v2), none]) (st' := [.int (xc (-3)), .ref v0]) (μ' := μ) rfl ?_
      obtain ⟨r8, hr8, h⟩ := Option.bind_eq_some_iff.mp h
      refine xr_callV (j := 138) (d' := (d + 1)) (rv1 := some (.int r8.1)) (μ1 := r8.2) (rest := []) (As := [.int (xc (-3))]) rfl rfl rfl rfl (Nat.le_of_ble_eq_true rfl) (fM_refuse_kd hr8) rfl (by exact (fM_refuse_ok (d := d + (1)) hr8)) ?_
      have ho := Option.some.inj h
      subst ho
      obtain ⟨rfl, rfl⟩ := hK
      exact xr_ret (rv := some (.int r8.1)) rfl rfl (Or.inl rfl)
  · replace h := (if_pos (Decidable.of_not_not (of_decide_eq_false hc))).symm.trans h
    refine xr_go 2 (pc' := 10) (lo' := [some (.ref v0), some (.int v1), some (.int v2), none]) (st' := [.int (xc (-1)), .ref v0]) (μ' := μ) rfl ?_
    obtain ⟨r9, hr9, h⟩ := Option.bind_eq_some_iff.mp h
    refine xr_callV (j := 138) (d' := (d + 1)) (rv1 := some (.int r9.1)) (μ1 := r9.2) (rest := []) (As := [.int (xc (-1))]) rfl rfl rfl rfl (Nat.le_of_ble_eq_true rfl) (fM_refuse_kd hr9) rfl (by exact (fM_refuse_ok (d := d + (1)) hr9)) ?_
    have ho := Option.some.inj h
    subst ho
    obtain ⟨rfl, rfl⟩ := hK
    exact xr_ret (rv := some (.int r9.1)) rfl rfl (Or.inl rfl)
noncomputable def fM_given (a0 : Nat) (a1 : Int32) (a2 : Int32) (μ : xM) : Option (Int32 × xM) := xgd μ a0 9 (fM_given_0 a0 a1 a2 μ)
theorem fM_given_kd {a0 : Nat} {a1 : Int32} {a2 : Int32} {μ : xM} {o : Int32 × xM} (h : fM_given a0 a1 a2 μ = some o) : (xK μ a0).1 = 10 + 9 := (xgd_some h).1
theorem fM_given_ok {d : Nat} {a0 : Nat} {a1 : Int32} {a2 : Int32} {μ : xM} {o : Int32 × xM} (h : fM_given a0 a1 a2 μ = some o) : xRun (d + 2) 213 0 [some (.ref a0), some (.int a1), some (.int a2), none] [] μ (some (.int o.1)) o.2 :=
  xr_forget (lo := [some (.ref a0), some (.int a1), some (.int a2), none]) (⟨rfl, rfl, rfl, trivial⟩) (fM_given_0_ok (d := d) (xgd_some h).2 (show fM_given_K _ _ o from ⟨rfl, rfl⟩))
-- KeptAnswers$Sight.nextToAsk(III)I 
def fS_nextToAsk_K (μ : xM) (rv : Option Value) (μf : xM) : (Int32) → Prop := fun o => rv = some (.int o) ∧ μf = μ
def fS_nextToAsk_K3 (v0 : Nat) (v1 : Int32) (v2 : Int32) (v3 : Int32) (μ : xM) (d : Nat) (rv : Option Value) (μf : xM) : ((Int32) ⊕ (Int32)) → Prop := Sum.elim (fun s : Int32 => xRun (d + 1) 114 3 [some (.ref v0), some (.int v1), some (.int v2), some (.int v3), some (.int s), none] [] μ rv μf) (fS_nextToAsk_K μ rv μf)
noncomputable def fS_nextToAsk_69  (μ : xM) : Option (Int32) := some (xc (-1))
theorem fS_nextToAsk_69_ok {d : Nat} {μ : xM} {rv : Option Value} {μf : xM} {out : Int32} (h : fS_nextToAsk_69 μ = some out) (hK : fS_nextToAsk_K μ rv μf out) : xRun (d + 1) 114 69 [none, none, none, none, none, none] [] μ rv μf := by
  unfold fS_nextToAsk_69 at h
  refine xr_go 1 (pc' := 70) (lo' := [none, none, none, none, none, none]) (st' := [.int (xc (-1))]) (μ' := μ) rfl ?_
  have ho := Option.some.inj h
  subst ho
  obtain ⟨rfl, rfl⟩ := hK
  exact xr_ret (rv := some (.int (xc (-1)))) rfl rfl (Or.inl rfl)
noncomputable def fS_nextToAsk_63  (v0 : Nat) (v1 : Int32) (v2 : Int32) (v3 : Int32) (v4 : Int32) (μ : xM) : Option ((Int32) ⊕ (Int32)) := some (.inl ((v4 + xc 1)))
theorem fS_nextToAsk_63_ok {d : Nat} {v0 : Nat} {v1 : Int32} {v2 : Int32} {v3 : Int32} {v4 : Int32} {μ : xM} {rv : Option Value} {μf : xM} {out : (Int32) ⊕ (Int32)} (h : fS_nextToAsk_63 v0 v1 v2 v3 v4 μ = some out) (hK : fS_nextToAsk_K3 v0 v1 v2 v3 μ d rv μf out) : xRun (d + 1) 114 63 [some (.ref v0), some (.int v1), some (.int v2), some (.int v3), some (.int v4), none] [] μ rv μf := by
  unfold fS_nextToAsk_63 at h
  refine xr_go 2 (pc' := 3) (lo' := [some (.ref v0), some (.int v1), some (.int v2), some (.int v3), some (.int (v4 + xc 1)), none]) (st' := []) (μ' := μ) rfl ?_
  refine xr_forget (lo := [some (.ref v0), some (.int v1), some (.int v2), some (.int v3), some (.int (v4 + xc 1)), none]) ⟨rfl, rfl, rfl, rfl, rfl, trivial⟩ ?_
  have ho := Option.some.inj h
  subst ho
  exact hK
noncomputable def fS_nextToAsk_60  (v4 : Int32) (μ : xM) : Option (Int32) := some v4
theorem fS_nextToAsk_60_ok {d : Nat} {v4 : Int32} {μ : xM} {rv : Option Value} {μf : xM} {out : Int32} (h : fS_nextToAsk_60 v4 μ = some out) (hK : fS_nextToAsk_K μ rv μf out) : xRun (d + 1) 114 60 [none, none, none, none, some (.int v4), none] [] μ rv μf := by
  unfold fS_nextToAsk_60 at h
  refine xr_go 1 (pc' := 62) (lo' := [none, none, none, none, some (.int v4), none]) (st' := [.int v4]) (μ' := μ) rfl ?_
  have ho := Option.some.inj h
  subst ho
  obtain ⟨rfl, rfl⟩ := hK
  exact xr_ret (rv := some (.int v4)) rfl rfl (Or.inl rfl)
noncomputable def fS_nextToAsk_44  (v0 : Nat) (v1 : Int32) (v2 : Int32) (v3 : Int32) (v4 : Int32) (s0 : Int32) (μ : xM) : Option ((Int32) ⊕ (Int32)) := if ((v1 >>> (v4 &&& 31)) &&& (xc 1)) = 0 then (fS_nextToAsk_63 v0 v1 v2 v3 v4 μ) else (if s0 = 0 then (fS_nextToAsk_63 v0 v1 v2 v3 v4 μ) else ((fS_nextToAsk_60 v4 μ).map (fun o => .inr o)))
theorem fS_nextToAsk_44_ok {d : Nat} {v0 : Nat} {v1 : Int32} {v2 : Int32} {v3 : Int32} {v4 : Int32} {s0 : Int32} {μ : xM} {rv : Option Value} {μf : xM} {out : (Int32) ⊕ (Int32)} (h : fS_nextToAsk_44 v0 v1 v2 v3 v4 s0 μ = some out) (hK : fS_nextToAsk_K3 v0 v1 v2 v3 μ d rv μf out) : xRun (d + 1) 114 44 [some (.ref v0), some (.int v1), some (.int v2), some (.int v3), some (.int v4), none] [.int s0] μ rv μf := by
  unfold fS_nextToAsk_44 at h
  refine xr_go 6 (pc' := 52) (lo' := [some (.ref v0), some (.int v1), some (.int v2), some (.int v3), some (.int v4), some (.int s0)]) (st' := [.int ((v1 >>> (v4 &&& 31)) &&& (xc 1))]) (μ' := μ) rfl ?_
  refine xr_ifc (pct := 63) rfl rfl rfl (fun hc => ?_) (fun hc => ?_)
  · replace h := (if_pos (of_decide_eq_true hc)).symm.trans h
    refine xr_forget (lo := [some (.ref v0), some (.int v1), some (.int v2), some (.int v3), some (.int v4), none]) ⟨rfl, rfl, rfl, rfl, rfl, trivial⟩ ?_
    exact fS_nextToAsk_63_ok h hK
  · replace h := (if_neg (of_decide_eq_false hc)).symm.trans h
    refine xr_go 1 (pc' := 57) (lo' := [some (.ref v0), some (.int v1), some (.int v2), some (.int v3), some (.int v4), some (.int s0)]) (st' := [.int s0]) (μ' := μ) rfl ?_
    refine xr_ifc (pct := 63) rfl rfl rfl (fun hc => ?_) (fun hc => ?_)
    · replace h := (if_pos (of_decide_eq_true hc)).symm.trans h
      refine xr_forget (lo := [some (.ref v0), some (.int v1), some (.int v2), some (.int v3), some (.int v4), none]) ⟨rfl, rfl, rfl, rfl, rfl, trivial⟩ ?_
      exact fS_nextToAsk_63_ok h hK
    · replace h := (if_neg (of_decide_eq_false hc)).symm.trans h
      refine xr_forget (lo := [none, none, none, none, some (.int v4), none]) ⟨rfl, trivial⟩ ?_
      obtain ⟨o, h2, rfl⟩ := Option.map_eq_some_iff.mp h
      exact fS_nextToAsk_60_ok h2 hK
noncomputable def fS_nextToAsk_39  (v0 : Nat) (v1 : Int32) (v2 : Int32) (v3 : Int32) (v4 : Int32) (μ : xM) : Option ((Int32) ⊕ (Int32)) := fS_nextToAsk_44 v0 v1 v2 v3 v4 (xc 1) μ
theorem fS_nextToAsk_39_ok {d : Nat} {v0 : Nat} {v1 : Int32} {v2 : Int32} {v3 : Int32} {v4 : Int32} {μ : xM} {rv : Option Value} {μf : xM} {out : (Int32) ⊕ (Int32)} (h : fS_nextToAsk_39 v0 v1 v2 v3 v4 μ = some out) (hK : fS_nextToAsk_K3 v0 v1 v2 v3 μ d rv μf out) : xRun (d + 1) 114 39 [some (.ref v0), some (.int v1), some (.int v2), some (.int v3), some (.int v4), none] [] μ rv μf := by
  unfold fS_nextToAsk_39 at h
  refine xr_go 2 (pc' := 44) (lo' := [some (.ref v0), some (.int v1), some (.int v2), some (.int v3), some (.int v4), none]) (st' := [.int (xc 1)]) (μ' := μ) rfl ?_
  refine xr_forget (lo := [some (.ref v0), some (.int v1), some (.int v2), some (.int v3), some (.int v4), none]) ⟨rfl, rfl, rfl, rfl, rfl, trivial⟩ ?_
  exact fS_nextToAsk_44_ok h hK
noncomputable def fS_nextToAsk_L3  (v0 : Nat) (v1 : Int32) (v2 : Int32) (v3 : Int32) (v4 : Int32) (μ : xM) : Option ((Int32) ⊕ (Int32)) := (ldF μ v0 6 2).bind fun x1 => if x1 ≤ v4 then ((fS_nextToAsk_69 μ).map (fun o => .inr o)) else ((fS_viewOf v0 v4 μ).bind fun r2 => if ((v3 >>> (r2 &&& 31)) &&& (xc 1)) = 0 then (fS_nextToAsk_39 v0 v1 v2 v3 v4 μ) else ((fS_termOf v0 v4 (xc 0) μ).bind fun r3 => if ((v2 >>> (r3 &&& 31)) &&& (xc 1)) = 0 then (fS_nextToAsk_44 v0 v1 v2 v3 v4 (xc 0) μ) else (fS_nextToAsk_39 v0 v1 v2 v3 v4 μ)))
theorem fS_nextToAsk_L3_ok {d : Nat} {v0 : Nat} {v1 : Int32} {v2 : Int32} {v3 : Int32} {v4 : Int32} {μ : xM} {rv : Option Value} {μf : xM} {out : (Int32) ⊕ (Int32)} (h : fS_nextToAsk_L3 v0 v1 v2 v3 v4 μ = some out) (hK : fS_nextToAsk_K3 v0 v1 v2 v3 μ d rv μf out) : xRun (d + 1) 114 3 [some (.ref v0), some (.int v1), some (.int v2), some (.int v3), some (.int v4), none] [] μ rv μf := by
  unfold fS_nextToAsk_L3 at h
  refine xr_go 2 (pc' := 6) (lo' := [some (.ref v0), some (.int v1), some (.int v2), some (.int v3), some (.int v4), none]) (st' := [.ref v0, .int v4]) (μ' := μ) rfl ?_
  obtain ⟨x1, hx1, h⟩ := Option.bind_eq_some_iff.mp h
  refine xr_opI (pc' := 9) (lo' := [some (.ref v0), some (.int v1), some (.int v2), some (.int v3), some (.int v4), none]) (st' := [.int v4]) (o := ldF μ v0 6 2) rfl hx1 ?_
  refine xr_icmp (pct := 69) rfl rfl rfl (fun hc => ?_) (fun hc => ?_)
  · replace h := (if_pos (of_decide_eq_true hc)).symm.trans h
    refine xr_forget (lo := [none, none, none, none, none, none]) trivial ?_
    obtain ⟨o, h2, rfl⟩ := Option.map_eq_some_iff.mp h
    exact fS_nextToAsk_69_ok h2 hK
  · replace h := (if_neg (of_decide_eq_false hc)).symm.trans h
    refine xr_go 3 (pc' := 16) (lo' := [some (.ref v0), some (.int v1), some (.int v2), some (.int v3), some (.int v4), none]) (st' := [.int v4, .ref v0, .int v3]) (μ' := μ) rfl ?_
    obtain ⟨r2, hr2, h⟩ := Option.bind_eq_some_iff.mp h
    refine xr_callV (j := 100) (d' := (d + 0)) (rv1 := some (.int r2)) (μ1 := μ) (rest := [.int v3]) (As := [.int v4]) rfl rfl rfl rfl (Nat.le_of_ble_eq_true rfl) (fS_viewOf_kd hr2) rfl (by exact (fS_viewOf_ok (d := d + (0)) hr2)) ?_
    refine xr_go 3 (pc' := 22) (lo' := [some (.ref v0), some (.int v1), some (.int v2), some (.int v3), some (.int v4), none]) (st' := [.int ((v3 >>> (r2 &&& 31)) &&& (xc 1))]) (μ' := μ) rfl ?_
    refine xr_ifc (pct := 39) rfl rfl rfl (fun hc => ?_) (fun hc => ?_)
    · replace h := (if_pos (of_decide_eq_true hc)).symm.trans h
      refine xr_forget (lo := [some (.ref v0), some (.int v1), some (.int v2), some (.int v3), some (.int v4), none]) ⟨rfl, rfl, rfl, rfl, rfl, trivial⟩ ?_
      exact fS_nextToAsk_39_ok h hK
    · replace h := (if_neg (of_decide_eq_false hc)).symm.trans h
      refine xr_go 4 (pc' := 30) (lo' := [some (.ref v0), some (.int v1), some (.int v2), some (.int v3), some (.int v4), none]) (st' := [.int (xc 0), .int v4, .ref v0, .int v2]) (μ' := μ) rfl ?_
      obtain ⟨r3, hr3, h⟩ := Option.bind_eq_some_iff.mp h
      refine xr_callV (j := 101) (d' := (d + 0)) (rv1 := some (.int r3)) (μ1 := μ) (rest := [.int v2]) (As := [.int v4, .int (xc 0)]) rfl rfl rfl rfl (Nat.le_of_ble_eq_true rfl) (fS_termOf_kd hr3) rfl (by exact (fS_termOf_ok (d := d + (0)) hr3)) ?_
      refine xr_go 3 (pc' := 36) (lo' := [some (.ref v0), some (.int v1), some (.int v2), some (.int v3), some (.int v4), none]) (st' := [.int ((v2 >>> (r3 &&& 31)) &&& (xc 1))]) (μ' := μ) rfl ?_
      refine xr_ifc (pct := 43) rfl rfl rfl (fun hc => ?_) (fun hc => ?_)
      · replace h := (if_pos (of_decide_eq_true hc)).symm.trans h
        refine xr_go 1 (pc' := 44) (lo' := [some (.ref v0), some (.int v1), some (.int v2), some (.int v3), some (.int v4), none]) (st' := [.int (xc 0)]) (μ' := μ) rfl ?_
        refine xr_forget (lo := [some (.ref v0), some (.int v1), some (.int v2), some (.int v3), some (.int v4), none]) ⟨rfl, rfl, rfl, rfl, rfl, trivial⟩ ?_
        exact fS_nextToAsk_44_ok h hK
      · replace h := (if_neg (of_decide_eq_false hc)).symm.trans h
        refine xr_forget (lo := [some (.ref v0), some (.int v1), some (.int v2), some (.int v3), some (.int v4), none]) ⟨rfl, rfl, rfl, rfl, rfl, trivial⟩ ?_
        exact fS_nextToAsk_39_ok h hK
theorem fS_nextToAsk_L3_lp {d : Nat} {v0 : Nat} {v1 : Int32} {v2 : Int32} {v3 : Int32} {v4 : Int32} {μ : xM} {rv : Option Value} {μf : xM} {out : Int32} (h : xwh (fun s : Int32 => fS_nextToAsk_L3 v0 v1 v2 v3 s μ) (v4) = some out) (hK : fS_nextToAsk_K μ rv μf out) : xRun (d + 1) 114 3 [some (.ref v0), some (.int v1), some (.int v2), some (.int v3), some (.int v4), none] [] μ rv μf :=
  xwh_ind (Rh := fun s : Int32 => xRun (d + 1) 114 3 [some (.ref v0), some (.int v1), some (.int v2), some (.int v3), some (.int s), none] [] μ rv μf) (Co := fS_nextToAsk_K μ rv μf) (fun s o hb hk => fS_nextToAsk_L3_ok hb hk) h hK
noncomputable def fS_nextToAsk_0  (v0 : Nat) (v1 : Int32) (v2 : Int32) (v3 : Int32) (μ : xM) : Option (Int32) := xwh (fun s : Int32 => fS_nextToAsk_L3 v0 v1 v2 v3 s μ) (xc 0)
theorem fS_nextToAsk_0_ok {d : Nat} {v0 : Nat} {v1 : Int32} {v2 : Int32} {v3 : Int32} {μ : xM} {rv : Option Value} {μf : xM} {out : Int32} (h : fS_nextToAsk_0 v0 v1 v2 v3 μ = some out) (hK : fS_nextToAsk_K μ rv μf out) : xRun (d + 1) 114 0 [some (.ref v0), some (.int v1), some (.int v2), some (.int v3), none, none] [] μ rv μf := by
  unfold fS_nextToAsk_0 at h
  refine xr_go 2 (pc' := 3) (lo' := [some (.ref v0), some (.int v1), some (.int v2), some (.int v3), some (.int (xc 0)), none]) (st' := []) (μ' := μ) rfl ?_
  refine xr_forget (lo := [some (.ref v0), some (.int v1), some (.int v2), some (.int v3), some (.int (xc 0)), none]) ⟨rfl, rfl, rfl, rfl, rfl, trivial⟩ ?_
  exact fS_nextToAsk_L3_lp h hK
noncomputable def fS_nextToAsk (a0 : Nat) (a1 : Int32) (a2 : Int32) (a3 : Int32) (μ : xM) : Option (Int32) := xgd μ a0 6 (fS_nextToAsk_0 a0 a1 a2 a3 μ)
theorem fS_nextToAsk_kd {a0 : Nat} {a1 : Int32} {a2 : Int32} {a3 : Int32} {μ : xM} {o : Int32} (h : fS_nextToAsk a0 a1 a2 a3 μ = some o) : (xK μ a0).1 = 10 + 6 := (xgd_some h).1
theorem fS_nextToAsk_ok {d : Nat} {a0 : Nat} {a1 : Int32} {a2 : Int32} {a3 : Int32} {μ : xM} {o : Int32} (h : fS_nextToAsk a0 a1 a2 a3 μ = some o) : xRun (d + 1) 114 0 [some (.ref a0), some (.int a1), some (.int a2), some (.int a3), none, none] [] μ (some (.int o)) μ :=
  xr_forget (lo := [some (.ref a0), some (.int a1), some (.int a2), some (.int a3), none, none]) (⟨rfl, rfl, rfl, rfl, trivial⟩) (fS_nextToAsk_0_ok (d := d) (xgd_some h).2 (show fS_nextToAsk_K μ _ _ o from ⟨rfl, rfl⟩))
-- KeptAnswers$Sight.orderOf(II)I 
def fS_orderOf_K (μ : xM) (rv : Option Value) (μf : xM) : (Int32) → Prop := fun o => rv = some (.int o) ∧ μf = μ
def fS_orderOf_K14 (v0 : Nat) (v2 : Int32) (μ : xM) (d : Nat) (rv : Option Value) (μf : xM) : ((Int32 × Int32 × Int32 × Int32 × Int32) ⊕ (Int32)) → Prop := Sum.elim (fun s : Int32 × Int32 × Int32 × Int32 × Int32 => xRun (d + 2) 113 14 [some (.ref v0), none, some (.int v2), some (.int s.1), some (.int s.2.1), some (.int s.2.2.1), some (.int s.2.2.2.1), some (.int s.2.2.2.2), none] [] μ rv μf) (fS_orderOf_K μ rv μf)
noncomputable def fS_orderOf_87  (v5 : Int32) (μ : xM) : Option (Int32) := some v5
theorem fS_orderOf_87_ok {d : Nat} {v5 : Int32} {μ : xM} {rv : Option Value} {μf : xM} {out : Int32} (h : fS_orderOf_87 v5 μ = some out) (hK : fS_orderOf_K μ rv μf out) : xRun (d + 2) 113 87 [none, none, none, none, none, some (.int v5), none, none, none] [] μ rv μf := by
  unfold fS_orderOf_87 at h
  refine xr_go 1 (pc' := 89) (lo' := [none, none, none, none, none, some (.int v5), none, none, none]) (st' := [.int v5]) (μ' := μ) rfl ?_
  have ho := Option.some.inj h
  subst ho
  obtain ⟨rfl, rfl⟩ := hK
  exact xr_ret (rv := some (.int v5)) rfl rfl (Or.inl rfl)
noncomputable def fS_orderOf_39  (μ : xM) : Option (Int32) := some (xc (-9))
theorem fS_orderOf_39_ok {d : Nat} {μ : xM} {rv : Option Value} {μf : xM} {out : Int32} (h : fS_orderOf_39 μ = some out) (hK : fS_orderOf_K μ rv μf out) : xRun (d + 2) 113 39 [none, none, none, none, none, none, none, none, none] [] μ rv μf := by
  unfold fS_orderOf_39 at h
  refine xr_go 1 (pc' := 41) (lo' := [none, none, none, none, none, none, none, none, none]) (st' := [.int (xc (-9))]) (μ' := μ) rfl ?_
  have ho := Option.some.inj h
  subst ho
  obtain ⟨rfl, rfl⟩ := hK
  exact xr_ret (rv := some (.int (xc (-9)))) rfl rfl (Or.inl rfl)
noncomputable def fS_orderOf_L14  (v0 : Nat) (v2 : Int32) (v3 : Int32) (v4 : Int32) (v5 : Int32) (v6 : Int32) (v7 : Int32) (μ : xM) : Option ((Int32 × Int32 × Int32 × Int32 × Int32) ⊕ (Int32)) := if (xc 3) ≤ v7 then ((fS_orderOf_87 v5 μ).map (fun o => .inr o)) else (if v3 = 0 then ((fS_orderOf_87 v5 μ).map (fun o => .inr o)) else ((fS_nextToAsk v0 v3 v4 v2 μ).bind fun r1 => if 0 ≤ r1 then ((fS_termsOf v0 r1 μ).bind fun r2 => some (.inl ((v3 &&& (((xc 1) <<< (r1 &&& 31)) ^^^ (xc (-1))), v4 ||| r2, v5 + (v6 * (r1 + (xc 1))), v6 * (xc 13), v7 + xc 1)))) else ((fS_orderOf_39 μ).map (fun o => .inr o))))
theorem fS_orderOf_L14_ok {d : Nat} {v0 : Nat} {v2 : Int32} {v3 : Int32} {v4 : Int32} {v5 : Int32} {v6 : Int32} {v7 : Int32} {μ : xM} {rv : Option Value} {μf : xM} {out : (Int32 × Int32 × Int32 × Int32 × Int32) ⊕ (Int32)} (h : fS_orderOf_L14 v0 v2 v3 v4 v5 v6 v7 μ = some out) (hK : fS_orderOf_K14 v0 v2 μ d rv μf out) : xRun (d + 2) 113 14 [some (.ref v0), none, some (.int v2), some (.int v3), some (.int v4), some (.int v5), some (.int v6), some (.int v7), none] [] μ rv μf := by
  unfold fS_orderOf_L14 at h
  refine xr_go 2 (pc' := 17) (lo' := [some (.ref v0), none, some (.int v2), some (.int v3), some (.int v4), some (.int v5), some (.int v6), some (.int v7), none]) (st' := [.int (xc 3), .int v7]) (μ' := μ) rfl ?_
  refine xr_icmp (pct := 87) rfl rfl rfl (fun hc => ?_) (fun hc => ?_)
  · replace h := (if_pos (of_decide_eq_true hc)).symm.trans h
    refine xr_forget (lo := [none, none, none, none, none, some (.int v5), none, none, none]) ⟨rfl, trivial⟩ ?_
    obtain ⟨o, h2, rfl⟩ := Option.map_eq_some_iff.mp h
    exact fS_orderOf_87_ok h2 hK
  · replace h := (if_neg (of_decide_eq_false hc)).symm.trans h
    refine xr_go 1 (pc' := 21) (lo' := [some (.ref v0), none, some (.int v2), some (.int v3), some (.int v4), some (.int v5), some (.int v6), some (.int v7), none]) (st' := [.int v3]) (μ' := μ) rfl ?_
    refine xr_ifc (pct := 87) rfl rfl rfl (fun hc => ?_) (fun hc => ?_)
    · replace h := (if_pos (of_decide_eq_true hc)).symm.trans h
      refine xr_forget (lo := [none, none, none, none, none, some (.int v5), none, none, none]) ⟨rfl, trivial⟩ ?_
      obtain ⟨o, h2, rfl⟩ := Option.map_eq_some_iff.mp h
      exact fS_orderOf_87_ok h2 hK
    · replace h := (if_neg (of_decide_eq_false hc)).symm.trans h
      refine xr_go 4 (pc' := 29) (lo' := [some (.ref v0), none, some (.int v2), some (.int v3), some (.int v4), some (.int v5), some (.int v6), some (.int v7), none]) (st' := [.int v2, .int v4, .int v3, .ref v0]) (μ' := μ) rfl ?_
      obtain ⟨r1, hr1, h⟩ := Option.bind_eq_some_iff.mp h
      refine xr_callV (j := 114) (d' := (d + 1)) (rv1 := some (.int r1)) (μ1 := μ) (rest := []) (As := [.int v3, .int v4, .int v2]) rfl rfl rfl rfl (Nat.le_of_ble_eq_true rfl) (fS_nextToAsk_kd hr1) rfl (by exact (fS_nextToAsk_ok (d := d + (0)) hr1)) ?_
      refine xr_go 2 (pc' := 36) (lo' := [some (.ref v0), none, some (.int v2), some (.int v3), some (.int v4), some (.int v5), some (.int v6), some (.int v7), some (.int r1)]) (st' := [.int r1]) (μ' := μ) rfl ?_
      refine xr_ifc (pct := 42) rfl rfl rfl (fun hc => ?_) (fun hc => ?_)
      · replace h := (if_pos (of_decide_eq_true hc)).symm.trans h
        refine xr_go 11 (pc' := 56) (lo' := [some (.ref v0), none, some (.int v2), some (.int (v3 &&& (((xc 1) <<< (r1 &&& 31)) ^^^ (xc (-1))))), some (.int v4), some (.int v5), some (.int v6), some (.int v7), some (.int r1)]) (st' := [.int r1, .ref v0, .int v4]) (μ' := μ) rfl ?_
        obtain ⟨r2, hr2, h⟩ := Option.bind_eq_some_iff.mp h
        refine xr_callV (j := 108) (d' := (d + 1)) (rv1 := some (.int r2)) (μ1 := μ) (rest := [.int v4]) (As := [.int r1]) rfl rfl rfl rfl (Nat.le_of_ble_eq_true rfl) (fS_termsOf_kd hr2) rfl (by exact (fS_termsOf_ok (d := d + (0)) hr2)) ?_
        refine xr_go 16 (pc' := 14) (lo' := [some (.ref v0), none, some (.int v2), some (.int (v3 &&& (((xc 1) <<< (r1 &&& 31)) ^^^ (xc (-1))))), some (.int (v4 ||| r2)), some (.int (v5 + (v6 * (r1 + (xc 1))))), some (.int (v6 * (xc 13))), some (.int (v7 + xc 1)), some (.int r1)]) (st' := []) (μ' := μ) rfl ?_
        refine xr_forget (lo := [some (.ref v0), none, some (.int v2), some (.int (v3 &&& (((xc 1) <<< (r1 &&& 31)) ^^^ (xc (-1))))), some (.int (v4 ||| r2)), some (.int (v5 + (v6 * (r1 + (xc 1))))), some (.int (v6 * (xc 13))), some (.int (v7 + xc 1)), none]) ⟨rfl, rfl, rfl, rfl, rfl, rfl, rfl, trivial⟩ ?_
        have ho := Option.some.inj h
        subst ho
        exact hK
      · replace h := (if_neg (of_decide_eq_false hc)).symm.trans h
        refine xr_forget (lo := [none, none, none, none, none, none, none, none, none]) trivial ?_
        obtain ⟨o, h2, rfl⟩ := Option.map_eq_some_iff.mp h
        exact fS_orderOf_39_ok h2 hK
theorem fS_orderOf_L14_lp {d : Nat} {v0 : Nat} {v2 : Int32} {v3 : Int32} {v4 : Int32} {v5 : Int32} {v6 : Int32} {v7 : Int32} {μ : xM} {rv : Option Value} {μf : xM} {out : Int32} (h : xwh (fun s : Int32 × Int32 × Int32 × Int32 × Int32 => fS_orderOf_L14 v0 v2 s.1 s.2.1 s.2.2.1 s.2.2.2.1 s.2.2.2.2 μ) (v3, v4, v5, v6, v7) = some out) (hK : fS_orderOf_K μ rv μf out) : xRun (d + 2) 113 14 [some (.ref v0), none, some (.int v2), some (.int v3), some (.int v4), some (.int v5), some (.int v6), some (.int v7), none] [] μ rv μf :=
  xwh_ind (Rh := fun s : Int32 × Int32 × Int32 × Int32 × Int32 => xRun (d + 2) 113 14 [some (.ref v0), none, some (.int v2), some (.int s.1), some (.int s.2.1), some (.int s.2.2.1), some (.int s.2.2.2.1), some (.int s.2.2.2.2), none] [] μ rv μf) (Co := fS_orderOf_K μ rv μf) (fun s o hb hk => fS_orderOf_L14_ok hb hk) h hK
noncomputable def fS_orderOf_0  (v0 : Nat) (v1 : Int32) (v2 : Int32) (μ : xM) : Option (Int32) := xwh (fun s : Int32 × Int32 × Int32 × Int32 × Int32 => fS_orderOf_L14 v0 v2 s.1 s.2.1 s.2.2.1 s.2.2.2.1 s.2.2.2.2 μ) (v1, xc 3, xc 0, xc 1, xc 0)
theorem fS_orderOf_0_ok {d : Nat} {v0 : Nat} {v1 : Int32} {v2 : Int32} {μ : xM} {rv : Option Value} {μf : xM} {out : Int32} (h : fS_orderOf_0 v0 v1 v2 μ = some out) (hK : fS_orderOf_K μ rv μf out) : xRun (d + 2) 113 0 [some (.ref v0), some (.int v1), some (.int v2), none, none, none, none, none, none] [] μ rv μf := by
  unfold fS_orderOf_0 at h
  refine xr_go 10 (pc' := 14) (lo' := [some (.ref v0), some (.int v1), some (.int v2), some (.int v1), some (.int (xc 3)), some (.int (xc 0)), some (.int (xc 1)), some (.int (xc 0)), none]) (st' := []) (μ' := μ) rfl ?_
  refine xr_forget (lo := [some (.ref v0), none, some (.int v2), some (.int v1), some (.int (xc 3)), some (.int (xc 0)), some (.int (xc 1)), some (.int (xc 0)), none]) ⟨rfl, rfl, rfl, rfl, rfl, rfl, rfl, trivial⟩ ?_
  exact fS_orderOf_L14_lp h hK
noncomputable def fS_orderOf (a0 : Nat) (a1 : Int32) (a2 : Int32) (μ : xM) : Option (Int32) := xgd μ a0 6 (fS_orderOf_0 a0 a1 a2 μ)
theorem fS_orderOf_kd {a0 : Nat} {a1 : Int32} {a2 : Int32} {μ : xM} {o : Int32} (h : fS_orderOf a0 a1 a2 μ = some o) : (xK μ a0).1 = 10 + 6 := (xgd_some h).1
theorem fS_orderOf_ok {d : Nat} {a0 : Nat} {a1 : Int32} {a2 : Int32} {μ : xM} {o : Int32} (h : fS_orderOf a0 a1 a2 μ = some o) : xRun (d + 2) 113 0 [some (.ref a0), some (.int a1), some (.int a2), none, none, none, none, none, none] [] μ (some (.int o)) μ :=
  xr_forget (lo := [some (.ref a0), some (.int a1), some (.int a2), none, none, none, none, none, none]) (⟨rfl, rfl, rfl, trivial⟩) (fS_orderOf_0_ok (d := d) (xgd_some h).2 (show fS_orderOf_K μ _ _ o from ⟨rfl, rfl⟩))
-- KeptAnswers$Sight.bestPlan(I)I 
def fS_bestPlan_K (μ : xM) (rv : Option Value) (μf : xM) : (Int32) → Prop := fun o => rv = some (.int o) ∧ μf = μ
def fS_bestPlan_K2 (v0 : Nat) (v1 : Int32) (μ : xM) (d : Nat) (rv : Option Value) (μf : xM) : ((Int32) ⊕ (Int32)) → Prop := Sum.elim (fun s : Int32 => xRun (d + 3) 112 2 [some (.ref v0), some (.int v1), some (.int s), none, none] [] μ rv μf) (fS_bestPlan_K μ rv μf)
def fS_bestPlan_K9 (v0 : Nat) (v1 : Int32) (v2 : Int32) (μ : xM) (d : Nat) (rv : Option Value) (μf : xM) : ((Int32) ⊕ ((Int32) ⊕ (Int32))) → Prop := Sum.elim (fun s : Int32 => xRun (d + 3) 112 9 [some (.ref v0), some (.int v1), some (.int v2), some (.int s), none] [] μ rv μf) (fS_bestPlan_K2 v0 v1 μ d rv μf)
noncomputable def fS_bestPlan_68  (μ : xM) : Option (Int32) := some (xc (-9))
theorem fS_bestPlan_68_ok {d : Nat} {μ : xM} {rv : Option Value} {μf : xM} {out : Int32} (h : fS_bestPlan_68 μ = some out) (hK : fS_bestPlan_K μ rv μf out) : xRun (d + 3) 112 68 [none, none, none, none, none] [] μ rv μf := by
  unfold fS_bestPlan_68 at h
  refine xr_go 1 (pc' := 70) (lo' := [none, none, none, none, none]) (st' := [.int (xc (-9))]) (μ' := μ) rfl ?_
  have ho := Option.some.inj h
  subst ho
  obtain ⟨rfl, rfl⟩ := hK
  exact xr_ret (rv := some (.int (xc (-9)))) rfl rfl (Or.inl rfl)
noncomputable def fS_bestPlan_62  (v0 : Nat) (v1 : Int32) (v2 : Int32) (μ : xM) : Option ((Int32) ⊕ (Int32)) := some (.inl ((v2 + xc 1)))
theorem fS_bestPlan_62_ok {d : Nat} {v0 : Nat} {v1 : Int32} {v2 : Int32} {μ : xM} {rv : Option Value} {μf : xM} {out : (Int32) ⊕ (Int32)} (h : fS_bestPlan_62 v0 v1 v2 μ = some out) (hK : fS_bestPlan_K2 v0 v1 μ d rv μf out) : xRun (d + 3) 112 62 [some (.ref v0), some (.int v1), some (.int v2), none, none] [] μ rv μf := by
  unfold fS_bestPlan_62 at h
  refine xr_go 2 (pc' := 2) (lo' := [some (.ref v0), some (.int v1), some (.int (v2 + xc 1)), none, none]) (st' := []) (μ' := μ) rfl ?_
  refine xr_forget (lo := [some (.ref v0), some (.int v1), some (.int (v2 + xc 1)), none, none]) ⟨rfl, rfl, rfl, trivial⟩ ?_
  have ho := Option.some.inj h
  subst ho
  exact hK
noncomputable def fS_bestPlan_53  (v4 : Int32) (μ : xM) : Option (Int32) := some v4
theorem fS_bestPlan_53_ok {d : Nat} {v4 : Int32} {μ : xM} {rv : Option Value} {μf : xM} {out : Int32} (h : fS_bestPlan_53 v4 μ = some out) (hK : fS_bestPlan_K μ rv μf out) : xRun (d + 3) 112 53 [none, none, none, none, some (.int v4)] [] μ rv μf := by
  unfold fS_bestPlan_53 at h
  refine xr_go 1 (pc' := 55) (lo' := [none, none, none, none, some (.int v4)]) (st' := [.int v4]) (μ' := μ) rfl ?_
  have ho := Option.some.inj h
  subst ho
  obtain ⟨rfl, rfl⟩ := hK
  exact xr_ret (rv := some (.int v4)) rfl rfl (Or.inl rfl)
noncomputable def fS_bestPlan_46  (v0 : Nat) (v1 : Int32) (v2 : Int32) (v3 : Int32) (s0 : Int32) (μ : xM) : Option ((Int32) ⊕ ((Int32) ⊕ (Int32))) := if s0 < 0 then (some (.inl ((v3 + xc 1)))) else ((fS_bestPlan_53 s0 μ).map (fun o => .inr (.inr o)))
theorem fS_bestPlan_46_ok {d : Nat} {v0 : Nat} {v1 : Int32} {v2 : Int32} {v3 : Int32} {s0 : Int32} {μ : xM} {rv : Option Value} {μf : xM} {out : (Int32) ⊕ ((Int32) ⊕ (Int32))} (h : fS_bestPlan_46 v0 v1 v2 v3 s0 μ = some out) (hK : fS_bestPlan_K9 v0 v1 v2 μ d rv μf out) : xRun (d + 3) 112 46 [some (.ref v0), some (.int v1), some (.int v2), some (.int v3), none] [.int s0] μ rv μf := by
  unfold fS_bestPlan_46 at h
  refine xr_go 2 (pc' := 50) (lo' := [some (.ref v0), some (.int v1), some (.int v2), some (.int v3), some (.int s0)]) (st' := [.int s0]) (μ' := μ) rfl ?_
  refine xr_ifc (pct := 56) rfl rfl rfl (fun hc => ?_) (fun hc => ?_)
  · replace h := (if_pos (of_decide_eq_true hc)).symm.trans h
    refine xr_go 2 (pc' := 9) (lo' := [some (.ref v0), some (.int v1), some (.int v2), some (.int (v3 + xc 1)), some (.int s0)]) (st' := []) (μ' := μ) rfl ?_
    refine xr_forget (lo := [some (.ref v0), some (.int v1), some (.int v2), some (.int (v3 + xc 1)), none]) ⟨rfl, rfl, rfl, rfl, trivial⟩ ?_
    have ho := Option.some.inj h
    subst ho
    exact hK
  · replace h := (if_neg (of_decide_eq_false hc)).symm.trans h
    refine xr_forget (lo := [none, none, none, none, some (.int s0)]) ⟨rfl, trivial⟩ ?_
    obtain ⟨o, h2, rfl⟩ := Option.map_eq_some_iff.mp h
    exact fS_bestPlan_53_ok h2 hK
noncomputable def fS_bestPlan_44  (v0 : Nat) (v1 : Int32) (v2 : Int32) (v3 : Int32) (μ : xM) : Option ((Int32) ⊕ ((Int32) ⊕ (Int32))) := fS_bestPlan_46 v0 v1 v2 v3 (xc (-9)) μ
theorem fS_bestPlan_44_ok {d : Nat} {v0 : Nat} {v1 : Int32} {v2 : Int32} {v3 : Int32} {μ : xM} {rv : Option Value} {μf : xM} {out : (Int32) ⊕ ((Int32) ⊕ (Int32))} (h : fS_bestPlan_44 v0 v1 v2 v3 μ = some out) (hK : fS_bestPlan_K9 v0 v1 v2 μ d rv μf out) : xRun (d + 3) 112 44 [some (.ref v0), some (.int v1), some (.int v2), some (.int v3), none] [] μ rv μf := by
  unfold fS_bestPlan_44 at h
  refine xr_go 1 (pc' := 46) (lo' := [some (.ref v0), some (.int v1), some (.int v2), some (.int v3), none]) (st' := [.int (xc (-9))]) (μ' := μ) rfl ?_
  refine xr_forget (lo := [some (.ref v0), some (.int v1), some (.int v2), some (.int v3), none]) ⟨rfl, rfl, rfl, rfl, trivial⟩ ?_
  exact fS_bestPlan_46_ok h hK
noncomputable def fS_bestPlan_L9  (v0 : Nat) (v1 : Int32) (v2 : Int32) (v3 : Int32) (μ : xM) : Option ((Int32) ⊕ ((Int32) ⊕ (Int32))) := (ldF μ v0 6 2).bind fun x1 => if ((xc 1) <<< (x1 &&& 31)) ≤ v3 then ((fS_bestPlan_62 v0 v1 v2 μ).map (fun o => .inr o)) else ((fJI_bitCount v3 μ).bind fun r2 => if r2 = v2 then ((fS_isCover v0 v3 μ).bind fun r3 => if r3 = 0 then (fS_bestPlan_44 v0 v1 v2 v3 μ) else ((fS_orderOf v0 v3 v1 μ).bind fun r4 => fS_bestPlan_46 v0 v1 v2 v3 r4 μ)) else (fS_bestPlan_44 v0 v1 v2 v3 μ))
theorem fS_bestPlan_L9_ok {d : Nat} {v0 : Nat} {v1 : Int32} {v2 : Int32} {v3 : Int32} {μ : xM} {rv : Option Value} {μf : xM} {out : (Int32) ⊕ ((Int32) ⊕ (Int32))} (h : fS_bestPlan_L9 v0 v1 v2 v3 μ = some out) (hK : fS_bestPlan_K9 v0 v1 v2 μ d rv μf out) : xRun (d + 3) 112 9 [some (.ref v0), some (.int v1), some (.int v2), some (.int v3), none] [] μ rv μf := by
  unfold fS_bestPlan_L9 at h
  refine xr_go 3 (pc' := 12) (lo' := [some (.ref v0), some (.int v1), some (.int v2), some (.int v3), none]) (st' := [.ref v0, .int (xc 1), .int v3]) (μ' := μ) rfl ?_
  obtain ⟨x1, hx1, h⟩ := Option.bind_eq_some_iff.mp h
  refine xr_opI (pc' := 15) (lo' := [some (.ref v0), some (.int v1), some (.int v2), some (.int v3), none]) (st' := [.int (xc 1), .int v3]) (o := ldF μ v0 6 2) rfl hx1 ?_
  refine xr_go 1 (pc' := 16) (lo' := [some (.ref v0), some (.int v1), some (.int v2), some (.int v3), none]) (st' := [.int ((xc 1) <<< (x1 &&& 31)), .int v3]) (μ' := μ) rfl ?_
  refine xr_icmp (pct := 62) rfl rfl rfl (fun hc => ?_) (fun hc => ?_)
  · replace h := (if_pos (of_decide_eq_true hc)).symm.trans h
    refine xr_forget (lo := [some (.ref v0), some (.int v1), some (.int v2), none, none]) ⟨rfl, rfl, rfl, trivial⟩ ?_
    obtain ⟨o, h2, rfl⟩ := Option.map_eq_some_iff.mp h
    exact fS_bestPlan_62_ok h2 hK
  · replace h := (if_neg (of_decide_eq_false hc)).symm.trans h
    refine xr_go 1 (pc' := 20) (lo' := [some (.ref v0), some (.int v1), some (.int v2), some (.int v3), none]) (st' := [.int v3]) (μ' := μ) rfl ?_
    obtain ⟨r2, hr2, h⟩ := Option.bind_eq_some_iff.mp h
    refine xr_callS (j := 221) (d' := (d + 2)) (rv1 := some (.int r2)) (μ1 := μ) (rest := []) (As := [.int v3]) rfl rfl rfl rfl (Nat.le_of_ble_eq_true rfl) rfl (by exact (fJI_bitCount_ok (d := d + (2)) hr2)) ?_
    refine xr_go 1 (pc' := 24) (lo' := [some (.ref v0), some (.int v1), some (.int v2), some (.int v3), none]) (st' := [.int v2, .int r2]) (μ' := μ) rfl ?_
    refine xr_icmp (pct := 44) rfl rfl rfl (fun hc => ?_) (fun hc => ?_)
    · replace h := (if_neg (of_decide_eq_true hc)).symm.trans h
      refine xr_forget (lo := [some (.ref v0), some (.int v1), some (.int v2), some (.int v3), none]) ⟨rfl, rfl, rfl, rfl, trivial⟩ ?_
      exact fS_bestPlan_44_ok h hK
    · replace h := (if_pos (Decidable.of_not_not (of_decide_eq_false hc))).symm.trans h
      refine xr_go 2 (pc' := 29) (lo' := [some (.ref v0), some (.int v1), some (.int v2), some (.int v3), none]) (st' := [.int v3, .ref v0]) (μ' := μ) rfl ?_
      obtain ⟨r3, hr3, h⟩ := Option.bind_eq_some_iff.mp h
      refine xr_callV (j := 104) (d' := (d + 2)) (rv1 := some (.int r3)) (μ1 := μ) (rest := []) (As := [.int v3]) rfl rfl rfl rfl (Nat.le_of_ble_eq_true rfl) (fS_isCover_kd hr3) rfl (by exact (fS_isCover_ok (d := d + (2)) hr3)) ?_
      refine xr_ifc (pct := 44) rfl rfl rfl (fun hc => ?_) (fun hc => ?_)
      · replace h := (if_pos (of_decide_eq_true hc)).symm.trans h
        refine xr_forget (lo := [some (.ref v0), some (.int v1), some (.int v2), some (.int v3), none]) ⟨rfl, rfl, rfl, rfl, trivial⟩ ?_
        exact fS_bestPlan_44_ok h hK
      · replace h := (if_neg (of_decide_eq_false hc)).symm.trans h
        refine xr_go 3 (pc' := 38) (lo' := [some (.ref v0), some (.int v1), some (.int v2), some (.int v3), none]) (st' := [.int v1, .int v3, .ref v0]) (μ' := μ) rfl ?_
        obtain ⟨r4, hr4, h⟩ := Option.bind_eq_some_iff.mp h
        refine xr_callV (j := 113) (d' := (d + 2)) (rv1 := some (.int r4)) (μ1 := μ) (rest := []) (As := [.int v3, .int v1]) rfl rfl rfl rfl (Nat.le_of_ble_eq_true rfl) (fS_orderOf_kd hr4) rfl (by exact (fS_orderOf_ok (d := d + (0)) hr4)) ?_
        refine xr_go 1 (pc' := 46) (lo' := [some (.ref v0), some (.int v1), some (.int v2), some (.int v3), none]) (st' := [.int r4]) (μ' := μ) rfl ?_
        refine xr_forget (lo := [some (.ref v0), some (.int v1), some (.int v2), some (.int v3), none]) ⟨rfl, rfl, rfl, rfl, trivial⟩ ?_
        exact fS_bestPlan_46_ok h hK
theorem fS_bestPlan_L9_lp {d : Nat} {v0 : Nat} {v1 : Int32} {v2 : Int32} {v3 : Int32} {μ : xM} {rv : Option Value} {μf : xM} {out : (Int32) ⊕ (Int32)} (h : xwh (fun s : Int32 => fS_bestPlan_L9 v0 v1 v2 s μ) (v3) = some out) (hK : fS_bestPlan_K2 v0 v1 μ d rv μf out) : xRun (d + 3) 112 9 [some (.ref v0), some (.int v1), some (.int v2), some (.int v3), none] [] μ rv μf :=
  xwh_ind (Rh := fun s : Int32 => xRun (d + 3) 112 9 [some (.ref v0), some (.int v1), some (.int v2), some (.int s), none] [] μ rv μf) (Co := fS_bestPlan_K2 v0 v1 μ d rv μf) (fun s o hb hk => fS_bestPlan_L9_ok hb hk) h hK
noncomputable def fS_bestPlan_L2  (v0 : Nat) (v1 : Int32) (v2 : Int32) (μ : xM) : Option ((Int32) ⊕ (Int32)) := if (xc 3) < v2 then ((fS_bestPlan_68 μ).map (fun o => .inr o)) else (xwh (fun s : Int32 => fS_bestPlan_L9 v0 v1 v2 s μ) (xc 0))
theorem fS_bestPlan_L2_ok {d : Nat} {v0 : Nat} {v1 : Int32} {v2 : Int32} {μ : xM} {rv : Option Value} {μf : xM} {out : (Int32) ⊕ (Int32)} (h : fS_bestPlan_L2 v0 v1 v2 μ = some out) (hK : fS_bestPlan_K2 v0 v1 μ d rv μf out) : xRun (d + 3) 112 2 [some (.ref v0), some (.int v1), some (.int v2), none, none] [] μ rv μf := by
  unfold fS_bestPlan_L2 at h
  refine xr_go 2 (pc' := 4) (lo' := [some (.ref v0), some (.int v1), some (.int v2), none, none]) (st' := [.int (xc 3), .int v2]) (μ' := μ) rfl ?_
  refine xr_icmp (pct := 68) rfl rfl rfl (fun hc => ?_) (fun hc => ?_)
  · replace h := (if_pos (of_decide_eq_true hc)).symm.trans h
    refine xr_forget (lo := [none, none, none, none, none]) trivial ?_
    obtain ⟨o, h2, rfl⟩ := Option.map_eq_some_iff.mp h
    exact fS_bestPlan_68_ok h2 hK
  · replace h := (if_neg (of_decide_eq_false hc)).symm.trans h
    refine xr_go 2 (pc' := 9) (lo' := [some (.ref v0), some (.int v1), some (.int v2), some (.int (xc 0)), none]) (st' := []) (μ' := μ) rfl ?_
    refine xr_forget (lo := [some (.ref v0), some (.int v1), some (.int v2), some (.int (xc 0)), none]) ⟨rfl, rfl, rfl, rfl, trivial⟩ ?_
    exact fS_bestPlan_L9_lp h hK
theorem fS_bestPlan_L2_lp {d : Nat} {v0 : Nat} {v1 : Int32} {v2 : Int32} {μ : xM} {rv : Option Value} {μf : xM} {out : Int32} (h : xwh (fun s : Int32 => fS_bestPlan_L2 v0 v1 s μ) (v2) = some out) (hK : fS_bestPlan_K μ rv μf out) : xRun (d + 3) 112 2 [some (.ref v0), some (.int v1), some (.int v2), none, none] [] μ rv μf :=
  xwh_ind (Rh := fun s : Int32 => xRun (d + 3) 112 2 [some (.ref v0), some (.int v1), some (.int s), none, none] [] μ rv μf) (Co := fS_bestPlan_K μ rv μf) (fun s o hb hk => fS_bestPlan_L2_ok hb hk) h hK
noncomputable def fS_bestPlan_0  (v0 : Nat) (v1 : Int32) (μ : xM) : Option (Int32) := xwh (fun s : Int32 => fS_bestPlan_L2 v0 v1 s μ) (xc 0)
theorem fS_bestPlan_0_ok {d : Nat} {v0 : Nat} {v1 : Int32} {μ : xM} {rv : Option Value} {μf : xM} {out : Int32} (h : fS_bestPlan_0 v0 v1 μ = some out) (hK : fS_bestPlan_K μ rv μf out) : xRun (d + 3) 112 0 [some (.ref v0), some (.int v1), none, none, none] [] μ rv μf := by
  unfold fS_bestPlan_0 at h
  refine xr_go 2 (pc' := 2) (lo' := [some (.ref v0), some (.int v1), some (.int (xc 0)), none, none]) (st' := []) (μ' := μ) rfl ?_
  refine xr_forget (lo := [some (.ref v0), some (.int v1), some (.int (xc 0)), none, none]) ⟨rfl, rfl, rfl, trivial⟩ ?_
  exact fS_bestPlan_L2_lp h hK
noncomputable def fS_bestPlan (a0 : Nat) (a1 : Int32) (μ : xM) : Option (Int32) := xgd μ a0 6 (fS_bestPlan_0 a0 a1 μ)
theorem fS_bestPlan_kd {a0 : Nat} {a1 : Int32} {μ : xM} {o : Int32} (h : fS_bestPlan a0 a1 μ = some o) : (xK μ a0).1 = 10 + 6 := (xgd_some h).1
theorem fS_bestPlan_ok {d : Nat} {a0 : Nat} {a1 : Int32} {μ : xM} {o : Int32} (h : fS_bestPlan a0 a1 μ = some o) : xRun (d + 3) 112 0 [some (.ref a0), some (.int a1), none, none, none] [] μ (some (.int o)) μ :=
  xr_forget (lo := [some (.ref a0), some (.int a1), none, none, none]) (⟨rfl, rfl, trivial⟩) (fS_bestPlan_0_ok (d := d) (xgd_some h).2 (show fS_bestPlan_K μ _ _ o from ⟨rfl, rfl⟩))
-- KeptAnswers.plan(I)I 
def fX_plan_K (rv : Option Value) (μf : xM) : (Int32 × xM) → Prop := fun o => rv = some (.int o.1) ∧ μf = o.2
noncomputable def fX_plan_0  (v0 : Nat) (v1 : Int32) (μ : xM) : Option (Int32 × xM) := (fX_showsRefusal v0 v1 μ).bind fun r1 => if r1.1 = 0 then ((fX_seenThrough v0 v1 r1.2).bind fun r2 => (ldFR r2.2 v0 0 0).bind fun x3 => (ldF r2.2 x3 3 5).bind fun x4 => (fS_bestPlan r2.1 x4 r2.2).bind fun r5 => some ((r5, r2.2))) else ((fX_refuse v0 r1.1 r1.2).bind fun r6 => some ((r6.1, r6.2)))
theorem fX_plan_0_ok {d : Nat} {v0 : Nat} {v1 : Int32} {μ : xM} {rv : Option Value} {μf : xM} {out : Int32 × xM} (h : fX_plan_0 v0 v1 μ = some out) (hK : fX_plan_K rv μf out) : xRun (d + 13) 33 0 [some (.ref v0), some (.int v1), none] [] μ rv μf := by
  unfold fX_plan_0 at h
  refine xr_go 2 (pc' := 2) (lo' := [some (.ref v0), some (.int v1), none]) (st' := [.int v1, .ref v0]) (μ' := μ) rfl ?_
  obtain ⟨r1, hr1, h⟩ := Option.bind_eq_some_iff.mp h
  refine xr_callV (j := 43) (d' := (d + 12)) (rv1 := some (.int r1.1)) (μ1 := r1.2) (rest := []) (As := [.int v1]) rfl rfl rfl rfl (Nat.le_of_ble_eq_true rfl) (fX_showsRefusal_kd hr1) rfl (by exact (fX_showsRefusal_ok (d := d + (0)) hr1)) ?_
  refine xr_go 2 (pc' := 7) (lo' := [some (.ref v0), some (.int v1), some (.int r1.1)]) (st' := [.int r1.1]) (μ' := r1.2) rfl ?_
  refine xr_ifc (pct := 18) rfl rfl rfl (fun hc => ?_) (fun hc => ?_)
  · replace h := (if_pos (of_decide_eq_true hc)).symm.trans h
    refine xr_go 2 (pc' := 20) (lo' := [some (.ref v0), some (.int v1), some (.int r1.1)]) (st' := [.int v1, .ref v0]) (μ' := r1.2) rfl ?_
    obtain ⟨r2, hr2, h⟩ := Option.bind_eq_some_iff.mp h
    refine xr_callV (j := 48) (d' := (d + 12)) (rv1 := some (.ref r2.1)) (μ1 := r2.2) (rest := []) (As := [.int v1]) rfl rfl rfl rfl (Nat.le_of_ble_eq_true rfl) (fX_seenThrough_kd hr2) rfl (by exact (fX_seenThrough_ok (d := d + (1)) hr2)) ?_
    refine xr_go 1 (pc' := 24) (lo' := [some (.ref v0), some (.int v1), some (.int r1.1)]) (st' := [.ref v0, .ref r2.1]) (μ' := r2.2) rfl ?_
    obtain ⟨x3, hx3, h⟩ := Option.bind_eq_some_iff.mp h
    refine xr_opA (pc' := 27) (lo' := [some (.ref v0), some (.int v1), some (.int r1.1)]) (st' := [.ref r2.1]) (o := ldFR r2.2 v0 0 0) rfl hx3 ?_
    obtain ⟨x4, hx4, h⟩ := Option.bind_eq_some_iff.mp h
    refine xr_opI (pc' := 30) (lo' := [some (.ref v0), some (.int v1), some (.int r1.1)]) (st' := [.ref r2.1]) (o := ldF r2.2 x3 3 5) rfl hx4 ?_
    obtain ⟨r5, hr5, h⟩ := Option.bind_eq_some_iff.mp h
    refine xr_callV (j := 112) (d' := (d + 12)) (rv1 := some (.int r5)) (μ1 := r2.2) (rest := []) (As := [.int x4]) rfl rfl rfl rfl (Nat.le_of_ble_eq_true rfl) (fS_bestPlan_kd hr5) rfl (by exact (fS_bestPlan_ok (d := d + (9)) hr5)) ?_
    have ho := Option.some.inj h
    subst ho
    obtain ⟨rfl, rfl⟩ := hK
    exact xr_ret (rv := some (.int r5)) rfl rfl (Or.inl rfl)
  · replace h := (if_neg (of_decide_eq_false hc)).symm.trans h
    refine xr_go 2 (pc' := 12) (lo' := [some (.ref v0), some (.int v1), some (.int r1.1)]) (st' := [.int r1.1, .ref v0]) (μ' := r1.2) rfl ?_
    obtain ⟨r6, hr6, h⟩ := Option.bind_eq_some_iff.mp h
    refine xr_callV (j := 37) (d' := (d + 12)) (rv1 := some (.int r6.1)) (μ1 := r6.2) (rest := []) (As := [.int r1.1]) rfl rfl rfl rfl (Nat.le_of_ble_eq_true rfl) (fX_refuse_kd hr6) rfl (by exact (fX_refuse_ok (d := d + (12)) hr6)) ?_
    refine xr_go 1 (pc' := 33) (lo' := [some (.ref v0), some (.int v1), some (.int r1.1)]) (st' := [.int r6.1]) (μ' := r6.2) rfl ?_
    have ho := Option.some.inj h
    subst ho
    obtain ⟨rfl, rfl⟩ := hK
    exact xr_ret (rv := some (.int r6.1)) rfl rfl (Or.inl rfl)
noncomputable def fX_plan (a0 : Nat) (a1 : Int32) (μ : xM) : Option (Int32 × xM) := xgd μ a0 0 (fX_plan_0 a0 a1 μ)
theorem fX_plan_kd {a0 : Nat} {a1 : Int32} {μ : xM} {o : Int32 × xM} (h : fX_plan a0 a1 μ = some o) : (xK μ a0).1 = 10 + 0 := (xgd_some h).1
theorem fX_plan_ok {d : Nat} {a0 : Nat} {a1 : Int32} {μ : xM} {o : Int32 × xM} (h : fX_plan a0 a1 μ = some o) : xRun (d + 13) 33 0 [some (.ref a0), some (.int a1), none] [] μ (some (.int o.1)) o.2 :=
  xr_forget (lo := [some (.ref a0), some (.int a1), none]) (⟨rfl, rfl, trivial⟩) (fX_plan_0_ok (d := d) (xgd_some h).2 (show fX_plan_K _ _ o from ⟨rfl, rfl⟩))
-- KeptAnswersModel.orderOf(I)I 
def fM_orderOf_K (μ : xM) (rv : Option Value) (μf : xM) : (Int32) → Prop := fun o => rv = some (.int o) ∧ μf = μ
def fM_orderOf_K7 (v0 : Nat) (v1 : Int32) (μ : xM) (d : Nat) (rv : Option Value) (μf : xM) : ((Int32 × Int32 × Int32) ⊕ (Int32)) → Prop := Sum.elim (fun s : Int32 × Int32 × Int32 => xRun (d + 2) 214 7 [some (.ref v0), some (.int v1), some (.int s.1), some (.int s.2.1), some (.int s.2.2), none, none, none, none] [] μ rv μf) (fM_orderOf_K μ rv μf)
def fM_orderOf_K23 (v0 : Nat) (v1 : Int32) (v2 : Int32) (v3 : Int32) (v4 : Int32) (μ : xM) (d : Nat) (rv : Option Value) (μf : xM) : ((Int32 × Int32) ⊕ ((Int32 × Int32 × Int32) ⊕ (Int32))) → Prop := Sum.elim (fun s : Int32 × Int32 => xRun (d + 2) 214 23 [some (.ref v0), some (.int v1), some (.int v2), some (.int v3), some (.int v4), some (.int s.1), some (.int s.2), none, none] [] μ rv μf) (fM_orderOf_K7 v0 v1 μ d rv μf)
noncomputable def fM_orderOf_150  (v3 : Int32) (μ : xM) : Option (Int32) := some v3
theorem fM_orderOf_150_ok {d : Nat} {v3 : Int32} {μ : xM} {rv : Option Value} {μf : xM} {out : Int32} (h : fM_orderOf_150 v3 μ = some out) (hK : fM_orderOf_K μ rv μf out) : xRun (d + 2) 214 150 [none, none, none, some (.int v3), none, none, none, none, none] [] μ rv μf := by
  unfold fM_orderOf_150 at h
  refine xr_go 1 (pc' := 151) (lo' := [none, none, none, some (.int v3), none, none, none, none, none]) (st' := [.int v3]) (μ' := μ) rfl ?_
  have ho := Option.some.inj h
  subst ho
  obtain ⟨rfl, rfl⟩ := hK
  exact xr_ret (rv := some (.int v3)) rfl rfl (Or.inl rfl)
noncomputable def fM_orderOf_121  (μ : xM) : Option (Int32) := some (xc (-1))
theorem fM_orderOf_121_ok {d : Nat} {μ : xM} {rv : Option Value} {μf : xM} {out : Int32} (h : fM_orderOf_121 μ = some out) (hK : fM_orderOf_K μ rv μf out) : xRun (d + 2) 214 121 [none, none, none, none, none, none, none, none, none] [] μ rv μf := by
  unfold fM_orderOf_121 at h
  refine xr_go 1 (pc' := 122) (lo' := [none, none, none, none, none, none, none, none, none]) (st' := [.int (xc (-1))]) (μ' := μ) rfl ?_
  have ho := Option.some.inj h
  subst ho
  obtain ⟨rfl, rfl⟩ := hK
  exact xr_ret (rv := some (.int (xc (-1)))) rfl rfl (Or.inl rfl)
noncomputable def fM_orderOf_116  (v0 : Nat) (v1 : Int32) (v2 : Int32) (v3 : Int32) (v4 : Int32) (v5 : Int32) (μ : xM) : Option ((Int32 × Int32 × Int32) ⊕ (Int32)) := if 0 ≤ v5 then (some (.inl ((v2 ||| ((xc 1) <<< (v5 &&& 31)), v3 + (v4 * (v5 + (xc 1))), v4 * (xc 13))))) else ((fM_orderOf_121 μ).map (fun o => .inr o))
theorem fM_orderOf_116_ok {d : Nat} {v0 : Nat} {v1 : Int32} {v2 : Int32} {v3 : Int32} {v4 : Int32} {v5 : Int32} {μ : xM} {rv : Option Value} {μf : xM} {out : (Int32 × Int32 × Int32) ⊕ (Int32)} (h : fM_orderOf_116 v0 v1 v2 v3 v4 v5 μ = some out) (hK : fM_orderOf_K7 v0 v1 μ d rv μf out) : xRun (d + 2) 214 116 [some (.ref v0), some (.int v1), some (.int v2), some (.int v3), some (.int v4), some (.int v5), none, none, none] [] μ rv μf := by
  unfold fM_orderOf_116 at h
  refine xr_go 1 (pc' := 118) (lo' := [some (.ref v0), some (.int v1), some (.int v2), some (.int v3), some (.int v4), some (.int v5), none, none, none]) (st' := [.int v5]) (μ' := μ) rfl ?_
  refine xr_ifc (pct := 123) rfl rfl rfl (fun hc => ?_) (fun hc => ?_)
  · replace h := (if_pos (of_decide_eq_true hc)).symm.trans h
    refine xr_go 19 (pc' := 7) (lo' := [some (.ref v0), some (.int v1), some (.int (v2 ||| ((xc 1) <<< (v5 &&& 31)))), some (.int (v3 + (v4 * (v5 + (xc 1))))), some (.int (v4 * (xc 13))), some (.int v5), none, none, none]) (st' := []) (μ' := μ) rfl ?_
    refine xr_forget (lo := [some (.ref v0), some (.int v1), some (.int (v2 ||| ((xc 1) <<< (v5 &&& 31)))), some (.int (v3 + (v4 * (v5 + (xc 1))))), some (.int (v4 * (xc 13))), none, none, none, none]) ⟨rfl, rfl, rfl, rfl, rfl, trivial⟩ ?_
    have ho := Option.some.inj h
    subst ho
    exact hK
  · replace h := (if_neg (of_decide_eq_false hc)).symm.trans h
    refine xr_forget (lo := [none, none, none, none, none, none, none, none, none]) trivial ?_
    obtain ⟨o, h2, rfl⟩ := Option.map_eq_some_iff.mp h
    exact fM_orderOf_121_ok h2 hK
noncomputable def fM_orderOf_108  (v0 : Nat) (v1 : Int32) (v2 : Int32) (v3 : Int32) (v4 : Int32) (v6 : Int32) (s0 : Int32) (μ : xM) : Option ((Int32 × Int32) ⊕ ((Int32 × Int32 × Int32) ⊕ (Int32))) := some (.inl ((s0, v6 + xc (-1))))
theorem fM_orderOf_108_ok {d : Nat} {v0 : Nat} {v1 : Int32} {v2 : Int32} {v3 : Int32} {v4 : Int32} {v6 : Int32} {s0 : Int32} {μ : xM} {rv : Option Value} {μf : xM} {out : (Int32 × Int32) ⊕ ((Int32 × Int32 × Int32) ⊕ (Int32))} (h : fM_orderOf_108 v0 v1 v2 v3 v4 v6 s0 μ = some out) (hK : fM_orderOf_K23 v0 v1 v2 v3 v4 μ d rv μf out) : xRun (d + 2) 214 108 [some (.ref v0), some (.int v1), some (.int v2), some (.int v3), some (.int v4), none, some (.int v6), none, none] [.int s0] μ rv μf := by
  unfold fM_orderOf_108 at h
  refine xr_go 3 (pc' := 23) (lo' := [some (.ref v0), some (.int v1), some (.int v2), some (.int v3), some (.int v4), some (.int s0), some (.int (v6 + xc (-1))), none, none]) (st' := []) (μ' := μ) rfl ?_
  refine xr_forget (lo := [some (.ref v0), some (.int v1), some (.int v2), some (.int v3), some (.int v4), some (.int s0), some (.int (v6 + xc (-1))), none, none]) ⟨rfl, rfl, rfl, rfl, rfl, rfl, rfl, trivial⟩ ?_
  have ho := Option.some.inj h
  subst ho
  exact hK
noncomputable def fM_orderOf_106  (v0 : Nat) (v1 : Int32) (v2 : Int32) (v3 : Int32) (v4 : Int32) (v5 : Int32) (v6 : Int32) (μ : xM) : Option ((Int32 × Int32) ⊕ ((Int32 × Int32 × Int32) ⊕ (Int32))) := fM_orderOf_108 v0 v1 v2 v3 v4 v6 v5 μ
theorem fM_orderOf_106_ok {d : Nat} {v0 : Nat} {v1 : Int32} {v2 : Int32} {v3 : Int32} {v4 : Int32} {v5 : Int32} {v6 : Int32} {μ : xM} {rv : Option Value} {μf : xM} {out : (Int32 × Int32) ⊕ ((Int32 × Int32 × Int32) ⊕ (Int32))} (h : fM_orderOf_106 v0 v1 v2 v3 v4 v5 v6 μ = some out) (hK : fM_orderOf_K23 v0 v1 v2 v3 v4 μ d rv μf out) : xRun (d + 2) 214 106 [some (.ref v0), some (.int v1), some (.int v2), some (.int v3), some (.int v4), some (.int v5), some (.int v6), none, none] [] μ rv μf := by
  unfold fM_orderOf_106 at h
  refine xr_go 1 (pc' := 108) (lo' := [some (.ref v0), some (.int v1), some (.int v2), some (.int v3), some (.int v4), some (.int v5), some (.int v6), none, none]) (st' := [.int v5]) (μ' := μ) rfl ?_
  refine xr_forget (lo := [some (.ref v0), some (.int v1), some (.int v2), some (.int v3), some (.int v4), none, some (.int v6), none, none]) ⟨rfl, rfl, rfl, rfl, rfl, rfl, trivial⟩ ?_
  exact fM_orderOf_108_ok h hK
noncomputable def fM_orderOf_89  (v0 : Nat) (v1 : Int32) (v2 : Int32) (v3 : Int32) (v4 : Int32) (v5 : Int32) (v6 : Int32) (v7 : Int32) (s0 : Int32) (μ : xM) : Option ((Int32 × Int32) ⊕ ((Int32 × Int32 × Int32) ⊕ (Int32))) := if v7 = 0 then (fM_orderOf_106 v0 v1 v2 v3 v4 v5 v6 μ) else (if s0 = 0 then (fM_orderOf_106 v0 v1 v2 v3 v4 v5 v6 μ) else (fM_orderOf_108 v0 v1 v2 v3 v4 v6 v6 μ))
theorem fM_orderOf_89_ok {d : Nat} {v0 : Nat} {v1 : Int32} {v2 : Int32} {v3 : Int32} {v4 : Int32} {v5 : Int32} {v6 : Int32} {v7 : Int32} {s0 : Int32} {μ : xM} {rv : Option Value} {μf : xM} {out : (Int32 × Int32) ⊕ ((Int32 × Int32 × Int32) ⊕ (Int32))} (h : fM_orderOf_89 v0 v1 v2 v3 v4 v5 v6 v7 s0 μ = some out) (hK : fM_orderOf_K23 v0 v1 v2 v3 v4 μ d rv μf out) : xRun (d + 2) 214 89 [some (.ref v0), some (.int v1), some (.int v2), some (.int v3), some (.int v4), some (.int v5), some (.int v6), some (.int v7), none] [.int s0] μ rv μf := by
  unfold fM_orderOf_89 at h
  refine xr_go 2 (pc' := 93) (lo' := [some (.ref v0), some (.int v1), some (.int v2), some (.int v3), some (.int v4), some (.int v5), some (.int v6), some (.int v7), some (.int s0)]) (st' := [.int v7]) (μ' := μ) rfl ?_
  refine xr_ifc (pct := 106) rfl rfl rfl (fun hc => ?_) (fun hc => ?_)
  · replace h := (if_pos (of_decide_eq_true hc)).symm.trans h
    refine xr_forget (lo := [some (.ref v0), some (.int v1), some (.int v2), some (.int v3), some (.int v4), some (.int v5), some (.int v6), none, none]) ⟨rfl, rfl, rfl, rfl, rfl, rfl, rfl, trivial⟩ ?_
    exact fM_orderOf_106_ok h hK
  · replace h := (if_neg (of_decide_eq_false hc)).symm.trans h
    refine xr_go 1 (pc' := 98) (lo' := [some (.ref v0), some (.int v1), some (.int v2), some (.int v3), some (.int v4), some (.int v5), some (.int v6), some (.int v7), some (.int s0)]) (st' := [.int s0]) (μ' := μ) rfl ?_
    refine xr_ifc (pct := 106) rfl rfl rfl (fun hc => ?_) (fun hc => ?_)
    · replace h := (if_pos (of_decide_eq_true hc)).symm.trans h
      refine xr_forget (lo := [some (.ref v0), some (.int v1), some (.int v2), some (.int v3), some (.int v4), some (.int v5), some (.int v6), none, none]) ⟨rfl, rfl, rfl, rfl, rfl, rfl, rfl, trivial⟩ ?_
      exact fM_orderOf_106_ok h hK
    · replace h := (if_neg (of_decide_eq_false hc)).symm.trans h
      refine xr_go 2 (pc' := 108) (lo' := [some (.ref v0), some (.int v1), some (.int v2), some (.int v3), some (.int v4), some (.int v5), some (.int v6), some (.int v7), some (.int s0)]) (st' := [.int v6]) (μ' := μ) rfl ?_
      refine xr_forget (lo := [some (.ref v0), some (.int v1), some (.int v2), some (.int v3), some (.int v4), none, some (.int v6), none, none]) ⟨rfl, rfl, rfl, rfl, rfl, rfl, trivial⟩ ?_
      exact fM_orderOf_108_ok h hK
noncomputable def fM_orderOf_84  (v0 : Nat) (v1 : Int32) (v2 : Int32) (v3 : Int32) (v4 : Int32) (v5 : Int32) (v6 : Int32) (v7 : Int32) (μ : xM) : Option ((Int32 × Int32) ⊕ ((Int32 × Int32 × Int32) ⊕ (Int32))) := fM_orderOf_89 v0 v1 v2 v3 v4 v5 v6 v7 (xc 1) μ
theorem fM_orderOf_84_ok {d : Nat} {v0 : Nat} {v1 : Int32} {v2 : Int32} {v3 : Int32} {v4 : Int32} {v5 : Int32} {v6 : Int32} {v7 : Int32} {μ : xM} {rv : Option Value} {μf : xM} {out : (Int32 × Int32) ⊕ ((Int32 × Int32 × Int32) ⊕ (Int32))} (h : fM_orderOf_84 v0 v1 v2 v3 v4 v5 v6 v7 μ = some out) (hK : fM_orderOf_K23 v0 v1 v2 v3 v4 μ d rv μf out) : xRun (d + 2) 214 84 [some (.ref v0), some (.int v1), some (.int v2), some (.int v3), some (.int v4), some (.int v5), some (.int v6), some (.int v7), none] [] μ rv μf := by
  unfold fM_orderOf_84 at h
  refine xr_go 2 (pc' := 89) (lo' := [some (.ref v0), some (.int v1), some (.int v2), some (.int v3), some (.int v4), some (.int v5), some (.int v6), some (.int v7), none]) (st' := [.int (xc 1)]) (μ' := μ) rfl ?_
  refine xr_forget (lo := [some (.ref v0), some (.int v1), some (.int v2), some (.int v3), some (.int v4), some (.int v5), some (.int v6), some (.int v7), none]) ⟨rfl, rfl, rfl, rfl, rfl, rfl, rfl, rfl, trivial⟩ ?_
  exact fM_orderOf_89_ok h hK
noncomputable def fM_orderOf_52  (v0 : Nat) (v1 : Int32) (v2 : Int32) (v3 : Int32) (v4 : Int32) (v5 : Int32) (v6 : Int32) (s0 : Int32) (μ : xM) : Option ((Int32 × Int32) ⊕ ((Int32 × Int32 × Int32) ⊕ (Int32))) := (ldFR μ v0 9 22).bind fun x1 => (ldFR μ v0 9 41).bind fun x2 => (ldA μ x2 v6).bind fun x3 => (ldAZ μ x1 x3).bind fun x4 => if x4 = 0 then (fM_orderOf_84 v0 v1 v2 v3 v4 v5 v6 s0 μ) else ((fM_termOf v0 v6 (xc 0) μ).bind fun r5 => (fM_isShown v0 v2 r5 μ).bind fun r6 => if r6 = 0 then (fM_orderOf_89 v0 v1 v2 v3 v4 v5 v6 s0 (xc 0) μ) else (fM_orderOf_84 v0 v1 v2 v3 v4 v5 v6 s0 μ))
theorem fM_orderOf_52_ok {d : Nat} {v0 : Nat} {v1 : Int32} {v2 : Int32} {v3 : Int32} {v4 : Int32} {v5 : Int32} {v6 : Int32} {s0 : Int32} {μ : xM} {rv : Option Value} {μf : xM} {out : (Int32 × Int32) ⊕ ((Int32 × Int32 × Int32) ⊕ (Int32))} (h : fM_orderOf_52 v0 v1 v2 v3 v4 v5 v6 s0 μ = some out) (hK : fM_orderOf_K23 v0 v1 v2 v3 v4 μ d rv μf out) : xRun (d + 2) 214 52 [some (.ref v0), some (.int v1), some (.int v2), some (.int v3), some (.int v4), some (.int v5), some (.int v6), none, none] [.int s0] μ rv μf := by
  unfold fM_orderOf_52 at h
  refine xr_go 2 (pc' := 55) (lo' := [some (.ref v0), some (.int v1), some (.int v2), some (.int v3), some (.int v4), some (.int v5), some (.int v6), some (.int s0), none]) (st' := [.ref v0]) (μ' := μ) rfl ?_
  obtain ⟨x1, hx1, h⟩ := Option.bind_eq_some_iff.mp h
  refine xr_opA (pc' := 58) (lo' := [some (.ref v0), some (.int v1), some (.int v2), some (.int v3), some (.int v4), some (.int v5), some (.int v6), some (.int s0), none]) (st' := []) (o := ldFR μ v0 9 22) rfl hx1 ?_
  refine xr_go 1 (pc' := 59) (lo' := [some (.ref v0), some (.int v1), some (.int v2), some (.int v3), some (.int v4), some (.int v5), some (.int v6), some (.int s0), none]) (st' := [.ref v0, .ref x1]) (μ' := μ) rfl ?_
  obtain ⟨x2, hx2, h⟩ := Option.bind_eq_some_iff.mp h
  refine xr_opA (pc' := 62) (lo' := [some (.ref v0), some (.int v1), some (.int v2), some (.int v3), some (.int v4), some (.int v5), some (.int v6), some (.int s0), none]) (st' := [.ref x1]) (o := ldFR μ v0 9 41) rfl hx2 ?_
  refine xr_go 1 (pc' := 64) (lo' := [some (.ref v0), some (.int v1), some (.int v2), some (.int v3), some (.int v4), some (.int v5), some (.int v6), some (.int s0), none]) (st' := [.int v6, .ref x2, .ref x1]) (μ' := μ) rfl ?_
  obtain ⟨x3, hx3, h⟩ := Option.bind_eq_some_iff.mp h
  refine xr_opI (pc' := 65) (lo' := [some (.ref v0), some (.int v1), some (.int v2), some (.int v3), some (.int v4), some (.int v5), some (.int v6), some (.int s0), none]) (st' := [.ref x1]) (o := ldA μ x2 v6) rfl hx3 ?_
  obtain ⟨x4, hx4, h⟩ := Option.bind_eq_some_iff.mp h
  refine xr_opI (pc' := 66) (lo' := [some (.ref v0), some (.int v1), some (.int v2), some (.int v3), some (.int v4), some (.int v5), some (.int v6), some (.int s0), none]) (st' := []) (o := ldAZ μ x1 x3) rfl hx4 ?_
  refine xr_ifc (pct := 84) rfl rfl rfl (fun hc => ?_) (fun hc => ?_)
  · replace h := (if_pos (of_decide_eq_true hc)).symm.trans h
    refine xr_forget (lo := [some (.ref v0), some (.int v1), some (.int v2), some (.int v3), some (.int v4), some (.int v5), some (.int v6), some (.int s0), none]) ⟨rfl, rfl, rfl, rfl, rfl, rfl, rfl, rfl, trivial⟩ ?_
    exact fM_orderOf_84_ok h hK
  · replace h := (if_neg (of_decide_eq_false hc)).symm.trans h
    refine xr_go 5 (pc' := 75) (lo' := [some (.ref v0), some (.int v1), some (.int v2), some (.int v3), some (.int v4), some (.int v5), some (.int v6), some (.int s0), none]) (st' := [.int (xc 0), .int v6, .ref v0, .int v2, .ref v0]) (μ' := μ) rfl ?_
    obtain ⟨r5, hr5, h⟩ := Option.bind_eq_some_iff.mp h
    refine xr_callV (j := 181) (d' := (d + 1)) (rv1 := some (.int r5)) (μ1 := μ) (rest := [.int v2, .ref v0]) (As := [.int v6, .int (xc 0)]) rfl rfl rfl rfl (Nat.le_of_ble_eq_true rfl) (fM_termOf_kd hr5) rfl (by exact (fM_termOf_ok (d := d + (1)) hr5)) ?_
    obtain ⟨r6, hr6, h⟩ := Option.bind_eq_some_iff.mp h
    refine xr_callV (j := 186) (d' := (d + 1)) (rv1 := some (.int r6)) (μ1 := μ) (rest := []) (As := [.int v2, .int r5]) rfl rfl rfl rfl (Nat.le_of_ble_eq_true rfl) (fM_isShown_kd hr6) rfl (by exact (fM_isShown_ok (d := d + (0)) hr6)) ?_
    refine xr_ifc (pct := 88) rfl rfl rfl (fun hc => ?_) (fun hc => ?_)
    · replace h := (if_pos (of_decide_eq_true hc)).symm.trans h
      refine xr_go 1 (pc' := 89) (lo' := [some (.ref v0), some (.int v1), some (.int v2), some (.int v3), some (.int v4), some (.int v5), some (.int v6), some (.int s0), none]) (st' := [.int (xc 0)]) (μ' := μ) rfl ?_
      refine xr_forget (lo := [some (.ref v0), some (.int v1), some (.int v2), some (.int v3), some (.int v4), some (.int v5), some (.int v6), some (.int s0), none]) ⟨rfl, rfl, rfl, rfl, rfl, rfl, rfl, rfl, trivial⟩ ?_
      exact fM_orderOf_89_ok h hK
    · replace h := (if_neg (of_decide_eq_false hc)).symm.trans h
      refine xr_forget (lo := [some (.ref v0), some (.int v1), some (.int v2), some (.int v3), some (.int v4), some (.int v5), some (.int v6), some (.int s0), none]) ⟨rfl, rfl, rfl, rfl, rfl, rfl, rfl, rfl, trivial⟩ ?_
      exact fM_orderOf_84_ok h hK
noncomputable def fM_orderOf_51  (v0 : Nat) (v1 : Int32) (v2 : Int32) (v3 : Int32) (v4 : Int32) (v5 : Int32) (v6 : Int32) (μ : xM) : Option ((Int32 × Int32) ⊕ ((Int32 × Int32 × Int32) ⊕ (Int32))) := fM_orderOf_52 v0 v1 v2 v3 v4 v5 v6 (xc 0) μ
theorem fM_orderOf_51_ok {d : Nat} {v0 : Nat} {v1 : Int32} {v2 : Int32} {v3 : Int32} {v4 : Int32} {v5 : Int32} {v6 : Int32} {μ : xM} {rv : Option Value} {μf : xM} {out : (Int32 × Int32) ⊕ ((Int32 × Int32 × Int32) ⊕ (Int32))} (h : fM_orderOf_51 v0 v1 v2 v3 v4 v5 v6 μ = some out) (hK : fM_orderOf_K23 v0 v1 v2 v3 v4 μ d rv μf out) : xRun (d + 2) 214 51 [some (.ref v0), some (.int v1), some (.int v2), some (.int v3), some (.int v4), some (.int v5), some (.int v6), none, none] [] μ rv μf := by
  unfold fM_orderOf_51 at h
  refine xr_go 1 (pc' := 52) (lo' := [some (.ref v0), some (.int v1), some (.int v2), some (.int v3), some (.int v4), some (.int v5), some (.int v6), none, none]) (st' := [.int (xc 0)]) (μ' := μ) rfl ?_
  refine xr_forget (lo := [some (.ref v0), some (.int v1), some (.int v2), some (.int v3), some (.int v4), some (.int v5), some (.int v6), none, none]) ⟨rfl, rfl, rfl, rfl, rfl, rfl, rfl, trivial⟩ ?_
  exact fM_orderOf_52_ok h hK
noncomputable def fM_orderOf_L23  (v0 : Nat) (v1 : Int32) (v2 : Int32) (v3 : Int32) (v4 : Int32) (v5 : Int32) (v6 : Int32) (μ : xM) : Option ((Int32 × Int32) ⊕ ((Int32 × Int32 × Int32) ⊕ (Int32))) := if v6 < 0 then ((fM_orderOf_116 v0 v1 v2 v3 v4 v5 μ).map (fun o => .inr o)) else (if ((v1 >>> (v6 &&& 31)) &&& (xc 1)) = (xc 1) then (if ((v2 >>> (v6 &&& 31)) &&& (xc 1)) = 0 then (fM_orderOf_52 v0 v1 v2 v3 v4 v5 v6 (xc 1) μ) else (fM_orderOf_51 v0 v1 v2 v3 v4 v5 v6 μ)) else (fM_orderOf_51 v0 v1 v2 v3 v4 v5 v6 μ))
theorem fM_orderOf_L23_ok {d : Nat} {v0 : Nat} {v1 : Int32} {v2 : Int32} {v3 : Int32} {v4 : Int32} {v5 : Int32} {v6 : Int32} {μ : xM} {rv : Option Value} {μf : xM} {out : (Int32 × Int32) ⊕ ((Int32 × Int32 × Int32) ⊕ (Int32))} (h : fM_orderOf_L23 v0 v1 v2 v3 v4 v5 v6 μ = some out) (hK : fM_orderOf_K23 v0 v1 v2 v3 v4 μ d rv μf out) : xRun (d + 2) 214 23 [some (.ref v0), some (.int v1), some (.int v2), some (.int v3), some (.int v4), some (.int v5), some (.int v6), none, none] [] μ rv μf := by
  unfold fM_orderOf_L23 at h
  refine xr_go 1 (pc' := 25) (lo' := [some (.ref v0), some (.int v1), some (.int v2), some (.int v3), some (.int v4), some (.int v5), some (.int v6), none, none]) (st' := [.int v6]) (μ' := μ) rfl ?_
  refine xr_ifc (pct := 116) rfl rfl rfl (fun hc => ?_) (fun hc => ?_)
  · replace h := (if_pos (of_decide_eq_true hc)).symm.trans h
    refine xr_forget (lo := [some (.ref v0), some (.int v1), some (.int v2), some (.int v3), some (.int v4), some (.int v5), none, none, none]) ⟨rfl, rfl, rfl, rfl, rfl, rfl, trivial⟩ ?_
    obtain ⟨o, h2, rfl⟩ := Option.map_eq_some_iff.mp h
    exact fM_orderOf_116_ok h2 hK
  · replace h := (if_neg (of_decide_eq_false hc)).symm.trans h
    refine xr_go 6 (pc' := 35) (lo' := [some (.ref v0), some (.int v1), some (.int v2), some (.int v3), some (.int v4), some (.int v5), some (.int v6), none, none]) (st' := [.int (xc 1), .int ((v1 >>> (v6 &&& 31)) &&& (xc 1))]) (μ' := μ) rfl ?_
    refine xr_icmp (pct := 51) rfl rfl rfl (fun hc => ?_) (fun hc => ?_)
    · replace h := (if_neg (of_decide_eq_true hc)).symm.trans h
      refine xr_forget (lo := [some (.ref v0), some (.int v1), some (.int v2), some (.int v3), some (.int v4), some (.int v5), some (.int v6), none, none]) ⟨rfl, rfl, rfl, rfl, rfl, rfl, rfl, trivial⟩ ?_
      exact fM_orderOf_51_ok h hK
    · replace h := (if_pos (Decidable.of_not_not (of_decide_eq_false hc))).symm.trans h
      refine xr_go 5 (pc' := 44) (lo' := [some (.ref v0), some (.int v1), some (.int v2), some (.int v3), some (.int v4), some (.int v5), some (.int v6), none, none]) (st' := [.int ((v2 >>> (v6 &&& 31)) &&& (xc 1))]) (μ' := μ) rfl ?_
      refine xr_ifc (pct := 51) rfl rfl rfl (fun hc => ?_) (fun hc => ?_)
      · replace h := (if_neg (of_decide_eq_true hc)).symm.trans h
        refine xr_forget (lo := [some (.ref v0), some (.int v1), some (.int v2), some (.int v3), some (.int v4), some (.int v5), some (.int v6), none, none]) ⟨rfl, rfl, rfl, rfl, rfl, rfl, rfl, trivial⟩ ?_
        exact fM_orderOf_51_ok h hK
      · replace h := (if_pos (Decidable.of_not_not (of_decide_eq_false hc))).symm.trans h
        refine xr_go 2 (pc' := 52) (lo' := [some (.ref v0), some (.int v1), some (.int v2), some (.int v3), some (.int v4), some (.int v5), some (.int v6), none, none]) (st' := [.int (xc 1)]) (μ' := μ) rfl ?_
        refine xr_forget (lo := [some (.ref v0), some (.int v1), some (.int v2), some (.int v3), some (.int v4), some (.int v5), some (.int v6), none, none]) ⟨rfl, rfl, rfl, rfl, rfl, rfl, rfl, trivial⟩ ?_
        exact fM_orderOf_52_ok h hK
theorem fM_orderOf_L23_lp {d : Nat} {v0 : Nat} {v1 : Int32} {v2 : Int32} {v3 : Int32} {v4 : Int32} {v5 : Int32} {v6 : Int32} {μ : xM} {rv : Option Value} {μf : xM} {out : (Int32 × Int32 × Int32) ⊕ (Int32)} (h : xwh (fun s : Int32 × Int32 => fM_orderOf_L23 v0 v1 v2 v3 v4 s.1 s.2 μ) (v5, v6) = some out) (hK : fM_orderOf_K7 v0 v1 μ d rv μf out) : xRun (d + 2) 214 23 [some (.ref v0), some (.int v1), some (.int v2), some (.int v3), some (.int v4), some (.int v5), some (.int v6), none, none] [] μ rv μf :=
  xwh_ind (Rh := fun s : Int32 × Int32 => xRun (d + 2) 214 23 [some (.ref v0), some (.int v1), some (.int v2), some (.int v3), some (.int v4), some (.int s.1), some (.int s.2), none, none] [] μ rv μf) (Co := fM_orderOf_K7 v0 v1 μ d rv μf) (fun s o hb hk => fM_orderOf_L23_ok hb hk) h hK
noncomputable def fM_orderOf_L7  (v0 : Nat) (v1 : Int32) (v2 : Int32) (v3 : Int32) (v4 : Int32) (μ : xM) : Option ((Int32 × Int32 × Int32) ⊕ (Int32)) := if v2 = v1 then ((fM_orderOf_150 v3 μ).map (fun o => .inr o)) else ((ldF μ v0 9 39).bind fun x7 => xwh (fun s : Int32 × Int32 => fM_orderOf_L23 v0 v1 v2 v3 v4 s.1 s.2 μ) (xc (-1), x7 - (xc 1)))
theorem fM_orderOf_L7_ok {d : Nat} {v0 : Nat} {v1 : Int32} {v2 : Int32} {v3 : Int32} {v4 : Int32} {μ : xM} {rv : Option Value} {μf : xM} {out : (Int32 × Int32 × Int32) ⊕ (Int32)} (h : fM_orderOf_L7 v0 v1 v2 v3 v4 μ = some out) (hK : fM_orderOf_K7 v0 v1 μ d rv μf out) : xRun (d + 2) 214 7 [some (.ref v0), some (.int v1), some (.int v2), some (.int v3), some (.int v4), none, none, none, none] [] μ rv μf := by
  unfold fM_orderOf_L7 at h
  refine xr_go 2 (pc' := 9) (lo' := [some (.ref v0), some (.int v1), some (.int v2), some (.int v3), some (.int v4), none, none, none, none]) (st' := [.int v1, .int v2]) (μ' := μ) rfl ?_
  refine xr_icmp (pct := 150) rfl rfl rfl (fun hc => ?_) (fun hc => ?_)
  · replace h := (if_pos (of_decide_eq_true hc)).symm.trans h
    refine xr_forget (lo := [none, none, none, some (.int v3), none, none, none, none, none]) ⟨rfl, trivial⟩ ?_
    obtain ⟨o, h2, rfl⟩ := Option.map_eq_some_iff.mp h
    exact fM_orderOf_150_ok h2 hK
  · replace h := (if_neg (of_decide_eq_false hc)).symm.trans h
    refine xr_go 3 (pc' := 16) (lo' := [some (.ref v0), some (.int v1), some (.int v2), some (.int v3), some (.int v4), some (.int (xc (-1))), none, none, none]) (st' := [.ref v0]) (μ' := μ) rfl ?_
    obtain ⟨x7, hx7, h⟩ := Option.bind_eq_some_iff.mp h
    refine xr_opI (pc' := 19) (lo' := [some (.ref v0), some (.int v1), some (.int v2), some (.int v3), some (.int v4), some (.int (xc (-1))), none, none, none]) (st' := []) (o := ldF μ v0 9 39) rfl hx7 ?_
    refine xr_go 3 (pc' := 23) (lo' := [some (.ref v0), some (.int v1), some (.int v2), some (.int v3), some (.int v4), some (.int (xc (-1))), some (.int (x7 - (xc 1))), none, none]) (st' := []) (μ' := μ) rfl ?_
    refine xr_forget (lo := [some (.ref v0), some (.int v1), some (.int v2), some (.int v3), some (.int v4), some (.int (xc (-1))), some (.int (x7 - (xc 1))), none, none]) ⟨rfl, rfl, rfl, rfl, rfl, rfl, rfl, trivial⟩ ?_
    exact fM_orderOf_L23_lp h hK
theorem fM_orderOf_L7_lp {d : Nat} {v0 : Nat} {v1 : Int32} {v2 : Int32} {v3 : Int32} {v4 : Int32} {μ : xM} {rv : Option Value} {μf : xM} {out : Int32} (h : xwh (fun s : Int32 × Int32 × Int32 => fM_orderOf_L7 v0 v1 s.1 s.2.1 s.2.2 μ) (v2, v3, v4) = some out) (hK : fM_orderOf_K μ rv μf out) : xRun (d + 2) 214 7 [some (.ref v0), some (.int v1), some (.int v2), some (.int v3), some (.int v4), none, none, none, none] [] μ rv μf :=
  xwh_ind (Rh := fun s : Int32 × Int32 × Int32 => xRun (d + 2) 214 7 [some (.ref v0), some (.int v1), some (.int s.1), some (.int s.2.1), some (.int s.2.2), none, none, none, none] [] μ rv μf) (Co := fM_orderOf_K μ rv μf) (fun s o hb hk => fM_orderOf_L7_ok hb hk) h hK
noncomputable def fM_orderOf_0  (v0 : Nat) (v1 : Int32) (μ : xM) : Option (Int32) := xwh (fun s : Int32 × Int32 × Int32 => fM_orderOf_L7 v0 v1 s.1 s.2.1 s.2.2 μ) (xc 0, xc 0, xc 1)
theorem fM_orderOf_0_ok {d : Nat} {v0 : Nat} {v1 : Int32} {μ : xM} {rv : Option Value} {μf : xM} {out : Int32} (h : fM_orderOf_0 v0 v1 μ = some out) (hK : fM_orderOf_K μ rv μf out) : xRun (d + 2) 214 0 [some (.ref v0), some (.int v1), none, none, none, none, none, none, none] [] μ rv μf := by
  unfold fM_orderOf_0 at h
  refine xr_go 6 (pc' := 7) (lo' := [some (.ref v0), some (.int v1), some (.int (xc 0)), some (.int (xc 0)), some (.int (xc 1)), none, none, none, none]) (st' := []) (μ' := μ) rfl ?_
  refine xr_forget (lo := [some (.ref v0), some (.int v1), some (.int (xc 0)), some (.int (xc 0)), some (.int (xc 1)), none, none, none, none]) ⟨rfl, rfl, rfl, rfl, rfl, trivial⟩ ?_
  exact fM_orderOf_L7_lp h hK
noncomputable def fM_orderOf (a0 : Nat) (a1 : Int32) (μ : xM) : Option (Int32) := xgd μ a0 9 (fM_orderOf_0 a0 a1 μ)
theorem fM_orderOf_kd {a0 : Nat} {a1 : Int32} {μ : xM} {o : Int32} (h : fM_orderOf a0 a1 μ = some o) : (xK μ a0).1 = 10 + 9 := (xgd_some h).1
theorem fM_orderOf_ok {d : Nat} {a0 : Nat} {a1 : Int32} {μ : xM} {o : Int32} (h : fM_orderOf a0 a1 μ = some o) : xRun (d + 2) 214 0 [some (.ref a0), some (.int a1), none, none, none, none, none, none, none] [] μ (some (.int o)) μ :=
  xr_forget (lo := [some (.ref a0), some (.int a1), none, none, none, none, none, none, none]) (⟨rfl, rfl, trivial⟩) (fM_orderOf_0_ok (d := d) (xgd_some h).2 (show fM_orderOf_K μ _ _ o from ⟨rfl, rfl⟩))
-- KeptAnswersModel.plan(I)I 
def fM_plan_K (rv : Option Value) (μf : xM) : (Int32 × xM) → Prop := fun o => rv = some (.int o.1) ∧ μf = o.2
def fM_plan_K33 (v0 : Nat) (μ : xM) (d : Nat) (rv : Option Value) (μf : xM) : ((Int32 × Int32) ⊕ (Int32 × xM)) → Prop := Sum.elim (fun s : Int32 × Int32 => xRun (d + 6) 215 33 [some (.ref v0), none, some (.int s.1), some (.int s.2)] [] μ rv μf) (fM_plan_K rv μf)
noncomputable def fM_plan_84  (v0 : Nat) (v2 : Int32) (μ : xM) : Option (Int32 × xM) := if 0 ≤ v2 then ((fM_orderOf v0 v2 μ).bind fun r1 => some ((r1, μ))) else (some ((xc (-9), μ)))
theorem fM_plan_84_ok {d : Nat} {v0 : Nat} {v2 : Int32} {μ : xM} {rv : Option Value} {μf : xM} {out : Int32 × xM} (h : fM_plan_84 v0 v2 μ = some out) (hK : fM_plan_K rv μf out) : xRun (d + 6) 215 84 [some (.ref v0), none, some (.int v2), none] [] μ rv μf := by
  unfold fM_plan_84 at h
  refine xr_go 1 (pc' := 85) (lo' := [some (.ref v0), none, some (.int v2), none]) (st' := [.int v2]) (μ' := μ) rfl ?_
  refine xr_ifc (pct := 93) rfl rfl rfl (fun hc => ?_) (fun hc => ?_)
  · replace h := (if_pos (of_decide_eq_true hc)).symm.trans h
    refine xr_go 2 (pc' := 95) (lo' := [some (.ref v0), none, some (.int v2), none]) (st' := [.int v2, .ref v0]) (μ' := μ) rfl ?_
    obtain ⟨r1, hr1, h⟩ := Option.bind_eq_some_iff.mp h
    refine xr_callV (j := 214) (d' := (d + 5)) (rv1 := some (.int r1)) (μ1 := μ) (rest := []) (As := [.int v2]) rfl rfl rfl rfl (Nat.le_of_ble_eq_true rfl) (fM_orderOf_kd hr1) rfl (by exact (fM_orderOf_ok (d := d + (3)) hr1)) ?_
    have ho := Option.some.inj h
    subst ho
    obtain ⟨rfl, rfl⟩ := hK
    exact xr_ret (rv := some (.int r1)) rfl rfl (Or.inl rfl)
  · replace h := (if_neg (of_decide_eq_false hc)).symm.trans h
    refine xr_go 2 (pc' := 98) (lo' := [some (.ref v0), none, some (.int v2), none]) (st' := [.int (xc (-9))]) (μ' := μ) rfl ?_
    have ho := Option.some.inj h
    subst ho
    obtain ⟨rfl, rfl⟩ := hK
    exact xr_ret (rv := some (.int (xc (-9)))) rfl rfl (Or.inl rfl)
noncomputable def fM_plan_77  (v0 : Nat) (v3 : Int32) (s0 : Int32) (μ : xM) : Option ((Int32 × Int32) ⊕ (Int32 × xM)) := some (.inl ((s0, v3 + xc 1)))
theorem fM_plan_77_ok {d : Nat} {v0 : Nat} {v3 : Int32} {s0 : Int32} {μ : xM} {rv : Option Value} {μf : xM} {out : (Int32 × Int32) ⊕ (Int32 × xM)} (h : fM_plan_77 v0 v3 s0 μ = some out) (hK : fM_plan_K33 v0 μ d rv μf out) : xRun (d + 6) 215 77 [some (.ref v0), none, none, some (.int v3)] [.int s0] μ rv μf := by
  unfold fM_plan_77 at h
  refine xr_go 3 (pc' := 33) (lo' := [some (.ref v0), none, some (.int s0), some (.int (v3 + xc 1))]) (st' := []) (μ' := μ) rfl ?_
  refine xr_forget (lo := [some (.ref v0), none, some (.int s0), some (.int (v3 + xc 1))]) ⟨rfl, rfl, rfl, trivial⟩ ?_
  have ho := Option.some.inj h
  subst ho
  exact hK
noncomputable def fM_plan_76  (v0 : Nat) (v2 : Int32) (v3 : Int32) (μ : xM) : Option ((Int32 × Int32) ⊕ (Int32 × xM)) := fM_plan_77 v0 v3 v2 μ
theorem fM_plan_76_ok {d : Nat} {v0 : Nat} {v2 : Int32} {v3 : Int32} {μ : xM} {rv : Option Value} {μf : xM} {out : (Int32 × Int32) ⊕ (Int32 × xM)} (h : fM_plan_76 v0 v2 v3 μ = some out) (hK : fM_plan_K33 v0 μ d rv μf out) : xRun (d + 6) 215 76 [some (.ref v0), none, some (.int v2), some (.int v3)] [] μ rv μf := by
  unfold fM_plan_76 at h
  refine xr_go 1 (pc' := 77) (lo' := [some (.ref v0), none, some (.int v2), some (.int v3)]) (st' := [.int v2]) (μ' := μ) rfl ?_
  refine xr_forget (lo := [some (.ref v0), none, none, some (.int v3)]) ⟨rfl, rfl, trivial⟩ ?_
  exact fM_plan_77_ok h hK
noncomputable def fM_plan_L33  (v0 : Nat) (v2 : Int32) (v3 : Int32) (μ : xM) : Option ((Int32 × Int32) ⊕ (Int32 × xM)) := (ldF μ v0 9 52).bind fun x2 => if x2 ≤ v3 then ((fM_plan_84 v0 v2 μ).map (fun o => .inr o)) else ((ldFR μ v0 9 53).bind fun x3 => (ldA μ x3 v3).bind fun x4 => (fM_isBetter x4 v2 μ).bind fun r5 => if r5 = 0 then (fM_plan_76 v0 v2 v3 μ) else ((ldFR μ v0 9 53).bind fun x6 => (ldA μ x6 v3).bind fun x7 => (fM_orderOf v0 x7 μ).bind fun r8 => if r8 < 0 then (fM_plan_76 v0 v2 v3 μ) else ((ldFR μ v0 9 53).bind fun x9 => (ldA μ x9 v3).bind fun x10 => fM_plan_77 v0 v3 x10 μ)))
theorem fM_plan_L33_ok {d : Nat} {v0 : Nat} {v2 : Int32} {v3 : Int32} {μ : xM} {rv : Option Value} {μf : xM} {out : (Int32 × Int32) ⊕ (Int32 × xM)} (h : fM_plan_L33 v0 v2 v3 μ = some out) (hK : fM_plan_K33 v0 μ d rv μf out) : xRun (d + 6) 215 33 [some (.ref v0), none, some (.int v2), some (.int v3)] [] μ rv μf := by
  unfold fM_plan_L33 at h
  refine xr_go 2 (pc' := 35) (lo' := [some (.ref v0), none, some (.int v2), some (.int v3)]) (st' := [.ref v0, .int v3]) (μ' := μ) rfl ?_
  obtain ⟨x2, hx2, h⟩ := Option.bind_eq_some_iff.mp h
  refine xr_opI (pc' := 38) (lo' := [some (.ref v0), none, some (.int v2), some (.int v3)]) (st' := [.int v3]) (o := ldF μ v0 9 52) rfl hx2 ?_
  refine xr_icmp (pct := 84) rfl rfl rfl (fun hc => ?_) (fun hc => ?_)
  · replace h := (if_pos (of_decide_eq_true hc)).symm.trans h
    refine xr_forget (lo := [some (.ref v0), none, some (.int v2), none]) ⟨rfl, rfl, trivial⟩ ?_
    obtain ⟨o, h2, rfl⟩ := Option.map_eq_some_iff.mp h
    exact fM_plan_84_ok h2 hK
  · replace h := (if_neg (of_decide_eq_false hc)).symm.trans h
    refine xr_go 1 (pc' := 42) (lo' := [some (.ref v0), none, some (.int v2), some (.int v3)]) (st' := [.ref v0]) (μ' := μ) rfl ?_
    obtain ⟨x3, hx3, h⟩ := Option.bind_eq_some_iff.mp h
    refine xr_opA (pc' := 45) (lo' := [some (.ref v0), none, some (.int v2), some (.int v3)]) (st' := []) (o := ldFR μ v0 9 53) rfl hx3 ?_
    refine xr_go 1 (pc' := 46) (lo' := [some (.ref v0), none, some (.int v2), some (.int v3)]) (st' := [.int v3, .ref x3]) (μ' := μ) rfl ?_
    obtain ⟨x4, hx4, h⟩ := Option.bind_eq_some_iff.mp h
    refine xr_opI (pc' := 47) (lo' := [some (.ref v0), none, some (.int v2), some (.int v3)]) (st' := []) (o := ldA μ x3 v3) rfl hx4 ?_
    refine xr_go 1 (pc' := 48) (lo' := [some (.ref v0), none, some (.int v2), some (.int v3)]) (st' := [.int v2, .int x4]) (μ' := μ) rfl ?_
    obtain ⟨r5, hr5, h⟩ := Option.bind_eq_some_iff.mp h
    refine xr_callS (j := 190) (d' := (d + 5)) (rv1 := some (.int r5)) (μ1 := μ) (rest := []) (As := [.int x4, .int v2]) rfl rfl rfl rfl (Nat.le_of_ble_eq_true rfl) rfl (by exact (fM_isBetter_ok (d := d + (4)) hr5)) ?_
    refine xr_ifc (pct := 76) rfl rfl rfl (fun hc => ?_) (fun hc => ?_)
    · replace h := (if_pos (of_decide_eq_true hc)).symm.trans h
      refine xr_forget (lo := [some (.ref v0), none, some (.int v2), some (.int v3)]) ⟨rfl, rfl, rfl, trivial⟩ ?_
      exact fM_plan_76_ok h hK
    · replace h := (if_neg (of_decide_eq_false hc)).symm.trans h
      refine xr_go 2 (pc' := 56) (lo' := [some (.ref v0), none, some (.int v2), some (.int v3)]) (st' := [.ref v0, .ref v0]) (μ' := μ) rfl ?_
      obtain ⟨x6, hx6, h⟩ := Option.bind_eq_some_iff.mp h
      refine xr_opA (pc' := 59) (lo' := [some (.ref v0), none, some (.int v2), some (.int v3)]) (st' := [.ref v0]) (o := ldFR μ v0 9 53) rfl hx6 ?_
      refine xr_go 1 (pc' := 60) (lo' := [some (.ref v0), none, some (.int v2), some (.int v3)]) (st' := [.int v3, .ref x6, .ref v0]) (μ' := μ) rfl ?_
      obtain ⟨x7, hx7, h⟩ := Option.bind_eq_some_iff.mp h
      refine xr_opI (pc' := 61) (lo' := [some (.ref v0), none, some (.int v2), some (.int v3)]) (st' := [.ref v0]) (o := ldA μ x6 v3) rfl hx7 ?_
      obtain ⟨r8, hr8, h⟩ := Option.bind_eq_some_iff.mp h
      refine xr_callV (j := 214) (d' := (d + 5)) (rv1 := some (.int r8)) (μ1 := μ) (rest := []) (As := [.int x7]) rfl rfl rfl rfl (Nat.le_of_ble_eq_true rfl) (fM_orderOf_kd hr8) rfl (by exact (fM_orderOf_ok (d := d + (3)) hr8)) ?_
      refine xr_ifc (pct := 76) rfl rfl rfl (fun hc => ?_) (fun hc => ?_)
      · replace h := (if_pos (of_decide_eq_true hc)).symm.trans h
        refine xr_forget (lo := [some (.ref v0), none, some (.int v2), some (.int v3)]) ⟨rfl, rfl, rfl, trivial⟩ ?_
        exact fM_plan_76_ok h hK
      · replace h := (if_neg (of_decide_eq_false hc)).symm.trans h
        refine xr_go 1 (pc' := 68) (lo' := [some (.ref v0), none, some (.int v2), some (.int v3)]) (st' := [.ref v0]) (μ' := μ) rfl ?_
        obtain ⟨x9, hx9, h⟩ := Option.bind_eq_some_iff.mp h
        refine xr_opA (pc' := 71) (lo' := [some (.ref v0), none, some (.int v2), some (.int v3)]) (st' := []) (o := ldFR μ v0 9 53) rfl hx9 ?_
        refine xr_go 1 (pc' := 72) (lo' := [some (.ref v0), none, some (.int v2), some (.int v3)]) (st' := [.int v3, .ref x9]) (μ' := μ) rfl ?_
        obtain ⟨x10, hx10, h⟩ := Option.bind_eq_some_iff.mp h
        refine xr_opI (pc' := 73) (lo' := [some (.ref v0), none, some (.int v2), some (.int v3)]) (st' := []) (o := ldA μ x9 v3) rfl hx10 ?_
        refine xr_go 1 (pc' := 77) (lo' := [some (.ref v0), none, some (.int v2), some (.int v3)]) (st' := [.int x10]) (μ' := μ) rfl ?_
        refine xr_forget (lo := [some (.ref v0), none, none, some (.int v3)]) ⟨rfl, rfl, trivial⟩ ?_
        exact fM_plan_77_ok h hK
theorem fM_plan_L33_lp {d : Nat} {v0 : Nat} {v2 : Int32} {v3 : Int32} {μ : xM} {rv : Option Value} {μf : xM} {out : Int32 × xM} (h : xwh (fun s : Int32 × Int32 => fM_plan_L33 v0 s.1 s.2 μ) (v2, v3) = some out) (hK : fM_plan_K rv μf out) : xRun (d + 6) 215 33 [some (.ref v0), none, some (.int v2), some (.int v3)] [] μ rv μf :=
  xwh_ind (Rh := fun s : Int32 × Int32 => xRun (d + 6) 215 33 [some (.ref v0), none, some (.int s.1), some (.int s.2)] [] μ rv μf) (Co := fM_plan_K rv μf) (fun s o hb hk => fM_plan_L33_ok hb hk) h hK
noncomputable def fM_plan_0  (v0 : Nat) (v1 : Int32) (μ : xM) : Option (Int32 × xM) := (fM_isAsk v0 v1 μ).bind fun r11 => if r11 = 0 then ((fM_refuse v0 (xc (-1)) μ).bind fun r14 => some ((r14.1, r14.2))) else ((fM_findCovers v0 v1 μ).bind fun r12 => if r12.1 = 0 then ((fM_refuse v0 (xc (-5)) r12.2).bind fun r13 => some ((r13.1, r13.2))) else (xwh (fun s : Int32 × Int32 => fM_plan_L33 v0 s.1 s.2 r12.2) (xc (-1), xc 0)))
theorem fM_plan_0_ok {d : Nat} {v0 : Nat} {v1 : Int32} {μ : xM} {rv : Option Value} {μf : xM} {out : Int32 × xM} (h : fM_plan_0 v0 v1 μ = some out) (hK : fM_plan_K rv μf out) : xRun (d + 6) 215 0 [some (.ref v0), some (.int v1), none, none] [] μ rv μf := by
  unfold fM_plan_0 at h
  refine xr_go 2 (pc' := 2) (lo' := [some (.ref v0), some (.int v1), none, none]) (st' := [.int v1, .ref v0]) (μ' := μ) rfl ?_
  obtain ⟨r11, hr11, h⟩ := Option.bind_eq_some_iff.mp h
  refine xr_callV (j := 139) (d' := (d + 5)) (rv1 := some (.int r11)) (μ1 := μ) (rest := []) (As := [.int v1]) rfl rfl rfl rfl (Nat.le_of_ble_eq_true rfl) (fM_isAsk_kd hr11) rfl (by exact (fM_isAsk_ok (d := d + (4)) hr11)) ?_
  refine xr_ifc (pct := 14) rfl rfl rfl (fun hc => ?_) (fun hc => ?_)
  · replace h := (if_neg (of_decide_eq_true hc)).symm.trans h
    refine xr_go 2 (pc' := 16) (lo' := [some (.ref v0), some (.int v1), none, none]) (st' := [.int v1, .ref v0]) (μ' := μ) rfl ?_
    obtain ⟨r12, hr12, h⟩ := Option.bind_eq_some_iff.mp h
    refine xr_callV (j := 188) (d' := (d + 5)) (rv1 := some (.int r12.1)) (μ1 := r12.2) (rest := []) (As := [.int v1]) rfl rfl rfl rfl (Nat.le_of_ble_eq_true rfl) (fM_findCovers_kd hr12) rfl (by exact (fM_findCovers_ok (d := d + (0)) hr12)) ?_
    refine xr_ifc (pct := 29) rfl rfl rfl (fun hc => ?_) (fun hc => ?_)
    · replace h := (if_neg (of_decide_eq_true hc)).symm.trans h
      refine xr_go 4 (pc' := 33) (lo' := [some (.ref v0), some (.int v1), some (.int (xc (-1))), some (.int (xc 0))]) (st' := []) (μ' := r12.2) rfl ?_
      refine xr_forget (lo := [some (.ref v0), none, some (.int (xc (-1))), some (.int (xc 0))]) ⟨rfl, rfl, rfl, trivial⟩ ?_
      exact fM_plan_L33_lp h hK
    · replace h := (if_pos (Decidable.of_not_not (of_decide_eq_false hc))).symm.trans h
      refine xr_go 2 (pc' := 25) (lo' := [some (.ref v0), some (.int v1), none, none]) (st' := [.int (xc (-5)), .ref v0]) (μ' := r12.2) rfl ?_
      obtain ⟨r13, hr13, h⟩ := Option.bind_eq_some_iff.mp h
      refine xr_callV (j := 138) (d' := (d + 5)) (rv1 := some (.int r13.1)) (μ1 := r13.2) (rest := []) (As := [.int (xc (-5))]) rfl rfl rfl rfl (Nat.le_of_ble_eq_true rfl) (fM_refuse_kd hr13) rfl (by exact (fM_refuse_ok (d := d + (5)) hr13)) ?_
      have ho := Option.some.inj h
      subst ho
      obtain ⟨rfl, rfl⟩ := hK
      exact xr_ret (rv := some (.int r13.1)) rfl rfl (Or.inl rfl)
  · replace h := (if_pos (Decidable.of_not_not (of_decide_eq_false hc))).symm.trans h
    refine xr_go 2 (pc' := 10) (lo' := [some (.ref v0), some (.int v1), none, none]) (st' := [.int (xc (-1)), .ref v0]) (μ' := μ) rfl ?_
    obtain ⟨r14, hr14, h⟩ := Option.bind_eq_some_iff.mp h
    refine xr_callV (j := 138) (d' := (d + 5)) (rv1 := some (.int r14.1)) (μ1 := r14.2) (rest := []) (As := [.int (xc (-1))]) rfl rfl rfl rfl (Nat.le_of_ble_eq_true rfl) (fM_refuse_kd hr14) rfl (by exact (fM_refuse_ok (d := d + (5)) hr14)) ?_
    have ho := Option.some.inj h
    subst ho
    obtain ⟨rfl, rfl⟩ := hK
    exact xr_ret (rv := some (.int r14.1)) rfl rfl (Or.inl rfl)
noncomputable def fM_plan (a0 : Nat) (a1 : Int32) (μ : xM) : Option (Int32 × xM) := xgd μ a0 9 (fM_plan_0 a0 a1 μ)
theorem fM_plan_kd {a0 : Nat} {a1 : Int32} {μ : xM} {o : Int32 × xM} (h : fM_plan a0 a1 μ = some o) : (xK μ a0).1 = 10 + 9 := (xgd_some h).1
theorem fM_plan_ok {d : Nat} {a0 : Nat} {a1 : Int32} {μ : xM} {o : Int32 × xM} (h : fM_plan a0 a1 μ = some o) : xRun (d + 6) 215 0 [some (.ref a0), some (.int a1), none, none] [] μ (some (.int o.1)) o.2 :=
  xr_forget (lo := [some (.ref a0), some (.int a1), none, none]) (⟨rfl, rfl, trivial⟩) (fM_plan_0_ok (d := d) (xgd_some h).2 (show fM_plan_K _ _ o from ⟨rfl, rfl⟩))
-- KeptAnswers$Holding.copyFrom(LKeptAnswers$Holding;)V 
def fH_copyFrom_K (rv : Option Value) (μf : xM) : (xM) → Prop := fun o => rv = none ∧ μf = o
def fH_copyFrom_K107 (v0 : Nat) (v1 : Nat) (d : Nat) (rv : Option Value) (μf : xM) : ((Int32 × xM) ⊕ (xM)) → Prop := Sum.elim (fun s : Int32 × xM => xRun (d + 3) 62 107 [some (.ref v0), some (.ref v1), some (.int s.1)] [] s.2 rv μf) (fH_copyFrom_K rv μf)
def fH_copyFrom_K66 (v0 : Nat) (v1 : Nat) (d : Nat) (rv : Option Value) (μf : xM) : ((Int32 × xM) ⊕ (xM)) → Prop := Sum.elim (fun s : Int32 × xM => xRun (d + 3) 62 66 [some (.ref v0), some (.ref v1), some (.int s.1)] [] s.2 rv μf) (fH_copyFrom_K rv μf)
noncomputable def fH_copyFrom_L107  (v0 : Nat) (v1 : Nat) (v2 : Int32) (μ : xM) : Option ((Int32 × xM) ⊕ (xM)) := if (xc 6) ≤ v2 then (some (.inr μ)) else ((ldFR μ v0 3 9).bind fun x1 => (ldAR μ x1 v2).bind fun x2 => (ldFR μ v1 3 9).bind fun x3 => (ldAR μ x3 v2).bind fun x4 => (fP_copyFrom x2 x4 μ).bind fun r5 => (ldFR r5 v0 3 10).bind fun x6 => (ldFR r5 v1 3 10).bind fun x7 => (ldA r5 x7 v2).bind fun x8 => (stA r5 x6 v2 x8).bind fun μ9 => (ldFR μ9 v0 3 12).bind fun x10 => (ldFR μ9 v1 3 12).bind fun x11 => (ldA μ9 x11 v2).bind fun x12 => (stA μ9 x10 v2 x12).bind fun μ13 => (ldFR μ13 v0 3 13).bind fun x14 => (ldFR μ13 v1 3 13).bind fun x15 => (ldA μ13 x15 v2).bind fun x16 => (stA μ13 x14 v2 x16).bind fun μ17 => (ldFR μ17 v0 3 14).bind fun x18 => (ldFR μ17 v1 3 14).bind fun x19 => (ldA μ17 x19 v2).bind fun x20 => (stA μ17 x18 v2 x20).bind fun μ21 => (ldFR μ21 v0 3 15).bind fun x22 => (ldFR μ21 v1 3 15).bind fun x23 => (ldA μ21 x23 v2).bind fun x24 => (stA μ21 x22 v2 x24).bind fun μ25 => some (.inl ((v2 + xc 1, μ25))))
theorem fH_copyFrom_L107_ok {d : Nat} {v0 : Nat} {v1 : Nat} {v2 : Int32} {μ : xM} {rv : Option Value} {μf : xM} {out : (Int32 × xM) ⊕ (xM)} (h : fH_copyFrom_L107 v0 v1 v2 μ = some out) (hK : fH_copyFrom_K107 v0 v1 d rv μf out) : xRun (d + 3) 62 107 [some (.ref v0), some (.ref v1), some (.int v2)] [] μ rv μf := by
  unfold fH_copyFrom_L107 at h
  refine xr_go 2 (pc' := 110) (lo' := [some (.ref v0), some (.ref v1), some (.int v2)]) (st' := [.int (xc 6), .int v2]) (μ' := μ) rfl ?_
  refine xr_icmp (pct := 194) rfl rfl rfl (fun hc => ?_) (fun hc => ?_)
  · replace h := (if_pos (of_decide_eq_true hc)).symm.trans h
    have ho := Option.some.inj h
    subst ho
    obtain ⟨rfl, rfl⟩ := hK
    exact xr_ret (rv := none) rfl rfl (rfl)
  · replace h := (if_neg (of_decide_eq_false hc)).symm.trans h
    refine xr_go 1 (pc' := 114) (lo' := [some (.ref v0), some (.ref v1), some (.int v2)]) (st' := [.ref v0]) (μ' := μ) rfl ?_
    obtain ⟨x1, hx1, h⟩ := Option.bind_eq_some_iff.mp h
    refine xr_opA (pc' := 117) (lo' := [some (.ref v0), some (.ref v1), some (.int v2)]) (st' := []) (o := ldFR μ v0 3 9) rfl hx1 ?_
    refine xr_go 1 (pc' := 118) (lo' := [some (.ref v0), some (.ref v1), some (.int v2)]) (st' := [.int v2, .ref x1]) (μ' := μ) rfl ?_
    obtain ⟨x2, hx2, h⟩ := Option.bind_eq_some_iff.mp h
    refine xr_opA (pc' := 119) (lo' := [some (.ref v0), some (.ref v1), some (.int v2)]) (st' := []) (o := ldAR μ x1 v2) rfl hx2 ?_
    refine xr_go 1 (pc' := 120) (lo' := [some (.ref v0), some (.ref v1), some (.int v2)]) (st' := [.ref v1, .ref x2]) (μ' := μ) rfl ?_
    obtain ⟨x3, hx3, h⟩ := Option.bind_eq_some_iff.mp h
    refine xr_opA (pc' := 123) (lo' := [some (.ref v0), some (.ref v1), some (.int v2)]) (st' := [.ref x2]) (o := ldFR μ v1 3 9) rfl hx3 ?_
    refine xr_go 1 (pc' := 124) (lo' := [some (.ref v0), some (.ref v1), some (.int v2)]) (st' := [.int v2, .ref x3, .ref x2]) (μ' := μ) rfl ?_
    obtain ⟨x4, hx4, h⟩ := Option.bind_eq_some_iff.mp h
    refine xr_opA (pc' := 125) (lo' := [some (.ref v0), some (.ref v1), some (.int v2)]) (st' := [.ref x2]) (o := ldAR μ x3 v2) rfl hx4 ?_
    obtain ⟨r5, hr5, h⟩ := Option.bind_eq_some_iff.mp h
    refine xr_callV (j := 80) (d' := (d + 2)) (rv1 := none) (μ1 := r5) (rest := []) (As := [.ref x4]) rfl rfl rfl rfl (Nat.le_of_ble_eq_true rfl) (fP_copyFrom_kd hr5) rfl (by exact (fP_copyFrom_ok (d := d + (0)) hr5)) ?_
    refine xr_go 1 (pc' := 129) (lo' := [some (.ref v0), some (.ref v1), some (.int v2)]) (st' := [.ref v0]) (μ' := r5) rfl ?_
    obtain ⟨x6, hx6, h⟩ := Option.bind_eq_some_iff.mp h
    refine xr_opA (pc' := 132) (lo' := [some (.ref v0), some (.ref v1), some (.int v2)]) (st' := []) (o := ldFR r5 v0 3 10) rfl hx6 ?_
    refine xr_go 2 (pc' := 134) (lo' := [some (.ref v0), some (.ref v1), some (.int v2)]) (st' := [.ref v1, .int v2, .ref x6]) (μ' := r5) rfl ?_
    obtain ⟨x7, hx7, h⟩ := Option.bind_eq_some_iff.mp h
    refine xr_opA (pc' := 137) (lo' := [some (.ref v0), some (.ref v1), some (.int v2)]) (st' := [.int v2, .ref x6]) (o := ldFR r5 v1 3 10) rfl hx7 ?_
    refine xr_go 1 (pc' := 138) (lo' := [some (.ref v0), some (.ref v1), some (.int v2)]) (st' := [.int v2, .ref x7, .int v2, .ref x6]) (μ' := r5) rfl ?_
    obtain ⟨x8, hx8, h⟩ := Option.bind_eq_some_iff.mp h
    refine xr_opI (pc' := 139) (lo' := [some (.ref v0), some (.ref v1), some (.int v2)]) (st' := [.int v2, .ref x6]) (o := ldA r5 x7 v2) rfl hx8 ?_
    obtain ⟨μ9, hμ9, h⟩ := Option.bind_eq_some_iff.mp h
    refine xr_opM (pc' := 140) (lo' := [some (.ref v0), some (.ref v1), some (.int v2)]) (st' := []) (o := stA r5 x6 v2 x8) rfl hμ9 ?_
    refine xr_go 1 (pc' := 141) (lo' := [some (.ref v0), some (.ref v1), some (.int v2)]) (st' := [.ref v0]) (μ' := μ9) rfl ?_
    obtain ⟨x10, hx10, h⟩ := Option.bind_eq_some_iff.mp h
    refine xr_opA (pc' := 144) (lo' := [some (.ref v0), some (.ref v1), some (.int v2)]) (st' := []) (o := ldFR μ9 v0 3 12) rfl hx10 ?_
    refine xr_go 2 (pc' := 146) (lo' := [some (.ref v0), some (.ref v1), some (.int v2)]) (st' := [.ref v1, .int v2, .ref x10]) (μ' := μ9) rfl ?_
    obtain ⟨x11, hx11, h⟩ := Option.bind_eq_some_iff.mp h
    refine xr_opA (pc' := 149) (lo' := [some (.ref v0), some (.ref v1), some (.int v2)]) (st' := [.int v2, .ref x10]) (o := ldFR μ9 v1 3 12) rfl hx11 ?_
    refine xr_go 1 (pc' := 150) (lo' := [some (.ref v0), some (.ref v1), some (.int v2)]) (st' := [.int v2, .ref x11, .int v2, .ref x10]) (μ' := μ9) rfl ?_
    obtain ⟨x12, hx12, h⟩ := Option.bind_eq_some_iff.mp h
    refine xr_opI (pc' := 151) (lo' := [some (.ref v0), some (.ref v1), some (.int v2)]) (st' := [.int v2, .ref x10]) (o := ldA μ9 x11 v2) rfl hx12 ?_
    obtain ⟨μ13, hμ13, h⟩ := Option.bind_eq_some_iff.mp h
    refine xr_opM (pc' := 152) (lo' := [some (.ref v0), some (.ref v1), some (.int v2)]) (st' := []) (o := stA μ9 x10 v2 x12) rfl hμ13 ?_
    refine xr_go 1 (pc' := 153) (lo' := [some (.ref v0), some (.ref v1), some (.int v2)]) (st' := [.ref v0]) (μ' := μ13) rfl ?_
    obtain ⟨x14, hx14, h⟩ := Option.bind_eq_some_iff.mp h
    refine xr_opA (pc' := 156) (lo' := [some (.ref v0), some (.ref v1), some (.int v2)]) (st' := []) (o := ldFR μ13 v0 3 13) rfl hx14 ?_
    refine xr_go 2 (pc' := 158) (lo' := [some (.ref v0), some (.ref v1), some (.int v2)]) (st' := [.ref v1, .int v2, .ref x14]) (μ' := μ13) rfl ?_
    obtain ⟨x15, hx15, h⟩ := Option.bind_eq_some_iff.mp h
    refine xr_opA (pc' := 161) (lo' := [some (.ref v0), some (.ref v1), some (.int v2)]) (st' := [.int v2, .ref x14]) (o := ldFR μ13 v1 3 13) rfl hx15 ?_
    refine xr_go 1 (pc' := 162) (lo' := [some (.ref v0), some (.ref v1), some (.int v2)]) (st' := [.int v2, .ref x15, .int v2, .ref x14]) (μ' := μ13) rfl ?_
    obtain ⟨x16, hx16, h⟩ := Option.bind_eq_some_iff.mp h
    refine xr_opI (pc' := 163) (lo' := [some (.ref v0), some (.ref v1), some (.int v2)]) (st' := [.int v2, .ref x14]) (o := ldA μ13 x15 v2) rfl hx16 ?_
    obtain ⟨μ17, hμ17, h⟩ := Option.bind_eq_some_iff.mp h
    refine xr_opM (pc' := 164) (lo' := [some (.ref v0), some (.ref v1), some (.int v2)]) (st' := []) (o := stA μ13 x14 v2 x16) rfl hμ17 ?_
    refine xr_go 1 (pc' := 165) (lo' := [some (.ref v0), some (.ref v1), some (.int v2)]) (st' := [.ref v0]) (μ' := μ17) rfl ?_
    obtain ⟨x18, hx18, h⟩ := Option.bind_eq_some_iff.mp h
    refine xr_opA (pc' := 168) (lo' := [some (.ref v0), some (.ref v1), some (.int v2)]) (st' := []) (o := ldFR μ17 v0 3 14) rfl hx18 ?_
    refine xr_go 2 (pc' := 170) (lo' := [some (.ref v0), some (.ref v1), some (.int v2)]) (st' := [.ref v1, .int v2, .ref x18]) (μ' := μ17) rfl ?_
    obtain ⟨x19, hx19, h⟩ := Option.bind_eq_some_iff.mp h
    refine xr_opA (pc' := 173) (lo' := [some (.ref v0), some (.ref v1), some (.int v2)]) (st' := [.int v2, .ref x18]) (o := ldFR μ17 v1 3 14) rfl hx19 ?_
    refine xr_go 1 (pc' := 174) (lo' := [some (.ref v0), some (.ref v1), some (.int v2)]) (st' := [.int v2, .ref x19, .int v2, .ref x18]) (μ' := μ17) rfl ?_
    obtain ⟨x20, hx20, h⟩ := Option.bind_eq_some_iff.mp h
    refine xr_opI (pc' := 175) (lo' := [some (.ref v0), some (.ref v1), some (.int v2)]) (st' := [.int v2, .ref x18]) (o := ldA μ17 x19 v2) rfl hx20 ?_
    obtain ⟨μ21, hμ21, h⟩ := Option.bind_eq_some_iff.mp h
    refine xr_opM (pc' := 176) (lo' := [some (.ref v0), some (.ref v1), some (.int v2)]) (st' := []) (o := stA μ17 x18 v2 x20) rfl hμ21 ?_
    refine xr_go 1 (pc' := 177) (lo' := [some (.ref v0), some (.ref v1), some (.int v2)]) (st' := [.ref v0]) (μ' := μ21) rfl ?_
    obtain ⟨x22, hx22, h⟩ := Option.bind_eq_some_iff.mp h
    refine xr_opA (pc' := 180) (lo' := [some (.ref v0), some (.ref v1), some (.int v2)]) (st' := []) (o := ldFR μ21 v0 3 15) rfl hx22 ?_
    refine xr_go 2 (pc' := 182) (lo' := [some (.ref v0), some (.ref v1), some (.int v2)]) (st' := [.ref v1, .int v2, .ref x22]) (μ' := μ21) rfl ?_
    obtain ⟨x23, hx23, h⟩ := Option.bind_eq_some_iff.mp h
    refine xr_opA (pc' := 185) (lo' := [some (.ref v0), some (.ref v1), some (.int v2)]) (st' := [.int v2, .ref x22]) (o := ldFR μ21 v1 3 15) rfl hx23 ?_
    refine xr_go 1 (pc' := 186) (lo' := [some (.ref v0), some (.ref v1), some (.int v2)]) (st' := [.int v2, .ref x23, .int v2, .ref x22]) (μ' := μ21) rfl ?_
    obtain ⟨x24, hx24, h⟩ := Option.bind_eq_some_iff.mp h
    refine xr_opI (pc' := 187) (lo' := [some (.ref v0), some (.ref v1), some (.int v2)]) (st' := [.int v2, .ref x22]) (o := ldA μ21 x23 v2) rfl hx24 ?_
    obtain ⟨μ25, hμ25, h⟩ := Option.bind_eq_some_iff.mp h
    refine xr_opM (pc' := 188) (lo' := [some (.ref v0), some (.ref v1), some (.int v2)]) (st' := []) (o := stA μ21 x22 v2 x24) rfl hμ25 ?_
    refine xr_go 2 (pc' := 107) (lo' := [some (.ref v0), some (.ref v1), some (.int (v2 + xc 1))]) (st' := []) (μ' := μ25) rfl ?_
    refine xr_forget (lo := [some (.ref v0), some (.ref v1), some (.int (v2 + xc 1))]) ⟨rfl, rfl, rfl, trivial⟩ ?_
    have ho := Option.some.inj h
    subst ho
    exact hK
theorem fH_copyFrom_L107_lp {d : Nat} {v0 : Nat} {v1 : Nat} {v2 : Int32} {μ : xM} {rv : Option Value} {μf : xM} {out : xM} (h : xwh (fun s : Int32 × xM => fH_copyFrom_L107 v0 v1 s.1 s.2) (v2, μ) = some out) (hK : fH_copyFrom_K rv μf out) : xRun (d + 3) 62 107 [some (.ref v0), some (.ref v1), some (.int v2)] [] μ rv μf :=
  xwh_ind (Rh := fun s : Int32 × xM => xRun (d + 3) 62 107 [some (.ref v0), some (.ref v1), some (.int s.1)] [] s.2 rv μf) (Co := fH_copyFrom_K rv μf) (fun s o hb hk => fH_copyFrom_L107_ok hb hk) h hK
noncomputable def fH_copyFrom_105  (v0 : Nat) (v1 : Nat) (μ : xM) : Option (xM) := xwh (fun s : Int32 × xM => fH_copyFrom_L107 v0 v1 s.1 s.2) (xc 0, μ)
theorem fH_copyFrom_105_ok {d : Nat} {v0 : Nat} {v1 : Nat} {μ : xM} {rv : Option Value} {μf : xM} {out : xM} (h : fH_copyFrom_105 v0 v1 μ = some out) (hK : fH_copyFrom_K rv μf out) : xRun (d + 3) 62 105 [some (.ref v0), some (.ref v1), none] [] μ rv μf := by
  unfold fH_copyFrom_105 at h
  refine xr_go 2 (pc' := 107) (lo' := [some (.ref v0), some (.ref v1), some (.int (xc 0))]) (st' := []) (μ' := μ) rfl ?_
  refine xr_forget (lo := [some (.ref v0), some (.ref v1), some (.int (xc 0))]) ⟨rfl, rfl, rfl, trivial⟩ ?_
  exact fH_copyFrom_L107_lp h hK
noncomputable def fH_copyFrom_L66  (v0 : Nat) (v1 : Nat) (v2 : Int32) (μ : xM) : Option ((Int32 × xM) ⊕ (xM)) := if (xc 10) ≤ v2 then ((fH_copyFrom_105 v0 v1 μ).map (fun o => .inr o)) else ((ldFR μ v0 3 8).bind fun x26 => (ldAR μ x26 v2).bind fun x27 => (ldFR μ v1 3 8).bind fun x28 => (ldAR μ x28 v2).bind fun x29 => (fP_copyFrom x27 x29 μ).bind fun r30 => (ldFR r30 v0 3 11).bind fun x31 => (ldFR r30 v1 3 11).bind fun x32 => (ldA r30 x32 v2).bind fun x33 => (stA r30 x31 v2 x33).bind fun μ34 => some (.inl ((v2 + xc 1, μ34))))
theorem fH_copyFrom_L66_ok {d : Nat} {v0 : Nat} {v1 : Nat} {v2 : Int32} {μ : xM} {rv : Option Value} {μf : xM} {out : (Int32 × xM) ⊕ (xM)} (h : fH_copyFrom_L66 v0 v1 v2 μ = some out) (hK : fH_copyFrom_K66 v0 v1 d rv μf out) : xRun (d + 3) 62 66 [some (.ref v0), some (.ref v1), some (.int v2)] [] μ rv μf := by
  unfold fH_copyFrom_L66 at h
  refine xr_go 2 (pc' := 69) (lo' := [some (.ref v0), some (.ref v1), some (.int v2)]) (st' := [.int (xc 10), .int v2]) (μ' := μ) rfl ?_
  refine xr_icmp (pct := 105) rfl rfl rfl (fun hc => ?_) (fun hc => ?_)
  · replace h := (if_pos (of_decide_eq_true hc)).symm.trans h
    refine xr_forget (lo := [some (.ref v0), some (.ref v1), none]) ⟨rfl, rfl, trivial⟩ ?_
    obtain ⟨o, h2, rfl⟩ := Option.map_eq_some_iff.mp h
    exact fH_copyFrom_105_ok h2 hK
  · replace h := (if_neg (of_decide_eq_false hc)).symm.trans h
    refine xr_go 1 (pc' := 73) (lo' := [some (.ref v0), some (.ref v1), some (.int v2)]) (st' := [.ref v0]) (μ' := μ) rfl ?_
    obtain ⟨x26, hx26, h⟩ := Option.bind_eq_some_iff.mp h
    refine xr_opA (pc' := 76) (lo' := [some (.ref v0), some (.ref v1), some (.int v2)]) (st' := []) (o := ldFR μ v0 3 8) rfl hx26 ?_
    refine xr_go 1 (pc' := 77) (lo' := [some (.ref v0), some (.ref v1), some (.int v2)]) (st' := [.int v2, .ref x26]) (μ' := μ) rfl ?_
    obtain ⟨x27, hx27, h⟩ := Option.bind_eq_some_iff.mp h
    refine xr_opA (pc' := 78) (lo' := [some (.ref v0), some (.ref v1), some (.int v2)]) (st' := []) (o := ldAR μ x26 v2) rfl hx27 ?_
    refine xr_go 1 (pc' := 79) (lo' := [some (.ref v0), some (.ref v1), some (.int v2)]) (st' := [.ref v1, .ref x27]) (μ' := μ) rfl ?_
    obtain ⟨x28, hx28, h⟩ := Option.bind_eq_some_iff.mp h
    refine xr_opA (pc' := 82) (lo' := [some (.ref v0), some (.ref v1), some (.int v2)]) (st' := [.ref x27]) (o := ldFR μ v1 3 8) rfl hx28 ?_
    refine xr_go 1 (pc' := 83) (lo' := [some (.ref v0), some (.ref v1), some (.int v2)]) (st' := [.int v2, .ref x28, .ref x27]) (μ' := μ) rfl ?_
    obtain ⟨x29, hx29, h⟩ := Option.bind_eq_some_iff.mp h
    refine xr_opA (pc' := 84) (lo' := [some (.ref v0), some (.ref v1), some (.int v2)]) (st' := [.ref x27]) (o := ldAR μ x28 v2) rfl hx29 ?_
    obtain ⟨r30, hr30, h⟩ := Option.bind_eq_some_iff.mp h
    refine xr_callV (j := 80) (d' := (d + 2)) (rv1 := none) (μ1 := r30) (rest := []) (As := [.ref x29]) rfl rfl rfl rfl (Nat.le_of_ble_eq_true rfl) (fP_copyFrom_kd hr30) rfl (by exact (fP_copyFrom_ok (d := d + (0)) hr30)) ?_
    refine xr_go 1 (pc' := 88) (lo' := [some (.ref v0), some (.ref v1), some (.int v2)]) (st' := [.ref v0]) (μ' := r30) rfl ?_
    obtain ⟨x31, hx31, h⟩ := Option.bind_eq_some_iff.mp h
    refine xr_opA (pc' := 91) (lo' := [some (.ref v0), some (.ref v1), some (.int v2)]) (st' := []) (o := ldFR r30 v0 3 11) rfl hx31 ?_
    refine xr_go 2 (pc' := 93) (lo' := [some (.ref v0), some (.ref v1), some (.int v2)]) (st' := [.ref v1, .int v2, .ref x31]) (μ' := r30) rfl ?_
    obtain ⟨x32, hx32, h⟩ := Option.bind_eq_some_iff.mp h
    refine xr_opA (pc' := 96) (lo' := [some (.ref v0), some (.ref v1), some (.int v2)]) (st' := [.int v2, .ref x31]) (o := ldFR r30 v1 3 11) rfl hx32 ?_
    refine xr_go 1 (pc' := 97) (lo' := [some (.ref v0), some (.ref v1), some (.int v2)]) (st' := [.int v2, .ref x32, .int v2, .ref x31]) (μ' := r30) rfl ?_
    obtain ⟨x33, hx33, h⟩ := Option.bind_eq_some_iff.mp h
    refine xr_opI (pc' := 98) (lo' := [some (.ref v0), some (.ref v1), some (.int v2)]) (st' := [.int v2, .ref x31]) (o := ldA r30 x32 v2) rfl hx33 ?_
    obtain ⟨μ34, hμ34, h⟩ := Option.bind_eq_some_iff.mp h
    refine xr_opM (pc' := 99) (lo' := [some (.ref v0), some (.ref v1), some (.int v2)]) (st' := []) (o := stA r30 x31 v2 x33) rfl hμ34 ?_
    refine xr_go 2 (pc' := 66) (lo' := [some (.ref v0), some (.ref v1), some (.int (v2 + xc 1))]) (st' := []) (μ' := μ34) rfl ?_
    refine xr_forget (lo := [some (.ref v0), some (.ref v1), some (.int (v2 + xc 1))]) ⟨rfl, rfl, rfl, trivial⟩ ?_
    have ho := Option.some.inj h
    subst ho
    exact hK
theorem fH_copyFrom_L66_lp {d : Nat} {v0 : Nat} {v1 : Nat} {v2 : Int32} {μ : xM} {rv : Option Value} {μf : xM} {out : xM} (h : xwh (fun s : Int32 × xM => fH_copyFrom_L66 v0 v1 s.1 s.2) (v2, μ) = some out) (hK : fH_copyFrom_K rv μf out) : xRun (d + 3) 62 66 [some (.ref v0), some (.ref v1), some (.int v2)] [] μ rv μf :=
  xwh_ind (Rh := fun s : Int32 × xM => xRun (d + 3) 62 66 [some (.ref v0), some (.ref v1), some (.int s.1)] [] s.2 rv μf) (Co := fH_copyFrom_K rv μf) (fun s o hb hk => fH_copyFrom_L66_ok hb hk) h hK
noncomputable def fH_copyFrom_0  (v0 : Nat) (v1 : Nat) (μ : xM) : Option (xM) := (ldF μ v1 3 0).bind fun x35 => (stF μ v0 3 0 x35).bind fun μ36 => (ldF μ36 v1 3 1).bind fun x37 => (stF μ36 v0 3 1 x37).bind fun μ38 => (ldF μ38 v1 3 2).bind fun x39 => (stF μ38 v0 3 2 x39).bind fun μ40 => (ldF μ40 v1 3 3).bind fun x41 => (stF μ40 v0 3 3 x41).bind fun μ42 => (ldF μ42 v1 3 4).bind fun x43 => (stF μ42 v0 3 4 x43).bind fun μ44 => (ldF μ44 v1 3 5).bind fun x45 => (stF μ44 v0 3 5 x45).bind fun μ46 => (ldF μ46 v1 3 6).bind fun x47 => (stF μ46 v0 3 6 x47).bind fun μ48 => (ldF μ48 v1 3 7).bind fun x49 => (stF μ48 v0 3 7 x49).bind fun μ50 => xwh (fun s : Int32 × xM => fH_copyFrom_L66 v0 v1 s.1 s.2) (xc 0, μ50)
theorem fH_copyFrom_0_ok {d : Nat} {v0 : Nat} {v1 : Nat} {μ : xM} {rv : Option Value} {μf : xM} {out : xM} (h : fH_copyFrom_0 v0 v1 μ = some out) (hK : fH_copyFrom_K rv μf out) : xRun (d + 3) 62 0 [some (.ref v0), some (.ref v1), none] [] μ rv μf := by
  unfold fH_copyFrom_0 at h
  refine xr_go 2 (pc' := 2) (lo' := [some (.ref v0), some (.ref v1), none]) (st' := [.ref v1, .ref v0]) (μ' := μ) rfl ?_
  obtain ⟨x35, hx35, h⟩ := Option.bind_eq_some_iff.mp h
  refine xr_opI (pc' := 5) (lo' := [some (.ref v0), some (.ref v1), none]) (st' := [.ref v0]) (o := ldF μ v1 3 0) rfl hx35 ?_
  obtain ⟨μ36, hμ36, h⟩ := Option.bind_eq_some_iff.mp h
  refine xr_opM (pc' := 8) (lo' := [some (.ref v0), some (.ref v1), none]) (st' := []) (o := stF μ v0 3 0 x35) rfl hμ36 ?_
  refine xr_go 2 (pc' := 10) (lo' := [some (.ref v0), some (.ref v1), none]) (st' := [.ref v1, .ref v0]) (μ' := μ36) rfl ?_
  obtain ⟨x37, hx37, h⟩ := Option.bind_eq_some_iff.mp h
  refine xr_opI (pc' := 13) (lo' := [some (.ref v0), some (.ref v1), none]) (st' := [.ref v0]) (o := ldF μ36 v1 3 1) rfl hx37 ?_
  obtain ⟨μ38, hμ38, h⟩ := Option.bind_eq_some_iff.mp h
  refine xr_opM (pc' := 16) (lo' := [some (.ref v0), some (.ref v1), none]) (st' := []) (o := stF μ36 v0 3 1 x37) rfl hμ38 ?_
  refine xr_go 2 (pc' := 18) (lo' := [some (.ref v0), some (.ref v1), none]) (st' := [.ref v1, .ref v0]) (μ' := μ38) rfl ?_
  obtain ⟨x39, hx39, h⟩ := Option.bind_eq_some_iff.mp h
  refine xr_opI (pc' := 21) (lo' := [some (.ref v0), some (.ref v1), none]) (st' := [.ref v0]) (o := ldF μ38 v1 3 2) rfl hx39 ?_
  obtain ⟨μ40, hμ40, h⟩ := Option.bind_eq_some_iff.mp h
  refine xr_opM (pc' := 24) (lo' := [some (.ref v0), some (.ref v1), none]) (st' := []) (o := stF μ38 v0 3 2 x39) rfl hμ40 ?_
  refine xr_go 2 (pc' := 26) (lo' := [some (.ref v0), some (.ref v1), none]) (st' := [.ref v1, .ref v0]) (μ' := μ40) rfl ?_
  obtain ⟨x41, hx41, h⟩ := Option.bind_eq_some_iff.mp h
  refine xr_opI (pc' := 29) (lo' := [some (.ref v0), some (.ref v1), none]) (st' := [.ref v0]) (o := ldF μ40 v1 3 3) rfl hx41 ?_
  obtain ⟨μ42, hμ42, h⟩ := Option.bind_eq_some_iff.mp h
  refine xr_opM (pc' := 32) (lo' := [some (.ref v0), some (.ref v1), none]) (st' := []) (o := stF μ40 v0 3 3 x41) rfl hμ42 ?_
  refine xr_go 2 (pc' := 34) (lo' := [some (.ref v0), some (.ref v1), none]) (st' := [.ref v1, .ref v0]) (μ' := μ42) rfl ?_
  obtain ⟨x43, hx43, h⟩ := Option.bind_eq_some_iff.mp h
  refine xr_opI (pc' := 37) (lo' := [some (.ref v0), some (.ref v1), none]) (st' := [.ref v0]) (o := ldF μ42 v1 3 4) rfl hx43 ?_
  obtain ⟨μ44, hμ44, h⟩ := Option.bind_eq_some_iff.mp h
  refine xr_opM (pc' := 40) (lo' := [some (.ref v0), some (.ref v1), none]) (st' := []) (o := stF μ42 v0 3 4 x43) rfl hμ44 ?_
  refine xr_go 2 (pc' := 42) (lo' := [some (.ref v0), some (.ref v1), none]) (st' := [.ref v1, .ref v0]) (μ' := μ44) rfl ?_
  obtain ⟨x45, hx45, h⟩ := Option.bind_eq_some_iff.mp h
  refine xr_opI (pc' := 45) (lo' := [some (.ref v0), some (.ref v1), none]) (st' := [.ref v0]) (o := ldF μ44 v1 3 5) rfl hx45 ?_
  obtain ⟨μ46, hμ46, h⟩ := Option.bind_eq_some_iff.mp h
  refine xr_opM (pc' := 48) (lo' := [some (.ref v0), some (.ref v1), none]) (st' := []) (o := stF μ44 v0 3 5 x45) rfl hμ46 ?_
  refine xr_go 2 (pc' := 50) (lo' := [some (.ref v0), some (.ref v1), none]) (st' := [.ref v1, .ref v0]) (μ' := μ46) rfl ?_
  obtain ⟨x47, hx47, h⟩ := Option.bind_eq_some_iff.mp h
  refine xr_opI (pc' := 53) (lo' := [some (.ref v0), some (.ref v1), none]) (st' := [.ref v0]) (o := ldF μ46 v1 3 6) rfl hx47 ?_
  obtain ⟨μ48, hμ48, h⟩ := Option.bind_eq_some_iff.mp h
  refine xr_opM (pc' := 56) (lo' := [some (.ref v0), some (.ref v1), none]) (st' := []) (o := stF μ46 v0 3 6 x47) rfl hμ48 ?_
  refine xr_go 2 (pc' := 58) (lo' := [some (.ref v0), some (.ref v1), none]) (st' := [.ref v1, .ref v0]) (μ' := μ48) rfl ?_
  obtain ⟨x49, hx49, h⟩ := Option.bind_eq_some_iff.mp h
  refine xr_opI (pc' := 61) (lo' := [some (.ref v0), some (.ref v1), none]) (st' := [.ref v0]) (o := ldF μ48 v1 3 7) rfl hx49 ?_
  obtain ⟨μ50, hμ50, h⟩ := Option.bind_eq_some_iff.mp h
  refine xr_opM (pc' := 64) (lo' := [some (.ref v0), some (.ref v1), none]) (st' := []) (o := stF μ48 v0 3 7 x49) rfl hμ50 ?_
  refine xr_go 2 (pc' := 66) (lo' := [some (.ref v0), some (.ref v1), some (.int (xc 0))]) (st' := []) (μ' := μ50) rfl ?_
  refine xr_forget (lo := [some (.ref v0), some (.ref v1), some (.int (xc 0))]) ⟨rfl, rfl, rfl, trivial⟩ ?_
  exact fH_copyFrom_L66_lp h hK
noncomputable def fH_copyFrom (a0 : Nat) (a1 : Nat) (μ : xM) : Option (xM) := xgd μ a0 3 (fH_copyFrom_0 a0 a1 μ)
theorem fH_copyFrom_kd {a0 : Nat} {a1 : Nat} {μ : xM} {o : xM} (h : fH_copyFrom a0 a1 μ = some o) : (xK μ a0).1 = 10 + 3 := (xgd_some h).1
theorem fH_copyFrom_ok {d : Nat} {a0 : Nat} {a1 : Nat} {μ : xM} {o : xM} (h : fH_copyFrom a0 a1 μ = some o) : xRun (d + 3) 62 0 [some (.ref a0), some (.ref a1), none] [] μ none o :=
  xr_forget (lo := [some (.ref a0), some (.ref a1), none]) (⟨rfl, rfl, trivial⟩) (fH_copyFrom_0_ok (d := d) (xgd_some h).2 (show fH_copyFrom_K _ _ o from ⟨rfl, rfl⟩))
-- KeptAnswers.image()I 
def fX_image_K (rv : Option Value) (μf : xM) : (Int32 × xM) → Prop := fun o => rv = some (.int o.1) ∧ μf = o.2
noncomputable def fX_image_0  (v0 : Nat) (μ : xM) : Option (Int32 × xM) := (ldFR μ v0 0 1).bind fun x1 => (ldFR μ v0 0 0).bind fun x2 => (fH_copyFrom x1 x2 μ).bind fun r3 => (stFZ r3 v0 0 2 (xc 1)).bind fun μ4 => (ldFR μ4 v0 0 1).bind fun x5 => (ldF μ4 x5 3 3).bind fun x6 => some ((x6, μ4))
theorem fX_image_0_ok {d : Nat} {v0 : Nat} {μ : xM} {rv : Option Value} {μf : xM} {out : Int32 × xM} (h : fX_image_0 v0 μ = some out) (hK : fX_image_K rv μf out) : xRun (d + 4) 34 0 [some (.ref v0)] [] μ rv μf := by
  unfold fX_image_0 at h
  refine xr_go 1 (pc' := 1) (lo' := [some (.ref v0)]) (st' := [.ref v0]) (μ' := μ) rfl ?_
  obtain ⟨x1, hx1, h⟩ := Option.bind_eq_some_iff.mp h
  refine xr_opA (pc' := 4) (lo' := [some (.ref v0)]) (st' := []) (o := ldFR μ v0 0 1) rfl hx1 ?_
  refine xr_go 1 (pc' := 5) (lo' := [some (.ref v0)]) (st' := [.ref v0, .ref x1]) (μ' := μ) rfl ?_
  obtain ⟨x2, hx2, h⟩ := Option.bind_eq_some_iff.mp h
  refine xr_opA (pc' := 8) (lo' := [some (.ref v0)]) (st' := [.ref x1]) (o := ldFR μ v0 0 0) rfl hx2 ?_
  obtain ⟨r3, hr3, h⟩ := Option.bind_eq_some_iff.mp h
  refine xr_callV (j := 62) (d' := (d + 3)) (rv1 := none) (μ1 := r3) (rest := []) (As := [.ref x2]) rfl rfl rfl rfl (Nat.le_of_ble_eq_true rfl) (fH_copyFrom_kd hr3) rfl (by exact (fH_copyFrom_ok (d := d + (0)) hr3)) ?_
  refine xr_go 2 (pc' := 13) (lo' := [some (.ref v0)]) (st' := [.int (xc 1), .ref v0]) (μ' := r3) rfl ?_
  obtain ⟨μ4, hμ4, h⟩ := Option.bind_eq_some_iff.mp h
  refine xr_opM (pc' := 16) (lo' := [some (.ref v0)]) (st' := []) (o := stFZ r3 v0 0 2 (xc 1)) rfl hμ4 ?_
  refine xr_go 1 (pc' := 17) (lo' := [some (.ref v0)]) (st' := [.ref v0]) (μ' := μ4) rfl ?_
  obtain ⟨x5, hx5, h⟩ := Option.bind_eq_some_iff.mp h
  refine xr_opA (pc' := 20) (lo' := [some (.ref v0)]) (st' := []) (o := ldFR μ4 v0 0 1) rfl hx5 ?_
  obtain ⟨x6, hx6, h⟩ := Option.bind_eq_some_iff.mp h
  refine xr_opI (pc' := 23) (lo' := [some (.ref v0)]) (st' := []) (o := ldF μ4 x5 3 3) rfl hx6 ?_
  have ho := Option.some.inj h
  subst ho
  obtain ⟨rfl, rfl⟩ := hK
  exact xr_ret (rv := some (.int x6)) rfl rfl (Or.inl rfl)
noncomputable def fX_image (a0 : Nat) (μ : xM) : Option (Int32 × xM) := xgd μ a0 0 (fX_image_0 a0 μ)
theorem fX_image_kd {a0 : Nat} {μ : xM} {o : Int32 × xM} (h : fX_image a0 μ = some o) : (xK μ a0).1 = 10 + 0 := (xgd_some h).1
theorem fX_image_ok {d : Nat} {a0 : Nat} {μ : xM} {o : Int32 × xM} (h : fX_image a0 μ = some o) : xRun (d + 4) 34 0 [some (.ref a0)] [] μ (some (.int o.1)) o.2 :=
  xr_forget (lo := [some (.ref a0)]) (⟨rfl, trivial⟩) (fX_image_0_ok (d := d) (xgd_some h).2 (show fX_image_K _ _ o from ⟨rfl, rfl⟩))
-- KeptAnswersModel.move(I)I 
def fM_move_K (rv : Option Value) (μf : xM) : (Int32 × xM) → Prop := fun o => rv = some (.int o.1) ∧ μf = o.2
noncomputable def fM_move_17  (v0 : Nat) (μ : xM) : Option (Int32 × xM) := (ldF μ v0 9 63).bind fun x1 => (stF μ v0 9 63 (x1 + (xc 1))).bind fun μ2 => (ldFR μ2 v0 9 62).bind fun x3 => (ldF μ2 v0 9 63).bind fun x4 => (ldA μ2 x3 (x4 - (xc 1))).bind fun x5 => some ((x5, μ2))
theorem fM_move_17_ok {d : Nat} {v0 : Nat} {μ : xM} {rv : Option Value} {μf : xM} {out : Int32 × xM} (h : fM_move_17 v0 μ = some out) (hK : fM_move_K rv μf out) : xRun (d + 0) 216 17 [some (.ref v0), none] [] μ rv μf := by
  unfold fM_move_17 at h
  refine xr_go 2 (pc' := 19) (lo' := [some (.ref v0), none]) (st' := [.ref v0, .ref v0]) (μ' := μ) rfl ?_
  obtain ⟨x1, hx1, h⟩ := Option.bind_eq_some_iff.mp h
  refine xr_opI (pc' := 22) (lo' := [some (.ref v0), none]) (st' := [.ref v0]) (o := ldF μ v0 9 63) rfl hx1 ?_
  refine xr_go 2 (pc' := 24) (lo' := [some (.ref v0), none]) (st' := [.int (x1 + (xc 1)), .ref v0]) (μ' := μ) rfl ?_
  obtain ⟨μ2, hμ2, h⟩ := Option.bind_eq_some_iff.mp h
  refine xr_opM (pc' := 27) (lo' := [some (.ref v0), none]) (st' := []) (o := stF μ v0 9 63 (x1 + (xc 1))) rfl hμ2 ?_
  refine xr_go 1 (pc' := 28) (lo' := [some (.ref v0), none]) (st' := [.ref v0]) (μ' := μ2) rfl ?_
  obtain ⟨x3, hx3, h⟩ := Option.bind_eq_some_iff.mp h
  refine xr_opA (pc' := 31) (lo' := [some (.ref v0), none]) (st' := []) (o := ldFR μ2 v0 9 62) rfl hx3 ?_
  refine xr_go 1 (pc' := 32) (lo' := [some (.ref v0), none]) (st' := [.ref v0, .ref x3]) (μ' := μ2) rfl ?_
  obtain ⟨x4, hx4, h⟩ := Option.bind_eq_some_iff.mp h
  refine xr_opI (pc' := 35) (lo' := [some (.ref v0), none]) (st' := [.ref x3]) (o := ldF μ2 v0 9 63) rfl hx4 ?_
  refine xr_go 2 (pc' := 37) (lo' := [some (.ref v0), none]) (st' := [.int (x4 - (xc 1)), .ref x3]) (μ' := μ2) rfl ?_
  obtain ⟨x5, hx5, h⟩ := Option.bind_eq_some_iff.mp h
  refine xr_opI (pc' := 38) (lo' := [some (.ref v0), none]) (st' := []) (o := ldA μ2 x3 (x4 - (xc 1))) rfl hx5 ?_
  have ho := Option.some.inj h
  subst ho
  obtain ⟨rfl, rfl⟩ := hK
  exact xr_ret (rv := some (.int x5)) rfl rfl (Or.inl rfl)
noncomputable def fM_move_0  (v0 : Nat) (v1 : Int32) (μ : xM) : Option (Int32 × xM) := (ldF μ v0 9 64).bind fun x6 => if x6 = 0 then (fM_move_17 v0 μ) else ((ldFR μ v0 9 62).bind fun x7 => (ldF μ v0 9 63).bind fun x8 => (stA μ x7 x8 v1).bind fun μ9 => fM_move_17 v0 μ9)
theorem fM_move_0_ok {d : Nat} {v0 : Nat} {v1 : Int32} {μ : xM} {rv : Option Value} {μf : xM} {out : Int32 × xM} (h : fM_move_0 v0 v1 μ = some out) (hK : fM_move_K rv μf out) : xRun (d + 0) 216 0 [some (.ref v0), some (.int v1)] [] μ rv μf := by
  unfold fM_move_0 at h
  refine xr_go 1 (pc' := 1) (lo' := [some (.ref v0), some (.int v1)]) (st' := [.ref v0]) (μ' := μ) rfl ?_
  obtain ⟨x6, hx6, h⟩ := Option.bind_eq_some_iff.mp h
  refine xr_opI (pc' := 4) (lo' := [some (.ref v0), some (.int v1)]) (st' := []) (o := ldF μ v0 9 64) rfl hx6 ?_
  refine xr_ifc (pct := 17) rfl rfl rfl (fun hc => ?_) (fun hc => ?_)
  · replace h := (if_pos (of_decide_eq_true hc)).symm.trans h
    refine xr_forget (lo := [some (.ref v0), none]) ⟨rfl, trivial⟩ ?_
    exact fM_move_17_ok h hK
  · replace h := (if_neg (of_decide_eq_false hc)).symm.trans h
    refine xr_go 1 (pc' := 8) (lo' := [some (.ref v0), some (.int v1)]) (st' := [.ref v0]) (μ' := μ) rfl ?_
    obtain ⟨x7, hx7, h⟩ := Option.bind_eq_some_iff.mp h
    refine xr_opA (pc' := 11) (lo' := [some (.ref v0), some (.int v1)]) (st' := []) (o := ldFR μ v0 9 62) rfl hx7 ?_
    refine xr_go 1 (pc' := 12) (lo' := [some (.ref v0), some (.int v1)]) (st' := [.ref v0, .ref x7]) (μ' := μ) rfl ?_
    obtain ⟨x8, hx8, h⟩ := Option.bind_eq_some_iff.mp h
    refine xr_opI (pc' := 15) (lo' := [some (.ref v0), some (.int v1)]) (st' := [.ref x7]) (o := ldF μ v0 9 63) rfl hx8 ?_
    refine xr_go 1 (pc' := 16) (lo' := [some (.ref v0), some (.int v1)]) (st' := [.int v1, .int x8, .ref x7]) (μ' := μ) rfl ?_
    obtain ⟨μ9, hμ9, h⟩ := Option.bind_eq_some_iff.mp h
    refine xr_opM (pc' := 17) (lo' := [some (.ref v0), some (.int v1)]) (st' := []) (o := stA μ x7 x8 v1) rfl hμ9 ?_
    refine xr_forget (lo := [some (.ref v0), none]) ⟨rfl, trivial⟩ ?_
    exact fM_move_17_ok h hK
noncomputable def fM_move (a0 : Nat) (a1 : Int32) (μ : xM) : Option (Int32 × xM) := xgd μ a0 9 (fM_move_0 a0 a1 μ)
theorem fM_move_kd {a0 : Nat} {a1 : Int32} {μ : xM} {o : Int32 × xM} (h : fM_move a0 a1 μ = some o) : (xK μ a0).1 = 10 + 9 := (xgd_some h).1
theorem fM_move_ok {d : Nat} {a0 : Nat} {a1 : Int32} {μ : xM} {o : Int32 × xM} (h : fM_move a0 a1 μ = some o) : xRun (d + 0) 216 0 [some (.ref a0), some (.int a1)] [] μ (some (.int o.1)) o.2 :=
  xr_forget (lo := [some (.ref a0), some (.int a1)]) (⟨rfl, rfl, trivial⟩) (fM_move_0_ok (d := d) (xgd_some h).2 (show fM_move_K _ _ o from ⟨rfl, rfl⟩))
-- KeptAnswersModel.moveAll()V 
def fM_moveAll_K (rv : Option Value) (μf : xM) : (xM) → Prop := fun o => rv = none ∧ μf = o
def fM_moveAll_K117 (v0 : Nat) (d : Nat) (rv : Option Value) (μf : xM) : ((Int32 × xM) ⊕ (xM)) → Prop := Sum.elim (fun s : Int32 × xM => xRun (d + 1) 217 117 [some (.ref v0), some (.int s.1)] [] s.2 rv μf) (fM_moveAll_K rv μf)
def fM_moveAll_K55 (v0 : Nat) (d : Nat) (rv : Option Value) (μf : xM) : ((Int32 × xM) ⊕ (xM)) → Prop := Sum.elim (fun s : Int32 × xM => xRun (d + 1) 217 55 [some (.ref v0), some (.int s.1)] [] s.2 rv μf) (fM_moveAll_K rv μf)
def fM_moveAll_K244 (v0 : Nat) (d : Nat) (rv : Option Value) (μf : xM) : ((Int32 × xM) ⊕ (xM)) → Prop := Sum.elim (fun s : Int32 × xM => xRun (d + 1) 217 244 [some (.ref v0), some (.int s.1)] [] s.2 rv μf) (fM_moveAll_K rv μf)
noncomputable def fM_moveAll_L244  (v0 : Nat) (v1 : Int32) (μ : xM) : Option ((Int32 × xM) ⊕ (xM)) := if (xc 10) ≤ v1 then (some (.inr μ)) else ((ldFR μ v0 9 17).bind fun x1 => (ldFR μ v0 9 17).bind fun x2 => (ldA μ x2 v1).bind fun x3 => (fM_move v0 x3 μ).bind fun r4 => (stA r4.2 x1 v1 r4.1).bind fun μ5 => some (.inl ((v1 + xc 1, μ5))))
theorem fM_moveAll_L244_ok {d : Nat} {v0 : Nat} {v1 : Int32} {μ : xM} {rv : Option Value} {μf : xM} {out : (Int32 × xM) ⊕ (xM)} (h : fM_moveAll_L244 v0 v1 μ = some out) (hK : fM_moveAll_K244 v0 d rv μf out) : xRun (d + 1) 217 244 [some (.ref v0), some (.int v1)] [] μ rv μf := by
  unfold fM_moveAll_L244 at h
  refine xr_go 2 (pc' := 247) (lo' := [some (.ref v0), some (.int v1)]) (st' := [.int (xc 10), .int v1]) (μ' := μ) rfl ?_
  refine xr_icmp (pct := 272) rfl rfl rfl (fun hc => ?_) (fun hc => ?_)
  · replace h := (if_pos (of_decide_eq_true hc)).symm.trans h
    have ho := Option.some.inj h
    subst ho
    obtain ⟨rfl, rfl⟩ := hK
    exact xr_ret (rv := none) rfl rfl (rfl)
  · replace h := (if_neg (of_decide_eq_false hc)).symm.trans h
    refine xr_go 1 (pc' := 251) (lo' := [some (.ref v0), some (.int v1)]) (st' := [.ref v0]) (μ' := μ) rfl ?_
    obtain ⟨x1, hx1, h⟩ := Option.bind_eq_some_iff.mp h
    refine xr_opA (pc' := 254) (lo' := [some (.ref v0), some (.int v1)]) (st' := []) (o := ldFR μ v0 9 17) rfl hx1 ?_
    refine xr_go 3 (pc' := 257) (lo' := [some (.ref v0), some (.int v1)]) (st' := [.ref v0, .ref v0, .int v1, .ref x1]) (μ' := μ) rfl ?_
    obtain ⟨x2, hx2, h⟩ := Option.bind_eq_some_iff.mp h
    refine xr_opA (pc' := 260) (lo' := [some (.ref v0), some (.int v1)]) (st' := [.ref v0, .int v1, .ref x1]) (o := ldFR μ v0 9 17) rfl hx2 ?_
    refine xr_go 1 (pc' := 261) (lo' := [some (.ref v0), some (.int v1)]) (st' := [.int v1, .ref x2, .ref v0, .int v1, .ref x1]) (μ' := μ) rfl ?_
    obtain ⟨x3, hx3, h⟩ := Option.bind_eq_some_iff.mp h
    refine xr_opI (pc' := 262) (lo' := [some (.ref v0), some (.int v1)]) (st' := [.ref v0, .int v1, .ref x1]) (o := ldA μ x2 v1) rfl hx3 ?_
    obtain ⟨r4, hr4, h⟩ := Option.bind_eq_some_iff.mp h
    refine xr_callV (j := 216) (d' := (d + 0)) (rv1 := some (.int r4.1)) (μ1 := r4.2) (rest := [.int v1, .ref x1]) (As := [.int x3]) rfl rfl rfl rfl (Nat.le_of_ble_eq_true rfl) (fM_move_kd hr4) rfl (by exact (fM_move_ok (d := d + (0)) hr4)) ?_
    obtain ⟨μ5, hμ5, h⟩ := Option.bind_eq_some_iff.mp h
    refine xr_opM (pc' := 266) (lo' := [some (.ref v0), some (.int v1)]) (st' := []) (o := stA r4.2 x1 v1 r4.1) rfl hμ5 ?_
    refine xr_go 2 (pc' := 244) (lo' := [some (.ref v0), some (.int (v1 + xc 1))]) (st' := []) (μ' := μ5) rfl ?_
    refine xr_forget (lo := [some (.ref v0), some (.int (v1 + xc 1))]) ⟨rfl, rfl, trivial⟩ ?_
    have ho := Option.some.inj h
    subst ho
    exact hK
theorem fM_moveAll_L244_lp {d : Nat} {v0 : Nat} {v1 : Int32} {μ : xM} {rv : Option Value} {μf : xM} {out : xM} (h : xwh (fun s : Int32 × xM => fM_moveAll_L244 v0 s.1 s.2) (v1, μ) = some out) (hK : fM_moveAll_K rv μf out) : xRun (d + 1) 217 244 [some (.ref v0), some (.int v1)] [] μ rv μf :=
  xwh_ind (Rh := fun s : Int32 × xM => xRun (d + 1) 217 244 [some (.ref v0), some (.int s.1)] [] s.2 rv μf) (Co := fM_moveAll_K rv μf) (fun s o hb hk => fM_moveAll_L244_ok hb hk) h hK
noncomputable def fM_moveAll_242  (v0 : Nat) (μ : xM) : Option (xM) := xwh (fun s : Int32 × xM => fM_moveAll_L244 v0 s.1 s.2) (xc 0, μ)
theorem fM_moveAll_242_ok {d : Nat} {v0 : Nat} {μ : xM} {rv : Option Value} {μf : xM} {out : xM} (h : fM_moveAll_242 v0 μ = some out) (hK : fM_moveAll_K rv μf out) : xRun (d + 1) 217 242 [some (.ref v0), none] [] μ rv μf := by
  unfold fM_moveAll_242 at h
  refine xr_go 2 (pc' := 244) (lo' := [some (.ref v0), some (.int (xc 0))]) (st' := []) (μ' := μ) rfl ?_
  refine xr_forget (lo := [some (.ref v0), some (.int (xc 0))]) ⟨rfl, rfl, trivial⟩ ?_
  exact fM_moveAll_L244_lp h hK
noncomputable def fM_moveAll_235  (v0 : Nat) (v1 : Int32) (s0 : Int32) (s1 : Int32) (s2 : Nat) (μ : xM) : Option ((Int32 × xM) ⊕ (xM)) := (stAZ μ s2 s1 s0).bind fun μ6 => some (.inl ((v1 + xc 1, μ6)))
theorem fM_moveAll_235_ok {d : Nat} {v0 : Nat} {v1 : Int32} {s0 : Int32} {s1 : Int32} {s2 : Nat} {μ : xM} {rv : Option Value} {μf : xM} {out : (Int32 × xM) ⊕ (xM)} (h : fM_moveAll_235 v0 v1 s0 s1 s2 μ = some out) (hK : fM_moveAll_K117 v0 d rv μf out) : xRun (d + 1) 217 235 [some (.ref v0), some (.int v1)] [.int s0, .int s1, .ref s2] μ rv μf := by
  unfold fM_moveAll_235 at h
  obtain ⟨μ6, hμ6, h⟩ := Option.bind_eq_some_iff.mp h
  refine xr_opM (pc' := 236) (lo' := [some (.ref v0), some (.int v1)]) (st' := []) (o := stAZ μ s2 s1 s0) rfl hμ6 ?_
  refine xr_go 2 (pc' := 117) (lo' := [some (.ref v0), some (.int (v1 + xc 1))]) (st' := []) (μ' := μ6) rfl ?_
  refine xr_forget (lo := [some (.ref v0), some (.int (v1 + xc 1))]) ⟨rfl, rfl, trivial⟩ ?_
  have ho := Option.some.inj h
  subst ho
  exact hK
noncomputable def fM_moveAll_223  (v0 : Nat) (v1 : Int32) (s0 : Int32) (s1 : Nat) (s2 : Int32) (s3 : Nat) (μ : xM) : Option ((Int32 × xM) ⊕ (xM)) := (fM_move s1 s0 μ).bind fun r7 => if r7.1 = (xc 1) then (fM_moveAll_235 v0 v1 (xc 1) s2 s3 r7.2) else (fM_moveAll_235 v0 v1 (xc 0) s2 s3 r7.2)
theorem fM_moveAll_223_ok {d : Nat} {v0 : Nat} {v1 : Int32} {s0 : Int32} {s1 : Nat} {s2 : Int32} {s3 : Nat} {μ : xM} {rv : Option Value} {μf : xM} {out : (Int32 × xM) ⊕ (xM)} (h : fM_moveAll_223 v0 v1 s0 s1 s2 s3 μ = some out) (hK : fM_moveAll_K117 v0 d rv μf out) : xRun (d + 1) 217 223 [some (.ref v0), some (.int v1)] [.int s0, .ref s1, .int s2, .ref s3] μ rv μf := by
  unfold fM_moveAll_223 at h
  obtain ⟨r7, hr7, h⟩ := Option.bind_eq_some_iff.mp h
  refine xr_callV (j := 216) (d' := (d + 0)) (rv1 := some (.int r7.1)) (μ1 := r7.2) (rest := [.int s2, .ref s3]) (As := [.int s0]) rfl rfl rfl rfl (Nat.le_of_ble_eq_true rfl) (fM_move_kd hr7) rfl (by exact (fM_move_ok (d := d + (0)) hr7)) ?_
  refine xr_go 1 (pc' := 227) (lo' := [some (.ref v0), some (.int v1)]) (st' := [.int (xc 1), .int r7.1, .int s2, .ref s3]) (μ' := r7.2) rfl ?_
  refine xr_icmp (pct := 234) rfl rfl rfl (fun hc => ?_) (fun hc => ?_)
  · replace h := (if_neg (of_decide_eq_true hc)).symm.trans h
    refine xr_go 1 (pc' := 235) (lo' := [some (.ref v0), some (.int v1)]) (st' := [.int (xc 0), .int s2, .ref s3]) (μ' := r7.2) rfl ?_
    refine xr_forget (lo := [some (.ref v0), some (.int v1)]) ⟨rfl, rfl, trivial⟩ ?_
    exact fM_moveAll_235_ok h hK
  · replace h := (if_pos (Decidable.of_not_not (of_decide_eq_false hc))).symm.trans h
    refine xr_go 2 (pc' := 235) (lo' := [some (.ref v0), some (.int v1)]) (st' := [.int (xc 1), .int s2, .ref s3]) (μ' := r7.2) rfl ?_
    refine xr_forget (lo := [some (.ref v0), some (.int v1)]) ⟨rfl, rfl, trivial⟩ ?_
    exact fM_moveAll_235_ok h hK
noncomputable def fM_moveAll_L117  (v0 : Nat) (v1 : Int32) (μ : xM) : Option ((Int32 × xM) ⊕ (xM)) := if (xc 6) ≤ v1 then ((fM_moveAll_242 v0 μ).map (fun o => .inr o)) else ((ldFR μ v0 9 16).bind fun x8 => (ldFR μ v0 9 16).bind fun x9 => (ldA μ x9 v1).bind fun x10 => (fM_move v0 x10 μ).bind fun r11 => (stA r11.2 x8 v1 r11.1).bind fun μ12 => (ldFR μ12 v0 9 18).bind fun x13 => (ldFR μ12 v0 9 18).bind fun x14 => (ldA μ12 x14 v1).bind fun x15 => (fM_move v0 x15 μ12).bind fun r16 => (stA r16.2 x13 v1 r16.1).bind fun μ17 => (ldFR μ17 v0 9 19).bind fun x18 => (ldFR μ17 v0 9 19).bind fun x19 => (ldA μ17 x19 v1).bind fun x20 => (fM_move v0 x20 μ17).bind fun r21 => (stA r21.2 x18 v1 r21.1).bind fun μ22 => (ldFR μ22 v0 9 20).bind fun x23 => (ldFR μ22 v0 9 20).bind fun x24 => (ldA μ22 x24 v1).bind fun x25 => (fM_move v0 x25 μ22).bind fun r26 => (stA r26.2 x23 v1 r26.1).bind fun μ27 => (ldFR μ27 v0 9 21).bind fun x28 => (ldFR μ27 v0 9 21).bind fun x29 => (ldA μ27 x29 v1).bind fun x30 => (fM_move v0 x30 μ27).bind fun r31 => (stA r31.2 x28 v1 r31.1).bind fun μ32 => (ldFR μ32 v0 9 22).bind fun x33 => (ldFR μ32 v0 9 22).bind fun x34 => (ldAZ μ32 x34 v1).bind fun x35 => if x35 = 0 then (fM_moveAll_223 v0 v1 (xc 0) v0 v1 x33 μ32) else (fM_moveAll_223 v0 v1 (xc 1) v0 v1 x33 μ32))
theorem fM_moveAll_L117_ok {d : Nat} {v0 : Nat} {v1 : Int32} {μ : xM} {rv : Option Value} {μf : xM} {out : (Int32 × xM) ⊕ (xM)} (h : fM_moveAll_L117 v0 v1 μ = some out) (hK : fM_moveAll_K117 v0 d rv μf out) : xRun (d + 1) 217 117 [some (.ref v0), some (.int v1)] [] μ rv μf := by
  unfold fM_moveAll_L117 at h
  refine xr_go 2 (pc' := 120) (lo' := [some (.ref v0), some (.int v1)]) (st' := [.int (xc 6), .int v1]) (μ' := μ) rfl ?_
  refine xr_icmp (pct := 242) rfl rfl rfl (fun hc => ?_) (fun hc => ?_)
  · replace h := (if_pos (of_decide_eq_true hc)).symm.trans h
    refine xr_forget (lo := [some (.ref v0), none]) ⟨rfl, trivial⟩ ?_
    obtain ⟨o, h2, rfl⟩ := Option.map_eq_some_iff.mp h
    exact fM_moveAll_242_ok h2 hK
  · replace h := (if_neg (of_decide_eq_false hc)).symm.trans h
    refine xr_go 1 (pc' := 124) (lo' := [some (.ref v0), some (.int v1)]) (st' := [.ref v0]) (μ' := μ) rfl ?_
    obtain ⟨x8, hx8, h⟩ := Option.bind_eq_some_iff.mp h
    refine xr_opA (pc' := 127) (lo' := [some (.ref v0), some (.int v1)]) (st' := []) (o := ldFR μ v0 9 16) rfl hx8 ?_
    refine xr_go 3 (pc' := 130) (lo' := [some (.ref v0), some (.int v1)]) (st' := [.ref v0, .ref v0, .int v1, .ref x8]) (μ' := μ) rfl ?_
    obtain ⟨x9, hx9, h⟩ := Option.bind_eq_some_iff.mp h
    refine xr_opA (pc' := 133) (lo' := [some (.ref v0), some (.int v1)]) (st' := [.ref v0, .int v1, .ref x8]) (o := ldFR μ v0 9 16) rfl hx9 ?_
    refine xr_go 1 (pc' := 134) (lo' := [some (.ref v0), some (.int v1)]) (st' := [.int v1, .ref x9, .ref v0, .int v1, .ref x8]) (μ' := μ) rfl ?_
    obtain ⟨x10, hx10, h⟩ := Option.bind_eq_some_iff.mp h
    refine xr_opI (pc' := 135) (lo' := [some (.ref v0), some (.int v1)]) (st' := [.ref v0, .int v1, .ref x8]) (o := ldA μ x9 v1) rfl hx10 ?_
    obtain ⟨r11, hr11, h⟩ := Option.bind_eq_some_iff.mp h
    refine xr_callV (j := 216) (d' := (d + 0)) (rv1 := some (.int r11.1)) (μ1 := r11.2) (rest := [.int v1, .ref x8]) (As := [.int x10]) rfl rfl rfl rfl (Nat.le_of_ble_eq_true rfl) (fM_move_kd hr11) rfl (by exact (fM_move_ok (d := d + (0)) hr11)) ?_
    obtain ⟨μ12, hμ12, h⟩ := Option.bind_eq_some_iff.mp h
    refine xr_opM (pc' := 139) (lo' := [some (.ref v0), some (.int v1)]) (st' := []) (o := stA r11.2 x8 v1 r11.1) rfl hμ12 ?_
    refine xr_go 1 (pc' := 140) (lo' := [some (.ref v0), some (.int v1)]) (st' := [.ref v0]) (μ' := μ12) rfl ?_
    obtain ⟨x13, hx13, h⟩ := Option.bind_eq_some_iff.mp h
    refine xr_opA (pc' := 143) (lo' := [some (.ref v0), some (.int v1)]) (st' := []) (o := ldFR μ12 v0 9 18) rfl hx13 ?_
    refine xr_go 3 (pc' := 146) (lo' := [some (.ref v0), some (.int v1)]) (st' := [.ref v0, .ref v0, .int v1, .ref x13]) (μ' := μ12) rfl ?_
    obtain ⟨x14, hx14, h⟩ := Option.bind_eq_some_iff.mp h
    refine xr_opA (pc' := 149) (lo' := [some (.ref v0), some (.int v1)]) (st' := [.ref v0, .int v1, .ref x13]) (o := ldFR μ12 v0 9 18) rfl hx14 ?_
    refine xr_go 1 (pc' := 150) (lo' := [some (.ref v0), some (.int v1)]) (st' := [.int v1, .ref x14, .ref v0, .int v1, .ref x13]) (μ' := μ12) rfl ?_
    obtain ⟨x15, hx15, h⟩ := Option.bind_eq_some_iff.mp h
    refine xr_opI (pc' := 151) (lo' := [some (.ref v0), some (.int v1)]) (st' := [.ref v0, .int v1, .ref x13]) (o := ldA μ12 x14 v1) rfl hx15 ?_
    obtain ⟨r16, hr16, h⟩ := Option.bind_eq_some_iff.mp h
    refine xr_callV (j := 216) (d' := (d + 0)) (rv1 := some (.int r16.1)) (μ1 := r16.2) (rest := [.int v1, .ref x13]) (As := [.int x15]) rfl rfl rfl rfl (Nat.le_of_ble_eq_true rfl) (fM_move_kd hr16) rfl (by exact (fM_move_ok (d := d + (0)) hr16)) ?_
    obtain ⟨μ17, hμ17, h⟩ := Option.bind_eq_some_iff.mp h
    refine xr_opM (pc' := 155) (lo' := [some (.ref v0), some (.int v1)]) (st' := []) (o := stA r16.2 x13 v1 r16.1) rfl hμ17 ?_
    refine xr_go 1 (pc' := 156) (lo' := [some (.ref v0), some (.int v1)]) (st' := [.ref v0]) (μ' := μ17) rfl ?_
    obtain ⟨x18, hx18, h⟩ := Option.bind_eq_some_iff.mp h
    refine xr_opA (pc' := 159) (lo' := [some (.ref v0), some (.int v1)]) (st' := []) (o := ldFR μ17 v0 9 19) rfl hx18 ?_
    refine xr_go 3 (pc' := 162) (lo' := [some (.ref v0), some (.int v1)]) (st' := [.ref v0, .ref v0, .int v1, .ref x18]) (μ' := μ17) rfl ?_
    obtain ⟨x19, hx19, h⟩ := Option.bind_eq_some_iff.mp h
    refine xr_opA (pc' := 165) (lo' := [some (.ref v0), some (.int v1)]) (st' := [.ref v0, .int v1, .ref x18]) (o := ldFR μ17 v0 9 19) rfl hx19 ?_
    refine xr_go 1 (pc' := 166) (lo' := [some (.ref v0), some (.int v1)]) (st' := [.int v1, .ref x19, .ref v0, .int v1, .ref x18]) (μ' := μ17) rfl ?_
    obtain ⟨x20, hx20, h⟩ := Option.bind_eq_some_iff.mp h
    refine xr_opI (pc' := 167) (lo' := [some (.ref v0), some (.int v1)]) (st' := [.ref v0, .int v1, .ref x18]) (o := ldA μ17 x19 v1) rfl hx20 ?_
    obtain ⟨r21, hr21, h⟩ := Option.bind_eq_some_iff.mp h
    refine xr_callV (j := 216) (d' := (d + 0)) (rv1 := some (.int r21.1)) (μ1 := r21.2) (rest := [.int v1, .ref x18]) (As := [.int x20]) rfl rfl rfl rfl (Nat.le_of_ble_eq_true rfl) (fM_move_kd hr21) rfl (by exact (fM_move_ok (d := d + (0)) hr21)) ?_
    obtain ⟨μ22, hμ22, h⟩ := Option.bind_eq_some_iff.mp h
    refine xr_opM (pc' := 171) (lo' := [some (.ref v0), some (.int v1)]) (st' := []) (o := stA r21.2 x18 v1 r21.1) rfl hμ22 ?_
    refine xr_go 1 (pc' := 172) (lo' := [some (.ref v0), some (.int v1)]) (st' := [.ref v0]) (μ' := μ22) rfl ?_
    obtain ⟨x23, hx23, h⟩ := Option.bind_eq_some_iff.mp h
    refine xr_opA (pc' := 175) (lo' := [some (.ref v0), some (.int v1)]) (st' := []) (o := ldFR μ22 v0 9 20) rfl hx23 ?_
    refine xr_go 3 (pc' := 178) (lo' := [some (.ref v0), some (.int v1)]) (st' := [.ref v0, .ref v0, .int v1, .ref x23]) (μ' := μ22) rfl ?_
    obtain ⟨x24, hx24, h⟩ := Option.bind_eq_some_iff.mp h
    refine xr_opA (pc' := 181) (lo' := [some (.ref v0), some (.int v1)]) (st' := [.ref v0, .int v1, .ref x23]) (o := ldFR μ22 v0 9 20) rfl hx24 ?_
    refine xr_go 1 (pc' := 182) (lo' := [some (.ref v0), some (.int v1)]) (st' := [.int v1, .ref x24, .ref v0, .int v1, .ref x23]) (μ' := μ22) rfl ?_
    obtain ⟨x25, hx25, h⟩ := Option.bind_eq_some_iff.mp h
    refine xr_opI (pc' := 183) (lo' := [some (.ref v0), some (.int v1)]) (st' := [.ref v0, .int v1, .ref x23]) (o := ldA μ22 x24 v1) rfl hx25 ?_
    obtain ⟨r26, hr26, h⟩ := Option.bind_eq_some_iff.mp h
    refine xr_callV (j := 216) (d' := (d + 0)) (rv1 := some (.int r26.1)) (μ1 := r26.2) (rest := [.int v1, .ref x23]) (As := [.int x25]) rfl rfl rfl rfl (Nat.le_of_ble_eq_true rfl) (fM_move_kd hr26) rfl (by exact (fM_move_ok (d := d + (0)) hr26)) ?_
    obtain ⟨μ27, hμ27, h⟩ := Option.bind_eq_some_iff.mp h
    refine xr_opM (pc' := 187) (lo' := [some (.ref v0), some (.int v1)]) (st' := []) (o := stA r26.2 x23 v1 r26.1) rfl hμ27 ?_
    refine xr_go 1 (pc' := 188) (lo' := [some (.ref v0), some (.int v1)]) (st' := [.ref v0]) (μ' := μ27) rfl ?_
    obtain ⟨x28, hx28, h⟩ := Option.bind_eq_some_iff.mp h
    refine xr_opA (pc' := 191) (lo' := [some (.ref v0), some (.int v1)]) (st' := []) (o := ldFR μ27 v0 9 21) rfl hx28 ?_
    refine xr_go 3 (pc' := 194) (lo' := [some (.ref v0), some (.int v1)]) (st' := [.ref v0, .ref v0, .int v1, .ref x28]) (μ' := μ27) rfl ?_
    obtain ⟨x29, hx29, h⟩ := Option.bind_eq_some_iff.mp h
    refine xr_opA (pc' := 197) (lo' := [some (.ref v0), some (.int v1)]) (st' := [.ref v0, .int v1, .ref x28]) (o := ldFR μ27 v0 9 21) rfl hx29 ?_
    refine xr_go 1 (pc' := 198) (lo' := [some (.ref v0), some (.int v1)]) (st' := [.int v1, .ref x29, .ref v0, .int v1, .ref x28]) (μ' := μ27) rfl ?_
    obtain ⟨x30, hx30, h⟩ := Option.bind_eq_some_iff.mp h
    refine xr_opI (pc' := 199) (lo' := [some (.ref v0), some (.int v1)]) (st' := [.ref v0, .int v1, .ref x28]) (o := ldA μ27 x29 v1) rfl hx30 ?_
    obtain ⟨r31, hr31, h⟩ := Option.bind_eq_some_iff.mp h
    refine xr_callV (j := 216) (d' := (d + 0)) (rv1 := some (.int r31.1)) (μ1 := r31.2) (rest := [.int v1, .ref x28]) (As := [.int x30]) rfl rfl rfl rfl (Nat.le_of_ble_eq_true rfl) (fM_move_kd hr31) rfl (by exact (fM_move_ok (d := d + (0)) hr31)) ?_
    obtain ⟨μ32, hμ32, h⟩ := Option.bind_eq_some_iff.mp h
    refine xr_opM (pc' := 203) (lo' := [some (.ref v0), some (.int v1)]) (st' := []) (o := stA r31.2 x28 v1 r31.1) rfl hμ32 ?_
    refine xr_go 1 (pc' := 204) (lo' := [some (.ref v0), some (.int v1)]) (st' := [.ref v0]) (μ' := μ32) rfl ?_
    obtain ⟨x33, hx33, h⟩ := Option.bind_eq_some_iff.mp h
    refine xr_opA (pc' := 207) (lo' := [some (.ref v0), some (.int v1)]) (st' := []) (o := ldFR μ32 v0 9 22) rfl hx33 ?_
    refine xr_go 3 (pc' := 210) (lo' := [some (.ref v0), some (.int v1)]) (st' := [.ref v0, .ref v0, .int v1, .ref x33]) (μ' := μ32) rfl ?_
    obtain ⟨x34, hx34, h⟩ := Option.bind_eq_some_iff.mp h
    refine xr_opA (pc' := 213) (lo' := [some (.ref v0), some (.int v1)]) (st' := [.ref v0, .int v1, .ref x33]) (o := ldFR μ32 v0 9 22) rfl hx34 ?_
    refine xr_go 1 (pc' := 214) (lo' := [some (.ref v0), some (.int v1)]) (st' := [.int v1, .ref x34, .ref v0, .int v1, .ref x33]) (μ' := μ32) rfl ?_
    obtain ⟨x35, hx35, h⟩ := Option.bind_eq_some_iff.mp h
    refine xr_opI (pc' := 215) (lo' := [some (.ref v0), some (.int v1)]) (st' := [.ref v0, .int v1, .ref x33]) (o := ldAZ μ32 x34 v1) rfl hx35 ?_
    refine xr_ifc (pct := 222) rfl rfl rfl (fun hc => ?_) (fun hc => ?_)
    · replace h := (if_pos (of_decide_eq_true hc)).symm.trans h
      refine xr_go 1 (pc' := 223) (lo' := [some (.ref v0), some (.int v1)]) (st' := [.int (xc 0), .ref v0, .int v1, .ref x33]) (μ' := μ32) rfl ?_
      refine xr_forget (lo := [some (.ref v0), some (.int v1)]) ⟨rfl, rfl, trivial⟩ ?_
      exact fM_moveAll_223_ok h hK
    · replace h := (if_neg (of_decide_eq_false hc)).symm.trans h
      refine xr_go 2 (pc' := 223) (lo' := [some (.ref v0), some (.int v1)]) (st' := [.int (xc 1), .ref v0, .int v1, .ref x33]) (μ' := μ32) rfl ?_
      refine xr_forget (lo := [some (.ref v0), some (.int v1)]) ⟨rfl, rfl, trivial⟩ ?_
      exact fM_moveAll_223_ok h hK
theorem fM_moveAll_L117_lp {d : Nat} {v0 : Nat} {v1 : Int32} {μ : xM} {rv : Option Value} {μf : xM} {out : xM} (h : xwh (fun s : Int32 × xM => fM_moveAll_L117 v0 s.1 s.2) (v1, μ) = some out) (hK : fM_moveAll_K rv μf out) : xRun (d + 1) 217 117 [some (.ref v0), some (.int v1)] [] μ rv μf :=
  xwh_ind (Rh := fun s : Int32 × xM => xRun (d + 1) 217 117 [some (.ref v0), some (.int s.1)] [] s.2 rv μf) (Co := fM_moveAll_K rv μf) (fun s o hb hk => fM_moveAll_L117_ok hb hk) h hK
noncomputable def fM_moveAll_115  (v0 : Nat) (μ : xM) : Option (xM) := xwh (fun s : Int32 × xM => fM_moveAll_L117 v0 s.1 s.2) (xc 0, μ)
theorem fM_moveAll_115_ok {d : Nat} {v0 : Nat} {μ : xM} {rv : Option Value} {μf : xM} {out : xM} (h : fM_moveAll_115 v0 μ = some out) (hK : fM_moveAll_K rv μf out) : xRun (d + 1) 217 115 [some (.ref v0), none] [] μ rv μf := by
  unfold fM_moveAll_115 at h
  refine xr_go 2 (pc' := 117) (lo' := [some (.ref v0), some (.int (xc 0))]) (st' := []) (μ' := μ) rfl ?_
  refine xr_forget (lo := [some (.ref v0), some (.int (xc 0))]) ⟨rfl, rfl, trivial⟩ ?_
  exact fM_moveAll_L117_lp h hK
noncomputable def fM_moveAll_108  (v0 : Nat) (v1 : Int32) (s0 : Int32) (s1 : Int32) (s2 : Nat) (μ : xM) : Option ((Int32 × xM) ⊕ (xM)) := (stAZ μ s2 s1 s0).bind fun μ36 => some (.inl ((v1 + xc 1, μ36)))
theorem fM_moveAll_108_ok {d : Nat} {v0 : Nat} {v1 : Int32} {s0 : Int32} {s1 : Int32} {s2 : Nat} {μ : xM} {rv : Option Value} {μf : xM} {out : (Int32 × xM) ⊕ (xM)} (h : fM_moveAll_108 v0 v1 s0 s1 s2 μ = some out) (hK : fM_moveAll_K55 v0 d rv μf out) : xRun (d + 1) 217 108 [some (.ref v0), some (.int v1)] [.int s0, .int s1, .ref s2] μ rv μf := by
  unfold fM_moveAll_108 at h
  obtain ⟨μ36, hμ36, h⟩ := Option.bind_eq_some_iff.mp h
  refine xr_opM (pc' := 109) (lo' := [some (.ref v0), some (.int v1)]) (st' := []) (o := stAZ μ s2 s1 s0) rfl hμ36 ?_
  refine xr_go 2 (pc' := 55) (lo' := [some (.ref v0), some (.int (v1 + xc 1))]) (st' := []) (μ' := μ36) rfl ?_
  refine xr_forget (lo := [some (.ref v0), some (.int (v1 + xc 1))]) ⟨rfl, rfl, trivial⟩ ?_
  have ho := Option.some.inj h
  subst ho
  exact hK
noncomputable def fM_moveAll_96  (v0 : Nat) (v1 : Int32) (s0 : Int32) (s1 : Nat) (s2 : Int32) (s3 : Nat) (μ : xM) : Option ((Int32 × xM) ⊕ (xM)) := (fM_move s1 s0 μ).bind fun r37 => if r37.1 = (xc 1) then (fM_moveAll_108 v0 v1 (xc 1) s2 s3 r37.2) else (fM_moveAll_108 v0 v1 (xc 0) s2 s3 r37.2)
theorem fM_moveAll_96_ok {d : Nat} {v0 : Nat} {v1 : Int32} {s0 : Int32} {s1 : Nat} {s2 : Int32} {s3 : Nat} {μ : xM} {rv : Option Value} {μf : xM} {out : (Int32 × xM) ⊕ (xM)} (h : fM_moveAll_96 v0 v1 s0 s1 s2 s3 μ = some out) (hK : fM_moveAll_K55 v0 d rv μf out) : xRun (d + 1) 217 96 [some (.ref v0), some (.int v1)] [.int s0, .ref s1, .int s2, .ref s3] μ rv μf := by
  unfold fM_moveAll_96 at h
  obtain ⟨r37, hr37, h⟩ := Option.bind_eq_some_iff.mp h
  refine xr_callV (j := 216) (d' := (d + 0)) (rv1 := some (.int r37.1)) (μ1 := r37.2) (rest := [.int s2, .ref s3]) (As := [.int s0]) rfl rfl rfl rfl (Nat.le_of_ble_eq_true rfl) (fM_move_kd hr37) rfl (by exact (fM_move_ok (d := d + (0)) hr37)) ?_
  refine xr_go 1 (pc' := 100) (lo' := [some (.ref v0), some (.int v1)]) (st' := [.int (xc 1), .int r37.1, .int s2, .ref s3]) (μ' := r37.2) rfl ?_
  refine xr_icmp (pct := 107) rfl rfl rfl (fun hc => ?_) (fun hc => ?_)
  · replace h := (if_neg (of_decide_eq_true hc)).symm.trans h
    refine xr_go 1 (pc' := 108) (lo' := [some (.ref v0), some (.int v1)]) (st' := [.int (xc 0), .int s2, .ref s3]) (μ' := r37.2) rfl ?_
    refine xr_forget (lo := [some (.ref v0), some (.int v1)]) ⟨rfl, rfl, trivial⟩ ?_
    exact fM_moveAll_108_ok h hK
  · replace h := (if_pos (Decidable.of_not_not (of_decide_eq_false hc))).symm.trans h
    refine xr_go 2 (pc' := 108) (lo' := [some (.ref v0), some (.int v1)]) (st' := [.int (xc 1), .int s2, .ref s3]) (μ' := r37.2) rfl ?_
    refine xr_forget (lo := [some (.ref v0), some (.int v1)]) ⟨rfl, rfl, trivial⟩ ?_
    exact fM_moveAll_108_ok h hK
noncomputable def fM_moveAll_L55  (v0 : Nat) (v1 : Int32) (μ : xM) : Option ((Int32 × xM) ⊕ (xM)) := if (xc 3) ≤ v1 then ((fM_moveAll_115 v0 μ).map (fun o => .inr o)) else ((ldFR μ v0 9 0).bind fun x38 => (ldFR μ v0 9 0).bind fun x39 => (ldA μ x39 v1).bind fun x40 => (fM_move v0 x40 μ).bind fun r41 => (stA r41.2 x38 v1 r41.1).bind fun μ42 => (ldFR μ42 v0 9 1).bind fun x43 => (ldFR μ42 v0 9 1).bind fun x44 => (ldAZ μ42 x44 v1).bind fun x45 => if x45 = 0 then (fM_moveAll_96 v0 v1 (xc 0) v0 v1 x43 μ42) else (fM_moveAll_96 v0 v1 (xc 1) v0 v1 x43 μ42))
theorem fM_moveAll_L55_ok {d : Nat} {v0 : Nat} {v1 : Int32} {μ : xM} {rv : Option Value} {μf : xM} {out : (Int32 × xM) ⊕ (xM)} (h : fM_moveAll_L55 v0 v1 μ = some out) (hK : fM_moveAll_K55 v0 d rv μf out) : xRun (d + 1) 217 55 [some (.ref v0), some (.int v1)] [] μ rv μf := by
  unfold fM_moveAll_L55 at h
  refine xr_go 2 (pc' := 57) (lo' := [some (.ref v0), some (.int v1)]) (st' := [.int (xc 3), .int v1]) (μ' := μ) rfl ?_
  refine xr_icmp (pct := 115) rfl rfl rfl (fun hc => ?_) (fun hc => ?_)
  · replace h := (if_pos (of_decide_eq_true hc)).symm.trans h
    refine xr_forget (lo := [some (.ref v0), none]) ⟨rfl, trivial⟩ ?_
    obtain ⟨o, h2, rfl⟩ := Option.map_eq_some_iff.mp h
    exact fM_moveAll_115_ok h2 hK
  · replace h := (if_neg (of_decide_eq_false hc)).symm.trans h
    refine xr_go 1 (pc' := 61) (lo' := [some (.ref v0), some (.int v1)]) (st' := [.ref v0]) (μ' := μ) rfl ?_
    obtain ⟨x38, hx38, h⟩ := Option.bind_eq_some_iff.mp h
    refine xr_opA (pc' := 64) (lo' := [some (.ref v0), some (.int v1)]) (st' := []) (o := ldFR μ v0 9 0) rfl hx38 ?_
    refine xr_go 3 (pc' := 67) (lo' := [some (.ref v0), some (.int v1)]) (st' := [.ref v0, .ref v0, .int v1, .ref x38]) (μ' := μ) rfl ?_
    obtain ⟨x39, hx39, h⟩ := Option.bind_eq_some_iff.mp h
    refine xr_opA (pc' := 70) (lo' := [some (.ref v0), some (.int v1)]) (st' := [.ref v0, .int v1, .ref x38]) (o := ldFR μ v0 9 0) rfl hx39 ?_
    refine xr_go 1 (pc' := 71) (lo' := [some (.ref v0), some (.int v1)]) (st' := [.int v1, .ref x39, .ref v0, .int v1, .ref x38]) (μ' := μ) rfl ?_
    obtain ⟨x40, hx40, h⟩ := Option.bind_eq_some_iff.mp h
    refine xr_opI (pc' := 72) (lo' := [some (.ref v0), some (.int v1)]) (st' := [.ref v0, .int v1, .ref x38]) (o := ldA μ x39 v1) rfl hx40 ?_
    obtain ⟨r41, hr41, h⟩ := Option.bind_eq_some_iff.mp h
    refine xr_callV (j := 216) (d' := (d + 0)) (rv1 := some (.int r41.1)) (μ1 := r41.2) (rest := [.int v1, .ref x38]) (As := [.int x40]) rfl rfl rfl rfl (Nat.le_of_ble_eq_true rfl) (fM_move_kd hr41) rfl (by exact (fM_move_ok (d := d + (0)) hr41)) ?_
    obtain ⟨μ42, hμ42, h⟩ := Option.bind_eq_some_iff.mp h
    refine xr_opM (pc' := 76) (lo' := [some (.ref v0), some (.int v1)]) (st' := []) (o := stA r41.2 x38 v1 r41.1) rfl hμ42 ?_
    refine xr_go 1 (pc' := 77) (lo' := [some (.ref v0), some (.int v1)]) (st' := [.ref v0]) (μ' := μ42) rfl ?_
    obtain ⟨x43, hx43, h⟩ := Option.bind_eq_some_iff.mp h
    refine xr_opA (pc' := 80) (lo' := [some (.ref v0), some (.int v1)]) (st' := []) (o := ldFR μ42 v0 9 1) rfl hx43 ?_
    refine xr_go 3 (pc' := 83) (lo' := [some (.ref v0), some (.int v1)]) (st' := [.ref v0, .ref v0, .int v1, .ref x43]) (μ' := μ42) rfl ?_
    obtain ⟨x44, hx44, h⟩ := Option.bind_eq_some_iff.mp h
    refine xr_opA (pc' := 86) (lo' := [some (.ref v0), some (.int v1)]) (st' := [.ref v0, .int v1, .ref x43]) (o := ldFR μ42 v0 9 1) rfl hx44 ?_
    refine xr_go 1 (pc' := 87) (lo' := [some (.ref v0), some (.int v1)]) (st' := [.int v1, .ref x44, .ref v0, .int v1, .ref x43]) (μ' := μ42) rfl ?_
    obtain ⟨x45, hx45, h⟩ := Option.bind_eq_some_iff.mp h
    refine xr_opI (pc' := 88) (lo' := [some (.ref v0), some (.int v1)]) (st' := [.ref v0, .int v1, .ref x43]) (o := ldAZ μ42 x44 v1) rfl hx45 ?_
    refine xr_ifc (pct := 95) rfl rfl rfl (fun hc => ?_) (fun hc => ?_)
    · replace h := (if_pos (of_decide_eq_true hc)).symm.trans h
      refine xr_go 1 (pc' := 96) (lo' := [some (.ref v0), some (.int v1)]) (st' := [.int (xc 0), .ref v0, .int v1, .ref x43]) (μ' := μ42) rfl ?_
      refine xr_forget (lo := [some (.ref v0), some (.int v1)]) ⟨rfl, rfl, trivial⟩ ?_
      exact fM_moveAll_96_ok h hK
    · replace h := (if_neg (of_decide_eq_false hc)).symm.trans h
      refine xr_go 2 (pc' := 96) (lo' := [some (.ref v0), some (.int v1)]) (st' := [.int (xc 1), .ref v0, .int v1, .ref x43]) (μ' := μ42) rfl ?_
      refine xr_forget (lo := [some (.ref v0), some (.int v1)]) ⟨rfl, rfl, trivial⟩ ?_
      exact fM_moveAll_96_ok h hK
theorem fM_moveAll_L55_lp {d : Nat} {v0 : Nat} {v1 : Int32} {μ : xM} {rv : Option Value} {μf : xM} {out : xM} (h : xwh (fun s : Int32 × xM => fM_moveAll_L55 v0 s.1 s.2) (v1, μ) = some out) (hK : fM_moveAll_K rv μf out) : xRun (d + 1) 217 55 [some (.ref v0), some (.int v1)] [] μ rv μf :=
  xwh_ind (Rh := fun s : Int32 × xM => xRun (d + 1) 217 55 [some (.ref v0), some (.int s.1)] [] s.2 rv μf) (Co := fM_moveAll_K rv μf) (fun s o hb hk => fM_moveAll_L55_ok hb hk) h hK
noncomputable def fM_moveAll_0  (v0 : Nat) (μ : xM) : Option (xM) := (stF μ v0 9 63 (xc 0)).bind fun μ46 => (ldF μ46 v0 9 8).bind fun x47 => (fM_move v0 x47 μ46).bind fun r48 => (stF r48.2 v0 9 8 r48.1).bind fun μ49 => (ldF μ49 v0 9 9).bind fun x50 => (fM_move v0 x50 μ49).bind fun r51 => (stF r51.2 v0 9 9 r51.1).bind fun μ52 => (ldF μ52 v0 9 23).bind fun x53 => (fM_move v0 x53 μ52).bind fun r54 => (stF r54.2 v0 9 23 r54.1).bind fun μ55 => (ldF μ55 v0 9 24).bind fun x56 => (fM_move v0 x56 μ55).bind fun r57 => (stF r57.2 v0 9 24 r57.1).bind fun μ58 => xwh (fun s : Int32 × xM => fM_moveAll_L55 v0 s.1 s.2) (xc 0, μ58)
theorem fM_moveAll_0_ok {d : Nat} {v0 : Nat} {μ : xM} {rv : Option Value} {μf : xM} {out : xM} (h : fM_moveAll_0 v0 μ = some out) (hK : fM_moveAll_K rv μf out) : xRun (d + 1) 217 0 [some (.ref v0), none] [] μ rv μf := by
  unfold fM_moveAll_0 at h
  refine xr_go 2 (pc' := 2) (lo' := [some (.ref v0), none]) (st' := [.int (xc 0), .ref v0]) (μ' := μ) rfl ?_
  obtain ⟨μ46, hμ46, h⟩ := Option.bind_eq_some_iff.mp h
  refine xr_opM (pc' := 5) (lo' := [some (.ref v0), none]) (st' := []) (o := stF μ v0 9 63 (xc 0)) rfl hμ46 ?_
  refine xr_go 3 (pc' := 8) (lo' := [some (.ref v0), none]) (st' := [.ref v0, .ref v0, .ref v0]) (μ' := μ46) rfl ?_
  obtain ⟨x47, hx47, h⟩ := Option.bind_eq_some_iff.mp h
  refine xr_opI (pc' := 11) (lo' := [some (.ref v0), none]) (st' := [.ref v0, .ref v0]) (o := ldF μ46 v0 9 8) rfl hx47 ?_
  obtain ⟨r48, hr48, h⟩ := Option.bind_eq_some_iff.mp h
  refine xr_callV (j := 216) (d' := (d + 0)) (rv1 := some (.int r48.1)) (μ1 := r48.2) (rest := [.ref v0]) (As := [.int x47]) rfl rfl rfl rfl (Nat.le_of_ble_eq_true rfl) (fM_move_kd hr48) rfl (by exact (fM_move_ok (d := d + (0)) hr48)) ?_
  obtain ⟨μ49, hμ49, h⟩ := Option.bind_eq_some_iff.mp h
  refine xr_opM (pc' := 17) (lo' := [some (.ref v0), none]) (st' := []) (o := stF r48.2 v0 9 8 r48.1) rfl hμ49 ?_
  refine xr_go 3 (pc' := 20) (lo' := [some (.ref v0), none]) (st' := [.ref v0, .ref v0, .ref v0]) (μ' := μ49) rfl ?_
  obtain ⟨x50, hx50, h⟩ := Option.bind_eq_some_iff.mp h
  refine xr_opI (pc' := 23) (lo' := [some (.ref v0), none]) (st' := [.ref v0, .ref v0]) (o := ldF μ49 v0 9 9) rfl hx50 ?_
  obtain ⟨r51, hr51, h⟩ := Option.bind_eq_some_iff.mp h
  refine xr_callV (j := 216) (d' := (d + 0)) (rv1 := some (.int r51.1)) (μ1 := r51.2) (rest := [.ref v0]) (As := [.int x50]) rfl rfl rfl rfl (Nat.le_of_ble_eq_true rfl) (fM_move_kd hr51) rfl (by exact (fM_move_ok (d := d + (0)) hr51)) ?_
  obtain ⟨μ52, hμ52, h⟩ := Option.bind_eq_some_iff.mp h
  refine xr_opM (pc' := 29) (lo' := [some (.ref v0), none]) (st' := []) (o := stF r51.2 v0 9 9 r51.1) rfl hμ52 ?_
  refine xr_go 3 (pc' := 32) (lo' := [some (.ref v0), none]) (st' := [.ref v0, .ref v0, .ref v0]) (μ' := μ52) rfl ?_
  obtain ⟨x53, hx53, h⟩ := Option.bind_eq_some_iff.mp h
  refine xr_opI (pc' := 35) (lo' := [some (.ref v0), none]) (st' := [.ref v0, .ref v0]) (o := ldF μ52 v0 9 23) rfl hx53 ?_
  obtain ⟨r54, hr54, h⟩ := Option.bind_eq_some_iff.mp h
  refine xr_callV (j := 216) (d' := (d + 0)) (rv1 := some (.int r54.1)) (μ1 := r54.2) (rest := [.ref v0]) (As := [.int x53]) rfl rfl rfl rfl (Nat.le_of_ble_eq_true rfl) (fM_move_kd hr54) rfl (by exact (fM_move_ok (d := d + (0)) hr54)) ?_
  obtain ⟨μ55, hμ55, h⟩ := Option.bind_eq_some_iff.mp h
  refine xr_opM (pc' := 41) (lo' := [some (.ref v0), none]) (st' := []) (o := stF r54.2 v0 9 23 r54.1) rfl hμ55 ?_
  refine xr_go 3 (pc' := 44) (lo' := [some (.ref v0), none]) (st' := [.ref v0, .ref v0, .ref v0]) (μ' := μ55) rfl ?_
  obtain ⟨x56, hx56, h⟩ := Option.bind_eq_some_iff.mp h
  refine xr_opI (pc' := 47) (lo' := [some (.ref v0), none]) (st' := [.ref v0, .ref v0]) (o := ldF μ55 v0 9 24) rfl hx56 ?_
  obtain ⟨r57, hr57, h⟩ := Option.bind_eq_some_iff.mp h
  refine xr_callV (j := 216) (d' := (d + 0)) (rv1 := some (.int r57.1)) (μ1 := r57.2) (rest := [.ref v0]) (As := [.int x56]) rfl rfl rfl rfl (Nat.le_of_ble_eq_true rfl) (fM_move_kd hr57) rfl (by exact (fM_move_ok (d := d + (0)) hr57)) ?_
  obtain ⟨μ58, hμ58, h⟩ := Option.bind_eq_some_iff.mp h
  refine xr_opM (pc' := 53) (lo' := [some (.ref v0), none]) (st' := []) (o := stF r57.2 v0 9 24 r57.1) rfl hμ58 ?_
  refine xr_go 2 (pc' := 55) (lo' := [some (.ref v0), some (.int (xc 0))]) (st' := []) (μ' := μ58) rfl ?_
  refine xr_forget (lo := [some (.ref v0), some (.int (xc 0))]) ⟨rfl, rfl, trivial⟩ ?_
  exact fM_moveAll_L55_lp h hK
noncomputable def fM_moveAll (a0 : Nat) (μ : xM) : Option (xM) := xgd μ a0 9 (fM_moveAll_0 a0 μ)
theorem fM_moveAll_kd {a0 : Nat} {μ : xM} {o : xM} (h : fM_moveAll a0 μ = some o) : (xK μ a0).1 = 10 + 9 := (xgd_some h).1
theorem fM_moveAll_ok {d : Nat} {a0 : Nat} {μ : xM} {o : xM} (h : fM_moveAll a0 μ = some o) : xRun (d + 1) 217 0 [some (.ref a0), none] [] μ none o :=
  xr_forget (lo := [some (.ref a0), none]) (⟨rfl, trivial⟩) (fM_moveAll_0_ok (d := d) (xgd_some h).2 (show fM_moveAll_K _ _ o from ⟨rfl, rfl⟩))
-- KeptAnswersModel.image()I 
def fM_image_K (rv : Option Value) (μf : xM) : (Int32 × xM) → Prop := fun o => rv = some (.int o.1) ∧ μf = o.2
noncomputable def fM_image_0  (v0 : Nat) (μ : xM) : Option (Int32 × xM) := (stFZ μ v0 9 61 (xc 1)).bind fun μ1 => (stFZ μ1 v0 9 64 (xc 1)).bind fun μ2 => (fM_moveAll v0 μ2).bind fun r3 => (ldF r3 v0 9 9).bind fun x4 => some ((x4, r3))
theorem fM_image_0_ok {d : Nat} {v0 : Nat} {μ : xM} {rv : Option Value} {μf : xM} {out : Int32 × xM} (h : fM_image_0 v0 μ = some out) (hK : fM_image_K rv μf out) : xRun (d + 2) 218 0 [some (.ref v0)] [] μ rv μf := by
  unfold fM_image_0 at h
  refine xr_go 2 (pc' := 2) (lo' := [some (.ref v0)]) (st' := [.int (xc 1), .ref v0]) (μ' := μ) rfl ?_
  obtain ⟨μ1, hμ1, h⟩ := Option.bind_eq_some_iff.mp h
  refine xr_opM (pc' := 5) (lo' := [some (.ref v0)]) (st' := []) (o := stFZ μ v0 9 61 (xc 1)) rfl hμ1 ?_
  refine xr_go 2 (pc' := 7) (lo' := [some (.ref v0)]) (st' := [.int (xc 1), .ref v0]) (μ' := μ1) rfl ?_
  obtain ⟨μ2, hμ2, h⟩ := Option.bind_eq_some_iff.mp h
  refine xr_opM (pc' := 10) (lo' := [some (.ref v0)]) (st' := []) (o := stFZ μ1 v0 9 64 (xc 1)) rfl hμ2 ?_
  refine xr_go 1 (pc' := 11) (lo' := [some (.ref v0)]) (st' := [.ref v0]) (μ' := μ2) rfl ?_
  obtain ⟨r3, hr3, h⟩ := Option.bind_eq_some_iff.mp h
  refine xr_callV (j := 217) (d' := (d + 1)) (rv1 := none) (μ1 := r3) (rest := []) (As := []) rfl rfl rfl rfl (Nat.le_of_ble_eq_true rfl) (fM_moveAll_kd hr3) rfl (by exact (fM_moveAll_ok (d := d + (0)) hr3)) ?_
  refine xr_go 1 (pc' := 15) (lo' := [some (.ref v0)]) (st' := [.ref v0]) (μ' := r3) rfl ?_
  obtain ⟨x4, hx4, h⟩ := Option.bind_eq_some_iff.mp h
  refine xr_opI (pc' := 18) (lo' := [some (.ref v0)]) (st' := []) (o := ldF r3 v0 9 9) rfl hx4 ?_
  have ho := Option.some.inj h
  subst ho
  obtain ⟨rfl, rfl⟩ := hK
  exact xr_ret (rv := some (.int x4)) rfl rfl (Or.inl rfl)
noncomputable def fM_image (a0 : Nat) (μ : xM) : Option (Int32 × xM) := xgd μ a0 9 (fM_image_0 a0 μ)
theorem fM_image_kd {a0 : Nat} {μ : xM} {o : Int32 × xM} (h : fM_image a0 μ = some o) : (xK μ a0).1 = 10 + 9 := (xgd_some h).1
theorem fM_image_ok {d : Nat} {a0 : Nat} {μ : xM} {o : Int32 × xM} (h : fM_image a0 μ = some o) : xRun (d + 2) 218 0 [some (.ref a0)] [] μ (some (.int o.1)) o.2 :=
  xr_forget (lo := [some (.ref a0)]) (⟨rfl, trivial⟩) (fM_image_0_ok (d := d) (xgd_some h).2 (show fM_image_K _ _ o from ⟨rfl, rfl⟩))
-- KeptAnswers.restore()I 
def fX_restore_K (rv : Option Value) (μf : xM) : (Int32 × xM) → Prop := fun o => rv = some (.int o.1) ∧ μf = o.2
noncomputable def fX_restore_0  (v0 : Nat) (μ : xM) : Option (Int32 × xM) := (ldF μ v0 0 2).bind fun x1 => if x1 = 0 then ((fX_refuse v0 (xc (-3)) μ).bind fun r10 => some ((r10.1, r10.2))) else ((ldFR μ v0 0 0).bind fun x2 => (ldFR μ v0 0 1).bind fun x3 => (fH_copyFrom x2 x3 μ).bind fun r4 => (ldFR r4 v0 0 5).bind fun x5 => (stF r4 x5 2 1 (xc 0)).bind fun μ6 => (fX_forgetSights v0 μ6).bind fun r7 => (ldFR r7 v0 0 0).bind fun x8 => (ldF r7 x8 3 3).bind fun x9 => some ((x9, r7)))
theorem fX_restore_0_ok {d : Nat} {v0 : Nat} {μ : xM} {rv : Option Value} {μf : xM} {out : Int32 × xM} (h : fX_restore_0 v0 μ = some out) (hK : fX_restore_K rv μf out) : xRun (d + 4) 35 0 [some (.ref v0)] [] μ rv μf := by
  unfold fX_restore_0 at h
  refine xr_go 1 (pc' := 1) (lo' := [some (.ref v0)]) (st' := [.ref v0]) (μ' := μ) rfl ?_
  obtain ⟨x1, hx1, h⟩ := Option.bind_eq_some_iff.mp h
  refine xr_opI (pc' := 4) (lo' := [some (.ref v0)]) (st' := []) (o := ldF μ v0 0 2) rfl hx1 ?_
  refine xr_ifc (pct := 14) rfl rfl rfl (fun hc => ?_) (fun hc => ?_)
  · replace h := (if_neg (of_decide_eq_true hc)).symm.trans h
    refine xr_go 1 (pc' := 15) (lo' := [some (.ref v0)]) (st' := [.ref v0]) (μ' := μ) rfl ?_
    obtain ⟨x2, hx2, h⟩ := Option.bind_eq_some_iff.mp h
    refine xr_opA (pc' := 18) (lo' := [some (.ref v0)]) (st' := []) (o := ldFR μ v0 0 0) rfl hx2 ?_
    refine xr_go 1 (pc' := 19) (lo' := [some (.ref v0)]) (st' := [.ref v0, .ref x2]) (μ' := μ) rfl ?_
    obtain ⟨x3, hx3, h⟩ := Option.bind_eq_some_iff.mp h
    refine xr_opA (pc' := 22) (lo' := [some (.ref v0)]) (st' := [.ref x2]) (o := ldFR μ v0 0 1) rfl hx3 ?_
    obtain ⟨r4, hr4, h⟩ := Option.bind_eq_some_iff.mp h
    refine xr_callV (j := 62) (d' := (d + 3)) (rv1 := none) (μ1 := r4) (rest := []) (As := [.ref x3]) rfl rfl rfl rfl (Nat.le_of_ble_eq_true rfl) (fH_copyFrom_kd hr4) rfl (by exact (fH_copyFrom_ok (d := d + (0)) hr4)) ?_
    refine xr_go 1 (pc' := 26) (lo' := [some (.ref v0)]) (st' := [.ref v0]) (μ' := r4) rfl ?_
    obtain ⟨x5, hx5, h⟩ := Option.bind_eq_some_iff.mp h
    refine xr_opA (pc' := 29) (lo' := [some (.ref v0)]) (st' := []) (o := ldFR r4 v0 0 5) rfl hx5 ?_
    refine xr_go 1 (pc' := 30) (lo' := [some (.ref v0)]) (st' := [.int (xc 0), .ref x5]) (μ' := r4) rfl ?_
    obtain ⟨μ6, hμ6, h⟩ := Option.bind_eq_some_iff.mp h
    refine xr_opM (pc' := 33) (lo' := [some (.ref v0)]) (st' := []) (o := stF r4 x5 2 1 (xc 0)) rfl hμ6 ?_
    refine xr_go 1 (pc' := 34) (lo' := [some (.ref v0)]) (st' := [.ref v0]) (μ' := μ6) rfl ?_
    obtain ⟨r7, hr7, h⟩ := Option.bind_eq_some_iff.mp h
    refine xr_callV (j := 46) (d' := (d + 3)) (rv1 := none) (μ1 := r7) (rest := []) (As := []) rfl rfl rfl rfl (Nat.le_of_ble_eq_true rfl) (fX_forgetSights_kd hr7) rfl (by exact (fX_forgetSights_ok (d := d + (2)) hr7)) ?_
    refine xr_go 1 (pc' := 38) (lo' := [some (.ref v0)]) (st' := [.ref v0]) (μ' := r7) rfl ?_
    obtain ⟨x8, hx8, h⟩ := Option.bind_eq_some_iff.mp h
    refine xr_opA (pc' := 41) (lo' := [some (.ref v0)]) (st' := []) (o := ldFR r7 v0 0 0) rfl hx8 ?_
    obtain ⟨x9, hx9, h⟩ := Option.bind_eq_some_iff.mp h
    refine xr_opI (pc' := 44) (lo' := [some (.ref v0)]) (st' := []) (o := ldF r7 x8 3 3) rfl hx9 ?_
    have ho := Option.some.inj h
    subst ho
    obtain ⟨rfl, rfl⟩ := hK
    exact xr_ret (rv := some (.int x9)) rfl rfl (Or.inl rfl)
  · replace h := (if_pos (Decidable.of_not_not (of_decide_eq_false hc))).symm.trans h
    refine xr_go 2 (pc' := 10) (lo' := [some (.ref v0)]) (st' := [.int (xc (-3)), .ref v0]) (μ' := μ) rfl ?_
    obtain ⟨r10, hr10, h⟩ := Option.bind_eq_some_iff.mp h
    refine xr_callV (j := 37) (d' := (d + 3)) (rv1 := some (.int r10.1)) (μ1 := r10.2) (rest := []) (As := [.int (xc (-3))]) rfl rfl rfl rfl (Nat.le_of_ble_eq_true rfl) (fX_refuse_kd hr10) rfl (by exact (fX_refuse_ok (d := d + (3)) hr10)) ?_
    have ho := Option.some.inj h
    subst ho
    obtain ⟨rfl, rfl⟩ := hK
    exact xr_ret (rv := some (.int r10.1)) rfl rfl (Or.inl rfl)
noncomputable def fX_restore (a0 : Nat) (μ : xM) : Option (Int32 × xM) := xgd μ a0 0 (fX_restore_0 a0 μ)
theorem fX_restore_kd {a0 : Nat} {μ : xM} {o : Int32 × xM} (h : fX_restore a0 μ = some o) : (xK μ a0).1 = 10 + 0 := (xgd_some h).1
theorem fX_restore_ok {d : Nat} {a0 : Nat} {μ : xM} {o : Int32 × xM} (h : fX_restore a0 μ = some o) : xRun (d + 4) 35 0 [some (.ref a0)] [] μ (some (.int o.1)) o.2 :=
  xr_forget (lo := [some (.ref a0)]) (⟨rfl, trivial⟩) (fX_restore_0_ok (d := d) (xgd_some h).2 (show fX_restore_K _ _ o from ⟨rfl, rfl⟩))
-- KeptAnswersModel.restore()I 
def fM_restore_K (rv : Option Value) (μf : xM) : (Int32 × xM) → Prop := fun o => rv = some (.int o.1) ∧ μf = o.2
noncomputable def fM_restore_0  (v0 : Nat) (μ : xM) : Option (Int32 × xM) := (ldF μ v0 9 61).bind fun x1 => if x1 = 0 then ((fM_refuse v0 (xc (-3)) μ).bind fun r6 => some ((r6.1, r6.2))) else ((stFZ μ v0 9 64 (xc 0)).bind fun μ2 => (fM_moveAll v0 μ2).bind fun r3 => (stF r3 v0 9 3 (xc 0)).bind fun μ4 => (ldF μ4 v0 9 9).bind fun x5 => some ((x5, μ4)))
theorem fM_restore_0_ok {d : Nat} {v0 : Nat} {μ : xM} {rv : Option Value} {μf : xM} {out : Int32 × xM} (h : fM_restore_0 v0 μ = some out) (hK : fM_restore_K rv μf out) : xRun (d + 2) 219 0 [some (.ref v0)] [] μ rv μf := by
  unfold fM_restore_0 at h
  refine xr_go 1 (pc' := 1) (lo' := [some (.ref v0)]) (st' := [.ref v0]) (μ' := μ) rfl ?_
  obtain ⟨x1, hx1, h⟩ := Option.bind_eq_some_iff.mp h
  refine xr_opI (pc' := 4) (lo' := [some (.ref v0)]) (st' := []) (o := ldF μ v0 9 61) rfl hx1 ?_
  refine xr_ifc (pct := 14) rfl rfl rfl (fun hc => ?_) (fun hc => ?_)
  · replace h := (if_neg (of_decide_eq_true hc)).symm.trans h
    refine xr_go 2 (pc' := 16) (lo' := [some (.ref v0)]) (st' := [.int (xc 0), .ref v0]) (μ' := μ) rfl ?_
    obtain ⟨μ2, hμ2, h⟩ := Option.bind_eq_some_iff.mp h
    refine xr_opM (pc' := 19) (lo' := [some (.ref v0)]) (st' := []) (o := stFZ μ v0 9 64 (xc 0)) rfl hμ2 ?_
    refine xr_go 1 (pc' := 20) (lo' := [some (.ref v0)]) (st' := [.ref v0]) (μ' := μ2) rfl ?_
    obtain ⟨r3, hr3, h⟩ := Option.bind_eq_some_iff.mp h
    refine xr_callV (j := 217) (d' := (d + 1)) (rv1 := none) (μ1 := r3) (rest := []) (As := []) rfl rfl rfl rfl (Nat.le_of_ble_eq_true rfl) (fM_moveAll_kd hr3) rfl (by exact (fM_moveAll_ok (d := d + (0)) hr3)) ?_
    refine xr_go 2 (pc' := 25) (lo' := [some (.ref v0)]) (st' := [.int (xc 0), .ref v0]) (μ' := r3) rfl ?_
    obtain ⟨μ4, hμ4, h⟩ := Option.bind_eq_some_iff.mp h
    refine xr_opM (pc' := 28) (lo' := [some (.ref v0)]) (st' := []) (o := stF r3 v0 9 3 (xc 0)) rfl hμ4 ?_
    refine xr_go 1 (pc' := 29) (lo' := [some (.ref v0)]) (st' := [.ref v0]) (μ' := μ4) rfl ?_
    obtain ⟨x5, hx5, h⟩ := Option.bind_eq_some_iff.mp h
    refine xr_opI (pc' := 32) (lo' := [some (.ref v0)]) (st' := []) (o := ldF μ4 v0 9 9) rfl hx5 ?_
    have ho := Option.some.inj h
    subst ho
    obtain ⟨rfl, rfl⟩ := hK
    exact xr_ret (rv := some (.int x5)) rfl rfl (Or.inl rfl)
  · replace h := (if_pos (Decidable.of_not_not (of_decide_eq_false hc))).symm.trans h
    refine xr_go 2 (pc' := 10) (lo' := [some (.ref v0)]) (st' := [.int (xc (-3)), .ref v0]) (μ' := μ) rfl ?_
    obtain ⟨r6, hr6, h⟩ := Option.bind_eq_some_iff.mp h
    refine xr_callV (j := 138) (d' := (d + 1)) (rv1 := some (.int r6.1)) (μ1 := r6.2) (rest := []) (As := [.int (xc (-3))]) rfl rfl rfl rfl (Nat.le_of_ble_eq_true rfl) (fM_refuse_kd hr6) rfl (by exact (fM_refuse_ok (d := d + (1)) hr6)) ?_
    have ho := Option.some.inj h
    subst ho
    obtain ⟨rfl, rfl⟩ := hK
    exact xr_ret (rv := some (.int r6.1)) rfl rfl (Or.inl rfl)
noncomputable def fM_restore (a0 : Nat) (μ : xM) : Option (Int32 × xM) := xgd μ a0 9 (fM_restore_0 a0 μ)
theorem fM_restore_kd {a0 : Nat} {μ : xM} {o : Int32 × xM} (h : fM_restore a0 μ = some o) : (xK μ a0).1 = 10 + 9 := (xgd_some h).1
theorem fM_restore_ok {d : Nat} {a0 : Nat} {μ : xM} {o : Int32 × xM} (h : fM_restore a0 μ = some o) : xRun (d + 2) 219 0 [some (.ref a0)] [] μ (some (.int o.1)) o.2 :=
  xr_forget (lo := [some (.ref a0)]) (⟨rfl, trivial⟩) (fM_restore_0_ok (d := d) (xgd_some h).2 (show fM_restore_K _ _ o from ⟨rfl, rfl⟩))
-- KeptAnswers.count(I)I 
def fX_count_K (μ : xM) (rv : Option Value) (μf : xM) : (Int32) → Prop := fun o => rv = some (.int o) ∧ μf = μ
noncomputable def fX_count_22  (v0 : Nat) (v1 : Int32) (μ : xM) : Option (Int32) := if (v1).toInt < 0 ∨ 7 < (v1).toInt then (some (xc (-9))) else if v1 = xc 0 then ((ldFR μ v0 0 0).bind fun x1 => (ldF μ x1 3 2).bind fun x2 => some x2) else if v1 = xc 1 then ((ldFR μ v0 0 0).bind fun x3 => (ldF μ x3 3 3).bind fun x4 => some x4) else if v1 = xc 2 then ((ldFR μ v0 0 0).bind fun x5 => (ldF μ x5 3 0).bind fun x6 => (fJI_bitCount x6 μ).bind fun r7 => some r7) else if v1 = xc 3 then ((ldFR μ v0 0 0).bind fun x8 => (ldF μ x8 3 1).bind fun x9 => (fJI_bitCount x9 μ).bind fun r10 => some r10) else if v1 = xc 4 then ((ldFR μ v0 0 0).bind fun x11 => (ldF μ x11 3 4).bind fun x12 => (fJI_bitCount x12 μ).bind fun r13 => some r13) else if v1 = xc 5 then ((ldFR μ v0 0 3).bind fun x14 => (ldF μ x14 7 1).bind fun x15 => some x15) else if v1 = xc 6 then ((ldFR μ v0 0 4).bind fun x16 => (ldF μ x16 1 1).bind fun x17 => some x17) else if v1 = xc 7 then ((ldFR μ v0 0 5).bind fun x18 => (ldF μ x18 2 1).bind fun x19 => some x19) else none
theorem fX_count_22_ok {d : Nat} {v0 : Nat} {v1 : Int32} {μ : xM} {rv : Option Value} {μf : xM} {out : Int32} (h : fX_count_22 v0 v1 μ = some out) (hK : fX_count_K μ rv μf out) : xRun (d + 1) 36 22 [some (.ref v0), some (.int v1)] [] μ rv μf := by
  unfold fX_count_22 at h
  refine xr_go 1 (pc' := 23) (lo' := [some (.ref v0), some (.int v1)]) (st' := [.int v1]) (μ' := μ) rfl ?_
  by_cases hq : (v1).toInt < 0 ∨ 7 < (v1).toInt
  · replace h := (if_pos hq).symm.trans h
    refine xr_tswD (pc' := 141) rfl hq rfl rfl ?_
    refine xr_go 1 (pc' := 143) (lo' := [some (.ref v0), some (.int v1)]) (st' := [.int (xc (-9))]) (μ' := μ) rfl ?_
    have ho := Option.some.inj h
    subst ho
    obtain ⟨rfl, rfl⟩ := hK
    exact xr_ret (rv := some (.int (xc (-9)))) rfl rfl (Or.inl rfl)
  replace h := (if_neg hq).symm.trans h
  by_cases hq0 : v1 = xc 0
  · replace h := (if_pos hq0).symm.trans h
    refine xr_sw (v := xc 0) (pc' := 68) (lo' := [some (.ref v0), some (.int v1)]) (st' := []) (μ' := μ) hq0 rfl ?_
    refine xr_go 1 (pc' := 69) (lo' := [some (.ref v0), some (.int v1)]) (st' := [.ref v0]) (μ' := μ) rfl ?_
    obtain ⟨x1, hx1, h⟩ := Option.bind_eq_some_iff.mp h
    refine xr_opA (pc' := 72) (lo' := [some (.ref v0), some (.int v1)]) (st' := []) (o := ldFR μ v0 0 0) rfl hx1 ?_
    obtain ⟨x2, hx2, h⟩ := Option.bind_eq_some_iff.mp h
    refine xr_opI (pc' := 75) (lo' := [some (.ref v0), some (.int v1)]) (st' := []) (o := ldF μ x1 3 2) rfl hx2 ?_
    have ho := Option.some.inj h
    subst ho
    obtain ⟨rfl, rfl⟩ := hK
    exact xr_ret (rv := some (.int x2)) rfl rfl (Or.inl rfl)
  replace h := (if_neg hq0).symm.trans h
  by_cases hq1 : v1 = xc 1
  · replace h := (if_pos hq1).symm.trans h
    refine xr_sw (v := xc 1) (pc' := 76) (lo' := [some (.ref v0), some (.int v1)]) (st' := []) (μ' := μ) hq1 rfl ?_
    refine xr_go 1 (pc' := 77) (lo' := [some (.ref v0), some (.int v1)]) (st' := [.ref v0]) (μ' := μ) rfl ?_
    obtain ⟨x3, hx3, h⟩ := Option.bind_eq_some_iff.mp h
    refine xr_opA (pc' := 80) (lo' := [some (.ref v0), some (.int v1)]) (st' := []) (o := ldFR μ v0 0 0) rfl hx3 ?_
    obtain ⟨x4, hx4, h⟩ := Option.bind_eq_some_iff.mp h
    refine xr_opI (pc' := 83) (lo' := [some (.ref v0), some (.int v1)]) (st' := []) (o := ldF μ x3 3 3) rfl hx4 ?_
    have ho := Option.some.inj h
    subst ho
    obtain ⟨rfl, rfl⟩ := hK
    exact xr_ret (rv := some (.int x4)) rfl rfl (Or.inl rfl)
  replace h := (if_neg hq1).symm.trans h
  by_cases hq2 : v1 = xc 2
  · replace h := (if_pos hq2).symm.trans h
    refine xr_sw (v := xc 2) (pc' := 84) (lo' := [some (.ref v0), some (.int v1)]) (st' := []) (μ' := μ) hq2 rfl ?_
    refine xr_go 1 (pc' := 85) (lo' := [some (.ref v0), some (.int v1)]) (st' := [.ref v0]) (μ' := μ) rfl ?_
    obtain ⟨x5, hx5, h⟩ := Option.bind_eq_some_iff.mp h
    refine xr_opA (pc' := 88) (lo' := [some (.ref v0), some (.int v1)]) (st' := []) (o := ldFR μ v0 0 0) rfl hx5 ?_
    obtain ⟨x6, hx6, h⟩ := Option.bind_eq_some_iff.mp h
    refine xr_opI (pc' := 91) (lo' := [some (.ref v0), some (.int v1)]) (st' := []) (o := ldF μ x5 3 0) rfl hx6 ?_
    obtain ⟨r7, hr7, h⟩ := Option.bind_eq_some_iff.mp h
    refine xr_callS (j := 221) (d' := (d + 0)) (rv1 := some (.int r7)) (μ1 := μ) (rest := []) (As := [.int x6]) rfl rfl rfl rfl (Nat.le_of_ble_eq_true rfl) rfl (by exact (fJI_bitCount_ok (d := d + (0)) hr7)) ?_
    have ho := Option.some.inj h
    subst ho
    obtain ⟨rfl, rfl⟩ := hK
    exact xr_ret (rv := some (.int r7)) rfl rfl (Or.inl rfl)
  replace h := (if_neg hq2).symm.trans h
  by_cases hq3 : v1 = xc 3
  · replace h := (if_pos hq3).symm.trans h
    refine xr_sw (v := xc 3) (pc' := 95) (lo' := [some (.ref v0), some (.int v1)]) (st' := []) (μ' := μ) hq3 rfl ?_
    refine xr_go 1 (pc' := 96) (lo' := [some (.ref v0), some (.int v1)]) (st' := [.ref v0]) (μ' := μ) rfl ?_
    obtain ⟨x8, hx8, h⟩ := Option.bind_eq_some_iff.mp h
    refine xr_opA (pc' := 99) (lo' := [some (.ref v0), some (.int v1)]) (st' := []) (o := ldFR μ v0 0 0) rfl hx8 ?_
    obtain ⟨x9, hx9, h⟩ := Option.bind_eq_some_iff.mp h
    refine xr_opI (pc' := 102) (lo' := [some (.ref v0), some (.int v1)]) (st' := []) (o := ldF μ x8 3 1) rfl hx9 ?_
    obtain ⟨r10, hr10, h⟩ := Option.bind_eq_some_iff.mp h
    refine xr_callS (j := 221) (d' := (d + 0)) (rv1 := some (.int r10)) (μ1 := μ) (rest := []) (As := [.int x9]) rfl rfl rfl rfl (Nat.le_of_ble_eq_true rfl) rfl (by exact (fJI_bitCount_ok (d := d + (0)) hr10)) ?_
    have ho := Option.some.inj h
    subst ho
    obtain ⟨rfl, rfl⟩ := hK
    exact xr_ret (rv := some (.int r10)) rfl rfl (Or.inl rfl)
  replace h := (if_neg hq3).symm.trans h
  by_cases hq4 : v1 = xc 4
  · replace h := (if_pos hq4).symm.trans h
    refine xr_sw (v := xc 4) (pc' := 106) (lo' := [some (.ref v0), some (.int v1)]) (st' := []) (μ' := μ) hq4 rfl ?_
    refine xr_go 1 (pc' := 107) (lo' := [some (.ref v0), some (.int v1)]) (st' := [.ref v0]) (μ' := μ) rfl ?_
    obtain ⟨x11, hx11, h⟩ := Option.bind_eq_some_iff.mp h
    refine xr_opA (pc' := 110) (lo' := [some (.ref v0), some (.int v1)]) (st' := []) (o := ldFR μ v0 0 0) rfl hx11 ?_
    obtain ⟨x12, hx12, h⟩ := Option.bind_eq_some_iff.mp h
    refine xr_opI (pc' := 113) (lo' := [some (.ref v0), some (.int v1)]) (st' := []) (o := ldF μ x11 3 4) rfl hx12 ?_
    obtain ⟨r13, hr13, h⟩ := Option.bind_eq_some_iff.mp h
    refine xr_callS (j := 221) (d' := (d + 0)) (rv1 := some (.int r13)) (μ1 := μ) (rest := []) (As := [.int x12]) rfl rfl rfl rfl (Nat.le_of_ble_eq_true rfl) rfl (by exact (fJI_bitCount_ok (d := d + (0)) hr13)) ?_
    have ho := Option.some.inj h
    subst ho
    obtain ⟨rfl, rfl⟩ := hK
    exact xr_ret (rv := some (.int r13)) rfl rfl (Or.inl rfl)
  replace h := (if_neg hq4).symm.trans h
  by_cases hq5 : v1 = xc 5
  · replace h := (if_pos hq5).symm.trans h
    refine xr_sw (v := xc 5) (pc' := 117) (lo' := [some (.ref v0), some (.int v1)]) (st' := []) (μ' := μ) hq5 rfl ?_
    refine xr_go 1 (pc' := 118) (lo' := [some (.ref v0), some (.int v1)]) (st' := [.ref v0]) (μ' := μ) rfl ?_
    obtain ⟨x14, hx14, h⟩ := Option.bind_eq_some_iff.mp h
    refine xr_opA (pc' := 121) (lo' := [some (.ref v0), some (.int v1)]) (st' := []) (o := ldFR μ v0 0 3) rfl hx14 ?_
    obtain ⟨x15, hx15, h⟩ := Option.bind_eq_some_iff.mp h
    refine xr_opI (pc' := 124) (lo' := [some (.ref v0), some (.int v1)]) (st' := []) (o := ldF μ x14 7 1) rfl hx15 ?_
    have ho := Option.some.inj h
    subst ho
    obtain ⟨rfl, rfl⟩ := hK
    exact xr_ret (rv := some (.int x15)) rfl rfl (Or.inl rfl)
  replace h := (if_neg hq5).symm.trans h
  by_cases hq6 : v1 = xc 6
  · replace h := (if_pos hq6).symm.trans h
    refine xr_sw (v := xc 6) (pc' := 125) (lo' := [some (.ref v0), some (.int v1)]) (st' := []) (μ' := μ) hq6 rfl ?_
    refine xr_go 1 (pc' := 126) (lo' := [some (.ref v0), some (.int v1)]) (st' := [.ref v0]) (μ' := μ) rfl ?_
    obtain ⟨x16, hx16, h⟩ := Option.bind_eq_some_iff.mp h
    refine xr_opA (pc' := 129) (lo' := [some (.ref v0), some (.int v1)]) (st' := []) (o := ldFR μ v0 0 4) rfl hx16 ?_
    obtain ⟨x17, hx17, h⟩ := Option.bind_eq_some_iff.mp h
    refine xr_opI (pc' := 132) (lo' := [some (.ref v0), some (.int v1)]) (st' := []) (o := ldF μ x16 1 1) rfl hx17 ?_
    have ho := Option.some.inj h
    subst ho
    obtain ⟨rfl, rfl⟩ := hK
    exact xr_ret (rv := some (.int x17)) rfl rfl (Or.inl rfl)
  replace h := (if_neg hq6).symm.trans h
  by_cases hq7 : v1 = xc 7
  · replace h := (if_pos hq7).symm.trans h
    refine xr_sw (v := xc 7) (pc' := 133) (lo' := [some (.ref v0), some (.int v1)]) (st' := []) (μ' := μ) hq7 rfl ?_
    refine xr_go 1 (pc' := 134) (lo' := [some (.ref v0), some (.int v1)]) (st' := [.ref v0]) (μ' := μ) rfl ?_
    obtain ⟨x18, hx18, h⟩ := Option.bind_eq_some_iff.mp h
    refine xr_opA (pc' := 137) (lo' := [some (.ref v0), some (.int v1)]) (st' := []) (o := ldFR μ v0 0 5) rfl hx18 ?_
    obtain ⟨x19, hx19, h⟩ := Option.bind_eq_some_iff.mp h
    refine xr_opI (pc' := 140) (lo' := [some (.ref v0), some (.int v1)]) (st' := []) (o := ldF μ x18 2 1) rfl hx19 ?_
    have ho := Option.some.inj h
    subst ho
    obtain ⟨rfl, rfl⟩ := hK
    exact xr_ret (rv := some (.int x19)) rfl rfl (Or.inl rfl)
  replace h := (if_neg hq7).symm.trans h
  cases h
noncomputable def fX_count_0  (v0 : Nat) (v1 : Int32) (μ : xM) : Option (Int32) := if v1 ≤ (xc 10) then (fX_count_22 v0 v1 μ) else (if (xc 16) < v1 then (fX_count_22 v0 v1 μ) else ((ldFR μ v0 0 9).bind fun x20 => (ldA μ x20 (v1 - (xc 10))).bind fun x21 => some x21))
theorem fX_count_0_ok {d : Nat} {v0 : Nat} {v1 : Int32} {μ : xM} {rv : Option Value} {μf : xM} {out : Int32} (h : fX_count_0 v0 v1 μ = some out) (hK : fX_count_K μ rv μf out) : xRun (d + 1) 36 0 [some (.ref v0), some (.int v1)] [] μ rv μf := by
  unfold fX_count_0 at h
  refine xr_go 2 (pc' := 3) (lo' := [some (.ref v0), some (.int v1)]) (st' := [.int (xc 10), .int v1]) (μ' := μ) rfl ?_
  refine xr_icmp (pct := 22) rfl rfl rfl (fun hc => ?_) (fun hc => ?_)
  · replace h := (if_pos (of_decide_eq_true hc)).symm.trans h
    refine xr_forget (lo := [some (.ref v0), some (.int v1)]) ⟨rfl, rfl, trivial⟩ ?_
    exact fX_count_22_ok h hK
  · replace h := (if_neg (of_decide_eq_false hc)).symm.trans h
    refine xr_go 2 (pc' := 9) (lo' := [some (.ref v0), some (.int v1)]) (st' := [.int (xc 16), .int v1]) (μ' := μ) rfl ?_
    refine xr_icmp (pct := 22) rfl rfl rfl (fun hc => ?_) (fun hc => ?_)
    · replace h := (if_pos (of_decide_eq_true hc)).symm.trans h
      refine xr_forget (lo := [some (.ref v0), some (.int v1)]) ⟨rfl, rfl, trivial⟩ ?_
      exact fX_count_22_ok h hK
    · replace h := (if_neg (of_decide_eq_false hc)).symm.trans h
      refine xr_go 1 (pc' := 13) (lo' := [some (.ref v0), some (.int v1)]) (st' := [.ref v0]) (μ' := μ) rfl ?_
      obtain ⟨x20, hx20, h⟩ := Option.bind_eq_some_iff.mp h
      refine xr_opA (pc' := 16) (lo' := [some (.ref v0), some (.int v1)]) (st' := []) (o := ldFR μ v0 0 9) rfl hx20 ?_
      refine xr_go 3 (pc' := 20) (lo' := [some (.ref v0), some (.int v1)]) (st' := [.int (v1 - (xc 10)), .ref x20]) (μ' := μ) rfl ?_
      obtain ⟨x21, hx21, h⟩ := Option.bind_eq_some_iff.mp h
      refine xr_opI (pc' := 21) (lo' := [some (.ref v0), some (.int v1)]) (st' := []) (o := ldA μ x20 (v1 - (xc 10))) rfl hx21 ?_
      have ho := Option.some.inj h
      subst ho
      obtain ⟨rfl, rfl⟩ := hK
      exact xr_ret (rv := some (.int x21)) rfl rfl (Or.inl rfl)
noncomputable def fX_count (a0 : Nat) (a1 : Int32) (μ : xM) : Option (Int32) := xgd μ a0 0 (fX_count_0 a0 a1 μ)
theorem fX_count_kd {a0 : Nat} {a1 : Int32} {μ : xM} {o : Int32} (h : fX_count a0 a1 μ = some o) : (xK μ a0).1 = 10 + 0 := (xgd_some h).1
theorem fX_count_ok {d : Nat} {a0 : Nat} {a1 : Int32} {μ : xM} {o : Int32} (h : fX_count a0 a1 μ = some o) : xRun (d + 1) 36 0 [some (.ref a0), some (.int a1)] [] μ (some (.int o)) μ :=
  xr_forget (lo := [some (.ref a0), some (.int a1)]) (⟨rfl, rfl, trivial⟩) (fX_count_0_ok (d := d) (xgd_some h).2 (show fX_count_K μ _ _ o from ⟨rfl, rfl⟩))
