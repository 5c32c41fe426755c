/-! methods as functions, printed with their proofs -/
-- KeptAnswersModel.count(I)I 
def fM_count_K (μ : xM) (rv : Option Value) (μf : xM) : (Int32) → Prop := fun o => rv = some (.int o) ∧ μf = μ
def fM_count_K119 (v0 : Nat) (μ : xM) (d : Nat) (rv : Option Value) (μf : xM) : ((Int32 × Int32) ⊕ (Int32)) → Prop := Sum.elim (fun s : Int32 × Int32 => xRun (d + 1) 220 119 [some (.ref v0), none, some (.int s.1), some (.int s.2)] [] μ rv μf) (fM_count_K μ rv μf)
def fM_count_K87 (v0 : Nat) (μ : xM) (d : Nat) (rv : Option Value) (μf : xM) : ((Int32 × Int32) ⊕ (Int32)) → Prop := Sum.elim (fun s : Int32 × Int32 => xRun (d + 1) 220 87 [some (.ref v0), none, some (.int s.1), some (.int s.2)] [] μ rv μf) (fM_count_K μ rv μf)
def fM_count_K60 (v0 : Nat) (μ : xM) (d : Nat) (rv : Option Value) (μf : xM) : ((Int32 × Int32) ⊕ (Int32)) → Prop := Sum.elim (fun s : Int32 × Int32 => xRun (d + 1) 220 60 [some (.ref v0), none, some (.int s.1), some (.int s.2)] [] μ rv μf) (fM_count_K μ rv μf)
noncomputable def fM_count_150  (v2 : Int32) (μ : xM) : Option (Int32) := some v2
theorem fM_count_150_ok {d : Nat} {v2 : Int32} {μ : xM} {rv : Option Value} {μf : xM} {out : Int32} (h : fM_count_150 v2 μ = some out) (hK : fM_count_K μ rv μf out) : xRun (d + 1) 220 150 [none, none, some (.int v2), none] [] μ rv μf := by
  unfold fM_count_150 at h
  refine xr_go 1 (pc' := 151) (lo' := [none, none, some (.int v2), none]) (st' := [.int v2]) (μ' := μ) rfl ?_
  have ho := Option.some.inj h
  subst ho
  obtain ⟨rfl, rfl⟩ := hK
  exact xr_ret (rv := some (.int v2)) rfl rfl (Or.inl rfl)
noncomputable def fM_count_142  (v0 : Nat) (v3 : Int32) (s0 : Int32) (s1 : Int32) (μ : xM) : Option ((Int32 × Int32) ⊕ (Int32)) := some (.inl ((s1 + s0, v3 + xc 1)))
theorem fM_count_142_ok {d : Nat} {v0 : Nat} {v3 : Int32} {s0 : Int32} {s1 : Int32} {μ : xM} {rv : Option Value} {μf : xM} {out : (Int32 × Int32) ⊕ (Int32)} (h : fM_count_142 v0 v3 s0 s1 μ = some out) (hK : fM_count_K119 v0 μ d rv μf out) : xRun (d + 1) 220 142 [some (.ref v0), none, none, some (.int v3)] [.int s0, .int s1] μ rv μf := by
  unfold fM_count_142 at h
  refine xr_go 4 (pc' := 119) (lo' := [some (.ref v0), none, some (.int (s1 + s0)), some (.int (v3 + xc 1))]) (st' := []) (μ' := μ) rfl ?_
  refine xr_forget (lo := [some (.ref v0), none, some (.int (s1 + s0)), some (.int (v3 + xc 1))]) ⟨rfl, rfl, rfl, trivial⟩ ?_
  have ho := Option.some.inj h
  subst ho
  exact hK
noncomputable def fM_count_L119  (v0 : Nat) (v2 : Int32) (v3 : Int32) (μ : xM) : Option ((Int32 × Int32) ⊕ (Int32)) := (ldF μ v0 9 9).bind fun x1 => if x1 ≤ v3 then ((fM_count_150 v2 μ).map (fun o => .inr o)) else ((ldFR μ v0 9 16).bind fun x2 => (ldA μ x2 v3).bind fun x3 => if x3 < 0 then (fM_count_142 v0 v3 (xc 0) v2 μ) else (fM_count_142 v0 v3 (xc 1) v2 μ))
theorem fM_count_L119_ok {d : Nat} {v0 : Nat} {v2 : Int32} {v3 : Int32} {μ : xM} {rv : Option Value} {μf : xM} {out : (Int32 × Int32) ⊕ (Int32)} (h : fM_count_L119 v0 v2 v3 μ = some out) (hK : fM_count_K119 v0 μ d rv μf out) : xRun (d + 1) 220 119 [some (.ref v0), none, some (.int v2), some (.int v3)] [] μ rv μf := by
  unfold fM_count_L119 at h
  refine xr_go 2 (pc' := 121) (lo' := [some (.ref v0), none, some (.int v2), some (.int v3)]) (st' := [.ref v0, .int v3]) (μ' := μ) rfl ?_
  obtain ⟨x1, hx1, h⟩ := Option.bind_eq_some_iff.mp h
  refine xr_opI (pc' := 124) (lo' := [some (.ref v0), none, some (.int v2), some (.int v3)]) (st' := [.int v3]) (o := ldF μ v0 9 9) rfl hx1 ?_
  refine xr_icmp (pct := 150) rfl rfl rfl (fun hc => ?_) (fun hc => ?_)
  · replace h := (if_pos (of_decide_eq_true hc)).symm.trans h
    refine xr_forget (lo := [none, none, some (.int v2), none]) ⟨rfl, trivial⟩ ?_
    obtain ⟨o, h2, rfl⟩ := Option.map_eq_some_iff.mp h
    exact fM_count_150_ok h2 hK
  · replace h := (if_neg (of_decide_eq_false hc)).symm.trans h
    refine xr_go 2 (pc' := 129) (lo' := [some (.ref v0), none, some (.int v2), some (.int v3)]) (st' := [.ref v0, .int v2]) (μ' := μ) rfl ?_
    obtain ⟨x2, hx2, h⟩ := Option.bind_eq_some_iff.mp h
    refine xr_opA (pc' := 132) (lo' := [some (.ref v0), none, some (.int v2), some (.int v3)]) (st' := [.int v2]) (o := ldFR μ v0 9 16) rfl hx2 ?_
    refine xr_go 1 (pc' := 133) (lo' := [some (.ref v0), none, some (.int v2), some (.int v3)]) (st' := [.int v3, .ref x2, .int v2]) (μ' := μ) rfl ?_
    obtain ⟨x3, hx3, h⟩ := Option.bind_eq_some_iff.mp h
    refine xr_opI (pc' := 134) (lo' := [some (.ref v0), none, some (.int v2), some (.int v3)]) (st' := [.int v2]) (o := ldA μ x2 v3) rfl hx3 ?_
    refine xr_ifc (pct := 141) rfl rfl rfl (fun hc => ?_) (fun hc => ?_)
    · replace h := (if_pos (of_decide_eq_true hc)).symm.trans h
      refine xr_go 1 (pc' := 142) (lo' := [some (.ref v0), none, some (.int v2), some (.int v3)]) (st' := [.int (xc 0), .int v2]) (μ' := μ) rfl ?_
      refine xr_forget (lo := [some (.ref v0), none, none, some (.int v3)]) ⟨rfl, rfl, trivial⟩ ?_
      exact fM_count_142_ok h hK
    · replace h := (if_neg (of_decide_eq_false hc)).symm.trans h
      refine xr_go 2 (pc' := 142) (lo' := [some (.ref v0), none, some (.int v2), some (.int v3)]) (st' := [.int (xc 1), .int v2]) (μ' := μ) rfl ?_
      refine xr_forget (lo := [some (.ref v0), none, none, some (.int v3)]) ⟨rfl, rfl, trivial⟩ ?_
      exact fM_count_142_ok h hK
theorem fM_count_L119_lp {d : Nat} {v0 : Nat} {v2 : Int32} {v3 : Int32} {μ : xM} {rv : Option Value} {μf : xM} {out : Int32} (h : xwh (fun s : Int32 × Int32 => fM_count_L119 v0 s.1 s.2 μ) (v2, v3) = some out) (hK : fM_count_K μ rv μf out) : xRun (d + 1) 220 119 [some (.ref v0), none, some (.int v2), some (.int v3)] [] μ rv μf :=
  xwh_ind (Rh := fun s : Int32 × Int32 => xRun (d + 1) 220 119 [some (.ref v0), none, some (.int s.1), some (.int s.2)] [] μ rv μf) (Co := fM_count_K μ rv μf) (fun s o hb hk => fM_count_L119_ok hb hk) h hK
noncomputable def fM_count_115  (v2 : Int32) (μ : xM) : Option (Int32) := some v2
theorem fM_count_115_ok {d : Nat} {v2 : Int32} {μ : xM} {rv : Option Value} {μf : xM} {out : Int32} (h : fM_count_115 v2 μ = some out) (hK : fM_count_K μ rv μf out) : xRun (d + 1) 220 115 [none, none, some (.int v2), none] [] μ rv μf := by
  unfold fM_count_115 at h
  refine xr_go 1 (pc' := 116) (lo' := [none, none, some (.int v2), none]) (st' := [.int v2]) (μ' := μ) rfl ?_
  have ho := Option.some.inj h
  subst ho
  obtain ⟨rfl, rfl⟩ := hK
  exact xr_ret (rv := some (.int v2)) rfl rfl (Or.inl rfl)
noncomputable def fM_count_107  (v0 : Nat) (v3 : Int32) (s0 : Int32) (s1 : Int32) (μ : xM) : Option ((Int32 × Int32) ⊕ (Int32)) := some (.inl ((s1 + s0, v3 + xc 1)))
theorem fM_count_107_ok {d : Nat} {v0 : Nat} {v3 : Int32} {s0 : Int32} {s1 : Int32} {μ : xM} {rv : Option Value} {μf : xM} {out : (Int32 × Int32) ⊕ (Int32)} (h : fM_count_107 v0 v3 s0 s1 μ = some out) (hK : fM_count_K87 v0 μ d rv μf out) : xRun (d + 1) 220 107 [some (.ref v0), none, none, some (.int v3)] [.int s0, .int s1] μ rv μf := by
  unfold fM_count_107 at h
  refine xr_go 4 (pc' := 87) (lo' := [some (.ref v0), none, some (.int (s1 + s0)), some (.int (v3 + xc 1))]) (st' := []) (μ' := μ) rfl ?_
  refine xr_forget (lo := [some (.ref v0), none, some (.int (s1 + s0)), some (.int (v3 + xc 1))]) ⟨rfl, rfl, rfl, trivial⟩ ?_
  have ho := Option.some.inj h
  subst ho
  exact hK
noncomputable def fM_count_L87  (v0 : Nat) (v2 : Int32) (v3 : Int32) (μ : xM) : Option ((Int32 × Int32) ⊕ (Int32)) := if (xc 3) ≤ v3 then ((fM_count_115 v2 μ).map (fun o => .inr o)) else ((ldFR μ v0 9 1).bind fun x4 => (ldAZ μ x4 v3).bind fun x5 => if x5 = 0 then (fM_count_107 v0 v3 (xc 0) v2 μ) else (fM_count_107 v0 v3 (xc 1) v2 μ))
theorem fM_count_L87_ok {d : Nat} {v0 : Nat} {v2 : Int32} {v3 : Int32} {μ : xM} {rv : Option Value} {μf : xM} {out : (Int32 × Int32) ⊕ (Int32)} (h : fM_count_L87 v0 v2 v3 μ = some out) (hK : fM_count_K87 v0 μ d rv μf out) : xRun (d + 1) 220 87 [some (.ref v0), none, some (.int v2), some (.int v3)] [] μ rv μf := by
  unfold fM_count_L87 at h
  refine xr_go 2 (pc' := 89) (lo' := [some (.ref v0), none, some (.int v2), some (.int v3)]) (st' := [.int (xc 3), .int v3]) (μ' := μ) rfl ?_
  refine xr_icmp (pct := 115) rfl rfl rfl (fun hc => ?_) (fun hc => ?_)
  · replace h := (if_pos (of_decide_eq_true hc)).symm.trans h
    refine xr_forget (lo := [none, none, some (.int v2), none]) ⟨rfl, trivial⟩ ?_
    obtain ⟨o, h2, rfl⟩ := Option.map_eq_some_iff.mp h
    exact fM_count_115_ok h2 hK
  · replace h := (if_neg (of_decide_eq_false hc)).symm.trans h
    refine xr_go 2 (pc' := 94) (lo' := [some (.ref v0), none, some (.int v2), some (.int v3)]) (st' := [.ref v0, .int v2]) (μ' := μ) rfl ?_
    obtain ⟨x4, hx4, h⟩ := Option.bind_eq_some_iff.mp h
    refine xr_opA (pc' := 97) (lo' := [some (.ref v0), none, some (.int v2), some (.int v3)]) (st' := [.int v2]) (o := ldFR μ v0 9 1) rfl hx4 ?_
    refine xr_go 1 (pc' := 98) (lo' := [some (.ref v0), none, some (.int v2), some (.int v3)]) (st' := [.int v3, .ref x4, .int v2]) (μ' := μ) rfl ?_
    obtain ⟨x5, hx5, h⟩ := Option.bind_eq_some_iff.mp h
    refine xr_opI (pc' := 99) (lo' := [some (.ref v0), none, some (.int v2), some (.int v3)]) (st' := [.int v2]) (o := ldAZ μ x4 v3) rfl hx5 ?_
    refine xr_ifc (pct := 106) rfl rfl rfl (fun hc => ?_) (fun hc => ?_)
    · replace h := (if_pos (of_decide_eq_true hc)).symm.trans h
      refine xr_go 1 (pc' := 107) (lo' := [some (.ref v0), none, some (.int v2), some (.int v3)]) (st' := [.int (xc 0), .int v2]) (μ' := μ) rfl ?_
      refine xr_forget (lo := [some (.ref v0), none, none, some (.int v3)]) ⟨rfl, rfl, trivial⟩ ?_
      exact fM_count_107_ok h hK
    · replace h := (if_neg (of_decide_eq_false hc)).symm.trans h
      refine xr_go 2 (pc' := 107) (lo' := [some (.ref v0), none, some (.int v2), some (.int v3)]) (st' := [.int (xc 1), .int v2]) (μ' := μ) rfl ?_
      refine xr_forget (lo := [some (.ref v0), none, none, some (.int v3)]) ⟨rfl, rfl, trivial⟩ ?_
      exact fM_count_107_ok h hK
theorem fM_count_L87_lp {d : Nat} {v0 : Nat} {v2 : Int32} {v3 : Int32} {μ : xM} {rv : Option Value} {μf : xM} {out : Int32} (h : xwh (fun s : Int32 × Int32 => fM_count_L87 v0 s.1 s.2 μ) (v2, v3) = some out) (hK : fM_count_K μ rv μf out) : xRun (d + 1) 220 87 [some (.ref v0), none, some (.int v2), some (.int v3)] [] μ rv μf :=
  xwh_ind (Rh := fun s : Int32 × Int32 => xRun (d + 1) 220 87 [some (.ref v0), none, some (.int s.1), some (.int s.2)] [] μ rv μf) (Co := fM_count_K μ rv μf) (fun s o hb hk => fM_count_L87_ok hb hk) h hK
noncomputable def fM_count_83  (v2 : Int32) (μ : xM) : Option (Int32) := some v2
theorem fM_count_83_ok {d : Nat} {v2 : Int32} {μ : xM} {rv : Option Value} {μf : xM} {out : Int32} (h : fM_count_83 v2 μ = some out) (hK : fM_count_K μ rv μf out) : xRun (d + 1) 220 83 [none, none, some (.int v2), none] [] μ rv μf := by
  unfold fM_count_83 at h
  refine xr_go 1 (pc' := 84) (lo' := [none, none, some (.int v2), none]) (st' := [.int v2]) (μ' := μ) rfl ?_
  have ho := Option.some.inj h
  subst ho
  obtain ⟨rfl, rfl⟩ := hK
  exact xr_ret (rv := some (.int v2)) rfl rfl (Or.inl rfl)
noncomputable def fM_count_L60  (v0 : Nat) (v2 : Int32) (v3 : Int32) (μ : xM) : Option ((Int32 × Int32) ⊕ (Int32)) := if (xc 3) ≤ v3 then ((fM_count_83 v2 μ).map (fun o => .inr o)) else ((ldFR μ v0 9 0).bind fun x6 => (ldA μ x6 v3).bind fun x7 => (fM_ones x7 μ).bind fun r8 => some (.inl ((v2 + r8, v3 + xc 1))))
theorem fM_count_L60_ok {d : Nat} {v0 : Nat} {v2 : Int32} {v3 : Int32} {μ : xM} {rv : Option Value} {μf : xM} {out : (Int32 × Int32) ⊕ (Int32)} (h : fM_count_L60 v0 v2 v3 μ = some out) (hK : fM_count_K60 v0 μ d rv μf out) : xRun (d + 1) 220 60 [some (.ref v0), none, some (.int v2), some (.int v3)] [] μ rv μf := by
  unfold fM_count_L60 at h
  refine xr_go 2 (pc' := 62) (lo' := [some (.ref v0), none, some (.int v2), some (.int v3)]) (st' := [.int (xc 3), .int v3]) (μ' := μ) rfl ?_
  refine xr_icmp (pct := 83) rfl rfl rfl (fun hc => ?_) (fun hc => ?_)
  · replace h := (if_pos (of_decide_eq_true hc)).symm.trans h
    refine xr_forget (lo := [none, none, some (.int v2), none]) ⟨rfl, trivial⟩ ?_
    obtain ⟨o, h2, rfl⟩ := Option.map_eq_some_iff.mp h
    exact fM_count_83_ok h2 hK
  · replace h := (if_neg (of_decide_eq_false hc)).symm.trans h
    refine xr_go 2 (pc' := 67) (lo' := [some (.ref v0), none, some (.int v2), some (.int v3)]) (st' := [.ref v0, .int v2]) (μ' := μ) rfl ?_
    obtain ⟨x6, hx6, h⟩ := Option.bind_eq_some_iff.mp h
    refine xr_opA (pc' := 70) (lo' := [some (.ref v0), none, some (.int v2), some (.int v3)]) (st' := [.int v2]) (o := ldFR μ v0 9 0) rfl hx6 ?_
    refine xr_go 1 (pc' := 71) (lo' := [some (.ref v0), none, some (.int v2), some (.int v3)]) (st' := [.int v3, .ref x6, .int v2]) (μ' := μ) rfl ?_
    obtain ⟨x7, hx7, h⟩ := Option.bind_eq_some_iff.mp h
    refine xr_opI (pc' := 72) (lo' := [some (.ref v0), none, some (.int v2), some (.int v3)]) (st' := [.int v2]) (o := ldA μ x6 v3) rfl hx7 ?_
    obtain ⟨r8, hr8, h⟩ := Option.bind_eq_some_iff.mp h
    refine xr_callS (j := 141) (d' := (d + 0)) (rv1 := some (.int r8)) (μ1 := μ) (rest := [.int v2]) (As := [.int x7]) rfl rfl rfl rfl (Nat.le_of_ble_eq_true rfl) rfl (by exact (fM_ones_ok (d := d + (0)) hr8)) ?_
    refine xr_go 4 (pc' := 60) (lo' := [some (.ref v0), none, some (.int (v2 + r8)), some (.int (v3 + xc 1))]) (st' := []) (μ' := μ) rfl ?_
    refine xr_forget (lo := [some (.ref v0), none, some (.int (v2 + r8)), some (.int (v3 + xc 1))]) ⟨rfl, rfl, rfl, trivial⟩ ?_
    have ho := Option.some.inj h
    subst ho
    exact hK
theorem fM_count_L60_lp {d : Nat} {v0 : Nat} {v2 : Int32} {v3 : Int32} {μ : xM} {rv : Option Value} {μf : xM} {out : Int32} (h : xwh (fun s : Int32 × Int32 => fM_count_L60 v0 s.1 s.2 μ) (v2, v3) = some out) (hK : fM_count_K μ rv μf out) : xRun (d + 1) 220 60 [some (.ref v0), none, some (.int v2), some (.int v3)] [] μ rv μf :=
  xwh_ind (Rh := fun s : Int32 × Int32 => xRun (d + 1) 220 60 [some (.ref v0), none, some (.int s.1), some (.int s.2)] [] μ rv μf) (Co := fM_count_K μ rv μf) (fun s o hb hk => fM_count_L60_ok hb hk) h hK
noncomputable def fM_count_0  (v0 : Nat) (v1 : Int32) (μ : xM) : Option (Int32) := if (v1).toInt < 0 ∨ 7 < (v1).toInt then ((fM_isIn (Int32.toInt64 v1) (Int64.ofNat 11) (Int64.ofNat 16) μ).bind fun r9 => if r9 = 0 then (some (xc (-9))) else ((ldFR μ v0 9 25).bind fun x10 => (ldA μ x10 (v1 - (xc 10))).bind fun x11 => some x11)) else if v1 = xc 0 then ((ldF μ v0 9 8).bind fun x12 => some x12) else if v1 = xc 1 then ((ldF μ v0 9 9).bind fun x13 => some x13) else if v1 = xc 2 then (xwh (fun s : Int32 × Int32 => fM_count_L60 v0 s.1 s.2 μ) (xc 0, xc 0)) else if v1 = xc 3 then (xwh (fun s : Int32 × Int32 => fM_count_L87 v0 s.1 s.2 μ) (xc 0, xc 0)) else if v1 = xc 4 then (xwh (fun s : Int32 × Int32 => fM_count_L119 v0 s.1 s.2 μ) (xc 0, xc 0)) else if v1 = xc 5 then ((ldF μ v0 9 7).bind fun x14 => some x14) else if v1 = xc 6 then ((ldF μ v0 9 5).bind fun x15 => some x15) else if v1 = xc 7 then ((ldF μ v0 9 3).bind fun x16 => some x16) else none
theorem fM_count_0_ok {d : Nat} {v0 : Nat} {v1 : Int32} {μ : xM} {rv : Option Value} {μf : xM} {out : Int32} (h : fM_count_0 v0 v1 μ = some out) (hK : fM_count_K μ rv μf out) : xRun (d + 1) 220 0 [some (.ref v0), some (.int v1), none, none] [] μ rv μf := by
  unfold fM_count_0 at h
  refine xr_go 3 (pc' := 3) (lo' := [some (.ref v0), some (.int v1), some (.int (xc 0)), none]) (st' := [.int v1]) (μ' := μ) rfl ?_
  by_cases hq : (v1).toInt < 0 ∨ 7 < (v1).toInt
  · replace h := (if_pos hq).symm.trans h
    refine xr_tswD (pc' := 167) rfl hq rfl rfl ?_
    refine xr_go 4 (pc' := 175) (lo' := [some (.ref v0), some (.int v1), some (.int (xc 0)), none]) (st' := [.long (Int64.ofNat 16), .long (Int64.ofNat 11), .long (Int32.toInt64 v1)]) (μ' := μ) rfl ?_
    obtain ⟨r9, hr9, h⟩ := Option.bind_eq_some_iff.mp h
    refine xr_callS (j := 137) (d' := (d + 0)) (rv1 := some (.int r9)) (μ1 := μ) (rest := []) (As := [.long (Int32.toInt64 v1), .long (Int64.ofNat 11), .long (Int64.ofNat 16)]) rfl rfl rfl rfl (Nat.le_of_ble_eq_true rfl) rfl (by exact (fM_isIn_ok (d := d + (0)) hr9)) ?_
    refine xr_ifc (pct := 193) rfl rfl rfl (fun hc => ?_) (fun hc => ?_)
    · replace h := (if_pos (of_decide_eq_true hc)).symm.trans h
      refine xr_go 1 (pc' := 195) (lo' := [some (.ref v0), some (.int v1), some (.int (xc 0)), none]) (st' := [.int (xc (-9))]) (μ' := μ) rfl ?_
      have ho := Option.some.inj h
      subst ho
      obtain ⟨rfl, rfl⟩ := hK
      exact xr_ret (rv := some (.int (xc (-9)))) rfl rfl (Or.inl rfl)
    · replace h := (if_neg (of_decide_eq_false hc)).symm.trans h
      refine xr_go 1 (pc' := 182) (lo' := [some (.ref v0), some (.int v1), some (.int (xc 0)), none]) (st' := [.ref v0]) (μ' := μ) rfl ?_
      obtain ⟨x10, hx10, h⟩ := Option.bind_eq_some_iff.mp h
      refine xr_opA (pc' := 185) (lo' := [some (.ref v0), some (.int v1), some (.int (xc 0)), none]) (st' := []) (o := ldFR μ v0 9 25) rfl hx10 ?_
      refine xr_go 3 (pc' := 189) (lo' := [some (.ref v0), some (.int v1), some (.int (xc 0)), none]) (st' := [.int (v1 - (xc 10)), .ref x10]) (μ' := μ) rfl ?_
      obtain ⟨x11, hx11, h⟩ := Option.bind_eq_some_iff.mp h
      refine xr_opI (pc' := 190) (lo' := [some (.ref v0), some (.int v1), some (.int (xc 0)), none]) (st' := []) (o := ldA μ x10 (v1 - (xc 10))) rfl hx11 ?_
      refine xr_go 1 (pc' := 195) (lo' := [some (.ref v0), some (.int v1), some (.int (xc 0)), none]) (st' := [.int x11]) (μ' := μ) rfl ?_
      have ho := Option.some.inj h
      subst ho
      obtain ⟨rfl, rfl⟩ := hK
      exact xr_ret (rv := some (.int x11)) rfl rfl (Or.inl rfl)
  replace h := (if_neg hq).symm.trans h
  by_cases hq0 : v1 = xc 0
  · replace h := (if_pos hq0).symm.trans h
    refine xr_sw (v := xc 0) (pc' := 48) (lo' := [some (.ref v0), some (.int v1), some (.int (xc 0)), none]) (st' := []) (μ' := μ) hq0 rfl ?_
    refine xr_go 1 (pc' := 49) (lo' := [some (.ref v0), some (.int v1), some (.int (xc 0)), none]) (st' := [.ref v0]) (μ' := μ) rfl ?_
    obtain ⟨x12, hx12, h⟩ := Option.bind_eq_some_iff.mp h
    refine xr_opI (pc' := 52) (lo' := [some (.ref v0), some (.int v1), some (.int (xc 0)), none]) (st' := []) (o := ldF μ v0 9 8) rfl hx12 ?_
    have ho := Option.some.inj h
    subst ho
    obtain ⟨rfl, rfl⟩ := hK
    exact xr_ret (rv := some (.int x12)) rfl rfl (Or.inl rfl)
  replace h := (if_neg hq0).symm.trans h
  by_cases hq1 : v1 = xc 1
  · replace h := (if_pos hq1).symm.trans h
    refine xr_sw (v := xc 1) (pc' := 53) (lo' := [some (.ref v0), some (.int v1), some (.int (xc 0)), none]) (st' := []) (μ' := μ) hq1 rfl ?_
    refine xr_go 1 (pc' := 54) (lo' := [some (.ref v0), some (.int v1), some (.int (xc 0)), none]) (st' := [.ref v0]) (μ' := μ) rfl ?_
    obtain ⟨x13, hx13, h⟩ := Option.bind_eq_some_iff.mp h
    refine xr_opI (pc' := 57) (lo' := [some (.ref v0), some (.int v1), some (.int (xc 0)), none]) (st' := []) (o := ldF μ v0 9 9) rfl hx13 ?_
    have ho := Option.some.inj h
    subst ho
    obtain ⟨rfl, rfl⟩ := hK
    exact xr_ret (rv := some (.int x13)) rfl rfl (Or.inl rfl)
  replace h := (if_neg hq1).symm.trans h
  by_cases hq2 : v1 = xc 2
  · replace h := (if_pos hq2).symm.trans h
    refine xr_sw (v := xc 2) (pc' := 58) (lo' := [some (.ref v0), some (.int v1), some (.int (xc 0)), none]) (st' := []) (μ' := μ) hq2 rfl ?_
    refine xr_go 2 (pc' := 60) (lo' := [some (.ref v0), some (.int v1), some (.int (xc 0)), some (.int (xc 0))]) (st' := []) (μ' := μ) rfl ?_
    refine xr_forget (lo := [some (.ref v0), none, some (.int (xc 0)), some (.int (xc 0))]) ⟨rfl, rfl, rfl, trivial⟩ ?_
    exact fM_count_L60_lp h hK
  replace h := (if_neg hq2).symm.trans h
  by_cases hq3 : v1 = xc 3
  · replace h := (if_pos hq3).symm.trans h
    refine xr_sw (v := xc 3) (pc' := 85) (lo' := [some (.ref v0), some (.int v1), some (.int (xc 0)), none]) (st' := []) (μ' := μ) hq3 rfl ?_
    refine xr_go 2 (pc' := 87) (lo' := [some (.ref v0), some (.int v1), some (.int (xc 0)), some (.int (xc 0))]) (st' := []) (μ' := μ) rfl ?_
    refine xr_forget (lo := [some (.ref v0), none, some (.int (xc 0)), some (.int (xc 0))]) ⟨rfl, rfl, rfl, trivial⟩ ?_
    exact fM_count_L87_lp h hK
  replace h := (if_neg hq3).symm.trans h
  by_cases hq4 : v1 = xc 4
  · replace h := (if_pos hq4).symm.trans h
    refine xr_sw (v := xc 4) (pc' := 117) (lo' := [some (.ref v0), some (.int v1), some (.int (xc 0)), none]) (st' := []) (μ' := μ) hq4 rfl ?_
    refine xr_go 2 (pc' := 119) (lo' := [some (.ref v0), some (.int v1), some (.int (xc 0)), some (.int (xc 0))]) (st' := []) (μ' := μ) rfl ?_
    refine xr_forget (lo := [some (.ref v0), none, some (.int (xc 0)), some (.int (xc 0))]) ⟨rfl, rfl, rfl, trivial⟩ ?_
    exact fM_count_L119_lp h hK
  replace h := (if_neg hq4).symm.trans h
  by_cases hq5 : v1 = xc 5
  · replace h := (if_pos hq5).symm.trans h
    refine xr_sw (v := xc 5) (pc' := 152) (lo' := [some (.ref v0), some (.int v1), some (.int (xc 0)), none]) (st' := []) (μ' := μ) hq5 rfl ?_
    refine xr_go 1 (pc' := 153) (lo' := [some (.ref v0), some (.int v1), some (.int (xc 0)), none]) (st' := [.ref v0]) (μ' := μ) rfl ?_
    obtain ⟨x14, hx14, h⟩ := Option.bind_eq_some_iff.mp h
    refine xr_opI (pc' := 156) (lo' := [some (.ref v0), some (.int v1), some (.int (xc 0)), none]) (st' := []) (o := ldF μ v0 9 7) rfl hx14 ?_
    have ho := Option.some.inj h
    subst ho
    obtain ⟨rfl, rfl⟩ := hK
    exact xr_ret (rv := some (.int x14)) rfl rfl (Or.inl rfl)
  replace h := (if_neg hq5).symm.trans h
  by_cases hq6 : v1 = xc 6
  · replace h := (if_pos hq6).symm.trans h
    refine xr_sw (v := xc 6) (pc' := 157) (lo' := [some (.ref v0), some (.int v1), some (.int (xc 0)), none]) (st' := []) (μ' := μ) hq6 rfl ?_
    refine xr_go 1 (pc' := 158) (lo' := [some (.ref v0), some (.int v1), some (.int (xc 0)), none]) (st' := [.ref v0]) (μ' := μ) rfl ?_
    obtain ⟨x15, hx15, h⟩ := Option.bind_eq_some_iff.mp h
    refine xr_opI (pc' := 161) (lo' := [some (.ref v0), some (.int v1), some (.int (xc 0)), none]) (st' := []) (o := ldF μ v0 9 5) rfl hx15 ?_
    have ho := Option.some.inj h
    subst ho
    obtain ⟨rfl, rfl⟩ := hK
    exact xr_ret (rv := some (.int x15)) rfl rfl (Or.inl rfl)
  replace h := (if_neg hq6).symm.trans h
  by_cases hq7 : v1 = xc 7
  · replace h := (if_pos hq7).symm.trans h
    refine xr_sw (v := xc 7) (pc' := 162) (lo' := [some (.ref v0), some (.int v1), some (.int (xc 0)), none]) (st' := []) (μ' := μ) hq7 rfl ?_
    refine xr_go 1 (pc' := 163) (lo' := [some (.ref v0), some (.int v1), some (.int (xc 0)), none]) (st' := [.ref v0]) (μ' := μ) rfl ?_
    obtain ⟨x16, hx16, h⟩ := Option.bind_eq_some_iff.mp h
    refine xr_opI (pc' := 166) (lo' := [some (.ref v0), some (.int v1), some (.int (xc 0)), none]) (st' := []) (o := ldF μ v0 9 3) rfl hx16 ?_
    have ho := Option.some.inj h
    subst ho
    obtain ⟨rfl, rfl⟩ := hK
    exact xr_ret (rv := some (.int x16)) rfl rfl (Or.inl rfl)
  replace h := (if_neg hq7).symm.trans h
  cases h
noncomputable def fM_count (a0 : Nat) (a1 : Int32) (μ : xM) : Option (Int32) := xgd μ a0 9 (fM_count_0 a0 a1 μ)
theorem fM_count_kd {a0 : Nat} {a1 : Int32} {μ : xM} {o : Int32} (h : fM_count a0 a1 μ = some o) : (xK μ a0).1 = 10 + 9 := (xgd_some h).1
theorem fM_count_ok {d : Nat} {a0 : Nat} {a1 : Int32} {μ : xM} {o : Int32} (h : fM_count a0 a1 μ = some o) : xRun (d + 1) 220 0 [some (.ref a0), some (.int a1), none, none] [] μ (some (.int o)) μ :=
  xr_forget (lo := [some (.ref a0), some (.int a1), none, none]) (⟨rfl, rfl, trivial⟩) (fM_count_0_ok (d := d) (xgd_some h).2 (show fM_count_K μ _ _ o from ⟨rfl, rfl⟩))
-- KeptAnswersLaw.law([I)Z 
def fLaw_law_K (rv : Option Value) (μf : xM) : (Int32 × xM) → Prop := fun o => rv = some (.int o.1) ∧ μf = o.2
def fLaw_law_K18 (v0 : Nat) (v1 : Nat) (v2 : Nat) (d : Nat) (rv : Option Value) (μf : xM) : ((Int32 × xM) ⊕ (Int32 × xM)) → Prop := Sum.elim (fun s : Int32 × xM => xRun (d + 14) 226 18 [some (.ref v0), some (.ref v1), some (.ref v2), some (.int s.1)] [] s.2 rv μf) (fLaw_law_K rv μf)
noncomputable def fLaw_law_1290  (μ : xM) : Option (Int32 × xM) := some ((xc 1, μ))
theorem fLaw_law_1290_ok {d : Nat} {μ : xM} {rv : Option Value} {μf : xM} {out : Int32 × xM} (h : fLaw_law_1290 μ = some out) (hK : fLaw_law_K rv μf out) : xRun (d + 14) 226 1290 [none, none, none, none] [] μ rv μf := by
  unfold fLaw_law_1290 at h
  refine xr_go 1 (pc' := 1291) (lo' := [none, none, none, none]) (st' := [.int (xc 1)]) (μ' := μ) rfl ?_
  have ho := Option.some.inj h
  subst ho
  obtain ⟨rfl, rfl⟩ := hK
  exact xr_ret (rv := some (.int (xc 1))) rfl rfl (Or.inr ⟨rfl, Or.inr rfl⟩)
noncomputable def fLaw_law_1284  (v0 : Nat) (v1 : Nat) (v2 : Nat) (v3 : Int32) (μ : xM) : Option ((Int32 × xM) ⊕ (Int32 × xM)) := some (.inl ((v3 + xc 4, μ)))
theorem fLaw_law_1284_ok {d : Nat} {v0 : Nat} {v1 : Nat} {v2 : Nat} {v3 : Int32} {μ : xM} {rv : Option Value} {μf : xM} {out : (Int32 × xM) ⊕ (Int32 × xM)} (h : fLaw_law_1284 v0 v1 v2 v3 μ = some out) (hK : fLaw_law_K18 v0 v1 v2 d rv μf out) : xRun (d + 14) 226 1284 [some (.ref v0), some (.ref v1), some (.ref v2), some (.int v3)] [] μ rv μf := by
  unfold fLaw_law_1284 at h
  refine xr_go 2 (pc' := 18) (lo' := [some (.ref v0), some (.ref v1), some (.ref v2), some (.int (v3 + xc 4))]) (st' := []) (μ' := μ) rfl ?_
  refine xr_forget (lo := [some (.ref v0), some (.ref v1), some (.ref v2), some (.int (v3 + xc 4))]) ⟨rfl, rfl, rfl, rfl, trivial⟩ ?_
  have ho := Option.some.inj h
  subst ho
  exact hK
noncomputable def fLaw_law_1282  (μ : xM) : Option (Int32 × xM) := some ((xc 0, μ))
theorem fLaw_law_1282_ok {d : Nat} {μ : xM} {rv : Option Value} {μf : xM} {out : Int32 × xM} (h : fLaw_law_1282 μ = some out) (hK : fLaw_law_K rv μf out) : xRun (d + 14) 226 1282 [none, none, none, none] [] μ rv μf := by
  unfold fLaw_law_1282 at h
  refine xr_go 1 (pc' := 1283) (lo' := [none, none, none, none]) (st' := [.int (xc 0)]) (μ' := μ) rfl ?_
  have ho := Option.some.inj h
  subst ho
  obtain ⟨rfl, rfl⟩ := hK
  exact xr_ret (rv := some (.int (xc 0))) rfl rfl (Or.inr ⟨rfl, Or.inl rfl⟩)
noncomputable def fLaw_law_1259  (μ : xM) : Option (Int32 × xM) := some ((xc 0, μ))
theorem fLaw_law_1259_ok {d : Nat} {μ : xM} {rv : Option Value} {μf : xM} {out : Int32 × xM} (h : fLaw_law_1259 μ = some out) (hK : fLaw_law_K rv μf out) : xRun (d + 14) 226 1259 [none, none, none, none] [] μ rv μf := by
  unfold fLaw_law_1259 at h
  refine xr_go 1 (pc' := 1260) (lo' := [none, none, none, none]) (st' := [.int (xc 0)]) (μ' := μ) rfl ?_
  have ho := Option.some.inj h
  subst ho
  obtain ⟨rfl, rfl⟩ := hK
  exact xr_ret (rv := some (.int (xc 0))) rfl rfl (Or.inr ⟨rfl, Or.inl rfl⟩)
noncomputable def fLaw_law_1246  (μ : xM) : Option (Int32 × xM) := some ((xc 0, μ))
theorem fLaw_law_1246_ok {d : Nat} {μ : xM} {rv : Option Value} {μf : xM} {out : Int32 × xM} (h : fLaw_law_1246 μ = some out) (hK : fLaw_law_K rv μf out) : xRun (d + 14) 226 1246 [none, none, none, none] [] μ rv μf := by
  unfold fLaw_law_1246 at h
  refine xr_go 1 (pc' := 1247) (lo' := [none, none, none, none]) (st' := [.int (xc 0)]) (μ' := μ) rfl ?_
  have ho := Option.some.inj h
  subst ho
  obtain ⟨rfl, rfl⟩ := hK
  exact xr_ret (rv := some (.int (xc 0))) rfl rfl (Or.inr ⟨rfl, Or.inl rfl⟩)
noncomputable def fLaw_law_1233  (μ : xM) : Option (Int32 × xM) := some ((xc 0, μ))
theorem fLaw_law_1233_ok {d : Nat} {μ : xM} {rv : Option Value} {μf : xM} {out : Int32 × xM} (h : fLaw_law_1233 μ = some out) (hK : fLaw_law_K rv μf out) : xRun (d + 14) 226 1233 [none, none, none, none] [] μ rv μf := by
  unfold fLaw_law_1233 at h
  refine xr_go 1 (pc' := 1234) (lo' := [none, none, none, none]) (st' := [.int (xc 0)]) (μ' := μ) rfl ?_
  have ho := Option.some.inj h
  subst ho
  obtain ⟨rfl, rfl⟩ := hK
  exact xr_ret (rv := some (.int (xc 0))) rfl rfl (Or.inr ⟨rfl, Or.inl rfl⟩)
noncomputable def fLaw_law_1210  (μ : xM) : Option (Int32 × xM) := some ((xc 0, μ))
theorem fLaw_law_1210_ok {d : Nat} {μ : xM} {rv : Option Value} {μf : xM} {out : Int32 × xM} (h : fLaw_law_1210 μ = some out) (hK : fLaw_law_K rv μf out) : xRun (d + 14) 226 1210 [none, none, none, none] [] μ rv μf := by
  unfold fLaw_law_1210 at h
  refine xr_go 1 (pc' := 1211) (lo' := [none, none, none, none]) (st' := [.int (xc 0)]) (μ' := μ) rfl ?_
  have ho := Option.some.inj h
  subst ho
  obtain ⟨rfl, rfl⟩ := hK
  exact xr_ret (rv := some (.int (xc 0))) rfl rfl (Or.inr ⟨rfl, Or.inl rfl⟩)
noncomputable def fLaw_law_1204  (v0 : Nat) (v1 : Nat) (v2 : Nat) (v3 : Int32) (s0 : Int32) (s1 : Int32) (s2 : Nat) (s3 : Int32) (μ : xM) : Option ((Int32 × xM) ⊕ (Int32 × xM)) := (fM_given s2 s1 s0 μ).bind fun r1 => if s3 = r1.1 then (fLaw_law_1284 v0 v1 v2 v3 r1.2) else ((fLaw_law_1210 r1.2).map (fun o => .inr o))
theorem fLaw_law_1204_ok {d : Nat} {v0 : Nat} {v1 : Nat} {v2 : Nat} {v3 : Int32} {s0 : Int32} {s1 : Int32} {s2 : Nat} {s3 : Int32} {μ : xM} {rv : Option Value} {μf : xM} {out : (Int32 × xM) ⊕ (Int32 × xM)} (h : fLaw_law_1204 v0 v1 v2 v3 s0 s1 s2 s3 μ = some out) (hK : fLaw_law_K18 v0 v1 v2 d rv μf out) : xRun (d + 14) 226 1204 [some (.ref v0), some (.ref v1), some (.ref v2), some (.int v3)] [.int s0, .int s1, .ref s2, .int s3] μ rv μf := by
  unfold fLaw_law_1204 at h
  obtain ⟨r1, hr1, h⟩ := Option.bind_eq_some_iff.mp h
  refine xr_callV (j := 213) (d' := (d + 13)) (rv1 := some (.int r1.1)) (μ1 := r1.2) (rest := [.int s3]) (As := [.int s1, .int s0]) rfl rfl rfl rfl (Nat.le_of_ble_eq_true rfl) (fM_given_kd hr1) rfl (by exact (fM_given_ok (d := d + (11)) hr1)) ?_
  refine xr_icmp (pct := 1284) rfl rfl rfl (fun hc => ?_) (fun hc => ?_)
  · replace h := (if_pos (of_decide_eq_true hc)).symm.trans h
    refine xr_forget (lo := [some (.ref v0), some (.ref v1), some (.ref v2), some (.int v3)]) ⟨rfl, rfl, rfl, rfl, trivial⟩ ?_
    exact fLaw_law_1284_ok h hK
  · replace h := (if_neg (of_decide_eq_false hc)).symm.trans h
    refine xr_forget (lo := [none, none, none, none]) trivial ?_
    obtain ⟨o, h2, rfl⟩ := Option.map_eq_some_iff.mp h
    exact fLaw_law_1210_ok h2 hK
noncomputable def fLaw_law_1182  (v0 : Nat) (v1 : Nat) (v2 : Nat) (v3 : Int32) (s0 : Int32) (s1 : Int32) (s2 : Nat) (μ : xM) : Option ((Int32 × xM) ⊕ (Int32 × xM)) := (fX_given s2 s1 s0 μ).bind fun r2 => (ldA r2.2 v0 (v3 + (xc 1))).bind fun x3 => (ldA r2.2 v0 (v3 + (xc 2))).bind fun x4 => if x4 = 0 then (fLaw_law_1204 v0 v1 v2 v3 (xc 0) x3 v2 r2.1 r2.2) else (fLaw_law_1204 v0 v1 v2 v3 (xc 1) x3 v2 r2.1 r2.2)
theorem fLaw_law_1182_ok {d : Nat} {v0 : Nat} {v1 : Nat} {v2 : Nat} {v3 : Int32} {s0 : Int32} {s1 : Int32} {s2 : Nat} {μ : xM} {rv : Option Value} {μf : xM} {out : (Int32 × xM) ⊕ (Int32 × xM)} (h : fLaw_law_1182 v0 v1 v2 v3 s0 s1 s2 μ = some out) (hK : fLaw_law_K18 v0 v1 v2 d rv μf out) : xRun (d + 14) 226 1182 [some (.ref v0), some (.ref v1), some (.ref v2), some (.int v3)] [.int s0, .int s1, .ref s2] μ rv μf := by
  unfold fLaw_law_1182 at h
  obtain ⟨r2, hr2, h⟩ := Option.bind_eq_some_iff.mp h
  refine xr_callV (j := 32) (d' := (d + 13)) (rv1 := some (.int r2.1)) (μ1 := r2.2) (rest := []) (As := [.int s1, .int s0]) rfl rfl rfl rfl (Nat.le_of_ble_eq_true rfl) (fX_given_kd hr2) rfl (by exact (fX_given_ok (d := d + (12)) hr2)) ?_
  refine xr_go 5 (pc' := 1190) (lo' := [some (.ref v0), some (.ref v1), some (.ref v2), some (.int v3)]) (st' := [.int (v3 + (xc 1)), .ref v0, .ref v2, .int r2.1]) (μ' := r2.2) rfl ?_
  obtain ⟨x3, hx3, h⟩ := Option.bind_eq_some_iff.mp h
  refine xr_opI (pc' := 1191) (lo' := [some (.ref v0), some (.ref v1), some (.ref v2), some (.int v3)]) (st' := [.ref v2, .int r2.1]) (o := ldA r2.2 v0 (v3 + (xc 1))) rfl hx3 ?_
  refine xr_go 4 (pc' := 1195) (lo' := [some (.ref v0), some (.ref v1), some (.ref v2), some (.int v3)]) (st' := [.int (v3 + (xc 2)), .ref v0, .int x3, .ref v2, .int r2.1]) (μ' := r2.2) rfl ?_
  obtain ⟨x4, hx4, h⟩ := Option.bind_eq_some_iff.mp h
  refine xr_opI (pc' := 1196) (lo' := [some (.ref v0), some (.ref v1), some (.ref v2), some (.int v3)]) (st' := [.int x3, .ref v2, .int r2.1]) (o := ldA r2.2 v0 (v3 + (xc 2))) rfl hx4 ?_
  refine xr_ifc (pct := 1203) rfl rfl rfl (fun hc => ?_) (fun hc => ?_)
  · replace h := (if_pos (of_decide_eq_true hc)).symm.trans h
    refine xr_go 1 (pc' := 1204) (lo' := [some (.ref v0), some (.ref v1), some (.ref v2), some (.int v3)]) (st' := [.int (xc 0), .int x3, .ref v2, .int r2.1]) (μ' := r2.2) rfl ?_
    refine xr_forget (lo := [some (.ref v0), some (.ref v1), some (.ref v2), some (.int v3)]) ⟨rfl, rfl, rfl, rfl, trivial⟩ ?_
    exact fLaw_law_1204_ok h hK
  · replace h := (if_neg (of_decide_eq_false hc)).symm.trans h
    refine xr_go 2 (pc' := 1204) (lo' := [some (.ref v0), some (.ref v1), some (.ref v2), some (.int v3)]) (st' := [.int (xc 1), .int x3, .ref v2, .int r2.1]) (μ' := r2.2) rfl ?_
    refine xr_forget (lo := [some (.ref v0), some (.ref v1), some (.ref v2), some (.int v3)]) ⟨rfl, rfl, rfl, rfl, trivial⟩ ?_
    exact fLaw_law_1204_ok h hK
noncomputable def fLaw_law_1161  (μ : xM) : Option (Int32 × xM) := some ((xc 0, μ))
theorem fLaw_law_1161_ok {d : Nat} {μ : xM} {rv : Option Value} {μf : xM} {out : Int32 × xM} (h : fLaw_law_1161 μ = some out) (hK : fLaw_law_K rv μf out) : xRun (d + 14) 226 1161 [none, none, none, none] [] μ rv μf := by
  unfold fLaw_law_1161 at h
  refine xr_go 1 (pc' := 1162) (lo' := [none, none, none, none]) (st' := [.int (xc 0)]) (μ' := μ) rfl ?_
  have ho := Option.some.inj h
  subst ho
  obtain ⟨rfl, rfl⟩ := hK
  exact xr_ret (rv := some (.int (xc 0))) rfl rfl (Or.inr ⟨rfl, Or.inl rfl⟩)
noncomputable def fLaw_law_1138  (μ : xM) : Option (Int32 × xM) := some ((xc 0, μ))
theorem fLaw_law_1138_ok {d : Nat} {μ : xM} {rv : Option Value} {μf : xM} {out : Int32 × xM} (h : fLaw_law_1138 μ = some out) (hK : fLaw_law_K rv μf out) : xRun (d + 14) 226 1138 [none, none, none, none] [] μ rv μf := by
  unfold fLaw_law_1138 at h
  refine xr_go 1 (pc' := 1139) (lo' := [none, none, none, none]) (st' := [.int (xc 0)]) (μ' := μ) rfl ?_
  have ho := Option.some.inj h
  subst ho
  obtain ⟨rfl, rfl⟩ := hK
  exact xr_ret (rv := some (.int (xc 0))) rfl rfl (Or.inr ⟨rfl, Or.inl rfl⟩)
noncomputable def fLaw_law_1095  (μ : xM) : Option (Int32 × xM) := some ((xc 0, μ))
theorem fLaw_law_1095_ok {d : Nat} {μ : xM} {rv : Option Value} {μf : xM} {out : Int32 × xM} (h : fLaw_law_1095 μ = some out) (hK : fLaw_law_K rv μf out) : xRun (d + 14) 226 1095 [none, none, none, none] [] μ rv μf := by
  unfold fLaw_law_1095 at h
  refine xr_go 1 (pc' := 1096) (lo' := [none, none, none, none]) (st' := [.int (xc 0)]) (μ' := μ) rfl ?_
  have ho := Option.some.inj h
  subst ho
  obtain ⟨rfl, rfl⟩ := hK
  exact xr_ret (rv := some (.int (xc 0))) rfl rfl (Or.inr ⟨rfl, Or.inl rfl⟩)
noncomputable def fLaw_law_1072  (μ : xM) : Option (Int32 × xM) := some ((xc 0, μ))
theorem fLaw_law_1072_ok {d : Nat} {μ : xM} {rv : Option Value} {μf : xM} {out : Int32 × xM} (h : fLaw_law_1072 μ = some out) (hK : fLaw_law_K rv μf out) : xRun (d + 14) 226 1072 [none, none, none, none] [] μ rv μf := by
  unfold fLaw_law_1072 at h
  refine xr_go 1 (pc' := 1073) (lo' := [none, none, none, none]) (st' := [.int (xc 0)]) (μ' := μ) rfl ?_
  have ho := Option.some.inj h
  subst ho
  obtain ⟨rfl, rfl⟩ := hK
  exact xr_ret (rv := some (.int (xc 0))) rfl rfl (Or.inr ⟨rfl, Or.inl rfl⟩)
noncomputable def fLaw_law_1049  (μ : xM) : Option (Int32 × xM) := some ((xc 0, μ))
theorem fLaw_law_1049_ok {d : Nat} {μ : xM} {rv : Option Value} {μf : xM} {out : Int32 × xM} (h : fLaw_law_1049 μ = some out) (hK : fLaw_law_K rv μf out) : xRun (d + 14) 226 1049 [none, none, none, none] [] μ rv μf := by
  unfold fLaw_law_1049 at h
  refine xr_go 1 (pc' := 1050) (lo' := [none, none, none, none]) (st' := [.int (xc 0)]) (μ' := μ) rfl ?_
  have ho := Option.some.inj h
  subst ho
  obtain ⟨rfl, rfl⟩ := hK
  exact xr_ret (rv := some (.int (xc 0))) rfl rfl (Or.inr ⟨rfl, Or.inl rfl⟩)
noncomputable def fLaw_law_1016  (μ : xM) : Option (Int32 × xM) := some ((xc 0, μ))
theorem fLaw_law_1016_ok {d : Nat} {μ : xM} {rv : Option Value} {μf : xM} {out : Int32 × xM} (h : fLaw_law_1016 μ = some out) (hK : fLaw_law_K rv μf out) : xRun (d + 14) 226 1016 [none, none, none, none] [] μ rv μf := by
  unfold fLaw_law_1016 at h
  refine xr_go 1 (pc' := 1017) (lo' := [none, none, none, none]) (st' := [.int (xc 0)]) (μ' := μ) rfl ?_
  have ho := Option.some.inj h
  subst ho
  obtain ⟨rfl, rfl⟩ := hK
  exact xr_ret (rv := some (.int (xc 0))) rfl rfl (Or.inr ⟨rfl, Or.inl rfl⟩)
noncomputable def fLaw_law_973  (μ : xM) : Option (Int32 × xM) := some ((xc 0, μ))
theorem fLaw_law_973_ok {d : Nat} {μ : xM} {rv : Option Value} {μf : xM} {out : Int32 × xM} (h : fLaw_law_973 μ = some out) (hK : fLaw_law_K rv μf out) : xRun (d + 14) 226 973 [none, none, none, none] [] μ rv μf := by
  unfold fLaw_law_973 at h
  refine xr_go 1 (pc' := 974) (lo' := [none, none, none, none]) (st' := [.int (xc 0)]) (μ' := μ) rfl ?_
  have ho := Option.some.inj h
  subst ho
  obtain ⟨rfl, rfl⟩ := hK
  exact xr_ret (rv := some (.int (xc 0))) rfl rfl (Or.inr ⟨rfl, Or.inl rfl⟩)
noncomputable def fLaw_law_940  (μ : xM) : Option (Int32 × xM) := some ((xc 0, μ))
theorem fLaw_law_940_ok {d : Nat} {μ : xM} {rv : Option Value} {μf : xM} {out : Int32 × xM} (h : fLaw_law_940 μ = some out) (hK : fLaw_law_K rv μf out) : xRun (d + 14) 226 940 [none, none, none, none] [] μ rv μf := by
  unfold fLaw_law_940 at h
  refine xr_go 1 (pc' := 941) (lo' := [none, none, none, none]) (st' := [.int (xc 0)]) (μ' := μ) rfl ?_
  have ho := Option.some.inj h
  subst ho
  obtain ⟨rfl, rfl⟩ := hK
  exact xr_ret (rv := some (.int (xc 0))) rfl rfl (Or.inr ⟨rfl, Or.inl rfl⟩)
noncomputable def fLaw_law_917  (μ : xM) : Option (Int32 × xM) := some ((xc 0, μ))
theorem fLaw_law_917_ok {d : Nat} {μ : xM} {rv : Option Value} {μf : xM} {out : Int32 × xM} (h : fLaw_law_917 μ = some out) (hK : fLaw_law_K rv μf out) : xRun (d + 14) 226 917 [none, none, none, none] [] μ rv μf := by
  unfold fLaw_law_917 at h
  refine xr_go 1 (pc' := 918) (lo' := [none, none, none, none]) (st' := [.int (xc 0)]) (μ' := μ) rfl ?_
  have ho := Option.some.inj h
  subst ho
  obtain ⟨rfl, rfl⟩ := hK
  exact xr_ret (rv := some (.int (xc 0))) rfl rfl (Or.inr ⟨rfl, Or.inl rfl⟩)
noncomputable def fLaw_law_884  (μ : xM) : Option (Int32 × xM) := some ((xc 0, μ))
theorem fLaw_law_884_ok {d : Nat} {μ : xM} {rv : Option Value} {μf : xM} {out : Int32 × xM} (h : fLaw_law_884 μ = some out) (hK : fLaw_law_K rv μf out) : xRun (d + 14) 226 884 [none, none, none, none] [] μ rv μf := by
  unfold fLaw_law_884 at h
  refine xr_go 1 (pc' := 885) (lo' := [none, none, none, none]) (st' := [.int (xc 0)]) (μ' := μ) rfl ?_
  have ho := Option.some.inj h
  subst ho
  obtain ⟨rfl, rfl⟩ := hK
  exact xr_ret (rv := some (.int (xc 0))) rfl rfl (Or.inr ⟨rfl, Or.inl rfl⟩)
noncomputable def fLaw_law_871  (μ : xM) : Option (Int32 × xM) := some ((xc 0, μ))
theorem fLaw_law_871_ok {d : Nat} {μ : xM} {rv : Option Value} {μf : xM} {out : Int32 × xM} (h : fLaw_law_871 μ = some out) (hK : fLaw_law_K rv μf out) : xRun (d + 14) 226 871 [none, none, none, none] [] μ rv μf := by
  unfold fLaw_law_871 at h
  refine xr_go 1 (pc' := 872) (lo' := [none, none, none, none]) (st' := [.int (xc 0)]) (μ' := μ) rfl ?_
  have ho := Option.some.inj h
  subst ho
  obtain ⟨rfl, rfl⟩ := hK
  exact xr_ret (rv := some (.int (xc 0))) rfl rfl (Or.inr ⟨rfl, Or.inl rfl⟩)
noncomputable def fLaw_law_865  (v0 : Nat) (v1 : Nat) (v2 : Nat) (v3 : Int32) (s0 : Int32) (s1 : Int32) (s2 : Nat) (s3 : Int32) (μ : xM) : Option ((Int32 × xM) ⊕ (Int32 × xM)) := (fM_keep s2 s1 s0 μ).bind fun r5 => if s3 = r5.1 then (fLaw_law_1284 v0 v1 v2 v3 r5.2) else ((fLaw_law_871 r5.2).map (fun o => .inr o))
theorem fLaw_law_865_ok {d : Nat} {v0 : Nat} {v1 : Nat} {v2 : Nat} {v3 : Int32} {s0 : Int32} {s1 : Int32} {s2 : Nat} {s3 : Int32} {μ : xM} {rv : Option Value} {μf : xM} {out : (Int32 × xM) ⊕ (Int32 × xM)} (h : fLaw_law_865 v0 v1 v2 v3 s0 s1 s2 s3 μ = some out) (hK : fLaw_law_K18 v0 v1 v2 d rv μf out) : xRun (d + 14) 226 865 [some (.ref v0), some (.ref v1), some (.ref v2), some (.int v3)] [.int s0, .int s1, .ref s2, .int s3] μ rv μf := by
  unfold fLaw_law_865 at h
  obtain ⟨r5, hr5, h⟩ := Option.bind_eq_some_iff.mp h
  refine xr_callV (j := 196) (d' := (d + 13)) (rv1 := some (.int r5.1)) (μ1 := r5.2) (rest := [.int s3]) (As := [.int s1, .int s0]) rfl rfl rfl rfl (Nat.le_of_ble_eq_true rfl) (fM_keep_kd hr5) rfl (by exact (fM_keep_ok (d := d + (11)) hr5)) ?_
  refine xr_icmp (pct := 1284) rfl rfl rfl (fun hc => ?_) (fun hc => ?_)
  · replace h := (if_pos (of_decide_eq_true hc)).symm.trans h
    refine xr_forget (lo := [some (.ref v0), some (.ref v1), some (.ref v2), some (.int v3)]) ⟨rfl, rfl, rfl, rfl, trivial⟩ ?_
    exact fLaw_law_1284_ok h hK
  · replace h := (if_neg (of_decide_eq_false hc)).symm.trans h
    refine xr_forget (lo := [none, none, none, none]) trivial ?_
    obtain ⟨o, h2, rfl⟩ := Option.map_eq_some_iff.mp h
    exact fLaw_law_871_ok h2 hK
noncomputable def fLaw_law_843  (v0 : Nat) (v1 : Nat) (v2 : Nat) (v3 : Int32) (s0 : Int32) (s1 : Int32) (s2 : Nat) (μ : xM) : Option ((Int32 × xM) ⊕ (Int32 × xM)) := (fX_keep s2 s1 s0 μ).bind fun r6 => (ldA r6.2 v0 (v3 + (xc 1))).bind fun x7 => (ldA r6.2 v0 (v3 + (xc 2))).bind fun x8 => if x8 = 0 then (fLaw_law_865 v0 v1 v2 v3 (xc 0) x7 v2 r6.1 r6.2) else (fLaw_law_865 v0 v1 v2 v3 (xc 1) x7 v2 r6.1 r6.2)
theorem fLaw_law_843_ok {d : Nat} {v0 : Nat} {v1 : Nat} {v2 : Nat} {v3 : Int32} {s0 : Int32} {s1 : Int32} {s2 : Nat} {μ : xM} {rv : Option Value} {μf : xM} {out : (Int32 × xM) ⊕ (Int32 × xM)} (h : fLaw_law_843 v0 v1 v2 v3 s0 s1 s2 μ = some out) (hK : fLaw_law_K18 v0 v1 v2 d rv μf out) : xRun (d + 14) 226 843 [some (.ref v0), some (.ref v1), some (.ref v2), some (.int v3)] [.int s0, .int s1, .ref s2] μ rv μf := by
  unfold fLaw_law_843 at h
  obtain ⟨r6, hr6, h⟩ := Option.bind_eq_some_iff.mp h
  refine xr_callV (j := 21) (d' := (d + 13)) (rv1 := some (.int r6.1)) (μ1 := r6.2) (rest := []) (As := [.int s1, .int s0]) rfl rfl rfl rfl (Nat.le_of_ble_eq_true rfl) (fX_keep_kd hr6) rfl (by exact (fX_keep_ok (d := d + (10)) hr6)) ?_
  refine xr_go 5 (pc' := 851) (lo' := [some (.ref v0), some (.ref v1), some (.ref v2), some (.int v3)]) (st' := [.int (v3 + (xc 1)), .ref v0, .ref v2, .int r6.1]) (μ' := r6.2) rfl ?_
  obtain ⟨x7, hx7, h⟩ := Option.bind_eq_some_iff.mp h
  refine xr_opI (pc' := 852) (lo' := [some (.ref v0), some (.ref v1), some (.ref v2), some (.int v3)]) (st' := [.ref v2, .int r6.1]) (o := ldA r6.2 v0 (v3 + (xc 1))) rfl hx7 ?_
  refine xr_go 4 (pc' := 856) (lo' := [some (.ref v0), some (.ref v1), some (.ref v2), some (.int v3)]) (st' := [.int (v3 + (xc 2)), .ref v0, .int x7, .ref v2, .int r6.1]) (μ' := r6.2) rfl ?_
  obtain ⟨x8, hx8, h⟩ := Option.bind_eq_some_iff.mp h
  refine xr_opI (pc' := 857) (lo' := [some (.ref v0), some (.ref v1), some (.ref v2), some (.int v3)]) (st' := [.int x7, .ref v2, .int r6.1]) (o := ldA r6.2 v0 (v3 + (xc 2))) rfl hx8 ?_
  refine xr_ifc (pct := 864) rfl rfl rfl (fun hc => ?_) (fun hc => ?_)
  · replace h := (if_pos (of_decide_eq_true hc)).symm.trans h
    refine xr_go 1 (pc' := 865) (lo' := [some (.ref v0), some (.ref v1), some (.ref v2), some (.int v3)]) (st' := [.int (xc 0), .int x7, .ref v2, .int r6.1]) (μ' := r6.2) rfl ?_
    refine xr_forget (lo := [some (.ref v0), some (.ref v1), some (.ref v2), some (.int v3)]) ⟨rfl, rfl, rfl, rfl, trivial⟩ ?_
    exact fLaw_law_865_ok h hK
  · replace h := (if_neg (of_decide_eq_false hc)).symm.trans h
    refine xr_go 2 (pc' := 865) (lo' := [some (.ref v0), some (.ref v1), some (.ref v2), some (.int v3)]) (st' := [.int (xc 1), .int x7, .ref v2, .int r6.1]) (μ' := r6.2) rfl ?_
    refine xr_forget (lo := [some (.ref v0), some (.ref v1), some (.ref v2), some (.int v3)]) ⟨rfl, rfl, rfl, rfl, trivial⟩ ?_
    exact fLaw_law_865_ok h hK
noncomputable def fLaw_law_822  (μ : xM) : Option (Int32 × xM) := some ((xc 0, μ))
theorem fLaw_law_822_ok {d : Nat} {μ : xM} {rv : Option Value} {μf : xM} {out : Int32 × xM} (h : fLaw_law_822 μ = some out) (hK : fLaw_law_K rv μf out) : xRun (d + 14) 226 822 [none, none, none, none] [] μ rv μf := by
  unfold fLaw_law_822 at h
  refine xr_go 1 (pc' := 823) (lo' := [none, none, none, none]) (st' := [.int (xc 0)]) (μ' := μ) rfl ?_
  have ho := Option.some.inj h
  subst ho
  obtain ⟨rfl, rfl⟩ := hK
  exact xr_ret (rv := some (.int (xc 0))) rfl rfl (Or.inr ⟨rfl, Or.inl rfl⟩)
noncomputable def fLaw_law_789  (μ : xM) : Option (Int32 × xM) := some ((xc 0, μ))
theorem fLaw_law_789_ok {d : Nat} {μ : xM} {rv : Option Value} {μf : xM} {out : Int32 × xM} (h : fLaw_law_789 μ = some out) (hK : fLaw_law_K rv μf out) : xRun (d + 14) 226 789 [none, none, none, none] [] μ rv μf := by
  unfold fLaw_law_789 at h
  refine xr_go 1 (pc' := 790) (lo' := [none, none, none, none]) (st' := [.int (xc 0)]) (μ' := μ) rfl ?_
  have ho := Option.some.inj h
  subst ho
  obtain ⟨rfl, rfl⟩ := hK
  exact xr_ret (rv := some (.int (xc 0))) rfl rfl (Or.inr ⟨rfl, Or.inl rfl⟩)
noncomputable def fLaw_law_756  (μ : xM) : Option (Int32 × xM) := some ((xc 0, μ))
theorem fLaw_law_756_ok {d : Nat} {μ : xM} {rv : Option Value} {μf : xM} {out : Int32 × xM} (h : fLaw_law_756 μ = some out) (hK : fLaw_law_K rv μf out) : xRun (d + 14) 226 756 [none, none, none, none] [] μ rv μf := by
  unfold fLaw_law_756 at h
  refine xr_go 1 (pc' := 757) (lo' := [none, none, none, none]) (st' := [.int (xc 0)]) (μ' := μ) rfl ?_
  have ho := Option.some.inj h
  subst ho
  obtain ⟨rfl, rfl⟩ := hK
  exact xr_ret (rv := some (.int (xc 0))) rfl rfl (Or.inr ⟨rfl, Or.inl rfl⟩)
noncomputable def fLaw_law_723  (μ : xM) : Option (Int32 × xM) := some ((xc 0, μ))
theorem fLaw_law_723_ok {d : Nat} {μ : xM} {rv : Option Value} {μf : xM} {out : Int32 × xM} (h : fLaw_law_723 μ = some out) (hK : fLaw_law_K rv μf out) : xRun (d + 14) 226 723 [none, none, none, none] [] μ rv μf := by
  unfold fLaw_law_723 at h
  refine xr_go 1 (pc' := 724) (lo' := [none, none, none, none]) (st' := [.int (xc 0)]) (μ' := μ) rfl ?_
  have ho := Option.some.inj h
  subst ho
  obtain ⟨rfl, rfl⟩ := hK
  exact xr_ret (rv := some (.int (xc 0))) rfl rfl (Or.inr ⟨rfl, Or.inl rfl⟩)
noncomputable def fLaw_law_690  (μ : xM) : Option (Int32 × xM) := some ((xc 0, μ))
theorem fLaw_law_690_ok {d : Nat} {μ : xM} {rv : Option Value} {μf : xM} {out : Int32 × xM} (h : fLaw_law_690 μ = some out) (hK : fLaw_law_K rv μf out) : xRun (d + 14) 226 690 [none, none, none, none] [] μ rv μf := by
  unfold fLaw_law_690 at h
  refine xr_go 1 (pc' := 691) (lo' := [none, none, none, none]) (st' := [.int (xc 0)]) (μ' := μ) rfl ?_
  have ho := Option.some.inj h
  subst ho
  obtain ⟨rfl, rfl⟩ := hK
  exact xr_ret (rv := some (.int (xc 0))) rfl rfl (Or.inr ⟨rfl, Or.inl rfl⟩)
noncomputable def fLaw_law_667  (μ : xM) : Option (Int32 × xM) := some ((xc 0, μ))
theorem fLaw_law_667_ok {d : Nat} {μ : xM} {rv : Option Value} {μf : xM} {out : Int32 × xM} (h : fLaw_law_667 μ = some out) (hK : fLaw_law_K rv μf out) : xRun (d + 14) 226 667 [none, none, none, none] [] μ rv μf := by
  unfold fLaw_law_667 at h
  refine xr_go 1 (pc' := 668) (lo' := [none, none, none, none]) (st' := [.int (xc 0)]) (μ' := μ) rfl ?_
  have ho := Option.some.inj h
  subst ho
  obtain ⟨rfl, rfl⟩ := hK
  exact xr_ret (rv := some (.int (xc 0))) rfl rfl (Or.inr ⟨rfl, Or.inl rfl⟩)
noncomputable def fLaw_law_634  (μ : xM) : Option (Int32 × xM) := some ((xc 0, μ))
theorem fLaw_law_634_ok {d : Nat} {μ : xM} {rv : Option Value} {μf : xM} {out : Int32 × xM} (h : fLaw_law_634 μ = some out) (hK : fLaw_law_K rv μf out) : xRun (d + 14) 226 634 [none, none, none, none] [] μ rv μf := by
  unfold fLaw_law_634 at h
  refine xr_go 1 (pc' := 635) (lo' := [none, none, none, none]) (st' := [.int (xc 0)]) (μ' := μ) rfl ?_
  have ho := Option.some.inj h
  subst ho
  obtain ⟨rfl, rfl⟩ := hK
  exact xr_ret (rv := some (.int (xc 0))) rfl rfl (Or.inr ⟨rfl, Or.inl rfl⟩)
noncomputable def fLaw_law_601  (μ : xM) : Option (Int32 × xM) := some ((xc 0, μ))
theorem fLaw_law_601_ok {d : Nat} {μ : xM} {rv : Option Value} {μf : xM} {out : Int32 × xM} (h : fLaw_law_601 μ = some out) (hK : fLaw_law_K rv μf out) : xRun (d + 14) 226 601 [none, none, none, none] [] μ rv μf := by
  unfold fLaw_law_601 at h
  refine xr_go 1 (pc' := 602) (lo' := [none, none, none, none]) (st' := [.int (xc 0)]) (μ' := μ) rfl ?_
  have ho := Option.some.inj h
  subst ho
  obtain ⟨rfl, rfl⟩ := hK
  exact xr_ret (rv := some (.int (xc 0))) rfl rfl (Or.inr ⟨rfl, Or.inl rfl⟩)
noncomputable def fLaw_law_568  (μ : xM) : Option (Int32 × xM) := some ((xc 0, μ))
theorem fLaw_law_568_ok {d : Nat} {μ : xM} {rv : Option Value} {μf : xM} {out : Int32 × xM} (h : fLaw_law_568 μ = some out) (hK : fLaw_law_K rv μf out) : xRun (d + 14) 226 568 [none, none, none, none] [] μ rv μf := by
  unfold fLaw_law_568 at h
  refine xr_go 1 (pc' := 569) (lo' := [none, none, none, none]) (st' := [.int (xc 0)]) (μ' := μ) rfl ?_
  have ho := Option.some.inj h
  subst ho
  obtain ⟨rfl, rfl⟩ := hK
  exact xr_ret (rv := some (.int (xc 0))) rfl rfl (Or.inr ⟨rfl, Or.inl rfl⟩)
noncomputable def fLaw_law_535  (μ : xM) : Option (Int32 × xM) := some ((xc 0, μ))
theorem fLaw_law_535_ok {d : Nat} {μ : xM} {rv : Option Value} {μf : xM} {out : Int32 × xM} (h : fLaw_law_535 μ = some out) (hK : fLaw_law_K rv μf out) : xRun (d + 14) 226 535 [none, none, none, none] [] μ rv μf := by
  unfold fLaw_law_535 at h
  refine xr_go 1 (pc' := 536) (lo' := [none, none, none, none]) (st' := [.int (xc 0)]) (μ' := μ) rfl ?_
  have ho := Option.some.inj h
  subst ho
  obtain ⟨rfl, rfl⟩ := hK
  exact xr_ret (rv := some (.int (xc 0))) rfl rfl (Or.inr ⟨rfl, Or.inl rfl⟩)
noncomputable def fLaw_law_529  (v0 : Nat) (v1 : Nat) (v2 : Nat) (v3 : Int32) (s0 : Int32) (s1 : Int32) (s2 : Nat) (s3 : Int32) (μ : xM) : Option ((Int32 × xM) ⊕ (Int32 × xM)) := (fM_answer s2 s1 s0 μ).bind fun r9 => if s3 = r9.1 then (fLaw_law_1284 v0 v1 v2 v3 r9.2) else ((fLaw_law_535 r9.2).map (fun o => .inr o))
theorem fLaw_law_529_ok {d : Nat} {v0 : Nat} {v1 : Nat} {v2 : Nat} {v3 : Int32} {s0 : Int32} {s1 : Int32} {s2 : Nat} {s3 : Int32} {μ : xM} {rv : Option Value} {μf : xM} {out : (Int32 × xM) ⊕ (Int32 × xM)} (h : fLaw_law_529 v0 v1 v2 v3 s0 s1 s2 s3 μ = some out) (hK : fLaw_law_K18 v0 v1 v2 d rv μf out) : xRun (d + 14) 226 529 [some (.ref v0), some (.ref v1), some (.ref v2), some (.int v3)] [.int s0, .int s1, .ref s2, .int s3] μ rv μf := by
  unfold fLaw_law_529 at h
  obtain ⟨r9, hr9, h⟩ := Option.bind_eq_some_iff.mp h
  refine xr_callV (j := 165) (d' := (d + 13)) (rv1 := some (.int r9.1)) (μ1 := r9.2) (rest := [.int s3]) (As := [.int s1, .int s0]) rfl rfl rfl rfl (Nat.le_of_ble_eq_true rfl) (fM_answer_kd hr9) rfl (by exact (fM_answer_ok (d := d + (11)) hr9)) ?_
  refine xr_icmp (pct := 1284) rfl rfl rfl (fun hc => ?_) (fun hc => ?_)
  · replace h := (if_pos (of_decide_eq_true hc)).symm.trans h
    refine xr_forget (lo := [some (.ref v0), some (.ref v1), some (.ref v2), some (.int v3)]) ⟨rfl, rfl, rfl, rfl, trivial⟩ ?_
    exact fLaw_law_1284_ok h hK
  · replace h := (if_neg (of_decide_eq_false hc)).symm.trans h
    refine xr_forget (lo := [none, none, none, none]) trivial ?_
    obtain ⟨o, h2, rfl⟩ := Option.map_eq_some_iff.mp h
    exact fLaw_law_535_ok h2 hK
noncomputable def fLaw_law_507  (v0 : Nat) (v1 : Nat) (v2 : Nat) (v3 : Int32) (s0 : Int32) (s1 : Int32) (s2 : Nat) (μ : xM) : Option ((Int32 × xM) ⊕ (Int32 × xM)) := (fX_answer s2 s1 s0 μ).bind fun r10 => (ldA r10.2 v0 (v3 + (xc 1))).bind fun x11 => (ldA r10.2 v0 (v3 + (xc 2))).bind fun x12 => if x12 = 0 then (fLaw_law_529 v0 v1 v2 v3 (xc 0) x11 v2 r10.1 r10.2) else (fLaw_law_529 v0 v1 v2 v3 (xc 1) x11 v2 r10.1 r10.2)
theorem fLaw_law_507_ok {d : Nat} {v0 : Nat} {v1 : Nat} {v2 : Nat} {v3 : Int32} {s0 : Int32} {s1 : Int32} {s2 : Nat} {μ : xM} {rv : Option Value} {μf : xM} {out : (Int32 × xM) ⊕ (Int32 × xM)} (h : fLaw_law_507 v0 v1 v2 v3 s0 s1 s2 μ = some out) (hK : fLaw_law_K18 v0 v1 v2 d rv μf out) : xRun (d + 14) 226 507 [some (.ref v0), some (.ref v1), some (.ref v2), some (.int v3)] [.int s0, .int s1, .ref s2] μ rv μf := by
  unfold fLaw_law_507 at h
  obtain ⟨r10, hr10, h⟩ := Option.bind_eq_some_iff.mp h
  refine xr_callV (j := 11) (d' := (d + 13)) (rv1 := some (.int r10.1)) (μ1 := r10.2) (rest := []) (As := [.int s1, .int s0]) rfl rfl rfl rfl (Nat.le_of_ble_eq_true rfl) (fX_answer_kd hr10) rfl (by exact (fX_answer_ok (d := d + (10)) hr10)) ?_
  refine xr_go 5 (pc' := 515) (lo' := [some (.ref v0), some (.ref v1), some (.ref v2), some (.int v3)]) (st' := [.int (v3 + (xc 1)), .ref v0, .ref v2, .int r10.1]) (μ' := r10.2) rfl ?_
  obtain ⟨x11, hx11, h⟩ := Option.bind_eq_some_iff.mp h
  refine xr_opI (pc' := 516) (lo' := [some (.ref v0), some (.ref v1), some (.ref v2), some (.int v3)]) (st' := [.ref v2, .int r10.1]) (o := ldA r10.2 v0 (v3 + (xc 1))) rfl hx11 ?_
  refine xr_go 4 (pc' := 520) (lo' := [some (.ref v0), some (.ref v1), some (.ref v2), some (.int v3)]) (st' := [.int (v3 + (xc 2)), .ref v0, .int x11, .ref v2, .int r10.1]) (μ' := r10.2) rfl ?_
  obtain ⟨x12, hx12, h⟩ := Option.bind_eq_some_iff.mp h
  refine xr_opI (pc' := 521) (lo' := [some (.ref v0), some (.ref v1), some (.ref v2), some (.int v3)]) (st' := [.int x11, .ref v2, .int r10.1]) (o := ldA r10.2 v0 (v3 + (xc 2))) rfl hx12 ?_
  refine xr_ifc (pct := 528) rfl rfl rfl (fun hc => ?_) (fun hc => ?_)
  · replace h := (if_pos (of_decide_eq_true hc)).symm.trans h
    refine xr_go 1 (pc' := 529) (lo' := [some (.ref v0), some (.ref v1), some (.ref v2), some (.int v3)]) (st' := [.int (xc 0), .int x11, .ref v2, .int r10.1]) (μ' := r10.2) rfl ?_
    refine xr_forget (lo := [some (.ref v0), some (.ref v1), some (.ref v2), some (.int v3)]) ⟨rfl, rfl, rfl, rfl, trivial⟩ ?_
    exact fLaw_law_529_ok h hK
  · replace h := (if_neg (of_decide_eq_false hc)).symm.trans h
    refine xr_go 2 (pc' := 529) (lo' := [some (.ref v0), some (.ref v1), some (.ref v2), some (.int v3)]) (st' := [.int (xc 1), .int x11, .ref v2, .int r10.1]) (μ' := r10.2) rfl ?_
    refine xr_forget (lo := [some (.ref v0), some (.ref v1), some (.ref v2), some (.int v3)]) ⟨rfl, rfl, rfl, rfl, trivial⟩ ?_
    exact fLaw_law_529_ok h hK
noncomputable def fLaw_law_486  (μ : xM) : Option (Int32 × xM) := some ((xc 0, μ))
theorem fLaw_law_486_ok {d : Nat} {μ : xM} {rv : Option Value} {μf : xM} {out : Int32 × xM} (h : fLaw_law_486 μ = some out) (hK : fLaw_law_K rv μf out) : xRun (d + 14) 226 486 [none, none, none, none] [] μ rv μf := by
  unfold fLaw_law_486 at h
  refine xr_go 1 (pc' := 487) (lo' := [none, none, none, none]) (st' := [.int (xc 0)]) (μ' := μ) rfl ?_
  have ho := Option.some.inj h
  subst ho
  obtain ⟨rfl, rfl⟩ := hK
  exact xr_ret (rv := some (.int (xc 0))) rfl rfl (Or.inr ⟨rfl, Or.inl rfl⟩)
noncomputable def fLaw_law_473  (μ : xM) : Option (Int32 × xM) := some ((xc 0, μ))
theorem fLaw_law_473_ok {d : Nat} {μ : xM} {rv : Option Value} {μf : xM} {out : Int32 × xM} (h : fLaw_law_473 μ = some out) (hK : fLaw_law_K rv μf out) : xRun (d + 14) 226 473 [none, none, none, none] [] μ rv μf := by
  unfold fLaw_law_473 at h
  refine xr_go 1 (pc' := 474) (lo' := [none, none, none, none]) (st' := [.int (xc 0)]) (μ' := μ) rfl ?_
  have ho := Option.some.inj h
  subst ho
  obtain ⟨rfl, rfl⟩ := hK
  exact xr_ret (rv := some (.int (xc 0))) rfl rfl (Or.inr ⟨rfl, Or.inl rfl⟩)
noncomputable def fLaw_law_460  (μ : xM) : Option (Int32 × xM) := some ((xc 0, μ))
theorem fLaw_law_460_ok {d : Nat} {μ : xM} {rv : Option Value} {μf : xM} {out : Int32 × xM} (h : fLaw_law_460 μ = some out) (hK : fLaw_law_K rv μf out) : xRun (d + 14) 226 460 [none, none, none, none] [] μ rv μf := by
  unfold fLaw_law_460 at h
  refine xr_go 1 (pc' := 461) (lo' := [none, none, none, none]) (st' := [.int (xc 0)]) (μ' := μ) rfl ?_
  have ho := Option.some.inj h
  subst ho
  obtain ⟨rfl, rfl⟩ := hK
  exact xr_ret (rv := some (.int (xc 0))) rfl rfl (Or.inr ⟨rfl, Or.inl rfl⟩)
noncomputable def fLaw_law_397  (μ : xM) : Option (Int32 × xM) := some ((xc 0, μ))
theorem fLaw_law_397_ok {d : Nat} {μ : xM} {rv : Option Value} {μf : xM} {out : Int32 × xM} (h : fLaw_law_397 μ = some out) (hK : fLaw_law_K rv μf out) : xRun (d + 14) 226 397 [none, none, none, none] [] μ rv μf := by
  unfold fLaw_law_397 at h
  refine xr_go 1 (pc' := 398) (lo' := [none, none, none, none]) (st' := [.int (xc 0)]) (μ' := μ) rfl ?_
  have ho := Option.some.inj h
  subst ho
  obtain ⟨rfl, rfl⟩ := hK
  exact xr_ret (rv := some (.int (xc 0))) rfl rfl (Or.inr ⟨rfl, Or.inl rfl⟩)
noncomputable def fLaw_law_384  (μ : xM) : Option (Int32 × xM) := some ((xc 0, μ))
theorem fLaw_law_384_ok {d : Nat} {μ : xM} {rv : Option Value} {μf : xM} {out : Int32 × xM} (h : fLaw_law_384 μ = some out) (hK : fLaw_law_K rv μf out) : xRun (d + 14) 226 384 [none, none, none, none] [] μ rv μf := by
  unfold fLaw_law_384 at h
  refine xr_go 1 (pc' := 385) (lo' := [none, none, none, none]) (st' := [.int (xc 0)]) (μ' := μ) rfl ?_
  have ho := Option.some.inj h
  subst ho
  obtain ⟨rfl, rfl⟩ := hK
  exact xr_ret (rv := some (.int (xc 0))) rfl rfl (Or.inr ⟨rfl, Or.inl rfl⟩)
noncomputable def fLaw_law_361  (μ : xM) : Option (Int32 × xM) := some ((xc 0, μ))
theorem fLaw_law_361_ok {d : Nat} {μ : xM} {rv : Option Value} {μf : xM} {out : Int32 × xM} (h : fLaw_law_361 μ = some out) (hK : fLaw_law_K rv μf out) : xRun (d + 14) 226 361 [none, none, none, none] [] μ rv μf := by
  unfold fLaw_law_361 at h
  refine xr_go 1 (pc' := 362) (lo' := [none, none, none, none]) (st' := [.int (xc 0)]) (μ' := μ) rfl ?_
  have ho := Option.some.inj h
  subst ho
  obtain ⟨rfl, rfl⟩ := hK
  exact xr_ret (rv := some (.int (xc 0))) rfl rfl (Or.inr ⟨rfl, Or.inl rfl⟩)
noncomputable def fLaw_law_338  (μ : xM) : Option (Int32 × xM) := some ((xc 0, μ))
theorem fLaw_law_338_ok {d : Nat} {μ : xM} {rv : Option Value} {μf : xM} {out : Int32 × xM} (h : fLaw_law_338 μ = some out) (hK : fLaw_law_K rv μf out) : xRun (d + 14) 226 338 [none, none, none, none] [] μ rv μf := by
  unfold fLaw_law_338 at h
  refine xr_go 1 (pc' := 339) (lo' := [none, none, none, none]) (st' := [.int (xc 0)]) (μ' := μ) rfl ?_
  have ho := Option.some.inj h
  subst ho
  obtain ⟨rfl, rfl⟩ := hK
  exact xr_ret (rv := some (.int (xc 0))) rfl rfl (Or.inr ⟨rfl, Or.inl rfl⟩)
noncomputable def fLaw_law_332  (v0 : Nat) (v1 : Nat) (v2 : Nat) (v3 : Int32) (s0 : Int32) (s1 : Int32) (s2 : Nat) (s3 : Int32) (μ : xM) : Option ((Int32 × xM) ⊕ (Int32 × xM)) := (fM_key s2 s1 s0 μ).bind fun r13 => if s3 = r13.1 then (fLaw_law_1284 v0 v1 v2 v3 r13.2) else ((fLaw_law_338 r13.2).map (fun o => .inr o))
theorem fLaw_law_332_ok {d : Nat} {v0 : Nat} {v1 : Nat} {v2 : Nat} {v3 : Int32} {s0 : Int32} {s1 : Int32} {s2 : Nat} {s3 : Int32} {μ : xM} {rv : Option Value} {μf : xM} {out : (Int32 × xM) ⊕ (Int32 × xM)} (h : fLaw_law_332 v0 v1 v2 v3 s0 s1 s2 s3 μ = some out) (hK : fLaw_law_K18 v0 v1 v2 d rv μf out) : xRun (d + 14) 226 332 [some (.ref v0), some (.ref v1), some (.ref v2), some (.int v3)] [.int s0, .int s1, .ref s2, .int s3] μ rv μf := by
  unfold fLaw_law_332 at h
  obtain ⟨r13, hr13, h⟩ := Option.bind_eq_some_iff.mp h
  refine xr_callV (j := 149) (d' := (d + 13)) (rv1 := some (.int r13.1)) (μ1 := r13.2) (rest := [.int s3]) (As := [.int s1, .int s0]) rfl rfl rfl rfl (Nat.le_of_ble_eq_true rfl) (fM_key_kd hr13) rfl (by exact (fM_key_ok (d := d + (12)) hr13)) ?_
  refine xr_icmp (pct := 1284) rfl rfl rfl (fun hc => ?_) (fun hc => ?_)
  · replace h := (if_pos (of_decide_eq_true hc)).symm.trans h
    refine xr_forget (lo := [some (.ref v0), some (.ref v1), some (.ref v2), some (.int v3)]) ⟨rfl, rfl, rfl, rfl, trivial⟩ ?_
    exact fLaw_law_1284_ok h hK
  · replace h := (if_neg (of_decide_eq_false hc)).symm.trans h
    refine xr_forget (lo := [none, none, none, none]) trivial ?_
    obtain ⟨o, h2, rfl⟩ := Option.map_eq_some_iff.mp h
    exact fLaw_law_338_ok h2 hK
noncomputable def fLaw_law_310  (v0 : Nat) (v1 : Nat) (v2 : Nat) (v3 : Int32) (s0 : Int32) (s1 : Int32) (s2 : Nat) (μ : xM) : Option ((Int32 × xM) ⊕ (Int32 × xM)) := (fX_key s2 s1 s0 μ).bind fun r14 => (ldA r14.2 v0 (v3 + (xc 1))).bind fun x15 => (ldA r14.2 v0 (v3 + (xc 2))).bind fun x16 => if x16 = 0 then (fLaw_law_332 v0 v1 v2 v3 (xc 0) x15 v2 r14.1 r14.2) else (fLaw_law_332 v0 v1 v2 v3 (xc 1) x15 v2 r14.1 r14.2)
theorem fLaw_law_310_ok {d : Nat} {v0 : Nat} {v1 : Nat} {v2 : Nat} {v3 : Int32} {s0 : Int32} {s1 : Int32} {s2 : Nat} {μ : xM} {rv : Option Value} {μf : xM} {out : (Int32 × xM) ⊕ (Int32 × xM)} (h : fLaw_law_310 v0 v1 v2 v3 s0 s1 s2 μ = some out) (hK : fLaw_law_K18 v0 v1 v2 d rv μf out) : xRun (d + 14) 226 310 [some (.ref v0), some (.ref v1), some (.ref v2), some (.int v3)] [.int s0, .int s1, .ref s2] μ rv μf := by
  unfold fLaw_law_310 at h
  obtain ⟨r14, hr14, h⟩ := Option.bind_eq_some_iff.mp h
  refine xr_callV (j := 4) (d' := (d + 13)) (rv1 := some (.int r14.1)) (μ1 := r14.2) (rest := []) (As := [.int s1, .int s0]) rfl rfl rfl rfl (Nat.le_of_ble_eq_true rfl) (fX_key_kd hr14) rfl (by exact (fX_key_ok (d := d + (11)) hr14)) ?_
  refine xr_go 5 (pc' := 318) (lo' := [some (.ref v0), some (.ref v1), some (.ref v2), some (.int v3)]) (st' := [.int (v3 + (xc 1)), .ref v0, .ref v2, .int r14.1]) (μ' := r14.2) rfl ?_
  obtain ⟨x15, hx15, h⟩ := Option.bind_eq_some_iff.mp h
  refine xr_opI (pc' := 319) (lo' := [some (.ref v0), some (.ref v1), some (.ref v2), some (.int v3)]) (st' := [.ref v2, .int r14.1]) (o := ldA r14.2 v0 (v3 + (xc 1))) rfl hx15 ?_
  refine xr_go 4 (pc' := 323) (lo' := [some (.ref v0), some (.ref v1), some (.ref v2), some (.int v3)]) (st' := [.int (v3 + (xc 2)), .ref v0, .int x15, .ref v2, .int r14.1]) (μ' := r14.2) rfl ?_
  obtain ⟨x16, hx16, h⟩ := Option.bind_eq_some_iff.mp h
  refine xr_opI (pc' := 324) (lo' := [some (.ref v0), some (.ref v1), some (.ref v2), some (.int v3)]) (st' := [.int x15, .ref v2, .int r14.1]) (o := ldA r14.2 v0 (v3 + (xc 2))) rfl hx16 ?_
  refine xr_ifc (pct := 331) rfl rfl rfl (fun hc => ?_) (fun hc => ?_)
  · replace h := (if_pos (of_decide_eq_true hc)).symm.trans h
    refine xr_go 1 (pc' := 332) (lo' := [some (.ref v0), some (.ref v1), some (.ref v2), some (.int v3)]) (st' := [.int (xc 0), .int x15, .ref v2, .int r14.1]) (μ' := r14.2) rfl ?_
    refine xr_forget (lo := [some (.ref v0), some (.ref v1), some (.ref v2), some (.int v3)]) ⟨rfl, rfl, rfl, rfl, trivial⟩ ?_
    exact fLaw_law_332_ok h hK
  · replace h := (if_neg (of_decide_eq_false hc)).symm.trans h
    refine xr_go 2 (pc' := 332) (lo' := [some (.ref v0), some (.ref v1), some (.ref v2), some (.int v3)]) (st' := [.int (xc 1), .int x15, .ref v2, .int r14.1]) (μ' := r14.2) rfl ?_
    refine xr_forget (lo := [some (.ref v0), some (.ref v1), some (.ref v2), some (.int v3)]) ⟨rfl, rfl, rfl, rfl, trivial⟩ ?_
    exact fLaw_law_332_ok h hK
noncomputable def fLaw_law_289  (μ : xM) : Option (Int32 × xM) := some ((xc 0, μ))
theorem fLaw_law_289_ok {d : Nat} {μ : xM} {rv : Option Value} {μf : xM} {out : Int32 × xM} (h : fLaw_law_289 μ = some out) (hK : fLaw_law_K rv μf out) : xRun (d + 14) 226 289 [none, none, none, none] [] μ rv μf := by
  unfold fLaw_law_289 at h
  refine xr_go 1 (pc' := 290) (lo' := [none, none, none, none]) (st' := [.int (xc 0)]) (μ' := μ) rfl ?_
  have ho := Option.some.inj h
  subst ho
  obtain ⟨rfl, rfl⟩ := hK
  exact xr_ret (rv := some (.int (xc 0))) rfl rfl (Or.inr ⟨rfl, Or.inl rfl⟩)
noncomputable def fLaw_law_276  (μ : xM) : Option (Int32 × xM) := some ((xc 0, μ))
theorem fLaw_law_276_ok {d : Nat} {μ : xM} {rv : Option Value} {μf : xM} {out : Int32 × xM} (h : fLaw_law_276 μ = some out) (hK : fLaw_law_K rv μf out) : xRun (d + 14) 226 276 [none, none, none, none] [] μ rv μf := by
  unfold fLaw_law_276 at h
  refine xr_go 1 (pc' := 277) (lo' := [none, none, none, none]) (st' := [.int (xc 0)]) (μ' := μ) rfl ?_
  have ho := Option.some.inj h
  subst ho
  obtain ⟨rfl, rfl⟩ := hK
  exact xr_ret (rv := some (.int (xc 0))) rfl rfl (Or.inr ⟨rfl, Or.inl rfl⟩)
noncomputable def fLaw_law_233  (μ : xM) : Option (Int32 × xM) := some ((xc 0, μ))
theorem fLaw_law_233_ok {d : Nat} {μ : xM} {rv : Option Value} {μf : xM} {out : Int32 × xM} (h : fLaw_law_233 μ = some out) (hK : fLaw_law_K rv μf out) : xRun (d + 14) 226 233 [none, none, none, none] [] μ rv μf := by
  unfold fLaw_law_233 at h
  refine xr_go 1 (pc' := 234) (lo' := [none, none, none, none]) (st' := [.int (xc 0)]) (μ' := μ) rfl ?_
  have ho := Option.some.inj h
  subst ho
  obtain ⟨rfl, rfl⟩ := hK
  exact xr_ret (rv := some (.int (xc 0))) rfl rfl (Or.inr ⟨rfl, Or.inl rfl⟩)
noncomputable def fLaw_law_L18  (v0 : Nat) (v1 : Nat) (v2 : Nat) (v3 : Int32) (μ : xM) : Option ((Int32 × xM) ⊕ (Int32 × xM)) := (alen μ v0).bind fun x17 => if (x17 - (xc 4)) < v3 then ((fLaw_law_1290 μ).map (fun o => .inr o)) else ((ldA μ v0 v3).bind fun x18 => if (x18 &&& (xc 63)).toInt < 0 ∨ 35 < (x18 &&& (xc 63)).toInt then (fLaw_law_1284 v0 v1 v2 v3 μ) else if (x18 &&& (xc 63)) = xc 0 then ((ldA μ v0 (v3 + (xc 1))).bind fun x19 => (ldA μ v0 (v3 + (xc 2))).bind fun x20 => (ldA μ v0 (v3 + (xc 3))).bind fun x21 => (fX_in v1 x19 x20 x21 μ).bind fun r22 => (ldA r22.2 v0 (v3 + (xc 1))).bind fun x23 => (ldA r22.2 v0 (v3 + (xc 2))).bind fun x24 => (ldA r22.2 v0 (v3 + (xc 3))).bind fun x25 => (fM_in v2 x23 x24 x25 r22.2).bind fun r26 => if r22.1 = r26.1 then (fLaw_law_1284 v0 v1 v2 v3 r26.2) else ((fLaw_law_233 r26.2).map (fun o => .inr o))) else if (x18 &&& (xc 63)) = xc 1 then ((ldA μ v0 (v3 + (xc 1))).bind fun x27 => (ldA μ v0 (v3 + (xc 2))).bind fun x28 => (ldA μ v0 (v3 + (xc 3))).bind fun x29 => (fX_out v1 x27 x28 x29 μ).bind fun r30 => (ldA r30.2 v0 (v3 + (xc 1))).bind fun x31 => (ldA r30.2 v0 (v3 + (xc 2))).bind fun x32 => (ldA r30.2 v0 (v3 + (xc 3))).bind fun x33 => (fM_out v2 x31 x32 x33 r30.2).bind fun r34 => if r30.1 = r34.1 then (fLaw_law_1284 v0 v1 v2 v3 r34.2) else ((fLaw_law_276 r34.2).map (fun o => .inr o))) else if (x18 &&& (xc 63)) = xc 2 then ((fX_undo v1 μ).bind fun r35 => (fM_undo v2 r35.2).bind fun r36 => if r35.1 = r36.1 then (fLaw_law_1284 v0 v1 v2 v3 r36.2) else ((fLaw_law_289 r36.2).map (fun o => .inr o))) else if (x18 &&& (xc 63)) = xc 3 then ((ldA μ v0 (v3 + (xc 1))).bind fun x37 => (ldA μ v0 (v3 + (xc 2))).bind fun x38 => if x38 = 0 then (fLaw_law_310 v0 v1 v2 v3 (xc 0) x37 v1 μ) else (fLaw_law_310 v0 v1 v2 v3 (xc 1) x37 v1 μ)) else if (x18 &&& (xc 63)) = xc 4 then ((ldA μ v0 (v3 + (xc 1))).bind fun x39 => (fX_rows v1 x39 μ).bind fun r40 => (ldA r40.2 v0 (v3 + (xc 1))).bind fun x41 => (fM_rows v2 x41 r40.2).bind fun r42 => if r40.1 = r42.1 then (fLaw_law_1284 v0 v1 v2 v3 r42.2) else ((fLaw_law_361 r42.2).map (fun o => .inr o))) else if (x18 &&& (xc 63)) = xc 5 then ((ldA μ v0 (v3 + (xc 1))).bind fun x43 => (fX_put v1 x43 μ).bind fun r44 => (ldA r44.2 v0 (v3 + (xc 1))).bind fun x45 => (fM_put v2 x45 r44.2).bind fun r46 => if r44.1 = r46.1 then (fLaw_law_1284 v0 v1 v2 v3 r46.2) else ((fLaw_law_384 r46.2).map (fun o => .inr o))) else if (x18 &&& (xc 63)) = xc 6 then ((fX_read v1 μ).bind fun r47 => (fM_read v2 r47.2).bind fun r48 => if r47.1 = r48.1 then (fLaw_law_1284 v0 v1 v2 v3 r48.2) else ((fLaw_law_397 r48.2).map (fun o => .inr o))) else if (x18 &&& (xc 63)) = xc 7 then ((ldA μ v0 (v3 + (xc 1))).bind fun x49 => (ldA μ v0 (v3 + (xc 2))).bind fun x50 => (ldA μ v0 (v3 + (xc 3))).bind fun x51 => (fX_feed v1 x49 (((Int32.toInt64 x50) <<< (Int32.toInt64 (xc 32) &&& 63)) ||| ((Int32.toInt64 x51) &&& (Int64.ofNat 4294967295))) μ).bind fun r52 => (ldA r52.2 v0 (v3 + (xc 1))).bind fun x53 => (ldA r52.2 v0 (v3 + (xc 2))).bind fun x54 => (ldA r52.2 v0 (v3 + (xc 3))).bind fun x55 => (fM_feed v2 x53 (((Int32.toInt64 x54) <<< (Int32.toInt64 (xc 32) &&& 63)) ||| ((Int32.toInt64 x55) &&& (Int64.ofNat 4294967295))) r52.2).bind fun r56 => if r52.1 = r56.1 then (fLaw_law_1284 v0 v1 v2 v3 r56.2) else ((fLaw_law_460 r56.2).map (fun o => .inr o))) else if (x18 &&& (xc 63)) = xc 8 then ((fX_ask v1 μ).bind fun r57 => (fM_ask v2 r57.2).bind fun r58 => if r57.1 = r58.1 then (fLaw_law_1284 v0 v1 v2 v3 r58.2) else ((fLaw_law_473 r58.2).map (fun o => .inr o))) else if (x18 &&& (xc 63)) = xc 9 then ((fX_view v1 μ).bind fun r59 => (fM_view v2 r59.2).bind fun r60 => if r59.1 = r60.1 then (fLaw_law_1284 v0 v1 v2 v3 r60.2) else ((fLaw_law_486 r60.2).map (fun o => .inr o))) else if (x18 &&& (xc 63)) = xc 10 then ((ldA μ v0 (v3 + (xc 1))).bind fun x61 => (ldA μ v0 (v3 + (xc 2))).bind fun x62 => if x62 = 0 then (fLaw_law_507 v0 v1 v2 v3 (xc 0) x61 v1 μ) else (fLaw_law_507 v0 v1 v2 v3 (xc 1) x61 v1 μ)) else if (x18 &&& (xc 63)) = xc 11 then ((ldA μ v0 (v3 + (xc 1))).bind fun x63 => (ldA μ v0 (v3 + (xc 2))).bind fun x64 => (fX_steps v1 x63 x64 μ).bind fun r65 => (ldA r65.2 v0 (v3 + (xc 1))).bind fun x66 => (ldA r65.2 v0 (v3 + (xc 2))).bind fun x67 => (fM_steps v2 x66 x67 r65.2).bind fun r68 => if r65.1 = r68.1 then (fLaw_law_1284 v0 v1 v2 v3 r68.2) else ((fLaw_law_568 r68.2).map (fun o => .inr o))) else if (x18 &&& (xc 63)) = xc 12 then ((ldA μ v0 (v3 + (xc 1))).bind fun x69 => (ldA μ v0 (v3 + (xc 2))).bind fun x70 => (fX_end v1 x69 x70 μ).bind fun r71 => (ldA r71.2 v0 (v3 + (xc 1))).bind fun x72 => (ldA r71.2 v0 (v3 + (xc 2))).bind fun x73 => (fM_end v2 x72 x73 r71.2).bind fun r74 => if r71.1 = r74.1 then (fLaw_law_1284 v0 v1 v2 v3 r74.2) else ((fLaw_law_601 r74.2).map (fun o => .inr o))) else if (x18 &&& (xc 63)) = xc 13 then ((ldA μ v0 (v3 + (xc 1))).bind fun x75 => (ldA μ v0 (v3 + (xc 2))).bind fun x76 => (fX_within v1 x75 x76 μ).bind fun r77 => (ldA r77.2 v0 (v3 + (xc 1))).bind fun x78 => (ldA r77.2 v0 (v3 + (xc 2))).bind fun x79 => (fM_within v2 x78 x79 r77.2).bind fun r80 => if r77.1 = r80.1 then (fLaw_law_1284 v0 v1 v2 v3 r80.2) else ((fLaw_law_634 r80.2).map (fun o => .inr o))) else if (x18 &&& (xc 63)) = xc 14 then ((ldA μ v0 (v3 + (xc 1))).bind fun x81 => (ldA μ v0 (v3 + (xc 2))).bind fun x82 => (fX_same v1 x81 x82 μ).bind fun r83 => (ldA r83.2 v0 (v3 + (xc 1))).bind fun x84 => (ldA r83.2 v0 (v3 + (xc 2))).bind fun x85 => (fM_same v2 x84 x85 r83.2).bind fun r86 => if r83.1 = r86.1 then (fLaw_law_1284 v0 v1 v2 v3 r86.2) else ((fLaw_law_667 r86.2).map (fun o => .inr o))) else if (x18 &&& (xc 63)) = xc 15 then ((ldA μ v0 (v3 + (xc 1))).bind fun x87 => (fX_shows v1 x87 μ).bind fun r88 => (ldA r88.2 v0 (v3 + (xc 1))).bind fun x89 => (fM_shows v2 x89 r88.2).bind fun r90 => if r88.1 = r90.1 then (fLaw_law_1284 v0 v1 v2 v3 r90.2) else ((fLaw_law_690 r90.2).map (fun o => .inr o))) else if (x18 &&& (xc 63)) = xc 16 then ((ldA μ v0 (v3 + (xc 1))).bind fun x91 => (ldA μ v0 (v3 + (xc 2))).bind fun x92 => (fX_show v1 x91 x92 μ).bind fun r93 => (ldA r93.2 v0 (v3 + (xc 1))).bind fun x94 => (ldA r93.2 v0 (v3 + (xc 2))).bind fun x95 => (fM_show v2 x94 x95 r93.2).bind fun r96 => if r93.1 = r96.1 then (fLaw_law_1284 v0 v1 v2 v3 r96.2) else ((fLaw_law_723 r96.2).map (fun o => .inr o))) else if (x18 &&& (xc 63)) = xc 17 then ((ldA μ v0 (v3 + (xc 1))).bind fun x97 => (ldA μ v0 (v3 + (xc 2))).bind fun x98 => (fX_cover v1 x97 x98 μ).bind fun r99 => (ldA r99.2 v0 (v3 + (xc 1))).bind fun x100 => (ldA r99.2 v0 (v3 + (xc 2))).bind fun x101 => (fM_cover v2 x100 x101 r99.2).bind fun r102 => if r99.1 = r102.1 then (fLaw_law_1284 v0 v1 v2 v3 r102.2) else ((fLaw_law_756 r102.2).map (fun o => .inr o))) else if (x18 &&& (xc 63)) = xc 18 then ((ldA μ v0 (v3 + (xc 1))).bind fun x103 => (ldA μ v0 (v3 + (xc 2))).bind fun x104 => (fX_covers v1 x103 x104 μ).bind fun r105 => (ldA r105.2 v0 (v3 + (xc 1))).bind fun x106 => (ldA r105.2 v0 (v3 + (xc 2))).bind fun x107 => (fM_covers v2 x106 x107 r105.2).bind fun r108 => if r105.1 = r108.1 then (fLaw_law_1284 v0 v1 v2 v3 r108.2) else ((fLaw_law_789 r108.2).map (fun o => .inr o))) else if (x18 &&& (xc 63)) = xc 19 then ((ldA μ v0 (v3 + (xc 1))).bind fun x109 => (ldA μ v0 (v3 + (xc 2))).bind fun x110 => (fX_may v1 x109 x110 μ).bind fun r111 => (ldA r111.2 v0 (v3 + (xc 1))).bind fun x112 => (ldA r111.2 v0 (v3 + (xc 2))).bind fun x113 => (fM_may v2 x112 x113 r111.2).bind fun r114 => if r111.1 = r114.1 then (fLaw_law_1284 v0 v1 v2 v3 r114.2) else ((fLaw_law_822 r114.2).map (fun o => .inr o))) else if (x18 &&& (xc 63)) = xc 20 then ((ldA μ v0 (v3 + (xc 1))).bind fun x115 => (ldA μ v0 (v3 + (xc 2))).bind fun x116 => if x116 = 0 then (fLaw_law_843 v0 v1 v2 v3 (xc 0) x115 v1 μ) else (fLaw_law_843 v0 v1 v2 v3 (xc 1) x115 v1 μ)) else if (x18 &&& (xc 63)) = xc 21 then ((fX_worlds v1 μ).bind fun r117 => (fM_worlds v2 r117.2).bind fun r118 => if r117.1 = r118 then (fLaw_law_1284 v0 v1 v2 v3 r117.2) else ((fLaw_law_884 r117.2).map (fun o => .inr o))) else if (x18 &&& (xc 63)) = xc 22 then ((ldA μ v0 (v3 + (xc 1))).bind fun x119 => (ldA μ v0 (v3 + (xc 2))).bind fun x120 => (fX_sure v1 x119 x120 μ).bind fun r121 => (ldA r121.2 v0 (v3 + (xc 1))).bind fun x122 => (ldA r121.2 v0 (v3 + (xc 2))).bind fun x123 => (fM_sure v2 x122 x123 r121.2).bind fun r124 => if r121.1 = r124.1 then (fLaw_law_1284 v0 v1 v2 v3 r124.2) else ((fLaw_law_917 r124.2).map (fun o => .inr o))) else if (x18 &&& (xc 63)) = xc 23 then ((ldA μ v0 (v3 + (xc 1))).bind fun x125 => (fX_besides v1 x125 μ).bind fun r126 => (ldA r126.2 v0 (v3 + (xc 1))).bind fun x127 => (fM_besides v2 x127 r126.2).bind fun r128 => if r126.1 = r128.1 then (fLaw_law_1284 v0 v1 v2 v3 r128.2) else ((fLaw_law_940 r128.2).map (fun o => .inr o))) else if (x18 &&& (xc 63)) = xc 24 then ((ldA μ v0 (v3 + (xc 1))).bind fun x129 => (ldA μ v0 (v3 + (xc 2))).bind fun x130 => (fX_weight v1 x129 x130 μ).bind fun r131 => (ldA r131.2 v0 (v3 + (xc 1))).bind fun x132 => (ldA r131.2 v0 (v3 + (xc 2))).bind fun x133 => (fM_weight v2 x132 x133 r131.2).bind fun r134 => if r131.1 = r134.1 then (fLaw_law_1284 v0 v1 v2 v3 r134.2) else ((fLaw_law_973 r134.2).map (fun o => .inr o))) else if (x18 &&& (xc 63)) = xc 25 then ((ldA μ v0 (v3 + (xc 1))).bind fun x135 => (ldA μ v0 (v3 + (xc 2))).bind fun x136 => (ldA μ v0 (v3 + (xc 3))).bind fun x137 => (fX_size v1 x135 x136 x137 μ).bind fun r138 => (ldA r138.2 v0 (v3 + (xc 1))).bind fun x139 => (ldA r138.2 v0 (v3 + (xc 2))).bind fun x140 => (ldA r138.2 v0 (v3 + (xc 3))).bind fun x141 => (fM_size v2 x139 x140 x141 r138.2).bind fun r142 => if r138.1 = r142.1 then (fLaw_law_1284 v0 v1 v2 v3 r142.2) else ((fLaw_law_1016 r142.2).map (fun o => .inr o))) else if (x18 &&& (xc 63)) = xc 26 then ((ldA μ v0 (v3 + (xc 1))).bind fun x143 => (ldA μ v0 (v3 + (xc 2))).bind fun x144 => (fX_set v1 x143 x144 μ).bind fun r145 => (ldA r145.2 v0 (v3 + (xc 1))).bind fun x146 => (ldA r145.2 v0 (v3 + (xc 2))).bind fun x147 => (fM_set v2 x146 x147 r145.2).bind fun r148 => if r145.1 = r148.1 then (fLaw_law_1284 v0 v1 v2 v3 r148.2) else ((fLaw_law_1049 r148.2).map (fun o => .inr o))) else if (x18 &&& (xc 63)) = xc 27 then ((ldA μ v0 (v3 + (xc 1))).bind fun x149 => (fX_cost v1 x149 μ).bind fun r150 => (ldA r150.2 v0 (v3 + (xc 1))).bind fun x151 => (fM_cost v2 x151 r150.2).bind fun r152 => if r150.1 = r152.1 then (fLaw_law_1284 v0 v1 v2 v3 r152.2) else ((fLaw_law_1072 r152.2).map (fun o => .inr o))) else if (x18 &&& (xc 63)) = xc 28 then ((ldA μ v0 (v3 + (xc 1))).bind fun x153 => (fX_which v1 x153 μ).bind fun r154 => (ldA r154.2 v0 (v3 + (xc 1))).bind fun x155 => (fM_which v2 x155 r154.2).bind fun r156 => if r154.1 = r156.1 then (fLaw_law_1284 v0 v1 v2 v3 r156.2) else ((fLaw_law_1095 r156.2).map (fun o => .inr o))) else if (x18 &&& (xc 63)) = xc 29 then ((ldA μ v0 (v3 + (xc 1))).bind fun x157 => (ldA μ v0 (v3 + (xc 2))).bind fun x158 => (ldA μ v0 (v3 + (xc 3))).bind fun x159 => (fX_hours v1 x157 x158 x159 μ).bind fun r160 => (ldA r160.2 v0 (v3 + (xc 1))).bind fun x161 => (ldA r160.2 v0 (v3 + (xc 2))).bind fun x162 => (ldA r160.2 v0 (v3 + (xc 3))).bind fun x163 => (fM_hours v2 x161 x162 x163 r160.2).bind fun r164 => if r160.1 = r164.1 then (fLaw_law_1284 v0 v1 v2 v3 r164.2) else ((fLaw_law_1138 r164.2).map (fun o => .inr o))) else if (x18 &&& (xc 63)) = xc 30 then ((ldA μ v0 (v3 + (xc 1))).bind fun x165 => (fX_latest v1 x165 μ).bind fun r166 => (ldA r166.2 v0 (v3 + (xc 1))).bind fun x167 => (fM_latest v2 x167 r166.2).bind fun r168 => if r166.1 = r168.1 then (fLaw_law_1284 v0 v1 v2 v3 r168.2) else ((fLaw_law_1161 r168.2).map (fun o => .inr o))) else if (x18 &&& (xc 63)) = xc 31 then ((ldA μ v0 (v3 + (xc 1))).bind fun x169 => (ldA μ v0 (v3 + (xc 2))).bind fun x170 => if x170 = 0 then (fLaw_law_1182 v0 v1 v2 v3 (xc 0) x169 v1 μ) else (fLaw_law_1182 v0 v1 v2 v3 (xc 1) x169 v1 μ)) else if (x18 &&& (xc 63)) = xc 32 then ((ldA μ v0 (v3 + (xc 1))).bind fun x171 => (fX_plan v1 x171 μ).bind fun r172 => (ldA r172.2 v0 (v3 + (xc 1))).bind fun x173 => (fM_plan v2 x173 r172.2).bind fun r174 => if r172.1 = r174.1 then (fLaw_law_1284 v0 v1 v2 v3 r174.2) else ((fLaw_law_1233 r174.2).map (fun o => .inr o))) else if (x18 &&& (xc 63)) = xc 33 then ((fX_image v1 μ).bind fun r175 => (fM_image v2 r175.2).bind fun r176 => if r175.1 = r176.1 then (fLaw_law_1284 v0 v1 v2 v3 r176.2) else ((fLaw_law_1246 r176.2).map (fun o => .inr o))) else if (x18 &&& (xc 63)) = xc 34 then ((fX_restore v1 μ).bind fun r177 => (fM_restore v2 r177.2).bind fun r178 => if r177.1 = r178.1 then (fLaw_law_1284 v0 v1 v2 v3 r178.2) else ((fLaw_law_1259 r178.2).map (fun o => .inr o))) else if (x18 &&& (xc 63)) = xc 35 then ((ldA μ v0 (v3 + (xc 1))).bind fun x179 => (fX_count v1 x179 μ).bind fun r180 => (ldA μ v0 (v3 + (xc 1))).bind fun x181 => (fM_count v2 x181 μ).bind fun r182 => if r180 = r182 then (fLaw_law_1284 v0 v1 v2 v3 μ) else ((fLaw_law_1282 μ).map (fun o => .inr o))) else none)
theorem fLaw_law_L18_ok {d : Nat} {v0 : Nat} {v1 : Nat} {v2 : Nat} {v3 : Int32} {μ : xM} {rv : Option Value} {μf : xM} {out : (Int32 × xM) ⊕ (Int32 × xM)} (h : fLaw_law_L18 v0 v1 v2 v3 μ = some out) (hK : fLaw_law_K18 v0 v1 v2 d rv μf out) : xRun (d + 14) 226 18 [some (.ref v0), some (.ref v1), some (.ref v2), some (.int v3)] [] μ rv μf := by
  unfold fLaw_law_L18 at h
  refine xr_go 2 (pc' := 20) (lo' := [some (.ref v0), some (.ref v1), some (.ref v2), some (.int v3)]) (st' := [.ref v0, .int v3]) (μ' := μ) rfl ?_
  obtain ⟨x17, hx17, h⟩ := Option.bind_eq_some_iff.mp h
  refine xr_opI (pc' := 21) (lo' := [some (.ref v0), some (.ref v1), some (.ref v2), some (.int v3)]) (st' := [.int v3]) (o := alen μ v0) rfl hx17 ?_
  refine xr_go 2 (pc' := 23) (lo' := [some (.ref v0), some (.ref v1), some (.ref v2), some (.int v3)]) (st' := [.int (x17 - (xc 4)), .int v3]) (μ' := μ) rfl ?_
  refine xr_icmp (pct := 1290) rfl rfl rfl (fun hc => ?_) (fun hc => ?_)
  · replace h := (if_pos (of_decide_eq_true hc)).symm.trans h
    refine xr_forget (lo := [none, none, none, none]) trivial ?_
    obtain ⟨o, h2, rfl⟩ := Option.map_eq_some_iff.mp h
    exact fLaw_law_1290_ok h2 hK
  · replace h := (if_neg (of_decide_eq_false hc)).symm.trans h
    refine xr_go 2 (pc' := 28) (lo' := [some (.ref v0), some (.ref v1), some (.ref v2), some (.int v3)]) (st' := [.int v3, .ref v0]) (μ' := μ) rfl ?_
    obtain ⟨x18, hx18, h⟩ := Option.bind_eq_some_iff.mp h
    refine xr_opI (pc' := 29) (lo' := [some (.ref v0), some (.ref v1), some (.ref v2), some (.int v3)]) (st' := []) (o := ldA μ v0 v3) rfl hx18 ?_
    refine xr_go 2 (pc' := 32) (lo' := [some (.ref v0), some (.ref v1), some (.ref v2), some (.int v3)]) (st' := [.int (x18 &&& (xc 63))]) (μ' := μ) rfl ?_
    by_cases hq : (x18 &&& (xc 63)).toInt < 0 ∨ 35 < (x18 &&& (xc 63)).toInt
    · replace h := (if_pos hq).symm.trans h
      refine xr_tswD (pc' := 1284) rfl hq rfl rfl ?_
      refine xr_forget (lo := [some (.ref v0), some (.ref v1), some (.ref v2), some (.int v3)]) ⟨rfl, rfl, rfl, rfl, trivial⟩ ?_
      exact fLaw_law_1284_ok h hK
    replace h := (if_neg hq).symm.trans h
    by_cases hq0 : (x18 &&& (xc 63)) = xc 0
    · replace h := (if_pos hq0).symm.trans h
      refine xr_sw (v := xc 0) (pc' := 192) (lo' := [some (.ref v0), some (.ref v1), some (.ref v2), some (.int v3)]) (st' := []) (μ' := μ) hq0 rfl ?_
      refine xr_go 5 (pc' := 197) (lo' := [some (.ref v0), some (.ref v1), some (.ref v2), some (.int v3)]) (st' := [.int (v3 + (xc 1)), .ref v0, .ref v1]) (μ' := μ) rfl ?_
      obtain ⟨x19, hx19, h⟩ := Option.bind_eq_some_iff.mp h
      refine xr_opI (pc' := 198) (lo' := [some (.ref v0), some (.ref v1), some (.ref v2), some (.int v3)]) (st' := [.ref v1]) (o := ldA μ v0 (v3 + (xc 1))) rfl hx19 ?_
      refine xr_go 4 (pc' := 202) (lo' := [some (.ref v0), some (.ref v1), some (.ref v2), some (.int v3)]) (st' := [.int (v3 + (xc 2)), .ref v0, .int x19, .ref v1]) (μ' := μ) rfl ?_
      obtain ⟨x20, hx20, h⟩ := Option.bind_eq_some_iff.mp h
      refine xr_opI (pc' := 203) (lo' := [some (.ref v0), some (.ref v1), some (.ref v2), some (.int v3)]) (st' := [.int x19, .ref v1]) (o := ldA μ v0 (v3 + (xc 2))) rfl hx20 ?_
      refine xr_go 4 (pc' := 207) (lo' := [some (.ref v0), some (.ref v1), some (.ref v2), some (.int v3)]) (st' := [.int (v3 + (xc 3)), .ref v0, .int x20, .int x19, .ref v1]) (μ' := μ) rfl ?_
      obtain ⟨x21, hx21, h⟩ := Option.bind_eq_some_iff.mp h
      refine xr_opI (pc' := 208) (lo' := [some (.ref v0), some (.ref v1), some (.ref v2), some (.int v3)]) (st' := [.int x20, .int x19, .ref v1]) (o := ldA μ v0 (v3 + (xc 3))) rfl hx21 ?_
      obtain ⟨r22, hr22, h⟩ := Option.bind_eq_some_iff.mp h
      refine xr_callV (j := 1) (d' := (d + 13)) (rv1 := some (.int r22.1)) (μ1 := r22.2) (rest := []) (As := [.int x19, .int x20, .int x21]) rfl rfl rfl rfl (Nat.le_of_ble_eq_true rfl) (fX_in_kd hr22) rfl (by exact (fX_in_ok (d := d + (11)) hr22)) ?_
      refine xr_go 5 (pc' := 216) (lo' := [some (.ref v0), some (.ref v1), some (.ref v2), some (.int v3)]) (st' := [.int (v3 + (xc 1)), .ref v0, .ref v2, .int r22.1]) (μ' := r22.2) rfl ?_
      obtain ⟨x23, hx23, h⟩ := Option.bind_eq_some_iff.mp h
      refine xr_opI (pc' := 217) (lo' := [some (.ref v0), some (.ref v1), some (.ref v2), some (.int v3)]) (st' := [.ref v2, .int r22.1]) (o := ldA r22.2 v0 (v3 + (xc 1))) rfl hx23 ?_
      refine xr_go 4 (pc' := 221) (lo' := [some (.ref v0), some (.ref v1), some (.ref v2), some (.int v3)]) (st' := [.int (v3 + (xc 2)), .ref v0, .int x23, .ref v2, .int r22.1]) (μ' := r22.2) rfl ?_
      obtain ⟨x24, hx24, h⟩ := Option.bind_eq_some_iff.mp h
      refine xr_opI (pc' := 222) (lo' := [some (.ref v0), some (.ref v1), some (.ref v2), some (.int v3)]) (st' := [.int x23, .ref v2, .int r22.1]) (o := ldA r22.2 v0 (v3 + (xc 2))) rfl hx24 ?_
      refine xr_go 4 (pc' := 226) (lo' := [some (.ref v0), some (.ref v1), some (.ref v2), some (.int v3)]) (st' := [.int (v3 + (xc 3)), .ref v0, .int x24, .int x23, .ref v2, .int r22.1]) (μ' := r22.2) rfl ?_
      obtain ⟨x25, hx25, h⟩ := Option.bind_eq_some_iff.mp h
      refine xr_opI (pc' := 227) (lo' := [some (.ref v0), some (.ref v1), some (.ref v2), some (.int v3)]) (st' := [.int x24, .int x23, .ref v2, .int r22.1]) (o := ldA r22.2 v0 (v3 + (xc 3))) rfl hx25 ?_
      obtain ⟨r26, hr26, h⟩ := Option.bind_eq_some_iff.mp h
      refine xr_callV (j := 146) (d' := (d + 13)) (rv1 := some (.int r26.1)) (μ1 := r26.2) (rest := [.int r22.1]) (As := [.int x23, .int x24, .int x25]) rfl rfl rfl rfl (Nat.le_of_ble_eq_true rfl) (fM_in_kd hr26) rfl (by exact (fM_in_ok (d := d + (11)) hr26)) ?_
      refine xr_icmp (pct := 1284) rfl rfl rfl (fun hc => ?_) (fun hc => ?_)
      · replace h := (if_pos (of_decide_eq_true hc)).symm.trans h
        refine xr_forget (lo := [some (.ref v0), some (.ref v1), some (.ref v2), some (.int v3)]) ⟨rfl, rfl, rfl, rfl, trivial⟩ ?_
        exact fLaw_law_1284_ok h hK
      · replace h := (if_neg (of_decide_eq_false hc)).symm.trans h
        refine xr_forget (lo := [none, none, none, none]) trivial ?_
        obtain ⟨o, h2, rfl⟩ := Option.map_eq_some_iff.mp h
        exact fLaw_law_233_ok h2 hK
    replace h := (if_neg hq0).symm.trans h
    by_cases hq1 : (x18 &&& (xc 63)) = xc 1
    · replace h := (if_pos hq1).symm.trans h
      refine xr_sw (v := xc 1) (pc' := 235) (lo' := [some (.ref v0), some (.ref v1), some (.ref v2), some (.int v3)]) (st' := []) (μ' := μ) hq1 rfl ?_
      refine xr_go 5 (pc' := 240) (lo' := [some (.ref v0), some (.ref v1), some (.ref v2), some (.int v3)]) (st' := [.int (v3 + (xc 1)), .ref v0, .ref v1]) (μ' := μ) rfl ?_
      obtain ⟨x27, hx27, h⟩ := Option.bind_eq_some_iff.mp h
      refine xr_opI (pc' := 241) (lo' := [some (.ref v0), some (.ref v1), some (.ref v2), some (.int v3)]) (st' := [.ref v1]) (o := ldA μ v0 (v3 + (xc 1))) rfl hx27 ?_
      refine xr_go 4 (pc' := 245) (lo' := [some (.ref v0), some (.ref v1), some (.ref v2), some (.int v3)]) (st' := [.int (v3 + (xc 2)), .ref v0, .int x27, .ref v1]) (μ' := μ) rfl ?_
      obtain ⟨x28, hx28, h⟩ := Option.bind_eq_some_iff.mp h
      refine xr_opI (pc' := 246) (lo' := [some (.ref v0), some (.ref v1), some (.ref v2), some (.int v3)]) (st' := [.int x27, .ref v1]) (o := ldA μ v0 (v3 + (xc 2))) rfl hx28 ?_
      refine xr_go 4 (pc' := 250) (lo' := [some (.ref v0), some (.ref v1), some (.ref v2), some (.int v3)]) (st' := [.int (v3 + (xc 3)), .ref v0, .int x28, .int x27, .ref v1]) (μ' := μ) rfl ?_
      obtain ⟨x29, hx29, h⟩ := Option.bind_eq_some_iff.mp h
      refine xr_opI (pc' := 251) (lo' := [some (.ref v0), some (.ref v1), some (.ref v2), some (.int v3)]) (st' := [.int x28, .int x27, .ref v1]) (o := ldA μ v0 (v3 + (xc 3))) rfl hx29 ?_
      obtain ⟨r30, hr30, h⟩ := Option.bind_eq_some_iff.mp h
      refine xr_callV (j := 2) (d' := (d + 13)) (rv1 := some (.int r30.1)) (μ1 := r30.2) (rest := []) (As := [.int x27, .int x28, .int x29]) rfl rfl rfl rfl (Nat.le_of_ble_eq_true rfl) (fX_out_kd hr30) rfl (by exact (fX_out_ok (d := d + (11)) hr30)) ?_
      refine xr_go 5 (pc' := 259) (lo' := [some (.ref v0), some (.ref v1), some (.ref v2), some (.int v3)]) (st' := [.int (v3 + (xc 1)), .ref v0, .ref v2, .int r30.1]) (μ' := r30.2) rfl ?_
      obtain ⟨x31, hx31, h⟩ := Option.bind_eq_some_iff.mp h
      refine xr_opI (pc' := 260) (lo' := [some (.ref v0), some (.ref v1), some (.ref v2), some (.int v3)]) (st' := [.ref v2, .int r30.1]) (o := ldA r30.2 v0 (v3 + (xc 1))) rfl hx31 ?_
      refine xr_go 4 (pc' := 264) (lo' := [some (.ref v0), some (.ref v1), some (.ref v2), some (.int v3)]) (st' := [.int (v3 + (xc 2)), .ref v0, .int x31, .ref v2, .int r30.1]) (μ' := r30.2) rfl ?_
      obtain ⟨x32, hx32, h⟩ := Option.bind_eq_some_iff.mp h
      refine xr_opI (pc' := 265) (lo' := [some (.ref v0), some (.ref v1), some (.ref v2), some (.int v3)]) (st' := [.int x31, .ref v2, .int r30.1]) (o := ldA r30.2 v0 (v3 + (xc 2))) rfl hx32 ?_
      refine xr_go 4 (pc' := 269) (lo' := [some (.ref v0), some (.ref v1), some (.ref v2), some (.int v3)]) (st' := [.int (v3 + (xc 3)), .ref v0, .int x32, .int x31, .ref v2, .int r30.1]) (μ' := r30.2) rfl ?_
      obtain ⟨x33, hx33, h⟩ := Option.bind_eq_some_iff.mp h
      refine xr_opI (pc' := 270) (lo' := [some (.ref v0), some (.ref v1), some (.ref v2), some (.int v3)]) (st' := [.int x32, .int x31, .ref v2, .int r30.1]) (o := ldA r30.2 v0 (v3 + (xc 3))) rfl hx33 ?_
      obtain ⟨r34, hr34, h⟩ := Option.bind_eq_some_iff.mp h
      refine xr_callV (j := 147) (d' := (d + 13)) (rv1 := some (.int r34.1)) (μ1 := r34.2) (rest := [.int r30.1]) (As := [.int x31, .int x32, .int x33]) rfl rfl rfl rfl (Nat.le_of_ble_eq_true rfl) (fM_out_kd hr34) rfl (by exact (fM_out_ok (d := d + (11)) hr34)) ?_
      refine xr_icmp (pct := 1284) rfl rfl rfl (fun hc => ?_) (fun hc => ?_)
      · replace h := (if_pos (of_decide_eq_true hc)).symm.trans h
        refine xr_forget (lo := [some (.ref v0), some (.ref v1), some (.ref v2), some (.int v3)]) ⟨rfl, rfl, rfl, rfl, trivial⟩ ?_
        exact fLaw_law_1284_ok h hK
      · replace h := (if_neg (of_decide_eq_false hc)).symm.trans h
        refine xr_forget (lo := [none, none, none, none]) trivial ?_
        obtain ⟨o, h2, rfl⟩ := Option.map_eq_some_iff.mp h
        exact fLaw_law_276_ok h2 hK
    replace h := (if_neg hq1).symm.trans h
    by_cases hq2 : (x18 &&& (xc 63)) = xc 2
    · replace h := (if_pos hq2).symm.trans h
      refine xr_sw (v := xc 2) (pc' := 278) (lo' := [some (.ref v0), some (.ref v1), some (.ref v2), some (.int v3)]) (st' := []) (μ' := μ) hq2 rfl ?_
      refine xr_go 1 (pc' := 279) (lo' := [some (.ref v0), some (.ref v1), some (.ref v2), some (.int v3)]) (st' := [.ref v1]) (μ' := μ) rfl ?_
      obtain ⟨r35, hr35, h⟩ := Option.bind_eq_some_iff.mp h
      refine xr_callV (j := 3) (d' := (d + 13)) (rv1 := some (.int r35.1)) (μ1 := r35.2) (rest := []) (As := []) rfl rfl rfl rfl (Nat.le_of_ble_eq_true rfl) (fX_undo_kd hr35) rfl (by exact (fX_undo_ok (d := d + (11)) hr35)) ?_
      refine xr_go 1 (pc' := 283) (lo' := [some (.ref v0), some (.ref v1), some (.ref v2), some (.int v3)]) (st' := [.ref v2, .int r35.1]) (μ' := r35.2) rfl ?_
      obtain ⟨r36, hr36, h⟩ := Option.bind_eq_some_iff.mp h
      refine xr_callV (j := 148) (d' := (d + 13)) (rv1 := some (.int r36.1)) (μ1 := r36.2) (rest := [.int r35.1]) (As := []) rfl rfl rfl rfl (Nat.le_of_ble_eq_true rfl) (fM_undo_kd hr36) rfl (by exact (fM_undo_ok (d := d + (12)) hr36)) ?_
      refine xr_icmp (pct := 1284) rfl rfl rfl (fun hc => ?_) (fun hc => ?_)
      · replace h := (if_pos (of_decide_eq_true hc)).symm.trans h
        refine xr_forget (lo := [some (.ref v0), some (.ref v1), some (.ref v2), some (.int v3)]) ⟨rfl, rfl, rfl, rfl, trivial⟩ ?_
        exact fLaw_law_1284_ok h hK
      · replace h := (if_neg (of_decide_eq_false hc)).symm.trans h
        refine xr_forget (lo := [none, none, none, none]) trivial ?_
        obtain ⟨o, h2, rfl⟩ := Option.map_eq_some_iff.mp h
        exact fLaw_law_289_ok h2 hK
    replace h := (if_neg hq2).symm.trans h
    by_cases hq3 : (x18 &&& (xc 63)) = xc 3
    · replace h := (if_pos hq3).symm.trans h
      refine xr_sw (v := xc 3) (pc' := 291) (lo' := [some (.ref v0), some (.ref v1), some (.ref v2), some (.int v3)]) (st' := []) (μ' := μ) hq3 rfl ?_
      refine xr_go 5 (pc' := 296) (lo' := [some (.ref v0), some (.ref v1), some (.ref v2), some (.int v3)]) (st' := [.int (v3 + (xc 1)), .ref v0, .ref v1]) (μ' := μ) rfl ?_
      obtain ⟨x37, hx37, h⟩ := Option.bind_eq_some_iff.mp h
      refine xr_opI (pc' := 297) (lo' := [some (.ref v0), some (.ref v1), some (.ref v2), some (.int v3)]) (st' := [.ref v1]) (o := ldA μ v0 (v3 + (xc 1))) rfl hx37 ?_
      refine xr_go 4 (pc' := 301) (lo' := [some (.ref v0), some (.ref v1), some (.ref v2), some (.int v3)]) (st' := [.int (v3 + (xc 2)), .ref v0, .int x37, .ref v1]) (μ' := μ) rfl ?_
      obtain ⟨x38, hx38, h⟩ := Option.bind_eq_some_iff.mp h
      refine xr_opI (pc' := 302) (lo' := [some (.ref v0), some (.ref v1), some (.ref v2), some (.int v3)]) (st' := [.int x37, .ref v1]) (o := ldA μ v0 (v3 + (xc 2))) rfl hx38 ?_
      refine xr_ifc (pct := 309) rfl rfl rfl (fun hc => ?_) (fun hc => ?_)
      · replace h := (if_pos (of_decide_eq_true hc)).symm.trans h
        refine xr_go 1 (pc' := 310) (lo' := [some (.ref v0), some (.ref v1), some (.ref v2), some (.int v3)]) (st' := [.int (xc 0), .int x37, .ref v1]) (μ' := μ) rfl ?_
        refine xr_forget (lo := [some (.ref v0), some (.ref v1), some (.ref v2), some (.int v3)]) ⟨rfl, rfl, rfl, rfl, trivial⟩ ?_
        exact fLaw_law_310_ok h hK
      · replace h := (if_neg (of_decide_eq_false hc)).symm.trans h
        refine xr_go 2 (pc' := 310) (lo' := [some (.ref v0), some (.ref v1), some (.ref v2), some (.int v3)]) (st' := [.int (xc 1), .int x37, .ref v1]) (μ' := μ) rfl ?_
        refine xr_forget (lo := [some (.ref v0), some (.ref v1), some (.ref v2), some (.int v3)]) ⟨rfl, rfl, rfl, rfl, trivial⟩ ?_
        exact fLaw_law_310_ok h hK
    replace h := (if_neg hq3).symm.trans h
    by_cases hq4 : (x18 &&& (xc 63)) = xc 4
    · replace h := (if_pos hq4).symm.trans h
      refine xr_sw (v := xc 4) (pc' := 340) (lo' := [some (.ref v0), some (.ref v1), some (.ref v2), some (.int v3)]) (st' := []) (μ' := μ) hq4 rfl ?_
      refine xr_go 5 (pc' := 345) (lo' := [some (.ref v0), some (.ref v1), some (.ref v2), some (.int v3)]) (st' := [.int (v3 + (xc 1)), .ref v0, .ref v1]) (μ' := μ) rfl ?_
      obtain ⟨x39, hx39, h⟩ := Option.bind_eq_some_iff.mp h
      refine xr_opI (pc' := 346) (lo' := [some (.ref v0), some (.ref v1), some (.ref v2), some (.int v3)]) (st' := [.ref v1]) (o := ldA μ v0 (v3 + (xc 1))) rfl hx39 ?_
      obtain ⟨r40, hr40, h⟩ := Option.bind_eq_some_iff.mp h
      refine xr_callV (j := 5) (d' := (d + 13)) (rv1 := some (.int r40.1)) (μ1 := r40.2) (rest := []) (As := [.int x39]) rfl rfl rfl rfl (Nat.le_of_ble_eq_true rfl) (fX_rows_kd hr40) rfl (by exact (fX_rows_ok (d := d + (12)) hr40)) ?_
      refine xr_go 5 (pc' := 354) (lo' := [some (.ref v0), some (.ref v1), some (.ref v2), some (.int v3)]) (st' := [.int (v3 + (xc 1)), .ref v0, .ref v2, .int r40.1]) (μ' := r40.2) rfl ?_
      obtain ⟨x41, hx41, h⟩ := Option.bind_eq_some_iff.mp h
      refine xr_opI (pc' := 355) (lo' := [some (.ref v0), some (.ref v1), some (.ref v2), some (.int v3)]) (st' := [.ref v2, .int r40.1]) (o := ldA r40.2 v0 (v3 + (xc 1))) rfl hx41 ?_
      obtain ⟨r42, hr42, h⟩ := Option.bind_eq_some_iff.mp h
      refine xr_callV (j := 150) (d' := (d + 13)) (rv1 := some (.int r42.1)) (μ1 := r42.2) (rest := [.int r40.1]) (As := [.int x41]) rfl rfl rfl rfl (Nat.le_of_ble_eq_true rfl) (fM_rows_kd hr42) rfl (by exact (fM_rows_ok (d := d + (12)) hr42)) ?_
      refine xr_icmp (pct := 1284) rfl rfl rfl (fun hc => ?_) (fun hc => ?_)
      · replace h := (if_pos (of_decide_eq_true hc)).symm.trans h
        refine xr_forget (lo := [some (.ref v0), some (.ref v1), some (.ref v2), some (.int v3)]) ⟨rfl, rfl, rfl, rfl, trivial⟩ ?_
        exact fLaw_law_1284_ok h hK
      · replace h := (if_neg (of_decide_eq_false hc)).symm.trans h
        refine xr_forget (lo := [none, none, none, none]) trivial ?_
        obtain ⟨o, h2, rfl⟩ := Option.map_eq_some_iff.mp h
        exact fLaw_law_361_ok h2 hK
    replace h := (if_neg hq4).symm.trans h
    by_cases hq5 : (x18 &&& (xc 63)) = xc 5
    · replace h := (if_pos hq5).symm.trans h
      refine xr_sw (v := xc 5) (pc' := 363) (lo' := [some (.ref v0), some (.ref v1), some (.ref v2), some (.int v3)]) (st' := []) (μ' := μ) hq5 rfl ?_
      refine xr_go 5 (pc' := 368) (lo' := [some (.ref v0), some (.ref v1), some (.ref v2), some (.int v3)]) (st' := [.int (v3 + (xc 1)), .ref v0, .ref v1]) (μ' := μ) rfl ?_
      obtain ⟨x43, hx43, h⟩ := Option.bind_eq_some_iff.mp h
      refine xr_opI (pc' := 369) (lo' := [some (.ref v0), some (.ref v1), some (.ref v2), some (.int v3)]) (st' := [.ref v1]) (o := ldA μ v0 (v3 + (xc 1))) rfl hx43 ?_
      obtain ⟨r44, hr44, h⟩ := Option.bind_eq_some_iff.mp h
      refine xr_callV (j := 6) (d' := (d + 13)) (rv1 := some (.int r44.1)) (μ1 := r44.2) (rest := []) (As := [.int x43]) rfl rfl rfl rfl (Nat.le_of_ble_eq_true rfl) (fX_put_kd hr44) rfl (by exact (fX_put_ok (d := d + (12)) hr44)) ?_
      refine xr_go 5 (pc' := 377) (lo' := [some (.ref v0), some (.ref v1), some (.ref v2), some (.int v3)]) (st' := [.int (v3 + (xc 1)), .ref v0, .ref v2, .int r44.1]) (μ' := r44.2) rfl ?_
      obtain ⟨x45, hx45, h⟩ := Option.bind_eq_some_iff.mp h
      refine xr_opI (pc' := 378) (lo' := [some (.ref v0), some (.ref v1), some (.ref v2), some (.int v3)]) (st' := [.ref v2, .int r44.1]) (o := ldA r44.2 v0 (v3 + (xc 1))) rfl hx45 ?_
      obtain ⟨r46, hr46, h⟩ := Option.bind_eq_some_iff.mp h
      refine xr_callV (j := 151) (d' := (d + 13)) (rv1 := some (.int r46.1)) (μ1 := r46.2) (rest := [.int r44.1]) (As := [.int x45]) rfl rfl rfl rfl (Nat.le_of_ble_eq_true rfl) (fM_put_kd hr46) rfl (by exact (fM_put_ok (d := d + (12)) hr46)) ?_
      refine xr_icmp (pct := 1284) rfl rfl rfl (fun hc => ?_) (fun hc => ?_)
      · replace h := (if_pos (of_decide_eq_true hc)).symm.trans h
        refine xr_forget (lo := [some (.ref v0), some (.ref v1), some (.ref v2), some (.int v3)]) ⟨rfl, rfl, rfl, rfl, trivial⟩ ?_
        exact fLaw_law_1284_ok h hK
      · replace h := (if_neg (of_decide_eq_false hc)).symm.trans h
        refine xr_forget (lo := [none, none, none, none]) trivial ?_
        obtain ⟨o, h2, rfl⟩ := Option.map_eq_some_iff.mp h
        exact fLaw_law_384_ok h2 hK
    replace h := (if_neg hq5).symm.trans h
    by_cases hq6 : (x18 &&& (xc 63)) = xc 6
    · replace h := (if_pos hq6).symm.trans h
      refine xr_sw (v := xc 6) (pc' := 386) (lo' := [some (.ref v0), some (.ref v1), some (.ref v2), some (.int v3)]) (st' := []) (μ' := μ) hq6 rfl ?_
      refine xr_go 1 (pc' := 387) (lo' := [some (.ref v0), some (.ref v1), some (.ref v2), some (.int v3)]) (st' := [.ref v1]) (μ' := μ) rfl ?_
      obtain ⟨r47, hr47, h⟩ := Option.bind_eq_some_iff.mp h
      refine xr_callV (j := 7) (d' := (d + 13)) (rv1 := some (.int r47.1)) (μ1 := r47.2) (rest := []) (As := []) rfl rfl rfl rfl (Nat.le_of_ble_eq_true rfl) (fX_read_kd hr47) rfl (by exact (fX_read_ok (d := d + (10)) hr47)) ?_
      refine xr_go 1 (pc' := 391) (lo' := [some (.ref v0), some (.ref v1), some (.ref v2), some (.int v3)]) (st' := [.ref v2, .int r47.1]) (μ' := r47.2) rfl ?_
      obtain ⟨r48, hr48, h⟩ := Option.bind_eq_some_iff.mp h
      refine xr_callV (j := 152) (d' := (d + 13)) (rv1 := some (.int r48.1)) (μ1 := r48.2) (rest := [.int r47.1]) (As := []) rfl rfl rfl rfl (Nat.le_of_ble_eq_true rfl) (fM_read_kd hr48) rfl (by exact (fM_read_ok (d := d + (11)) hr48)) ?_
      refine xr_icmp (pct := 1284) rfl rfl rfl (fun hc => ?_) (fun hc => ?_)
      · replace h := (if_pos (of_decide_eq_true hc)).symm.trans h
        refine xr_forget (lo := [some (.ref v0), some (.ref v1), some (.ref v2), some (.int v3)]) ⟨rfl, rfl, rfl, rfl, trivial⟩ ?_
        exact fLaw_law_1284_ok h hK
      · replace h := (if_neg (of_decide_eq_false hc)).symm.trans h
        refine xr_forget (lo := [none, none, none, none]) trivial ?_
        obtain ⟨o, h2, rfl⟩ := Option.map_eq_some_iff.mp h
        exact fLaw_law_397_ok h2 hK
    replace h := (if_neg hq6).symm.trans h
    by_cases hq7 : (x18 &&& (xc 63)) = xc 7
    · replace h := (if_pos hq7).symm.trans h
      refine xr_sw (v := xc 7) (pc' := 399) (lo' := [some (.ref v0), some (.ref v1), some (.ref v2), some (.int v3)]) (st' := []) (μ' := μ) hq7 rfl ?_
      refine xr_go 5 (pc' := 404) (lo' := [some (.ref v0), some (.ref v1), some (.ref v2), some (.int v3)]) (st' := [.int (v3 + (xc 1)), .ref v0, .ref v1]) (μ' := μ) rfl ?_
      obtain ⟨x49, hx49, h⟩ := Option.bind_eq_some_iff.mp h
      refine xr_opI (pc' := 405) (lo' := [some (.ref v0), some (.ref v1), some (.ref v2), some (.int v3)]) (st' := [.ref v1]) (o := ldA μ v0 (v3 + (xc 1))) rfl hx49 ?_
      refine xr_go 4 (pc' := 409) (lo' := [some (.ref v0), some (.ref v1), some (.ref v2), some (.int v3)]) (st' := [.int (v3 + (xc 2)), .ref v0, .int x49, .ref v1]) (μ' := μ) rfl ?_
      obtain ⟨x50, hx50, h⟩ := Option.bind_eq_some_iff.mp h
      refine xr_opI (pc' := 410) (lo' := [some (.ref v0), some (.ref v1), some (.ref v2), some (.int v3)]) (st' := [.int x49, .ref v1]) (o := ldA μ v0 (v3 + (xc 2))) rfl hx50 ?_
      refine xr_go 7 (pc' := 418) (lo' := [some (.ref v0), some (.ref v1), some (.ref v2), some (.int v3)]) (st' := [.int (v3 + (xc 3)), .ref v0, .long ((Int32.toInt64 x50) <<< (Int32.toInt64 (xc 32) &&& 63)), .int x49, .ref v1]) (μ' := μ) rfl ?_
      obtain ⟨x51, hx51, h⟩ := Option.bind_eq_some_iff.mp h
      refine xr_opI (pc' := 419) (lo' := [some (.ref v0), some (.ref v1), some (.ref v2), some (.int v3)]) (st' := [.long ((Int32.toInt64 x50) <<< (Int32.toInt64 (xc 32) &&& 63)), .int x49, .ref v1]) (o := ldA μ v0 (v3 + (xc 3))) rfl hx51 ?_
      refine xr_go 4 (pc' := 425) (lo' := [some (.ref v0), some (.ref v1), some (.ref v2), some (.int v3)]) (st' := [.long (((Int32.toInt64 x50) <<< (Int32.toInt64 (xc 32) &&& 63)) ||| ((Int32.toInt64 x51) &&& (Int64.ofNat 4294967295))), .int x49, .ref v1]) (μ' := μ) rfl ?_
      obtain ⟨r52, hr52, h⟩ := Option.bind_eq_some_iff.mp h
      refine xr_callV (j := 8) (d' := (d + 13)) (rv1 := some (.int r52.1)) (μ1 := r52.2) (rest := []) (As := [.int x49, .long (((Int32.toInt64 x50) <<< (Int32.toInt64 (xc 32) &&& 63)) ||| ((Int32.toInt64 x51) &&& (Int64.ofNat 4294967295)))]) rfl rfl rfl rfl (Nat.le_of_ble_eq_true rfl) (fX_feed_kd hr52) rfl (by exact (fX_feed_ok (d := d + (12)) hr52)) ?_
      refine xr_go 5 (pc' := 433) (lo' := [some (.ref v0), some (.ref v1), some (.ref v2), some (.int v3)]) (st' := [.int (v3 + (xc 1)), .ref v0, .ref v2, .int r52.1]) (μ' := r52.2) rfl ?_
      obtain ⟨x53, hx53, h⟩ := Option.bind_eq_some_iff.mp h
      refine xr_opI (pc' := 434) (lo' := [some (.ref v0), some (.ref v1), some (.ref v2), some (.int v3)]) (st' := [.ref v2, .int r52.1]) (o := ldA r52.2 v0 (v3 + (xc 1))) rfl hx53 ?_
      refine xr_go 4 (pc' := 438) (lo' := [some (.ref v0), some (.ref v1), some (.ref v2), some (.int v3)]) (st' := [.int (v3 + (xc 2)), .ref v0, .int x53, .ref v2, .int r52.1]) (μ' := r52.2) rfl ?_
      obtain ⟨x54, hx54, h⟩ := Option.bind_eq_some_iff.mp h
      refine xr_opI (pc' := 439) (lo' := [some (.ref v0), some (.ref v1), some (.ref v2), some (.int v3)]) (st' := [.int x53, .ref v2, .int r52.1]) (o := ldA r52.2 v0 (v3 + (xc 2))) rfl hx54 ?_
      refine xr_go 7 (pc' := 447) (lo' := [some (.ref v0), some (.ref v1), some (.ref v2), some (.int v3)]) (st' := [.int (v3 + (xc 3)), .ref v0, .long ((Int32.toInt64 x54) <<< (Int32.toInt64 (xc 32) &&& 63)), .int x53, .ref v2, .int r52.1]) (μ' := r52.2) rfl ?_
      obtain ⟨x55, hx55, h⟩ := Option.bind_eq_some_iff.mp h
      refine xr_opI (pc' := 448) (lo' := [some (.ref v0), some (.ref v1), some (.ref v2), some (.int v3)]) (st' := [.long ((Int32.toInt64 x54) <<< (Int32.toInt64 (xc 32) &&& 63)), .int x53, .ref v2, .int r52.1]) (o := ldA r52.2 v0 (v3 + (xc 3))) rfl hx55 ?_
      refine xr_go 4 (pc' := 454) (lo' := [some (.ref v0), some (.ref v1), some (.ref v2), some (.int v3)]) (st' := [.long (((Int32.toInt64 x54) <<< (Int32.toInt64 (xc 32) &&& 63)) ||| ((Int32.toInt64 x55) &&& (Int64.ofNat 4294967295))), .int x53, .ref v2, .int r52.1]) (μ' := r52.2) rfl ?_
      obtain ⟨r56, hr56, h⟩ := Option.bind_eq_some_iff.mp h
      refine xr_callV (j := 153) (d' := (d + 13)) (rv1 := some (.int r56.1)) (μ1 := r56.2) (rest := [.int r52.1]) (As := [.int x53, .long (((Int32.toInt64 x54) <<< (Int32.toInt64 (xc 32) &&& 63)) ||| ((Int32.toInt64 x55) &&& (Int64.ofNat 4294967295)))]) rfl rfl rfl rfl (Nat.le_of_ble_eq_true rfl) (fM_feed_kd hr56) rfl (by exact (fM_feed_ok (d := d + (12)) hr56)) ?_
      refine xr_icmp (pct := 1284) rfl rfl rfl (fun hc => ?_) (fun hc => ?_)
      · replace h := (if_pos (of_decide_eq_true hc)).symm.trans h
        refine xr_forget (lo := [some (.ref v0), some (.ref v1), some (.ref v2), some (.int v3)]) ⟨rfl, rfl, rfl, rfl, trivial⟩ ?_
        exact fLaw_law_1284_ok h hK
      · replace h := (if_neg (of_decide_eq_false hc)).symm.trans h
        refine xr_forget (lo := [none, none, none, none]) trivial ?_
        obtain ⟨o, h2, rfl⟩ := Option.map_eq_some_iff.mp h
        exact fLaw_law_460_ok h2 hK
    replace h := (if_neg hq7).symm.trans h
    by_cases hq8 : (x18 &&& (xc 63)) = xc 8
    · replace h := (if_pos hq8).symm.trans h
      refine xr_sw (v := xc 8) (pc' := 462) (lo' := [some (.ref v0), some (.ref v1), some (.ref v2), some (.int v3)]) (st' := []) (μ' := μ) hq8 rfl ?_
      refine xr_go 1 (pc' := 463) (lo' := [some (.ref v0), some (.ref v1), some (.ref v2), some (.int v3)]) (st' := [.ref v1]) (μ' := μ) rfl ?_
      obtain ⟨r57, hr57, h⟩ := Option.bind_eq_some_iff.mp h
      refine xr_callV (j := 9) (d' := (d + 13)) (rv1 := some (.int r57.1)) (μ1 := r57.2) (rest := []) (As := []) rfl rfl rfl rfl (Nat.le_of_ble_eq_true rfl) (fX_ask_kd hr57) rfl (by exact (fX_ask_ok (d := d + (10)) hr57)) ?_
      refine xr_go 1 (pc' := 467) (lo' := [some (.ref v0), some (.ref v1), some (.ref v2), some (.int v3)]) (st' := [.ref v2, .int r57.1]) (μ' := r57.2) rfl ?_
      obtain ⟨r58, hr58, h⟩ := Option.bind_eq_some_iff.mp h
      refine xr_callV (j := 160) (d' := (d + 13)) (rv1 := some (.int r58.1)) (μ1 := r58.2) (rest := [.int r57.1]) (As := []) rfl rfl rfl rfl (Nat.le_of_ble_eq_true rfl) (fM_ask_kd hr58) rfl (by exact (fM_ask_ok (d := d + (9)) hr58)) ?_
      refine xr_icmp (pct := 1284) rfl rfl rfl (fun hc => ?_) (fun hc => ?_)
      · replace h := (if_pos (of_decide_eq_true hc)).symm.trans h
        refine xr_forget (lo := [some (.ref v0), some (.ref v1), some (.ref v2), some (.int v3)]) ⟨rfl, rfl, rfl, rfl, trivial⟩ ?_
        exact fLaw_law_1284_ok h hK
      · replace h := (if_neg (of_decide_eq_false hc)).symm.trans h
        refine xr_forget (lo := [none, none, none, none]) trivial ?_
        obtain ⟨o, h2, rfl⟩ := Option.map_eq_some_iff.mp h
        exact fLaw_law_473_ok h2 hK
    replace h := (if_neg hq8).symm.trans h
    by_cases hq9 : (x18 &&& (xc 63)) = xc 9
    · replace h := (if_pos hq9).symm.trans h
      refine xr_sw (v := xc 9) (pc' := 475) (lo' := [some (.ref v0), some (.ref v1), some (.ref v2), some (.int v3)]) (st' := []) (μ' := μ) hq9 rfl ?_
      refine xr_go 1 (pc' := 476) (lo' := [some (.ref v0), some (.ref v1), some (.ref v2), some (.int v3)]) (st' := [.ref v1]) (μ' := μ) rfl ?_
      obtain ⟨r59, hr59, h⟩ := Option.bind_eq_some_iff.mp h
      refine xr_callV (j := 10) (d' := (d + 13)) (rv1 := some (.int r59.1)) (μ1 := r59.2) (rest := []) (As := []) rfl rfl rfl rfl (Nat.le_of_ble_eq_true rfl) (fX_view_kd hr59) rfl (by exact (fX_view_ok (d := d + (10)) hr59)) ?_
      refine xr_go 1 (pc' := 480) (lo' := [some (.ref v0), some (.ref v1), some (.ref v2), some (.int v3)]) (st' := [.ref v2, .int r59.1]) (μ' := r59.2) rfl ?_
      obtain ⟨r60, hr60, h⟩ := Option.bind_eq_some_iff.mp h
      refine xr_callV (j := 161) (d' := (d + 13)) (rv1 := some (.int r60.1)) (μ1 := r60.2) (rest := [.int r59.1]) (As := []) rfl rfl rfl rfl (Nat.le_of_ble_eq_true rfl) (fM_view_kd hr60) rfl (by exact (fM_view_ok (d := d + (9)) hr60)) ?_
      refine xr_icmp (pct := 1284) rfl rfl rfl (fun hc => ?_) (fun hc => ?_)
      · replace h := (if_pos (of_decide_eq_true hc)).symm.trans h
        refine xr_forget (lo := [some (.ref v0), some (.ref v1), some (.ref v2), some (.int v3)]) ⟨rfl, rfl, rfl, rfl, trivial⟩ ?_
        exact fLaw_law_1284_ok h hK
      · replace h := (if_neg (of_decide_eq_false hc)).symm.trans h
        refine xr_forget (lo := [none, none, none, none]) trivial ?_
        obtain ⟨o, h2, rfl⟩ := Option.map_eq_some_iff.mp h
        exact fLaw_law_486_ok h2 hK
    replace h := (if_neg hq9).symm.trans h
    by_cases hq10 : (x18 &&& (xc 63)) = xc 10
    · replace h := (if_pos hq10).symm.trans h
      refine xr_sw (v := xc 10) (pc' := 488) (lo' := [some (.ref v0), some (.ref v1), some (.ref v2), some (.int v3)]) (st' := []) (μ' := μ) hq10 rfl ?_
      refine xr_go 5 (pc' := 493) (lo' := [some (.ref v0), some (.ref v1), some (.ref v2), some (.int v3)]) (st' := [.int (v3 + (xc 1)), .ref v0, .ref v1]) (μ' := μ) rfl ?_
      obtain ⟨x61, hx61, h⟩ := Option.bind_eq_some_iff.mp h
      refine xr_opI (pc' := 494) (lo' := [some (.ref v0), some (.ref v1), some (.ref v2), some (.int v3)]) (st' := [.ref v1]) (o := ldA μ v0 (v3 + (xc 1))) rfl hx61 ?_
      refine xr_go 4 (pc' := 498) (lo' := [some (.ref v0), some (.ref v1), some (.ref v2), some (.int v3)]) (st' := [.int (v3 + (xc 2)), .ref v0, .int x61, .ref v1]) (μ' := μ) rfl ?_
      obtain ⟨x62, hx62, h⟩ := Option.bind_eq_some_iff.mp h
      refine xr_opI (pc' := 499) (lo' := [some (.ref v0), some (.ref v1), some (.ref v2), some (.int v3)]) (st' := [.int x61, .ref v1]) (o := ldA μ v0 (v3 + (xc 2))) rfl hx62 ?_
      refine xr_ifc (pct := 506) rfl rfl rfl (fun hc => ?_) (fun hc => ?_)
      · replace h := (if_pos (of_decide_eq_true hc)).symm.trans h
        refine xr_go 1 (pc' := 507) (lo' := [some (.ref v0), some (.ref v1), some (.ref v2), some (.int v3)]) (st' := [.int (xc 0), .int x61, .ref v1]) (μ' := μ) rfl ?_
        refine xr_forget (lo := [some (.ref v0), some (.ref v1), some (.ref v2), some (.int v3)]) ⟨rfl, rfl, rfl, rfl, trivial⟩ ?_
        exact fLaw_law_507_ok h hK
      · replace h := (if_neg (of_decide_eq_false hc)).symm.trans h
        refine xr_go 2 (pc' := 507) (lo' := [some (.ref v0), some (.ref v1), some (.ref v2), some (.int v3)]) (st' := [.int (xc 1), .int x61, .ref v1]) (μ' := μ) rfl ?_
        refine xr_forget (lo := [some (.ref v0), some (.ref v1), some (.ref v2), some (.int v3)]) ⟨rfl, rfl, rfl, rfl, trivial⟩ ?_
        exact fLaw_law_507_ok h hK
    replace h := (if_neg hq10).symm.trans h
    by_cases hq11 : (x18 &&& (xc 63)) = xc 11
    · replace h := (if_pos hq11).symm.trans h
      refine xr_sw (v := xc 11) (pc' := 537) (lo' := [some (.ref v0), some (.ref v1), some (.ref v2), some (.int v3)]) (st' := []) (μ' := μ) hq11 rfl ?_
      refine xr_go 5 (pc' := 542) (lo' := [some (.ref v0), some (.ref v1), some (.ref v2), some (.int v3)]) (st' := [.int (v3 + (xc 1)), .ref v0, .ref v1]) (μ' := μ) rfl ?_
      obtain ⟨x63, hx63, h⟩ := Option.bind_eq_some_iff.mp h
      refine xr_opI (pc' := 543) (lo' := [some (.ref v0), some (.ref v1), some (.ref v2), some (.int v3)]) (st' := [.ref v1]) (o := ldA μ v0 (v3 + (xc 1))) rfl hx63 ?_
      refine xr_go 4 (pc' := 547) (lo' := [some (.ref v0), some (.ref v1), some (.ref v2), some (.int v3)]) (st' := [.int (v3 + (xc 2)), .ref v0, .int x63, .ref v1]) (μ' := μ) rfl ?_
      obtain ⟨x64, hx64, h⟩ := Option.bind_eq_some_iff.mp h
      refine xr_opI (pc' := 548) (lo' := [some (.ref v0), some (.ref v1), some (.ref v2), some (.int v3)]) (st' := [.int x63, .ref v1]) (o := ldA μ v0 (v3 + (xc 2))) rfl hx64 ?_
      obtain ⟨r65, hr65, h⟩ := Option.bind_eq_some_iff.mp h
      refine xr_callV (j := 12) (d' := (d + 13)) (rv1 := some (.int r65.1)) (μ1 := r65.2) (rest := []) (As := [.int x63, .int x64]) rfl rfl rfl rfl (Nat.le_of_ble_eq_true rfl) (fX_steps_kd hr65) rfl (by exact (fX_steps_ok (d := d + (1)) hr65)) ?_
      refine xr_go 5 (pc' := 556) (lo' := [some (.ref v0), some (.ref v1), some (.ref v2), some (.int v3)]) (st' := [.int (v3 + (xc 1)), .ref v0, .ref v2, .int r65.1]) (μ' := r65.2) rfl ?_
      obtain ⟨x66, hx66, h⟩ := Option.bind_eq_some_iff.mp h
      refine xr_opI (pc' := 557) (lo' := [some (.ref v0), some (.ref v1), some (.ref v2), some (.int v3)]) (st' := [.ref v2, .int r65.1]) (o := ldA r65.2 v0 (v3 + (xc 1))) rfl hx66 ?_
      refine xr_go 4 (pc' := 561) (lo' := [some (.ref v0), some (.ref v1), some (.ref v2), some (.int v3)]) (st' := [.int (v3 + (xc 2)), .ref v0, .int x66, .ref v2, .int r65.1]) (μ' := r65.2) rfl ?_
      obtain ⟨x67, hx67, h⟩ := Option.bind_eq_some_iff.mp h
      refine xr_opI (pc' := 562) (lo' := [some (.ref v0), some (.ref v1), some (.ref v2), some (.int v3)]) (st' := [.int x66, .ref v2, .int r65.1]) (o := ldA r65.2 v0 (v3 + (xc 2))) rfl hx67 ?_
      obtain ⟨r68, hr68, h⟩ := Option.bind_eq_some_iff.mp h
      refine xr_callV (j := 172) (d' := (d + 13)) (rv1 := some (.int r68.1)) (μ1 := r68.2) (rest := [.int r65.1]) (As := [.int x66, .int x67]) rfl rfl rfl rfl (Nat.le_of_ble_eq_true rfl) (fM_steps_kd hr68) rfl (by exact (fM_steps_ok (d := d + (9)) hr68)) ?_
      refine xr_icmp (pct := 1284) rfl rfl rfl (fun hc => ?_) (fun hc => ?_)
      · replace h := (if_pos (of_decide_eq_true hc)).symm.trans h
        refine xr_forget (lo := [some (.ref v0), some (.ref v1), some (.ref v2), some (.int v3)]) ⟨rfl, rfl, rfl, rfl, trivial⟩ ?_
        exact fLaw_law_1284_ok h hK
      · replace h := (if_neg (of_decide_eq_false hc)).symm.trans h
        refine xr_forget (lo := [none, none, none, none]) trivial ?_
        obtain ⟨o, h2, rfl⟩ := Option.map_eq_some_iff.mp h
        exact fLaw_law_568_ok h2 hK
    replace h := (if_neg hq11).symm.trans h
    by_cases hq12 : (x18 &&& (xc 63)) = xc 12
    · replace h := (if_pos hq12).symm.trans h
      refine xr_sw (v := xc 12) (pc' := 570) (lo' := [some (.ref v0), some (.ref v1), some (.ref v2), some (.int v3)]) (st' := []) (μ' := μ) hq12 rfl ?_
      refine xr_go 5 (pc' := 575) (lo' := [some (.ref v0), some (.ref v1), some (.ref v2), some (.int v3)]) (st' := [.int (v3 + (xc 1)), .ref v0, .ref v1]) (μ' := μ) rfl ?_
      obtain ⟨x69, hx69, h⟩ := Option.bind_eq_some_iff.mp h
      refine xr_opI (pc' := 576) (lo' := [some (.ref v0), some (.ref v1), some (.ref v2), some (.int v3)]) (st' := [.ref v1]) (o := ldA μ v0 (v3 + (xc 1))) rfl hx69 ?_
      refine xr_go 4 (pc' := 580) (lo' := [some (.ref v0), some (.ref v1), some (.ref v2), some (.int v3)]) (st' := [.int (v3 + (xc 2)), .ref v0, .int x69, .ref v1]) (μ' := μ) rfl ?_
      obtain ⟨x70, hx70, h⟩ := Option.bind_eq_some_iff.mp h
      refine xr_opI (pc' := 581) (lo' := [some (.ref v0), some (.ref v1), some (.ref v2), some (.int v3)]) (st' := [.int x69, .ref v1]) (o := ldA μ v0 (v3 + (xc 2))) rfl hx70 ?_
      obtain ⟨r71, hr71, h⟩ := Option.bind_eq_some_iff.mp h
      refine xr_callV (j := 13) (d' := (d + 13)) (rv1 := some (.int r71.1)) (μ1 := r71.2) (rest := []) (As := [.int x69, .int x70]) rfl rfl rfl rfl (Nat.le_of_ble_eq_true rfl) (fX_end_kd hr71) rfl (by exact (fX_end_ok (d := d + (1)) hr71)) ?_
      refine xr_go 5 (pc' := 589) (lo' := [some (.ref v0), some (.ref v1), some (.ref v2), some (.int v3)]) (st' := [.int (v3 + (xc 1)), .ref v0, .ref v2, .int r71.1]) (μ' := r71.2) rfl ?_
      obtain ⟨x72, hx72, h⟩ := Option.bind_eq_some_iff.mp h
      refine xr_opI (pc' := 590) (lo' := [some (.ref v0), some (.ref v1), some (.ref v2), some (.int v3)]) (st' := [.ref v2, .int r71.1]) (o := ldA r71.2 v0 (v3 + (xc 1))) rfl hx72 ?_
      refine xr_go 4 (pc' := 594) (lo' := [some (.ref v0), some (.ref v1), some (.ref v2), some (.int v3)]) (st' := [.int (v3 + (xc 2)), .ref v0, .int x72, .ref v2, .int r71.1]) (μ' := r71.2) rfl ?_
      obtain ⟨x73, hx73, h⟩ := Option.bind_eq_some_iff.mp h
      refine xr_opI (pc' := 595) (lo' := [some (.ref v0), some (.ref v1), some (.ref v2), some (.int v3)]) (st' := [.int x72, .ref v2, .int r71.1]) (o := ldA r71.2 v0 (v3 + (xc 2))) rfl hx73 ?_
      obtain ⟨r74, hr74, h⟩ := Option.bind_eq_some_iff.mp h
      refine xr_callV (j := 173) (d' := (d + 13)) (rv1 := some (.int r74.1)) (μ1 := r74.2) (rest := [.int r71.1]) (As := [.int x72, .int x73]) rfl rfl rfl rfl (Nat.le_of_ble_eq_true rfl) (fM_end_kd hr74) rfl (by exact (fM_end_ok (d := d + (9)) hr74)) ?_
      refine xr_icmp (pct := 1284) rfl rfl rfl (fun hc => ?_) (fun hc => ?_)
      · replace h := (if_pos (of_decide_eq_true hc)).symm.trans h
        refine xr_forget (lo := [some (.ref v0), some (.ref v1), some (.ref v2), some (.int v3)]) ⟨rfl, rfl, rfl, rfl, trivial⟩ ?_
        exact fLaw_law_1284_ok h hK
      · replace h := (if_neg (of_decide_eq_false hc)).symm.trans h
        refine xr_forget (lo := [none, none, none, none]) trivial ?_
        obtain ⟨o, h2, rfl⟩ := Option.map_eq_some_iff.mp h
        exact fLaw_law_601_ok h2 hK
    replace h := (if_neg hq12).symm.trans h
    by_cases hq13 : (x18 &&& (xc 63)) = xc 13
    · replace h := (if_pos hq13).symm.trans h
      refine xr_sw (v := xc 13) (pc' := 603) (lo' := [some (.ref v0), some (.ref v1), some (.ref v2), some (.int v3)]) (st' := []) (μ' := μ) hq13 rfl ?_
      refine xr_go 5 (pc' := 608) (lo' := [some (.ref v0), some (.ref v1), some (.ref v2), some (.int v3)]) (st' := [.int (v3 + (xc 1)), .ref v0, .ref v1]) (μ' := μ) rfl ?_
      obtain ⟨x75, hx75, h⟩ := Option.bind_eq_some_iff.mp h
      refine xr_opI (pc' := 609) (lo' := [some (.ref v0), some (.ref v1), some (.ref v2), some (.int v3)]) (st' := [.ref v1]) (o := ldA μ v0 (v3 + (xc 1))) rfl hx75 ?_
      refine xr_go 4 (pc' := 613) (lo' := [some (.ref v0), some (.ref v1), some (.ref v2), some (.int v3)]) (st' := [.int (v3 + (xc 2)), .ref v0, .int x75, .ref v1]) (μ' := μ) rfl ?_
      obtain ⟨x76, hx76, h⟩ := Option.bind_eq_some_iff.mp h
      refine xr_opI (pc' := 614) (lo' := [some (.ref v0), some (.ref v1), some (.ref v2), some (.int v3)]) (st' := [.int x75, .ref v1]) (o := ldA μ v0 (v3 + (xc 2))) rfl hx76 ?_
      obtain ⟨r77, hr77, h⟩ := Option.bind_eq_some_iff.mp h
      refine xr_callV (j := 14) (d' := (d + 13)) (rv1 := some (.int r77.1)) (μ1 := r77.2) (rest := []) (As := [.int x75, .int x76]) rfl rfl rfl rfl (Nat.le_of_ble_eq_true rfl) (fX_within_kd hr77) rfl (by exact (fX_within_ok (d := d + (0)) hr77)) ?_
      refine xr_go 5 (pc' := 622) (lo' := [some (.ref v0), some (.ref v1), some (.ref v2), some (.int v3)]) (st' := [.int (v3 + (xc 1)), .ref v0, .ref v2, .int r77.1]) (μ' := r77.2) rfl ?_
      obtain ⟨x78, hx78, h⟩ := Option.bind_eq_some_iff.mp h
      refine xr_opI (pc' := 623) (lo' := [some (.ref v0), some (.ref v1), some (.ref v2), some (.int v3)]) (st' := [.ref v2, .int r77.1]) (o := ldA r77.2 v0 (v3 + (xc 1))) rfl hx78 ?_
      refine xr_go 4 (pc' := 627) (lo' := [some (.ref v0), some (.ref v1), some (.ref v2), some (.int v3)]) (st' := [.int (v3 + (xc 2)), .ref v0, .int x78, .ref v2, .int r77.1]) (μ' := r77.2) rfl ?_
      obtain ⟨x79, hx79, h⟩ := Option.bind_eq_some_iff.mp h
      refine xr_opI (pc' := 628) (lo' := [some (.ref v0), some (.ref v1), some (.ref v2), some (.int v3)]) (st' := [.int x78, .ref v2, .int r77.1]) (o := ldA r77.2 v0 (v3 + (xc 2))) rfl hx79 ?_
      obtain ⟨r80, hr80, h⟩ := Option.bind_eq_some_iff.mp h
      refine xr_callV (j := 178) (d' := (d + 13)) (rv1 := some (.int r80.1)) (μ1 := r80.2) (rest := [.int r77.1]) (As := [.int x78, .int x79]) rfl rfl rfl rfl (Nat.le_of_ble_eq_true rfl) (fM_within_kd hr80) rfl (by exact (fM_within_ok (d := d + (8)) hr80)) ?_
      refine xr_icmp (pct := 1284) rfl rfl rfl (fun hc => ?_) (fun hc => ?_)
      · replace h := (if_pos (of_decide_eq_true hc)).symm.trans h
        refine xr_forget (lo := [some (.ref v0), some (.ref v1), some (.ref v2), some (.int v3)]) ⟨rfl, rfl, rfl, rfl, trivial⟩ ?_
        exact fLaw_law_1284_ok h hK
      · replace h := (if_neg (of_decide_eq_false hc)).symm.trans h
        refine xr_forget (lo := [none, none, none, none]) trivial ?_
        obtain ⟨o, h2, rfl⟩ := Option.map_eq_some_iff.mp h
        exact fLaw_law_634_ok h2 hK
    replace h := (if_neg hq13).symm.trans h
    by_cases hq14 : (x18 &&& (xc 63)) = xc 14
    · replace h := (if_pos hq14).symm.trans h
      refine xr_sw (v := xc 14) (pc' := 636) (lo' := [some (.ref v0), some (.ref v1), some (.ref v2), some (.int v3)]) (st' := []) (μ' := μ) hq14 rfl ?_
      refine xr_go 5 (pc' := 641) (lo' := [some (.ref v0), some (.ref v1), some (.ref v2), some (.int v3)]) (st' := [.int (v3 + (xc 1)), .ref v0, .ref v1]) (μ' := μ) rfl ?_
      obtain ⟨x81, hx81, h⟩ := Option.bind_eq_some_iff.mp h
      refine xr_opI (pc' := 642) (lo' := [some (.ref v0), some (.ref v1), some (.ref v2), some (.int v3)]) (st' := [.ref v1]) (o := ldA μ v0 (v3 + (xc 1))) rfl hx81 ?_
      refine xr_go 4 (pc' := 646) (lo' := [some (.ref v0), some (.ref v1), some (.ref v2), some (.int v3)]) (st' := [.int (v3 + (xc 2)), .ref v0, .int x81, .ref v1]) (μ' := μ) rfl ?_
      obtain ⟨x82, hx82, h⟩ := Option.bind_eq_some_iff.mp h
      refine xr_opI (pc' := 647) (lo' := [some (.ref v0), some (.ref v1), some (.ref v2), some (.int v3)]) (st' := [.int x81, .ref v1]) (o := ldA μ v0 (v3 + (xc 2))) rfl hx82 ?_
      obtain ⟨r83, hr83, h⟩ := Option.bind_eq_some_iff.mp h
      refine xr_callV (j := 15) (d' := (d + 13)) (rv1 := some (.int r83.1)) (μ1 := r83.2) (rest := []) (As := [.int x81, .int x82]) rfl rfl rfl rfl (Nat.le_of_ble_eq_true rfl) (fX_same_kd hr83) rfl (by exact (fX_same_ok (d := d + (0)) hr83)) ?_
      refine xr_go 5 (pc' := 655) (lo' := [some (.ref v0), some (.ref v1), some (.ref v2), some (.int v3)]) (st' := [.int (v3 + (xc 1)), .ref v0, .ref v2, .int r83.1]) (μ' := r83.2) rfl ?_
      obtain ⟨x84, hx84, h⟩ := Option.bind_eq_some_iff.mp h
      refine xr_opI (pc' := 656) (lo' := [some (.ref v0), some (.ref v1), some (.ref v2), some (.int v3)]) (st' := [.ref v2, .int r83.1]) (o := ldA r83.2 v0 (v3 + (xc 1))) rfl hx84 ?_
      refine xr_go 4 (pc' := 660) (lo' := [some (.ref v0), some (.ref v1), some (.ref v2), some (.int v3)]) (st' := [.int (v3 + (xc 2)), .ref v0, .int x84, .ref v2, .int r83.1]) (μ' := r83.2) rfl ?_
      obtain ⟨x85, hx85, h⟩ := Option.bind_eq_some_iff.mp h
      refine xr_opI (pc' := 661) (lo' := [some (.ref v0), some (.ref v1), some (.ref v2), some (.int v3)]) (st' := [.int x84, .ref v2, .int r83.1]) (o := ldA r83.2 v0 (v3 + (xc 2))) rfl hx85 ?_
      obtain ⟨r86, hr86, h⟩ := Option.bind_eq_some_iff.mp h
      refine xr_callV (j := 179) (d' := (d + 13)) (rv1 := some (.int r86.1)) (μ1 := r86.2) (rest := [.int r83.1]) (As := [.int x84, .int x85]) rfl rfl rfl rfl (Nat.le_of_ble_eq_true rfl) (fM_same_kd hr86) rfl (by exact (fM_same_ok (d := d + (8)) hr86)) ?_
      refine xr_icmp (pct := 1284) rfl rfl rfl (fun hc => ?_) (fun hc => ?_)
      · replace h := (if_pos (of_decide_eq_true hc)).symm.trans h
        refine xr_forget (lo := [some (.ref v0), some (.ref v1), some (.ref v2), some (.int v3)]) ⟨rfl, rfl, rfl, rfl, trivial⟩ ?_
        exact fLaw_law_1284_ok h hK
      · replace h := (if_neg (of_decide_eq_false hc)).symm.trans h
        refine xr_forget (lo := [none, none, none, none]) trivial ?_
        obtain ⟨o, h2, rfl⟩ := Option.map_eq_some_iff.mp h
        exact fLaw_law_667_ok h2 hK
    replace h := (if_neg hq14).symm.trans h
    by_cases hq15 : (x18 &&& (xc 63)) = xc 15
    · replace h := (if_pos hq15).symm.trans h
      refine xr_sw (v := xc 15) (pc' := 669) (lo' := [some (.ref v0), some (.ref v1), some (.ref v2), some (.int v3)]) (st' := []) (μ' := μ) hq15 rfl ?_
      refine xr_go 5 (pc' := 674) (lo' := [some (.ref v0), some (.ref v1), some (.ref v2), some (.int v3)]) (st' := [.int (v3 + (xc 1)), .ref v0, .ref v1]) (μ' := μ) rfl ?_
      obtain ⟨x87, hx87, h⟩ := Option.bind_eq_some_iff.mp h
      refine xr_opI (pc' := 675) (lo' := [some (.ref v0), some (.ref v1), some (.ref v2), some (.int v3)]) (st' := [.ref v1]) (o := ldA μ v0 (v3 + (xc 1))) rfl hx87 ?_
      obtain ⟨r88, hr88, h⟩ := Option.bind_eq_some_iff.mp h
      refine xr_callV (j := 16) (d' := (d + 13)) (rv1 := some (.int r88.1)) (μ1 := r88.2) (rest := []) (As := [.int x87]) rfl rfl rfl rfl (Nat.le_of_ble_eq_true rfl) (fX_shows_kd hr88) rfl (by exact (fX_shows_ok (d := d + (0)) hr88)) ?_
      refine xr_go 5 (pc' := 683) (lo' := [some (.ref v0), some (.ref v1), some (.ref v2), some (.int v3)]) (st' := [.int (v3 + (xc 1)), .ref v0, .ref v2, .int r88.1]) (μ' := r88.2) rfl ?_
      obtain ⟨x89, hx89, h⟩ := Option.bind_eq_some_iff.mp h
      refine xr_opI (pc' := 684) (lo' := [some (.ref v0), some (.ref v1), some (.ref v2), some (.int v3)]) (st' := [.ref v2, .int r88.1]) (o := ldA r88.2 v0 (v3 + (xc 1))) rfl hx89 ?_
      obtain ⟨r90, hr90, h⟩ := Option.bind_eq_some_iff.mp h
      refine xr_callV (j := 183) (d' := (d + 13)) (rv1 := some (.int r90.1)) (μ1 := r90.2) (rest := [.int r88.1]) (As := [.int x89]) rfl rfl rfl rfl (Nat.le_of_ble_eq_true rfl) (fM_shows_kd hr90) rfl (by exact (fM_shows_ok (d := d + (8)) hr90)) ?_
      refine xr_icmp (pct := 1284) rfl rfl rfl (fun hc => ?_) (fun hc => ?_)
      · replace h := (if_pos (of_decide_eq_true hc)).symm.trans h
        refine xr_forget (lo := [some (.ref v0), some (.ref v1), some (.ref v2), some (.int v3)]) ⟨rfl, rfl, rfl, rfl, trivial⟩ ?_
        exact fLaw_law_1284_ok h hK
      · replace h := (if_neg (of_decide_eq_false hc)).symm.trans h
        refine xr_forget (lo := [none, none, none, none]) trivial ?_
        obtain ⟨o, h2, rfl⟩ := Option.map_eq_some_iff.mp h
        exact fLaw_law_690_ok h2 hK
    replace h := (if_neg hq15).symm.trans h
    by_cases hq16 : (x18 &&& (xc 63)) = xc 16
    · replace h := (if_pos hq16).symm.trans h
      refine xr_sw (v := xc 16) (pc' := 692) (lo' := [some (.ref v0), some (.ref v1), some (.ref v2), some (.int v3)]) (st' := []) (μ' := μ) hq16 rfl ?_
      refine xr_go 5 (pc' := 697) (lo' := [some (.ref v0), some (.ref v1), some (.ref v2), some (.int v3)]) (st' := [.int (v3 + (xc 1)), .ref v0, .ref v1]) (μ' := μ) rfl ?_
      obtain ⟨x91, hx91, h⟩ := Option.bind_eq_some_iff.mp h
      refine xr_opI (pc' := 698) (lo' := [some (.ref v0), some (.ref v1), some (.ref v2), some (.int v3)]) (st' := [.ref v1]) (o := ldA μ v0 (v3 + (xc 1))) rfl hx91 ?_
      refine xr_go 4 (pc' := 702) (lo' := [some (.ref v0), some (.ref v1), some (.ref v2), some (.int v3)]) (st' := [.int (v3 + (xc 2)), .ref v0, .int x91, .ref v1]) (μ' := μ) rfl ?_
      obtain ⟨x92, hx92, h⟩ := Option.bind_eq_some_iff.mp h
      refine xr_opI (pc' := 703) (lo' := [some (.ref v0), some (.ref v1), some (.ref v2), some (.int v3)]) (st' := [.int x91, .ref v1]) (o := ldA μ v0 (v3 + (xc 2))) rfl hx92 ?_
      obtain ⟨r93, hr93, h⟩ := Option.bind_eq_some_iff.mp h
      refine xr_callV (j := 17) (d' := (d + 13)) (rv1 := some (.int r93.1)) (μ1 := r93.2) (rest := []) (As := [.int x91, .int x92]) rfl rfl rfl rfl (Nat.le_of_ble_eq_true rfl) (fX_show_kd hr93) rfl (by exact (fX_show_ok (d := d + (0)) hr93)) ?_
      refine xr_go 5 (pc' := 711) (lo' := [some (.ref v0), some (.ref v1), some (.ref v2), some (.int v3)]) (st' := [.int (v3 + (xc 1)), .ref v0, .ref v2, .int r93.1]) (μ' := r93.2) rfl ?_
      obtain ⟨x94, hx94, h⟩ := Option.bind_eq_some_iff.mp h
      refine xr_opI (pc' := 712) (lo' := [some (.ref v0), some (.ref v1), some (.ref v2), some (.int v3)]) (st' := [.ref v2, .int r93.1]) (o := ldA r93.2 v0 (v3 + (xc 1))) rfl hx94 ?_
      refine xr_go 4 (pc' := 716) (lo' := [some (.ref v0), some (.ref v1), some (.ref v2), some (.int v3)]) (st' := [.int (v3 + (xc 2)), .ref v0, .int x94, .ref v2, .int r93.1]) (μ' := r93.2) rfl ?_
      obtain ⟨x95, hx95, h⟩ := Option.bind_eq_some_iff.mp h
      refine xr_opI (pc' := 717) (lo' := [some (.ref v0), some (.ref v1), some (.ref v2), some (.int v3)]) (st' := [.int x94, .ref v2, .int r93.1]) (o := ldA r93.2 v0 (v3 + (xc 2))) rfl hx95 ?_
      obtain ⟨r96, hr96, h⟩ := Option.bind_eq_some_iff.mp h
      refine xr_callV (j := 184) (d' := (d + 13)) (rv1 := some (.int r96.1)) (μ1 := r96.2) (rest := [.int r93.1]) (As := [.int x94, .int x95]) rfl rfl rfl rfl (Nat.le_of_ble_eq_true rfl) (fM_show_kd hr96) rfl (by exact (fM_show_ok (d := d + (8)) hr96)) ?_
      refine xr_icmp (pct := 1284) rfl rfl rfl (fun hc => ?_) (fun hc => ?_)
      · replace h := (if_pos (of_decide_eq_true hc)).symm.trans h
        refine xr_forget (lo := [some (.ref v0), some (.ref v1), some (.ref v2), some (.int v3)]) ⟨rfl, rfl, rfl, rfl, trivial⟩ ?_
        exact fLaw_law_1284_ok h hK
      · replace h := (if_neg (of_decide_eq_false hc)).symm.trans h
        refine xr_forget (lo := [none, none, none, none]) trivial ?_
        obtain ⟨o, h2, rfl⟩ := Option.map_eq_some_iff.mp h
        exact fLaw_law_723_ok h2 hK
    replace h := (if_neg hq16).symm.trans h
    by_cases hq17 : (x18 &&& (xc 63)) = xc 17
    · replace h := (if_pos hq17).symm.trans h
      refine xr_sw (v := xc 17) (pc' := 725) (lo' := [some (.ref v0), some (.ref v1), some (.ref v2), some (.int v3)]) (st' := []) (μ' := μ) hq17 rfl ?_
      refine xr_go 5 (pc' := 730) (lo' := [some (.ref v0), some (.ref v1), some (.ref v2), some (.int v3)]) (st' := [.int (v3 + (xc 1)), .ref v0, .ref v1]) (μ' := μ) rfl ?_
      obtain ⟨x97, hx97, h⟩ := Option.bind_eq_some_iff.mp h
      refine xr_opI (pc' := 731) (lo' := [some (.ref v0), some (.ref v1), some (.ref v2), some (.int v3)]) (st' := [.ref v1]) (o := ldA μ v0 (v3 + (xc 1))) rfl hx97 ?_
      refine xr_go 4 (pc' := 735) (lo' := [some (.ref v0), some (.ref v1), some (.ref v2), some (.int v3)]) (st' := [.int (v3 + (xc 2)), .ref v0, .int x97, .ref v1]) (μ' := μ) rfl ?_
      obtain ⟨x98, hx98, h⟩ := Option.bind_eq_some_iff.mp h
      refine xr_opI (pc' := 736) (lo' := [some (.ref v0), some (.ref v1), some (.ref v2), some (.int v3)]) (st' := [.int x97, .ref v1]) (o := ldA μ v0 (v3 + (xc 2))) rfl hx98 ?_
      obtain ⟨r99, hr99, h⟩ := Option.bind_eq_some_iff.mp h
      refine xr_callV (j := 18) (d' := (d + 13)) (rv1 := some (.int r99.1)) (μ1 := r99.2) (rest := []) (As := [.int x97, .int x98]) rfl rfl rfl rfl (Nat.le_of_ble_eq_true rfl) (fX_cover_kd hr99) rfl (by exact (fX_cover_ok (d := d + (1)) hr99)) ?_
      refine xr_go 5 (pc' := 744) (lo' := [some (.ref v0), some (.ref v1), some (.ref v2), some (.int v3)]) (st' := [.int (v3 + (xc 1)), .ref v0, .ref v2, .int r99.1]) (μ' := r99.2) rfl ?_
      obtain ⟨x100, hx100, h⟩ := Option.bind_eq_some_iff.mp h
      refine xr_opI (pc' := 745) (lo' := [some (.ref v0), some (.ref v1), some (.ref v2), some (.int v3)]) (st' := [.ref v2, .int r99.1]) (o := ldA r99.2 v0 (v3 + (xc 1))) rfl hx100 ?_
      refine xr_go 4 (pc' := 749) (lo' := [some (.ref v0), some (.ref v1), some (.ref v2), some (.int v3)]) (st' := [.int (v3 + (xc 2)), .ref v0, .int x100, .ref v2, .int r99.1]) (μ' := r99.2) rfl ?_
      obtain ⟨x101, hx101, h⟩ := Option.bind_eq_some_iff.mp h
      refine xr_opI (pc' := 750) (lo' := [some (.ref v0), some (.ref v1), some (.ref v2), some (.int v3)]) (st' := [.int x100, .ref v2, .int r99.1]) (o := ldA r99.2 v0 (v3 + (xc 2))) rfl hx101 ?_
      obtain ⟨r102, hr102, h⟩ := Option.bind_eq_some_iff.mp h
      refine xr_callV (j := 191) (d' := (d + 13)) (rv1 := some (.int r102.1)) (μ1 := r102.2) (rest := [.int r99.1]) (As := [.int x100, .int x101]) rfl rfl rfl rfl (Nat.le_of_ble_eq_true rfl) (fM_cover_kd hr102) rfl (by exact (fM_cover_ok (d := d + (7)) hr102)) ?_
      refine xr_icmp (pct := 1284) rfl rfl rfl (fun hc => ?_) (fun hc => ?_)
      · replace h := (if_pos (of_decide_eq_true hc)).symm.trans h
        refine xr_forget (lo := [some (.ref v0), some (.ref v1), some (.ref v2), some (.int v3)]) ⟨rfl, rfl, rfl, rfl, trivial⟩ ?_
        exact fLaw_law_1284_ok h hK
      · replace h := (if_neg (of_decide_eq_false hc)).symm.trans h
        refine xr_forget (lo := [none, none, none, none]) trivial ?_
        obtain ⟨o, h2, rfl⟩ := Option.map_eq_some_iff.mp h
        exact fLaw_law_756_ok h2 hK
    replace h := (if_neg hq17).symm.trans h
    by_cases hq18 : (x18 &&& (xc 63)) = xc 18
    · replace h := (if_pos hq18).symm.trans h
      refine xr_sw (v := xc 18) (pc' := 758) (lo' := [some (.ref v0), some (.ref v1), some (.ref v2), some (.int v3)]) (st' := []) (μ' := μ) hq18 rfl ?_
      refine xr_go 5 (pc' := 763) (lo' := [some (.ref v0), some (.ref v1), some (.ref v2), some (.int v3)]) (st' := [.int (v3 + (xc 1)), .ref v0, .ref v1]) (μ' := μ) rfl ?_
      obtain ⟨x103, hx103, h⟩ := Option.bind_eq_some_iff.mp h
      refine xr_opI (pc' := 764) (lo' := [some (.ref v0), some (.ref v1), some (.ref v2), some (.int v3)]) (st' := [.ref v1]) (o := ldA μ v0 (v3 + (xc 1))) rfl hx103 ?_
      refine xr_go 4 (pc' := 768) (lo' := [some (.ref v0), some (.ref v1), some (.ref v2), some (.int v3)]) (st' := [.int (v3 + (xc 2)), .ref v0, .int x103, .ref v1]) (μ' := μ) rfl ?_
      obtain ⟨x104, hx104, h⟩ := Option.bind_eq_some_iff.mp h
      refine xr_opI (pc' := 769) (lo' := [some (.ref v0), some (.ref v1), some (.ref v2), some (.int v3)]) (st' := [.int x103, .ref v1]) (o := ldA μ v0 (v3 + (xc 2))) rfl hx104 ?_
      obtain ⟨r105, hr105, h⟩ := Option.bind_eq_some_iff.mp h
      refine xr_callV (j := 19) (d' := (d + 13)) (rv1 := some (.int r105.1)) (μ1 := r105.2) (rest := []) (As := [.int x103, .int x104]) rfl rfl rfl rfl (Nat.le_of_ble_eq_true rfl) (fX_covers_kd hr105) rfl (by exact (fX_covers_ok (d := d + (0)) hr105)) ?_
      refine xr_go 5 (pc' := 777) (lo' := [some (.ref v0), some (.ref v1), some (.ref v2), some (.int v3)]) (st' := [.int (v3 + (xc 1)), .ref v0, .ref v2, .int r105.1]) (μ' := r105.2) rfl ?_
      obtain ⟨x106, hx106, h⟩ := Option.bind_eq_some_iff.mp h
      refine xr_opI (pc' := 778) (lo' := [some (.ref v0), some (.ref v1), some (.ref v2), some (.int v3)]) (st' := [.ref v2, .int r105.1]) (o := ldA r105.2 v0 (v3 + (xc 1))) rfl hx106 ?_
      refine xr_go 4 (pc' := 782) (lo' := [some (.ref v0), some (.ref v1), some (.ref v2), some (.int v3)]) (st' := [.int (v3 + (xc 2)), .ref v0, .int x106, .ref v2, .int r105.1]) (μ' := r105.2) rfl ?_
      obtain ⟨x107, hx107, h⟩ := Option.bind_eq_some_iff.mp h
      refine xr_opI (pc' := 783) (lo' := [some (.ref v0), some (.ref v1), some (.ref v2), some (.int v3)]) (st' := [.int x106, .ref v2, .int r105.1]) (o := ldA r105.2 v0 (v3 + (xc 2))) rfl hx107 ?_
      obtain ⟨r108, hr108, h⟩ := Option.bind_eq_some_iff.mp h
      refine xr_callV (j := 192) (d' := (d + 13)) (rv1 := some (.int r108.1)) (μ1 := r108.2) (rest := [.int r105.1]) (As := [.int x106, .int x107]) rfl rfl rfl rfl (Nat.le_of_ble_eq_true rfl) (fM_covers_kd hr108) rfl (by exact (fM_covers_ok (d := d + (8)) hr108)) ?_
      refine xr_icmp (pct := 1284) rfl rfl rfl (fun hc => ?_) (fun hc => ?_)
      · replace h := (if_pos (of_decide_eq_true hc)).symm.trans h
        refine xr_forget (lo := [some (.ref v0), some (.ref v1), some (.ref v2), some (.int v3)]) ⟨rfl, rfl, rfl, rfl, trivial⟩ ?_
        exact fLaw_law_1284_ok h hK
      · replace h := (if_neg (of_decide_eq_false hc)).symm.trans h
        refine xr_forget (lo := [none, none, none, none]) trivial ?_
        obtain ⟨o, h2, rfl⟩ := Option.map_eq_some_iff.mp h
        exact fLaw_law_789_ok h2 hK
    replace h := (if_neg hq18).symm.trans h
    by_cases hq19 : (x18 &&& (xc 63)) = xc 19
    · replace h := (if_pos hq19).symm.trans h
      refine xr_sw (v := xc 19) (pc' := 791) (lo' := [some (.ref v0), some (.ref v1), some (.ref v2), some (.int v3)]) (st' := []) (μ' := μ) hq19 rfl ?_
      refine xr_go 5 (pc' := 796) (lo' := [some (.ref v0), some (.ref v1), some (.ref v2), some (.int v3)]) (st' := [.int (v3 + (xc 1)), .ref v0, .ref v1]) (μ' := μ) rfl ?_
      obtain ⟨x109, hx109, h⟩ := Option.bind_eq_some_iff.mp h
      refine xr_opI (pc' := 797) (lo' := [some (.ref v0), some (.ref v1), some (.ref v2), some (.int v3)]) (st' := [.ref v1]) (o := ldA μ v0 (v3 + (xc 1))) rfl hx109 ?_
      refine xr_go 4 (pc' := 801) (lo' := [some (.ref v0), some (.ref v1), some (.ref v2), some (.int v3)]) (st' := [.int (v3 + (xc 2)), .ref v0, .int x109, .ref v1]) (μ' := μ) rfl ?_
      obtain ⟨x110, hx110, h⟩ := Option.bind_eq_some_iff.mp h
      refine xr_opI (pc' := 802) (lo' := [some (.ref v0), some (.ref v1), some (.ref v2), some (.int v3)]) (st' := [.int x109, .ref v1]) (o := ldA μ v0 (v3 + (xc 2))) rfl hx110 ?_
      obtain ⟨r111, hr111, h⟩ := Option.bind_eq_some_iff.mp h
      refine xr_callV (j := 20) (d' := (d + 13)) (rv1 := some (.int r111.1)) (μ1 := r111.2) (rest := []) (As := [.int x109, .int x110]) rfl rfl rfl rfl (Nat.le_of_ble_eq_true rfl) (fX_may_kd hr111) rfl (by exact (fX_may_ok (d := d + (1)) hr111)) ?_
      refine xr_go 5 (pc' := 810) (lo' := [some (.ref v0), some (.ref v1), some (.ref v2), some (.int v3)]) (st' := [.int (v3 + (xc 1)), .ref v0, .ref v2, .int r111.1]) (μ' := r111.2) rfl ?_
      obtain ⟨x112, hx112, h⟩ := Option.bind_eq_some_iff.mp h
      refine xr_opI (pc' := 811) (lo' := [some (.ref v0), some (.ref v1), some (.ref v2), some (.int v3)]) (st' := [.ref v2, .int r111.1]) (o := ldA r111.2 v0 (v3 + (xc 1))) rfl hx112 ?_
      refine xr_go 4 (pc' := 815) (lo' := [some (.ref v0), some (.ref v1), some (.ref v2), some (.int v3)]) (st' := [.int (v3 + (xc 2)), .ref v0, .int x112, .ref v2, .int r111.1]) (μ' := r111.2) rfl ?_
      obtain ⟨x113, hx113, h⟩ := Option.bind_eq_some_iff.mp h
      refine xr_opI (pc' := 816) (lo' := [some (.ref v0), some (.ref v1), some (.ref v2), some (.int v3)]) (st' := [.int x112, .ref v2, .int r111.1]) (o := ldA r111.2 v0 (v3 + (xc 2))) rfl hx113 ?_
      obtain ⟨r114, hr114, h⟩ := Option.bind_eq_some_iff.mp h
      refine xr_callV (j := 195) (d' := (d + 13)) (rv1 := some (.int r114.1)) (μ1 := r114.2) (rest := [.int r111.1]) (As := [.int x112, .int x113]) rfl rfl rfl rfl (Nat.le_of_ble_eq_true rfl) (fM_may_kd hr114) rfl (by exact (fM_may_ok (d := d + (7)) hr114)) ?_
      refine xr_icmp (pct := 1284) rfl rfl rfl (fun hc => ?_) (fun hc => ?_)
      · replace h := (if_pos (of_decide_eq_true hc)).symm.trans h
        refine xr_forget (lo := [some (.ref v0), some (.ref v1), some (.ref v2), some (.int v3)]) ⟨rfl, rfl, rfl, rfl, trivial⟩ ?_
        exact fLaw_law_1284_ok h hK
      · replace h := (if_neg (of_decide_eq_false hc)).symm.trans h
        refine xr_forget (lo := [none, none, none, none]) trivial ?_
        obtain ⟨o, h2, rfl⟩ := Option.map_eq_some_iff.mp h
        exact fLaw_law_822_ok h2 hK
    replace h := (if_neg hq19).symm.trans h
    by_cases hq20 : (x18 &&& (xc 63)) = xc 20
    · replace h := (if_pos hq20).symm.trans h
      refine xr_sw (v := xc 20) (pc' := 824) (lo' := [some (.ref v0), some (.ref v1), some (.ref v2), some (.int v3)]) (st' := []) (μ' := μ) hq20 rfl ?_
      refine xr_go 5 (pc' := 829) (lo' := [some (.ref v0), some (.ref v1), some (.ref v2), some (.int v3)]) (st' := [.int (v3 + (xc 1)), .ref v0, .ref v1]) (μ' := μ) rfl ?_
      obtain ⟨x115, hx115, h⟩ := Option.bind_eq_some_iff.mp h
      refine xr_opI (pc' := 830) (lo' := [some (.ref v0), some (.ref v1), some (.ref v2), some (.int v3)]) (st' := [.ref v1]) (o := ldA μ v0 (v3 + (xc 1))) rfl hx115 ?_
      refine xr_go 4 (pc' := 834) (lo' := [some (.ref v0), some (.ref v1), some (.ref v2), some (.int v3)]) (st' := [.int (v3 + (xc 2)), .ref v0, .int x115, .ref v1]) (μ' := μ) rfl ?_
      obtain ⟨x116, hx116, h⟩ := Option.bind_eq_some_iff.mp h
      refine xr_opI (pc' := 835) (lo' := [some (.ref v0), some (.ref v1), some (.ref v2), some (.int v3)]) (st' := [.int x115, .ref v1]) (o := ldA μ v0 (v3 + (xc 2))) rfl hx116 ?_
      refine xr_ifc (pct := 842) rfl rfl rfl (fun hc => ?_) (fun hc => ?_)
      · replace h := (if_pos (of_decide_eq_true hc)).symm.trans h
        refine xr_go 1 (pc' := 843) (lo' := [some (.ref v0), some (.ref v1), some (.ref v2), some (.int v3)]) (st' := [.int (xc 0), .int x115, .ref v1]) (μ' := μ) rfl ?_
        refine xr_forget (lo := [some (.ref v0), some (.ref v1), some (.ref v2), some (.int v3)]) ⟨rfl, rfl, rfl, rfl, trivial⟩ ?_
        exact fLaw_law_843_ok h hK
      · replace h := (if_neg (of_decide_eq_false hc)).symm.trans h
        refine xr_go 2 (pc' := 843) (lo' := [some (.ref v0), some (.ref v1), some (.ref v2), some (.int v3)]) (st' := [.int (xc 1), .int x115, .ref v1]) (μ' := μ) rfl ?_
        refine xr_forget (lo := [some (.ref v0), some (.ref v1), some (.ref v2), some (.int v3)]) ⟨rfl, rfl, rfl, rfl, trivial⟩ ?_
        exact fLaw_law_843_ok h hK
    replace h := (if_neg hq20).symm.trans h
    by_cases hq21 : (x18 &&& (xc 63)) = xc 21
    · replace h := (if_pos hq21).symm.trans h
      refine xr_sw (v := xc 21) (pc' := 873) (lo' := [some (.ref v0), some (.ref v1), some (.ref v2), some (.int v3)]) (st' := []) (μ' := μ) hq21 rfl ?_
      refine xr_go 1 (pc' := 874) (lo' := [some (.ref v0), some (.ref v1), some (.ref v2), some (.int v3)]) (st' := [.ref v1]) (μ' := μ) rfl ?_
      obtain ⟨r117, hr117, h⟩ := Option.bind_eq_some_iff.mp h
      refine xr_callV (j := 22) (d' := (d + 13)) (rv1 := some (.int r117.1)) (μ1 := r117.2) (rest := []) (As := []) rfl rfl rfl rfl (Nat.le_of_ble_eq_true rfl) (fX_worlds_kd hr117) rfl (by exact (fX_worlds_ok (d := d + (7)) hr117)) ?_
      refine xr_go 1 (pc' := 878) (lo' := [some (.ref v0), some (.ref v1), some (.ref v2), some (.int v3)]) (st' := [.ref v2, .int r117.1]) (μ' := r117.2) rfl ?_
      obtain ⟨r118, hr118, h⟩ := Option.bind_eq_some_iff.mp h
      refine xr_callV (j := 198) (d' := (d + 13)) (rv1 := some (.int r118)) (μ1 := r117.2) (rest := [.int r117.1]) (As := []) rfl rfl rfl rfl (Nat.le_of_ble_eq_true rfl) (fM_worlds_kd hr118) rfl (by exact (fM_worlds_ok (d := d + (10)) hr118)) ?_
      refine xr_icmp (pct := 1284) rfl rfl rfl (fun hc => ?_) (fun hc => ?_)
      · replace h := (if_pos (of_decide_eq_true hc)).symm.trans h
        refine xr_forget (lo := [some (.ref v0), some (.ref v1), some (.ref v2), some (.int v3)]) ⟨rfl, rfl, rfl, rfl, trivial⟩ ?_
        exact fLaw_law_1284_ok h hK
      · replace h := (if_neg (of_decide_eq_false hc)).symm.trans h
        refine xr_forget (lo := [none, none, none, none]) trivial ?_
        obtain ⟨o, h2, rfl⟩ := Option.map_eq_some_iff.mp h
        exact fLaw_law_884_ok h2 hK
    replace h := (if_neg hq21).symm.trans h
    by_cases hq22 : (x18 &&& (xc 63)) = xc 22
    · replace h := (if_pos hq22).symm.trans h
      refine xr_sw (v := xc 22) (pc' := 886) (lo' := [some (.ref v0), some (.ref v1), some (.ref v2), some (.int v3)]) (st' := []) (μ' := μ) hq22 rfl ?_
      refine xr_go 5 (pc' := 891) (lo' := [some (.ref v0), some (.ref v1), some (.ref v2), some (.int v3)]) (st' := [.int (v3 + (xc 1)), .ref v0, .ref v1]) (μ' := μ) rfl ?_
      obtain ⟨x119, hx119, h⟩ := Option.bind_eq_some_iff.mp h
      refine xr_opI (pc' := 892) (lo' := [some (.ref v0), some (.ref v1), some (.ref v2), some (.int v3)]) (st' := [.ref v1]) (o := ldA μ v0 (v3 + (xc 1))) rfl hx119 ?_
      refine xr_go 4 (pc' := 896) (lo' := [some (.ref v0), some (.ref v1), some (.ref v2), some (.int v3)]) (st' := [.int (v3 + (xc 2)), .ref v0, .int x119, .ref v1]) (μ' := μ) rfl ?_
      obtain ⟨x120, hx120, h⟩ := Option.bind_eq_some_iff.mp h
      refine xr_opI (pc' := 897) (lo' := [some (.ref v0), some (.ref v1), some (.ref v2), some (.int v3)]) (st' := [.int x119, .ref v1]) (o := ldA μ v0 (v3 + (xc 2))) rfl hx120 ?_
      obtain ⟨r121, hr121, h⟩ := Option.bind_eq_some_iff.mp h
      refine xr_callV (j := 23) (d' := (d + 13)) (rv1 := some (.int r121.1)) (μ1 := r121.2) (rest := []) (As := [.int x119, .int x120]) rfl rfl rfl rfl (Nat.le_of_ble_eq_true rfl) (fX_sure_kd hr121) rfl (by exact (fX_sure_ok (d := d + (7)) hr121)) ?_
      refine xr_go 5 (pc' := 905) (lo' := [some (.ref v0), some (.ref v1), some (.ref v2), some (.int v3)]) (st' := [.int (v3 + (xc 1)), .ref v0, .ref v2, .int r121.1]) (μ' := r121.2) rfl ?_
      obtain ⟨x122, hx122, h⟩ := Option.bind_eq_some_iff.mp h
      refine xr_opI (pc' := 906) (lo' := [some (.ref v0), some (.ref v1), some (.ref v2), some (.int v3)]) (st' := [.ref v2, .int r121.1]) (o := ldA r121.2 v0 (v3 + (xc 1))) rfl hx122 ?_
      refine xr_go 4 (pc' := 910) (lo' := [some (.ref v0), some (.ref v1), some (.ref v2), some (.int v3)]) (st' := [.int (v3 + (xc 2)), .ref v0, .int x122, .ref v2, .int r121.1]) (μ' := r121.2) rfl ?_
      obtain ⟨x123, hx123, h⟩ := Option.bind_eq_some_iff.mp h
      refine xr_opI (pc' := 911) (lo' := [some (.ref v0), some (.ref v1), some (.ref v2), some (.int v3)]) (st' := [.int x122, .ref v2, .int r121.1]) (o := ldA r121.2 v0 (v3 + (xc 2))) rfl hx123 ?_
      obtain ⟨r124, hr124, h⟩ := Option.bind_eq_some_iff.mp h
      refine xr_callV (j := 200) (d' := (d + 13)) (rv1 := some (.int r124.1)) (μ1 := r124.2) (rest := [.int r121.1]) (As := [.int x122, .int x123]) rfl rfl rfl rfl (Nat.le_of_ble_eq_true rfl) (fM_sure_kd hr124) rfl (by exact (fM_sure_ok (d := d + (9)) hr124)) ?_
      refine xr_icmp (pct := 1284) rfl rfl rfl (fun hc => ?_) (fun hc => ?_)
      · replace h := (if_pos (of_decide_eq_true hc)).symm.trans h
        refine xr_forget (lo := [some (.ref v0), some (.ref v1), some (.ref v2), some (.int v3)]) ⟨rfl, rfl, rfl, rfl, trivial⟩ ?_
        exact fLaw_law_1284_ok h hK
      · replace h := (if_neg (of_decide_eq_false hc)).symm.trans h
        refine xr_forget (lo := [none, none, none, none]) trivial ?_
        obtain ⟨o, h2, rfl⟩ := Option.map_eq_some_iff.mp h
        exact fLaw_law_917_ok h2 hK
    replace h := (if_neg hq22).symm.trans h
    by_cases hq23 : (x18 &&& (xc 63)) = xc 23
    · replace h := (if_pos hq23).symm.trans h
      refine xr_sw (v := xc 23) (pc' := 919) (lo' := [some (.ref v0), some (.ref v1), some (.ref v2), some (.int v3)]) (st' := []) (μ' := μ) hq23 rfl ?_
      refine xr_go 5 (pc' := 924) (lo' := [some (.ref v0), some (.ref v1), some (.ref v2), some (.int v3)]) (st' := [.int (v3 + (xc 1)), .ref v0, .ref v1]) (μ' := μ) rfl ?_
      obtain ⟨x125, hx125, h⟩ := Option.bind_eq_some_iff.mp h
      refine xr_opI (pc' := 925) (lo' := [some (.ref v0), some (.ref v1), some (.ref v2), some (.int v3)]) (st' := [.ref v1]) (o := ldA μ v0 (v3 + (xc 1))) rfl hx125 ?_
      obtain ⟨r126, hr126, h⟩ := Option.bind_eq_some_iff.mp h
      refine xr_callV (j := 24) (d' := (d + 13)) (rv1 := some (.int r126.1)) (μ1 := r126.2) (rest := []) (As := [.int x125]) rfl rfl rfl rfl (Nat.le_of_ble_eq_true rfl) (fX_besides_kd hr126) rfl (by exact (fX_besides_ok (d := d + (7)) hr126)) ?_
      refine xr_go 5 (pc' := 933) (lo' := [some (.ref v0), some (.ref v1), some (.ref v2), some (.int v3)]) (st' := [.int (v3 + (xc 1)), .ref v0, .ref v2, .int r126.1]) (μ' := r126.2) rfl ?_
      obtain ⟨x127, hx127, h⟩ := Option.bind_eq_some_iff.mp h
      refine xr_opI (pc' := 934) (lo' := [some (.ref v0), some (.ref v1), some (.ref v2), some (.int v3)]) (st' := [.ref v2, .int r126.1]) (o := ldA r126.2 v0 (v3 + (xc 1))) rfl hx127 ?_
      obtain ⟨r128, hr128, h⟩ := Option.bind_eq_some_iff.mp h
      refine xr_callV (j := 201) (d' := (d + 13)) (rv1 := some (.int r128.1)) (μ1 := r128.2) (rest := [.int r126.1]) (As := [.int x127]) rfl rfl rfl rfl (Nat.le_of_ble_eq_true rfl) (fM_besides_kd hr128) rfl (by exact (fM_besides_ok (d := d + (10)) hr128)) ?_
      refine xr_icmp (pct := 1284) rfl rfl rfl (fun hc => ?_) (fun hc => ?_)
      · replace h := (if_pos (of_decide_eq_true hc)).symm.trans h
        refine xr_forget (lo := [some (.ref v0), some (.ref v1), some (.ref v2), some (.int v3)]) ⟨rfl, rfl, rfl, rfl, trivial⟩ ?_
        exact fLaw_law_1284_ok h hK
      · replace h := (if_neg (of_decide_eq_false hc)).symm.trans h
        refine xr_forget (lo := [none, none, none, none]) trivial ?_
        obtain ⟨o, h2, rfl⟩ := Option.map_eq_some_iff.mp h
        exact fLaw_law_940_ok h2 hK
    replace h := (if_neg hq23).symm.trans h
    by_cases hq24 : (x18 &&& (xc 63)) = xc 24
    · replace h := (if_pos hq24).symm.trans h
      refine xr_sw (v := xc 24) (pc' := 942) (lo' := [some (.ref v0), some (.ref v1), some (.ref v2), some (.int v3)]) (st' := []) (μ' := μ) hq24 rfl ?_
      refine xr_go 5 (pc' := 947) (lo' := [some (.ref v0), some (.ref v1), some (.ref v2), some (.int v3)]) (st' := [.int (v3 + (xc 1)), .ref v0, .ref v1]) (μ' := μ) rfl ?_
      obtain ⟨x129, hx129, h⟩ := Option.bind_eq_some_iff.mp h
      refine xr_opI (pc' := 948) (lo' := [some (.ref v0), some (.ref v1), some (.ref v2), some (.int v3)]) (st' := [.ref v1]) (o := ldA μ v0 (v3 + (xc 1))) rfl hx129 ?_
      refine xr_go 4 (pc' := 952) (lo' := [some (.ref v0), some (.ref v1), some (.ref v2), some (.int v3)]) (st' := [.int (v3 + (xc 2)), .ref v0, .int x129, .ref v1]) (μ' := μ) rfl ?_
      obtain ⟨x130, hx130, h⟩ := Option.bind_eq_some_iff.mp h
      refine xr_opI (pc' := 953) (lo' := [some (.ref v0), some (.ref v1), some (.ref v2), some (.int v3)]) (st' := [.int x129, .ref v1]) (o := ldA μ v0 (v3 + (xc 2))) rfl hx130 ?_
      obtain ⟨r131, hr131, h⟩ := Option.bind_eq_some_iff.mp h
      refine xr_callV (j := 25) (d' := (d + 13)) (rv1 := some (.int r131.1)) (μ1 := r131.2) (rest := []) (As := [.int x129, .int x130]) rfl rfl rfl rfl (Nat.le_of_ble_eq_true rfl) (fX_weight_kd hr131) rfl (by exact (fX_weight_ok (d := d + (12)) hr131)) ?_
      refine xr_go 5 (pc' := 961) (lo' := [some (.ref v0), some (.ref v1), some (.ref v2), some (.int v3)]) (st' := [.int (v3 + (xc 1)), .ref v0, .ref v2, .int r131.1]) (μ' := r131.2) rfl ?_
      obtain ⟨x132, hx132, h⟩ := Option.bind_eq_some_iff.mp h
      refine xr_opI (pc' := 962) (lo' := [some (.ref v0), some (.ref v1), some (.ref v2), some (.int v3)]) (st' := [.ref v2, .int r131.1]) (o := ldA r131.2 v0 (v3 + (xc 1))) rfl hx132 ?_
      refine xr_go 4 (pc' := 966) (lo' := [some (.ref v0), some (.ref v1), some (.ref v2), some (.int v3)]) (st' := [.int (v3 + (xc 2)), .ref v0, .int x132, .ref v2, .int r131.1]) (μ' := r131.2) rfl ?_
      obtain ⟨x133, hx133, h⟩ := Option.bind_eq_some_iff.mp h
      refine xr_opI (pc' := 967) (lo' := [some (.ref v0), some (.ref v1), some (.ref v2), some (.int v3)]) (st' := [.int x132, .ref v2, .int r131.1]) (o := ldA r131.2 v0 (v3 + (xc 2))) rfl hx133 ?_
      obtain ⟨r134, hr134, h⟩ := Option.bind_eq_some_iff.mp h
      refine xr_callV (j := 203) (d' := (d + 13)) (rv1 := some (.int r134.1)) (μ1 := r134.2) (rest := [.int r131.1]) (As := [.int x132, .int x133]) rfl rfl rfl rfl (Nat.le_of_ble_eq_true rfl) (fM_weight_kd hr134) rfl (by exact (fM_weight_ok (d := d + (11)) hr134)) ?_
      refine xr_icmp (pct := 1284) rfl rfl rfl (fun hc => ?_) (fun hc => ?_)
      · replace h := (if_pos (of_decide_eq_true hc)).symm.trans h
        refine xr_forget (lo := [some (.ref v0), some (.ref v1), some (.ref v2), some (.int v3)]) ⟨rfl, rfl, rfl, rfl, trivial⟩ ?_
        exact fLaw_law_1284_ok h hK
      · replace h := (if_neg (of_decide_eq_false hc)).symm.trans h
        refine xr_forget (lo := [none, none, none, none]) trivial ?_
        obtain ⟨o, h2, rfl⟩ := Option.map_eq_some_iff.mp h
        exact fLaw_law_973_ok h2 hK
    replace h := (if_neg hq24).symm.trans h
    by_cases hq25 : (x18 &&& (xc 63)) = xc 25
    · replace h := (if_pos hq25).symm.trans h
      refine xr_sw (v := xc 25) (pc' := 975) (lo' := [some (.ref v0), some (.ref v1), some (.ref v2), some (.int v3)]) (st' := []) (μ' := μ) hq25 rfl ?_
      refine xr_go 5 (pc' := 980) (lo' := [some (.ref v0), some (.ref v1), some (.ref v2), some (.int v3)]) (st' := [.int (v3 + (xc 1)), .ref v0, .ref v1]) (μ' := μ) rfl ?_
      obtain ⟨x135, hx135, h⟩ := Option.bind_eq_some_iff.mp h
      refine xr_opI (pc' := 981) (lo' := [some (.ref v0), some (.ref v1), some (.ref v2), some (.int v3)]) (st' := [.ref v1]) (o := ldA μ v0 (v3 + (xc 1))) rfl hx135 ?_
      refine xr_go 4 (pc' := 985) (lo' := [some (.ref v0), some (.ref v1), some (.ref v2), some (.int v3)]) (st' := [.int (v3 + (xc 2)), .ref v0, .int x135, .ref v1]) (μ' := μ) rfl ?_
      obtain ⟨x136, hx136, h⟩ := Option.bind_eq_some_iff.mp h
      refine xr_opI (pc' := 986) (lo' := [some (.ref v0), some (.ref v1), some (.ref v2), some (.int v3)]) (st' := [.int x135, .ref v1]) (o := ldA μ v0 (v3 + (xc 2))) rfl hx136 ?_
      refine xr_go 4 (pc' := 990) (lo' := [some (.ref v0), some (.ref v1), some (.ref v2), some (.int v3)]) (st' := [.int (v3 + (xc 3)), .ref v0, .int x136, .int x135, .ref v1]) (μ' := μ) rfl ?_
      obtain ⟨x137, hx137, h⟩ := Option.bind_eq_some_iff.mp h
      refine xr_opI (pc' := 991) (lo' := [some (.ref v0), some (.ref v1), some (.ref v2), some (.int v3)]) (st' := [.int x136, .int x135, .ref v1]) (o := ldA μ v0 (v3 + (xc 3))) rfl hx137 ?_
      obtain ⟨r138, hr138, h⟩ := Option.bind_eq_some_iff.mp h
      refine xr_callV (j := 26) (d' := (d + 13)) (rv1 := some (.int r138.1)) (μ1 := r138.2) (rest := []) (As := [.int x135, .int x136, .int x137]) rfl rfl rfl rfl (Nat.le_of_ble_eq_true rfl) (fX_size_kd hr138) rfl (by exact (fX_size_ok (d := d + (12)) hr138)) ?_
      refine xr_go 5 (pc' := 999) (lo' := [some (.ref v0), some (.ref v1), some (.ref v2), some (.int v3)]) (st' := [.int (v3 + (xc 1)), .ref v0, .ref v2, .int r138.1]) (μ' := r138.2) rfl ?_
      obtain ⟨x139, hx139, h⟩ := Option.bind_eq_some_iff.mp h
      refine xr_opI (pc' := 1000) (lo' := [some (.ref v0), some (.ref v1), some (.ref v2), some (.int v3)]) (st' := [.ref v2, .int r138.1]) (o := ldA r138.2 v0 (v3 + (xc 1))) rfl hx139 ?_
      refine xr_go 4 (pc' := 1004) (lo' := [some (.ref v0), some (.ref v1), some (.ref v2), some (.int v3)]) (st' := [.int (v3 + (xc 2)), .ref v0, .int x139, .ref v2, .int r138.1]) (μ' := r138.2) rfl ?_
      obtain ⟨x140, hx140, h⟩ := Option.bind_eq_some_iff.mp h
      refine xr_opI (pc' := 1005) (lo' := [some (.ref v0), some (.ref v1), some (.ref v2), some (.int v3)]) (st' := [.int x139, .ref v2, .int r138.1]) (o := ldA r138.2 v0 (v3 + (xc 2))) rfl hx140 ?_
      refine xr_go 4 (pc' := 1009) (lo' := [some (.ref v0), some (.ref v1), some (.ref v2), some (.int v3)]) (st' := [.int (v3 + (xc 3)), .ref v0, .int x140, .int x139, .ref v2, .int r138.1]) (μ' := r138.2) rfl ?_
      obtain ⟨x141, hx141, h⟩ := Option.bind_eq_some_iff.mp h
      refine xr_opI (pc' := 1010) (lo' := [some (.ref v0), some (.ref v1), some (.ref v2), some (.int v3)]) (st' := [.int x140, .int x139, .ref v2, .int r138.1]) (o := ldA r138.2 v0 (v3 + (xc 3))) rfl hx141 ?_
      obtain ⟨r142, hr142, h⟩ := Option.bind_eq_some_iff.mp h
      refine xr_callV (j := 204) (d' := (d + 13)) (rv1 := some (.int r142.1)) (μ1 := r142.2) (rest := [.int r138.1]) (As := [.int x139, .int x140, .int x141]) rfl rfl rfl rfl (Nat.le_of_ble_eq_true rfl) (fM_size_kd hr142) rfl (by exact (fM_size_ok (d := d + (11)) hr142)) ?_
      refine xr_icmp (pct := 1284) rfl rfl rfl (fun hc => ?_) (fun hc => ?_)
      · replace h := (if_pos (of_decide_eq_true hc)).symm.trans h
        refine xr_forget (lo := [some (.ref v0), some (.ref v1), some (.ref v2), some (.int v3)]) ⟨rfl, rfl, rfl, rfl, trivial⟩ ?_
        exact fLaw_law_1284_ok h hK
      · replace h := (if_neg (of_decide_eq_false hc)).symm.trans h
        refine xr_forget (lo := [none, none, none, none]) trivial ?_
        obtain ⟨o, h2, rfl⟩ := Option.map_eq_some_iff.mp h
        exact fLaw_law_1016_ok h2 hK
    replace h := (if_neg hq25).symm.trans h
    by_cases hq26 : (x18 &&& (xc 63)) = xc 26
    · replace h := (if_pos hq26).symm.trans h
      refine xr_sw (v := xc 26) (pc' := 1018) (lo' := [some (.ref v0), some (.ref v1), some (.ref v2), some (.int v3)]) (st' := []) (μ' := μ) hq26 rfl ?_
      refine xr_go 5 (pc' := 1023) (lo' := [some (.ref v0), some (.ref v1), some (.ref v2), some (.int v3)]) (st' := [.int (v3 + (xc 1)), .ref v0, .ref v1]) (μ' := μ) rfl ?_
      obtain ⟨x143, hx143, h⟩ := Option.bind_eq_some_iff.mp h
      refine xr_opI (pc' := 1024) (lo' := [some (.ref v0), some (.ref v1), some (.ref v2), some (.int v3)]) (st' := [.ref v1]) (o := ldA μ v0 (v3 + (xc 1))) rfl hx143 ?_
      refine xr_go 4 (pc' := 1028) (lo' := [some (.ref v0), some (.ref v1), some (.ref v2), some (.int v3)]) (st' := [.int (v3 + (xc 2)), .ref v0, .int x143, .ref v1]) (μ' := μ) rfl ?_
      obtain ⟨x144, hx144, h⟩ := Option.bind_eq_some_iff.mp h
      refine xr_opI (pc' := 1029) (lo' := [some (.ref v0), some (.ref v1), some (.ref v2), some (.int v3)]) (st' := [.int x143, .ref v1]) (o := ldA μ v0 (v3 + (xc 2))) rfl hx144 ?_
      obtain ⟨r145, hr145, h⟩ := Option.bind_eq_some_iff.mp h
      refine xr_callV (j := 27) (d' := (d + 13)) (rv1 := some (.int r145.1)) (μ1 := r145.2) (rest := []) (As := [.int x143, .int x144]) rfl rfl rfl rfl (Nat.le_of_ble_eq_true rfl) (fX_set_kd hr145) rfl (by exact (fX_set_ok (d := d + (12)) hr145)) ?_
      refine xr_go 5 (pc' := 1037) (lo' := [some (.ref v0), some (.ref v1), some (.ref v2), some (.int v3)]) (st' := [.int (v3 + (xc 1)), .ref v0, .ref v2, .int r145.1]) (μ' := r145.2) rfl ?_
      obtain ⟨x146, hx146, h⟩ := Option.bind_eq_some_iff.mp h
      refine xr_opI (pc' := 1038) (lo' := [some (.ref v0), some (.ref v1), some (.ref v2), some (.int v3)]) (st' := [.ref v2, .int r145.1]) (o := ldA r145.2 v0 (v3 + (xc 1))) rfl hx146 ?_
      refine xr_go 4 (pc' := 1042) (lo' := [some (.ref v0), some (.ref v1), some (.ref v2), some (.int v3)]) (st' := [.int (v3 + (xc 2)), .ref v0, .int x146, .ref v2, .int r145.1]) (μ' := r145.2) rfl ?_
      obtain ⟨x147, hx147, h⟩ := Option.bind_eq_some_iff.mp h
      refine xr_opI (pc' := 1043) (lo' := [some (.ref v0), some (.ref v1), some (.ref v2), some (.int v3)]) (st' := [.int x146, .ref v2, .int r145.1]) (o := ldA r145.2 v0 (v3 + (xc 2))) rfl hx147 ?_
      obtain ⟨r148, hr148, h⟩ := Option.bind_eq_some_iff.mp h
      refine xr_callV (j := 205) (d' := (d + 13)) (rv1 := some (.int r148.1)) (μ1 := r148.2) (rest := [.int r145.1]) (As := [.int x146, .int x147]) rfl rfl rfl rfl (Nat.le_of_ble_eq_true rfl) (fM_set_kd hr148) rfl (by exact (fM_set_ok (d := d + (12)) hr148)) ?_
      refine xr_icmp (pct := 1284) rfl rfl rfl (fun hc => ?_) (fun hc => ?_)
      · replace h := (if_pos (of_decide_eq_true hc)).symm.trans h
        refine xr_forget (lo := [some (.ref v0), some (.ref v1), some (.ref v2), some (.int v3)]) ⟨rfl, rfl, rfl, rfl, trivial⟩ ?_
        exact fLaw_law_1284_ok h hK
      · replace h := (if_neg (of_decide_eq_false hc)).symm.trans h
        refine xr_forget (lo := [none, none, none, none]) trivial ?_
        obtain ⟨o, h2, rfl⟩ := Option.map_eq_some_iff.mp h
        exact fLaw_law_1049_ok h2 hK
    replace h := (if_neg hq26).symm.trans h
    by_cases hq27 : (x18 &&& (xc 63)) = xc 27
    · replace h := (if_pos hq27).symm.trans h
      refine xr_sw (v := xc 27) (pc' := 1051) (lo' := [some (.ref v0), some (.ref v1), some (.ref v2), some (.int v3)]) (st' := []) (μ' := μ) hq27 rfl ?_
      refine xr_go 5 (pc' := 1056) (lo' := [some (.ref v0), some (.ref v1), some (.ref v2), some (.int v3)]) (st' := [.int (v3 + (xc 1)), .ref v0, .ref v1]) (μ' := μ) rfl ?_
      obtain ⟨x149, hx149, h⟩ := Option.bind_eq_some_iff.mp h
      refine xr_opI (pc' := 1057) (lo' := [some (.ref v0), some (.ref v1), some (.ref v2), some (.int v3)]) (st' := [.ref v1]) (o := ldA μ v0 (v3 + (xc 1))) rfl hx149 ?_
      obtain ⟨r150, hr150, h⟩ := Option.bind_eq_some_iff.mp h
      refine xr_callV (j := 28) (d' := (d + 13)) (rv1 := some (.int r150.1)) (μ1 := r150.2) (rest := []) (As := [.int x149]) rfl rfl rfl rfl (Nat.le_of_ble_eq_true rfl) (fX_cost_kd hr150) rfl (by exact (fX_cost_ok (d := d + (0)) hr150)) ?_
      refine xr_go 5 (pc' := 1065) (lo' := [some (.ref v0), some (.ref v1), some (.ref v2), some (.int v3)]) (st' := [.int (v3 + (xc 1)), .ref v0, .ref v2, .int r150.1]) (μ' := r150.2) rfl ?_
      obtain ⟨x151, hx151, h⟩ := Option.bind_eq_some_iff.mp h
      refine xr_opI (pc' := 1066) (lo' := [some (.ref v0), some (.ref v1), some (.ref v2), some (.int v3)]) (st' := [.ref v2, .int r150.1]) (o := ldA r150.2 v0 (v3 + (xc 1))) rfl hx151 ?_
      obtain ⟨r152, hr152, h⟩ := Option.bind_eq_some_iff.mp h
      refine xr_callV (j := 208) (d' := (d + 13)) (rv1 := some (.int r152.1)) (μ1 := r152.2) (rest := [.int r150.1]) (As := [.int x151]) rfl rfl rfl rfl (Nat.le_of_ble_eq_true rfl) (fM_cost_kd hr152) rfl (by exact (fM_cost_ok (d := d + (6)) hr152)) ?_
      refine xr_icmp (pct := 1284) rfl rfl rfl (fun hc => ?_) (fun hc => ?_)
      · replace h := (if_pos (of_decide_eq_true hc)).symm.trans h
        refine xr_forget (lo := [some (.ref v0), some (.ref v1), some (.ref v2), some (.int v3)]) ⟨rfl, rfl, rfl, rfl, trivial⟩ ?_
        exact fLaw_law_1284_ok h hK
      · replace h := (if_neg (of_decide_eq_false hc)).symm.trans h
        refine xr_forget (lo := [none, none, none, none]) trivial ?_
        obtain ⟨o, h2, rfl⟩ := Option.map_eq_some_iff.mp h
        exact fLaw_law_1072_ok h2 hK
    replace h := (if_neg hq27).symm.trans h
    by_cases hq28 : (x18 &&& (xc 63)) = xc 28
    · replace h := (if_pos hq28).symm.trans h
      refine xr_sw (v := xc 28) (pc' := 1074) (lo' := [some (.ref v0), some (.ref v1), some (.ref v2), some (.int v3)]) (st' := []) (μ' := μ) hq28 rfl ?_
      refine xr_go 5 (pc' := 1079) (lo' := [some (.ref v0), some (.ref v1), some (.ref v2), some (.int v3)]) (st' := [.int (v3 + (xc 1)), .ref v0, .ref v1]) (μ' := μ) rfl ?_
      obtain ⟨x153, hx153, h⟩ := Option.bind_eq_some_iff.mp h
      refine xr_opI (pc' := 1080) (lo' := [some (.ref v0), some (.ref v1), some (.ref v2), some (.int v3)]) (st' := [.ref v1]) (o := ldA μ v0 (v3 + (xc 1))) rfl hx153 ?_
      obtain ⟨r154, hr154, h⟩ := Option.bind_eq_some_iff.mp h
      refine xr_callV (j := 29) (d' := (d + 13)) (rv1 := some (.int r154.1)) (μ1 := r154.2) (rest := []) (As := [.int x153]) rfl rfl rfl rfl (Nat.le_of_ble_eq_true rfl) (fX_which_kd hr154) rfl (by exact (fX_which_ok (d := d + (0)) hr154)) ?_
      refine xr_go 5 (pc' := 1088) (lo' := [some (.ref v0), some (.ref v1), some (.ref v2), some (.int v3)]) (st' := [.int (v3 + (xc 1)), .ref v0, .ref v2, .int r154.1]) (μ' := r154.2) rfl ?_
      obtain ⟨x155, hx155, h⟩ := Option.bind_eq_some_iff.mp h
      refine xr_opI (pc' := 1089) (lo' := [some (.ref v0), some (.ref v1), some (.ref v2), some (.int v3)]) (st' := [.ref v2, .int r154.1]) (o := ldA r154.2 v0 (v3 + (xc 1))) rfl hx155 ?_
      obtain ⟨r156, hr156, h⟩ := Option.bind_eq_some_iff.mp h
      refine xr_callV (j := 210) (d' := (d + 13)) (rv1 := some (.int r156.1)) (μ1 := r156.2) (rest := [.int r154.1]) (As := [.int x155]) rfl rfl rfl rfl (Nat.le_of_ble_eq_true rfl) (fM_which_kd hr156) rfl (by exact (fM_which_ok (d := d + (6)) hr156)) ?_
      refine xr_icmp (pct := 1284) rfl rfl rfl (fun hc => ?_) (fun hc => ?_)
      · replace h := (if_pos (of_decide_eq_true hc)).symm.trans h
        refine xr_forget (lo := [some (.ref v0), some (.ref v1), some (.ref v2), some (.int v3)]) ⟨rfl, rfl, rfl, rfl, trivial⟩ ?_
        exact fLaw_law_1284_ok h hK
      · replace h := (if_neg (of_decide_eq_false hc)).symm.trans h
        refine xr_forget (lo := [none, none, none, none]) trivial ?_
        obtain ⟨o, h2, rfl⟩ := Option.map_eq_some_iff.mp h
        exact fLaw_law_1095_ok h2 hK
    replace h := (if_neg hq28).symm.trans h
    by_cases hq29 : (x18 &&& (xc 63)) = xc 29
    · replace h := (if_pos hq29).symm.trans h
      refine xr_sw (v := xc 29) (pc' := 1097) (lo' := [some (.ref v0), some (.ref v1), some (.ref v2), some (.int v3)]) (st' := []) (μ' := μ) hq29 rfl ?_
      refine xr_go 5 (pc' := 1102) (lo' := [some (.ref v0), some (.ref v1), some (.ref v2), some (.int v3)]) (st' := [.int (v3 + (xc 1)), .ref v0, .ref v1]) (μ' := μ) rfl ?_
      obtain ⟨x157, hx157, h⟩ := Option.bind_eq_some_iff.mp h
      refine xr_opI (pc' := 1103) (lo' := [some (.ref v0), some (.ref v1), some (.ref v2), some (.int v3)]) (st' := [.ref v1]) (o := ldA μ v0 (v3 + (xc 1))) rfl hx157 ?_
      refine xr_go 4 (pc' := 1107) (lo' := [some (.ref v0), some (.ref v1), some (.ref v2), some (.int v3)]) (st' := [.int (v3 + (xc 2)), .ref v0, .int x157, .ref v1]) (μ' := μ) rfl ?_
      obtain ⟨x158, hx158, h⟩ := Option.bind_eq_some_iff.mp h
      refine xr_opI (pc' := 1108) (lo' := [some (.ref v0), some (.ref v1), some (.ref v2), some (.int v3)]) (st' := [.int x157, .ref v1]) (o := ldA μ v0 (v3 + (xc 2))) rfl hx158 ?_
      refine xr_go 4 (pc' := 1112) (lo' := [some (.ref v0), some (.ref v1), some (.ref v2), some (.int v3)]) (st' := [.int (v3 + (xc 3)), .ref v0, .int x158, .int x157, .ref v1]) (μ' := μ) rfl ?_
      obtain ⟨x159, hx159, h⟩ := Option.bind_eq_some_iff.mp h
      refine xr_opI (pc' := 1113) (lo' := [some (.ref v0), some (.ref v1), some (.ref v2), some (.int v3)]) (st' := [.int x158, .int x157, .ref v1]) (o := ldA μ v0 (v3 + (xc 3))) rfl hx159 ?_
      obtain ⟨r160, hr160, h⟩ := Option.bind_eq_some_iff.mp h
      refine xr_callV (j := 30) (d' := (d + 13)) (rv1 := some (.int r160.1)) (μ1 := r160.2) (rest := []) (As := [.int x157, .int x158, .int x159]) rfl rfl rfl rfl (Nat.le_of_ble_eq_true rfl) (fX_hours_kd hr160) rfl (by exact (fX_hours_ok (d := d + (12)) hr160)) ?_
      refine xr_go 5 (pc' := 1121) (lo' := [some (.ref v0), some (.ref v1), some (.ref v2), some (.int v3)]) (st' := [.int (v3 + (xc 1)), .ref v0, .ref v2, .int r160.1]) (μ' := r160.2) rfl ?_
      obtain ⟨x161, hx161, h⟩ := Option.bind_eq_some_iff.mp h
      refine xr_opI (pc' := 1122) (lo' := [some (.ref v0), some (.ref v1), some (.ref v2), some (.int v3)]) (st' := [.ref v2, .int r160.1]) (o := ldA r160.2 v0 (v3 + (xc 1))) rfl hx161 ?_
      refine xr_go 4 (pc' := 1126) (lo' := [some (.ref v0), some (.ref v1), some (.ref v2), some (.int v3)]) (st' := [.int (v3 + (xc 2)), .ref v0, .int x161, .ref v2, .int r160.1]) (μ' := r160.2) rfl ?_
      obtain ⟨x162, hx162, h⟩ := Option.bind_eq_some_iff.mp h
      refine xr_opI (pc' := 1127) (lo' := [some (.ref v0), some (.ref v1), some (.ref v2), some (.int v3)]) (st' := [.int x161, .ref v2, .int r160.1]) (o := ldA r160.2 v0 (v3 + (xc 2))) rfl hx162 ?_
      refine xr_go 4 (pc' := 1131) (lo' := [some (.ref v0), some (.ref v1), some (.ref v2), some (.int v3)]) (st' := [.int (v3 + (xc 3)), .ref v0, .int x162, .int x161, .ref v2, .int r160.1]) (μ' := r160.2) rfl ?_
      obtain ⟨x163, hx163, h⟩ := Option.bind_eq_some_iff.mp h
      refine xr_opI (pc' := 1132) (lo' := [some (.ref v0), some (.ref v1), some (.ref v2), some (.int v3)]) (st' := [.int x162, .int x161, .ref v2, .int r160.1]) (o := ldA r160.2 v0 (v3 + (xc 3))) rfl hx163 ?_
      obtain ⟨r164, hr164, h⟩ := Option.bind_eq_some_iff.mp h
      refine xr_callV (j := 211) (d' := (d + 13)) (rv1 := some (.int r164.1)) (μ1 := r164.2) (rest := [.int r160.1]) (As := [.int x161, .int x162, .int x163]) rfl rfl rfl rfl (Nat.le_of_ble_eq_true rfl) (fM_hours_kd hr164) rfl (by exact (fM_hours_ok (d := d + (11)) hr164)) ?_
      refine xr_icmp (pct := 1284) rfl rfl rfl (fun hc => ?_) (fun hc => ?_)
      · replace h := (if_pos (of_decide_eq_true hc)).symm.trans h
        refine xr_forget (lo := [some (.ref v0), some (.ref v1), some (.ref v2), some (.int v3)]) ⟨rfl, rfl, rfl, rfl, trivial⟩ ?_
        exact fLaw_law_1284_ok h hK
      · replace h := (if_neg (of_decide_eq_false hc)).symm.trans h
        refine xr_forget (lo := [none, none, none, none]) trivial ?_
        obtain ⟨o, h2, rfl⟩ := Option.map_eq_some_iff.mp h
        exact fLaw_law_1138_ok h2 hK
    replace h := (if_neg hq29).symm.trans h
    by_cases hq30 : (x18 &&& (xc 63)) = xc 30
    · replace h := (if_pos hq30).symm.trans h
      refine xr_sw (v := xc 30) (pc' := 1140) (lo' := [some (.ref v0), some (.ref v1), some (.ref v2), some (.int v3)]) (st' := []) (μ' := μ) hq30 rfl ?_
      refine xr_go 5 (pc' := 1145) (lo' := [some (.ref v0), some (.ref v1), some (.ref v2), some (.int v3)]) (st' := [.int (v3 + (xc 1)), .ref v0, .ref v1]) (μ' := μ) rfl ?_
      obtain ⟨x165, hx165, h⟩ := Option.bind_eq_some_iff.mp h
      refine xr_opI (pc' := 1146) (lo' := [some (.ref v0), some (.ref v1), some (.ref v2), some (.int v3)]) (st' := [.ref v1]) (o := ldA μ v0 (v3 + (xc 1))) rfl hx165 ?_
      obtain ⟨r166, hr166, h⟩ := Option.bind_eq_some_iff.mp h
      refine xr_callV (j := 31) (d' := (d + 13)) (rv1 := some (.int r166.1)) (μ1 := r166.2) (rest := []) (As := [.int x165]) rfl rfl rfl rfl (Nat.le_of_ble_eq_true rfl) (fX_latest_kd hr166) rfl (by exact (fX_latest_ok (d := d + (0)) hr166)) ?_
      refine xr_go 5 (pc' := 1154) (lo' := [some (.ref v0), some (.ref v1), some (.ref v2), some (.int v3)]) (st' := [.int (v3 + (xc 1)), .ref v0, .ref v2, .int r166.1]) (μ' := r166.2) rfl ?_
      obtain ⟨x167, hx167, h⟩ := Option.bind_eq_some_iff.mp h
      refine xr_opI (pc' := 1155) (lo' := [some (.ref v0), some (.ref v1), some (.ref v2), some (.int v3)]) (st' := [.ref v2, .int r166.1]) (o := ldA r166.2 v0 (v3 + (xc 1))) rfl hx167 ?_
      obtain ⟨r168, hr168, h⟩ := Option.bind_eq_some_iff.mp h
      refine xr_callV (j := 212) (d' := (d + 13)) (rv1 := some (.int r168.1)) (μ1 := r168.2) (rest := [.int r166.1]) (As := [.int x167]) rfl rfl rfl rfl (Nat.le_of_ble_eq_true rfl) (fM_latest_kd hr168) rfl (by exact (fM_latest_ok (d := d + (7)) hr168)) ?_
      refine xr_icmp (pct := 1284) rfl rfl rfl (fun hc => ?_) (fun hc => ?_)
      · replace h := (if_pos (of_decide_eq_true hc)).symm.trans h
        refine xr_forget (lo := [some (.ref v0), some (.ref v1), some (.ref v2), some (.int v3)]) ⟨rfl, rfl, rfl, rfl, trivial⟩ ?_
        exact fLaw_law_1284_ok h hK
      · replace h := (if_neg (of_decide_eq_false hc)).symm.trans h
        refine xr_forget (lo := [none, none, none, none]) trivial ?_
        obtain ⟨o, h2, rfl⟩ := Option.map_eq_some_iff.mp h
        exact fLaw_law_1161_ok h2 hK
    replace h := (if_neg hq30).symm.trans h
    by_cases hq31 : (x18 &&& (xc 63)) = xc 31
    · replace h := (if_pos hq31).symm.trans h
      refine xr_sw (v := xc 31) (pc' := 1163) (lo' := [some (.ref v0), some (.ref v1), some (.ref v2), some (.int v3)]) (st' := []) (μ' := μ) hq31 rfl ?_
      refine xr_go 5 (pc' := 1168) (lo' := [some (.ref v0), some (.ref v1), some (.ref v2), some (.int v3)]) (st' := [.int (v3 + (xc 1)), .ref v0, .ref v1]) (μ' := μ) rfl ?_
      obtain ⟨x169, hx169, h⟩ := Option.bind_eq_some_iff.mp h
      refine xr_opI (pc' := 1169) (lo' := [some (.ref v0), some (.ref v1), some (.ref v2), some (.int v3)]) (st' := [.ref v1]) (o := ldA μ v0 (v3 + (xc 1))) rfl hx169 ?_
      refine xr_go 4 (pc' := 1173) (lo' := [some (.ref v0), some (.ref v1), some (.ref v2), some (.int v3)]) (st' := [.int (v3 + (xc 2)), .ref v0, .int x169, .ref v1]) (μ' := μ) rfl ?_
      obtain ⟨x170, hx170, h⟩ := Option.bind_eq_some_iff.mp h
      refine xr_opI (pc' := 1174) (lo' := [some (.ref v0), some (.ref v1), some (.ref v2), some (.int v3)]) (st' := [.int x169, .ref v1]) (o := ldA μ v0 (v3 + (xc 2))) rfl hx170 ?_
      refine xr_ifc (pct := 1181) rfl rfl rfl (fun hc => ?_) (fun hc => ?_)
      · replace h := (if_pos (of_decide_eq_true hc)).symm.trans h
        refine xr_go 1 (pc' := 1182) (lo' := [some (.ref v0), some (.ref v1), some (.ref v2), some (.int v3)]) (st' := [.int (xc 0), .int x169, .ref v1]) (μ' := μ) rfl ?_
        refine xr_forget (lo := [some (.ref v0), some (.ref v1), some (.ref v2), some (.int v3)]) ⟨rfl, rfl, rfl, rfl, trivial⟩ ?_
        exact fLaw_law_1182_ok h hK
      · replace h := (if_neg (of_decide_eq_false hc)).symm.trans h
        refine xr_go 2 (pc' := 1182) (lo' := [some (.ref v0), some (.ref v1), some (.ref v2), some (.int v3)]) (st' := [.int (xc 1), .int x169, .ref v1]) (μ' := μ) rfl ?_
        refine xr_forget (lo := [some (.ref v0), some (.ref v1), some (.ref v2), some (.int v3)]) ⟨rfl, rfl, rfl, rfl, trivial⟩ ?_
        exact fLaw_law_1182_ok h hK
    replace h := (if_neg hq31).symm.trans h
    by_cases hq32 : (x18 &&& (xc 63)) = xc 32
    · replace h := (if_pos hq32).symm.trans h
      refine xr_sw (v := xc 32) (pc' := 1212) (lo' := [some (.ref v0), some (.ref v1), some (.ref v2), some (.int v3)]) (st' := []) (μ' := μ) hq32 rfl ?_
      refine xr_go 5 (pc' := 1217) (lo' := [some (.ref v0), some (.ref v1), some (.ref v2), some (.int v3)]) (st' := [.int (v3 + (xc 1)), .ref v0, .ref v1]) (μ' := μ) rfl ?_
      obtain ⟨x171, hx171, h⟩ := Option.bind_eq_some_iff.mp h
      refine xr_opI (pc' := 1218) (lo' := [some (.ref v0), some (.ref v1), some (.ref v2), some (.int v3)]) (st' := [.ref v1]) (o := ldA μ v0 (v3 + (xc 1))) rfl hx171 ?_
      obtain ⟨r172, hr172, h⟩ := Option.bind_eq_some_iff.mp h
      refine xr_callV (j := 33) (d' := (d + 13)) (rv1 := some (.int r172.1)) (μ1 := r172.2) (rest := []) (As := [.int x171]) rfl rfl rfl rfl (Nat.le_of_ble_eq_true rfl) (fX_plan_kd hr172) rfl (by exact (fX_plan_ok (d := d + (0)) hr172)) ?_
      refine xr_go 5 (pc' := 1226) (lo' := [some (.ref v0), some (.ref v1), some (.ref v2), some (.int v3)]) (st' := [.int (v3 + (xc 1)), .ref v0, .ref v2, .int r172.1]) (μ' := r172.2) rfl ?_
      obtain ⟨x173, hx173, h⟩ := Option.bind_eq_some_iff.mp h
      refine xr_opI (pc' := 1227) (lo' := [some (.ref v0), some (.ref v1), some (.ref v2), some (.int v3)]) (st' := [.ref v2, .int r172.1]) (o := ldA r172.2 v0 (v3 + (xc 1))) rfl hx173 ?_
      obtain ⟨r174, hr174, h⟩ := Option.bind_eq_some_iff.mp h
      refine xr_callV (j := 215) (d' := (d + 13)) (rv1 := some (.int r174.1)) (μ1 := r174.2) (rest := [.int r172.1]) (As := [.int x173]) rfl rfl rfl rfl (Nat.le_of_ble_eq_true rfl) (fM_plan_kd hr174) rfl (by exact (fM_plan_ok (d := d + (7)) hr174)) ?_
      refine xr_icmp (pct := 1284) rfl rfl rfl (fun hc => ?_) (fun hc => ?_)
      · replace h := (if_pos (of_decide_eq_true hc)).symm.trans h
        refine xr_forget (lo := [some (.ref v0), some (.ref v1), some (.ref v2), some (.int v3)]) ⟨rfl, rfl, rfl, rfl, trivial⟩ ?_
        exact fLaw_law_1284_ok h hK
      · replace h := (if_neg (of_decide_eq_false hc)).symm.trans h
        refine xr_forget (lo := [none, none, none, none]) trivial ?_
        obtain ⟨o, h2, rfl⟩ := Option.map_eq_some_iff.mp h
        exact fLaw_law_1233_ok h2 hK
    replace h := (if_neg hq32).symm.trans h
    by_cases hq33 : (x18 &&& (xc 63)) = xc 33
    · replace h := (if_pos hq33).symm.trans h
      refine xr_sw (v := xc 33) (pc' := 1235) (lo' := [some (.ref v0), some (.ref v1), some (.ref v2), some (.int v3)]) (st' := []) (μ' := μ) hq33 rfl ?_
      refine xr_go 1 (pc' := 1236) (lo' := [some (.ref v0), some (.ref v1), some (.ref v2), some (.int v3)]) (st' := [.ref v1]) (μ' := μ) rfl ?_
      obtain ⟨r175, hr175, h⟩ := Option.bind_eq_some_iff.mp h
      refine xr_callV (j := 34) (d' := (d + 13)) (rv1 := some (.int r175.1)) (μ1 := r175.2) (rest := []) (As := []) rfl rfl rfl rfl (Nat.le_of_ble_eq_true rfl) (fX_image_kd hr175) rfl (by exact (fX_image_ok (d := d + (9)) hr175)) ?_
      refine xr_go 1 (pc' := 1240) (lo' := [some (.ref v0), some (.ref v1), some (.ref v2), some (.int v3)]) (st' := [.ref v2, .int r175.1]) (μ' := r175.2) rfl ?_
      obtain ⟨r176, hr176, h⟩ := Option.bind_eq_some_iff.mp h
      refine xr_callV (j := 218) (d' := (d + 13)) (rv1 := some (.int r176.1)) (μ1 := r176.2) (rest := [.int r175.1]) (As := []) rfl rfl rfl rfl (Nat.le_of_ble_eq_true rfl) (fM_image_kd hr176) rfl (by exact (fM_image_ok (d := d + (11)) hr176)) ?_
      refine xr_icmp (pct := 1284) rfl rfl rfl (fun hc => ?_) (fun hc => ?_)
      · replace h := (if_pos (of_decide_eq_true hc)).symm.trans h
        refine xr_forget (lo := [some (.ref v0), some (.ref v1), some (.ref v2), some (.int v3)]) ⟨rfl, rfl, rfl, rfl, trivial⟩ ?_
        exact fLaw_law_1284_ok h hK
      · replace h := (if_neg (of_decide_eq_false hc)).symm.trans h
        refine xr_forget (lo := [none, none, none, none]) trivial ?_
        obtain ⟨o, h2, rfl⟩ := Option.map_eq_some_iff.mp h
        exact fLaw_law_1246_ok h2 hK
    replace h := (if_neg hq33).symm.trans h
    by_cases hq34 : (x18 &&& (xc 63)) = xc 34
    · replace h := (if_pos hq34).symm.trans h
      refine xr_sw (v := xc 34) (pc' := 1248) (lo' := [some (.ref v0), some (.ref v1), some (.ref v2), some (.int v3)]) (st' := []) (μ' := μ) hq34 rfl ?_
      refine xr_go 1 (pc' := 1249) (lo' := [some (.ref v0), some (.ref v1), some (.ref v2), some (.int v3)]) (st' := [.ref v1]) (μ' := μ) rfl ?_
      obtain ⟨r177, hr177, h⟩ := Option.bind_eq_some_iff.mp h
      refine xr_callV (j := 35) (d' := (d + 13)) (rv1 := some (.int r177.1)) (μ1 := r177.2) (rest := []) (As := []) rfl rfl rfl rfl (Nat.le_of_ble_eq_true rfl) (fX_restore_kd hr177) rfl (by exact (fX_restore_ok (d := d + (9)) hr177)) ?_
      refine xr_go 1 (pc' := 1253) (lo' := [some (.ref v0), some (.ref v1), some (.ref v2), some (.int v3)]) (st' := [.ref v2, .int r177.1]) (μ' := r177.2) rfl ?_
      obtain ⟨r178, hr178, h⟩ := Option.bind_eq_some_iff.mp h
      refine xr_callV (j := 219) (d' := (d + 13)) (rv1 := some (.int r178.1)) (μ1 := r178.2) (rest := [.int r177.1]) (As := []) rfl rfl rfl rfl (Nat.le_of_ble_eq_true rfl) (fM_restore_kd hr178) rfl (by exact (fM_restore_ok (d := d + (11)) hr178)) ?_
      refine xr_icmp (pct := 1284) rfl rfl rfl (fun hc => ?_) (fun hc => ?_)
      · replace h := (if_pos (of_decide_eq_true hc)).symm.trans h
        refine xr_forget (lo := [some (.ref v0), some (.ref v1), some (.ref v2), some (.int v3)]) ⟨rfl, rfl, rfl, rfl, trivial⟩ ?_
        exact fLaw_law_1284_ok h hK
      · replace h := (if_neg (of_decide_eq_false hc)).symm.trans h
        refine xr_forget (lo := [none, none, none, none]) trivial ?_
        obtain ⟨o, h2, rfl⟩ := Option.map_eq_some_iff.mp h
        exact fLaw_law_1259_ok h2 hK
    replace h := (if_neg hq34).symm.trans h
    by_cases hq35 : (x18 &&& (xc 63)) = xc 35
    · replace h := (if_pos hq35).symm.trans h
      refine xr_sw (v := xc 35) (pc' := 1261) (lo' := [some (.ref v0), some (.ref v1), some (.ref v2), some (.int v3)]) (st' := []) (μ' := μ) hq35 rfl ?_
      refine xr_go 5 (pc' := 1266) (lo' := [some (.ref v0), some (.ref v1), some (.ref v2), some (.int v3)]) (st' := [.int (v3 + (xc 1)), .ref v0, .ref v1]) (μ' := μ) rfl ?_
      obtain ⟨x179, hx179, h⟩ := Option.bind_eq_some_iff.mp h
      refine xr_opI (pc' := 1267) (lo' := [some (.ref v0), some (.ref v1), some (.ref v2), some (.int v3)]) (st' := [.ref v1]) (o := ldA μ v0 (v3 + (xc 1))) rfl hx179 ?_
      obtain ⟨r180, hr180, h⟩ := Option.bind_eq_some_iff.mp h
      refine xr_callV (j := 36) (d' := (d + 13)) (rv1 := some (.int r180)) (μ1 := μ) (rest := []) (As := [.int x179]) rfl rfl rfl rfl (Nat.le_of_ble_eq_true rfl) (fX_count_kd hr180) rfl (by exact (fX_count_ok (d := d + (12)) hr180)) ?_
      refine xr_go 5 (pc' := 1275) (lo' := [some (.ref v0), some (.ref v1), some (.ref v2), some (.int v3)]) (st' := [.int (v3 + (xc 1)), .ref v0, .ref v2, .int r180]) (μ' := μ) rfl ?_
      obtain ⟨x181, hx181, h⟩ := Option.bind_eq_some_iff.mp h
      refine xr_opI (pc' := 1276) (lo' := [some (.ref v0), some (.ref v1), some (.ref v2), some (.int v3)]) (st' := [.ref v2, .int r180]) (o := ldA μ v0 (v3 + (xc 1))) rfl hx181 ?_
      obtain ⟨r182, hr182, h⟩ := Option.bind_eq_some_iff.mp h
      refine xr_callV (j := 220) (d' := (d + 13)) (rv1 := some (.int r182)) (μ1 := μ) (rest := [.int r180]) (As := [.int x181]) rfl rfl rfl rfl (Nat.le_of_ble_eq_true rfl) (fM_count_kd hr182) rfl (by exact (fM_count_ok (d := d + (12)) hr182)) ?_
      refine xr_icmp (pct := 1284) rfl rfl rfl (fun hc => ?_) (fun hc => ?_)
      · replace h := (if_pos (of_decide_eq_true hc)).symm.trans h
        refine xr_forget (lo := [some (.ref v0), some (.ref v1), some (.ref v2), some (.int v3)]) ⟨rfl, rfl, rfl, rfl, trivial⟩ ?_
        exact fLaw_law_1284_ok h hK
      · replace h := (if_neg (of_decide_eq_false hc)).symm.trans h
        refine xr_forget (lo := [none, none, none, none]) trivial ?_
        obtain ⟨o, h2, rfl⟩ := Option.map_eq_some_iff.mp h
        exact fLaw_law_1282_ok h2 hK
    replace h := (if_neg hq35).symm.trans h
    cases h
theorem fLaw_law_L18_lp {d : Nat} {v0 : Nat} {v1 : Nat} {v2 : Nat} {v3 : Int32} {μ : xM} {rv : Option Value} {μf : xM} {out : Int32 × xM} (h : xwh (fun s : Int32 × xM => fLaw_law_L18 v0 v1 v2 s.1 s.2) (v3, μ) = some out) (hK : fLaw_law_K rv μf out) : xRun (d + 14) 226 18 [some (.ref v0), some (.ref v1), some (.ref v2), some (.int v3)] [] μ rv μf :=
  xwh_ind (Rh := fun s : Int32 × xM => xRun (d + 14) 226 18 [some (.ref v0), some (.ref v1), some (.ref v2), some (.int s.1)] [] s.2 rv μf) (Co := fLaw_law_K rv μf) (fun s o hb hk => fLaw_law_L18_ok hb hk) h hK
noncomputable def fLaw_law_0  (v0 : Nat) (μ : xM) : Option (Int32 × xM) := (some (xnew μ (10, 10) (0, 0) 0 10)).bind fun μ183 => (fX_init (xS μ) μ183).bind fun r184 => (some (xnew r184 (19, 65) (0, 0) 0 65)).bind fun μ185 => (fM_init (xS r184) μ185).bind fun r186 => xwh (fun s : Int32 × xM => fLaw_law_L18 v0 (xS μ) (xS r184) s.1 s.2) (xc 0, r186)
theorem fLaw_law_0_ok {d : Nat} {v0 : Nat} {μ : xM} {rv : Option Value} {μf : xM} {out : Int32 × xM} (h : fLaw_law_0 v0 μ = some out) (hK : fLaw_law_K rv μf out) : xRun (d + 14) 226 0 [some (.ref v0), none, none, none] [] μ rv μf := by
  unfold fLaw_law_0 at h
  obtain ⟨μ183, hμ183, h⟩ := Option.bind_eq_some_iff.mp h
  refine xr_opM (pc' := 3) (lo' := [some (.ref v0), none, none, none]) (st' := [.ref (xS μ)]) (o := some (xnew μ (10, 10) (0, 0) 0 10)) rfl hμ183 ?_
  refine xr_go 1 (pc' := 4) (lo' := [some (.ref v0), none, none, none]) (st' := [.ref (xS μ), .ref (xS μ)]) (μ' := μ183) rfl ?_
  obtain ⟨r184, hr184, h⟩ := Option.bind_eq_some_iff.mp h
  refine xr_callI (j := 0) (d' := (d + 13)) (rv1 := none) (μ1 := r184) (rest := [.ref (xS μ)]) (As := []) rfl rfl rfl rfl (Nat.le_of_ble_eq_true rfl) rfl (by exact (fX_init_ok (d := d + (11)) hr184)) ?_
  refine xr_go 1 (pc' := 8) (lo' := [some (.ref v0), some (.ref (xS μ)), none, none]) (st' := []) (μ' := r184) rfl ?_
  obtain ⟨μ185, hμ185, h⟩ := Option.bind_eq_some_iff.mp h
  refine xr_opM (pc' := 11) (lo' := [some (.ref v0), some (.ref (xS μ)), none, none]) (st' := [.ref (xS r184)]) (o := some (xnew r184 (19, 65) (0, 0) 0 65)) rfl hμ185 ?_
  refine xr_go 1 (pc' := 12) (lo' := [some (.ref v0), some (.ref (xS μ)), none, none]) (st' := [.ref (xS r184), .ref (xS r184)]) (μ' := μ185) rfl ?_
  obtain ⟨r186, hr186, h⟩ := Option.bind_eq_some_iff.mp h
  refine xr_callI (j := 136) (d' := (d + 13)) (rv1 := none) (μ1 := r186) (rest := [.ref (xS r184)]) (As := []) rfl rfl rfl rfl (Nat.le_of_ble_eq_true rfl) rfl (by exact (fM_init_ok (d := d + (13)) hr186)) ?_
  refine xr_go 3 (pc' := 18) (lo' := [some (.ref v0), some (.ref (xS μ)), some (.ref (xS r184)), some (.int (xc 0))]) (st' := []) (μ' := r186) rfl ?_
  refine xr_forget (lo := [some (.ref v0), some (.ref (xS μ)), some (.ref (xS r184)), some (.int (xc 0))]) ⟨rfl, rfl, rfl, rfl, trivial⟩ ?_
  exact fLaw_law_L18_lp h hK
noncomputable def fLaw_law (a0 : Nat) (μ : xM) : Option (Int32 × xM) := fLaw_law_0 a0 μ
theorem fLaw_law_ok {d : Nat} {a0 : Nat} {μ : xM} {o : Int32 × xM} (h : fLaw_law a0 μ = some o) : xRun (d + 14) 226 0 [some (.ref a0), none, none, none] [] μ (some (.int o.1)) o.2 :=
  xr_forget (lo := [some (.ref a0), none, none, none]) (⟨rfl, trivial⟩) (fLaw_law_0_ok (d := d) h (show fLaw_law_K _ _ o from ⟨rfl, rfl⟩))
