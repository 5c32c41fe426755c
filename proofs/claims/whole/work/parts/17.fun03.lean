/-! methods as functions, printed with their proofs -/
-- KeptAnswersModel.findShows(I)Z 
def fM_findShows_K (rv : Option Value) (μf : xM) : (Int32 × xM) → Prop := fun o => rv = some (.int o.1) ∧ μf = o.2
def fM_findShows_K121 (v0 : Nat) (d : Nat) (rv : Option Value) (μf : xM) : ((Int32 × xM) ⊕ (Int32 × xM)) → Prop := Sum.elim (fun s : Int32 × xM => xRun (d + 4) 182 121 [some (.ref v0), none, some (.int s.1), none, none] [] s.2 rv μf) (fM_findShows_K rv μf)
def fM_findShows_K199 (v0 : Nat) (v2 : Int32) (d : Nat) (rv : Option Value) (μf : xM) : ((Int32 × xM) ⊕ ((Int32 × xM) ⊕ (Int32 × xM))) → Prop := Sum.elim (fun s : Int32 × xM => xRun (d + 4) 182 199 [some (.ref v0), none, some (.int v2), none, some (.int s.1)] [] s.2 rv μf) (fM_findShows_K121 v0 d rv μf)
def fM_findShows_K31 (v0 : Nat) (d : Nat) (rv : Option Value) (μf : xM) : ((Int32 × xM) ⊕ (Int32 × xM)) → Prop := Sum.elim (fun s : Int32 × xM => xRun (d + 4) 182 31 [some (.ref v0), none, some (.int s.1), none, none] [] s.2 rv μf) (fM_findShows_K rv μf)
def fM_findShows_K168 (v0 : Nat) (v2 : Int32) (d : Nat) (rv : Option Value) (μf : xM) : ((Int32 × xM) ⊕ ((Int32 × xM) ⊕ (Int32 × xM))) → Prop := Sum.elim (fun s : Int32 × xM => xRun (d + 4) 182 168 [some (.ref v0), none, some (.int v2), some (.int s.1), none] [] s.2 rv μf) (fM_findShows_K121 v0 d rv μf)
def fM_findShows_K83 (v0 : Nat) (d : Nat) (rv : Option Value) (μf : xM) : ((Int32 × xM) ⊕ (Int32 × xM)) → Prop := Sum.elim (fun s : Int32 × xM => xRun (d + 4) 182 83 [some (.ref v0), none, some (.int s.1), none, none] [] s.2 rv μf) (fM_findShows_K rv μf)
def fM_findShows_K138 (v0 : Nat) (v2 : Int32) (d : Nat) (rv : Option Value) (μf : xM) : ((Int32 × xM) ⊕ ((Int32 × xM) ⊕ (Int32 × xM))) → Prop := Sum.elim (fun s : Int32 × xM => xRun (d + 4) 182 138 [some (.ref v0), none, some (.int v2), some (.int s.1), none] [] s.2 rv μf) (fM_findShows_K121 v0 d rv μf)
noncomputable def fM_findShows_276  (μ : xM) : Option (Int32 × xM) := some ((xc 1, μ))
theorem fM_findShows_276_ok {d : Nat} {μ : xM} {rv : Option Value} {μf : xM} {out : Int32 × xM} (h : fM_findShows_276 μ = some out) (hK : fM_findShows_K rv μf out) : xRun (d + 4) 182 276 [none, none, none, none, none] [] μ rv μf := by
  unfold fM_findShows_276 at h
  refine xr_go 1 (pc' := 277) (lo' := [none, none, none, none, none]) (st' := [.int (xc 1)]) (μ' := μ) rfl ?_
  have ho := Option.some.inj h
  subst ho
  obtain ⟨rfl, rfl⟩ := hK
  exact xr_ret (rv := some (.int (xc 1))) rfl rfl (Or.inr ⟨rfl, Or.inr rfl⟩)
noncomputable def fM_findShows_270  (v0 : Nat) (v2 : Int32) (μ : xM) : Option ((Int32 × xM) ⊕ (Int32 × xM)) := some (.inl ((v2 + xc 1, μ)))
theorem fM_findShows_270_ok {d : Nat} {v0 : Nat} {v2 : Int32} {μ : xM} {rv : Option Value} {μf : xM} {out : (Int32 × xM) ⊕ (Int32 × xM)} (h : fM_findShows_270 v0 v2 μ = some out) (hK : fM_findShows_K121 v0 d rv μf out) : xRun (d + 4) 182 270 [some (.ref v0), none, some (.int v2), none, none] [] μ rv μf := by
  unfold fM_findShows_270 at h
  refine xr_go 2 (pc' := 121) (lo' := [some (.ref v0), none, some (.int (v2 + xc 1)), none, none]) (st' := []) (μ' := μ) rfl ?_
  refine xr_forget (lo := [some (.ref v0), none, some (.int (v2 + xc 1)), none, none]) ⟨rfl, rfl, trivial⟩ ?_
  have ho := Option.some.inj h
  subst ho
  exact hK
noncomputable def fM_findShows_264  (v0 : Nat) (v2 : Int32) (v4 : Int32) (μ : xM) : Option ((Int32 × xM) ⊕ ((Int32 × xM) ⊕ (Int32 × xM))) := some (.inl ((v4 + xc 1, μ)))
theorem fM_findShows_264_ok {d : Nat} {v0 : Nat} {v2 : Int32} {v4 : Int32} {μ : xM} {rv : Option Value} {μf : xM} {out : (Int32 × xM) ⊕ ((Int32 × xM) ⊕ (Int32 × xM))} (h : fM_findShows_264 v0 v2 v4 μ = some out) (hK : fM_findShows_K199 v0 v2 d rv μf out) : xRun (d + 4) 182 264 [some (.ref v0), none, some (.int v2), none, some (.int v4)] [] μ rv μf := by
  unfold fM_findShows_264 at h
  refine xr_go 2 (pc' := 199) (lo' := [some (.ref v0), none, some (.int v2), none, some (.int (v4 + xc 1))]) (st' := []) (μ' := μ) rfl ?_
  refine xr_forget (lo := [some (.ref v0), none, some (.int v2), none, some (.int (v4 + xc 1))]) ⟨rfl, rfl, rfl, trivial⟩ ?_
  have ho := Option.some.inj h
  subst ho
  exact hK
noncomputable def fM_findShows_226  (v0 : Nat) (μ : xM) : Option (Int32 × xM) := (stFZ μ v0 9 40 (xc 1)).bind fun μ1 => some ((xc 0, μ1))
theorem fM_findShows_226_ok {d : Nat} {v0 : Nat} {μ : xM} {rv : Option Value} {μf : xM} {out : Int32 × xM} (h : fM_findShows_226 v0 μ = some out) (hK : fM_findShows_K rv μf out) : xRun (d + 4) 182 226 [some (.ref v0), none, none, none, none] [] μ rv μf := by
  unfold fM_findShows_226 at h
  refine xr_go 2 (pc' := 228) (lo' := [some (.ref v0), none, none, none, none]) (st' := [.int (xc 1), .ref v0]) (μ' := μ) rfl ?_
  obtain ⟨μ1, hμ1, h⟩ := Option.bind_eq_some_iff.mp h
  refine xr_opM (pc' := 231) (lo' := [some (.ref v0), none, none, none, none]) (st' := []) (o := stFZ μ v0 9 40 (xc 1)) rfl hμ1 ?_
  refine xr_go 1 (pc' := 232) (lo' := [some (.ref v0), none, none, none, none]) (st' := [.int (xc 0)]) (μ' := μ1) rfl ?_
  have ho := Option.some.inj h
  subst ho
  obtain ⟨rfl, rfl⟩ := hK
  exact xr_ret (rv := some (.int (xc 0))) rfl rfl (Or.inr ⟨rfl, Or.inl rfl⟩)
noncomputable def fM_findShows_L199  (v0 : Nat) (v2 : Int32) (v4 : Int32) (μ : xM) : Option ((Int32 × xM) ⊕ ((Int32 × xM) ⊕ (Int32 × xM))) := if (xc 343) ≤ v4 then ((fM_findShows_270 v0 v2 μ).map (fun o => .inr o)) else ((ldFR μ v0 9 50).bind fun x2 => (ldAZ μ x2 v4).bind fun x3 => if x3 = 0 then (fM_findShows_264 v0 v2 v4 μ) else ((ldF μ v0 9 39).bind fun x4 => if x4 = (xc 12) then ((fM_findShows_226 v0 μ).map (fun o => .inr (.inr o))) else ((ldFR μ v0 9 41).bind fun x5 => (ldF μ v0 9 39).bind fun x6 => (stA μ x5 x6 v2).bind fun μ7 => (ldFR μ7 v0 9 42).bind fun x8 => (ldF μ7 v0 9 39).bind fun x9 => (stA μ7 x8 x9 v4).bind fun μ10 => (ldF μ10 v0 9 39).bind fun x11 => (stF μ10 v0 9 39 (x11 + (xc 1))).bind fun μ12 => fM_findShows_264 v0 v2 v4 μ12)))
theorem fM_findShows_L199_ok {d : Nat} {v0 : Nat} {v2 : Int32} {v4 : Int32} {μ : xM} {rv : Option Value} {μf : xM} {out : (Int32 × xM) ⊕ ((Int32 × xM) ⊕ (Int32 × xM))} (h : fM_findShows_L199 v0 v2 v4 μ = some out) (hK : fM_findShows_K199 v0 v2 d rv μf out) : xRun (d + 4) 182 199 [some (.ref v0), none, some (.int v2), none, some (.int v4)] [] μ rv μf := by
  unfold fM_findShows_L199 at h
  refine xr_go 2 (pc' := 204) (lo' := [some (.ref v0), none, some (.int v2), none, some (.int v4)]) (st' := [.int (xc 343), .int v4]) (μ' := μ) rfl ?_
  refine xr_icmp (pct := 270) rfl rfl rfl (fun hc => ?_) (fun hc => ?_)
  · replace h := (if_pos (of_decide_eq_true hc)).symm.trans h
    refine xr_forget (lo := [some (.ref v0), none, some (.int v2), none, none]) ⟨rfl, rfl, trivial⟩ ?_
    obtain ⟨o, h2, rfl⟩ := Option.map_eq_some_iff.mp h
    exact fM_findShows_270_ok h2 hK
  · replace h := (if_neg (of_decide_eq_false hc)).symm.trans h
    refine xr_go 1 (pc' := 208) (lo' := [some (.ref v0), none, some (.int v2), none, some (.int v4)]) (st' := [.ref v0]) (μ' := μ) rfl ?_
    obtain ⟨x2, hx2, h⟩ := Option.bind_eq_some_iff.mp h
    refine xr_opA (pc' := 211) (lo' := [some (.ref v0), none, some (.int v2), none, some (.int v4)]) (st' := []) (o := ldFR μ v0 9 50) rfl hx2 ?_
    refine xr_go 1 (pc' := 213) (lo' := [some (.ref v0), none, some (.int v2), none, some (.int v4)]) (st' := [.int v4, .ref x2]) (μ' := μ) rfl ?_
    obtain ⟨x3, hx3, h⟩ := Option.bind_eq_some_iff.mp h
    refine xr_opI (pc' := 214) (lo' := [some (.ref v0), none, some (.int v2), none, some (.int v4)]) (st' := []) (o := ldAZ μ x2 v4) rfl hx3 ?_
    refine xr_ifc (pct := 264) rfl rfl rfl (fun hc => ?_) (fun hc => ?_)
    · replace h := (if_pos (of_decide_eq_true hc)).symm.trans h
      refine xr_forget (lo := [some (.ref v0), none, some (.int v2), none, some (.int v4)]) ⟨rfl, rfl, rfl, trivial⟩ ?_
      exact fM_findShows_264_ok h hK
    · replace h := (if_neg (of_decide_eq_false hc)).symm.trans h
      refine xr_go 1 (pc' := 218) (lo' := [some (.ref v0), none, some (.int v2), none, some (.int v4)]) (st' := [.ref v0]) (μ' := μ) rfl ?_
      obtain ⟨x4, hx4, h⟩ := Option.bind_eq_some_iff.mp h
      refine xr_opI (pc' := 221) (lo' := [some (.ref v0), none, some (.int v2), none, some (.int v4)]) (st' := []) (o := ldF μ v0 9 39) rfl hx4 ?_
      refine xr_go 1 (pc' := 223) (lo' := [some (.ref v0), none, some (.int v2), none, some (.int v4)]) (st' := [.int (xc 12), .int x4]) (μ' := μ) rfl ?_
      refine xr_icmp (pct := 233) rfl rfl rfl (fun hc => ?_) (fun hc => ?_)
      · replace h := (if_neg (of_decide_eq_true hc)).symm.trans h
        refine xr_go 1 (pc' := 234) (lo' := [some (.ref v0), none, some (.int v2), none, some (.int v4)]) (st' := [.ref v0]) (μ' := μ) rfl ?_
        obtain ⟨x5, hx5, h⟩ := Option.bind_eq_some_iff.mp h
        refine xr_opA (pc' := 237) (lo' := [some (.ref v0), none, some (.int v2), none, some (.int v4)]) (st' := []) (o := ldFR μ v0 9 41) rfl hx5 ?_
        refine xr_go 1 (pc' := 238) (lo' := [some (.ref v0), none, some (.int v2), none, some (.int v4)]) (st' := [.ref v0, .ref x5]) (μ' := μ) rfl ?_
        obtain ⟨x6, hx6, h⟩ := Option.bind_eq_some_iff.mp h
        refine xr_opI (pc' := 241) (lo' := [some (.ref v0), none, some (.int v2), none, some (.int v4)]) (st' := [.ref x5]) (o := ldF μ v0 9 39) rfl hx6 ?_
        refine xr_go 1 (pc' := 242) (lo' := [some (.ref v0), none, some (.int v2), none, some (.int v4)]) (st' := [.int v2, .int x6, .ref x5]) (μ' := μ) rfl ?_
        obtain ⟨μ7, hμ7, h⟩ := Option.bind_eq_some_iff.mp h
        refine xr_opM (pc' := 243) (lo' := [some (.ref v0), none, some (.int v2), none, some (.int v4)]) (st' := []) (o := stA μ x5 x6 v2) rfl hμ7 ?_
        refine xr_go 1 (pc' := 244) (lo' := [some (.ref v0), none, some (.int v2), none, some (.int v4)]) (st' := [.ref v0]) (μ' := μ7) rfl ?_
        obtain ⟨x8, hx8, h⟩ := Option.bind_eq_some_iff.mp h
        refine xr_opA (pc' := 247) (lo' := [some (.ref v0), none, some (.int v2), none, some (.int v4)]) (st' := []) (o := ldFR μ7 v0 9 42) rfl hx8 ?_
        refine xr_go 1 (pc' := 248) (lo' := [some (.ref v0), none, some (.int v2), none, some (.int v4)]) (st' := [.ref v0, .ref x8]) (μ' := μ7) rfl ?_
        obtain ⟨x9, hx9, h⟩ := Option.bind_eq_some_iff.mp h
        refine xr_opI (pc' := 251) (lo' := [some (.ref v0), none, some (.int v2), none, some (.int v4)]) (st' := [.ref x8]) (o := ldF μ7 v0 9 39) rfl hx9 ?_
        refine xr_go 1 (pc' := 253) (lo' := [some (.ref v0), none, some (.int v2), none, some (.int v4)]) (st' := [.int v4, .int x9, .ref x8]) (μ' := μ7) rfl ?_
        obtain ⟨μ10, hμ10, h⟩ := Option.bind_eq_some_iff.mp h
        refine xr_opM (pc' := 254) (lo' := [some (.ref v0), none, some (.int v2), none, some (.int v4)]) (st' := []) (o := stA μ7 x8 x9 v4) rfl hμ10 ?_
        refine xr_go 2 (pc' := 256) (lo' := [some (.ref v0), none, some (.int v2), none, some (.int v4)]) (st' := [.ref v0, .ref v0]) (μ' := μ10) rfl ?_
        obtain ⟨x11, hx11, h⟩ := Option.bind_eq_some_iff.mp h
        refine xr_opI (pc' := 259) (lo' := [some (.ref v0), none, some (.int v2), none, some (.int v4)]) (st' := [.ref v0]) (o := ldF μ10 v0 9 39) rfl hx11 ?_
        refine xr_go 2 (pc' := 261) (lo' := [some (.ref v0), none, some (.int v2), none, some (.int v4)]) (st' := [.int (x11 + (xc 1)), .ref v0]) (μ' := μ10) rfl ?_
        obtain ⟨μ12, hμ12, h⟩ := Option.bind_eq_some_iff.mp h
        refine xr_opM (pc' := 264) (lo' := [some (.ref v0), none, some (.int v2), none, some (.int v4)]) (st' := []) (o := stF μ10 v0 9 39 (x11 + (xc 1))) rfl hμ12 ?_
        refine xr_forget (lo := [some (.ref v0), none, some (.int v2), none, some (.int v4)]) ⟨rfl, rfl, rfl, trivial⟩ ?_
        exact fM_findShows_264_ok h hK
      · replace h := (if_pos (Decidable.of_not_not (of_decide_eq_false hc))).symm.trans h
        refine xr_forget (lo := [some (.ref v0), none, none, none, none]) ⟨rfl, trivial⟩ ?_
        obtain ⟨o, h2, rfl⟩ := Option.map_eq_some_iff.mp h
        exact fM_findShows_226_ok h2 hK
theorem fM_findShows_L199_lp {d : Nat} {v0 : Nat} {v2 : Int32} {v4 : Int32} {μ : xM} {rv : Option Value} {μf : xM} {out : (Int32 × xM) ⊕ (Int32 × xM)} (h : xwh (fun s : Int32 × xM => fM_findShows_L199 v0 v2 s.1 s.2) (v4, μ) = some out) (hK : fM_findShows_K121 v0 d rv μf out) : xRun (d + 4) 182 199 [some (.ref v0), none, some (.int v2), none, some (.int v4)] [] μ rv μf :=
  xwh_ind (Rh := fun s : Int32 × xM => xRun (d + 4) 182 199 [some (.ref v0), none, some (.int v2), none, some (.int s.1)] [] s.2 rv μf) (Co := fM_findShows_K121 v0 d rv μf) (fun s o hb hk => fM_findShows_L199_ok hb hk) h hK
noncomputable def fM_findShows_196  (v0 : Nat) (v2 : Int32) (μ : xM) : Option ((Int32 × xM) ⊕ (Int32 × xM)) := xwh (fun s : Int32 × xM => fM_findShows_L199 v0 v2 s.1 s.2) (xc 0, μ)
theorem fM_findShows_196_ok {d : Nat} {v0 : Nat} {v2 : Int32} {μ : xM} {rv : Option Value} {μf : xM} {out : (Int32 × xM) ⊕ (Int32 × xM)} (h : fM_findShows_196 v0 v2 μ = some out) (hK : fM_findShows_K121 v0 d rv μf out) : xRun (d + 4) 182 196 [some (.ref v0), none, some (.int v2), none, none] [] μ rv μf := by
  unfold fM_findShows_196 at h
  refine xr_go 2 (pc' := 199) (lo' := [some (.ref v0), none, some (.int v2), none, some (.int (xc 0))]) (st' := []) (μ' := μ) rfl ?_
  refine xr_forget (lo := [some (.ref v0), none, some (.int v2), none, some (.int (xc 0))]) ⟨rfl, rfl, rfl, trivial⟩ ?_
  exact fM_findShows_L199_lp h hK
noncomputable def fM_findShows_L168  (v0 : Nat) (v2 : Int32) (v3 : Int32) (μ : xM) : Option ((Int32 × xM) ⊕ ((Int32 × xM) ⊕ (Int32 × xM))) := if v3 = 0 then ((fM_findShows_196 v0 v2 μ).map (fun o => .inr o)) else ((ldFR μ v0 9 50).bind fun x13 => (fM_termsOf v0 v2 μ).bind fun r14 => (stAZ μ x13 r14 (xc 1)).bind fun μ15 => (fM_nextWay v0 ((xc 10) + v2) (xc 0) μ15).bind fun r16 => some (.inl ((r16.1, r16.2))))
theorem fM_findShows_L168_ok {d : Nat} {v0 : Nat} {v2 : Int32} {v3 : Int32} {μ : xM} {rv : Option Value} {μf : xM} {out : (Int32 × xM) ⊕ ((Int32 × xM) ⊕ (Int32 × xM))} (h : fM_findShows_L168 v0 v2 v3 μ = some out) (hK : fM_findShows_K168 v0 v2 d rv μf out) : xRun (d + 4) 182 168 [some (.ref v0), none, some (.int v2), some (.int v3), none] [] μ rv μf := by
  unfold fM_findShows_L168 at h
  refine xr_go 1 (pc' := 169) (lo' := [some (.ref v0), none, some (.int v2), some (.int v3), none]) (st' := [.int v3]) (μ' := μ) rfl ?_
  refine xr_ifc (pct := 196) rfl rfl rfl (fun hc => ?_) (fun hc => ?_)
  · replace h := (if_pos (of_decide_eq_true hc)).symm.trans h
    refine xr_forget (lo := [some (.ref v0), none, some (.int v2), none, none]) ⟨rfl, rfl, trivial⟩ ?_
    obtain ⟨o, h2, rfl⟩ := Option.map_eq_some_iff.mp h
    exact fM_findShows_196_ok h2 hK
  · replace h := (if_neg (of_decide_eq_false hc)).symm.trans h
    refine xr_go 1 (pc' := 173) (lo' := [some (.ref v0), none, some (.int v2), some (.int v3), none]) (st' := [.ref v0]) (μ' := μ) rfl ?_
    obtain ⟨x13, hx13, h⟩ := Option.bind_eq_some_iff.mp h
    refine xr_opA (pc' := 176) (lo' := [some (.ref v0), none, some (.int v2), some (.int v3), none]) (st' := []) (o := ldFR μ v0 9 50) rfl hx13 ?_
    refine xr_go 2 (pc' := 178) (lo' := [some (.ref v0), none, some (.int v2), some (.int v3), none]) (st' := [.int v2, .ref v0, .ref x13]) (μ' := μ) rfl ?_
    obtain ⟨r14, hr14, h⟩ := Option.bind_eq_some_iff.mp h
    refine xr_callV (j := 180) (d' := (d + 3)) (rv1 := some (.int r14)) (μ1 := μ) (rest := [.ref x13]) (As := [.int v2]) rfl rfl rfl rfl (Nat.le_of_ble_eq_true rfl) (fM_termsOf_kd hr14) rfl (by exact (fM_termsOf_ok (d := d + (3)) hr14)) ?_
    refine xr_go 1 (pc' := 182) (lo' := [some (.ref v0), none, some (.int v2), some (.int v3), none]) (st' := [.int (xc 1), .int r14, .ref x13]) (μ' := μ) rfl ?_
    obtain ⟨μ15, hμ15, h⟩ := Option.bind_eq_some_iff.mp h
    refine xr_opM (pc' := 183) (lo' := [some (.ref v0), none, some (.int v2), some (.int v3), none]) (st' := []) (o := stAZ μ x13 r14 (xc 1)) rfl hμ15 ?_
    refine xr_go 5 (pc' := 189) (lo' := [some (.ref v0), none, some (.int v2), some (.int v3), none]) (st' := [.int (xc 0), .int ((xc 10) + v2), .ref v0]) (μ' := μ15) rfl ?_
    obtain ⟨r16, hr16, h⟩ := Option.bind_eq_some_iff.mp h
    refine xr_callV (j := 175) (d' := (d + 3)) (rv1 := some (.int r16.1)) (μ1 := r16.2) (rest := []) (As := [.int ((xc 10) + v2), .int (xc 0)]) rfl rfl rfl rfl (Nat.le_of_ble_eq_true rfl) (fM_nextWay_kd hr16) rfl (by exact (fM_nextWay_ok (d := d + (2)) hr16)) ?_
    refine xr_go 2 (pc' := 168) (lo' := [some (.ref v0), none, some (.int v2), some (.int r16.1), none]) (st' := []) (μ' := r16.2) rfl ?_
    refine xr_forget (lo := [some (.ref v0), none, some (.int v2), some (.int r16.1), none]) ⟨rfl, rfl, rfl, trivial⟩ ?_
    have ho := Option.some.inj h
    subst ho
    exact hK
theorem fM_findShows_L168_lp {d : Nat} {v0 : Nat} {v2 : Int32} {v3 : Int32} {μ : xM} {rv : Option Value} {μf : xM} {out : (Int32 × xM) ⊕ (Int32 × xM)} (h : xwh (fun s : Int32 × xM => fM_findShows_L168 v0 v2 s.1 s.2) (v3, μ) = some out) (hK : fM_findShows_K121 v0 d rv μf out) : xRun (d + 4) 182 168 [some (.ref v0), none, some (.int v2), some (.int v3), none] [] μ rv μf :=
  xwh_ind (Rh := fun s : Int32 × xM => xRun (d + 4) 182 168 [some (.ref v0), none, some (.int v2), some (.int s.1), none] [] s.2 rv μf) (Co := fM_findShows_K121 v0 d rv μf) (fun s o hb hk => fM_findShows_L168_ok hb hk) h hK
noncomputable def fM_findShows_158  (v0 : Nat) (v2 : Int32) (μ : xM) : Option ((Int32 × xM) ⊕ (Int32 × xM)) := (fM_nextWay v0 ((xc 10) + v2) (xc 1) μ).bind fun r17 => xwh (fun s : Int32 × xM => fM_findShows_L168 v0 v2 s.1 s.2) (r17.1, r17.2)
theorem fM_findShows_158_ok {d : Nat} {v0 : Nat} {v2 : Int32} {μ : xM} {rv : Option Value} {μf : xM} {out : (Int32 × xM) ⊕ (Int32 × xM)} (h : fM_findShows_158 v0 v2 μ = some out) (hK : fM_findShows_K121 v0 d rv μf out) : xRun (d + 4) 182 158 [some (.ref v0), none, some (.int v2), none, none] [] μ rv μf := by
  unfold fM_findShows_158 at h
  refine xr_go 5 (pc' := 164) (lo' := [some (.ref v0), none, some (.int v2), none, none]) (st' := [.int (xc 1), .int ((xc 10) + v2), .ref v0]) (μ' := μ) rfl ?_
  obtain ⟨r17, hr17, h⟩ := Option.bind_eq_some_iff.mp h
  refine xr_callV (j := 175) (d' := (d + 3)) (rv1 := some (.int r17.1)) (μ1 := r17.2) (rest := []) (As := [.int ((xc 10) + v2), .int (xc 1)]) rfl rfl rfl rfl (Nat.le_of_ble_eq_true rfl) (fM_nextWay_kd hr17) rfl (by exact (fM_nextWay_ok (d := d + (2)) hr17)) ?_
  refine xr_go 1 (pc' := 168) (lo' := [some (.ref v0), none, some (.int v2), some (.int r17.1), none]) (st' := []) (μ' := r17.2) rfl ?_
  refine xr_forget (lo := [some (.ref v0), none, some (.int v2), some (.int r17.1), none]) ⟨rfl, rfl, rfl, trivial⟩ ?_
  exact fM_findShows_L168_lp h hK
noncomputable def fM_findShows_L138  (v0 : Nat) (v2 : Int32) (v3 : Int32) (μ : xM) : Option ((Int32 × xM) ⊕ ((Int32 × xM) ⊕ (Int32 × xM))) := if (xc 343) ≤ v3 then ((fM_findShows_158 v0 v2 μ).map (fun o => .inr o)) else ((ldFR μ v0 9 50).bind fun x18 => (stAZ μ x18 v3 (xc 0)).bind fun μ19 => some (.inl ((v3 + xc 1, μ19))))
theorem fM_findShows_L138_ok {d : Nat} {v0 : Nat} {v2 : Int32} {v3 : Int32} {μ : xM} {rv : Option Value} {μf : xM} {out : (Int32 × xM) ⊕ ((Int32 × xM) ⊕ (Int32 × xM))} (h : fM_findShows_L138 v0 v2 v3 μ = some out) (hK : fM_findShows_K138 v0 v2 d rv μf out) : xRun (d + 4) 182 138 [some (.ref v0), none, some (.int v2), some (.int v3), none] [] μ rv μf := by
  unfold fM_findShows_L138 at h
  refine xr_go 2 (pc' := 142) (lo' := [some (.ref v0), none, some (.int v2), some (.int v3), none]) (st' := [.int (xc 343), .int v3]) (μ' := μ) rfl ?_
  refine xr_icmp (pct := 158) rfl rfl rfl (fun hc => ?_) (fun hc => ?_)
  · replace h := (if_pos (of_decide_eq_true hc)).symm.trans h
    refine xr_forget (lo := [some (.ref v0), none, some (.int v2), none, none]) ⟨rfl, rfl, trivial⟩ ?_
    obtain ⟨o, h2, rfl⟩ := Option.map_eq_some_iff.mp h
    exact fM_findShows_158_ok h2 hK
  · replace h := (if_neg (of_decide_eq_false hc)).symm.trans h
    refine xr_go 1 (pc' := 146) (lo' := [some (.ref v0), none, some (.int v2), some (.int v3), none]) (st' := [.ref v0]) (μ' := μ) rfl ?_
    obtain ⟨x18, hx18, h⟩ := Option.bind_eq_some_iff.mp h
    refine xr_opA (pc' := 149) (lo' := [some (.ref v0), none, some (.int v2), some (.int v3), none]) (st' := []) (o := ldFR μ v0 9 50) rfl hx18 ?_
    refine xr_go 2 (pc' := 151) (lo' := [some (.ref v0), none, some (.int v2), some (.int v3), none]) (st' := [.int (xc 0), .int v3, .ref x18]) (μ' := μ) rfl ?_
    obtain ⟨μ19, hμ19, h⟩ := Option.bind_eq_some_iff.mp h
    refine xr_opM (pc' := 152) (lo' := [some (.ref v0), none, some (.int v2), some (.int v3), none]) (st' := []) (o := stAZ μ x18 v3 (xc 0)) rfl hμ19 ?_
    refine xr_go 2 (pc' := 138) (lo' := [some (.ref v0), none, some (.int v2), some (.int (v3 + xc 1)), none]) (st' := []) (μ' := μ19) rfl ?_
    refine xr_forget (lo := [some (.ref v0), none, some (.int v2), some (.int (v3 + xc 1)), none]) ⟨rfl, rfl, rfl, trivial⟩ ?_
    have ho := Option.some.inj h
    subst ho
    exact hK
theorem fM_findShows_L138_lp {d : Nat} {v0 : Nat} {v2 : Int32} {v3 : Int32} {μ : xM} {rv : Option Value} {μf : xM} {out : (Int32 × xM) ⊕ (Int32 × xM)} (h : xwh (fun s : Int32 × xM => fM_findShows_L138 v0 v2 s.1 s.2) (v3, μ) = some out) (hK : fM_findShows_K121 v0 d rv μf out) : xRun (d + 4) 182 138 [some (.ref v0), none, some (.int v2), some (.int v3), none] [] μ rv μf :=
  xwh_ind (Rh := fun s : Int32 × xM => xRun (d + 4) 182 138 [some (.ref v0), none, some (.int v2), some (.int s.1), none] [] s.2 rv μf) (Co := fM_findShows_K121 v0 d rv μf) (fun s o hb hk => fM_findShows_L138_ok hb hk) h hK
noncomputable def fM_findShows_L121  (v0 : Nat) (v2 : Int32) (μ : xM) : Option ((Int32 × xM) ⊕ (Int32 × xM)) := (ldF μ v0 9 9).bind fun x20 => if x20 ≤ v2 then ((fM_findShows_276 μ).map (fun o => .inr o)) else ((ldF μ v0 9 35).bind fun x21 => if x21 = 0 then (xwh (fun s : Int32 × xM => fM_findShows_L138 v0 v2 s.1 s.2) (xc 0, μ)) else ((fM_findShows_276 μ).map (fun o => .inr o)))
theorem fM_findShows_L121_ok {d : Nat} {v0 : Nat} {v2 : Int32} {μ : xM} {rv : Option Value} {μf : xM} {out : (Int32 × xM) ⊕ (Int32 × xM)} (h : fM_findShows_L121 v0 v2 μ = some out) (hK : fM_findShows_K121 v0 d rv μf out) : xRun (d + 4) 182 121 [some (.ref v0), none, some (.int v2), none, none] [] μ rv μf := by
  unfold fM_findShows_L121 at h
  refine xr_go 2 (pc' := 123) (lo' := [some (.ref v0), none, some (.int v2), none, none]) (st' := [.ref v0, .int v2]) (μ' := μ) rfl ?_
  obtain ⟨x20, hx20, h⟩ := Option.bind_eq_some_iff.mp h
  refine xr_opI (pc' := 126) (lo' := [some (.ref v0), none, some (.int v2), none, none]) (st' := [.int v2]) (o := ldF μ v0 9 9) rfl hx20 ?_
  refine xr_icmp (pct := 276) rfl rfl rfl (fun hc => ?_) (fun hc => ?_)
  · replace h := (if_pos (of_decide_eq_true hc)).symm.trans h
    refine xr_forget (lo := [none, none, none, none, none]) trivial ?_
    obtain ⟨o, h2, rfl⟩ := Option.map_eq_some_iff.mp h
    exact fM_findShows_276_ok h2 hK
  · replace h := (if_neg (of_decide_eq_false hc)).symm.trans h
    refine xr_go 1 (pc' := 130) (lo' := [some (.ref v0), none, some (.int v2), none, none]) (st' := [.ref v0]) (μ' := μ) rfl ?_
    obtain ⟨x21, hx21, h⟩ := Option.bind_eq_some_iff.mp h
    refine xr_opI (pc' := 133) (lo' := [some (.ref v0), none, some (.int v2), none, none]) (st' := []) (o := ldF μ v0 9 35) rfl hx21 ?_
    refine xr_ifc (pct := 276) rfl rfl rfl (fun hc => ?_) (fun hc => ?_)
    · replace h := (if_neg (of_decide_eq_true hc)).symm.trans h
      refine xr_forget (lo := [none, none, none, none, none]) trivial ?_
      obtain ⟨o, h2, rfl⟩ := Option.map_eq_some_iff.mp h
      exact fM_findShows_276_ok h2 hK
    · replace h := (if_pos (Decidable.of_not_not (of_decide_eq_false hc))).symm.trans h
      refine xr_go 2 (pc' := 138) (lo' := [some (.ref v0), none, some (.int v2), some (.int (xc 0)), none]) (st' := []) (μ' := μ) rfl ?_
      refine xr_forget (lo := [some (.ref v0), none, some (.int v2), some (.int (xc 0)), none]) ⟨rfl, rfl, rfl, trivial⟩ ?_
      exact fM_findShows_L138_lp h hK
theorem fM_findShows_L121_lp {d : Nat} {v0 : Nat} {v2 : Int32} {μ : xM} {rv : Option Value} {μf : xM} {out : Int32 × xM} (h : xwh (fun s : Int32 × xM => fM_findShows_L121 v0 s.1 s.2) (v2, μ) = some out) (hK : fM_findShows_K rv μf out) : xRun (d + 4) 182 121 [some (.ref v0), none, some (.int v2), none, none] [] μ rv μf :=
  xwh_ind (Rh := fun s : Int32 × xM => xRun (d + 4) 182 121 [some (.ref v0), none, some (.int s.1), none, none] [] s.2 rv μf) (Co := fM_findShows_K rv μf) (fun s o hb hk => fM_findShows_L121_ok hb hk) h hK
noncomputable def fM_findShows_109  (v0 : Nat) (μ : xM) : Option (Int32 × xM) := (stF μ v0 9 39 (xc 0)).bind fun μ22 => (stFZ μ22 v0 9 40 (xc 0)).bind fun μ23 => xwh (fun s : Int32 × xM => fM_findShows_L121 v0 s.1 s.2) (xc 0, μ23)
theorem fM_findShows_109_ok {d : Nat} {v0 : Nat} {μ : xM} {rv : Option Value} {μf : xM} {out : Int32 × xM} (h : fM_findShows_109 v0 μ = some out) (hK : fM_findShows_K rv μf out) : xRun (d + 4) 182 109 [some (.ref v0), none, none, none, none] [] μ rv μf := by
  unfold fM_findShows_109 at h
  refine xr_go 2 (pc' := 111) (lo' := [some (.ref v0), none, none, none, none]) (st' := [.int (xc 0), .ref v0]) (μ' := μ) rfl ?_
  obtain ⟨μ22, hμ22, h⟩ := Option.bind_eq_some_iff.mp h
  refine xr_opM (pc' := 114) (lo' := [some (.ref v0), none, none, none, none]) (st' := []) (o := stF μ v0 9 39 (xc 0)) rfl hμ22 ?_
  refine xr_go 2 (pc' := 116) (lo' := [some (.ref v0), none, none, none, none]) (st' := [.int (xc 0), .ref v0]) (μ' := μ22) rfl ?_
  obtain ⟨μ23, hμ23, h⟩ := Option.bind_eq_some_iff.mp h
  refine xr_opM (pc' := 119) (lo' := [some (.ref v0), none, none, none, none]) (st' := []) (o := stFZ μ22 v0 9 40 (xc 0)) rfl hμ23 ?_
  refine xr_go 2 (pc' := 121) (lo' := [some (.ref v0), none, some (.int (xc 0)), none, none]) (st' := []) (μ' := μ23) rfl ?_
  refine xr_forget (lo := [some (.ref v0), none, some (.int (xc 0)), none, none]) ⟨rfl, rfl, trivial⟩ ?_
  exact fM_findShows_L121_lp h hK
noncomputable def fM_findShows_L83  (v0 : Nat) (v2 : Int32) (μ : xM) : Option ((Int32 × xM) ⊕ (Int32 × xM)) := (ldF μ v0 9 33).bind fun x24 => if x24 ≤ v2 then ((fM_findShows_109 v0 μ).map (fun o => .inr o)) else ((ldFR μ v0 9 48).bind fun x25 => (ldFR μ v0 9 34).bind fun x26 => (ldA μ x26 v2).bind fun x27 => (stA μ x25 v2 x27).bind fun μ28 => some (.inl ((v2 + xc 1, μ28))))
theorem fM_findShows_L83_ok {d : Nat} {v0 : Nat} {v2 : Int32} {μ : xM} {rv : Option Value} {μf : xM} {out : (Int32 × xM) ⊕ (Int32 × xM)} (h : fM_findShows_L83 v0 v2 μ = some out) (hK : fM_findShows_K83 v0 d rv μf out) : xRun (d + 4) 182 83 [some (.ref v0), none, some (.int v2), none, none] [] μ rv μf := by
  unfold fM_findShows_L83 at h
  refine xr_go 2 (pc' := 85) (lo' := [some (.ref v0), none, some (.int v2), none, none]) (st' := [.ref v0, .int v2]) (μ' := μ) rfl ?_
  obtain ⟨x24, hx24, h⟩ := Option.bind_eq_some_iff.mp h
  refine xr_opI (pc' := 88) (lo' := [some (.ref v0), none, some (.int v2), none, none]) (st' := [.int v2]) (o := ldF μ v0 9 33) rfl hx24 ?_
  refine xr_icmp (pct := 109) rfl rfl rfl (fun hc => ?_) (fun hc => ?_)
  · replace h := (if_pos (of_decide_eq_true hc)).symm.trans h
    refine xr_forget (lo := [some (.ref v0), none, none, none, none]) ⟨rfl, trivial⟩ ?_
    obtain ⟨o, h2, rfl⟩ := Option.map_eq_some_iff.mp h
    exact fM_findShows_109_ok h2 hK
  · replace h := (if_neg (of_decide_eq_false hc)).symm.trans h
    refine xr_go 1 (pc' := 92) (lo' := [some (.ref v0), none, some (.int v2), none, none]) (st' := [.ref v0]) (μ' := μ) rfl ?_
    obtain ⟨x25, hx25, h⟩ := Option.bind_eq_some_iff.mp h
    refine xr_opA (pc' := 95) (lo' := [some (.ref v0), none, some (.int v2), none, none]) (st' := []) (o := ldFR μ v0 9 48) rfl hx25 ?_
    refine xr_go 2 (pc' := 97) (lo' := [some (.ref v0), none, some (.int v2), none, none]) (st' := [.ref v0, .int v2, .ref x25]) (μ' := μ) rfl ?_
    obtain ⟨x26, hx26, h⟩ := Option.bind_eq_some_iff.mp h
    refine xr_opA (pc' := 100) (lo' := [some (.ref v0), none, some (.int v2), none, none]) (st' := [.int v2, .ref x25]) (o := ldFR μ v0 9 34) rfl hx26 ?_
    refine xr_go 1 (pc' := 101) (lo' := [some (.ref v0), none, some (.int v2), none, none]) (st' := [.int v2, .ref x26, .int v2, .ref x25]) (μ' := μ) rfl ?_
    obtain ⟨x27, hx27, h⟩ := Option.bind_eq_some_iff.mp h
    refine xr_opI (pc' := 102) (lo' := [some (.ref v0), none, some (.int v2), none, none]) (st' := [.int v2, .ref x25]) (o := ldA μ x26 v2) rfl hx27 ?_
    obtain ⟨μ28, hμ28, h⟩ := Option.bind_eq_some_iff.mp h
    refine xr_opM (pc' := 103) (lo' := [some (.ref v0), none, some (.int v2), none, none]) (st' := []) (o := stA μ x25 v2 x27) rfl hμ28 ?_
    refine xr_go 2 (pc' := 83) (lo' := [some (.ref v0), none, some (.int (v2 + xc 1)), none, none]) (st' := []) (μ' := μ28) rfl ?_
    refine xr_forget (lo := [some (.ref v0), none, some (.int (v2 + xc 1)), none, none]) ⟨rfl, rfl, trivial⟩ ?_
    have ho := Option.some.inj h
    subst ho
    exact hK
theorem fM_findShows_L83_lp {d : Nat} {v0 : Nat} {v2 : Int32} {μ : xM} {rv : Option Value} {μf : xM} {out : Int32 × xM} (h : xwh (fun s : Int32 × xM => fM_findShows_L83 v0 s.1 s.2) (v2, μ) = some out) (hK : fM_findShows_K rv μf out) : xRun (d + 4) 182 83 [some (.ref v0), none, some (.int v2), none, none] [] μ rv μf :=
  xwh_ind (Rh := fun s : Int32 × xM => xRun (d + 4) 182 83 [some (.ref v0), none, some (.int s.1), none, none] [] s.2 rv μf) (Co := fM_findShows_K rv μf) (fun s o hb hk => fM_findShows_L83_ok hb hk) h hK
noncomputable def fM_findShows_81  (v0 : Nat) (μ : xM) : Option (Int32 × xM) := xwh (fun s : Int32 × xM => fM_findShows_L83 v0 s.1 s.2) (xc 0, μ)
theorem fM_findShows_81_ok {d : Nat} {v0 : Nat} {μ : xM} {rv : Option Value} {μf : xM} {out : Int32 × xM} (h : fM_findShows_81 v0 μ = some out) (hK : fM_findShows_K rv μf out) : xRun (d + 4) 182 81 [some (.ref v0), none, none, none, none] [] μ rv μf := by
  unfold fM_findShows_81 at h
  refine xr_go 2 (pc' := 83) (lo' := [some (.ref v0), none, some (.int (xc 0)), none, none]) (st' := []) (μ' := μ) rfl ?_
  refine xr_forget (lo := [some (.ref v0), none, some (.int (xc 0)), none, none]) ⟨rfl, rfl, trivial⟩ ?_
  exact fM_findShows_L83_lp h hK
noncomputable def fM_findShows_L31  (v0 : Nat) (v2 : Int32) (μ : xM) : Option ((Int32 × xM) ⊕ (Int32 × xM)) := (ldF μ v0 9 29).bind fun x29 => if x29 ≤ v2 then ((fM_findShows_81 v0 μ).map (fun o => .inr o)) else ((ldFR μ v0 9 44).bind fun x30 => (ldFR μ v0 9 30).bind fun x31 => (ldA μ x31 v2).bind fun x32 => (stA μ x30 v2 x32).bind fun μ33 => (ldFR μ33 v0 9 45).bind fun x34 => (ldFR μ33 v0 9 31).bind fun x35 => (ldA μ33 x35 v2).bind fun x36 => (stA μ33 x34 v2 x36).bind fun μ37 => (ldFR μ37 v0 9 46).bind fun x38 => (ldFR μ37 v0 9 32).bind fun x39 => (ldA μ37 x39 v2).bind fun x40 => (stA μ37 x38 v2 x40).bind fun μ41 => some (.inl ((v2 + xc 1, μ41))))
theorem fM_findShows_L31_ok {d : Nat} {v0 : Nat} {v2 : Int32} {μ : xM} {rv : Option Value} {μf : xM} {out : (Int32 × xM) ⊕ (Int32 × xM)} (h : fM_findShows_L31 v0 v2 μ = some out) (hK : fM_findShows_K31 v0 d rv μf out) : xRun (d + 4) 182 31 [some (.ref v0), none, some (.int v2), none, none] [] μ rv μf := by
  unfold fM_findShows_L31 at h
  refine xr_go 2 (pc' := 33) (lo' := [some (.ref v0), none, some (.int v2), none, none]) (st' := [.ref v0, .int v2]) (μ' := μ) rfl ?_
  obtain ⟨x29, hx29, h⟩ := Option.bind_eq_some_iff.mp h
  refine xr_opI (pc' := 36) (lo' := [some (.ref v0), none, some (.int v2), none, none]) (st' := [.int v2]) (o := ldF μ v0 9 29) rfl hx29 ?_
  refine xr_icmp (pct := 81) rfl rfl rfl (fun hc => ?_) (fun hc => ?_)
  · replace h := (if_pos (of_decide_eq_true hc)).symm.trans h
    refine xr_forget (lo := [some (.ref v0), none, none, none, none]) ⟨rfl, trivial⟩ ?_
    obtain ⟨o, h2, rfl⟩ := Option.map_eq_some_iff.mp h
    exact fM_findShows_81_ok h2 hK
  · replace h := (if_neg (of_decide_eq_false hc)).symm.trans h
    refine xr_go 1 (pc' := 40) (lo' := [some (.ref v0), none, some (.int v2), none, none]) (st' := [.ref v0]) (μ' := μ) rfl ?_
    obtain ⟨x30, hx30, h⟩ := Option.bind_eq_some_iff.mp h
    refine xr_opA (pc' := 43) (lo' := [some (.ref v0), none, some (.int v2), none, none]) (st' := []) (o := ldFR μ v0 9 44) rfl hx30 ?_
    refine xr_go 2 (pc' := 45) (lo' := [some (.ref v0), none, some (.int v2), none, none]) (st' := [.ref v0, .int v2, .ref x30]) (μ' := μ) rfl ?_
    obtain ⟨x31, hx31, h⟩ := Option.bind_eq_some_iff.mp h
    refine xr_opA (pc' := 48) (lo' := [some (.ref v0), none, some (.int v2), none, none]) (st' := [.int v2, .ref x30]) (o := ldFR μ v0 9 30) rfl hx31 ?_
    refine xr_go 1 (pc' := 49) (lo' := [some (.ref v0), none, some (.int v2), none, none]) (st' := [.int v2, .ref x31, .int v2, .ref x30]) (μ' := μ) rfl ?_
    obtain ⟨x32, hx32, h⟩ := Option.bind_eq_some_iff.mp h
    refine xr_opI (pc' := 50) (lo' := [some (.ref v0), none, some (.int v2), none, none]) (st' := [.int v2, .ref x30]) (o := ldA μ x31 v2) rfl hx32 ?_
    obtain ⟨μ33, hμ33, h⟩ := Option.bind_eq_some_iff.mp h
    refine xr_opM (pc' := 51) (lo' := [some (.ref v0), none, some (.int v2), none, none]) (st' := []) (o := stA μ x30 v2 x32) rfl hμ33 ?_
    refine xr_go 1 (pc' := 52) (lo' := [some (.ref v0), none, some (.int v2), none, none]) (st' := [.ref v0]) (μ' := μ33) rfl ?_
    obtain ⟨x34, hx34, h⟩ := Option.bind_eq_some_iff.mp h
    refine xr_opA (pc' := 55) (lo' := [some (.ref v0), none, some (.int v2), none, none]) (st' := []) (o := ldFR μ33 v0 9 45) rfl hx34 ?_
    refine xr_go 2 (pc' := 57) (lo' := [some (.ref v0), none, some (.int v2), none, none]) (st' := [.ref v0, .int v2, .ref x34]) (μ' := μ33) rfl ?_
    obtain ⟨x35, hx35, h⟩ := Option.bind_eq_some_iff.mp h
    refine xr_opA (pc' := 60) (lo' := [some (.ref v0), none, some (.int v2), none, none]) (st' := [.int v2, .ref x34]) (o := ldFR μ33 v0 9 31) rfl hx35 ?_
    refine xr_go 1 (pc' := 61) (lo' := [some (.ref v0), none, some (.int v2), none, none]) (st' := [.int v2, .ref x35, .int v2, .ref x34]) (μ' := μ33) rfl ?_
    obtain ⟨x36, hx36, h⟩ := Option.bind_eq_some_iff.mp h
    refine xr_opI (pc' := 62) (lo' := [some (.ref v0), none, some (.int v2), none, none]) (st' := [.int v2, .ref x34]) (o := ldA μ33 x35 v2) rfl hx36 ?_
    obtain ⟨μ37, hμ37, h⟩ := Option.bind_eq_some_iff.mp h
    refine xr_opM (pc' := 63) (lo' := [some (.ref v0), none, some (.int v2), none, none]) (st' := []) (o := stA μ33 x34 v2 x36) rfl hμ37 ?_
    refine xr_go 1 (pc' := 64) (lo' := [some (.ref v0), none, some (.int v2), none, none]) (st' := [.ref v0]) (μ' := μ37) rfl ?_
    obtain ⟨x38, hx38, h⟩ := Option.bind_eq_some_iff.mp h
    refine xr_opA (pc' := 67) (lo' := [some (.ref v0), none, some (.int v2), none, none]) (st' := []) (o := ldFR μ37 v0 9 46) rfl hx38 ?_
    refine xr_go 2 (pc' := 69) (lo' := [some (.ref v0), none, some (.int v2), none, none]) (st' := [.ref v0, .int v2, .ref x38]) (μ' := μ37) rfl ?_
    obtain ⟨x39, hx39, h⟩ := Option.bind_eq_some_iff.mp h
    refine xr_opA (pc' := 72) (lo' := [some (.ref v0), none, some (.int v2), none, none]) (st' := [.int v2, .ref x38]) (o := ldFR μ37 v0 9 32) rfl hx39 ?_
    refine xr_go 1 (pc' := 73) (lo' := [some (.ref v0), none, some (.int v2), none, none]) (st' := [.int v2, .ref x39, .int v2, .ref x38]) (μ' := μ37) rfl ?_
    obtain ⟨x40, hx40, h⟩ := Option.bind_eq_some_iff.mp h
    refine xr_opI (pc' := 74) (lo' := [some (.ref v0), none, some (.int v2), none, none]) (st' := [.int v2, .ref x38]) (o := ldA μ37 x39 v2) rfl hx40 ?_
    obtain ⟨μ41, hμ41, h⟩ := Option.bind_eq_some_iff.mp h
    refine xr_opM (pc' := 75) (lo' := [some (.ref v0), none, some (.int v2), none, none]) (st' := []) (o := stA μ37 x38 v2 x40) rfl hμ41 ?_
    refine xr_go 2 (pc' := 31) (lo' := [some (.ref v0), none, some (.int (v2 + xc 1)), none, none]) (st' := []) (μ' := μ41) rfl ?_
    refine xr_forget (lo := [some (.ref v0), none, some (.int (v2 + xc 1)), none, none]) ⟨rfl, rfl, trivial⟩ ?_
    have ho := Option.some.inj h
    subst ho
    exact hK
theorem fM_findShows_L31_lp {d : Nat} {v0 : Nat} {v2 : Int32} {μ : xM} {rv : Option Value} {μf : xM} {out : Int32 × xM} (h : xwh (fun s : Int32 × xM => fM_findShows_L31 v0 s.1 s.2) (v2, μ) = some out) (hK : fM_findShows_K rv μf out) : xRun (d + 4) 182 31 [some (.ref v0), none, some (.int v2), none, none] [] μ rv μf :=
  xwh_ind (Rh := fun s : Int32 × xM => xRun (d + 4) 182 31 [some (.ref v0), none, some (.int s.1), none, none] [] s.2 rv μf) (Co := fM_findShows_K rv μf) (fun s o hb hk => fM_findShows_L31_ok hb hk) h hK
noncomputable def fM_findShows_0  (v0 : Nat) (v1 : Int32) (μ : xM) : Option (Int32 × xM) := (fM_findEnd v0 v1 μ).bind fun r42 => (ldF r42 v0 9 35).bind fun x43 => (stFZ r42 v0 9 49 x43).bind fun μ44 => (ldF μ44 v0 9 29).bind fun x45 => (stF μ44 v0 9 43 x45).bind fun μ46 => (ldF μ46 v0 9 33).bind fun x47 => (stF μ46 v0 9 47 x47).bind fun μ48 => xwh (fun s : Int32 × xM => fM_findShows_L31 v0 s.1 s.2) (xc 0, μ48)
theorem fM_findShows_0_ok {d : Nat} {v0 : Nat} {v1 : Int32} {μ : xM} {rv : Option Value} {μf : xM} {out : Int32 × xM} (h : fM_findShows_0 v0 v1 μ = some out) (hK : fM_findShows_K rv μf out) : xRun (d + 4) 182 0 [some (.ref v0), some (.int v1), none, none, none] [] μ rv μf := by
  unfold fM_findShows_0 at h
  refine xr_go 2 (pc' := 2) (lo' := [some (.ref v0), some (.int v1), none, none, none]) (st' := [.int v1, .ref v0]) (μ' := μ) rfl ?_
  obtain ⟨r42, hr42, h⟩ := Option.bind_eq_some_iff.mp h
  refine xr_callV (j := 171) (d' := (d + 3)) (rv1 := none) (μ1 := r42) (rest := []) (As := [.int v1]) rfl rfl rfl rfl (Nat.le_of_ble_eq_true rfl) (fM_findEnd_kd hr42) rfl (by exact (fM_findEnd_ok (d := d + (0)) hr42)) ?_
  refine xr_go 2 (pc' := 7) (lo' := [some (.ref v0), some (.int v1), none, none, none]) (st' := [.ref v0, .ref v0]) (μ' := r42) rfl ?_
  obtain ⟨x43, hx43, h⟩ := Option.bind_eq_some_iff.mp h
  refine xr_opI (pc' := 10) (lo' := [some (.ref v0), some (.int v1), none, none, none]) (st' := [.ref v0]) (o := ldF r42 v0 9 35) rfl hx43 ?_
  obtain ⟨μ44, hμ44, h⟩ := Option.bind_eq_some_iff.mp h
  refine xr_opM (pc' := 13) (lo' := [some (.ref v0), some (.int v1), none, none, none]) (st' := []) (o := stFZ r42 v0 9 49 x43) rfl hμ44 ?_
  refine xr_go 2 (pc' := 15) (lo' := [some (.ref v0), some (.int v1), none, none, none]) (st' := [.ref v0, .ref v0]) (μ' := μ44) rfl ?_
  obtain ⟨x45, hx45, h⟩ := Option.bind_eq_some_iff.mp h
  refine xr_opI (pc' := 18) (lo' := [some (.ref v0), some (.int v1), none, none, none]) (st' := [.ref v0]) (o := ldF μ44 v0 9 29) rfl hx45 ?_
  obtain ⟨μ46, hμ46, h⟩ := Option.bind_eq_some_iff.mp h
  refine xr_opM (pc' := 21) (lo' := [some (.ref v0), some (.int v1), none, none, none]) (st' := []) (o := stF μ44 v0 9 43 x45) rfl hμ46 ?_
  refine xr_go 2 (pc' := 23) (lo' := [some (.ref v0), some (.int v1), none, none, none]) (st' := [.ref v0, .ref v0]) (μ' := μ46) rfl ?_
  obtain ⟨x47, hx47, h⟩ := Option.bind_eq_some_iff.mp h
  refine xr_opI (pc' := 26) (lo' := [some (.ref v0), some (.int v1), none, none, none]) (st' := [.ref v0]) (o := ldF μ46 v0 9 33) rfl hx47 ?_
  obtain ⟨μ48, hμ48, h⟩ := Option.bind_eq_some_iff.mp h
  refine xr_opM (pc' := 29) (lo' := [some (.ref v0), some (.int v1), none, none, none]) (st' := []) (o := stF μ46 v0 9 47 x47) rfl hμ48 ?_
  refine xr_go 2 (pc' := 31) (lo' := [some (.ref v0), some (.int v1), some (.int (xc 0)), none, none]) (st' := []) (μ' := μ48) rfl ?_
  refine xr_forget (lo := [some (.ref v0), none, some (.int (xc 0)), none, none]) ⟨rfl, rfl, trivial⟩ ?_
  exact fM_findShows_L31_lp h hK
noncomputable def fM_findShows (a0 : Nat) (a1 : Int32) (μ : xM) : Option (Int32 × xM) := xgd μ a0 9 (fM_findShows_0 a0 a1 μ)
theorem fM_findShows_kd {a0 : Nat} {a1 : Int32} {μ : xM} {o : Int32 × xM} (h : fM_findShows a0 a1 μ = some o) : (xK μ a0).1 = 10 + 9 := (xgd_some h).1
theorem fM_findShows_ok {d : Nat} {a0 : Nat} {a1 : Int32} {μ : xM} {o : Int32 × xM} (h : fM_findShows a0 a1 μ = some o) : xRun (d + 4) 182 0 [some (.ref a0), some (.int a1), none, none, none] [] μ (some (.int o.1)) o.2 :=
  xr_forget (lo := [some (.ref a0), some (.int a1), none, none, none]) (⟨rfl, rfl, trivial⟩) (fM_findShows_0_ok (d := d) (xgd_some h).2 (show fM_findShows_K _ _ o from ⟨rfl, rfl⟩))
-- KeptAnswersModel.shows(I)I 
def fM_shows_K (rv : Option Value) (μf : xM) : (Int32 × xM) → Prop := fun o => rv = some (.int o.1) ∧ μf = o.2
noncomputable def fM_shows_0  (v0 : Nat) (v1 : Int32) (μ : xM) : Option (Int32 × xM) := (fM_isAsk v0 v1 μ).bind fun r1 => if r1 = 0 then ((fM_refuse v0 (xc (-1)) μ).bind fun r5 => some ((r5.1, r5.2))) else ((fM_findShows v0 v1 μ).bind fun r2 => if r2.1 = 0 then ((fM_refuse v0 (xc (-5)) r2.2).bind fun r3 => some ((r3.1, r3.2))) else ((ldF r2.2 v0 9 39).bind fun x4 => some ((x4, r2.2))))
theorem fM_shows_0_ok {d : Nat} {v0 : Nat} {v1 : Int32} {μ : xM} {rv : Option Value} {μf : xM} {out : Int32 × xM} (h : fM_shows_0 v0 v1 μ = some out) (hK : fM_shows_K rv μf out) : xRun (d + 5) 183 0 [some (.ref v0), some (.int v1)] [] μ rv μf := by
  unfold fM_shows_0 at h
  refine xr_go 2 (pc' := 2) (lo' := [some (.ref v0), some (.int v1)]) (st' := [.int v1, .ref v0]) (μ' := μ) rfl ?_
  obtain ⟨r1, hr1, h⟩ := Option.bind_eq_some_iff.mp h
  refine xr_callV (j := 139) (d' := (d + 4)) (rv1 := some (.int r1)) (μ1 := μ) (rest := []) (As := [.int v1]) rfl rfl rfl rfl (Nat.le_of_ble_eq_true rfl) (fM_isAsk_kd hr1) rfl (by exact (fM_isAsk_ok (d := d + (3)) hr1)) ?_
  refine xr_ifc (pct := 14) rfl rfl rfl (fun hc => ?_) (fun hc => ?_)
  · replace h := (if_neg (of_decide_eq_true hc)).symm.trans h
    refine xr_go 2 (pc' := 16) (lo' := [some (.ref v0), some (.int v1)]) (st' := [.int v1, .ref v0]) (μ' := μ) rfl ?_
    obtain ⟨r2, hr2, h⟩ := Option.bind_eq_some_iff.mp h
    refine xr_callV (j := 182) (d' := (d + 4)) (rv1 := some (.int r2.1)) (μ1 := r2.2) (rest := []) (As := [.int v1]) rfl rfl rfl rfl (Nat.le_of_ble_eq_true rfl) (fM_findShows_kd hr2) rfl (by exact (fM_findShows_ok (d := d + (0)) hr2)) ?_
    refine xr_ifc (pct := 29) rfl rfl rfl (fun hc => ?_) (fun hc => ?_)
    · replace h := (if_pos (of_decide_eq_true hc)).symm.trans h
      refine xr_go 2 (pc' := 32) (lo' := [some (.ref v0), some (.int v1)]) (st' := [.int (xc (-5)), .ref v0]) (μ' := r2.2) rfl ?_
      obtain ⟨r3, hr3, h⟩ := Option.bind_eq_some_iff.mp h
      refine xr_callV (j := 138) (d' := (d + 4)) (rv1 := some (.int r3.1)) (μ1 := r3.2) (rest := []) (As := [.int (xc (-5))]) rfl rfl rfl rfl (Nat.le_of_ble_eq_true rfl) (fM_refuse_kd hr3) rfl (by exact (fM_refuse_ok (d := d + (4)) hr3)) ?_
      have ho := Option.some.inj h
      subst ho
      obtain ⟨rfl, rfl⟩ := hK
      exact xr_ret (rv := some (.int r3.1)) rfl rfl (Or.inl rfl)
    · replace h := (if_neg (of_decide_eq_false hc)).symm.trans h
      refine xr_go 1 (pc' := 23) (lo' := [some (.ref v0), some (.int v1)]) (st' := [.ref v0]) (μ' := r2.2) rfl ?_
      obtain ⟨x4, hx4, h⟩ := Option.bind_eq_some_iff.mp h
      refine xr_opI (pc' := 26) (lo' := [some (.ref v0), some (.int v1)]) (st' := []) (o := ldF r2.2 v0 9 39) rfl hx4 ?_
      refine xr_go 1 (pc' := 35) (lo' := [some (.ref v0), some (.int v1)]) (st' := [.int x4]) (μ' := r2.2) rfl ?_
      have ho := Option.some.inj h
      subst ho
      obtain ⟨rfl, rfl⟩ := hK
      exact xr_ret (rv := some (.int x4)) rfl rfl (Or.inl rfl)
  · replace h := (if_pos (Decidable.of_not_not (of_decide_eq_false hc))).symm.trans h
    refine xr_go 2 (pc' := 10) (lo' := [some (.ref v0), some (.int v1)]) (st' := [.int (xc (-1)), .ref v0]) (μ' := μ) rfl ?_
    obtain ⟨r5, hr5, h⟩ := Option.bind_eq_some_iff.mp h
    refine xr_callV (j := 138) (d' := (d + 4)) (rv1 := some (.int r5.1)) (μ1 := r5.2) (rest := []) (As := [.int (xc (-1))]) rfl rfl rfl rfl (Nat.le_of_ble_eq_true rfl) (fM_refuse_kd hr5) rfl (by exact (fM_refuse_ok (d := d + (4)) hr5)) ?_
    have ho := Option.some.inj h
    subst ho
    obtain ⟨rfl, rfl⟩ := hK
    exact xr_ret (rv := some (.int r5.1)) rfl rfl (Or.inl rfl)
noncomputable def fM_shows (a0 : Nat) (a1 : Int32) (μ : xM) : Option (Int32 × xM) := xgd μ a0 9 (fM_shows_0 a0 a1 μ)
theorem fM_shows_kd {a0 : Nat} {a1 : Int32} {μ : xM} {o : Int32 × xM} (h : fM_shows a0 a1 μ = some o) : (xK μ a0).1 = 10 + 9 := (xgd_some h).1
theorem fM_shows_ok {d : Nat} {a0 : Nat} {a1 : Int32} {μ : xM} {o : Int32 × xM} (h : fM_shows a0 a1 μ = some o) : xRun (d + 5) 183 0 [some (.ref a0), some (.int a1)] [] μ (some (.int o.1)) o.2 :=
  xr_forget (lo := [some (.ref a0), some (.int a1)]) (⟨rfl, rfl, trivial⟩) (fM_shows_0_ok (d := d) (xgd_some h).2 (show fM_shows_K _ _ o from ⟨rfl, rfl⟩))
-- KeptAnswers$Sight.viewOf(I)I 
def fS_viewOf_K (μ : xM) (rv : Option Value) (μf : xM) : (Int32) → Prop := fun o => rv = some (.int o) ∧ μf = μ
noncomputable def fS_viewOf_0  (v0 : Nat) (v1 : Int32) (μ : xM) : Option (Int32) := (ldFR μ v0 6 1).bind fun x1 => (ldA μ x1 v1).bind fun x2 => some (x2 >>> ((xc 9) &&& 31))
theorem fS_viewOf_0_ok {d : Nat} {v0 : Nat} {v1 : Int32} {μ : xM} {rv : Option Value} {μf : xM} {out : Int32} (h : fS_viewOf_0 v0 v1 μ = some out) (hK : fS_viewOf_K μ rv μf out) : xRun (d + 0) 100 0 [some (.ref v0), some (.int v1)] [] μ rv μf := by
  unfold fS_viewOf_0 at h
  refine xr_go 1 (pc' := 1) (lo' := [some (.ref v0), some (.int v1)]) (st' := [.ref v0]) (μ' := μ) rfl ?_
  obtain ⟨x1, hx1, h⟩ := Option.bind_eq_some_iff.mp h
  refine xr_opA (pc' := 4) (lo' := [some (.ref v0), some (.int v1)]) (st' := []) (o := ldFR μ v0 6 1) rfl hx1 ?_
  refine xr_go 1 (pc' := 5) (lo' := [some (.ref v0), some (.int v1)]) (st' := [.int v1, .ref x1]) (μ' := μ) rfl ?_
  obtain ⟨x2, hx2, h⟩ := Option.bind_eq_some_iff.mp h
  refine xr_opI (pc' := 6) (lo' := [some (.ref v0), some (.int v1)]) (st' := []) (o := ldA μ x1 v1) rfl hx2 ?_
  refine xr_go 2 (pc' := 9) (lo' := [some (.ref v0), some (.int v1)]) (st' := [.int (x2 >>> ((xc 9) &&& 31))]) (μ' := μ) rfl ?_
  have ho := Option.some.inj h
  subst ho
  obtain ⟨rfl, rfl⟩ := hK
  exact xr_ret (rv := some (.int (x2 >>> ((xc 9) &&& 31)))) rfl rfl (Or.inl rfl)
noncomputable def fS_viewOf (a0 : Nat) (a1 : Int32) (μ : xM) : Option (Int32) := xgd μ a0 6 (fS_viewOf_0 a0 a1 μ)
theorem fS_viewOf_kd {a0 : Nat} {a1 : Int32} {μ : xM} {o : Int32} (h : fS_viewOf a0 a1 μ = some o) : (xK μ a0).1 = 10 + 6 := (xgd_some h).1
theorem fS_viewOf_ok {d : Nat} {a0 : Nat} {a1 : Int32} {μ : xM} {o : Int32} (h : fS_viewOf a0 a1 μ = some o) : xRun (d + 0) 100 0 [some (.ref a0), some (.int a1)] [] μ (some (.int o)) μ :=
  xr_forget (lo := [some (.ref a0), some (.int a1)]) (⟨rfl, rfl, trivial⟩) (fS_viewOf_0_ok (d := d) (xgd_some h).2 (show fS_viewOf_K μ _ _ o from ⟨rfl, rfl⟩))
-- KeptAnswers$Sight.termOf(II)I 
def fS_termOf_K (μ : xM) (rv : Option Value) (μf : xM) : (Int32) → Prop := fun o => rv = some (.int o) ∧ μf = μ
noncomputable def fS_termOf_0  (v0 : Nat) (v1 : Int32) (v2 : Int32) (μ : xM) : Option (Int32) := (ldFR μ v0 6 1).bind fun x1 => (ldA μ x1 v1).bind fun x2 => some ((x2 >>> (((xc 3) * ((xc 2) - v2)) &&& 31)) &&& (xc 7))
theorem fS_termOf_0_ok {d : Nat} {v0 : Nat} {v1 : Int32} {v2 : Int32} {μ : xM} {rv : Option Value} {μf : xM} {out : Int32} (h : fS_termOf_0 v0 v1 v2 μ = some out) (hK : fS_termOf_K μ rv μf out) : xRun (d + 0) 101 0 [some (.ref v0), some (.int v1), some (.int v2)] [] μ rv μf := by
  unfold fS_termOf_0 at h
  refine xr_go 1 (pc' := 1) (lo' := [some (.ref v0), some (.int v1), some (.int v2)]) (st' := [.ref v0]) (μ' := μ) rfl ?_
  obtain ⟨x1, hx1, h⟩ := Option.bind_eq_some_iff.mp h
  refine xr_opA (pc' := 4) (lo' := [some (.ref v0), some (.int v1), some (.int v2)]) (st' := []) (o := ldFR μ v0 6 1) rfl hx1 ?_
  refine xr_go 1 (pc' := 5) (lo' := [some (.ref v0), some (.int v1), some (.int v2)]) (st' := [.int v1, .ref x1]) (μ' := μ) rfl ?_
  obtain ⟨x2, hx2, h⟩ := Option.bind_eq_some_iff.mp h
  refine xr_opI (pc' := 6) (lo' := [some (.ref v0), some (.int v1), some (.int v2)]) (st' := []) (o := ldA μ x1 v1) rfl hx2 ?_
  refine xr_go 8 (pc' := 15) (lo' := [some (.ref v0), some (.int v1), some (.int v2)]) (st' := [.int ((x2 >>> (((xc 3) * ((xc 2) - v2)) &&& 31)) &&& (xc 7))]) (μ' := μ) rfl ?_
  have ho := Option.some.inj h
  subst ho
  obtain ⟨rfl, rfl⟩ := hK
  exact xr_ret (rv := some (.int ((x2 >>> (((xc 3) * ((xc 2) - v2)) &&& 31)) &&& (xc 7)))) rfl rfl (Or.inl rfl)
noncomputable def fS_termOf (a0 : Nat) (a1 : Int32) (a2 : Int32) (μ : xM) : Option (Int32) := xgd μ a0 6 (fS_termOf_0 a0 a1 a2 μ)
theorem fS_termOf_kd {a0 : Nat} {a1 : Int32} {a2 : Int32} {μ : xM} {o : Int32} (h : fS_termOf a0 a1 a2 μ = some o) : (xK μ a0).1 = 10 + 6 := (xgd_some h).1
theorem fS_termOf_ok {d : Nat} {a0 : Nat} {a1 : Int32} {a2 : Int32} {μ : xM} {o : Int32} (h : fS_termOf a0 a1 a2 μ = some o) : xRun (d + 0) 101 0 [some (.ref a0), some (.int a1), some (.int a2)] [] μ (some (.int o)) μ :=
  xr_forget (lo := [some (.ref a0), some (.int a1), some (.int a2)]) (⟨rfl, rfl, rfl, trivial⟩) (fS_termOf_0_ok (d := d) (xgd_some h).2 (show fS_termOf_K μ _ _ o from ⟨rfl, rfl⟩))
-- KeptAnswers.show(II)I 
def fX_show_K (rv : Option Value) (μf : xM) : (Int32 × xM) → Prop := fun o => rv = some (.int o.1) ∧ μf = o.2
def fX_show_K64 (v0 : Nat) (v2 : Int32) (v4 : Nat) (v5 : Int32) (μ : xM) (d : Nat) (rv : Option Value) (μf : xM) : ((Int32 × Int32 × Int32) ⊕ (Int32 × xM)) → Prop := Sum.elim (fun s : Int32 × Int32 × Int32 => xRun (d + 13) 17 64 [some (.ref v0), none, some (.int v2), none, some (.ref v4), some (.int v5), some (.int s.1), some (.int s.2.1), some (.int s.2.2)] [] μ rv μf) (fX_show_K rv μf)
noncomputable def fX_show_113  (v6 : Int32) (μ : xM) : Option (Int32 × xM) := some ((v6, μ))
theorem fX_show_113_ok {d : Nat} {v6 : Int32} {μ : xM} {rv : Option Value} {μf : xM} {out : Int32 × xM} (h : fX_show_113 v6 μ = some out) (hK : fX_show_K rv μf out) : xRun (d + 13) 17 113 [none, none, none, none, none, none, some (.int v6), none, none] [] μ rv μf := by
  unfold fX_show_113 at h
  refine xr_go 1 (pc' := 115) (lo' := [none, none, none, none, none, none, some (.int v6), none, none]) (st' := [.int v6]) (μ' := μ) rfl ?_
  have ho := Option.some.inj h
  subst ho
  obtain ⟨rfl, rfl⟩ := hK
  exact xr_ret (rv := some (.int v6)) rfl rfl (Or.inl rfl)
noncomputable def fX_show_L64  (v0 : Nat) (v2 : Int32) (v4 : Nat) (v5 : Int32) (v6 : Int32) (v7 : Int32) (v8 : Int32) (μ : xM) : Option ((Int32 × Int32 × Int32) ⊕ (Int32 × xM)) := (ldFR μ v0 0 0).bind fun x1 => (ldFR μ x1 3 9).bind fun x2 => (ldAR μ x2 v5).bind fun x3 => (ldF μ x3 5 4).bind fun x4 => if x4 ≤ v8 then ((fX_show_113 v6 μ).map (fun o => .inr o)) else ((fS_termOf v4 v2 v8 μ).bind fun r5 => some (.inl ((v6 + (v7 * (r5 + (xc 1))), v7 * (xc 10), v8 + xc 1))))
theorem fX_show_L64_ok {d : Nat} {v0 : Nat} {v2 : Int32} {v4 : Nat} {v5 : Int32} {v6 : Int32} {v7 : Int32} {v8 : Int32} {μ : xM} {rv : Option Value} {μf : xM} {out : (Int32 × Int32 × Int32) ⊕ (Int32 × xM)} (h : fX_show_L64 v0 v2 v4 v5 v6 v7 v8 μ = some out) (hK : fX_show_K64 v0 v2 v4 v5 μ d rv μf out) : xRun (d + 13) 17 64 [some (.ref v0), none, some (.int v2), none, some (.ref v4), some (.int v5), some (.int v6), some (.int v7), some (.int v8)] [] μ rv μf := by
  unfold fX_show_L64 at h
  refine xr_go 2 (pc' := 67) (lo' := [some (.ref v0), none, some (.int v2), none, some (.ref v4), some (.int v5), some (.int v6), some (.int v7), some (.int v8)]) (st' := [.ref v0, .int v8]) (μ' := μ) rfl ?_
  obtain ⟨x1, hx1, h⟩ := Option.bind_eq_some_iff.mp h
  refine xr_opA (pc' := 70) (lo' := [some (.ref v0), none, some (.int v2), none, some (.ref v4), some (.int v5), some (.int v6), some (.int v7), some (.int v8)]) (st' := [.int v8]) (o := ldFR μ v0 0 0) rfl hx1 ?_
  obtain ⟨x2, hx2, h⟩ := Option.bind_eq_some_iff.mp h
  refine xr_opA (pc' := 73) (lo' := [some (.ref v0), none, some (.int v2), none, some (.ref v4), some (.int v5), some (.int v6), some (.int v7), some (.int v8)]) (st' := [.int v8]) (o := ldFR μ x1 3 9) rfl hx2 ?_
  refine xr_go 1 (pc' := 75) (lo' := [some (.ref v0), none, some (.int v2), none, some (.ref v4), some (.int v5), some (.int v6), some (.int v7), some (.int v8)]) (st' := [.int v5, .ref x2, .int v8]) (μ' := μ) rfl ?_
  obtain ⟨x3, hx3, h⟩ := Option.bind_eq_some_iff.mp h
  refine xr_opA (pc' := 76) (lo' := [some (.ref v0), none, some (.int v2), none, some (.ref v4), some (.int v5), some (.int v6), some (.int v7), some (.int v8)]) (st' := [.int v8]) (o := ldAR μ x2 v5) rfl hx3 ?_
  obtain ⟨x4, hx4, h⟩ := Option.bind_eq_some_iff.mp h
  refine xr_opI (pc' := 79) (lo' := [some (.ref v0), none, some (.int v2), none, some (.ref v4), some (.int v5), some (.int v6), some (.int v7), some (.int v8)]) (st' := [.int v8]) (o := ldF μ x3 5 4) rfl hx4 ?_
  refine xr_icmp (pct := 113) rfl rfl rfl (fun hc => ?_) (fun hc => ?_)
  · replace h := (if_pos (of_decide_eq_true hc)).symm.trans h
    refine xr_forget (lo := [none, none, none, none, none, none, some (.int v6), none, none]) ⟨rfl, trivial⟩ ?_
    obtain ⟨o, h2, rfl⟩ := Option.map_eq_some_iff.mp h
    exact fX_show_113_ok h2 hK
  · replace h := (if_neg (of_decide_eq_false hc)).symm.trans h
    refine xr_go 5 (pc' := 91) (lo' := [some (.ref v0), none, some (.int v2), none, some (.ref v4), some (.int v5), some (.int v6), some (.int v7), some (.int v8)]) (st' := [.int v8, .int v2, .ref v4, .int v7, .int v6]) (μ' := μ) rfl ?_
    obtain ⟨r5, hr5, h⟩ := Option.bind_eq_some_iff.mp h
    refine xr_callV (j := 101) (d' := (d + 12)) (rv1 := some (.int r5)) (μ1 := μ) (rest := [.int v7, .int v6]) (As := [.int v2, .int v8]) rfl rfl rfl rfl (Nat.le_of_ble_eq_true rfl) (fS_termOf_kd hr5) rfl (by exact (fS_termOf_ok (d := d + (12)) hr5)) ?_
    refine xr_go 11 (pc' := 64) (lo' := [some (.ref v0), none, some (.int v2), none, some (.ref v4), some (.int v5), some (.int (v6 + (v7 * (r5 + (xc 1))))), some (.int (v7 * (xc 10))), some (.int (v8 + xc 1))]) (st' := []) (μ' := μ) rfl ?_
    refine xr_forget (lo := [some (.ref v0), none, some (.int v2), none, some (.ref v4), some (.int v5), some (.int (v6 + (v7 * (r5 + (xc 1))))), some (.int (v7 * (xc 10))), some (.int (v8 + xc 1))]) ⟨rfl, rfl, rfl, rfl, rfl, rfl, rfl, trivial⟩ ?_
    have ho := Option.some.inj h
    subst ho
    exact hK
theorem fX_show_L64_lp {d : Nat} {v0 : Nat} {v2 : Int32} {v4 : Nat} {v5 : Int32} {v6 : Int32} {v7 : Int32} {v8 : Int32} {μ : xM} {rv : Option Value} {μf : xM} {out : Int32 × xM} (h : xwh (fun s : Int32 × Int32 × Int32 => fX_show_L64 v0 v2 v4 v5 s.1 s.2.1 s.2.2 μ) (v6, v7, v8) = some out) (hK : fX_show_K rv μf out) : xRun (d + 13) 17 64 [some (.ref v0), none, some (.int v2), none, some (.ref v4), some (.int v5), some (.int v6), some (.int v7), some (.int v8)] [] μ rv μf :=
  xwh_ind (Rh := fun s : Int32 × Int32 × Int32 => xRun (d + 13) 17 64 [some (.ref v0), none, some (.int v2), none, some (.ref v4), some (.int v5), some (.int s.1), some (.int s.2.1), some (.int s.2.2)] [] μ rv μf) (Co := fX_show_K rv μf) (fun s o hb hk => fX_show_L64_ok hb hk) h hK
noncomputable def fX_show_36  (v0 : Nat) (μ : xM) : Option (Int32 × xM) := (fX_refuse v0 (xc (-1)) μ).bind fun r6 => some ((r6.1, r6.2))
theorem fX_show_36_ok {d : Nat} {v0 : Nat} {μ : xM} {rv : Option Value} {μf : xM} {out : Int32 × xM} (h : fX_show_36 v0 μ = some out) (hK : fX_show_K rv μf out) : xRun (d + 13) 17 36 [some (.ref v0), none, none, none, none, none, none, none, none] [] μ rv μf := by
  unfold fX_show_36 at h
  refine xr_go 2 (pc' := 38) (lo' := [some (.ref v0), none, none, none, none, none, none, none, none]) (st' := [.int (xc (-1)), .ref v0]) (μ' := μ) rfl ?_
  obtain ⟨r6, hr6, h⟩ := Option.bind_eq_some_iff.mp h
  refine xr_callV (j := 37) (d' := (d + 12)) (rv1 := some (.int r6.1)) (μ1 := r6.2) (rest := []) (As := [.int (xc (-1))]) rfl rfl rfl rfl (Nat.le_of_ble_eq_true rfl) (fX_refuse_kd hr6) rfl (by exact (fX_refuse_ok (d := d + (12)) hr6)) ?_
  have ho := Option.some.inj h
  subst ho
  obtain ⟨rfl, rfl⟩ := hK
  exact xr_ret (rv := some (.int r6.1)) rfl rfl (Or.inl rfl)
noncomputable def fX_show_0  (v0 : Nat) (v1 : Int32) (v2 : Int32) (μ : xM) : Option (Int32 × xM) := (fX_showsRefusal v0 v1 μ).bind fun r7 => if r7.1 = 0 then ((fX_seen v0 v1 r7.2).bind fun r8 => if v2 < 0 then (fX_show_36 v0 r8.2) else ((ldF r8.2 r8.1 6 2).bind fun x9 => if v2 < x9 then ((fS_viewOf r8.1 v2 r8.2).bind fun r10 => xwh (fun s : Int32 × Int32 × Int32 => fX_show_L64 v0 v2 r8.1 r10 s.1 s.2.1 s.2.2 r8.2) ((xc 1000) * r10, xc 1, xc 0)) else (fX_show_36 v0 r8.2))) else ((fX_refuse v0 r7.1 r7.2).bind fun r11 => some ((r11.1, r11.2)))
theorem fX_show_0_ok {d : Nat} {v0 : Nat} {v1 : Int32} {v2 : Int32} {μ : xM} {rv : Option Value} {μf : xM} {out : Int32 × xM} (h : fX_show_0 v0 v1 v2 μ = some out) (hK : fX_show_K rv μf out) : xRun (d + 13) 17 0 [some (.ref v0), some (.int v1), some (.int v2), none, none, none, none, none, none] [] μ rv μf := by
  unfold fX_show_0 at h
  refine xr_go 2 (pc' := 2) (lo' := [some (.ref v0), some (.int v1), some (.int v2), none, none, none, none, none, none]) (st' := [.int v1, .ref v0]) (μ' := μ) rfl ?_
  obtain ⟨r7, hr7, h⟩ := Option.bind_eq_some_iff.mp h
  refine xr_callV (j := 43) (d' := (d + 12)) (rv1 := some (.int r7.1)) (μ1 := r7.2) (rest := []) (As := [.int v1]) rfl rfl rfl rfl (Nat.le_of_ble_eq_true rfl) (fX_showsRefusal_kd hr7) rfl (by exact (fX_showsRefusal_ok (d := d + (0)) hr7)) ?_
  refine xr_go 2 (pc' := 7) (lo' := [some (.ref v0), some (.int v1), some (.int v2), some (.int r7.1), none, none, none, none, none]) (st' := [.int r7.1]) (μ' := r7.2) rfl ?_
  refine xr_ifc (pct := 16) rfl rfl rfl (fun hc => ?_) (fun hc => ?_)
  · replace h := (if_pos (of_decide_eq_true hc)).symm.trans h
    refine xr_go 2 (pc' := 18) (lo' := [some (.ref v0), some (.int v1), some (.int v2), some (.int r7.1), none, none, none, none, none]) (st' := [.int v1, .ref v0]) (μ' := r7.2) rfl ?_
    obtain ⟨r8, hr8, h⟩ := Option.bind_eq_some_iff.mp h
    refine xr_callV (j := 47) (d' := (d + 12)) (rv1 := some (.ref r8.1)) (μ1 := r8.2) (rest := []) (As := [.int v1]) rfl rfl rfl rfl (Nat.le_of_ble_eq_true rfl) (fX_seen_kd hr8) rfl (by exact (fX_seen_ok (d := d + (1)) hr8)) ?_
    refine xr_go 2 (pc' := 24) (lo' := [some (.ref v0), some (.int v1), some (.int v2), some (.int r7.1), some (.ref r8.1), none, none, none, none]) (st' := [.int v2]) (μ' := r8.2) rfl ?_
    refine xr_ifc (pct := 36) rfl rfl rfl (fun hc => ?_) (fun hc => ?_)
    · replace h := (if_pos (of_decide_eq_true hc)).symm.trans h
      refine xr_forget (lo := [some (.ref v0), none, none, none, none, none, none, none, none]) ⟨rfl, trivial⟩ ?_
      exact fX_show_36_ok h hK
    · replace h := (if_neg (of_decide_eq_false hc)).symm.trans h
      refine xr_go 2 (pc' := 30) (lo' := [some (.ref v0), some (.int v1), some (.int v2), some (.int r7.1), some (.ref r8.1), none, none, none, none]) (st' := [.ref r8.1, .int v2]) (μ' := r8.2) rfl ?_
      obtain ⟨x9, hx9, h⟩ := Option.bind_eq_some_iff.mp h
      refine xr_opI (pc' := 33) (lo' := [some (.ref v0), some (.int v1), some (.int v2), some (.int r7.1), some (.ref r8.1), none, none, none, none]) (st' := [.int v2]) (o := ldF r8.2 r8.1 6 2) rfl hx9 ?_
      refine xr_icmp (pct := 42) rfl rfl rfl (fun hc => ?_) (fun hc => ?_)
      · replace h := (if_pos (of_decide_eq_true hc)).symm.trans h
        refine xr_go 2 (pc' := 45) (lo' := [some (.ref v0), some (.int v1), some (.int v2), some (.int r7.1), some (.ref r8.1), none, none, none, none]) (st' := [.int v2, .ref r8.1]) (μ' := r8.2) rfl ?_
        obtain ⟨r10, hr10, h⟩ := Option.bind_eq_some_iff.mp h
        refine xr_callV (j := 100) (d' := (d + 12)) (rv1 := some (.int r10)) (μ1 := r8.2) (rest := []) (As := [.int v2]) rfl rfl rfl rfl (Nat.le_of_ble_eq_true rfl) (fS_viewOf_kd hr10) rfl (by exact (fS_viewOf_ok (d := d + (12)) hr10)) ?_
        refine xr_go 9 (pc' := 64) (lo' := [some (.ref v0), some (.int v1), some (.int v2), some (.int r7.1), some (.ref r8.1), some (.int r10), some (.int ((xc 1000) * r10)), some (.int (xc 1)), some (.int (xc 0))]) (st' := []) (μ' := r8.2) rfl ?_
        refine xr_forget (lo := [some (.ref v0), none, some (.int v2), none, some (.ref r8.1), some (.int r10), some (.int ((xc 1000) * r10)), some (.int (xc 1)), some (.int (xc 0))]) ⟨rfl, rfl, rfl, rfl, rfl, rfl, rfl, trivial⟩ ?_
        exact fX_show_L64_lp h hK
      · replace h := (if_neg (of_decide_eq_false hc)).symm.trans h
        refine xr_forget (lo := [some (.ref v0), none, none, none, none, none, none, none, none]) ⟨rfl, trivial⟩ ?_
        exact fX_show_36_ok h hK
  · replace h := (if_neg (of_decide_eq_false hc)).symm.trans h
    refine xr_go 2 (pc' := 12) (lo' := [some (.ref v0), some (.int v1), some (.int v2), some (.int r7.1), none, none, none, none, none]) (st' := [.int r7.1, .ref v0]) (μ' := r7.2) rfl ?_
    obtain ⟨r11, hr11, h⟩ := Option.bind_eq_some_iff.mp h
    refine xr_callV (j := 37) (d' := (d + 12)) (rv1 := some (.int r11.1)) (μ1 := r11.2) (rest := []) (As := [.int r7.1]) rfl rfl rfl rfl (Nat.le_of_ble_eq_true rfl) (fX_refuse_kd hr11) rfl (by exact (fX_refuse_ok (d := d + (12)) hr11)) ?_
    have ho := Option.some.inj h
    subst ho
    obtain ⟨rfl, rfl⟩ := hK
    exact xr_ret (rv := some (.int r11.1)) rfl rfl (Or.inl rfl)
noncomputable def fX_show (a0 : Nat) (a1 : Int32) (a2 : Int32) (μ : xM) : Option (Int32 × xM) := xgd μ a0 0 (fX_show_0 a0 a1 a2 μ)
theorem fX_show_kd {a0 : Nat} {a1 : Int32} {a2 : Int32} {μ : xM} {o : Int32 × xM} (h : fX_show a0 a1 a2 μ = some o) : (xK μ a0).1 = 10 + 0 := (xgd_some h).1
theorem fX_show_ok {d : Nat} {a0 : Nat} {a1 : Int32} {a2 : Int32} {μ : xM} {o : Int32 × xM} (h : fX_show a0 a1 a2 μ = some o) : xRun (d + 13) 17 0 [some (.ref a0), some (.int a1), some (.int a2), none, none, none, none, none, none] [] μ (some (.int o.1)) o.2 :=
  xr_forget (lo := [some (.ref a0), some (.int a1), some (.int a2), none, none, none, none, none, none]) (⟨rfl, rfl, rfl, trivial⟩) (fX_show_0_ok (d := d) (xgd_some h).2 (show fX_show_K _ _ o from ⟨rfl, rfl⟩))
-- KeptAnswersModel.termOf(II)I 
def fM_termOf_K (μ : xM) (rv : Option Value) (μf : xM) : (Int32) → Prop := fun o => rv = some (.int o) ∧ μf = μ
def fM_termOf_K25 (v2 : Int32) (μ : xM) (d : Nat) (rv : Option Value) (μf : xM) : ((Int32 × Int32) ⊕ (Int32)) → Prop := Sum.elim (fun s : Int32 × Int32 => xRun (d + 0) 181 25 [none, none, some (.int v2), some (.int s.1), some (.int s.2)] [] μ rv μf) (fM_termOf_K μ rv μf)
noncomputable def fM_termOf_42  (v3 : Int32) (μ : xM) : Option (Int32) := (rmI v3 (xc 7)).bind fun x1 => some x1
theorem fM_termOf_42_ok {d : Nat} {v3 : Int32} {μ : xM} {rv : Option Value} {μf : xM} {out : Int32} (h : fM_termOf_42 v3 μ = some out) (hK : fM_termOf_K μ rv μf out) : xRun (d + 0) 181 42 [none, none, none, some (.int v3), none] [] μ rv μf := by
  unfold fM_termOf_42 at h
  refine xr_go 2 (pc' := 45) (lo' := [none, none, none, some (.int v3), none]) (st' := [.int (xc 7), .int v3]) (μ' := μ) rfl ?_
  obtain ⟨x1, hx1, h⟩ := Option.bind_eq_some_iff.mp h
  refine xr_opI (pc' := 46) (lo' := [none, none, none, some (.int v3), none]) (st' := []) (o := rmI v3 (xc 7)) rfl hx1 ?_
  have ho := Option.some.inj h
  subst ho
  obtain ⟨rfl, rfl⟩ := hK
  exact xr_ret (rv := some (.int x1)) rfl rfl (Or.inl rfl)
noncomputable def fM_termOf_L25  (v2 : Int32) (v3 : Int32) (v4 : Int32) (μ : xM) : Option ((Int32 × Int32) ⊕ (Int32)) := if v4 ≤ v2 then ((fM_termOf_42 v3 μ).map (fun o => .inr o)) else ((dvI v3 (xc 7)).bind fun x2 => some (.inl ((x2, v4 + xc (-1)))))
theorem fM_termOf_L25_ok {d : Nat} {v2 : Int32} {v3 : Int32} {v4 : Int32} {μ : xM} {rv : Option Value} {μf : xM} {out : (Int32 × Int32) ⊕ (Int32)} (h : fM_termOf_L25 v2 v3 v4 μ = some out) (hK : fM_termOf_K25 v2 μ d rv μf out) : xRun (d + 0) 181 25 [none, none, some (.int v2), some (.int v3), some (.int v4)] [] μ rv μf := by
  unfold fM_termOf_L25 at h
  refine xr_go 2 (pc' := 28) (lo' := [none, none, some (.int v2), some (.int v3), some (.int v4)]) (st' := [.int v2, .int v4]) (μ' := μ) rfl ?_
  refine xr_icmp (pct := 42) rfl rfl rfl (fun hc => ?_) (fun hc => ?_)
  · replace h := (if_pos (of_decide_eq_true hc)).symm.trans h
    refine xr_forget (lo := [none, none, none, some (.int v3), none]) ⟨rfl, trivial⟩ ?_
    obtain ⟨o, h2, rfl⟩ := Option.map_eq_some_iff.mp h
    exact fM_termOf_42_ok h2 hK
  · replace h := (if_neg (of_decide_eq_false hc)).symm.trans h
    refine xr_go 2 (pc' := 34) (lo' := [none, none, some (.int v2), some (.int v3), some (.int v4)]) (st' := [.int (xc 7), .int v3]) (μ' := μ) rfl ?_
    obtain ⟨x2, hx2, h⟩ := Option.bind_eq_some_iff.mp h
    refine xr_opI (pc' := 35) (lo' := [none, none, some (.int v2), some (.int v3), some (.int v4)]) (st' := []) (o := dvI v3 (xc 7)) rfl hx2 ?_
    refine xr_go 3 (pc' := 25) (lo' := [none, none, some (.int v2), some (.int x2), some (.int (v4 + xc (-1)))]) (st' := []) (μ' := μ) rfl ?_
    refine xr_forget (lo := [none, none, some (.int v2), some (.int x2), some (.int (v4 + xc (-1)))]) ⟨rfl, rfl, rfl, trivial⟩ ?_
    have ho := Option.some.inj h
    subst ho
    exact hK
theorem fM_termOf_L25_lp {d : Nat} {v2 : Int32} {v3 : Int32} {v4 : Int32} {μ : xM} {rv : Option Value} {μf : xM} {out : Int32} (h : xwh (fun s : Int32 × Int32 => fM_termOf_L25 v2 s.1 s.2 μ) (v3, v4) = some out) (hK : fM_termOf_K μ rv μf out) : xRun (d + 0) 181 25 [none, none, some (.int v2), some (.int v3), some (.int v4)] [] μ rv μf :=
  xwh_ind (Rh := fun s : Int32 × Int32 => xRun (d + 0) 181 25 [none, none, some (.int v2), some (.int s.1), some (.int s.2)] [] μ rv μf) (Co := fM_termOf_K μ rv μf) (fun s o hb hk => fM_termOf_L25_ok hb hk) h hK
noncomputable def fM_termOf_0  (v0 : Nat) (v1 : Int32) (v2 : Int32) (μ : xM) : Option (Int32) := (ldFR μ v0 9 42).bind fun x3 => (ldA μ x3 v1).bind fun x4 => (ldFR μ v0 9 14).bind fun x5 => (ldFR μ v0 9 41).bind fun x6 => (ldA μ x6 v1).bind fun x7 => (ldA μ x5 ((xc 10) + x7)).bind fun x8 => xwh (fun s : Int32 × Int32 => fM_termOf_L25 v2 s.1 s.2 μ) (x4, x8 - (xc 1))
theorem fM_termOf_0_ok {d : Nat} {v0 : Nat} {v1 : Int32} {v2 : Int32} {μ : xM} {rv : Option Value} {μf : xM} {out : Int32} (h : fM_termOf_0 v0 v1 v2 μ = some out) (hK : fM_termOf_K μ rv μf out) : xRun (d + 0) 181 0 [some (.ref v0), some (.int v1), some (.int v2), none, none] [] μ rv μf := by
  unfold fM_termOf_0 at h
  refine xr_go 1 (pc' := 1) (lo' := [some (.ref v0), some (.int v1), some (.int v2), none, none]) (st' := [.ref v0]) (μ' := μ) rfl ?_
  obtain ⟨x3, hx3, h⟩ := Option.bind_eq_some_iff.mp h
  refine xr_opA (pc' := 4) (lo' := [some (.ref v0), some (.int v1), some (.int v2), none, none]) (st' := []) (o := ldFR μ v0 9 42) rfl hx3 ?_
  refine xr_go 1 (pc' := 5) (lo' := [some (.ref v0), some (.int v1), some (.int v2), none, none]) (st' := [.int v1, .ref x3]) (μ' := μ) rfl ?_
  obtain ⟨x4, hx4, h⟩ := Option.bind_eq_some_iff.mp h
  refine xr_opI (pc' := 6) (lo' := [some (.ref v0), some (.int v1), some (.int v2), none, none]) (st' := []) (o := ldA μ x3 v1) rfl hx4 ?_
  refine xr_go 2 (pc' := 8) (lo' := [some (.ref v0), some (.int v1), some (.int v2), some (.int x4), none]) (st' := [.ref v0]) (μ' := μ) rfl ?_
  obtain ⟨x5, hx5, h⟩ := Option.bind_eq_some_iff.mp h
  refine xr_opA (pc' := 11) (lo' := [some (.ref v0), some (.int v1), some (.int v2), some (.int x4), none]) (st' := []) (o := ldFR μ v0 9 14) rfl hx5 ?_
  refine xr_go 2 (pc' := 14) (lo' := [some (.ref v0), some (.int v1), some (.int v2), some (.int x4), none]) (st' := [.ref v0, .int (xc 10), .ref x5]) (μ' := μ) rfl ?_
  obtain ⟨x6, hx6, h⟩ := Option.bind_eq_some_iff.mp h
  refine xr_opA (pc' := 17) (lo' := [some (.ref v0), some (.int v1), some (.int v2), some (.int x4), none]) (st' := [.int (xc 10), .ref x5]) (o := ldFR μ v0 9 41) rfl hx6 ?_
  refine xr_go 1 (pc' := 18) (lo' := [some (.ref v0), some (.int v1), some (.int v2), some (.int x4), none]) (st' := [.int v1, .ref x6, .int (xc 10), .ref x5]) (μ' := μ) rfl ?_
  obtain ⟨x7, hx7, h⟩ := Option.bind_eq_some_iff.mp h
  refine xr_opI (pc' := 19) (lo' := [some (.ref v0), some (.int v1), some (.int v2), some (.int x4), none]) (st' := [.int (xc 10), .ref x5]) (o := ldA μ x6 v1) rfl hx7 ?_
  refine xr_go 1 (pc' := 20) (lo' := [some (.ref v0), some (.int v1), some (.int v2), some (.int x4), none]) (st' := [.int ((xc 10) + x7), .ref x5]) (μ' := μ) rfl ?_
  obtain ⟨x8, hx8, h⟩ := Option.bind_eq_some_iff.mp h
  refine xr_opI (pc' := 21) (lo' := [some (.ref v0), some (.int v1), some (.int v2), some (.int x4), none]) (st' := []) (o := ldA μ x5 ((xc 10) + x7)) rfl hx8 ?_
  refine xr_go 3 (pc' := 25) (lo' := [some (.ref v0), some (.int v1), some (.int v2), some (.int x4), some (.int (x8 - (xc 1)))]) (st' := []) (μ' := μ) rfl ?_
  refine xr_forget (lo := [none, none, some (.int v2), some (.int x4), some (.int (x8 - (xc 1)))]) ⟨rfl, rfl, rfl, trivial⟩ ?_
  exact fM_termOf_L25_lp h hK
noncomputable def fM_termOf (a0 : Nat) (a1 : Int32) (a2 : Int32) (μ : xM) : Option (Int32) := xgd μ a0 9 (fM_termOf_0 a0 a1 a2 μ)
theorem fM_termOf_kd {a0 : Nat} {a1 : Int32} {a2 : Int32} {μ : xM} {o : Int32} (h : fM_termOf a0 a1 a2 μ = some o) : (xK μ a0).1 = 10 + 9 := (xgd_some h).1
theorem fM_termOf_ok {d : Nat} {a0 : Nat} {a1 : Int32} {a2 : Int32} {μ : xM} {o : Int32} (h : fM_termOf a0 a1 a2 μ = some o) : xRun (d + 0) 181 0 [some (.ref a0), some (.int a1), some (.int a2), none, none] [] μ (some (.int o)) μ :=
  xr_forget (lo := [some (.ref a0), some (.int a1), some (.int a2), none, none]) (⟨rfl, rfl, rfl, trivial⟩) (fM_termOf_0_ok (d := d) (xgd_some h).2 (show fM_termOf_K μ _ _ o from ⟨rfl, rfl⟩))
-- KeptAnswersModel.show(II)I 
def fM_show_K (rv : Option Value) (μf : xM) : (Int32 × xM) → Prop := fun o => rv = some (.int o.1) ∧ μf = o.2
def fM_show_K68 (v0 : Nat) (v2 : Int32) (μ : xM) (d : Nat) (rv : Option Value) (μf : xM) : ((Int32 × Int32 × Int32) ⊕ (Int32 × xM)) → Prop := Sum.elim (fun s : Int32 × Int32 × Int32 => xRun (d + 5) 184 68 [some (.ref v0), none, some (.int v2), some (.int s.1), some (.int s.2.1), some (.int s.2.2)] [] μ rv μf) (fM_show_K rv μf)
noncomputable def fM_show_115  (v3 : Int32) (μ : xM) : Option (Int32 × xM) := some ((v3, μ))
theorem fM_show_115_ok {d : Nat} {v3 : Int32} {μ : xM} {rv : Option Value} {μf : xM} {out : Int32 × xM} (h : fM_show_115 v3 μ = some out) (hK : fM_show_K rv μf out) : xRun (d + 5) 184 115 [none, none, none, some (.int v3), none, none] [] μ rv μf := by
  unfold fM_show_115 at h
  refine xr_go 1 (pc' := 116) (lo' := [none, none, none, some (.int v3), none, none]) (st' := [.int v3]) (μ' := μ) rfl ?_
  have ho := Option.some.inj h
  subst ho
  obtain ⟨rfl, rfl⟩ := hK
  exact xr_ret (rv := some (.int v3)) rfl rfl (Or.inl rfl)
noncomputable def fM_show_L68  (v0 : Nat) (v2 : Int32) (v3 : Int32) (v4 : Int32) (v5 : Int32) (μ : xM) : Option ((Int32 × Int32 × Int32) ⊕ (Int32 × xM)) := (ldFR μ v0 9 14).bind fun x1 => (ldFR μ v0 9 41).bind fun x2 => (ldA μ x2 v2).bind fun x3 => (ldA μ x1 ((xc 10) + x3)).bind fun x4 => if x4 ≤ v5 then ((fM_show_115 v3 μ).map (fun o => .inr o)) else ((fM_termOf v0 v2 v5 μ).bind fun r5 => some (.inl ((v3 + (v4 * (r5 + (xc 1))), v4 * (xc 10), v5 + xc 1))))
theorem fM_show_L68_ok {d : Nat} {v0 : Nat} {v2 : Int32} {v3 : Int32} {v4 : Int32} {v5 : Int32} {μ : xM} {rv : Option Value} {μf : xM} {out : (Int32 × Int32 × Int32) ⊕ (Int32 × xM)} (h : fM_show_L68 v0 v2 v3 v4 v5 μ = some out) (hK : fM_show_K68 v0 v2 μ d rv μf out) : xRun (d + 5) 184 68 [some (.ref v0), none, some (.int v2), some (.int v3), some (.int v4), some (.int v5)] [] μ rv μf := by
  unfold fM_show_L68 at h
  refine xr_go 2 (pc' := 71) (lo' := [some (.ref v0), none, some (.int v2), some (.int v3), some (.int v4), some (.int v5)]) (st' := [.ref v0, .int v5]) (μ' := μ) rfl ?_
  obtain ⟨x1, hx1, h⟩ := Option.bind_eq_some_iff.mp h
  refine xr_opA (pc' := 74) (lo' := [some (.ref v0), none, some (.int v2), some (.int v3), some (.int v4), some (.int v5)]) (st' := [.int v5]) (o := ldFR μ v0 9 14) rfl hx1 ?_
  refine xr_go 2 (pc' := 77) (lo' := [some (.ref v0), none, some (.int v2), some (.int v3), some (.int v4), some (.int v5)]) (st' := [.ref v0, .int (xc 10), .ref x1, .int v5]) (μ' := μ) rfl ?_
  obtain ⟨x2, hx2, h⟩ := Option.bind_eq_some_iff.mp h
  refine xr_opA (pc' := 80) (lo' := [some (.ref v0), none, some (.int v2), some (.int v3), some (.int v4), some (.int v5)]) (st' := [.int (xc 10), .ref x1, .int v5]) (o := ldFR μ v0 9 41) rfl hx2 ?_
  refine xr_go 1 (pc' := 81) (lo' := [some (.ref v0), none, some (.int v2), some (.int v3), some (.int v4), some (.int v5)]) (st' := [.int v2, .ref x2, .int (xc 10), .ref x1, .int v5]) (μ' := μ) rfl ?_
  obtain ⟨x3, hx3, h⟩ := Option.bind_eq_some_iff.mp h
  refine xr_opI (pc' := 82) (lo' := [some (.ref v0), none, some (.int v2), some (.int v3), some (.int v4), some (.int v5)]) (st' := [.int (xc 10), .ref x1, .int v5]) (o := ldA μ x2 v2) rfl hx3 ?_
  refine xr_go 1 (pc' := 83) (lo' := [some (.ref v0), none, some (.int v2), some (.int v3), some (.int v4), some (.int v5)]) (st' := [.int ((xc 10) + x3), .ref x1, .int v5]) (μ' := μ) rfl ?_
  obtain ⟨x4, hx4, h⟩ := Option.bind_eq_some_iff.mp h
  refine xr_opI (pc' := 84) (lo' := [some (.ref v0), none, some (.int v2), some (.int v3), some (.int v4), some (.int v5)]) (st' := [.int v5]) (o := ldA μ x1 ((xc 10) + x3)) rfl hx4 ?_
  refine xr_icmp (pct := 115) rfl rfl rfl (fun hc => ?_) (fun hc => ?_)
  · replace h := (if_pos (of_decide_eq_true hc)).symm.trans h
    refine xr_forget (lo := [none, none, none, some (.int v3), none, none]) ⟨rfl, trivial⟩ ?_
    obtain ⟨o, h2, rfl⟩ := Option.map_eq_some_iff.mp h
    exact fM_show_115_ok h2 hK
  · replace h := (if_neg (of_decide_eq_false hc)).symm.trans h
    refine xr_go 5 (pc' := 94) (lo' := [some (.ref v0), none, some (.int v2), some (.int v3), some (.int v4), some (.int v5)]) (st' := [.int v5, .int v2, .ref v0, .int v4, .int v3]) (μ' := μ) rfl ?_
    obtain ⟨r5, hr5, h⟩ := Option.bind_eq_some_iff.mp h
    refine xr_callV (j := 181) (d' := (d + 4)) (rv1 := some (.int r5)) (μ1 := μ) (rest := [.int v4, .int v3]) (As := [.int v2, .int v5]) rfl rfl rfl rfl (Nat.le_of_ble_eq_true rfl) (fM_termOf_kd hr5) rfl (by exact (fM_termOf_ok (d := d + (4)) hr5)) ?_
    refine xr_go 11 (pc' := 68) (lo' := [some (.ref v0), none, some (.int v2), some (.int (v3 + (v4 * (r5 + (xc 1))))), some (.int (v4 * (xc 10))), some (.int (v5 + xc 1))]) (st' := []) (μ' := μ) rfl ?_
    refine xr_forget (lo := [some (.ref v0), none, some (.int v2), some (.int (v3 + (v4 * (r5 + (xc 1))))), some (.int (v4 * (xc 10))), some (.int (v5 + xc 1))]) ⟨rfl, rfl, rfl, rfl, rfl, trivial⟩ ?_
    have ho := Option.some.inj h
    subst ho
    exact hK
theorem fM_show_L68_lp {d : Nat} {v0 : Nat} {v2 : Int32} {v3 : Int32} {v4 : Int32} {v5 : Int32} {μ : xM} {rv : Option Value} {μf : xM} {out : Int32 × xM} (h : xwh (fun s : Int32 × Int32 × Int32 => fM_show_L68 v0 v2 s.1 s.2.1 s.2.2 μ) (v3, v4, v5) = some out) (hK : fM_show_K rv μf out) : xRun (d + 5) 184 68 [some (.ref v0), none, some (.int v2), some (.int v3), some (.int v4), some (.int v5)] [] μ rv μf :=
  xwh_ind (Rh := fun s : Int32 × Int32 × Int32 => xRun (d + 5) 184 68 [some (.ref v0), none, some (.int v2), some (.int s.1), some (.int s.2.1), some (.int s.2.2)] [] μ rv μf) (Co := fM_show_K rv μf) (fun s o hb hk => fM_show_L68_ok hb hk) h hK
noncomputable def fM_show_0  (v0 : Nat) (v1 : Int32) (v2 : Int32) (μ : xM) : Option (Int32 × xM) := (fM_isAsk v0 v1 μ).bind fun r6 => if r6 = 0 then ((fM_refuse v0 (xc (-1)) μ).bind fun r14 => some ((r14.1, r14.2))) else ((fM_findShows v0 v1 μ).bind fun r7 => if r7.1 = 0 then ((fM_refuse v0 (xc (-5)) r7.2).bind fun r13 => some ((r13.1, r13.2))) else ((ldF r7.2 v0 9 39).bind fun x8 => (fM_isIn (Int32.toInt64 v2) (Int64.ofNat 0) (Int32.toInt64 (x8 - (xc 1))) r7.2).bind fun r9 => if r9 = 0 then ((fM_refuse v0 (xc (-1)) r7.2).bind fun r12 => some ((r12.1, r12.2))) else ((ldFR r7.2 v0 9 41).bind fun x10 => (ldA r7.2 x10 v2).bind fun x11 => xwh (fun s : Int32 × Int32 × Int32 => fM_show_L68 v0 v2 s.1 s.2.1 s.2.2 r7.2) ((xc 1000) * x11, xc 1, xc 0))))
theorem fM_show_0_ok {d : Nat} {v0 : Nat} {v1 : Int32} {v2 : Int32} {μ : xM} {rv : Option Value} {μf : xM} {out : Int32 × xM} (h : fM_show_0 v0 v1 v2 μ = some out) (hK : fM_show_K rv μf out) : xRun (d + 5) 184 0 [some (.ref v0), some (.int v1), some (.int v2), none, none, none] [] μ rv μf := by
  unfold fM_show_0 at h
  refine xr_go 2 (pc' := 2) (lo' := [some (.ref v0), some (.int v1), some (.int v2), none, none, none]) (st' := [.int v1, .ref v0]) (μ' := μ) rfl ?_
  obtain ⟨r6, hr6, h⟩ := Option.bind_eq_some_iff.mp h
  refine xr_callV (j := 139) (d' := (d + 4)) (rv1 := some (.int r6)) (μ1 := μ) (rest := []) (As := [.int v1]) rfl rfl rfl rfl (Nat.le_of_ble_eq_true rfl) (fM_isAsk_kd hr6) rfl (by exact (fM_isAsk_ok (d := d + (3)) hr6)) ?_
  refine xr_ifc (pct := 14) rfl rfl rfl (fun hc => ?_) (fun hc => ?_)
  · replace h := (if_neg (of_decide_eq_true hc)).symm.trans h
    refine xr_go 2 (pc' := 16) (lo' := [some (.ref v0), some (.int v1), some (.int v2), none, none, none]) (st' := [.int v1, .ref v0]) (μ' := μ) rfl ?_
    obtain ⟨r7, hr7, h⟩ := Option.bind_eq_some_iff.mp h
    refine xr_callV (j := 182) (d' := (d + 4)) (rv1 := some (.int r7.1)) (μ1 := r7.2) (rest := []) (As := [.int v1]) rfl rfl rfl rfl (Nat.le_of_ble_eq_true rfl) (fM_findShows_kd hr7) rfl (by exact (fM_findShows_ok (d := d + (0)) hr7)) ?_
    refine xr_ifc (pct := 29) rfl rfl rfl (fun hc => ?_) (fun hc => ?_)
    · replace h := (if_neg (of_decide_eq_true hc)).symm.trans h
      refine xr_go 4 (pc' := 33) (lo' := [some (.ref v0), some (.int v1), some (.int v2), none, none, none]) (st' := [.ref v0, .long (Int64.ofNat 0), .long (Int32.toInt64 v2)]) (μ' := r7.2) rfl ?_
      obtain ⟨x8, hx8, h⟩ := Option.bind_eq_some_iff.mp h
      refine xr_opI (pc' := 36) (lo' := [some (.ref v0), some (.int v1), some (.int v2), none, none, none]) (st' := [.long (Int64.ofNat 0), .long (Int32.toInt64 v2)]) (o := ldF r7.2 v0 9 39) rfl hx8 ?_
      refine xr_go 3 (pc' := 39) (lo' := [some (.ref v0), some (.int v1), some (.int v2), none, none, none]) (st' := [.long (Int32.toInt64 (x8 - (xc 1))), .long (Int64.ofNat 0), .long (Int32.toInt64 v2)]) (μ' := r7.2) rfl ?_
      obtain ⟨r9, hr9, h⟩ := Option.bind_eq_some_iff.mp h
      refine xr_callS (j := 137) (d' := (d + 4)) (rv1 := some (.int r9)) (μ1 := r7.2) (rest := []) (As := [.long (Int32.toInt64 v2), .long (Int64.ofNat 0), .long (Int32.toInt64 (x8 - (xc 1)))]) rfl rfl rfl rfl (Nat.le_of_ble_eq_true rfl) rfl (by exact (fM_isIn_ok (d := d + (4)) hr9)) ?_
      refine xr_ifc (pct := 51) rfl rfl rfl (fun hc => ?_) (fun hc => ?_)
      · replace h := (if_neg (of_decide_eq_true hc)).symm.trans h
        refine xr_go 2 (pc' := 55) (lo' := [some (.ref v0), some (.int v1), some (.int v2), none, none, none]) (st' := [.ref v0, .int (xc 1000)]) (μ' := r7.2) rfl ?_
        obtain ⟨x10, hx10, h⟩ := Option.bind_eq_some_iff.mp h
        refine xr_opA (pc' := 58) (lo' := [some (.ref v0), some (.int v1), some (.int v2), none, none, none]) (st' := [.int (xc 1000)]) (o := ldFR r7.2 v0 9 41) rfl hx10 ?_
        refine xr_go 1 (pc' := 59) (lo' := [some (.ref v0), some (.int v1), some (.int v2), none, none, none]) (st' := [.int v2, .ref x10, .int (xc 1000)]) (μ' := r7.2) rfl ?_
        obtain ⟨x11, hx11, h⟩ := Option.bind_eq_some_iff.mp h
        refine xr_opI (pc' := 60) (lo' := [some (.ref v0), some (.int v1), some (.int v2), none, none, none]) (st' := [.int (xc 1000)]) (o := ldA r7.2 x10 v2) rfl hx11 ?_
        refine xr_go 6 (pc' := 68) (lo' := [some (.ref v0), some (.int v1), some (.int v2), some (.int ((xc 1000) * x11)), some (.int (xc 1)), some (.int (xc 0))]) (st' := []) (μ' := r7.2) rfl ?_
        refine xr_forget (lo := [some (.ref v0), none, some (.int v2), some (.int ((xc 1000) * x11)), some (.int (xc 1)), some (.int (xc 0))]) ⟨rfl, rfl, rfl, rfl, rfl, trivial⟩ ?_
        exact fM_show_L68_lp h hK
      · replace h := (if_pos (Decidable.of_not_not (of_decide_eq_false hc))).symm.trans h
        refine xr_go 2 (pc' := 47) (lo' := [some (.ref v0), some (.int v1), some (.int v2), none, none, none]) (st' := [.int (xc (-1)), .ref v0]) (μ' := r7.2) rfl ?_
        obtain ⟨r12, hr12, h⟩ := Option.bind_eq_some_iff.mp h
        refine xr_callV (j := 138) (d' := (d + 4)) (rv1 := some (.int r12.1)) (μ1 := r12.2) (rest := []) (As := [.int (xc (-1))]) rfl rfl rfl rfl (Nat.le_of_ble_eq_true rfl) (fM_refuse_kd hr12) rfl (by exact (fM_refuse_ok (d := d + (4)) hr12)) ?_
        have ho := Option.some.inj h
        subst ho
        obtain ⟨rfl, rfl⟩ := hK
        exact xr_ret (rv := some (.int r12.1)) rfl rfl (Or.inl rfl)
    · replace h := (if_pos (Decidable.of_not_not (of_decide_eq_false hc))).symm.trans h
      refine xr_go 2 (pc' := 25) (lo' := [some (.ref v0), some (.int v1), some (.int v2), none, none, none]) (st' := [.int (xc (-5)), .ref v0]) (μ' := r7.2) rfl ?_
      obtain ⟨r13, hr13, h⟩ := Option.bind_eq_some_iff.mp h
      refine xr_callV (j := 138) (d' := (d + 4)) (rv1 := some (.int r13.1)) (μ1 := r13.2) (rest := []) (As := [.int (xc (-5))]) rfl rfl rfl rfl (Nat.le_of_ble_eq_true rfl) (fM_refuse_kd hr13) rfl (by exact (fM_refuse_ok (d := d + (4)) hr13)) ?_
      have ho := Option.some.inj h
      subst ho
      obtain ⟨rfl, rfl⟩ := hK
      exact xr_ret (rv := some (.int r13.1)) rfl rfl (Or.inl rfl)
  · replace h := (if_pos (Decidable.of_not_not (of_decide_eq_false hc))).symm.trans h
    refine xr_go 2 (pc' := 10) (lo' := [some (.ref v0), some (.int v1), some (.int v2), none, none, none]) (st' := [.int (xc (-1)), .ref v0]) (μ' := μ) rfl ?_
    obtain ⟨r14, hr14, h⟩ := Option.bind_eq_some_iff.mp h
    refine xr_callV (j := 138) (d' := (d + 4)) (rv1 := some (.int r14.1)) (μ1 := r14.2) (rest := []) (As := [.int (xc (-1))]) rfl rfl rfl rfl (Nat.le_of_ble_eq_true rfl) (fM_refuse_kd hr14) rfl (by exact (fM_refuse_ok (d := d + (4)) hr14)) ?_
    have ho := Option.some.inj h
    subst ho
    obtain ⟨rfl, rfl⟩ := hK
    exact xr_ret (rv := some (.int r14.1)) rfl rfl (Or.inl rfl)
noncomputable def fM_show (a0 : Nat) (a1 : Int32) (a2 : Int32) (μ : xM) : Option (Int32 × xM) := xgd μ a0 9 (fM_show_0 a0 a1 a2 μ)
theorem fM_show_kd {a0 : Nat} {a1 : Int32} {a2 : Int32} {μ : xM} {o : Int32 × xM} (h : fM_show a0 a1 a2 μ = some o) : (xK μ a0).1 = 10 + 9 := (xgd_some h).1
theorem fM_show_ok {d : Nat} {a0 : Nat} {a1 : Int32} {a2 : Int32} {μ : xM} {o : Int32 × xM} (h : fM_show a0 a1 a2 μ = some o) : xRun (d + 5) 184 0 [some (.ref a0), some (.int a1), some (.int a2), none, none, none] [] μ (some (.int o.1)) o.2 :=
  xr_forget (lo := [some (.ref a0), some (.int a1), some (.int a2), none, none, none]) (⟨rfl, rfl, rfl, trivial⟩) (fM_show_0_ok (d := d) (xgd_some h).2 (show fM_show_K _ _ o from ⟨rfl, rfl⟩))
-- java/util/Arrays.fill([JJ)V 
def fJA_fill_K (rv : Option Value) (μf : xM) : (xM) → Prop := fun o => rv = none ∧ μf = o
def fJA_fill_K6 (v0 : Nat) (v1 : Int64) (v4 : Int32) (d : Nat) (rv : Option Value) (μf : xM) : ((Int32 × xM) ⊕ (xM)) → Prop := Sum.elim (fun s : Int32 × xM => xRun (d + 0) 225 6 [some (.ref v0), some (.long v1), none, some (.int s.1), some (.int v4)] [] s.2 rv μf) (fJA_fill_K rv μf)
noncomputable def fJA_fill_L6  (v0 : Nat) (v1 : Int64) (v3 : Int32) (v4 : Int32) (μ : xM) : Option ((Int32 × xM) ⊕ (xM)) := if v4 ≤ v3 then (some (.inr μ)) else ((stAL μ v0 v3 v1).bind fun μ1 => some (.inl ((v3 + xc 1, μ1))))
theorem fJA_fill_L6_ok {d : Nat} {v0 : Nat} {v1 : Int64} {v3 : Int32} {v4 : Int32} {μ : xM} {rv : Option Value} {μf : xM} {out : (Int32 × xM) ⊕ (xM)} (h : fJA_fill_L6 v0 v1 v3 v4 μ = some out) (hK : fJA_fill_K6 v0 v1 v4 d rv μf out) : xRun (d + 0) 225 6 [some (.ref v0), some (.long v1), none, some (.int v3), some (.int v4)] [] μ rv μf := by
  unfold fJA_fill_L6 at h
  refine xr_go 2 (pc' := 9) (lo' := [some (.ref v0), some (.long v1), none, some (.int v3), some (.int v4)]) (st' := [.int v4, .int v3]) (μ' := μ) rfl ?_
  refine xr_icmp (pct := 22) rfl rfl rfl (fun hc => ?_) (fun hc => ?_)
  · replace h := (if_pos (of_decide_eq_true hc)).symm.trans h
    have ho := Option.some.inj h
    subst ho
    obtain ⟨rfl, rfl⟩ := hK
    exact xr_ret (rv := none) rfl rfl (rfl)
  · replace h := (if_neg (of_decide_eq_false hc)).symm.trans h
    refine xr_go 3 (pc' := 15) (lo' := [some (.ref v0), some (.long v1), none, some (.int v3), some (.int v4)]) (st' := [.long v1, .int v3, .ref v0]) (μ' := μ) rfl ?_
    obtain ⟨μ1, hμ1, h⟩ := Option.bind_eq_some_iff.mp h
    refine xr_opM (pc' := 16) (lo' := [some (.ref v0), some (.long v1), none, some (.int v3), some (.int v4)]) (st' := []) (o := stAL μ v0 v3 v1) rfl hμ1 ?_
    refine xr_go 2 (pc' := 6) (lo' := [some (.ref v0), some (.long v1), none, some (.int (v3 + xc 1)), some (.int v4)]) (st' := []) (μ' := μ1) rfl ?_
    refine xr_forget (lo := [some (.ref v0), some (.long v1), none, some (.int (v3 + xc 1)), some (.int v4)]) ⟨rfl, rfl, rfl, rfl, trivial⟩ ?_
    have ho := Option.some.inj h
    subst ho
    exact hK
theorem fJA_fill_L6_lp {d : Nat} {v0 : Nat} {v1 : Int64} {v3 : Int32} {v4 : Int32} {μ : xM} {rv : Option Value} {μf : xM} {out : xM} (h : xwh (fun s : Int32 × xM => fJA_fill_L6 v0 v1 s.1 v4 s.2) (v3, μ) = some out) (hK : fJA_fill_K rv μf out) : xRun (d + 0) 225 6 [some (.ref v0), some (.long v1), none, some (.int v3), some (.int v4)] [] μ rv μf :=
  xwh_ind (Rh := fun s : Int32 × xM => xRun (d + 0) 225 6 [some (.ref v0), some (.long v1), none, some (.int s.1), some (.int v4)] [] s.2 rv μf) (Co := fJA_fill_K rv μf) (fun s o hb hk => fJA_fill_L6_ok hb hk) h hK
noncomputable def fJA_fill_0  (v0 : Nat) (v1 : Int64) (μ : xM) : Option (xM) := (alen μ v0).bind fun x2 => xwh (fun s : Int32 × xM => fJA_fill_L6 v0 v1 s.1 x2 s.2) (xc 0, μ)
theorem fJA_fill_0_ok {d : Nat} {v0 : Nat} {v1 : Int64} {μ : xM} {rv : Option Value} {μf : xM} {out : xM} (h : fJA_fill_0 v0 v1 μ = some out) (hK : fJA_fill_K rv μf out) : xRun (d + 0) 225 0 [some (.ref v0), some (.long v1), none, none, none] [] μ rv μf := by
  unfold fJA_fill_0 at h
  refine xr_go 3 (pc' := 3) (lo' := [some (.ref v0), some (.long v1), none, some (.int (xc 0)), none]) (st' := [.ref v0]) (μ' := μ) rfl ?_
  obtain ⟨x2, hx2, h⟩ := Option.bind_eq_some_iff.mp h
  refine xr_opI (pc' := 4) (lo' := [some (.ref v0), some (.long v1), none, some (.int (xc 0)), none]) (st' := []) (o := alen μ v0) rfl hx2 ?_
  refine xr_go 1 (pc' := 6) (lo' := [some (.ref v0), some (.long v1), none, some (.int (xc 0)), some (.int x2)]) (st' := []) (μ' := μ) rfl ?_
  refine xr_forget (lo := [some (.ref v0), some (.long v1), none, some (.int (xc 0)), some (.int x2)]) ⟨rfl, rfl, rfl, rfl, trivial⟩ ?_
  exact fJA_fill_L6_lp h hK
noncomputable def fJA_fill (a0 : Nat) (a1 : Int64) (μ : xM) : Option (xM) := fJA_fill_0 a0 a1 μ
theorem fJA_fill_ok {d : Nat} {a0 : Nat} {a1 : Int64} {μ : xM} {o : xM} (h : fJA_fill a0 a1 μ = some o) : xRun (d + 0) 225 0 [some (.ref a0), some (.long a1), none, none, none] [] μ none o :=
  xr_forget (lo := [some (.ref a0), some (.long a1), none, none, none]) (⟨rfl, rfl, trivial⟩) (fJA_fill_0_ok (d := d) h (show fJA_fill_K _ _ o from ⟨rfl, rfl⟩))
-- KeptAnswers$Sight.viewsOf(I)I 
def fS_viewsOf_K (μ : xM) (rv : Option Value) (μf : xM) : (Int32) → Prop := fun o => rv = some (.int o) ∧ μf = μ
def fS_viewsOf_K4 (v0 : Nat) (v1 : Int32) (μ : xM) (d : Nat) (rv : Option Value) (μf : xM) : ((Int32 × Int32) ⊕ (Int32)) → Prop := Sum.elim (fun s : Int32 × Int32 => xRun (d + 1) 107 4 [some (.ref v0), some (.int v1), some (.int s.1), some (.int s.2)] [] μ rv μf) (fS_viewsOf_K μ rv μf)
noncomputable def fS_viewsOf_36  (v2 : Int32) (μ : xM) : Option (Int32) := some v2
theorem fS_viewsOf_36_ok {d : Nat} {v2 : Int32} {μ : xM} {rv : Option Value} {μf : xM} {out : Int32} (h : fS_viewsOf_36 v2 μ = some out) (hK : fS_viewsOf_K μ rv μf out) : xRun (d + 1) 107 36 [none, none, some (.int v2), none] [] μ rv μf := by
  unfold fS_viewsOf_36 at h
  refine xr_go 1 (pc' := 37) (lo' := [none, none, some (.int v2), none]) (st' := [.int v2]) (μ' := μ) rfl ?_
  have ho := Option.some.inj h
  subst ho
  obtain ⟨rfl, rfl⟩ := hK
  exact xr_ret (rv := some (.int v2)) rfl rfl (Or.inl rfl)
noncomputable def fS_viewsOf_30  (v0 : Nat) (v1 : Int32) (v2 : Int32) (v3 : Int32) (μ : xM) : Option ((Int32 × Int32) ⊕ (Int32)) := some (.inl ((v2, v3 + xc 1)))
theorem fS_viewsOf_30_ok {d : Nat} {v0 : Nat} {v1 : Int32} {v2 : Int32} {v3 : Int32} {μ : xM} {rv : Option Value} {μf : xM} {out : (Int32 × Int32) ⊕ (Int32)} (h : fS_viewsOf_30 v0 v1 v2 v3 μ = some out) (hK : fS_viewsOf_K4 v0 v1 μ d rv μf out) : xRun (d + 1) 107 30 [some (.ref v0), some (.int v1), some (.int v2), some (.int v3)] [] μ rv μf := by
  unfold fS_viewsOf_30 at h
  refine xr_go 2 (pc' := 4) (lo' := [some (.ref v0), some (.int v1), some (.int v2), some (.int (v3 + xc 1))]) (st' := []) (μ' := μ) rfl ?_
  refine xr_forget (lo := [some (.ref v0), some (.int v1), some (.int v2), some (.int (v3 + xc 1))]) ⟨rfl, rfl, rfl, rfl, trivial⟩ ?_
  have ho := Option.some.inj h
  subst ho
  exact hK
noncomputable def fS_viewsOf_L4  (v0 : Nat) (v1 : Int32) (v2 : Int32) (v3 : Int32) (μ : xM) : Option ((Int32 × Int32) ⊕ (Int32)) := (ldF μ v0 6 2).bind fun x1 => if x1 ≤ v3 then ((fS_viewsOf_36 v2 μ).map (fun o => .inr o)) else (if ((v1 >>> (v3 &&& 31)) &&& (xc 1)) = 0 then (fS_viewsOf_30 v0 v1 v2 v3 μ) else ((fS_viewOf v0 v3 μ).bind fun r2 => fS_viewsOf_30 v0 v1 (v2 ||| ((xc 1) <<< (r2 &&& 31))) v3 μ))
theorem fS_viewsOf_L4_ok {d : Nat} {v0 : Nat} {v1 : Int32} {v2 : Int32} {v3 : Int32} {μ : xM} {rv : Option Value} {μf : xM} {out : (Int32 × Int32) ⊕ (Int32)} (h : fS_viewsOf_L4 v0 v1 v2 v3 μ = some out) (hK : fS_viewsOf_K4 v0 v1 μ d rv μf out) : xRun (d + 1) 107 4 [some (.ref v0), some (.int v1), some (.int v2), some (.int v3)] [] μ rv μf := by
  unfold fS_viewsOf_L4 at h
  refine xr_go 2 (pc' := 6) (lo' := [some (.ref v0), some (.int v1), some (.int v2), some (.int v3)]) (st' := [.ref v0, .int v3]) (μ' := μ) rfl ?_
  obtain ⟨x1, hx1, h⟩ := Option.bind_eq_some_iff.mp h
  refine xr_opI (pc' := 9) (lo' := [some (.ref v0), some (.int v1), some (.int v2), some (.int v3)]) (st' := [.int v3]) (o := ldF μ v0 6 2) rfl hx1 ?_
  refine xr_icmp (pct := 36) rfl rfl rfl (fun hc => ?_) (fun hc => ?_)
  · replace h := (if_pos (of_decide_eq_true hc)).symm.trans h
    refine xr_forget (lo := [none, none, some (.int v2), none]) ⟨rfl, trivial⟩ ?_
    obtain ⟨o, h2, rfl⟩ := Option.map_eq_some_iff.mp h
    exact fS_viewsOf_36_ok h2 hK
  · replace h := (if_neg (of_decide_eq_false hc)).symm.trans h
    refine xr_go 5 (pc' := 17) (lo' := [some (.ref v0), some (.int v1), some (.int v2), some (.int v3)]) (st' := [.int ((v1 >>> (v3 &&& 31)) &&& (xc 1))]) (μ' := μ) rfl ?_
    refine xr_ifc (pct := 30) rfl rfl rfl (fun hc => ?_) (fun hc => ?_)
    · replace h := (if_pos (of_decide_eq_true hc)).symm.trans h
      refine xr_forget (lo := [some (.ref v0), some (.int v1), some (.int v2), some (.int v3)]) ⟨rfl, rfl, rfl, rfl, trivial⟩ ?_
      exact fS_viewsOf_30_ok h hK
    · replace h := (if_neg (of_decide_eq_false hc)).symm.trans h
      refine xr_go 4 (pc' := 24) (lo' := [some (.ref v0), some (.int v1), some (.int v2), some (.int v3)]) (st' := [.int v3, .ref v0, .int (xc 1), .int v2]) (μ' := μ) rfl ?_
      obtain ⟨r2, hr2, h⟩ := Option.bind_eq_some_iff.mp h
      refine xr_callV (j := 100) (d' := (d + 0)) (rv1 := some (.int r2)) (μ1 := μ) (rest := [.int (xc 1), .int v2]) (As := [.int v3]) rfl rfl rfl rfl (Nat.le_of_ble_eq_true rfl) (fS_viewOf_kd hr2) rfl (by exact (fS_viewOf_ok (d := d + (0)) hr2)) ?_
      refine xr_go 3 (pc' := 30) (lo' := [some (.ref v0), some (.int v1), some (.int (v2 ||| ((xc 1) <<< (r2 &&& 31)))), some (.int v3)]) (st' := []) (μ' := μ) rfl ?_
      refine xr_forget (lo := [some (.ref v0), some (.int v1), some (.int (v2 ||| ((xc 1) <<< (r2 &&& 31)))), some (.int v3)]) ⟨rfl, rfl, rfl, rfl, trivial⟩ ?_
      exact fS_viewsOf_30_ok h hK
theorem fS_viewsOf_L4_lp {d : Nat} {v0 : Nat} {v1 : Int32} {v2 : Int32} {v3 : Int32} {μ : xM} {rv : Option Value} {μf : xM} {out : Int32} (h : xwh (fun s : Int32 × Int32 => fS_viewsOf_L4 v0 v1 s.1 s.2 μ) (v2, v3) = some out) (hK : fS_viewsOf_K μ rv μf out) : xRun (d + 1) 107 4 [some (.ref v0), some (.int v1), some (.int v2), some (.int v3)] [] μ rv μf :=
  xwh_ind (Rh := fun s : Int32 × Int32 => xRun (d + 1) 107 4 [some (.ref v0), some (.int v1), some (.int s.1), some (.int s.2)] [] μ rv μf) (Co := fS_viewsOf_K μ rv μf) (fun s o hb hk => fS_viewsOf_L4_ok hb hk) h hK
noncomputable def fS_viewsOf_0  (v0 : Nat) (v1 : Int32) (μ : xM) : Option (Int32) := xwh (fun s : Int32 × Int32 => fS_viewsOf_L4 v0 v1 s.1 s.2 μ) (xc 0, xc 0)
theorem fS_viewsOf_0_ok {d : Nat} {v0 : Nat} {v1 : Int32} {μ : xM} {rv : Option Value} {μf : xM} {out : Int32} (h : fS_viewsOf_0 v0 v1 μ = some out) (hK : fS_viewsOf_K μ rv μf out) : xRun (d + 1) 107 0 [some (.ref v0), some (.int v1), none, none] [] μ rv μf := by
  unfold fS_viewsOf_0 at h
  refine xr_go 4 (pc' := 4) (lo' := [some (.ref v0), some (.int v1), some (.int (xc 0)), some (.int (xc 0))]) (st' := []) (μ' := μ) rfl ?_
  refine xr_forget (lo := [some (.ref v0), some (.int v1), some (.int (xc 0)), some (.int (xc 0))]) ⟨rfl, rfl, rfl, rfl, trivial⟩ ?_
  exact fS_viewsOf_L4_lp h hK
noncomputable def fS_viewsOf (a0 : Nat) (a1 : Int32) (μ : xM) : Option (Int32) := xgd μ a0 6 (fS_viewsOf_0 a0 a1 μ)
theorem fS_viewsOf_kd {a0 : Nat} {a1 : Int32} {μ : xM} {o : Int32} (h : fS_viewsOf a0 a1 μ = some o) : (xK μ a0).1 = 10 + 6 := (xgd_some h).1
theorem fS_viewsOf_ok {d : Nat} {a0 : Nat} {a1 : Int32} {μ : xM} {o : Int32} (h : fS_viewsOf a0 a1 μ = some o) : xRun (d + 1) 107 0 [some (.ref a0), some (.int a1), none, none] [] μ (some (.int o)) μ :=
  xr_forget (lo := [some (.ref a0), some (.int a1), none, none]) (⟨rfl, rfl, trivial⟩) (fS_viewsOf_0_ok (d := d) (xgd_some h).2 (show fS_viewsOf_K μ _ _ o from ⟨rfl, rfl⟩))
-- java/lang/Integer.bitCount(I)I 
def fJI_bitCount_K (μ : xM) (rv : Option Value) (μf : xM) : (Int32) → Prop := fun o => rv = some (.int o) ∧ μf = μ
noncomputable def fJI_bitCount_0  (v0 : Int32) (μ : xM) : Option (Int32) := some ((((((((v0 - ((xshr v0 (xc 1)) &&& (xc 1431655765))) &&& (xc 858993459)) + ((xshr (v0 - ((xshr v0 (xc 1)) &&& (xc 1431655765))) (xc 2)) &&& (xc 858993459))) + (xshr (((v0 - ((xshr v0 (xc 1)) &&& (xc 1431655765))) &&& (xc 858993459)) + ((xshr (v0 - ((xshr v0 (xc 1)) &&& (xc 1431655765))) (xc 2)) &&& (xc 858993459))) (xc 4))) &&& (xc 252645135)) + (xshr (((((v0 - ((xshr v0 (xc 1)) &&& (xc 1431655765))) &&& (xc 858993459)) + ((xshr (v0 - ((xshr v0 (xc 1)) &&& (xc 1431655765))) (xc 2)) &&& (xc 858993459))) + (xshr (((v0 - ((xshr v0 (xc 1)) &&& (xc 1431655765))) &&& (xc 858993459)) + ((xshr (v0 - ((xshr v0 (xc 1)) &&& (xc 1431655765))) (xc 2)) &&& (xc 858993459))) (xc 4))) &&& (xc 252645135)) (xc 8))) + (xshr ((((((v0 - ((xshr v0 (xc 1)) &&& (xc 1431655765))) &&& (xc 858993459)) + ((xshr (v0 - ((xshr v0 (xc 1)) &&& (xc 1431655765))) (xc 2)) &&& (xc 858993459))) + (xshr (((v0 - ((xshr v0 (xc 1)) &&& (xc 1431655765))) &&& (xc 858993459)) + ((xshr (v0 - ((xshr v0 (xc 1)) &&& (xc 1431655765))) (xc 2)) &&& (xc 858993459))) (xc 4))) &&& (xc 252645135)) + (xshr (((((v0 - ((xshr v0 (xc 1)) &&& (xc 1431655765))) &&& (xc 858993459)) + ((xshr (v0 - ((xshr v0 (xc 1)) &&& (xc 1431655765))) (xc 2)) &&& (xc 858993459))) + (xshr (((v0 - ((xshr v0 (xc 1)) &&& (xc 1431655765))) &&& (xc 858993459)) + ((xshr (v0 - ((xshr v0 (xc 1)) &&& (xc 1431655765))) (xc 2)) &&& (xc 858993459))) (xc 4))) &&& (xc 252645135)) (xc 8))) (xc 16))) &&& (xc 63))
theorem fJI_bitCount_0_ok {d : Nat} {v0 : Int32} {μ : xM} {rv : Option Value} {μf : xM} {out : Int32} (h : fJI_bitCount_0 v0 μ = some out) (hK : fJI_bitCount_K μ rv μf out) : xRun (d + 0) 221 0 [some (.int v0)] [] μ rv μf := by
  unfold fJI_bitCount_0 at h
  refine xr_go 41 (pc' := 52) (lo' := [some (.int (((((((v0 - ((xshr v0 (xc 1)) &&& (xc 1431655765))) &&& (xc 858993459)) + ((xshr (v0 - ((xshr v0 (xc 1)) &&& (xc 1431655765))) (xc 2)) &&& (xc 858993459))) + (xshr (((v0 - ((xshr v0 (xc 1)) &&& (xc 1431655765))) &&& (xc 858993459)) + ((xshr (v0 - ((xshr v0 (xc 1)) &&& (xc 1431655765))) (xc 2)) &&& (xc 858993459))) (xc 4))) &&& (xc 252645135)) + (xshr (((((v0 - ((xshr v0 (xc 1)) &&& (xc 1431655765))) &&& (xc 858993459)) + ((xshr (v0 - ((xshr v0 (xc 1)) &&& (xc 1431655765))) (xc 2)) &&& (xc 858993459))) + (xshr (((v0 - ((xshr v0 (xc 1)) &&& (xc 1431655765))) &&& (xc 858993459)) + ((xshr (v0 - ((xshr v0 (xc 1)) &&& (xc 1431655765))) (xc 2)) &&& (xc 858993459))) (xc 4))) &&& (xc 252645135)) (xc 8))) + (xshr ((((((v0 - ((xshr v0 (xc 1)) &&& (xc 1431655765))) &&& (xc 858993459)) + ((xshr (v0 - ((xshr v0 (xc 1)) &&& (xc 1431655765))) (xc 2)) &&& (xc 858993459))) + (xshr (((v0 - ((xshr v0 (xc 1)) &&& (xc 1431655765))) &&& (xc 858993459)) + ((xshr (v0 - ((xshr v0 (xc 1)) &&& (xc 1431655765))) (xc 2)) &&& (xc 858993459))) (xc 4))) &&& (xc 252645135)) + (xshr (((((v0 - ((xshr v0 (xc 1)) &&& (xc 1431655765))) &&& (xc 858993459)) + ((xshr (v0 - ((xshr v0 (xc 1)) &&& (xc 1431655765))) (xc 2)) &&& (xc 858993459))) + (xshr (((v0 - ((xshr v0 (xc 1)) &&& (xc 1431655765))) &&& (xc 858993459)) + ((xshr (v0 - ((xshr v0 (xc 1)) &&& (xc 1431655765))) (xc 2)) &&& (xc 858993459))) (xc 4))) &&& (xc 252645135)) (xc 8))) (xc 16))))]) (st' := [.int ((((((((v0 - ((xshr v0 (xc 1)) &&& (xc 1431655765))) &&& (xc 858993459)) + ((xshr (v0 - ((xshr v0 (xc 1)) &&& (xc 1431655765))) (xc 2)) &&& (xc 858993459))) + (xshr (((v0 - ((xshr v0 (xc 1)) &&& (xc 1431655765))) &&& (xc 858993459)) + ((xshr (v0 - ((xshr v0 (xc 1)) &&& (xc 1431655765))) (xc 2)) &&& (xc 858993459))) (xc 4))) &&& (xc 252645135)) + (xshr (((((v0 - ((xshr v0 (xc 1)) &&& (xc 1431655765))) &&& (xc 858993459)) + ((xshr (v0 - ((xshr v0 (xc 1)) &&& (xc 1431655765))) (xc 2)) &&& (xc 858993459))) + (xshr (((v0 - ((xshr v0 (xc 1)) &&& (xc 1431655765))) &&& (xc 858993459)) + ((xshr (v0 - ((xshr v0 (xc 1)) &&& (xc 1431655765))) (xc 2)) &&& (xc 858993459))) (xc 4))) &&& (xc 252645135)) (xc 8))) + (xshr ((((((v0 - ((xshr v0 (xc 1)) &&& (xc 1431655765))) &&& (xc 858993459)) + ((xshr (v0 - ((xshr v0 (xc 1)) &&& (xc 1431655765))) (xc 2)) &&& (xc 858993459))) + (xshr (((v0 - ((xshr v0 (xc 1)) &&& (xc 1431655765))) &&& (xc 858993459)) + ((xshr (v0 - ((xshr v0 (xc 1)) &&& (xc 1431655765))) (xc 2)) &&& (xc 858993459))) (xc 4))) &&& (xc 252645135)) + (xshr (((((v0 - ((xshr v0 (xc 1)) &&& (xc 1431655765))) &&& (xc 858993459)) + ((xshr (v0 - ((xshr v0 (xc 1)) &&& (xc 1431655765))) (xc 2)) &&& (xc 858993459))) + (xshr (((v0 - ((xshr v0 (xc 1)) &&& (xc 1431655765))) &&& (xc 858993459)) + ((xshr (v0 - ((xshr v0 (xc 1)) &&& (xc 1431655765))) (xc 2)) &&& (xc 858993459))) (xc 4))) &&& (xc 252645135)) (xc 8))) (xc 16))) &&& (xc 63))]) (μ' := μ) rfl ?_
  have ho := Option.some.inj h
  subst ho
  obtain ⟨rfl, rfl⟩ := hK
  exact xr_ret (rv := some (.int ((((((((v0 - ((xshr v0 (xc 1)) &&& (xc 1431655765))) &&& (xc 858993459)) + ((xshr (v0 - ((xshr v0 (xc 1)) &&& (xc 1431655765))) (xc 2)) &&& (xc 858993459))) + (xshr (((v0 - ((xshr v0 (xc 1)) &&& (xc 1431655765))) &&& (xc 858993459)) + ((xshr (v0 - ((xshr v0 (xc 1)) &&& (xc 1431655765))) (xc 2)) &&& (xc 858993459))) (xc 4))) &&& (xc 252645135)) + (xshr (((((v0 - ((xshr v0 (xc 1)) &&& (xc 1431655765))) &&& (xc 858993459)) + ((xshr (v0 - ((xshr v0 (xc 1)) &&& (xc 1431655765))) (xc 2)) &&& (xc 858993459))) + (xshr (((v0 - ((xshr v0 (xc 1)) &&& (xc 1431655765))) &&& (xc 858993459)) + ((xshr (v0 - ((xshr v0 (xc 1)) &&& (xc 1431655765))) (xc 2)) &&& (xc 858993459))) (xc 4))) &&& (xc 252645135)) (xc 8))) + (xshr ((((((v0 - ((xshr v0 (xc 1)) &&& (xc 1431655765))) &&& (xc 858993459)) + ((xshr (v0 - ((xshr v0 (xc 1)) &&& (xc 1431655765))) (xc 2)) &&& (xc 858993459))) + (xshr (((v0 - ((xshr v0 (xc 1)) &&& (xc 1431655765))) &&& (xc 858993459)) + ((xshr (v0 - ((xshr v0 (xc 1)) &&& (xc 1431655765))) (xc 2)) &&& (xc 858993459))) (xc 4))) &&& (xc 252645135)) + (xshr (((((v0 - ((xshr v0 (xc 1)) &&& (xc 1431655765))) &&& (xc 858993459)) + ((xshr (v0 - ((xshr v0 (xc 1)) &&& (xc 1431655765))) (xc 2)) &&& (xc 858993459))) + (xshr (((v0 - ((xshr v0 (xc 1)) &&& (xc 1431655765))) &&& (xc 858993459)) + ((xshr (v0 - ((xshr v0 (xc 1)) &&& (xc 1431655765))) (xc 2)) &&& (xc 858993459))) (xc 4))) &&& (xc 252645135)) (xc 8))) (xc 16))) &&& (xc 63)))) rfl rfl (Or.inl rfl)
noncomputable def fJI_bitCount (a0 : Int32) (μ : xM) : Option (Int32) := fJI_bitCount_0 a0 μ
theorem fJI_bitCount_ok {d : Nat} {a0 : Int32} {μ : xM} {o : Int32} (h : fJI_bitCount a0 μ = some o) : xRun (d + 0) 221 0 [some (.int a0)] [] μ (some (.int o)) μ :=
  xr_forget (lo := [some (.int a0)]) (⟨rfl, trivial⟩) (fJI_bitCount_0_ok (d := d) h (show fJI_bitCount_K μ _ _ o from ⟨rfl, rfl⟩))
-- KeptAnswers$Sight.noteCover(I)V 
def fS_noteCover_K (rv : Option Value) (μf : xM) : (xM) → Prop := fun o => rv = none ∧ μf = o
noncomputable def fS_noteCover_43  (v0 : Nat) (v1 : Int32) (μ : xM) : Option (xM) := (fJI_bitCount v1 μ).bind fun r1 => (ldF μ v0 6 6).bind fun x2 => (fJI_bitCount x2 μ).bind fun r3 => if r1 = r3 then ((ldF μ v0 6 7).bind fun x4 => (stF μ v0 6 7 (x4 + (xc 1))).bind fun μ5 => some μ5) else (some μ)
theorem fS_noteCover_43_ok {d : Nat} {v0 : Nat} {v1 : Int32} {μ : xM} {rv : Option Value} {μf : xM} {out : xM} (h : fS_noteCover_43 v0 v1 μ = some out) (hK : fS_noteCover_K rv μf out) : xRun (d + 2) 103 43 [some (.ref v0), some (.int v1)] [] μ rv μf := by
  unfold fS_noteCover_43 at h
  refine xr_go 1 (pc' := 44) (lo' := [some (.ref v0), some (.int v1)]) (st' := [.int v1]) (μ' := μ) rfl ?_
  obtain ⟨r1, hr1, h⟩ := Option.bind_eq_some_iff.mp h
  refine xr_callS (j := 221) (d' := (d + 1)) (rv1 := some (.int r1)) (μ1 := μ) (rest := []) (As := [.int v1]) rfl rfl rfl rfl (Nat.le_of_ble_eq_true rfl) rfl (by exact (fJI_bitCount_ok (d := d + (1)) hr1)) ?_
  refine xr_go 1 (pc' := 48) (lo' := [some (.ref v0), some (.int v1)]) (st' := [.ref v0, .int r1]) (μ' := μ) rfl ?_
  obtain ⟨x2, hx2, h⟩ := Option.bind_eq_some_iff.mp h
  refine xr_opI (pc' := 51) (lo' := [some (.ref v0), some (.int v1)]) (st' := [.int r1]) (o := ldF μ v0 6 6) rfl hx2 ?_
  obtain ⟨r3, hr3, h⟩ := Option.bind_eq_some_iff.mp h
  refine xr_callS (j := 221) (d' := (d + 1)) (rv1 := some (.int r3)) (μ1 := μ) (rest := [.int r1]) (As := [.int x2]) rfl rfl rfl rfl (Nat.le_of_ble_eq_true rfl) rfl (by exact (fJI_bitCount_ok (d := d + (1)) hr3)) ?_
  refine xr_icmp (pct := 67) rfl rfl rfl (fun hc => ?_) (fun hc => ?_)
  · replace h := (if_neg (of_decide_eq_true hc)).symm.trans h
    have ho := Option.some.inj h
    subst ho
    obtain ⟨rfl, rfl⟩ := hK
    exact xr_ret (rv := none) rfl rfl (rfl)
  · replace h := (if_pos (Decidable.of_not_not (of_decide_eq_false hc))).symm.trans h
    refine xr_go 2 (pc' := 59) (lo' := [some (.ref v0), some (.int v1)]) (st' := [.ref v0, .ref v0]) (μ' := μ) rfl ?_
    obtain ⟨x4, hx4, h⟩ := Option.bind_eq_some_iff.mp h
    refine xr_opI (pc' := 62) (lo' := [some (.ref v0), some (.int v1)]) (st' := [.ref v0]) (o := ldF μ v0 6 7) rfl hx4 ?_
    refine xr_go 2 (pc' := 64) (lo' := [some (.ref v0), some (.int v1)]) (st' := [.int (x4 + (xc 1)), .ref v0]) (μ' := μ) rfl ?_
    obtain ⟨μ5, hμ5, h⟩ := Option.bind_eq_some_iff.mp h
    refine xr_opM (pc' := 67) (lo' := [some (.ref v0), some (.int v1)]) (st' := []) (o := stF μ v0 6 7 (x4 + (xc 1))) rfl hμ5 ?_
    have ho := Option.some.inj h
    subst ho
    obtain ⟨rfl, rfl⟩ := hK
    exact xr_ret (rv := none) rfl rfl (rfl)
noncomputable def fS_noteCover_0  (v0 : Nat) (v1 : Int32) (μ : xM) : Option (xM) := (ldFR μ v0 6 4).bind fun x6 => (ldAL μ x6 (v1 >>> ((xc 6) &&& 31))).bind fun x7 => (stAL μ x6 (v1 >>> ((xc 6) &&& 31)) (x7 ||| ((Int64.ofNat 1) <<< (Int32.toInt64 v1 &&& 63)))).bind fun μ8 => (ldFL μ8 v0 6 5).bind fun x9 => (fS_viewsOf v0 v1 μ8).bind fun r10 => (stFL μ8 v0 6 5 (x9 ||| ((Int64.ofNat 1) <<< (Int32.toInt64 r10 &&& 63)))).bind fun μ11 => (ldF μ11 v0 6 6).bind fun x12 => if 0 ≤ x12 then (fS_noteCover_43 v0 v1 μ11) else ((stF μ11 v0 6 6 v1).bind fun μ13 => fS_noteCover_43 v0 v1 μ13)
theorem fS_noteCover_0_ok {d : Nat} {v0 : Nat} {v1 : Int32} {μ : xM} {rv : Option Value} {μf : xM} {out : xM} (h : fS_noteCover_0 v0 v1 μ = some out) (hK : fS_noteCover_K rv μf out) : xRun (d + 2) 103 0 [some (.ref v0), some (.int v1)] [] μ rv μf := by
  unfold fS_noteCover_0 at h
  refine xr_go 1 (pc' := 1) (lo' := [some (.ref v0), some (.int v1)]) (st' := [.ref v0]) (μ' := μ) rfl ?_
  obtain ⟨x6, hx6, h⟩ := Option.bind_eq_some_iff.mp h
  refine xr_opA (pc' := 4) (lo' := [some (.ref v0), some (.int v1)]) (st' := []) (o := ldFR μ v0 6 4) rfl hx6 ?_
  refine xr_go 4 (pc' := 9) (lo' := [some (.ref v0), some (.int v1)]) (st' := [.int (v1 >>> ((xc 6) &&& 31)), .ref x6, .int (v1 >>> ((xc 6) &&& 31)), .ref x6]) (μ' := μ) rfl ?_
  obtain ⟨x7, hx7, h⟩ := Option.bind_eq_some_iff.mp h
  refine xr_opJ (pc' := 10) (lo' := [some (.ref v0), some (.int v1)]) (st' := [.int (v1 >>> ((xc 6) &&& 31)), .ref x6]) (o := ldAL μ x6 (v1 >>> ((xc 6) &&& 31))) rfl hx7 ?_
  refine xr_go 4 (pc' := 14) (lo' := [some (.ref v0), some (.int v1)]) (st' := [.long (x7 ||| ((Int64.ofNat 1) <<< (Int32.toInt64 v1 &&& 63))), .int (v1 >>> ((xc 6) &&& 31)), .ref x6]) (μ' := μ) rfl ?_
  obtain ⟨μ8, hμ8, h⟩ := Option.bind_eq_some_iff.mp h
  refine xr_opM (pc' := 15) (lo' := [some (.ref v0), some (.int v1)]) (st' := []) (o := stAL μ x6 (v1 >>> ((xc 6) &&& 31)) (x7 ||| ((Int64.ofNat 1) <<< (Int32.toInt64 v1 &&& 63)))) rfl hμ8 ?_
  refine xr_go 2 (pc' := 17) (lo' := [some (.ref v0), some (.int v1)]) (st' := [.ref v0, .ref v0]) (μ' := μ8) rfl ?_
  obtain ⟨x9, hx9, h⟩ := Option.bind_eq_some_iff.mp h
  refine xr_opJ (pc' := 20) (lo' := [some (.ref v0), some (.int v1)]) (st' := [.ref v0]) (o := ldFL μ8 v0 6 5) rfl hx9 ?_
  refine xr_go 3 (pc' := 23) (lo' := [some (.ref v0), some (.int v1)]) (st' := [.int v1, .ref v0, .long (Int64.ofNat 1), .long x9, .ref v0]) (μ' := μ8) rfl ?_
  obtain ⟨r10, hr10, h⟩ := Option.bind_eq_some_iff.mp h
  refine xr_callV (j := 107) (d' := (d + 1)) (rv1 := some (.int r10)) (μ1 := μ8) (rest := [.long (Int64.ofNat 1), .long x9, .ref v0]) (As := [.int v1]) rfl rfl rfl rfl (Nat.le_of_ble_eq_true rfl) (fS_viewsOf_kd hr10) rfl (by exact (fS_viewsOf_ok (d := d + (0)) hr10)) ?_
  refine xr_go 2 (pc' := 28) (lo' := [some (.ref v0), some (.int v1)]) (st' := [.long (x9 ||| ((Int64.ofNat 1) <<< (Int32.toInt64 r10 &&& 63))), .ref v0]) (μ' := μ8) rfl ?_
  obtain ⟨μ11, hμ11, h⟩ := Option.bind_eq_some_iff.mp h
  refine xr_opM (pc' := 31) (lo' := [some (.ref v0), some (.int v1)]) (st' := []) (o := stFL μ8 v0 6 5 (x9 ||| ((Int64.ofNat 1) <<< (Int32.toInt64 r10 &&& 63)))) rfl hμ11 ?_
  refine xr_go 1 (pc' := 32) (lo' := [some (.ref v0), some (.int v1)]) (st' := [.ref v0]) (μ' := μ11) rfl ?_
  obtain ⟨x12, hx12, h⟩ := Option.bind_eq_some_iff.mp h
  refine xr_opI (pc' := 35) (lo' := [some (.ref v0), some (.int v1)]) (st' := []) (o := ldF μ11 v0 6 6) rfl hx12 ?_
  refine xr_ifc (pct := 43) rfl rfl rfl (fun hc => ?_) (fun hc => ?_)
  · replace h := (if_pos (of_decide_eq_true hc)).symm.trans h
    refine xr_forget (lo := [some (.ref v0), some (.int v1)]) ⟨rfl, rfl, trivial⟩ ?_
    exact fS_noteCover_43_ok h hK
  · replace h := (if_neg (of_decide_eq_false hc)).symm.trans h
    refine xr_go 2 (pc' := 40) (lo' := [some (.ref v0), some (.int v1)]) (st' := [.int v1, .ref v0]) (μ' := μ11) rfl ?_
    obtain ⟨μ13, hμ13, h⟩ := Option.bind_eq_some_iff.mp h
    refine xr_opM (pc' := 43) (lo' := [some (.ref v0), some (.int v1)]) (st' := []) (o := stF μ11 v0 6 6 v1) rfl hμ13 ?_
    refine xr_forget (lo := [some (.ref v0), some (.int v1)]) ⟨rfl, rfl, trivial⟩ ?_
    exact fS_noteCover_43_ok h hK
noncomputable def fS_noteCover (a0 : Nat) (a1 : Int32) (μ : xM) : Option (xM) := xgd μ a0 6 (fS_noteCover_0 a0 a1 μ)
theorem fS_noteCover_kd {a0 : Nat} {a1 : Int32} {μ : xM} {o : xM} (h : fS_noteCover a0 a1 μ = some o) : (xK μ a0).1 = 10 + 6 := (xgd_some h).1
theorem fS_noteCover_ok {d : Nat} {a0 : Nat} {a1 : Int32} {μ : xM} {o : xM} (h : fS_noteCover a0 a1 μ = some o) : xRun (d + 2) 103 0 [some (.ref a0), some (.int a1)] [] μ none o :=
  xr_forget (lo := [some (.ref a0), some (.int a1)]) (⟨rfl, rfl, trivial⟩) (fS_noteCover_0_ok (d := d) (xgd_some h).2 (show fS_noteCover_K _ _ o from ⟨rfl, rfl⟩))
-- KeptAnswers$Sight.isCover(I)Z 
def fS_isCover_K (μ : xM) (rv : Option Value) (μf : xM) : (Int32) → Prop := fun o => rv = some (.int o) ∧ μf = μ
noncomputable def fS_isCover_36  (μ : xM) : Option (Int32) := some (xc 0)
theorem fS_isCover_36_ok {d : Nat} {μ : xM} {rv : Option Value} {μf : xM} {out : Int32} (h : fS_isCover_36 μ = some out) (hK : fS_isCover_K μ rv μf out) : xRun (d + 0) 104 36 [none, none] [] μ rv μf := by
  unfold fS_isCover_36 at h
  refine xr_go 1 (pc' := 37) (lo' := [none, none]) (st' := [.int (xc 0)]) (μ' := μ) rfl ?_
  have ho := Option.some.inj h
  subst ho
  obtain ⟨rfl, rfl⟩ := hK
  exact xr_ret (rv := some (.int (xc 0))) rfl rfl (Or.inr ⟨rfl, Or.inl rfl⟩)
noncomputable def fS_isCover_0  (v0 : Nat) (v1 : Int32) (μ : xM) : Option (Int32) := if v1 < 0 then (fS_isCover_36 μ) else ((ldF μ v0 6 2).bind fun x1 => if ((xc 1) <<< (x1 &&& 31)) ≤ v1 then (fS_isCover_36 μ) else ((ldFR μ v0 6 4).bind fun x2 => (ldAL μ x2 (v1 >>> ((xc 6) &&& 31))).bind fun x3 => if (lg_cmp ((x3 >>> (Int32.toInt64 v1 &&& 63)) &&& (Int64.ofNat 1)) (Int64.ofNat 0)) = 0 then (fS_isCover_36 μ) else (some (xc 1))))
theorem fS_isCover_0_ok {d : Nat} {v0 : Nat} {v1 : Int32} {μ : xM} {rv : Option Value} {μf : xM} {out : Int32} (h : fS_isCover_0 v0 v1 μ = some out) (hK : fS_isCover_K μ rv μf out) : xRun (d + 0) 104 0 [some (.ref v0), some (.int v1)] [] μ rv μf := by
  unfold fS_isCover_0 at h
  refine xr_go 1 (pc' := 1) (lo' := [some (.ref v0), some (.int v1)]) (st' := [.int v1]) (μ' := μ) rfl ?_
  refine xr_ifc (pct := 36) rfl rfl rfl (fun hc => ?_) (fun hc => ?_)
  · replace h := (if_pos (of_decide_eq_true hc)).symm.trans h
    refine xr_forget (lo := [none, none]) trivial ?_
    exact fS_isCover_36_ok h hK
  · replace h := (if_neg (of_decide_eq_false hc)).symm.trans h
    refine xr_go 3 (pc' := 7) (lo' := [some (.ref v0), some (.int v1)]) (st' := [.ref v0, .int (xc 1), .int v1]) (μ' := μ) rfl ?_
    obtain ⟨x1, hx1, h⟩ := Option.bind_eq_some_iff.mp h
    refine xr_opI (pc' := 10) (lo' := [some (.ref v0), some (.int v1)]) (st' := [.int (xc 1), .int v1]) (o := ldF μ v0 6 2) rfl hx1 ?_
    refine xr_go 1 (pc' := 11) (lo' := [some (.ref v0), some (.int v1)]) (st' := [.int ((xc 1) <<< (x1 &&& 31)), .int v1]) (μ' := μ) rfl ?_
    refine xr_icmp (pct := 36) rfl rfl rfl (fun hc => ?_) (fun hc => ?_)
    · replace h := (if_pos (of_decide_eq_true hc)).symm.trans h
      refine xr_forget (lo := [none, none]) trivial ?_
      exact fS_isCover_36_ok h hK
    · replace h := (if_neg (of_decide_eq_false hc)).symm.trans h
      refine xr_go 1 (pc' := 15) (lo' := [some (.ref v0), some (.int v1)]) (st' := [.ref v0]) (μ' := μ) rfl ?_
      obtain ⟨x2, hx2, h⟩ := Option.bind_eq_some_iff.mp h
      refine xr_opA (pc' := 18) (lo' := [some (.ref v0), some (.int v1)]) (st' := []) (o := ldFR μ v0 6 4) rfl hx2 ?_
      refine xr_go 3 (pc' := 22) (lo' := [some (.ref v0), some (.int v1)]) (st' := [.int (v1 >>> ((xc 6) &&& 31)), .ref x2]) (μ' := μ) rfl ?_
      obtain ⟨x3, hx3, h⟩ := Option.bind_eq_some_iff.mp h
      refine xr_opJ (pc' := 23) (lo' := [some (.ref v0), some (.int v1)]) (st' := []) (o := ldAL μ x2 (v1 >>> ((xc 6) &&& 31))) rfl hx3 ?_
      refine xr_go 6 (pc' := 29) (lo' := [some (.ref v0), some (.int v1)]) (st' := [.int (lg_cmp ((x3 >>> (Int32.toInt64 v1 &&& 63)) &&& (Int64.ofNat 1)) (Int64.ofNat 0))]) (μ' := μ) rfl ?_
      refine xr_ifc (pct := 36) rfl rfl rfl (fun hc => ?_) (fun hc => ?_)
      · replace h := (if_pos (of_decide_eq_true hc)).symm.trans h
        refine xr_forget (lo := [none, none]) trivial ?_
        exact fS_isCover_36_ok h hK
      · replace h := (if_neg (of_decide_eq_false hc)).symm.trans h
        refine xr_go 2 (pc' := 37) (lo' := [some (.ref v0), some (.int v1)]) (st' := [.int (xc 1)]) (μ' := μ) rfl ?_
        have ho := Option.some.inj h
        subst ho
        obtain ⟨rfl, rfl⟩ := hK
        exact xr_ret (rv := some (.int (xc 1))) rfl rfl (Or.inr ⟨rfl, Or.inr rfl⟩)
noncomputable def fS_isCover (a0 : Nat) (a1 : Int32) (μ : xM) : Option (Int32) := xgd μ a0 6 (fS_isCover_0 a0 a1 μ)
theorem fS_isCover_kd {a0 : Nat} {a1 : Int32} {μ : xM} {o : Int32} (h : fS_isCover a0 a1 μ = some o) : (xK μ a0).1 = 10 + 6 := (xgd_some h).1
theorem fS_isCover_ok {d : Nat} {a0 : Nat} {a1 : Int32} {μ : xM} {o : Int32} (h : fS_isCover a0 a1 μ = some o) : xRun (d + 0) 104 0 [some (.ref a0), some (.int a1)] [] μ (some (.int o)) μ :=
  xr_forget (lo := [some (.ref a0), some (.int a1)]) (⟨rfl, rfl, trivial⟩) (fS_isCover_0_ok (d := d) (xgd_some h).2 (show fS_isCover_K μ _ _ o from ⟨rfl, rfl⟩))
-- KeptAnswers$Sight.hasCoverIn(I)Z 
def fS_hasCoverIn_K (μ : xM) (rv : Option Value) (μf : xM) : (Int32) → Prop := fun o => rv = some (.int o) ∧ μf = μ
def fS_hasCoverIn_K2 (v0 : Nat) (v1 : Int32) (μ : xM) (d : Nat) (rv : Option Value) (μf : xM) : ((Int32) ⊕ (Int32)) → Prop := Sum.elim (fun s : Int32 => xRun (d + 1) 106 2 [some (.ref v0), some (.int v1), some (.int s)] [] μ rv μf) (fS_hasCoverIn_K μ rv μf)
noncomputable def fS_hasCoverIn_40  (μ : xM) : Option (Int32) := some (xc 0)
theorem fS_hasCoverIn_40_ok {d : Nat} {μ : xM} {rv : Option Value} {μf : xM} {out : Int32} (h : fS_hasCoverIn_40 μ = some out) (hK : fS_hasCoverIn_K μ rv μf out) : xRun (d + 1) 106 40 [none, none, none] [] μ rv μf := by
  unfold fS_hasCoverIn_40 at h
  refine xr_go 1 (pc' := 41) (lo' := [none, none, none]) (st' := [.int (xc 0)]) (μ' := μ) rfl ?_
  have ho := Option.some.inj h
  subst ho
  obtain ⟨rfl, rfl⟩ := hK
  exact xr_ret (rv := some (.int (xc 0))) rfl rfl (Or.inr ⟨rfl, Or.inl rfl⟩)
noncomputable def fS_hasCoverIn_34  (v0 : Nat) (v1 : Int32) (v2 : Int32) (μ : xM) : Option ((Int32) ⊕ (Int32)) := some (.inl ((v2 + xc 1)))
theorem fS_hasCoverIn_34_ok {d : Nat} {v0 : Nat} {v1 : Int32} {v2 : Int32} {μ : xM} {rv : Option Value} {μf : xM} {out : (Int32) ⊕ (Int32)} (h : fS_hasCoverIn_34 v0 v1 v2 μ = some out) (hK : fS_hasCoverIn_K2 v0 v1 μ d rv μf out) : xRun (d + 1) 106 34 [some (.ref v0), some (.int v1), some (.int v2)] [] μ rv μf := by
  unfold fS_hasCoverIn_34 at h
  refine xr_go 2 (pc' := 2) (lo' := [some (.ref v0), some (.int v1), some (.int (v2 + xc 1))]) (st' := []) (μ' := μ) rfl ?_
  refine xr_forget (lo := [some (.ref v0), some (.int v1), some (.int (v2 + xc 1))]) ⟨rfl, rfl, rfl, trivial⟩ ?_
  have ho := Option.some.inj h
  subst ho
  exact hK
noncomputable def fS_hasCoverIn_32  (μ : xM) : Option (Int32) := some (xc 1)
theorem fS_hasCoverIn_32_ok {d : Nat} {μ : xM} {rv : Option Value} {μf : xM} {out : Int32} (h : fS_hasCoverIn_32 μ = some out) (hK : fS_hasCoverIn_K μ rv μf out) : xRun (d + 1) 106 32 [none, none, none] [] μ rv μf := by
  unfold fS_hasCoverIn_32 at h
  refine xr_go 1 (pc' := 33) (lo' := [none, none, none]) (st' := [.int (xc 1)]) (μ' := μ) rfl ?_
  have ho := Option.some.inj h
  subst ho
  obtain ⟨rfl, rfl⟩ := hK
  exact xr_ret (rv := some (.int (xc 1))) rfl rfl (Or.inr ⟨rfl, Or.inr rfl⟩)
noncomputable def fS_hasCoverIn_L2  (v0 : Nat) (v1 : Int32) (v2 : Int32) (μ : xM) : Option ((Int32) ⊕ (Int32)) := (ldF μ v0 6 2).bind fun x1 => if x1 ≤ v2 then ((fS_hasCoverIn_40 μ).map (fun o => .inr o)) else (if ((v1 >>> (v2 &&& 31)) &&& (xc 1)) = 0 then (fS_hasCoverIn_34 v0 v1 v2 μ) else ((fS_isCover v0 (v1 &&& (((xc 1) <<< (v2 &&& 31)) ^^^ (xc (-1)))) μ).bind fun r2 => if r2 = 0 then (fS_hasCoverIn_34 v0 v1 v2 μ) else ((fS_hasCoverIn_32 μ).map (fun o => .inr o))))
theorem fS_hasCoverIn_L2_ok {d : Nat} {v0 : Nat} {v1 : Int32} {v2 : Int32} {μ : xM} {rv : Option Value} {μf : xM} {out : (Int32) ⊕ (Int32)} (h : fS_hasCoverIn_L2 v0 v1 v2 μ = some out) (hK : fS_hasCoverIn_K2 v0 v1 μ d rv μf out) : xRun (d + 1) 106 2 [some (.ref v0), some (.int v1), some (.int v2)] [] μ rv μf := by
  unfold fS_hasCoverIn_L2 at h
  refine xr_go 2 (pc' := 4) (lo' := [some (.ref v0), some (.int v1), some (.int v2)]) (st' := [.ref v0, .int v2]) (μ' := μ) rfl ?_
  obtain ⟨x1, hx1, h⟩ := Option.bind_eq_some_iff.mp h
  refine xr_opI (pc' := 7) (lo' := [some (.ref v0), some (.int v1), some (.int v2)]) (st' := [.int v2]) (o := ldF μ v0 6 2) rfl hx1 ?_
  refine xr_icmp (pct := 40) rfl rfl rfl (fun hc => ?_) (fun hc => ?_)
  · replace h := (if_pos (of_decide_eq_true hc)).symm.trans h
    refine xr_forget (lo := [none, none, none]) trivial ?_
    obtain ⟨o, h2, rfl⟩ := Option.map_eq_some_iff.mp h
    exact fS_hasCoverIn_40_ok h2 hK
  · replace h := (if_neg (of_decide_eq_false hc)).symm.trans h
    refine xr_go 5 (pc' := 15) (lo' := [some (.ref v0), some (.int v1), some (.int v2)]) (st' := [.int ((v1 >>> (v2 &&& 31)) &&& (xc 1))]) (μ' := μ) rfl ?_
    refine xr_ifc (pct := 34) rfl rfl rfl (fun hc => ?_) (fun hc => ?_)
    · replace h := (if_pos (of_decide_eq_true hc)).symm.trans h
      refine xr_forget (lo := [some (.ref v0), some (.int v1), some (.int v2)]) ⟨rfl, rfl, rfl, trivial⟩ ?_
      exact fS_hasCoverIn_34_ok h hK
    · replace h := (if_neg (of_decide_eq_false hc)).symm.trans h
      refine xr_go 8 (pc' := 26) (lo' := [some (.ref v0), some (.int v1), some (.int v2)]) (st' := [.int (v1 &&& (((xc 1) <<< (v2 &&& 31)) ^^^ (xc (-1)))), .ref v0]) (μ' := μ) rfl ?_
      obtain ⟨r2, hr2, h⟩ := Option.bind_eq_some_iff.mp h
      refine xr_callV (j := 104) (d' := (d + 0)) (rv1 := some (.int r2)) (μ1 := μ) (rest := []) (As := [.int (v1 &&& (((xc 1) <<< (v2 &&& 31)) ^^^ (xc (-1))))]) rfl rfl rfl rfl (Nat.le_of_ble_eq_true rfl) (fS_isCover_kd hr2) rfl (by exact (fS_isCover_ok (d := d + (0)) hr2)) ?_
      refine xr_ifc (pct := 34) rfl rfl rfl (fun hc => ?_) (fun hc => ?_)
      · replace h := (if_pos (of_decide_eq_true hc)).symm.trans h
        refine xr_forget (lo := [some (.ref v0), some (.int v1), some (.int v2)]) ⟨rfl, rfl, rfl, trivial⟩ ?_
        exact fS_hasCoverIn_34_ok h hK
      · replace h := (if_neg (of_decide_eq_false hc)).symm.trans h
        refine xr_forget (lo := [none, none, none]) trivial ?_
        obtain ⟨o, h2, rfl⟩ := Option.map_eq_some_iff.mp h
        exact fS_hasCoverIn_32_ok h2 hK
theorem fS_hasCoverIn_L2_lp {d : Nat} {v0 : Nat} {v1 : Int32} {v2 : Int32} {μ : xM} {rv : Option Value} {μf : xM} {out : Int32} (h : xwh (fun s : Int32 => fS_hasCoverIn_L2 v0 v1 s μ) (v2) = some out) (hK : fS_hasCoverIn_K μ rv μf out) : xRun (d + 1) 106 2 [some (.ref v0), some (.int v1), some (.int v2)] [] μ rv μf :=
  xwh_ind (Rh := fun s : Int32 => xRun (d + 1) 106 2 [some (.ref v0), some (.int v1), some (.int s)] [] μ rv μf) (Co := fS_hasCoverIn_K μ rv μf) (fun s o hb hk => fS_hasCoverIn_L2_ok hb hk) h hK
noncomputable def fS_hasCoverIn_0  (v0 : Nat) (v1 : Int32) (μ : xM) : Option (Int32) := xwh (fun s : Int32 => fS_hasCoverIn_L2 v0 v1 s μ) (xc 0)
theorem fS_hasCoverIn_0_ok {d : Nat} {v0 : Nat} {v1 : Int32} {μ : xM} {rv : Option Value} {μf : xM} {out : Int32} (h : fS_hasCoverIn_0 v0 v1 μ = some out) (hK : fS_hasCoverIn_K μ rv μf out) : xRun (d + 1) 106 0 [some (.ref v0), some (.int v1), none] [] μ rv μf := by
  unfold fS_hasCoverIn_0 at h
  refine xr_go 2 (pc' := 2) (lo' := [some (.ref v0), some (.int v1), some (.int (xc 0))]) (st' := []) (μ' := μ) rfl ?_
  refine xr_forget (lo := [some (.ref v0), some (.int v1), some (.int (xc 0))]) ⟨rfl, rfl, rfl, trivial⟩ ?_
  exact fS_hasCoverIn_L2_lp h hK
noncomputable def fS_hasCoverIn (a0 : Nat) (a1 : Int32) (μ : xM) : Option (Int32) := xgd μ a0 6 (fS_hasCoverIn_0 a0 a1 μ)
theorem fS_hasCoverIn_kd {a0 : Nat} {a1 : Int32} {μ : xM} {o : Int32} (h : fS_hasCoverIn a0 a1 μ = some o) : (xK μ a0).1 = 10 + 6 := (xgd_some h).1
theorem fS_hasCoverIn_ok {d : Nat} {a0 : Nat} {a1 : Int32} {μ : xM} {o : Int32} (h : fS_hasCoverIn a0 a1 μ = some o) : xRun (d + 1) 106 0 [some (.ref a0), some (.int a1), none] [] μ (some (.int o)) μ :=
  xr_forget (lo := [some (.ref a0), some (.int a1), none]) (⟨rfl, rfl, trivial⟩) (fS_hasCoverIn_0_ok (d := d) (xgd_some h).2 (show fS_hasCoverIn_K μ _ _ o from ⟨rfl, rfl⟩))
-- KeptAnswers$Picture.placeInHead(I)I 
def fP_placeInHead_K (μ : xM) (rv : Option Value) (μf : xM) : (Int32) → Prop := fun o => rv = some (.int o) ∧ μf = μ
def fP_placeInHead_K2 (v0 : Nat) (v1 : Int32) (μ : xM) (d : Nat) (rv : Option Value) (μf : xM) : ((Int32) ⊕ (Int32)) → Prop := Sum.elim (fun s : Int32 => xRun (d + 0) 84 2 [some (.ref v0), some (.int v1), some (.int s)] [] μ rv μf) (fP_placeInHead_K μ rv μf)
noncomputable def fP_placeInHead_28  (μ : xM) : Option (Int32) := some (xc (-1))
theorem fP_placeInHead_28_ok {d : Nat} {μ : xM} {rv : Option Value} {μf : xM} {out : Int32} (h : fP_placeInHead_28 μ = some out) (hK : fP_placeInHead_K μ rv μf out) : xRun (d + 0) 84 28 [none, none, none] [] μ rv μf := by
  unfold fP_placeInHead_28 at h
  refine xr_go 1 (pc' := 29) (lo' := [none, none, none]) (st' := [.int (xc (-1))]) (μ' := μ) rfl ?_
  have ho := Option.some.inj h
  subst ho
  obtain ⟨rfl, rfl⟩ := hK
  exact xr_ret (rv := some (.int (xc (-1)))) rfl rfl (Or.inl rfl)
noncomputable def fP_placeInHead_20  (v2 : Int32) (μ : xM) : Option (Int32) := some v2
theorem fP_placeInHead_20_ok {d : Nat} {v2 : Int32} {μ : xM} {rv : Option Value} {μf : xM} {out : Int32} (h : fP_placeInHead_20 v2 μ = some out) (hK : fP_placeInHead_K μ rv μf out) : xRun (d + 0) 84 20 [none, none, some (.int v2)] [] μ rv μf := by
  unfold fP_placeInHead_20 at h
  refine xr_go 1 (pc' := 21) (lo' := [none, none, some (.int v2)]) (st' := [.int v2]) (μ' := μ) rfl ?_
  have ho := Option.some.inj h
  subst ho
  obtain ⟨rfl, rfl⟩ := hK
  exact xr_ret (rv := some (.int v2)) rfl rfl (Or.inl rfl)
noncomputable def fP_placeInHead_L2  (v0 : Nat) (v1 : Int32) (v2 : Int32) (μ : xM) : Option ((Int32) ⊕ (Int32)) := (ldF μ v0 5 4).bind fun x1 => if x1 ≤ v2 then ((fP_placeInHead_28 μ).map (fun o => .inr o)) else ((ldFR μ v0 5 5).bind fun x2 => (ldA μ x2 v2).bind fun x3 => if x3 = v1 then ((fP_placeInHead_20 v2 μ).map (fun o => .inr o)) else (some (.inl ((v2 + xc 1)))))
theorem fP_placeInHead_L2_ok {d : Nat} {v0 : Nat} {v1 : Int32} {v2 : Int32} {μ : xM} {rv : Option Value} {μf : xM} {out : (Int32) ⊕ (Int32)} (h : fP_placeInHead_L2 v0 v1 v2 μ = some out) (hK : fP_placeInHead_K2 v0 v1 μ d rv μf out) : xRun (d + 0) 84 2 [some (.ref v0), some (.int v1), some (.int v2)] [] μ rv μf := by
  unfold fP_placeInHead_L2 at h
  refine xr_go 2 (pc' := 4) (lo' := [some (.ref v0), some (.int v1), some (.int v2)]) (st' := [.ref v0, .int v2]) (μ' := μ) rfl ?_
  obtain ⟨x1, hx1, h⟩ := Option.bind_eq_some_iff.mp h
  refine xr_opI (pc' := 7) (lo' := [some (.ref v0), some (.int v1), some (.int v2)]) (st' := [.int v2]) (o := ldF μ v0 5 4) rfl hx1 ?_
  refine xr_icmp (pct := 28) rfl rfl rfl (fun hc => ?_) (fun hc => ?_)
  · replace h := (if_pos (of_decide_eq_true hc)).symm.trans h
    refine xr_forget (lo := [none, none, none]) trivial ?_
    obtain ⟨o, h2, rfl⟩ := Option.map_eq_some_iff.mp h
    exact fP_placeInHead_28_ok h2 hK
  · replace h := (if_neg (of_decide_eq_false hc)).symm.trans h
    refine xr_go 1 (pc' := 11) (lo' := [some (.ref v0), some (.int v1), some (.int v2)]) (st' := [.ref v0]) (μ' := μ) rfl ?_
    obtain ⟨x2, hx2, h⟩ := Option.bind_eq_some_iff.mp h
    refine xr_opA (pc' := 14) (lo' := [some (.ref v0), some (.int v1), some (.int v2)]) (st' := []) (o := ldFR μ v0 5 5) rfl hx2 ?_
    refine xr_go 1 (pc' := 15) (lo' := [some (.ref v0), some (.int v1), some (.int v2)]) (st' := [.int v2, .ref x2]) (μ' := μ) rfl ?_
    obtain ⟨x3, hx3, h⟩ := Option.bind_eq_some_iff.mp h
    refine xr_opI (pc' := 16) (lo' := [some (.ref v0), some (.int v1), some (.int v2)]) (st' := []) (o := ldA μ x2 v2) rfl hx3 ?_
    refine xr_go 1 (pc' := 17) (lo' := [some (.ref v0), some (.int v1), some (.int v2)]) (st' := [.int v1, .int x3]) (μ' := μ) rfl ?_
    refine xr_icmp (pct := 22) rfl rfl rfl (fun hc => ?_) (fun hc => ?_)
    · replace h := (if_neg (of_decide_eq_true hc)).symm.trans h
      refine xr_go 2 (pc' := 2) (lo' := [some (.ref v0), some (.int v1), some (.int (v2 + xc 1))]) (st' := []) (μ' := μ) rfl ?_
      refine xr_forget (lo := [some (.ref v0), some (.int v1), some (.int (v2 + xc 1))]) ⟨rfl, rfl, rfl, trivial⟩ ?_
      have ho := Option.some.inj h
      subst ho
      exact hK
    · replace h := (if_pos (Decidable.of_not_not (of_decide_eq_false hc))).symm.trans h
      refine xr_forget (lo := [none, none, some (.int v2)]) ⟨rfl, trivial⟩ ?_
      obtain ⟨o, h2, rfl⟩ := Option.map_eq_some_iff.mp h
      exact fP_placeInHead_20_ok h2 hK
theorem fP_placeInHead_L2_lp {d : Nat} {v0 : Nat} {v1 : Int32} {v2 : Int32} {μ : xM} {rv : Option Value} {μf : xM} {out : Int32} (h : xwh (fun s : Int32 => fP_placeInHead_L2 v0 v1 s μ) (v2) = some out) (hK : fP_placeInHead_K μ rv μf out) : xRun (d + 0) 84 2 [some (.ref v0), some (.int v1), some (.int v2)] [] μ rv μf :=
  xwh_ind (Rh := fun s : Int32 => xRun (d + 0) 84 2 [some (.ref v0), some (.int v1), some (.int s)] [] μ rv μf) (Co := fP_placeInHead_K μ rv μf) (fun s o hb hk => fP_placeInHead_L2_ok hb hk) h hK
noncomputable def fP_placeInHead_0  (v0 : Nat) (v1 : Int32) (μ : xM) : Option (Int32) := xwh (fun s : Int32 => fP_placeInHead_L2 v0 v1 s μ) (xc 0)
theorem fP_placeInHead_0_ok {d : Nat} {v0 : Nat} {v1 : Int32} {μ : xM} {rv : Option Value} {μf : xM} {out : Int32} (h : fP_placeInHead_0 v0 v1 μ = some out) (hK : fP_placeInHead_K μ rv μf out) : xRun (d + 0) 84 0 [some (.ref v0), some (.int v1), none] [] μ rv μf := by
  unfold fP_placeInHead_0 at h
  refine xr_go 2 (pc' := 2) (lo' := [some (.ref v0), some (.int v1), some (.int (xc 0))]) (st' := []) (μ' := μ) rfl ?_
  refine xr_forget (lo := [some (.ref v0), some (.int v1), some (.int (xc 0))]) ⟨rfl, rfl, rfl, trivial⟩ ?_
  exact fP_placeInHead_L2_lp h hK
noncomputable def fP_placeInHead (a0 : Nat) (a1 : Int32) (μ : xM) : Option (Int32) := xgd μ a0 5 (fP_placeInHead_0 a0 a1 μ)
theorem fP_placeInHead_kd {a0 : Nat} {a1 : Int32} {μ : xM} {o : Int32} (h : fP_placeInHead a0 a1 μ = some o) : (xK μ a0).1 = 10 + 5 := (xgd_some h).1
theorem fP_placeInHead_ok {d : Nat} {a0 : Nat} {a1 : Int32} {μ : xM} {o : Int32} (h : fP_placeInHead a0 a1 μ = some o) : xRun (d + 0) 84 0 [some (.ref a0), some (.int a1), none] [] μ (some (.int o)) μ :=
  xr_forget (lo := [some (.ref a0), some (.int a1), none]) (⟨rfl, rfl, trivial⟩) (fP_placeInHead_0_ok (d := d) (xgd_some h).2 (show fP_placeInHead_K μ _ _ o from ⟨rfl, rfl⟩))
-- KeptAnswers$Sight.openTerm(LKeptAnswers$Picture;III)I 
def fS_openTerm_K (μ : xM) (rv : Option Value) (μf : xM) : (Int32) → Prop := fun o => rv = some (.int o) ∧ μf = μ
noncomputable def fS_openTerm_0  (v0 : Nat) (v1 : Nat) (v2 : Int32) (v3 : Int32) (v4 : Int32) (μ : xM) : Option (Int32) := if (xc 2) ≤ v2 then ((fP_placeInHead v1 v2 μ).bind fun r1 => if 0 ≤ r1 then ((fS_termOf v0 v3 r1 μ).bind fun r2 => some r2) else (some ((v4 + v2) - (xc 2)))) else (some v2)
theorem fS_openTerm_0_ok {d : Nat} {v0 : Nat} {v1 : Nat} {v2 : Int32} {v3 : Int32} {v4 : Int32} {μ : xM} {rv : Option Value} {μf : xM} {out : Int32} (h : fS_openTerm_0 v0 v1 v2 v3 v4 μ = some out) (hK : fS_openTerm_K μ rv μf out) : xRun (d + 1) 111 0 [some (.ref v0), some (.ref v1), some (.int v2), some (.int v3), some (.int v4), none] [] μ rv μf := by
  unfold fS_openTerm_0 at h
  refine xr_go 2 (pc' := 2) (lo' := [some (.ref v0), some (.ref v1), some (.int v2), some (.int v3), some (.int v4), none]) (st' := [.int (xc 2), .int v2]) (μ' := μ) rfl ?_
  refine xr_icmp (pct := 7) rfl rfl rfl (fun hc => ?_) (fun hc => ?_)
  · replace h := (if_pos (of_decide_eq_true hc)).symm.trans h
    refine xr_go 2 (pc' := 9) (lo' := [some (.ref v0), some (.ref v1), some (.int v2), some (.int v3), some (.int v4), none]) (st' := [.int v2, .ref v1]) (μ' := μ) rfl ?_
    obtain ⟨r1, hr1, h⟩ := Option.bind_eq_some_iff.mp h
    refine xr_callV (j := 84) (d' := (d + 0)) (rv1 := some (.int r1)) (μ1 := μ) (rest := []) (As := [.int v2]) rfl rfl rfl rfl (Nat.le_of_ble_eq_true rfl) (fP_placeInHead_kd hr1) rfl (by exact (fP_placeInHead_ok (d := d + (0)) hr1)) ?_
    refine xr_go 2 (pc' := 16) (lo' := [some (.ref v0), some (.ref v1), some (.int v2), some (.int v3), some (.int v4), some (.int r1)]) (st' := [.int r1]) (μ' := μ) rfl ?_
    refine xr_ifc (pct := 28) rfl rfl rfl (fun hc => ?_) (fun hc => ?_)
    · replace h := (if_pos (of_decide_eq_true hc)).symm.trans h
      refine xr_go 3 (pc' := 32) (lo' := [some (.ref v0), some (.ref v1), some (.int v2), some (.int v3), some (.int v4), some (.int r1)]) (st' := [.int r1, .int v3, .ref v0]) (μ' := μ) rfl ?_
      obtain ⟨r2, hr2, h⟩ := Option.bind_eq_some_iff.mp h
      refine xr_callV (j := 101) (d' := (d + 0)) (rv1 := some (.int r2)) (μ1 := μ) (rest := []) (As := [.int v3, .int r1]) rfl rfl rfl rfl (Nat.le_of_ble_eq_true rfl) (fS_termOf_kd hr2) rfl (by exact (fS_termOf_ok (d := d + (0)) hr2)) ?_
      have ho := Option.some.inj h
      subst ho
      obtain ⟨rfl, rfl⟩ := hK
      exact xr_ret (rv := some (.int r2)) rfl rfl (Or.inl rfl)
    · replace h := (if_neg (of_decide_eq_false hc)).symm.trans h
      refine xr_go 6 (pc' := 35) (lo' := [some (.ref v0), some (.ref v1), some (.int v2), some (.int v3), some (.int v4), some (.int r1)]) (st' := [.int ((v4 + v2) - (xc 2))]) (μ' := μ) rfl ?_
      have ho := Option.some.inj h
      subst ho
      obtain ⟨rfl, rfl⟩ := hK
      exact xr_ret (rv := some (.int ((v4 + v2) - (xc 2)))) rfl rfl (Or.inl rfl)
  · replace h := (if_neg (of_decide_eq_false hc)).symm.trans h
    refine xr_go 1 (pc' := 6) (lo' := [some (.ref v0), some (.ref v1), some (.int v2), some (.int v3), some (.int v4), none]) (st' := [.int v2]) (μ' := μ) rfl ?_
    have ho := Option.some.inj h
    subst ho
    obtain ⟨rfl, rfl⟩ := hK
    exact xr_ret (rv := some (.int v2)) rfl rfl (Or.inl rfl)
noncomputable def fS_openTerm (a0 : Nat) (a1 : Nat) (a2 : Int32) (a3 : Int32) (a4 : Int32) (μ : xM) : Option (Int32) := xgd μ a0 6 (fS_openTerm_0 a0 a1 a2 a3 a4 μ)
theorem fS_openTerm_kd {a0 : Nat} {a1 : Nat} {a2 : Int32} {a3 : Int32} {a4 : Int32} {μ : xM} {o : Int32} (h : fS_openTerm a0 a1 a2 a3 a4 μ = some o) : (xK μ a0).1 = 10 + 6 := (xgd_some h).1
theorem fS_openTerm_ok {d : Nat} {a0 : Nat} {a1 : Nat} {a2 : Int32} {a3 : Int32} {a4 : Int32} {μ : xM} {o : Int32} (h : fS_openTerm a0 a1 a2 a3 a4 μ = some o) : xRun (d + 1) 111 0 [some (.ref a0), some (.ref a1), some (.int a2), some (.int a3), some (.int a4), none] [] μ (some (.int o)) μ :=
  xr_forget (lo := [some (.ref a0), some (.ref a1), some (.int a2), some (.int a3), some (.int a4), none]) (⟨rfl, rfl, rfl, rfl, rfl, trivial⟩) (fS_openTerm_0_ok (d := d) (xgd_some h).2 (show fS_openTerm_K μ _ _ o from ⟨rfl, rfl⟩))
-- KeptAnswers$Sight.openShow(LKeptAnswers$Picture;LKeptAnswers$Picture;II)V 
def fS_openShow_K (rv : Option Value) (μf : xM) : (xM) → Prop := fun o => rv = none ∧ μf = o
def fS_openShow_K3 (v0 : Nat) (v1 : Nat) (v2 : Nat) (v3 : Int32) (v4 : Int32) (d : Nat) (rv : Option Value) (μf : xM) : ((Int32 × xM) ⊕ (xM)) → Prop := Sum.elim (fun s : Int32 × xM => xRun (d + 2) 110 3 [some (.ref v0), some (.ref v1), some (.ref v2), some (.int v3), some (.int v4), some (.int s.1), none, none] [] s.2 rv μf) (fS_openShow_K rv μf)
noncomputable def fS_openShow_L3  (v0 : Nat) (v1 : Nat) (v2 : Nat) (v3 : Int32) (v4 : Int32) (v5 : Int32) (μ : xM) : Option ((Int32 × xM) ⊕ (xM)) := (ldF μ v2 5 0).bind fun x1 => if x1 ≤ v5 then (some (.inr μ)) else ((ldFR μ v2 5 2).bind fun x2 => (ldA μ x2 v5).bind fun x3 => (fS_openTerm v0 v2 x3 v3 v4 μ).bind fun r4 => (ldFR μ v2 5 3).bind fun x5 => (ldA μ x5 v5).bind fun x6 => (fS_openTerm v0 v2 x6 v3 v4 μ).bind fun r7 => (ldFR μ v2 5 1).bind fun x8 => (ldA μ x8 v5).bind fun x9 => (fP_addRow v1 x9 r4 r7 μ).bind fun r10 => some (.inl ((v5 + xc 1, r10))))
theorem fS_openShow_L3_ok {d : Nat} {v0 : Nat} {v1 : Nat} {v2 : Nat} {v3 : Int32} {v4 : Int32} {v5 : Int32} {μ : xM} {rv : Option Value} {μf : xM} {out : (Int32 × xM) ⊕ (xM)} (h : fS_openShow_L3 v0 v1 v2 v3 v4 v5 μ = some out) (hK : fS_openShow_K3 v0 v1 v2 v3 v4 d rv μf out) : xRun (d + 2) 110 3 [some (.ref v0), some (.ref v1), some (.ref v2), some (.int v3), some (.int v4), some (.int v5), none, none] [] μ rv μf := by
  unfold fS_openShow_L3 at h
  refine xr_go 2 (pc' := 6) (lo' := [some (.ref v0), some (.ref v1), some (.ref v2), some (.int v3), some (.int v4), some (.int v5), none, none]) (st' := [.ref v2, .int v5]) (μ' := μ) rfl ?_
  obtain ⟨x1, hx1, h⟩ := Option.bind_eq_some_iff.mp h
  refine xr_opI (pc' := 9) (lo' := [some (.ref v0), some (.ref v1), some (.ref v2), some (.int v3), some (.int v4), some (.int v5), none, none]) (st' := [.int v5]) (o := ldF μ v2 5 0) rfl hx1 ?_
  refine xr_icmp (pct := 67) rfl rfl rfl (fun hc => ?_) (fun hc => ?_)
  · replace h := (if_pos (of_decide_eq_true hc)).symm.trans h
    have ho := Option.some.inj h
    subst ho
    obtain ⟨rfl, rfl⟩ := hK
    exact xr_ret (rv := none) rfl rfl (rfl)
  · replace h := (if_neg (of_decide_eq_false hc)).symm.trans h
    refine xr_go 3 (pc' := 15) (lo' := [some (.ref v0), some (.ref v1), some (.ref v2), some (.int v3), some (.int v4), some (.int v5), none, none]) (st' := [.ref v2, .ref v2, .ref v0]) (μ' := μ) rfl ?_
    obtain ⟨x2, hx2, h⟩ := Option.bind_eq_some_iff.mp h
    refine xr_opA (pc' := 18) (lo' := [some (.ref v0), some (.ref v1), some (.ref v2), some (.int v3), some (.int v4), some (.int v5), none, none]) (st' := [.ref v2, .ref v0]) (o := ldFR μ v2 5 2) rfl hx2 ?_
    refine xr_go 1 (pc' := 20) (lo' := [some (.ref v0), some (.ref v1), some (.ref v2), some (.int v3), some (.int v4), some (.int v5), none, none]) (st' := [.int v5, .ref x2, .ref v2, .ref v0]) (μ' := μ) rfl ?_
    obtain ⟨x3, hx3, h⟩ := Option.bind_eq_some_iff.mp h
    refine xr_opI (pc' := 21) (lo' := [some (.ref v0), some (.ref v1), some (.ref v2), some (.int v3), some (.int v4), some (.int v5), none, none]) (st' := [.ref v2, .ref v0]) (o := ldA μ x2 v5) rfl hx3 ?_
    refine xr_go 2 (pc' := 24) (lo' := [some (.ref v0), some (.ref v1), some (.ref v2), some (.int v3), some (.int v4), some (.int v5), none, none]) (st' := [.int v4, .int v3, .int x3, .ref v2, .ref v0]) (μ' := μ) rfl ?_
    obtain ⟨r4, hr4, h⟩ := Option.bind_eq_some_iff.mp h
    refine xr_callV (j := 111) (d' := (d + 1)) (rv1 := some (.int r4)) (μ1 := μ) (rest := []) (As := [.ref v2, .int x3, .int v3, .int v4]) rfl rfl rfl rfl (Nat.le_of_ble_eq_true rfl) (fS_openTerm_kd hr4) rfl (by exact (fS_openTerm_ok (d := d + (0)) hr4)) ?_
    refine xr_go 4 (pc' := 32) (lo' := [some (.ref v0), some (.ref v1), some (.ref v2), some (.int v3), some (.int v4), some (.int v5), some (.int r4), none]) (st' := [.ref v2, .ref v2, .ref v0]) (μ' := μ) rfl ?_
    obtain ⟨x5, hx5, h⟩ := Option.bind_eq_some_iff.mp h
    refine xr_opA (pc' := 35) (lo' := [some (.ref v0), some (.ref v1), some (.ref v2), some (.int v3), some (.int v4), some (.int v5), some (.int r4), none]) (st' := [.ref v2, .ref v0]) (o := ldFR μ v2 5 3) rfl hx5 ?_
    refine xr_go 1 (pc' := 37) (lo' := [some (.ref v0), some (.ref v1), some (.ref v2), some (.int v3), some (.int v4), some (.int v5), some (.int r4), none]) (st' := [.int v5, .ref x5, .ref v2, .ref v0]) (μ' := μ) rfl ?_
    obtain ⟨x6, hx6, h⟩ := Option.bind_eq_some_iff.mp h
    refine xr_opI (pc' := 38) (lo' := [some (.ref v0), some (.ref v1), some (.ref v2), some (.int v3), some (.int v4), some (.int v5), some (.int r4), none]) (st' := [.ref v2, .ref v0]) (o := ldA μ x5 v5) rfl hx6 ?_
    refine xr_go 2 (pc' := 41) (lo' := [some (.ref v0), some (.ref v1), some (.ref v2), some (.int v3), some (.int v4), some (.int v5), some (.int r4), none]) (st' := [.int v4, .int v3, .int x6, .ref v2, .ref v0]) (μ' := μ) rfl ?_
    obtain ⟨r7, hr7, h⟩ := Option.bind_eq_some_iff.mp h
    refine xr_callV (j := 111) (d' := (d + 1)) (rv1 := some (.int r7)) (μ1 := μ) (rest := []) (As := [.ref v2, .int x6, .int v3, .int v4]) rfl rfl rfl rfl (Nat.le_of_ble_eq_true rfl) (fS_openTerm_kd hr7) rfl (by exact (fS_openTerm_ok (d := d + (0)) hr7)) ?_
    refine xr_go 3 (pc' := 48) (lo' := [some (.ref v0), some (.ref v1), some (.ref v2), some (.int v3), some (.int v4), some (.int v5), some (.int r4), some (.int r7)]) (st' := [.ref v2, .ref v1]) (μ' := μ) rfl ?_
    obtain ⟨x8, hx8, h⟩ := Option.bind_eq_some_iff.mp h
    refine xr_opA (pc' := 51) (lo' := [some (.ref v0), some (.ref v1), some (.ref v2), some (.int v3), some (.int v4), some (.int v5), some (.int r4), some (.int r7)]) (st' := [.ref v1]) (o := ldFR μ v2 5 1) rfl hx8 ?_
    refine xr_go 1 (pc' := 53) (lo' := [some (.ref v0), some (.ref v1), some (.ref v2), some (.int v3), some (.int v4), some (.int v5), some (.int r4), some (.int r7)]) (st' := [.int v5, .ref x8, .ref v1]) (μ' := μ) rfl ?_
    obtain ⟨x9, hx9, h⟩ := Option.bind_eq_some_iff.mp h
    refine xr_opI (pc' := 54) (lo' := [some (.ref v0), some (.ref v1), some (.ref v2), some (.int v3), some (.int v4), some (.int v5), some (.int r4), some (.int r7)]) (st' := [.ref v1]) (o := ldA μ x8 v5) rfl hx9 ?_
    refine xr_go 2 (pc' := 58) (lo' := [some (.ref v0), some (.ref v1), some (.ref v2), some (.int v3), some (.int v4), some (.int v5), some (.int r4), some (.int r7)]) (st' := [.int r7, .int r4, .int x9, .ref v1]) (μ' := μ) rfl ?_
    obtain ⟨r10, hr10, h⟩ := Option.bind_eq_some_iff.mp h
    refine xr_callV (j := 78) (d' := (d + 1)) (rv1 := none) (μ1 := r10) (rest := []) (As := [.int x9, .int r4, .int r7]) rfl rfl rfl rfl (Nat.le_of_ble_eq_true rfl) (fP_addRow_kd hr10) rfl (by exact (fP_addRow_ok (d := d + (1)) hr10)) ?_
    refine xr_go 2 (pc' := 3) (lo' := [some (.ref v0), some (.ref v1), some (.ref v2), some (.int v3), some (.int v4), some (.int (v5 + xc 1)), some (.int r4), some (.int r7)]) (st' := []) (μ' := r10) rfl ?_
    refine xr_forget (lo := [some (.ref v0), some (.ref v1), some (.ref v2), some (.int v3), some (.int v4), some (.int (v5 + xc 1)), none, none]) ⟨rfl, rfl, rfl, rfl, rfl, rfl, trivial⟩ ?_
    have ho := Option.some.inj h
    subst ho
    exact hK
theorem fS_openShow_L3_lp {d : Nat} {v0 : Nat} {v1 : Nat} {v2 : Nat} {v3 : Int32} {v4 : Int32} {v5 : Int32} {μ : xM} {rv : Option Value} {μf : xM} {out : xM} (h : xwh (fun s : Int32 × xM => fS_openShow_L3 v0 v1 v2 v3 v4 s.1 s.2) (v5, μ) = some out) (hK : fS_openShow_K rv μf out) : xRun (d + 2) 110 3 [some (.ref v0), some (.ref v1), some (.ref v2), some (.int v3), some (.int v4), some (.int v5), none, none] [] μ rv μf :=
  xwh_ind (Rh := fun s : Int32 × xM => xRun (d + 2) 110 3 [some (.ref v0), some (.ref v1), some (.ref v2), some (.int v3), some (.int v4), some (.int s.1), none, none] [] s.2 rv μf) (Co := fS_openShow_K rv μf) (fun s o hb hk => fS_openShow_L3_ok hb hk) h hK
noncomputable def fS_openShow_0  (v0 : Nat) (v1 : Nat) (v2 : Nat) (v3 : Int32) (v4 : Int32) (μ : xM) : Option (xM) := xwh (fun s : Int32 × xM => fS_openShow_L3 v0 v1 v2 v3 v4 s.1 s.2) (xc 0, μ)
theorem fS_openShow_0_ok {d : Nat} {v0 : Nat} {v1 : Nat} {v2 : Nat} {v3 : Int32} {v4 : Int32} {μ : xM} {rv : Option Value} {μf : xM} {out : xM} (h : fS_openShow_0 v0 v1 v2 v3 v4 μ = some out) (hK : fS_openShow_K rv μf out) : xRun (d + 2) 110 0 [some (.ref v0), some (.ref v1), some (.ref v2), some (.int v3), some (.int v4), none, none, none] [] μ rv μf := by
  unfold fS_openShow_0 at h
  refine xr_go 2 (pc' := 3) (lo' := [some (.ref v0), some (.ref v1), some (.ref v2), some (.int v3), some (.int v4), some (.int (xc 0)), none, none]) (st' := []) (μ' := μ) rfl ?_
  refine xr_forget (lo := [some (.ref v0), some (.ref v1), some (.ref v2), some (.int v3), some (.int v4), some (.int (xc 0)), none, none]) ⟨rfl, rfl, rfl, rfl, rfl, rfl, trivial⟩ ?_
  exact fS_openShow_L3_lp h hK
noncomputable def fS_openShow (a0 : Nat) (a1 : Nat) (a2 : Nat) (a3 : Int32) (a4 : Int32) (μ : xM) : Option (xM) := xgd μ a0 6 (fS_openShow_0 a0 a1 a2 a3 a4 μ)
theorem fS_openShow_kd {a0 : Nat} {a1 : Nat} {a2 : Nat} {a3 : Int32} {a4 : Int32} {μ : xM} {o : xM} (h : fS_openShow a0 a1 a2 a3 a4 μ = some o) : (xK μ a0).1 = 10 + 6 := (xgd_some h).1
theorem fS_openShow_ok {d : Nat} {a0 : Nat} {a1 : Nat} {a2 : Nat} {a3 : Int32} {a4 : Int32} {μ : xM} {o : xM} (h : fS_openShow a0 a1 a2 a3 a4 μ = some o) : xRun (d + 2) 110 0 [some (.ref a0), some (.ref a1), some (.ref a2), some (.int a3), some (.int a4), none, none, none] [] μ none o :=
  xr_forget (lo := [some (.ref a0), some (.ref a1), some (.ref a2), some (.int a3), some (.int a4), none, none, none]) (⟨rfl, rfl, rfl, rfl, rfl, trivial⟩) (fS_openShow_0_ok (d := d) (xgd_some h).2 (show fS_openShow_K _ _ o from ⟨rfl, rfl⟩))
-- KeptAnswers$Sight.termsOf(I)I 
def fS_termsOf_K (μ : xM) (rv : Option Value) (μf : xM) : (Int32) → Prop := fun o => rv = some (.int o) ∧ μf = μ
def fS_termsOf_K4 (v0 : Nat) (v1 : Int32) (μ : xM) (d : Nat) (rv : Option Value) (μf : xM) : ((Int32 × Int32) ⊕ (Int32)) → Prop := Sum.elim (fun s : Int32 × Int32 => xRun (d + 1) 108 4 [some (.ref v0), some (.int v1), some (.int s.1), some (.int s.2)] [] μ rv μf) (fS_termsOf_K μ rv μf)
noncomputable def fS_termsOf_26  (v2 : Int32) (μ : xM) : Option (Int32) := some v2
theorem fS_termsOf_26_ok {d : Nat} {v2 : Int32} {μ : xM} {rv : Option Value} {μf : xM} {out : Int32} (h : fS_termsOf_26 v2 μ = some out) (hK : fS_termsOf_K μ rv μf out) : xRun (d + 1) 108 26 [none, none, some (.int v2), none] [] μ rv μf := by
  unfold fS_termsOf_26 at h
  refine xr_go 1 (pc' := 27) (lo' := [none, none, some (.int v2), none]) (st' := [.int v2]) (μ' := μ) rfl ?_
  have ho := Option.some.inj h
  subst ho
  obtain ⟨rfl, rfl⟩ := hK
  exact xr_ret (rv := some (.int v2)) rfl rfl (Or.inl rfl)
noncomputable def fS_termsOf_L4  (v0 : Nat) (v1 : Int32) (v2 : Int32) (v3 : Int32) (μ : xM) : Option ((Int32 × Int32) ⊕ (Int32)) := if (xc 3) ≤ v3 then ((fS_termsOf_26 v2 μ).map (fun o => .inr o)) else ((fS_termOf v0 v1 v3 μ).bind fun r1 => some (.inl ((v2 ||| ((xc 1) <<< (r1 &&& 31)), v3 + xc 1))))
theorem fS_termsOf_L4_ok {d : Nat} {v0 : Nat} {v1 : Int32} {v2 : Int32} {v3 : Int32} {μ : xM} {rv : Option Value} {μf : xM} {out : (Int32 × Int32) ⊕ (Int32)} (h : fS_termsOf_L4 v0 v1 v2 v3 μ = some out) (hK : fS_termsOf_K4 v0 v1 μ d rv μf out) : xRun (d + 1) 108 4 [some (.ref v0), some (.int v1), some (.int v2), some (.int v3)] [] μ rv μf := by
  unfold fS_termsOf_L4 at h
  refine xr_go 2 (pc' := 6) (lo' := [some (.ref v0), some (.int v1), some (.int v2), some (.int v3)]) (st' := [.int (xc 3), .int v3]) (μ' := μ) rfl ?_
  refine xr_icmp (pct := 26) rfl rfl rfl (fun hc => ?_) (fun hc => ?_)
  · replace h := (if_pos (of_decide_eq_true hc)).symm.trans h
    refine xr_forget (lo := [none, none, some (.int v2), none]) ⟨rfl, trivial⟩ ?_
    obtain ⟨o, h2, rfl⟩ := Option.map_eq_some_iff.mp h
    exact fS_termsOf_26_ok h2 hK
  · replace h := (if_neg (of_decide_eq_false hc)).symm.trans h
    refine xr_go 5 (pc' := 14) (lo' := [some (.ref v0), some (.int v1), some (.int v2), some (.int v3)]) (st' := [.int v3, .int v1, .ref v0, .int (xc 1), .int v2]) (μ' := μ) rfl ?_
    obtain ⟨r1, hr1, h⟩ := Option.bind_eq_some_iff.mp h
    refine xr_callV (j := 101) (d' := (d + 0)) (rv1 := some (.int r1)) (μ1 := μ) (rest := [.int (xc 1), .int v2]) (As := [.int v1, .int v3]) rfl rfl rfl rfl (Nat.le_of_ble_eq_true rfl) (fS_termOf_kd hr1) rfl (by exact (fS_termOf_ok (d := d + (0)) hr1)) ?_
    refine xr_go 5 (pc' := 4) (lo' := [some (.ref v0), some (.int v1), some (.int (v2 ||| ((xc 1) <<< (r1 &&& 31)))), some (.int (v3 + xc 1))]) (st' := []) (μ' := μ) rfl ?_
    refine xr_forget (lo := [some (.ref v0), some (.int v1), some (.int (v2 ||| ((xc 1) <<< (r1 &&& 31)))), some (.int (v3 + xc 1))]) ⟨rfl, rfl, rfl, rfl, trivial⟩ ?_
    have ho := Option.some.inj h
    subst ho
    exact hK
theorem fS_termsOf_L4_lp {d : Nat} {v0 : Nat} {v1 : Int32} {v2 : Int32} {v3 : Int32} {μ : xM} {rv : Option Value} {μf : xM} {out : Int32} (h : xwh (fun s : Int32 × Int32 => fS_termsOf_L4 v0 v1 s.1 s.2 μ) (v2, v3) = some out) (hK : fS_termsOf_K μ rv μf out) : xRun (d + 1) 108 4 [some (.ref v0), some (.int v1), some (.int v2), some (.int v3)] [] μ rv μf :=
  xwh_ind (Rh := fun s : Int32 × Int32 => xRun (d + 1) 108 4 [some (.ref v0), some (.int v1), some (.int s.1), some (.int s.2)] [] μ rv μf) (Co := fS_termsOf_K μ rv μf) (fun s o hb hk => fS_termsOf_L4_ok hb hk) h hK
noncomputable def fS_termsOf_0  (v0 : Nat) (v1 : Int32) (μ : xM) : Option (Int32) := xwh (fun s : Int32 × Int32 => fS_termsOf_L4 v0 v1 s.1 s.2 μ) (xc 0, xc 0)
theorem fS_termsOf_0_ok {d : Nat} {v0 : Nat} {v1 : Int32} {μ : xM} {rv : Option Value} {μf : xM} {out : Int32} (h : fS_termsOf_0 v0 v1 μ = some out) (hK : fS_termsOf_K μ rv μf out) : xRun (d + 1) 108 0 [some (.ref v0), some (.int v1), none, none] [] μ rv μf := by
  unfold fS_termsOf_0 at h
  refine xr_go 4 (pc' := 4) (lo' := [some (.ref v0), some (.int v1), some (.int (xc 0)), some (.int (xc 0))]) (st' := []) (μ' := μ) rfl ?_
  refine xr_forget (lo := [some (.ref v0), some (.int v1), some (.int (xc 0)), some (.int (xc 0))]) ⟨rfl, rfl, rfl, rfl, trivial⟩ ?_
  exact fS_termsOf_L4_lp h hK
noncomputable def fS_termsOf (a0 : Nat) (a1 : Int32) (μ : xM) : Option (Int32) := xgd μ a0 6 (fS_termsOf_0 a0 a1 μ)
theorem fS_termsOf_kd {a0 : Nat} {a1 : Int32} {μ : xM} {o : Int32} (h : fS_termsOf a0 a1 μ = some o) : (xK μ a0).1 = 10 + 6 := (xgd_some h).1
theorem fS_termsOf_ok {d : Nat} {a0 : Nat} {a1 : Int32} {μ : xM} {o : Int32} (h : fS_termsOf a0 a1 μ = some o) : xRun (d + 1) 108 0 [some (.ref a0), some (.int a1), none, none] [] μ (some (.int o)) μ :=
  xr_forget (lo := [some (.ref a0), some (.int a1), none, none]) (⟨rfl, rfl, trivial⟩) (fS_termsOf_0_ok (d := d) (xgd_some h).2 (show fS_termsOf_K μ _ _ o from ⟨rfl, rfl⟩))
-- KeptAnswers$Picture.headNames()I 
def fP_headNames_K (μ : xM) (rv : Option Value) (μf : xM) : (Int32) → Prop := fun o => rv = some (.int o) ∧ μf = μ
def fP_headNames_K4 (v0 : Nat) (μ : xM) (d : Nat) (rv : Option Value) (μf : xM) : ((Int32 × Int32) ⊕ (Int32)) → Prop := Sum.elim (fun s : Int32 × Int32 => xRun (d + 0) 83 4 [some (.ref v0), some (.int s.1), some (.int s.2)] [] μ rv μf) (fP_headNames_K μ rv μf)
noncomputable def fP_headNames_29  (v1 : Int32) (μ : xM) : Option (Int32) := some ((v1 >>> ((xc 2) &&& 31)) <<< ((xc 2) &&& 31))
theorem fP_headNames_29_ok {d : Nat} {v1 : Int32} {μ : xM} {rv : Option Value} {μf : xM} {out : Int32} (h : fP_headNames_29 v1 μ = some out) (hK : fP_headNames_K μ rv μf out) : xRun (d + 0) 83 29 [none, some (.int v1), none] [] μ rv μf := by
  unfold fP_headNames_29 at h
  refine xr_go 5 (pc' := 34) (lo' := [none, some (.int v1), none]) (st' := [.int ((v1 >>> ((xc 2) &&& 31)) <<< ((xc 2) &&& 31))]) (μ' := μ) rfl ?_
  have ho := Option.some.inj h
  subst ho
  obtain ⟨rfl, rfl⟩ := hK
  exact xr_ret (rv := some (.int ((v1 >>> ((xc 2) &&& 31)) <<< ((xc 2) &&& 31)))) rfl rfl (Or.inl rfl)
noncomputable def fP_headNames_L4  (v0 : Nat) (v1 : Int32) (v2 : Int32) (μ : xM) : Option ((Int32 × Int32) ⊕ (Int32)) := (ldF μ v0 5 4).bind fun x1 => if x1 ≤ v2 then ((fP_headNames_29 v1 μ).map (fun o => .inr o)) else ((ldFR μ v0 5 5).bind fun x2 => (ldA μ x2 v2).bind fun x3 => some (.inl ((v1 ||| ((xc 1) <<< (x3 &&& 31)), v2 + xc 1))))
theorem fP_headNames_L4_ok {d : Nat} {v0 : Nat} {v1 : Int32} {v2 : Int32} {μ : xM} {rv : Option Value} {μf : xM} {out : (Int32 × Int32) ⊕ (Int32)} (h : fP_headNames_L4 v0 v1 v2 μ = some out) (hK : fP_headNames_K4 v0 μ d rv μf out) : xRun (d + 0) 83 4 [some (.ref v0), some (.int v1), some (.int v2)] [] μ rv μf := by
  unfold fP_headNames_L4 at h
  refine xr_go 2 (pc' := 6) (lo' := [some (.ref v0), some (.int v1), some (.int v2)]) (st' := [.ref v0, .int v2]) (μ' := μ) rfl ?_
  obtain ⟨x1, hx1, h⟩ := Option.bind_eq_some_iff.mp h
  refine xr_opI (pc' := 9) (lo' := [some (.ref v0), some (.int v1), some (.int v2)]) (st' := [.int v2]) (o := ldF μ v0 5 4) rfl hx1 ?_
  refine xr_icmp (pct := 29) rfl rfl rfl (fun hc => ?_) (fun hc => ?_)
  · replace h := (if_pos (of_decide_eq_true hc)).symm.trans h
    refine xr_forget (lo := [none, some (.int v1), none]) ⟨rfl, trivial⟩ ?_
    obtain ⟨o, h2, rfl⟩ := Option.map_eq_some_iff.mp h
    exact fP_headNames_29_ok h2 hK
  · replace h := (if_neg (of_decide_eq_false hc)).symm.trans h
    refine xr_go 3 (pc' := 15) (lo' := [some (.ref v0), some (.int v1), some (.int v2)]) (st' := [.ref v0, .int (xc 1), .int v1]) (μ' := μ) rfl ?_
    obtain ⟨x2, hx2, h⟩ := Option.bind_eq_some_iff.mp h
    refine xr_opA (pc' := 18) (lo' := [some (.ref v0), some (.int v1), some (.int v2)]) (st' := [.int (xc 1), .int v1]) (o := ldFR μ v0 5 5) rfl hx2 ?_
    refine xr_go 1 (pc' := 19) (lo' := [some (.ref v0), some (.int v1), some (.int v2)]) (st' := [.int v2, .ref x2, .int (xc 1), .int v1]) (μ' := μ) rfl ?_
    obtain ⟨x3, hx3, h⟩ := Option.bind_eq_some_iff.mp h
    refine xr_opI (pc' := 20) (lo' := [some (.ref v0), some (.int v1), some (.int v2)]) (st' := [.int (xc 1), .int v1]) (o := ldA μ x2 v2) rfl hx3 ?_
    refine xr_go 5 (pc' := 4) (lo' := [some (.ref v0), some (.int (v1 ||| ((xc 1) <<< (x3 &&& 31)))), some (.int (v2 + xc 1))]) (st' := []) (μ' := μ) rfl ?_
    refine xr_forget (lo := [some (.ref v0), some (.int (v1 ||| ((xc 1) <<< (x3 &&& 31)))), some (.int (v2 + xc 1))]) ⟨rfl, rfl, rfl, trivial⟩ ?_
    have ho := Option.some.inj h
    subst ho
    exact hK
theorem fP_headNames_L4_lp {d : Nat} {v0 : Nat} {v1 : Int32} {v2 : Int32} {μ : xM} {rv : Option Value} {μf : xM} {out : Int32} (h : xwh (fun s : Int32 × Int32 => fP_headNames_L4 v0 s.1 s.2 μ) (v1, v2) = some out) (hK : fP_headNames_K μ rv μf out) : xRun (d + 0) 83 4 [some (.ref v0), some (.int v1), some (.int v2)] [] μ rv μf :=
  xwh_ind (Rh := fun s : Int32 × Int32 => xRun (d + 0) 83 4 [some (.ref v0), some (.int s.1), some (.int s.2)] [] μ rv μf) (Co := fP_headNames_K μ rv μf) (fun s o hb hk => fP_headNames_L4_ok hb hk) h hK
noncomputable def fP_headNames_0  (v0 : Nat) (μ : xM) : Option (Int32) := xwh (fun s : Int32 × Int32 => fP_headNames_L4 v0 s.1 s.2 μ) (xc 0, xc 0)
theorem fP_headNames_0_ok {d : Nat} {v0 : Nat} {μ : xM} {rv : Option Value} {μf : xM} {out : Int32} (h : fP_headNames_0 v0 μ = some out) (hK : fP_headNames_K μ rv μf out) : xRun (d + 0) 83 0 [some (.ref v0), none, none] [] μ rv μf := by
  unfold fP_headNames_0 at h
  refine xr_go 4 (pc' := 4) (lo' := [some (.ref v0), some (.int (xc 0)), some (.int (xc 0))]) (st' := []) (μ' := μ) rfl ?_
  refine xr_forget (lo := [some (.ref v0), some (.int (xc 0)), some (.int (xc 0))]) ⟨rfl, rfl, rfl, trivial⟩ ?_
  exact fP_headNames_L4_lp h hK
noncomputable def fP_headNames (a0 : Nat) (μ : xM) : Option (Int32) := xgd μ a0 5 (fP_headNames_0 a0 μ)
theorem fP_headNames_kd {a0 : Nat} {μ : xM} {o : Int32} (h : fP_headNames a0 μ = some o) : (xK μ a0).1 = 10 + 5 := (xgd_some h).1
theorem fP_headNames_ok {d : Nat} {a0 : Nat} {μ : xM} {o : Int32} (h : fP_headNames a0 μ = some o) : xRun (d + 0) 83 0 [some (.ref a0), none, none] [] μ (some (.int o)) μ :=
  xr_forget (lo := [some (.ref a0), none, none]) (⟨rfl, trivial⟩) (fP_headNames_0_ok (d := d) (xgd_some h).2 (show fP_headNames_K μ _ _ o from ⟨rfl, rfl⟩))
-- KeptAnswers$Sight.openSet(LKeptAnswers$Picture;ILKeptAnswers$Holding;)Z 
def fS_openSet_K (rv : Option Value) (μf : xM) : (Int32 × xM) → Prop := fun o => rv = some (.int o.1) ∧ μf = o.2
def fS_openSet_K14 (v0 : Nat) (v1 : Nat) (v2 : Int32) (v3 : Nat) (d : Nat) (rv : Option Value) (μf : xM) : ((Int32 × Int32 × Int32 × xM) ⊕ (Int32 × xM)) → Prop := Sum.elim (fun s : Int32 × Int32 × Int32 × xM => xRun (d + 3) 109 14 [some (.ref v0), some (.ref v1), some (.int v2), some (.ref v3), some (.int s.1), some (.int s.2.1), some (.int s.2.2.1)] [] s.2.2.2 rv μf) (fS_openSet_K rv μf)
noncomputable def fS_openSet_72  (v0 : Nat) (v1 : Nat) (v3 : Nat) (v4 : Int32) (μ : xM) : Option (Int32 × xM) := (ldFR μ v0 6 0).bind fun x1 => (fP_headNames x1 μ).bind fun r2 => if (r2 &&& (v4 ^^^ (xc (-1)))) = 0 then ((ldFR μ v0 6 0).bind fun x3 => (fP_copyHead v1 x3 μ).bind fun r4 => (ldF r4 v3 3 1).bind fun x5 => (fP_becomeEnd v1 x5 r4).bind fun r6 => some ((xc 1, r6))) else (some ((xc 0, μ)))
theorem fS_openSet_72_ok {d : Nat} {v0 : Nat} {v1 : Nat} {v3 : Nat} {v4 : Int32} {μ : xM} {rv : Option Value} {μf : xM} {out : Int32 × xM} (h : fS_openSet_72 v0 v1 v3 v4 μ = some out) (hK : fS_openSet_K rv μf out) : xRun (d + 3) 109 72 [some (.ref v0), some (.ref v1), none, some (.ref v3), some (.int v4), none, none] [] μ rv μf := by
  unfold fS_openSet_72 at h
  refine xr_go 1 (pc' := 73) (lo' := [some (.ref v0), some (.ref v1), none, some (.ref v3), some (.int v4), none, none]) (st' := [.ref v0]) (μ' := μ) rfl ?_
  obtain ⟨x1, hx1, h⟩ := Option.bind_eq_some_iff.mp h
  refine xr_opA (pc' := 76) (lo' := [some (.ref v0), some (.ref v1), none, some (.ref v3), some (.int v4), none, none]) (st' := []) (o := ldFR μ v0 6 0) rfl hx1 ?_
  obtain ⟨r2, hr2, h⟩ := Option.bind_eq_some_iff.mp h
  refine xr_callV (j := 83) (d' := (d + 2)) (rv1 := some (.int r2)) (μ1 := μ) (rest := []) (As := []) rfl rfl rfl rfl (Nat.le_of_ble_eq_true rfl) (fP_headNames_kd hr2) rfl (by exact (fP_headNames_ok (d := d + (2)) hr2)) ?_
  refine xr_go 4 (pc' := 84) (lo' := [some (.ref v0), some (.ref v1), none, some (.ref v3), some (.int v4), none, none]) (st' := [.int (r2 &&& (v4 ^^^ (xc (-1))))]) (μ' := μ) rfl ?_
  refine xr_ifc (pct := 89) rfl rfl rfl (fun hc => ?_) (fun hc => ?_)
  · replace h := (if_pos (of_decide_eq_true hc)).symm.trans h
    refine xr_go 2 (pc' := 91) (lo' := [some (.ref v0), some (.ref v1), none, some (.ref v3), some (.int v4), none, none]) (st' := [.ref v0, .ref v1]) (μ' := μ) rfl ?_
    obtain ⟨x3, hx3, h⟩ := Option.bind_eq_some_iff.mp h
    refine xr_opA (pc' := 94) (lo' := [some (.ref v0), some (.ref v1), none, some (.ref v3), some (.int v4), none, none]) (st' := [.ref v1]) (o := ldFR μ v0 6 0) rfl hx3 ?_
    obtain ⟨r4, hr4, h⟩ := Option.bind_eq_some_iff.mp h
    refine xr_callV (j := 81) (d' := (d + 2)) (rv1 := none) (μ1 := r4) (rest := []) (As := [.ref x3]) rfl rfl rfl rfl (Nat.le_of_ble_eq_true rfl) (fP_copyHead_kd hr4) rfl (by exact (fP_copyHead_ok (d := d + (1)) hr4)) ?_
    refine xr_go 2 (pc' := 99) (lo' := [some (.ref v0), some (.ref v1), none, some (.ref v3), some (.int v4), none, none]) (st' := [.ref v3, .ref v1]) (μ' := r4) rfl ?_
    obtain ⟨x5, hx5, h⟩ := Option.bind_eq_some_iff.mp h
    refine xr_opI (pc' := 102) (lo' := [some (.ref v0), some (.ref v1), none, some (.ref v3), some (.int v4), none, none]) (st' := [.ref v1]) (o := ldF r4 v3 3 1) rfl hx5 ?_
    obtain ⟨r6, hr6, h⟩ := Option.bind_eq_some_iff.mp h
    refine xr_callV (j := 90) (d' := (d + 2)) (rv1 := none) (μ1 := r6) (rest := []) (As := [.int x5]) rfl rfl rfl rfl (Nat.le_of_ble_eq_true rfl) (fP_becomeEnd_kd hr6) rfl (by exact (fP_becomeEnd_ok (d := d + (0)) hr6)) ?_
    refine xr_go 1 (pc' := 106) (lo' := [some (.ref v0), some (.ref v1), none, some (.ref v3), some (.int v4), none, none]) (st' := [.int (xc 1)]) (μ' := r6) rfl ?_
    have ho := Option.some.inj h
    subst ho
    obtain ⟨rfl, rfl⟩ := hK
    exact xr_ret (rv := some (.int (xc 1))) rfl rfl (Or.inr ⟨rfl, Or.inr rfl⟩)
  · replace h := (if_neg (of_decide_eq_false hc)).symm.trans h
    refine xr_go 1 (pc' := 88) (lo' := [some (.ref v0), some (.ref v1), none, some (.ref v3), some (.int v4), none, none]) (st' := [.int (xc 0)]) (μ' := μ) rfl ?_
    have ho := Option.some.inj h
    subst ho
    obtain ⟨rfl, rfl⟩ := hK
    exact xr_ret (rv := some (.int (xc 0))) rfl rfl (Or.inr ⟨rfl, Or.inl rfl⟩)
noncomputable def fS_openSet_66  (v0 : Nat) (v1 : Nat) (v2 : Int32) (v3 : Nat) (v4 : Int32) (v5 : Int32) (v6 : Int32) (μ : xM) : Option ((Int32 × Int32 × Int32 × xM) ⊕ (Int32 × xM)) := some (.inl ((v4, v5, v6 + xc 1, μ)))
theorem fS_openSet_66_ok {d : Nat} {v0 : Nat} {v1 : Nat} {v2 : Int32} {v3 : Nat} {v4 : Int32} {v5 : Int32} {v6 : Int32} {μ : xM} {rv : Option Value} {μf : xM} {out : (Int32 × Int32 × Int32 × xM) ⊕ (Int32 × xM)} (h : fS_openSet_66 v0 v1 v2 v3 v4 v5 v6 μ = some out) (hK : fS_openSet_K14 v0 v1 v2 v3 d rv μf out) : xRun (d + 3) 109 66 [some (.ref v0), some (.ref v1), some (.int v2), some (.ref v3), some (.int v4), some (.int v5), some (.int v6)] [] μ rv μf := by
  unfold fS_openSet_66 at h
  refine xr_go 2 (pc' := 14) (lo' := [some (.ref v0), some (.ref v1), some (.int v2), some (.ref v3), some (.int v4), some (.int v5), some (.int (v6 + xc 1))]) (st' := []) (μ' := μ) rfl ?_
  refine xr_forget (lo := [some (.ref v0), some (.ref v1), some (.int v2), some (.ref v3), some (.int v4), some (.int v5), some (.int (v6 + xc 1))]) ⟨rfl, rfl, rfl, rfl, rfl, rfl, rfl, trivial⟩ ?_
  have ho := Option.some.inj h
  subst ho
  exact hK
noncomputable def fS_openSet_L14  (v0 : Nat) (v1 : Nat) (v2 : Int32) (v3 : Nat) (v4 : Int32) (v5 : Int32) (v6 : Int32) (μ : xM) : Option ((Int32 × Int32 × Int32 × xM) ⊕ (Int32 × xM)) := (ldF μ v0 6 2).bind fun x7 => if x7 ≤ v6 then ((fS_openSet_72 v0 v1 v3 v4 μ).map (fun o => .inr o)) else (if ((v2 >>> (v6 &&& 31)) &&& (xc 1)) = 0 then (fS_openSet_66 v0 v1 v2 v3 v4 v5 v6 μ) else ((ldFR μ v3 3 9).bind fun x8 => (fS_viewOf v0 v6 μ).bind fun r9 => (ldAR μ x8 r9).bind fun x10 => (fS_openShow v0 v1 x10 v6 v5 μ).bind fun r11 => (fS_termsOf v0 v6 r11).bind fun r12 => fS_openSet_66 v0 v1 v2 v3 (v4 ||| r12) (v5 + xc 5) v6 r11))
theorem fS_openSet_L14_ok {d : Nat} {v0 : Nat} {v1 : Nat} {v2 : Int32} {v3 : Nat} {v4 : Int32} {v5 : Int32} {v6 : Int32} {μ : xM} {rv : Option Value} {μf : xM} {out : (Int32 × Int32 × Int32 × xM) ⊕ (Int32 × xM)} (h : fS_openSet_L14 v0 v1 v2 v3 v4 v5 v6 μ = some out) (hK : fS_openSet_K14 v0 v1 v2 v3 d rv μf out) : xRun (d + 3) 109 14 [some (.ref v0), some (.ref v1), some (.int v2), some (.ref v3), some (.int v4), some (.int v5), some (.int v6)] [] μ rv μf := by
  unfold fS_openSet_L14 at h
  refine xr_go 2 (pc' := 17) (lo' := [some (.ref v0), some (.ref v1), some (.int v2), some (.ref v3), some (.int v4), some (.int v5), some (.int v6)]) (st' := [.ref v0, .int v6]) (μ' := μ) rfl ?_
  obtain ⟨x7, hx7, h⟩ := Option.bind_eq_some_iff.mp h
  refine xr_opI (pc' := 20) (lo' := [some (.ref v0), some (.ref v1), some (.int v2), some (.ref v3), some (.int v4), some (.int v5), some (.int v6)]) (st' := [.int v6]) (o := ldF μ v0 6 2) rfl hx7 ?_
  refine xr_icmp (pct := 72) rfl rfl rfl (fun hc => ?_) (fun hc => ?_)
  · replace h := (if_pos (of_decide_eq_true hc)).symm.trans h
    refine xr_forget (lo := [some (.ref v0), some (.ref v1), none, some (.ref v3), some (.int v4), none, none]) ⟨rfl, rfl, rfl, rfl, trivial⟩ ?_
    obtain ⟨o, h2, rfl⟩ := Option.map_eq_some_iff.mp h
    exact fS_openSet_72_ok h2 hK
  · replace h := (if_neg (of_decide_eq_false hc)).symm.trans h
    refine xr_go 5 (pc' := 29) (lo' := [some (.ref v0), some (.ref v1), some (.int v2), some (.ref v3), some (.int v4), some (.int v5), some (.int v6)]) (st' := [.int ((v2 >>> (v6 &&& 31)) &&& (xc 1))]) (μ' := μ) rfl ?_
    refine xr_ifc (pct := 66) rfl rfl rfl (fun hc => ?_) (fun hc => ?_)
    · replace h := (if_pos (of_decide_eq_true hc)).symm.trans h
      refine xr_forget (lo := [some (.ref v0), some (.ref v1), some (.int v2), some (.ref v3), some (.int v4), some (.int v5), some (.int v6)]) ⟨rfl, rfl, rfl, rfl, rfl, rfl, rfl, trivial⟩ ?_
      exact fS_openSet_66_ok h hK
    · replace h := (if_neg (of_decide_eq_false hc)).symm.trans h
      refine xr_go 3 (pc' := 35) (lo' := [some (.ref v0), some (.ref v1), some (.int v2), some (.ref v3), some (.int v4), some (.int v5), some (.int v6)]) (st' := [.ref v3, .ref v1, .ref v0]) (μ' := μ) rfl ?_
      obtain ⟨x8, hx8, h⟩ := Option.bind_eq_some_iff.mp h
      refine xr_opA (pc' := 38) (lo' := [some (.ref v0), some (.ref v1), some (.int v2), some (.ref v3), some (.int v4), some (.int v5), some (.int v6)]) (st' := [.ref v1, .ref v0]) (o := ldFR μ v3 3 9) rfl hx8 ?_
      refine xr_go 2 (pc' := 41) (lo' := [some (.ref v0), some (.ref v1), some (.int v2), some (.ref v3), some (.int v4), some (.int v5), some (.int v6)]) (st' := [.int v6, .ref v0, .ref x8, .ref v1, .ref v0]) (μ' := μ) rfl ?_
      obtain ⟨r9, hr9, h⟩ := Option.bind_eq_some_iff.mp h
      refine xr_callV (j := 100) (d' := (d + 2)) (rv1 := some (.int r9)) (μ1 := μ) (rest := [.ref x8, .ref v1, .ref v0]) (As := [.int v6]) rfl rfl rfl rfl (Nat.le_of_ble_eq_true rfl) (fS_viewOf_kd hr9) rfl (by exact (fS_viewOf_ok (d := d + (2)) hr9)) ?_
      obtain ⟨x10, hx10, h⟩ := Option.bind_eq_some_iff.mp h
      refine xr_opA (pc' := 45) (lo' := [some (.ref v0), some (.ref v1), some (.int v2), some (.ref v3), some (.int v4), some (.int v5), some (.int v6)]) (st' := [.ref v1, .ref v0]) (o := ldAR μ x8 r9) rfl hx10 ?_
      refine xr_go 2 (pc' := 49) (lo' := [some (.ref v0), some (.ref v1), some (.int v2), some (.ref v3), some (.int v4), some (.int v5), some (.int v6)]) (st' := [.int v5, .int v6, .ref x10, .ref v1, .ref v0]) (μ' := μ) rfl ?_
      obtain ⟨r11, hr11, h⟩ := Option.bind_eq_some_iff.mp h
      refine xr_callV (j := 110) (d' := (d + 2)) (rv1 := none) (μ1 := r11) (rest := []) (As := [.ref v1, .ref x10, .int v6, .int v5]) rfl rfl rfl rfl (Nat.le_of_ble_eq_true rfl) (fS_openShow_kd hr11) rfl (by exact (fS_openShow_ok (d := d + (0)) hr11)) ?_
      refine xr_go 4 (pc' := 60) (lo' := [some (.ref v0), some (.ref v1), some (.int v2), some (.ref v3), some (.int v4), some (.int (v5 + xc 5)), some (.int v6)]) (st' := [.int v6, .ref v0, .int v4]) (μ' := r11) rfl ?_
      obtain ⟨r12, hr12, h⟩ := Option.bind_eq_some_iff.mp h
      refine xr_callV (j := 108) (d' := (d + 2)) (rv1 := some (.int r12)) (μ1 := r11) (rest := [.int v4]) (As := [.int v6]) rfl rfl rfl rfl (Nat.le_of_ble_eq_true rfl) (fS_termsOf_kd hr12) rfl (by exact (fS_termsOf_ok (d := d + (1)) hr12)) ?_
      refine xr_go 2 (pc' := 66) (lo' := [some (.ref v0), some (.ref v1), some (.int v2), some (.ref v3), some (.int (v4 ||| r12)), some (.int (v5 + xc 5)), some (.int v6)]) (st' := []) (μ' := r11) rfl ?_
      refine xr_forget (lo := [some (.ref v0), some (.ref v1), some (.int v2), some (.ref v3), some (.int (v4 ||| r12)), some (.int (v5 + xc 5)), some (.int v6)]) ⟨rfl, rfl, rfl, rfl, rfl, rfl, rfl, trivial⟩ ?_
      exact fS_openSet_66_ok h hK
theorem fS_openSet_L14_lp {d : Nat} {v0 : Nat} {v1 : Nat} {v2 : Int32} {v3 : Nat} {v4 : Int32} {v5 : Int32} {v6 : Int32} {μ : xM} {rv : Option Value} {μf : xM} {out : Int32 × xM} (h : xwh (fun s : Int32 × Int32 × Int32 × xM => fS_openSet_L14 v0 v1 v2 v3 s.1 s.2.1 s.2.2.1 s.2.2.2) (v4, v5, v6, μ) = some out) (hK : fS_openSet_K rv μf out) : xRun (d + 3) 109 14 [some (.ref v0), some (.ref v1), some (.int v2), some (.ref v3), some (.int v4), some (.int v5), some (.int v6)] [] μ rv μf :=
  xwh_ind (Rh := fun s : Int32 × Int32 × Int32 × xM => xRun (d + 3) 109 14 [some (.ref v0), some (.ref v1), some (.int v2), some (.ref v3), some (.int s.1), some (.int s.2.1), some (.int s.2.2.1)] [] s.2.2.2 rv μf) (Co := fS_openSet_K rv μf) (fun s o hb hk => fS_openSet_L14_ok hb hk) h hK
noncomputable def fS_openSet_0  (v0 : Nat) (v1 : Nat) (v2 : Int32) (v3 : Nat) (μ : xM) : Option (Int32 × xM) := (fP_clear v1 μ).bind fun r13 => xwh (fun s : Int32 × Int32 × Int32 × xM => fS_openSet_L14 v0 v1 v2 v3 s.1 s.2.1 s.2.2.1 s.2.2.2) (xc 0, xc 7, xc 0, r13)
theorem fS_openSet_0_ok {d : Nat} {v0 : Nat} {v1 : Nat} {v2 : Int32} {v3 : Nat} {μ : xM} {rv : Option Value} {μf : xM} {out : Int32 × xM} (h : fS_openSet_0 v0 v1 v2 v3 μ = some out) (hK : fS_openSet_K rv μf out) : xRun (d + 3) 109 0 [some (.ref v0), some (.ref v1), some (.int v2), some (.ref v3), none, none, none] [] μ rv μf := by
  unfold fS_openSet_0 at h
  refine xr_go 1 (pc' := 1) (lo' := [some (.ref v0), some (.ref v1), some (.int v2), some (.ref v3), none, none, none]) (st' := [.ref v1]) (μ' := μ) rfl ?_
  obtain ⟨r13, hr13, h⟩ := Option.bind_eq_some_iff.mp h
  refine xr_callV (j := 77) (d' := (d + 2)) (rv1 := none) (μ1 := r13) (rest := []) (As := []) rfl rfl rfl rfl (Nat.le_of_ble_eq_true rfl) (fP_clear_kd hr13) rfl (by exact (fP_clear_ok (d := d + (2)) hr13)) ?_
  refine xr_go 6 (pc' := 14) (lo' := [some (.ref v0), some (.ref v1), some (.int v2), some (.ref v3), some (.int (xc 0)), some (.int (xc 7)), some (.int (xc 0))]) (st' := []) (μ' := r13) rfl ?_
  refine xr_forget (lo := [some (.ref v0), some (.ref v1), some (.int v2), some (.ref v3), some (.int (xc 0)), some (.int (xc 7)), some (.int (xc 0))]) ⟨rfl, rfl, rfl, rfl, rfl, rfl, rfl, trivial⟩ ?_
  exact fS_openSet_L14_lp h hK
noncomputable def fS_openSet (a0 : Nat) (a1 : Nat) (a2 : Int32) (a3 : Nat) (μ : xM) : Option (Int32 × xM) := xgd μ a0 6 (fS_openSet_0 a0 a1 a2 a3 μ)
theorem fS_openSet_kd {a0 : Nat} {a1 : Nat} {a2 : Int32} {a3 : Nat} {μ : xM} {o : Int32 × xM} (h : fS_openSet a0 a1 a2 a3 μ = some o) : (xK μ a0).1 = 10 + 6 := (xgd_some h).1
theorem fS_openSet_ok {d : Nat} {a0 : Nat} {a1 : Nat} {a2 : Int32} {a3 : Nat} {μ : xM} {o : Int32 × xM} (h : fS_openSet a0 a1 a2 a3 μ = some o) : xRun (d + 3) 109 0 [some (.ref a0), some (.ref a1), some (.int a2), some (.ref a3), none, none, none] [] μ (some (.int o.1)) o.2 :=
  xr_forget (lo := [some (.ref a0), some (.ref a1), some (.int a2), some (.ref a3), none, none, none]) (⟨rfl, rfl, rfl, rfl, trivial⟩) (fS_openSet_0_ok (d := d) (xgd_some h).2 (show fS_openSet_K _ _ o from ⟨rfl, rfl⟩))
-- KeptAnswers$Sight.lookThrough(LKeptAnswers$Picture;LKeptAnswers$Holding;LKeptAnswers$Picture;)V 
def fS_lookThrough_K (rv : Option Value) (μf : xM) : (xM) → Prop := fun o => rv = none ∧ μf = o
def fS_lookThrough_K62 (v0 : Nat) (v1 : Nat) (v2 : Nat) (v3 : Nat) (d : Nat) (rv : Option Value) (μf : xM) : ((Int32 × xM) ⊕ (xM)) → Prop := Sum.elim (fun s : Int32 × xM => xRun (d + 10) 102 62 [some (.ref v0), some (.ref v1), some (.ref v2), some (.ref v3), some (.int s.1), none, none] [] s.2 rv μf) (fS_lookThrough_K rv μf)
def fS_lookThrough_K71 (v0 : Nat) (v1 : Nat) (v2 : Nat) (v3 : Nat) (v4 : Int32) (d : Nat) (rv : Option Value) (μf : xM) : ((Int32 × xM) ⊕ ((Int32 × xM) ⊕ (xM))) → Prop := Sum.elim (fun s : Int32 × xM => xRun (d + 10) 102 71 [some (.ref v0), some (.ref v1), some (.ref v2), some (.ref v3), some (.int v4), some (.int s.1), none] [] s.2 rv μf) (fS_lookThrough_K62 v0 v1 v2 v3 d rv μf)
def fS_lookThrough_K148 (v0 : Nat) (d : Nat) (rv : Option Value) (μf : xM) : ((Int32 × xM) ⊕ (xM)) → Prop := Sum.elim (fun s : Int32 × xM => xRun (d + 10) 102 148 [some (.ref v0), none, none, none, some (.int s.1), none, none] [] s.2 rv μf) (fS_lookThrough_K rv μf)
noncomputable def fS_lookThrough_L148  (v0 : Nat) (v4 : Int32) (μ : xM) : Option ((Int32 × xM) ⊕ (xM)) := if (xc 6) ≤ v4 then (some (.inr μ)) else ((ldFL μ v0 6 5).bind fun x1 => (ldFL μ v0 6 5).bind fun x2 => (ldAL μ 1 v4).bind fun x3 => (stFL μ v0 6 5 (x1 ||| ((x2 &&& (x3 ^^^ (Int64.ofNat 18446744073709551615))) <<< (Int32.toInt64 ((xc 1) <<< (v4 &&& 31)) &&& 63)))).bind fun μ4 => some (.inl ((v4 + xc 1, μ4))))
theorem fS_lookThrough_L148_ok {d : Nat} {v0 : Nat} {v4 : Int32} {μ : xM} {rv : Option Value} {μf : xM} {out : (Int32 × xM) ⊕ (xM)} (h : fS_lookThrough_L148 v0 v4 μ = some out) (hK : fS_lookThrough_K148 v0 d rv μf out) : xRun (d + 10) 102 148 [some (.ref v0), none, none, none, some (.int v4), none, none] [] μ rv μf := by
  unfold fS_lookThrough_L148 at h
  refine xr_go 2 (pc' := 152) (lo' := [some (.ref v0), none, none, none, some (.int v4), none, none]) (st' := [.int (xc 6), .int v4]) (μ' := μ) rfl ?_
  refine xr_icmp (pct := 190) rfl rfl rfl (fun hc => ?_) (fun hc => ?_)
  · replace h := (if_pos (of_decide_eq_true hc)).symm.trans h
    have ho := Option.some.inj h
    subst ho
    obtain ⟨rfl, rfl⟩ := hK
    exact xr_ret (rv := none) rfl rfl (rfl)
  · replace h := (if_neg (of_decide_eq_false hc)).symm.trans h
    refine xr_go 2 (pc' := 157) (lo' := [some (.ref v0), none, none, none, some (.int v4), none, none]) (st' := [.ref v0, .ref v0]) (μ' := μ) rfl ?_
    obtain ⟨x1, hx1, h⟩ := Option.bind_eq_some_iff.mp h
    refine xr_opJ (pc' := 160) (lo' := [some (.ref v0), none, none, none, some (.int v4), none, none]) (st' := [.ref v0]) (o := ldFL μ v0 6 5) rfl hx1 ?_
    refine xr_go 1 (pc' := 161) (lo' := [some (.ref v0), none, none, none, some (.int v4), none, none]) (st' := [.ref v0, .long x1, .ref v0]) (μ' := μ) rfl ?_
    obtain ⟨x2, hx2, h⟩ := Option.bind_eq_some_iff.mp h
    refine xr_opJ (pc' := 164) (lo' := [some (.ref v0), none, none, none, some (.int v4), none, none]) (st' := [.long x1, .ref v0]) (o := ldFL μ v0 6 5) rfl hx2 ?_
    refine xr_go 2 (pc' := 169) (lo' := [some (.ref v0), none, none, none, some (.int v4), none, none]) (st' := [.int v4, .ref 1, .long x2, .long x1, .ref v0]) (μ' := μ) rfl ?_
    obtain ⟨x3, hx3, h⟩ := Option.bind_eq_some_iff.mp h
    refine xr_opJ (pc' := 170) (lo' := [some (.ref v0), none, none, none, some (.int v4), none, none]) (st' := [.long x2, .long x1, .ref v0]) (o := ldAL μ 1 v4) rfl hx3 ?_
    refine xr_go 8 (pc' := 181) (lo' := [some (.ref v0), none, none, none, some (.int v4), none, none]) (st' := [.long (x1 ||| ((x2 &&& (x3 ^^^ (Int64.ofNat 18446744073709551615))) <<< (Int32.toInt64 ((xc 1) <<< (v4 &&& 31)) &&& 63))), .ref v0]) (μ' := μ) rfl ?_
    obtain ⟨μ4, hμ4, h⟩ := Option.bind_eq_some_iff.mp h
    refine xr_opM (pc' := 184) (lo' := [some (.ref v0), none, none, none, some (.int v4), none, none]) (st' := []) (o := stFL μ v0 6 5 (x1 ||| ((x2 &&& (x3 ^^^ (Int64.ofNat 18446744073709551615))) <<< (Int32.toInt64 ((xc 1) <<< (v4 &&& 31)) &&& 63)))) rfl hμ4 ?_
    refine xr_go 2 (pc' := 148) (lo' := [some (.ref v0), none, none, none, some (.int (v4 + xc 1)), none, none]) (st' := []) (μ' := μ4) rfl ?_
    refine xr_forget (lo := [some (.ref v0), none, none, none, some (.int (v4 + xc 1)), none, none]) ⟨rfl, rfl, trivial⟩ ?_
    have ho := Option.some.inj h
    subst ho
    exact hK
theorem fS_lookThrough_L148_lp {d : Nat} {v0 : Nat} {v4 : Int32} {μ : xM} {rv : Option Value} {μf : xM} {out : xM} (h : xwh (fun s : Int32 × xM => fS_lookThrough_L148 v0 s.1 s.2) (v4, μ) = some out) (hK : fS_lookThrough_K rv μf out) : xRun (d + 10) 102 148 [some (.ref v0), none, none, none, some (.int v4), none, none] [] μ rv μf :=
  xwh_ind (Rh := fun s : Int32 × xM => xRun (d + 10) 102 148 [some (.ref v0), none, none, none, some (.int s.1), none, none] [] s.2 rv μf) (Co := fS_lookThrough_K rv μf) (fun s o hb hk => fS_lookThrough_L148_ok hb hk) h hK
noncomputable def fS_lookThrough_145  (v0 : Nat) (μ : xM) : Option (xM) := xwh (fun s : Int32 × xM => fS_lookThrough_L148 v0 s.1 s.2) (xc 0, μ)
theorem fS_lookThrough_145_ok {d : Nat} {v0 : Nat} {μ : xM} {rv : Option Value} {μf : xM} {out : xM} (h : fS_lookThrough_145 v0 μ = some out) (hK : fS_lookThrough_K rv μf out) : xRun (d + 10) 102 145 [some (.ref v0), none, none, none, none, none, none] [] μ rv μf := by
  unfold fS_lookThrough_145 at h
  refine xr_go 2 (pc' := 148) (lo' := [some (.ref v0), none, none, none, some (.int (xc 0)), none, none]) (st' := []) (μ' := μ) rfl ?_
  refine xr_forget (lo := [some (.ref v0), none, none, none, some (.int (xc 0)), none, none]) ⟨rfl, rfl, trivial⟩ ?_
  exact fS_lookThrough_L148_lp h hK
noncomputable def fS_lookThrough_139  (v0 : Nat) (v1 : Nat) (v2 : Nat) (v3 : Nat) (v4 : Int32) (μ : xM) : Option ((Int32 × xM) ⊕ (xM)) := some (.inl ((v4 + xc 1, μ)))
theorem fS_lookThrough_139_ok {d : Nat} {v0 : Nat} {v1 : Nat} {v2 : Nat} {v3 : Nat} {v4 : Int32} {μ : xM} {rv : Option Value} {μf : xM} {out : (Int32 × xM) ⊕ (xM)} (h : fS_lookThrough_139 v0 v1 v2 v3 v4 μ = some out) (hK : fS_lookThrough_K62 v0 v1 v2 v3 d rv μf out) : xRun (d + 10) 102 139 [some (.ref v0), some (.ref v1), some (.ref v2), some (.ref v3), some (.int v4), none, none] [] μ rv μf := by
  unfold fS_lookThrough_139 at h
  refine xr_go 2 (pc' := 62) (lo' := [some (.ref v0), some (.ref v1), some (.ref v2), some (.ref v3), some (.int (v4 + xc 1)), none, none]) (st' := []) (μ' := μ) rfl ?_
  refine xr_forget (lo := [some (.ref v0), some (.ref v1), some (.ref v2), some (.ref v3), some (.int (v4 + xc 1)), none, none]) ⟨rfl, rfl, rfl, rfl, rfl, trivial⟩ ?_
  have ho := Option.some.inj h
  subst ho
  exact hK
noncomputable def fS_lookThrough_133  (v0 : Nat) (v1 : Nat) (v2 : Nat) (v3 : Nat) (v4 : Int32) (v5 : Int32) (μ : xM) : Option ((Int32 × xM) ⊕ ((Int32 × xM) ⊕ (xM))) := some (.inl ((v5 + xc 1, μ)))
theorem fS_lookThrough_133_ok {d : Nat} {v0 : Nat} {v1 : Nat} {v2 : Nat} {v3 : Nat} {v4 : Int32} {v5 : Int32} {μ : xM} {rv : Option Value} {μf : xM} {out : (Int32 × xM) ⊕ ((Int32 × xM) ⊕ (xM))} (h : fS_lookThrough_133 v0 v1 v2 v3 v4 v5 μ = some out) (hK : fS_lookThrough_K71 v0 v1 v2 v3 v4 d rv μf out) : xRun (d + 10) 102 133 [some (.ref v0), some (.ref v1), some (.ref v2), some (.ref v3), some (.int v4), some (.int v5), none] [] μ rv μf := by
  unfold fS_lookThrough_133 at h
  refine xr_go 2 (pc' := 71) (lo' := [some (.ref v0), some (.ref v1), some (.ref v2), some (.ref v3), some (.int v4), some (.int (v5 + xc 1)), none]) (st' := []) (μ' := μ) rfl ?_
  refine xr_forget (lo := [some (.ref v0), some (.ref v1), some (.ref v2), some (.ref v3), some (.int v4), some (.int (v5 + xc 1)), none]) ⟨rfl, rfl, rfl, rfl, rfl, rfl, trivial⟩ ?_
  have ho := Option.some.inj h
  subst ho
  exact hK
noncomputable def fS_lookThrough_127  (v0 : Nat) (v1 : Nat) (v2 : Nat) (v3 : Nat) (v4 : Int32) (v5 : Int32) (μ : xM) : Option ((Int32 × xM) ⊕ ((Int32 × xM) ⊕ (xM))) := (fS_noteCover v0 v5 μ).bind fun r5 => fS_lookThrough_133 v0 v1 v2 v3 v4 v5 r5
theorem fS_lookThrough_127_ok {d : Nat} {v0 : Nat} {v1 : Nat} {v2 : Nat} {v3 : Nat} {v4 : Int32} {v5 : Int32} {μ : xM} {rv : Option Value} {μf : xM} {out : (Int32 × xM) ⊕ ((Int32 × xM) ⊕ (xM))} (h : fS_lookThrough_127 v0 v1 v2 v3 v4 v5 μ = some out) (hK : fS_lookThrough_K71 v0 v1 v2 v3 v4 d rv μf out) : xRun (d + 10) 102 127 [some (.ref v0), some (.ref v1), some (.ref v2), some (.ref v3), some (.int v4), some (.int v5), none] [] μ rv μf := by
  unfold fS_lookThrough_127 at h
  refine xr_go 2 (pc' := 130) (lo' := [some (.ref v0), some (.ref v1), some (.ref v2), some (.ref v3), some (.int v4), some (.int v5), none]) (st' := [.int v5, .ref v0]) (μ' := μ) rfl ?_
  obtain ⟨r5, hr5, h⟩ := Option.bind_eq_some_iff.mp h
  refine xr_callV (j := 103) (d' := (d + 9)) (rv1 := none) (μ1 := r5) (rest := []) (As := [.int v5]) rfl rfl rfl rfl (Nat.le_of_ble_eq_true rfl) (fS_noteCover_kd hr5) rfl (by exact (fS_noteCover_ok (d := d + (7)) hr5)) ?_
  refine xr_forget (lo := [some (.ref v0), some (.ref v1), some (.ref v2), some (.ref v3), some (.int v4), some (.int v5), none]) ⟨rfl, rfl, rfl, rfl, rfl, rfl, trivial⟩ ?_
  exact fS_lookThrough_133_ok h hK
noncomputable def fS_lookThrough_L71  (v0 : Nat) (v1 : Nat) (v2 : Nat) (v3 : Nat) (v4 : Int32) (v5 : Int32) (μ : xM) : Option ((Int32 × xM) ⊕ ((Int32 × xM) ⊕ (xM))) := (ldF μ v0 6 2).bind fun x6 => if ((xc 1) <<< (x6 &&& 31)) ≤ v5 then ((fS_lookThrough_139 v0 v1 v2 v3 v4 μ).map (fun o => .inr o)) else ((fJI_bitCount v5 μ).bind fun r7 => if r7 = v4 then ((fS_hasCoverIn v0 v5 μ).bind fun r8 => if r8 = 0 then ((fS_openSet v0 v3 v5 v2 μ).bind fun r9 => if r9.1 = 0 then (fS_lookThrough_133 v0 v1 v2 v3 v4 v5 r9.2) else ((fL_isWithin v3 v1 r9.2).bind fun r10 => if r10 = 0 then (fS_lookThrough_133 v0 v1 v2 v3 v4 v5 r9.2) else (fS_lookThrough_127 v0 v1 v2 v3 v4 v5 r9.2))) else (fS_lookThrough_127 v0 v1 v2 v3 v4 v5 μ)) else (fS_lookThrough_133 v0 v1 v2 v3 v4 v5 μ))
theorem fS_lookThrough_L71_ok {d : Nat} {v0 : Nat} {v1 : Nat} {v2 : Nat} {v3 : Nat} {v4 : Int32} {v5 : Int32} {μ : xM} {rv : Option Value} {μf : xM} {out : (Int32 × xM) ⊕ ((Int32 × xM) ⊕ (xM))} (h : fS_lookThrough_L71 v0 v1 v2 v3 v4 v5 μ = some out) (hK : fS_lookThrough_K71 v0 v1 v2 v3 v4 d rv μf out) : xRun (d + 10) 102 71 [some (.ref v0), some (.ref v1), some (.ref v2), some (.ref v3), some (.int v4), some (.int v5), none] [] μ rv μf := by
  unfold fS_lookThrough_L71 at h
  refine xr_go 3 (pc' := 75) (lo' := [some (.ref v0), some (.ref v1), some (.ref v2), some (.ref v3), some (.int v4), some (.int v5), none]) (st' := [.ref v0, .int (xc 1), .int v5]) (μ' := μ) rfl ?_
  obtain ⟨x6, hx6, h⟩ := Option.bind_eq_some_iff.mp h
  refine xr_opI (pc' := 78) (lo' := [some (.ref v0), some (.ref v1), some (.ref v2), some (.ref v3), some (.int v4), some (.int v5), none]) (st' := [.int (xc 1), .int v5]) (o := ldF μ v0 6 2) rfl hx6 ?_
  refine xr_go 1 (pc' := 79) (lo' := [some (.ref v0), some (.ref v1), some (.ref v2), some (.ref v3), some (.int v4), some (.int v5), none]) (st' := [.int ((xc 1) <<< (x6 &&& 31)), .int v5]) (μ' := μ) rfl ?_
  refine xr_icmp (pct := 139) rfl rfl rfl (fun hc => ?_) (fun hc => ?_)
  · replace h := (if_pos (of_decide_eq_true hc)).symm.trans h
    refine xr_forget (lo := [some (.ref v0), some (.ref v1), some (.ref v2), some (.ref v3), some (.int v4), none, none]) ⟨rfl, rfl, rfl, rfl, rfl, trivial⟩ ?_
    obtain ⟨o, h2, rfl⟩ := Option.map_eq_some_iff.mp h
    exact fS_lookThrough_139_ok h2 hK
  · replace h := (if_neg (of_decide_eq_false hc)).symm.trans h
    refine xr_go 1 (pc' := 84) (lo' := [some (.ref v0), some (.ref v1), some (.ref v2), some (.ref v3), some (.int v4), some (.int v5), none]) (st' := [.int v5]) (μ' := μ) rfl ?_
    obtain ⟨r7, hr7, h⟩ := Option.bind_eq_some_iff.mp h
    refine xr_callS (j := 221) (d' := (d + 9)) (rv1 := some (.int r7)) (μ1 := μ) (rest := []) (As := [.int v5]) rfl rfl rfl rfl (Nat.le_of_ble_eq_true rfl) rfl (by exact (fJI_bitCount_ok (d := d + (9)) hr7)) ?_
    refine xr_go 1 (pc' := 89) (lo' := [some (.ref v0), some (.ref v1), some (.ref v2), some (.ref v3), some (.int v4), some (.int v5), none]) (st' := [.int v4, .int r7]) (μ' := μ) rfl ?_
    refine xr_icmp (pct := 95) rfl rfl rfl (fun hc => ?_) (fun hc => ?_)
    · replace h := (if_pos (of_decide_eq_true hc)).symm.trans h
      refine xr_go 2 (pc' := 98) (lo' := [some (.ref v0), some (.ref v1), some (.ref v2), some (.ref v3), some (.int v4), some (.int v5), none]) (st' := [.int v5, .ref v0]) (μ' := μ) rfl ?_
      obtain ⟨r8, hr8, h⟩ := Option.bind_eq_some_iff.mp h
      refine xr_callV (j := 106) (d' := (d + 9)) (rv1 := some (.int r8)) (μ1 := μ) (rest := []) (As := [.int v5]) rfl rfl rfl rfl (Nat.le_of_ble_eq_true rfl) (fS_hasCoverIn_kd hr8) rfl (by exact (fS_hasCoverIn_ok (d := d + (8)) hr8)) ?_
      refine xr_go 2 (pc' := 105) (lo' := [some (.ref v0), some (.ref v1), some (.ref v2), some (.ref v3), some (.int v4), some (.int v5), some (.int r8)]) (st' := [.int r8]) (μ' := μ) rfl ?_
      refine xr_ifc (pct := 127) rfl rfl rfl (fun hc => ?_) (fun hc => ?_)
      · replace h := (if_neg (of_decide_eq_true hc)).symm.trans h
        refine xr_forget (lo := [some (.ref v0), some (.ref v1), some (.ref v2), some (.ref v3), some (.int v4), some (.int v5), none]) ⟨rfl, rfl, rfl, rfl, rfl, rfl, trivial⟩ ?_
        exact fS_lookThrough_127_ok h hK
      · replace h := (if_pos (Decidable.of_not_not (of_decide_eq_false hc))).symm.trans h
        refine xr_go 4 (pc' := 113) (lo' := [some (.ref v0), some (.ref v1), some (.ref v2), some (.ref v3), some (.int v4), some (.int v5), some (.int r8)]) (st' := [.ref v2, .int v5, .ref v3, .ref v0]) (μ' := μ) rfl ?_
        obtain ⟨r9, hr9, h⟩ := Option.bind_eq_some_iff.mp h
        refine xr_callV (j := 109) (d' := (d + 9)) (rv1 := some (.int r9.1)) (μ1 := r9.2) (rest := []) (As := [.ref v3, .int v5, .ref v2]) rfl rfl rfl rfl (Nat.le_of_ble_eq_true rfl) (fS_openSet_kd hr9) rfl (by exact (fS_openSet_ok (d := d + (6)) hr9)) ?_
        refine xr_ifc (pct := 133) rfl rfl rfl (fun hc => ?_) (fun hc => ?_)
        · replace h := (if_pos (of_decide_eq_true hc)).symm.trans h
          refine xr_forget (lo := [some (.ref v0), some (.ref v1), some (.ref v2), some (.ref v3), some (.int v4), some (.int v5), none]) ⟨rfl, rfl, rfl, rfl, rfl, rfl, trivial⟩ ?_
          exact fS_lookThrough_133_ok h hK
        · replace h := (if_neg (of_decide_eq_false hc)).symm.trans h
          refine xr_go 2 (pc' := 121) (lo' := [some (.ref v0), some (.ref v1), some (.ref v2), some (.ref v3), some (.int v4), some (.int v5), some (.int r8)]) (st' := [.ref v1, .ref v3]) (μ' := r9.2) rfl ?_
          obtain ⟨r10, hr10, h⟩ := Option.bind_eq_some_iff.mp h
          refine xr_callS (j := 71) (d' := (d + 9)) (rv1 := some (.int r10)) (μ1 := r9.2) (rest := []) (As := [.ref v3, .ref v1]) rfl rfl rfl rfl (Nat.le_of_ble_eq_true rfl) rfl (by exact (fL_isWithin_ok (d := d + (0)) hr10)) ?_
          refine xr_ifc (pct := 133) rfl rfl rfl (fun hc => ?_) (fun hc => ?_)
          · replace h := (if_pos (of_decide_eq_true hc)).symm.trans h
            refine xr_forget (lo := [some (.ref v0), some (.ref v1), some (.ref v2), some (.ref v3), some (.int v4), some (.int v5), none]) ⟨rfl, rfl, rfl, rfl, rfl, rfl, trivial⟩ ?_
            exact fS_lookThrough_133_ok h hK
          · replace h := (if_neg (of_decide_eq_false hc)).symm.trans h
            refine xr_forget (lo := [some (.ref v0), some (.ref v1), some (.ref v2), some (.ref v3), some (.int v4), some (.int v5), none]) ⟨rfl, rfl, rfl, rfl, rfl, rfl, trivial⟩ ?_
            exact fS_lookThrough_127_ok h hK
    · replace h := (if_neg (of_decide_eq_false hc)).symm.trans h
      refine xr_go 1 (pc' := 133) (lo' := [some (.ref v0), some (.ref v1), some (.ref v2), some (.ref v3), some (.int v4), some (.int v5), none]) (st' := []) (μ' := μ) rfl ?_
      refine xr_forget (lo := [some (.ref v0), some (.ref v1), some (.ref v2), some (.ref v3), some (.int v4), some (.int v5), none]) ⟨rfl, rfl, rfl, rfl, rfl, rfl, trivial⟩ ?_
      exact fS_lookThrough_133_ok h hK
theorem fS_lookThrough_L71_lp {d : Nat} {v0 : Nat} {v1 : Nat} {v2 : Nat} {v3 : Nat} {v4 : Int32} {v5 : Int32} {μ : xM} {rv : Option Value} {μf : xM} {out : (Int32 × xM) ⊕ (xM)} (h : xwh (fun s : Int32 × xM => fS_lookThrough_L71 v0 v1 v2 v3 v4 s.1 s.2) (v5, μ) = some out) (hK : fS_lookThrough_K62 v0 v1 v2 v3 d rv μf out) : xRun (d + 10) 102 71 [some (.ref v0), some (.ref v1), some (.ref v2), some (.ref v3), some (.int v4), some (.int v5), none] [] μ rv μf :=
  xwh_ind (Rh := fun s : Int32 × xM => xRun (d + 10) 102 71 [some (.ref v0), some (.ref v1), some (.ref v2), some (.ref v3), some (.int v4), some (.int s.1), none] [] s.2 rv μf) (Co := fS_lookThrough_K62 v0 v1 v2 v3 d rv μf) (fun s o hb hk => fS_lookThrough_L71_ok hb hk) h hK
noncomputable def fS_lookThrough_L62  (v0 : Nat) (v1 : Nat) (v2 : Nat) (v3 : Nat) (v4 : Int32) (μ : xM) : Option ((Int32 × xM) ⊕ (xM)) := if (xc 3) < v4 then ((fS_lookThrough_145 v0 μ).map (fun o => .inr o)) else (xwh (fun s : Int32 × xM => fS_lookThrough_L71 v0 v1 v2 v3 v4 s.1 s.2) (xc 1, μ))
theorem fS_lookThrough_L62_ok {d : Nat} {v0 : Nat} {v1 : Nat} {v2 : Nat} {v3 : Nat} {v4 : Int32} {μ : xM} {rv : Option Value} {μf : xM} {out : (Int32 × xM) ⊕ (xM)} (h : fS_lookThrough_L62 v0 v1 v2 v3 v4 μ = some out) (hK : fS_lookThrough_K62 v0 v1 v2 v3 d rv μf out) : xRun (d + 10) 102 62 [some (.ref v0), some (.ref v1), some (.ref v2), some (.ref v3), some (.int v4), none, none] [] μ rv μf := by
  unfold fS_lookThrough_L62 at h
  refine xr_go 2 (pc' := 65) (lo' := [some (.ref v0), some (.ref v1), some (.ref v2), some (.ref v3), some (.int v4), none, none]) (st' := [.int (xc 3), .int v4]) (μ' := μ) rfl ?_
  refine xr_icmp (pct := 145) rfl rfl rfl (fun hc => ?_) (fun hc => ?_)
  · replace h := (if_pos (of_decide_eq_true hc)).symm.trans h
    refine xr_forget (lo := [some (.ref v0), none, none, none, none, none, none]) ⟨rfl, trivial⟩ ?_
    obtain ⟨o, h2, rfl⟩ := Option.map_eq_some_iff.mp h
    exact fS_lookThrough_145_ok h2 hK
  · replace h := (if_neg (of_decide_eq_false hc)).symm.trans h
    refine xr_go 2 (pc' := 71) (lo' := [some (.ref v0), some (.ref v1), some (.ref v2), some (.ref v3), some (.int v4), some (.int (xc 1)), none]) (st' := []) (μ' := μ) rfl ?_
    refine xr_forget (lo := [some (.ref v0), some (.ref v1), some (.ref v2), some (.ref v3), some (.int v4), some (.int (xc 1)), none]) ⟨rfl, rfl, rfl, rfl, rfl, rfl, trivial⟩ ?_
    exact fS_lookThrough_L71_lp h hK
theorem fS_lookThrough_L62_lp {d : Nat} {v0 : Nat} {v1 : Nat} {v2 : Nat} {v3 : Nat} {v4 : Int32} {μ : xM} {rv : Option Value} {μf : xM} {out : xM} (h : xwh (fun s : Int32 × xM => fS_lookThrough_L62 v0 v1 v2 v3 s.1 s.2) (v4, μ) = some out) (hK : fS_lookThrough_K rv μf out) : xRun (d + 10) 102 62 [some (.ref v0), some (.ref v1), some (.ref v2), some (.ref v3), some (.int v4), none, none] [] μ rv μf :=
  xwh_ind (Rh := fun s : Int32 × xM => xRun (d + 10) 102 62 [some (.ref v0), some (.ref v1), some (.ref v2), some (.ref v3), some (.int s.1), none, none] [] s.2 rv μf) (Co := fS_lookThrough_K rv μf) (fun s o hb hk => fS_lookThrough_L62_ok hb hk) h hK
noncomputable def fS_lookThrough_59  (v0 : Nat) (v1 : Nat) (v2 : Nat) (v3 : Nat) (μ : xM) : Option (xM) := xwh (fun s : Int32 × xM => fS_lookThrough_L62 v0 v1 v2 v3 s.1 s.2) (xc 1, μ)
theorem fS_lookThrough_59_ok {d : Nat} {v0 : Nat} {v1 : Nat} {v2 : Nat} {v3 : Nat} {μ : xM} {rv : Option Value} {μf : xM} {out : xM} (h : fS_lookThrough_59 v0 v1 v2 v3 μ = some out) (hK : fS_lookThrough_K rv μf out) : xRun (d + 10) 102 59 [some (.ref v0), some (.ref v1), some (.ref v2), some (.ref v3), none, none, none] [] μ rv μf := by
  unfold fS_lookThrough_59 at h
  refine xr_go 2 (pc' := 62) (lo' := [some (.ref v0), some (.ref v1), some (.ref v2), some (.ref v3), some (.int (xc 1)), none, none]) (st' := []) (μ' := μ) rfl ?_
  refine xr_forget (lo := [some (.ref v0), some (.ref v1), some (.ref v2), some (.ref v3), some (.int (xc 1)), none, none]) ⟨rfl, rfl, rfl, rfl, rfl, trivial⟩ ?_
  exact fS_lookThrough_L62_lp h hK
noncomputable def fS_lookThrough_0  (v0 : Nat) (v1 : Nat) (v2 : Nat) (v3 : Nat) (μ : xM) : Option (xM) := (ldF μ v0 6 9).bind fun x11 => if x11 = 0 then ((ldF μ v0 6 3).bind fun x12 => if x12 = 0 then ((stFZ μ v0 6 9 (xc 1)).bind fun μ13 => (ldFR μ13 v0 6 4).bind fun x14 => (fJA_fill x14 (Int64.ofNat 0) μ13).bind fun r15 => (stFL r15 v0 6 5 (Int64.ofNat 0)).bind fun μ16 => (stF μ16 v0 6 6 (xc (-9))).bind fun μ17 => (stF μ17 v0 6 7 (xc 0)).bind fun μ18 => (ldFR μ18 v0 6 0).bind fun x19 => (ldF μ18 x19 5 7).bind fun x20 => if x20 = 0 then (fS_lookThrough_59 v0 v1 v2 v3 μ18) else ((fS_noteCover v0 (xc 0) μ18).bind fun r21 => fS_lookThrough_59 v0 v1 v2 v3 r21)) else (some μ)) else (some μ)
theorem fS_lookThrough_0_ok {d : Nat} {v0 : Nat} {v1 : Nat} {v2 : Nat} {v3 : Nat} {μ : xM} {rv : Option Value} {μf : xM} {out : xM} (h : fS_lookThrough_0 v0 v1 v2 v3 μ = some out) (hK : fS_lookThrough_K rv μf out) : xRun (d + 10) 102 0 [some (.ref v0), some (.ref v1), some (.ref v2), some (.ref v3), none, none, none] [] μ rv μf := by
  unfold fS_lookThrough_0 at h
  refine xr_go 1 (pc' := 1) (lo' := [some (.ref v0), some (.ref v1), some (.ref v2), some (.ref v3), none, none, none]) (st' := [.ref v0]) (μ' := μ) rfl ?_
  obtain ⟨x11, hx11, h⟩ := Option.bind_eq_some_iff.mp h
  refine xr_opI (pc' := 4) (lo' := [some (.ref v0), some (.ref v1), some (.ref v2), some (.ref v3), none, none, none]) (st' := []) (o := ldF μ v0 6 9) rfl hx11 ?_
  refine xr_ifc (pct := 14) rfl rfl rfl (fun hc => ?_) (fun hc => ?_)
  · replace h := (if_neg (of_decide_eq_true hc)).symm.trans h
    have ho := Option.some.inj h
    subst ho
    obtain ⟨rfl, rfl⟩ := hK
    exact xr_ret (rv := none) rfl rfl (rfl)
  · replace h := (if_pos (Decidable.of_not_not (of_decide_eq_false hc))).symm.trans h
    refine xr_go 1 (pc' := 8) (lo' := [some (.ref v0), some (.ref v1), some (.ref v2), some (.ref v3), none, none, none]) (st' := [.ref v0]) (μ' := μ) rfl ?_
    obtain ⟨x12, hx12, h⟩ := Option.bind_eq_some_iff.mp h
    refine xr_opI (pc' := 11) (lo' := [some (.ref v0), some (.ref v1), some (.ref v2), some (.ref v3), none, none, none]) (st' := []) (o := ldF μ v0 6 3) rfl hx12 ?_
    refine xr_ifc (pct := 15) rfl rfl rfl (fun hc => ?_) (fun hc => ?_)
    · replace h := (if_pos (of_decide_eq_true hc)).symm.trans h
      refine xr_go 2 (pc' := 17) (lo' := [some (.ref v0), some (.ref v1), some (.ref v2), some (.ref v3), none, none, none]) (st' := [.int (xc 1), .ref v0]) (μ' := μ) rfl ?_
      obtain ⟨μ13, hμ13, h⟩ := Option.bind_eq_some_iff.mp h
      refine xr_opM (pc' := 20) (lo' := [some (.ref v0), some (.ref v1), some (.ref v2), some (.ref v3), none, none, none]) (st' := []) (o := stFZ μ v0 6 9 (xc 1)) rfl hμ13 ?_
      refine xr_go 1 (pc' := 21) (lo' := [some (.ref v0), some (.ref v1), some (.ref v2), some (.ref v3), none, none, none]) (st' := [.ref v0]) (μ' := μ13) rfl ?_
      obtain ⟨x14, hx14, h⟩ := Option.bind_eq_some_iff.mp h
      refine xr_opA (pc' := 24) (lo' := [some (.ref v0), some (.ref v1), some (.ref v2), some (.ref v3), none, none, none]) (st' := []) (o := ldFR μ13 v0 6 4) rfl hx14 ?_
      refine xr_go 1 (pc' := 25) (lo' := [some (.ref v0), some (.ref v1), some (.ref v2), some (.ref v3), none, none, none]) (st' := [.long (Int64.ofNat 0), .ref x14]) (μ' := μ13) rfl ?_
      obtain ⟨r15, hr15, h⟩ := Option.bind_eq_some_iff.mp h
      refine xr_callS (j := 225) (d' := (d + 9)) (rv1 := none) (μ1 := r15) (rest := []) (As := [.ref x14, .long (Int64.ofNat 0)]) rfl rfl rfl rfl (Nat.le_of_ble_eq_true rfl) rfl (by exact (fJA_fill_ok (d := d + (9)) hr15)) ?_
      refine xr_go 2 (pc' := 30) (lo' := [some (.ref v0), some (.ref v1), some (.ref v2), some (.ref v3), none, none, none]) (st' := [.long (Int64.ofNat 0), .ref v0]) (μ' := r15) rfl ?_
      obtain ⟨μ16, hμ16, h⟩ := Option.bind_eq_some_iff.mp h
      refine xr_opM (pc' := 33) (lo' := [some (.ref v0), some (.ref v1), some (.ref v2), some (.ref v3), none, none, none]) (st' := []) (o := stFL r15 v0 6 5 (Int64.ofNat 0)) rfl hμ16 ?_
      refine xr_go 2 (pc' := 36) (lo' := [some (.ref v0), some (.ref v1), some (.ref v2), some (.ref v3), none, none, none]) (st' := [.int (xc (-9)), .ref v0]) (μ' := μ16) rfl ?_
      obtain ⟨μ17, hμ17, h⟩ := Option.bind_eq_some_iff.mp h
      refine xr_opM (pc' := 39) (lo' := [some (.ref v0), some (.ref v1), some (.ref v2), some (.ref v3), none, none, none]) (st' := []) (o := stF μ16 v0 6 6 (xc (-9))) rfl hμ17 ?_
      refine xr_go 2 (pc' := 41) (lo' := [some (.ref v0), some (.ref v1), some (.ref v2), some (.ref v3), none, none, none]) (st' := [.int (xc 0), .ref v0]) (μ' := μ17) rfl ?_
      obtain ⟨μ18, hμ18, h⟩ := Option.bind_eq_some_iff.mp h
      refine xr_opM (pc' := 44) (lo' := [some (.ref v0), some (.ref v1), some (.ref v2), some (.ref v3), none, none, none]) (st' := []) (o := stF μ17 v0 6 7 (xc 0)) rfl hμ18 ?_
      refine xr_go 1 (pc' := 45) (lo' := [some (.ref v0), some (.ref v1), some (.ref v2), some (.ref v3), none, none, none]) (st' := [.ref v0]) (μ' := μ18) rfl ?_
      obtain ⟨x19, hx19, h⟩ := Option.bind_eq_some_iff.mp h
      refine xr_opA (pc' := 48) (lo' := [some (.ref v0), some (.ref v1), some (.ref v2), some (.ref v3), none, none, none]) (st' := []) (o := ldFR μ18 v0 6 0) rfl hx19 ?_
      obtain ⟨x20, hx20, h⟩ := Option.bind_eq_some_iff.mp h
      refine xr_opI (pc' := 51) (lo' := [some (.ref v0), some (.ref v1), some (.ref v2), some (.ref v3), none, none, none]) (st' := []) (o := ldF μ18 x19 5 7) rfl hx20 ?_
      refine xr_ifc (pct := 59) rfl rfl rfl (fun hc => ?_) (fun hc => ?_)
      · replace h := (if_pos (of_decide_eq_true hc)).symm.trans h
        refine xr_forget (lo := [some (.ref v0), some (.ref v1), some (.ref v2), some (.ref v3), none, none, none]) ⟨rfl, rfl, rfl, rfl, trivial⟩ ?_
        exact fS_lookThrough_59_ok h hK
      · replace h := (if_neg (of_decide_eq_false hc)).symm.trans h
        refine xr_go 2 (pc' := 56) (lo' := [some (.ref v0), some (.ref v1), some (.ref v2), some (.ref v3), none, none, none]) (st' := [.int (xc 0), .ref v0]) (μ' := μ18) rfl ?_
        obtain ⟨r21, hr21, h⟩ := Option.bind_eq_some_iff.mp h
        refine xr_callV (j := 103) (d' := (d + 9)) (rv1 := none) (μ1 := r21) (rest := []) (As := [.int (xc 0)]) rfl rfl rfl rfl (Nat.le_of_ble_eq_true rfl) (fS_noteCover_kd hr21) rfl (by exact (fS_noteCover_ok (d := d + (7)) hr21)) ?_
        refine xr_forget (lo := [some (.ref v0), some (.ref v1), some (.ref v2), some (.ref v3), none, none, none]) ⟨rfl, rfl, rfl, rfl, trivial⟩ ?_
        exact fS_lookThrough_59_ok h hK
    · replace h := (if_neg (of_decide_eq_false hc)).symm.trans h
      have ho := Option.some.inj h
      subst ho
      obtain ⟨rfl, rfl⟩ := hK
      exact xr_ret (rv := none) rfl rfl (rfl)
noncomputable def fS_lookThrough (a0 : Nat) (a1 : Nat) (a2 : Nat) (a3 : Nat) (μ : xM) : Option (xM) := xgd μ a0 6 (fS_lookThrough_0 a0 a1 a2 a3 μ)
theorem fS_lookThrough_kd {a0 : Nat} {a1 : Nat} {a2 : Nat} {a3 : Nat} {μ : xM} {o : xM} (h : fS_lookThrough a0 a1 a2 a3 μ = some o) : (xK μ a0).1 = 10 + 6 := (xgd_some h).1
theorem fS_lookThrough_ok {d : Nat} {a0 : Nat} {a1 : Nat} {a2 : Nat} {a3 : Nat} {μ : xM} {o : xM} (h : fS_lookThrough a0 a1 a2 a3 μ = some o) : xRun (d + 10) 102 0 [some (.ref a0), some (.ref a1), some (.ref a2), some (.ref a3), none, none, none] [] μ none o :=
  xr_forget (lo := [some (.ref a0), some (.ref a1), some (.ref a2), some (.ref a3), none, none, none]) (⟨rfl, rfl, rfl, rfl, trivial⟩) (fS_lookThrough_0_ok (d := d) (xgd_some h).2 (show fS_lookThrough_K _ _ o from ⟨rfl, rfl⟩))
-- KeptAnswers.seenThrough(I)LKeptAnswers$Sight; 
def fX_seenThrough_K (rv : Option Value) (μf : xM) : (Nat × xM) → Prop := fun o => rv = some (.ref o.1) ∧ μf = o.2
noncomputable def fX_seenThrough_0  (v0 : Nat) (v1 : Int32) (μ : xM) : Option (Nat × xM) := (ldFR μ v0 0 6).bind fun x1 => (ldAR μ x1 v1).bind fun x2 => (ldFR μ v0 0 0).bind fun x3 => (ldFR μ x3 3 8).bind fun x4 => (ldAR μ x4 v1).bind fun x5 => (ldFR μ v0 0 0).bind fun x6 => (fS_look x2 x5 x6 μ).bind fun r7 => (ldFR r7 v0 0 6).bind fun x8 => (ldAR r7 x8 v1).bind fun x9 => (ldFR r7 v0 0 0).bind fun x10 => (ldFR r7 x10 3 8).bind fun x11 => (ldAR r7 x11 v1).bind fun x12 => (ldFR r7 v0 0 0).bind fun x13 => (ldFR r7 v0 0 7).bind fun x14 => (fS_lookThrough x9 x12 x13 x14 r7).bind fun r15 => (ldFR r15 v0 0 6).bind fun x16 => (ldAR r15 x16 v1).bind fun x17 => some ((x17, r15))
theorem fX_seenThrough_0_ok {d : Nat} {v0 : Nat} {v1 : Int32} {μ : xM} {rv : Option Value} {μf : xM} {out : Nat × xM} (h : fX_seenThrough_0 v0 v1 μ = some out) (hK : fX_seenThrough_K rv μf out) : xRun (d + 11) 48 0 [some (.ref v0), some (.int v1)] [] μ rv μf := by
  unfold fX_seenThrough_0 at h
  refine xr_go 1 (pc' := 1) (lo' := [some (.ref v0), some (.int v1)]) (st' := [.ref v0]) (μ' := μ) rfl ?_
  obtain ⟨x1, hx1, h⟩ := Option.bind_eq_some_iff.mp h
  refine xr_opA (pc' := 4) (lo' := [some (.ref v0), some (.int v1)]) (st' := []) (o := ldFR μ v0 0 6) rfl hx1 ?_
  refine xr_go 1 (pc' := 5) (lo' := [some (.ref v0), some (.int v1)]) (st' := [.int v1, .ref x1]) (μ' := μ) rfl ?_
  obtain ⟨x2, hx2, h⟩ := Option.bind_eq_some_iff.mp h
  refine xr_opA (pc' := 6) (lo' := [some (.ref v0), some (.int v1)]) (st' := []) (o := ldAR μ x1 v1) rfl hx2 ?_
  refine xr_go 1 (pc' := 7) (lo' := [some (.ref v0), some (.int v1)]) (st' := [.ref v0, .ref x2]) (μ' := μ) rfl ?_
  obtain ⟨x3, hx3, h⟩ := Option.bind_eq_some_iff.mp h
  refine xr_opA (pc' := 10) (lo' := [some (.ref v0), some (.int v1)]) (st' := [.ref x2]) (o := ldFR μ v0 0 0) rfl hx3 ?_
  obtain ⟨x4, hx4, h⟩ := Option.bind_eq_some_iff.mp h
  refine xr_opA (pc' := 13) (lo' := [some (.ref v0), some (.int v1)]) (st' := [.ref x2]) (o := ldFR μ x3 3 8) rfl hx4 ?_
  refine xr_go 1 (pc' := 14) (lo' := [some (.ref v0), some (.int v1)]) (st' := [.int v1, .ref x4, .ref x2]) (μ' := μ) rfl ?_
  obtain ⟨x5, hx5, h⟩ := Option.bind_eq_some_iff.mp h
  refine xr_opA (pc' := 15) (lo' := [some (.ref v0), some (.int v1)]) (st' := [.ref x2]) (o := ldAR μ x4 v1) rfl hx5 ?_
  refine xr_go 1 (pc' := 16) (lo' := [some (.ref v0), some (.int v1)]) (st' := [.ref v0, .ref x5, .ref x2]) (μ' := μ) rfl ?_
  obtain ⟨x6, hx6, h⟩ := Option.bind_eq_some_iff.mp h
  refine xr_opA (pc' := 19) (lo' := [some (.ref v0), some (.int v1)]) (st' := [.ref x5, .ref x2]) (o := ldFR μ v0 0 0) rfl hx6 ?_
  obtain ⟨r7, hr7, h⟩ := Option.bind_eq_some_iff.mp h
  refine xr_callV (j := 98) (d' := (d + 10)) (rv1 := none) (μ1 := r7) (rest := []) (As := [.ref x5, .ref x6]) rfl rfl rfl rfl (Nat.le_of_ble_eq_true rfl) (fS_look_kd hr7) rfl (by exact (fS_look_ok (d := d + (0)) hr7)) ?_
  refine xr_go 1 (pc' := 23) (lo' := [some (.ref v0), some (.int v1)]) (st' := [.ref v0]) (μ' := r7) rfl ?_
  obtain ⟨x8, hx8, h⟩ := Option.bind_eq_some_iff.mp h
  refine xr_opA (pc' := 26) (lo' := [some (.ref v0), some (.int v1)]) (st' := []) (o := ldFR r7 v0 0 6) rfl hx8 ?_
  refine xr_go 1 (pc' := 27) (lo' := [some (.ref v0), some (.int v1)]) (st' := [.int v1, .ref x8]) (μ' := r7) rfl ?_
  obtain ⟨x9, hx9, h⟩ := Option.bind_eq_some_iff.mp h
  refine xr_opA (pc' := 28) (lo' := [some (.ref v0), some (.int v1)]) (st' := []) (o := ldAR r7 x8 v1) rfl hx9 ?_
  refine xr_go 1 (pc' := 29) (lo' := [some (.ref v0), some (.int v1)]) (st' := [.ref v0, .ref x9]) (μ' := r7) rfl ?_
  obtain ⟨x10, hx10, h⟩ := Option.bind_eq_some_iff.mp h
  refine xr_opA (pc' := 32) (lo' := [some (.ref v0), some (.int v1)]) (st' := [.ref x9]) (o := ldFR r7 v0 0 0) rfl hx10 ?_
  obtain ⟨x11, hx11, h⟩ := Option.bind_eq_some_iff.mp h
  refine xr_opA (pc' := 35) (lo' := [some (.ref v0), some (.int v1)]) (st' := [.ref x9]) (o := ldFR r7 x10 3 8) rfl hx11 ?_
  refine xr_go 1 (pc' := 36) (lo' := [some (.ref v0), some (.int v1)]) (st' := [.int v1, .ref x11, .ref x9]) (μ' := r7) rfl ?_
  obtain ⟨x12, hx12, h⟩ := Option.bind_eq_some_iff.mp h
  refine xr_opA (pc' := 37) (lo' := [some (.ref v0), some (.int v1)]) (st' := [.ref x9]) (o := ldAR r7 x11 v1) rfl hx12 ?_
  refine xr_go 1 (pc' := 38) (lo' := [some (.ref v0), some (.int v1)]) (st' := [.ref v0, .ref x12, .ref x9]) (μ' := r7) rfl ?_
  obtain ⟨x13, hx13, h⟩ := Option.bind_eq_some_iff.mp h
  refine xr_opA (pc' := 41) (lo' := [some (.ref v0), some (.int v1)]) (st' := [.ref x12, .ref x9]) (o := ldFR r7 v0 0 0) rfl hx13 ?_
  refine xr_go 1 (pc' := 42) (lo' := [some (.ref v0), some (.int v1)]) (st' := [.ref v0, .ref x13, .ref x12, .ref x9]) (μ' := r7) rfl ?_
  obtain ⟨x14, hx14, h⟩ := Option.bind_eq_some_iff.mp h
  refine xr_opA (pc' := 45) (lo' := [some (.ref v0), some (.int v1)]) (st' := [.ref x13, .ref x12, .ref x9]) (o := ldFR r7 v0 0 7) rfl hx14 ?_
  obtain ⟨r15, hr15, h⟩ := Option.bind_eq_some_iff.mp h
  refine xr_callV (j := 102) (d' := (d + 10)) (rv1 := none) (μ1 := r15) (rest := []) (As := [.ref x12, .ref x13, .ref x14]) rfl rfl rfl rfl (Nat.le_of_ble_eq_true rfl) (fS_lookThrough_kd hr15) rfl (by exact (fS_lookThrough_ok (d := d + (0)) hr15)) ?_
  refine xr_go 1 (pc' := 49) (lo' := [some (.ref v0), some (.int v1)]) (st' := [.ref v0]) (μ' := r15) rfl ?_
  obtain ⟨x16, hx16, h⟩ := Option.bind_eq_some_iff.mp h
  refine xr_opA (pc' := 52) (lo' := [some (.ref v0), some (.int v1)]) (st' := []) (o := ldFR r15 v0 0 6) rfl hx16 ?_
  refine xr_go 1 (pc' := 53) (lo' := [some (.ref v0), some (.int v1)]) (st' := [.int v1, .ref x16]) (μ' := r15) rfl ?_
  obtain ⟨x17, hx17, h⟩ := Option.bind_eq_some_iff.mp h
  refine xr_opA (pc' := 54) (lo' := [some (.ref v0), some (.int v1)]) (st' := []) (o := ldAR r15 x16 v1) rfl hx17 ?_
  have ho := Option.some.inj h
  subst ho
  obtain ⟨rfl, rfl⟩ := hK
  exact xr_ret (rv := some (.ref x17)) rfl rfl (rfl)
noncomputable def fX_seenThrough (a0 : Nat) (a1 : Int32) (μ : xM) : Option (Nat × xM) := xgd μ a0 0 (fX_seenThrough_0 a0 a1 μ)
theorem fX_seenThrough_kd {a0 : Nat} {a1 : Int32} {μ : xM} {o : Nat × xM} (h : fX_seenThrough a0 a1 μ = some o) : (xK μ a0).1 = 10 + 0 := (xgd_some h).1
theorem fX_seenThrough_ok {d : Nat} {a0 : Nat} {a1 : Int32} {μ : xM} {o : Nat × xM} (h : fX_seenThrough a0 a1 μ = some o) : xRun (d + 11) 48 0 [some (.ref a0), some (.int a1)] [] μ (some (.ref o.1)) o.2 :=
  xr_forget (lo := [some (.ref a0), some (.int a1)]) (⟨rfl, rfl, trivial⟩) (fX_seenThrough_0_ok (d := d) (xgd_some h).2 (show fX_seenThrough_K _ _ o from ⟨rfl, rfl⟩))
-- KeptAnswers.cover(II)I 
def fX_cover_K (rv : Option Value) (μf : xM) : (Int32 × xM) → Prop := fun o => rv = some (.int o.1) ∧ μf = o.2
noncomputable def fX_cover_23  (v0 : Nat) (μ : xM) : Option (Int32 × xM) := (fX_refuse v0 (xc (-2)) μ).bind fun r1 => some ((r1.1, r1.2))
theorem fX_cover_23_ok {d : Nat} {v0 : Nat} {μ : xM} {rv : Option Value} {μf : xM} {out : Int32 × xM} (h : fX_cover_23 v0 μ = some out) (hK : fX_cover_K rv μf out) : xRun (d + 12) 18 23 [some (.ref v0), none, none, none] [] μ rv μf := by
  unfold fX_cover_23 at h
  refine xr_go 2 (pc' := 26) (lo' := [some (.ref v0), none, none, none]) (st' := [.int (xc (-2)), .ref v0]) (μ' := μ) rfl ?_
  obtain ⟨r1, hr1, h⟩ := Option.bind_eq_some_iff.mp h
  refine xr_callV (j := 37) (d' := (d + 11)) (rv1 := some (.int r1.1)) (μ1 := r1.2) (rest := []) (As := [.int (xc (-2))]) rfl rfl rfl rfl (Nat.le_of_ble_eq_true rfl) (fX_refuse_kd hr1) rfl (by exact (fX_refuse_ok (d := d + (11)) hr1)) ?_
  have ho := Option.some.inj h
  subst ho
  obtain ⟨rfl, rfl⟩ := hK
  exact xr_ret (rv := some (.int r1.1)) rfl rfl (Or.inl rfl)
noncomputable def fX_cover_0  (v0 : Nat) (v1 : Int32) (v2 : Int32) (μ : xM) : Option (Int32 × xM) := (fX_isAsk v0 v1 μ).bind fun r2 => if r2 = 0 then ((fX_refuse v0 (xc (-1)) μ).bind fun r11 => some ((r11.1, r11.2))) else (if v2 < 0 then (fX_cover_23 v0 μ) else (if v2 ≤ (xc 2) then ((fX_seenThrough v0 v1 μ).bind fun r3 => (ldF r3.2 r3.1 6 3).bind fun x4 => if x4 = 0 then ((ldF r3.2 r3.1 6 6).bind fun x5 => if 0 ≤ x5 then (if v2 = xc 0 then ((ldF r3.2 r3.1 6 6).bind fun x6 => (fJI_bitCount x6 r3.2).bind fun r7 => some ((r7, r3.2))) else if v2 = xc 1 then ((ldF r3.2 r3.1 6 6).bind fun x8 => some ((x8, r3.2))) else ((ldF r3.2 r3.1 6 7).bind fun x9 => some ((x9, r3.2)))) else (some ((xc (-9), r3.2)))) else ((fX_refuse v0 (xc (-5)) r3.2).bind fun r10 => some ((r10.1, r10.2)))) else (fX_cover_23 v0 μ)))
theorem fX_cover_0_ok {d : Nat} {v0 : Nat} {v1 : Int32} {v2 : Int32} {μ : xM} {rv : Option Value} {μf : xM} {out : Int32 × xM} (h : fX_cover_0 v0 v1 v2 μ = some out) (hK : fX_cover_K rv μf out) : xRun (d + 12) 18 0 [some (.ref v0), some (.int v1), some (.int v2), none] [] μ rv μf := by
  unfold fX_cover_0 at h
  refine xr_go 2 (pc' := 2) (lo' := [some (.ref v0), some (.int v1), some (.int v2), none]) (st' := [.int v1, .ref v0]) (μ' := μ) rfl ?_
  obtain ⟨r2, hr2, h⟩ := Option.bind_eq_some_iff.mp h
  refine xr_callV (j := 39) (d' := (d + 11)) (rv1 := some (.int r2)) (μ1 := μ) (rest := []) (As := [.int v1]) rfl rfl rfl rfl (Nat.le_of_ble_eq_true rfl) (fX_isAsk_kd hr2) rfl (by exact (fX_isAsk_ok (d := d + (11)) hr2)) ?_
  refine xr_ifc (pct := 14) rfl rfl rfl (fun hc => ?_) (fun hc => ?_)
  · replace h := (if_neg (of_decide_eq_true hc)).symm.trans h
    refine xr_go 1 (pc' := 15) (lo' := [some (.ref v0), some (.int v1), some (.int v2), none]) (st' := [.int v2]) (μ' := μ) rfl ?_
    refine xr_ifc (pct := 23) rfl rfl rfl (fun hc => ?_) (fun hc => ?_)
    · replace h := (if_pos (of_decide_eq_true hc)).symm.trans h
      refine xr_forget (lo := [some (.ref v0), none, none, none]) ⟨rfl, trivial⟩ ?_
      exact fX_cover_23_ok h hK
    · replace h := (if_neg (of_decide_eq_false hc)).symm.trans h
      refine xr_go 2 (pc' := 20) (lo' := [some (.ref v0), some (.int v1), some (.int v2), none]) (st' := [.int (xc 2), .int v2]) (μ' := μ) rfl ?_
      refine xr_icmp (pct := 30) rfl rfl rfl (fun hc => ?_) (fun hc => ?_)
      · replace h := (if_pos (of_decide_eq_true hc)).symm.trans h
        refine xr_go 2 (pc' := 32) (lo' := [some (.ref v0), some (.int v1), some (.int v2), none]) (st' := [.int v1, .ref v0]) (μ' := μ) rfl ?_
        obtain ⟨r3, hr3, h⟩ := Option.bind_eq_some_iff.mp h
        refine xr_callV (j := 48) (d' := (d + 11)) (rv1 := some (.ref r3.1)) (μ1 := r3.2) (rest := []) (As := [.int v1]) rfl rfl rfl rfl (Nat.le_of_ble_eq_true rfl) (fX_seenThrough_kd hr3) rfl (by exact (fX_seenThrough_ok (d := d + (0)) hr3)) ?_
        refine xr_go 2 (pc' := 37) (lo' := [some (.ref v0), some (.int v1), some (.int v2), some (.ref r3.1)]) (st' := [.ref r3.1]) (μ' := r3.2) rfl ?_
        obtain ⟨x4, hx4, h⟩ := Option.bind_eq_some_iff.mp h
        refine xr_opI (pc' := 40) (lo' := [some (.ref v0), some (.int v1), some (.int v2), some (.ref r3.1)]) (st' := []) (o := ldF r3.2 r3.1 6 3) rfl hx4 ?_
        refine xr_ifc (pct := 50) rfl rfl rfl (fun hc => ?_) (fun hc => ?_)
        · replace h := (if_pos (of_decide_eq_true hc)).symm.trans h
          refine xr_go 1 (pc' := 51) (lo' := [some (.ref v0), some (.int v1), some (.int v2), some (.ref r3.1)]) (st' := [.ref r3.1]) (μ' := r3.2) rfl ?_
          obtain ⟨x5, hx5, h⟩ := Option.bind_eq_some_iff.mp h
          refine xr_opI (pc' := 54) (lo' := [some (.ref v0), some (.int v1), some (.int v2), some (.ref r3.1)]) (st' := []) (o := ldF r3.2 r3.1 6 6) rfl hx5 ?_
          refine xr_ifc (pct := 60) rfl rfl rfl (fun hc => ?_) (fun hc => ?_)
          · replace h := (if_pos (of_decide_eq_true hc)).symm.trans h
            refine xr_go 1 (pc' := 61) (lo' := [some (.ref v0), some (.int v1), some (.int v2), some (.ref r3.1)]) (st' := [.int v2]) (μ' := r3.2) rfl ?_
            by_cases hq0 : v2 = xc 0
            · replace h := (if_pos hq0).symm.trans h
              refine xr_sw (v := xc 0) (pc' := 88) (lo' := [some (.ref v0), some (.int v1), some (.int v2), some (.ref r3.1)]) (st' := []) (μ' := r3.2) hq0 rfl ?_
              refine xr_go 1 (pc' := 89) (lo' := [some (.ref v0), some (.int v1), some (.int v2), some (.ref r3.1)]) (st' := [.ref r3.1]) (μ' := r3.2) rfl ?_
              obtain ⟨x6, hx6, h⟩ := Option.bind_eq_some_iff.mp h
              refine xr_opI (pc' := 92) (lo' := [some (.ref v0), some (.int v1), some (.int v2), some (.ref r3.1)]) (st' := []) (o := ldF r3.2 r3.1 6 6) rfl hx6 ?_
              obtain ⟨r7, hr7, h⟩ := Option.bind_eq_some_iff.mp h
              refine xr_callS (j := 221) (d' := (d + 11)) (rv1 := some (.int r7)) (μ1 := r3.2) (rest := []) (As := [.int x6]) rfl rfl rfl rfl (Nat.le_of_ble_eq_true rfl) rfl (by exact (fJI_bitCount_ok (d := d + (11)) hr7)) ?_
              have ho := Option.some.inj h
              subst ho
              obtain ⟨rfl, rfl⟩ := hK
              exact xr_ret (rv := some (.int r7)) rfl rfl (Or.inl rfl)
            replace h := (if_neg hq0).symm.trans h
            by_cases hq1 : v2 = xc 1
            · replace h := (if_pos hq1).symm.trans h
              refine xr_sw (v := xc 1) (pc' := 96) (lo' := [some (.ref v0), some (.int v1), some (.int v2), some (.ref r3.1)]) (st' := []) (μ' := r3.2) hq1 rfl ?_
              refine xr_go 1 (pc' := 97) (lo' := [some (.ref v0), some (.int v1), some (.int v2), some (.ref r3.1)]) (st' := [.ref r3.1]) (μ' := r3.2) rfl ?_
              obtain ⟨x8, hx8, h⟩ := Option.bind_eq_some_iff.mp h
              refine xr_opI (pc' := 100) (lo' := [some (.ref v0), some (.int v1), some (.int v2), some (.ref r3.1)]) (st' := []) (o := ldF r3.2 r3.1 6 6) rfl hx8 ?_
              have ho := Option.some.inj h
              subst ho
              obtain ⟨rfl, rfl⟩ := hK
              exact xr_ret (rv := some (.int x8)) rfl rfl (Or.inl rfl)
            replace h := (if_neg hq1).symm.trans h
            refine xr_lswD (pc' := 101) rfl hq0 hq1 rfl rfl ?_
            refine xr_go 1 (pc' := 102) (lo' := [some (.ref v0), some (.int v1), some (.int v2), some (.ref r3.1)]) (st' := [.ref r3.1]) (μ' := r3.2) rfl ?_
            obtain ⟨x9, hx9, h⟩ := Option.bind_eq_some_iff.mp h
            refine xr_opI (pc' := 105) (lo' := [some (.ref v0), some (.int v1), some (.int v2), some (.ref r3.1)]) (st' := []) (o := ldF r3.2 r3.1 6 7) rfl hx9 ?_
            have ho := Option.some.inj h
            subst ho
            obtain ⟨rfl, rfl⟩ := hK
            exact xr_ret (rv := some (.int x9)) rfl rfl (Or.inl rfl)
          · replace h := (if_neg (of_decide_eq_false hc)).symm.trans h
            refine xr_go 1 (pc' := 59) (lo' := [some (.ref v0), some (.int v1), some (.int v2), some (.ref r3.1)]) (st' := [.int (xc (-9))]) (μ' := r3.2) rfl ?_
            have ho := Option.some.inj h
            subst ho
            obtain ⟨rfl, rfl⟩ := hK
            exact xr_ret (rv := some (.int (xc (-9)))) rfl rfl (Or.inl rfl)
        · replace h := (if_neg (of_decide_eq_false hc)).symm.trans h
          refine xr_go 2 (pc' := 46) (lo' := [some (.ref v0), some (.int v1), some (.int v2), some (.ref r3.1)]) (st' := [.int (xc (-5)), .ref v0]) (μ' := r3.2) rfl ?_
          obtain ⟨r10, hr10, h⟩ := Option.bind_eq_some_iff.mp h
          refine xr_callV (j := 37) (d' := (d + 11)) (rv1 := some (.int r10.1)) (μ1 := r10.2) (rest := []) (As := [.int (xc (-5))]) rfl rfl rfl rfl (Nat.le_of_ble_eq_true rfl) (fX_refuse_kd hr10) rfl (by exact (fX_refuse_ok (d := d + (11)) hr10)) ?_
          have ho := Option.some.inj h
          subst ho
          obtain ⟨rfl, rfl⟩ := hK
          exact xr_ret (rv := some (.int r10.1)) rfl rfl (Or.inl rfl)
      · replace h := (if_neg (of_decide_eq_false hc)).symm.trans h
        refine xr_forget (lo := [some (.ref v0), none, none, none]) ⟨rfl, trivial⟩ ?_
        exact fX_cover_23_ok h hK
  · replace h := (if_pos (Decidable.of_not_not (of_decide_eq_false hc))).symm.trans h
    refine xr_go 2 (pc' := 10) (lo' := [some (.ref v0), some (.int v1), some (.int v2), none]) (st' := [.int (xc (-1)), .ref v0]) (μ' := μ) rfl ?_
    obtain ⟨r11, hr11, h⟩ := Option.bind_eq_some_iff.mp h
    refine xr_callV (j := 37) (d' := (d + 11)) (rv1 := some (.int r11.1)) (μ1 := r11.2) (rest := []) (As := [.int (xc (-1))]) rfl rfl rfl rfl (Nat.le_of_ble_eq_true rfl) (fX_refuse_kd hr11) rfl (by exact (fX_refuse_ok (d := d + (11)) hr11)) ?_
    have ho := Option.some.inj h
    subst ho
    obtain ⟨rfl, rfl⟩ := hK
    exact xr_ret (rv := some (.int r11.1)) rfl rfl (Or.inl rfl)
noncomputable def fX_cover (a0 : Nat) (a1 : Int32) (a2 : Int32) (μ : xM) : Option (Int32 × xM) := xgd μ a0 0 (fX_cover_0 a0 a1 a2 μ)
theorem fX_cover_kd {a0 : Nat} {a1 : Int32} {a2 : Int32} {μ : xM} {o : Int32 × xM} (h : fX_cover a0 a1 a2 μ = some o) : (xK μ a0).1 = 10 + 0 := (xgd_some h).1
theorem fX_cover_ok {d : Nat} {a0 : Nat} {a1 : Int32} {a2 : Int32} {μ : xM} {o : Int32 × xM} (h : fX_cover a0 a1 a2 μ = some o) : xRun (d + 12) 18 0 [some (.ref a0), some (.int a1), some (.int a2), none] [] μ (some (.int o.1)) o.2 :=
  xr_forget (lo := [some (.ref a0), some (.int a1), some (.int a2), none]) (⟨rfl, rfl, rfl, trivial⟩) (fX_cover_0_ok (d := d) (xgd_some h).2 (show fX_cover_K _ _ o from ⟨rfl, rfl⟩))
-- KeptAnswersModel.ones(I)I 
def fM_ones_K (μ : xM) (rv : Option Value) (μf : xM) : (Int32) → Prop := fun o => rv = some (.int o) ∧ μf = μ
def fM_ones_K4 (μ : xM) (d : Nat) (rv : Option Value) (μf : xM) : ((Int32 × Int32) ⊕ (Int32)) → Prop := Sum.elim (fun s : Int32 × Int32 => xRun (d + 0) 141 4 [none, some (.int s.1), some (.int s.2)] [] μ rv μf) (fM_ones_K μ rv μf)
noncomputable def fM_ones_21  (v1 : Int32) (μ : xM) : Option (Int32) := some v1
theorem fM_ones_21_ok {d : Nat} {v1 : Int32} {μ : xM} {rv : Option Value} {μf : xM} {out : Int32} (h : fM_ones_21 v1 μ = some out) (hK : fM_ones_K μ rv μf out) : xRun (d + 0) 141 21 [none, some (.int v1), none] [] μ rv μf := by
  unfold fM_ones_21 at h
  refine xr_go 1 (pc' := 22) (lo' := [none, some (.int v1), none]) (st' := [.int v1]) (μ' := μ) rfl ?_
  have ho := Option.some.inj h
  subst ho
  obtain ⟨rfl, rfl⟩ := hK
  exact xr_ret (rv := some (.int v1)) rfl rfl (Or.inl rfl)
noncomputable def fM_ones_L4  (v1 : Int32) (v2 : Int32) (μ : xM) : Option ((Int32 × Int32) ⊕ (Int32)) := if v2 ≤ 0 then ((fM_ones_21 v1 μ).map (fun o => .inr o)) else ((rmI v2 (xc 2)).bind fun x1 => (dvI v2 (xc 2)).bind fun x2 => some (.inl ((v1 + x1, x2))))
theorem fM_ones_L4_ok {d : Nat} {v1 : Int32} {v2 : Int32} {μ : xM} {rv : Option Value} {μf : xM} {out : (Int32 × Int32) ⊕ (Int32)} (h : fM_ones_L4 v1 v2 μ = some out) (hK : fM_ones_K4 μ d rv μf out) : xRun (d + 0) 141 4 [none, some (.int v1), some (.int v2)] [] μ rv μf := by
  unfold fM_ones_L4 at h
  refine xr_go 1 (pc' := 5) (lo' := [none, some (.int v1), some (.int v2)]) (st' := [.int v2]) (μ' := μ) rfl ?_
  refine xr_ifc (pct := 21) rfl rfl rfl (fun hc => ?_) (fun hc => ?_)
  · replace h := (if_pos (of_decide_eq_true hc)).symm.trans h
    refine xr_forget (lo := [none, some (.int v1), none]) ⟨rfl, trivial⟩ ?_
    obtain ⟨o, h2, rfl⟩ := Option.map_eq_some_iff.mp h
    exact fM_ones_21_ok h2 hK
  · replace h := (if_neg (of_decide_eq_false hc)).symm.trans h
    refine xr_go 3 (pc' := 11) (lo' := [none, some (.int v1), some (.int v2)]) (st' := [.int (xc 2), .int v2, .int v1]) (μ' := μ) rfl ?_
    obtain ⟨x1, hx1, h⟩ := Option.bind_eq_some_iff.mp h
    refine xr_opI (pc' := 12) (lo' := [none, some (.int v1), some (.int v2)]) (st' := [.int v1]) (o := rmI v2 (xc 2)) rfl hx1 ?_
    refine xr_go 4 (pc' := 16) (lo' := [none, some (.int (v1 + x1)), some (.int v2)]) (st' := [.int (xc 2), .int v2]) (μ' := μ) rfl ?_
    obtain ⟨x2, hx2, h⟩ := Option.bind_eq_some_iff.mp h
    refine xr_opI (pc' := 17) (lo' := [none, some (.int (v1 + x1)), some (.int v2)]) (st' := []) (o := dvI v2 (xc 2)) rfl hx2 ?_
    refine xr_go 2 (pc' := 4) (lo' := [none, some (.int (v1 + x1)), some (.int x2)]) (st' := []) (μ' := μ) rfl ?_
    refine xr_forget (lo := [none, some (.int (v1 + x1)), some (.int x2)]) ⟨rfl, rfl, trivial⟩ ?_
    have ho := Option.some.inj h
    subst ho
    exact hK
theorem fM_ones_L4_lp {d : Nat} {v1 : Int32} {v2 : Int32} {μ : xM} {rv : Option Value} {μf : xM} {out : Int32} (h : xwh (fun s : Int32 × Int32 => fM_ones_L4 s.1 s.2 μ) (v1, v2) = some out) (hK : fM_ones_K μ rv μf out) : xRun (d + 0) 141 4 [none, some (.int v1), some (.int v2)] [] μ rv μf :=
  xwh_ind (Rh := fun s : Int32 × Int32 => xRun (d + 0) 141 4 [none, some (.int s.1), some (.int s.2)] [] μ rv μf) (Co := fM_ones_K μ rv μf) (fun s o hb hk => fM_ones_L4_ok hb hk) h hK
noncomputable def fM_ones_0  (v0 : Int32) (μ : xM) : Option (Int32) := xwh (fun s : Int32 × Int32 => fM_ones_L4 s.1 s.2 μ) (xc 0, v0)
theorem fM_ones_0_ok {d : Nat} {v0 : Int32} {μ : xM} {rv : Option Value} {μf : xM} {out : Int32} (h : fM_ones_0 v0 μ = some out) (hK : fM_ones_K μ rv μf out) : xRun (d + 0) 141 0 [some (.int v0), none, none] [] μ rv μf := by
  unfold fM_ones_0 at h
  refine xr_go 4 (pc' := 4) (lo' := [some (.int v0), some (.int (xc 0)), some (.int v0)]) (st' := []) (μ' := μ) rfl ?_
  refine xr_forget (lo := [none, some (.int (xc 0)), some (.int v0)]) ⟨rfl, rfl, trivial⟩ ?_
  exact fM_ones_L4_lp h hK
noncomputable def fM_ones (a0 : Int32) (μ : xM) : Option (Int32) := fM_ones_0 a0 μ
theorem fM_ones_ok {d : Nat} {a0 : Int32} {μ : xM} {o : Int32} (h : fM_ones a0 μ = some o) : xRun (d + 0) 141 0 [some (.int a0), none, none] [] μ (some (.int o)) μ :=
  xr_forget (lo := [some (.int a0), none, none]) (⟨rfl, trivial⟩) (fM_ones_0_ok (d := d) h (show fM_ones_K μ _ _ o from ⟨rfl, rfl⟩))
-- KeptAnswersModel.isShown(II)Z 
def fM_isShown_K (μ : xM) (rv : Option Value) (μf : xM) : (Int32) → Prop := fun o => rv = some (.int o) ∧ μf = μ
def fM_isShown_K14 (v0 : Nat) (v1 : Int32) (v2 : Int32) (μ : xM) (d : Nat) (rv : Option Value) (μf : xM) : ((Int32 × Int32) ⊕ (Int32)) → Prop := Sum.elim (fun s : Int32 × Int32 => xRun (d + 1) 186 14 [some (.ref v0), some (.int v1), some (.int v2), some (.int s.1), some (.int s.2), none] [] μ rv μf) (fM_isShown_K μ rv μf)
def fM_isShown_K26 (v0 : Nat) (v1 : Int32) (v2 : Int32) (v4 : Int32) (μ : xM) (d : Nat) (rv : Option Value) (μf : xM) : ((Int32 × Int32) ⊕ ((Int32 × Int32) ⊕ (Int32))) → Prop := Sum.elim (fun s : Int32 × Int32 => xRun (d + 1) 186 26 [some (.ref v0), some (.int v1), some (.int v2), some (.int s.1), some (.int v4), some (.int s.2)] [] μ rv μf) (fM_isShown_K14 v0 v1 v2 μ d rv μf)
noncomputable def fM_isShown_90  (v3 : Int32) (μ : xM) : Option (Int32) := if v3 = 0 ∨ v3 = 1 then some v3 else none
theorem fM_isShown_90_ok {d : Nat} {v3 : Int32} {μ : xM} {rv : Option Value} {μf : xM} {out : Int32} (h : fM_isShown_90 v3 μ = some out) (hK : fM_isShown_K μ rv μf out) : xRun (d + 1) 186 90 [none, none, none, some (.int v3), none, none] [] μ rv μf := by
  unfold fM_isShown_90 at h
  refine xr_go 1 (pc' := 91) (lo' := [none, none, none, some (.int v3), none, none]) (st' := [.int v3]) (μ' := μ) rfl ?_
  obtain ⟨hb, h⟩ := xifO h
  have ho := Option.some.inj h
  subst ho
  obtain ⟨rfl, rfl⟩ := hK
  exact xr_ret (rv := some (.int v3)) rfl rfl (Or.inr ⟨rfl, hb⟩)
noncomputable def fM_isShown_84  (v0 : Nat) (v1 : Int32) (v2 : Int32) (v3 : Int32) (v4 : Int32) (μ : xM) : Option ((Int32 × Int32) ⊕ (Int32)) := some (.inl ((v3, v4 + xc 1)))
theorem fM_isShown_84_ok {d : Nat} {v0 : Nat} {v1 : Int32} {v2 : Int32} {v3 : Int32} {v4 : Int32} {μ : xM} {rv : Option Value} {μf : xM} {out : (Int32 × Int32) ⊕ (Int32)} (h : fM_isShown_84 v0 v1 v2 v3 v4 μ = some out) (hK : fM_isShown_K14 v0 v1 v2 μ d rv μf out) : xRun (d + 1) 186 84 [some (.ref v0), some (.int v1), some (.int v2), some (.int v3), some (.int v4), none] [] μ rv μf := by
  unfold fM_isShown_84 at h
  refine xr_go 2 (pc' := 14) (lo' := [some (.ref v0), some (.int v1), some (.int v2), some (.int v3), some (.int (v4 + xc 1)), none]) (st' := []) (μ' := μ) rfl ?_
  refine xr_forget (lo := [some (.ref v0), some (.int v1), some (.int v2), some (.int v3), some (.int (v4 + xc 1)), none]) ⟨rfl, rfl, rfl, rfl, rfl, trivial⟩ ?_
  have ho := Option.some.inj h
  subst ho
  exact hK
noncomputable def fM_isShown_77  (v0 : Nat) (v1 : Int32) (v2 : Int32) (v4 : Int32) (v5 : Int32) (s0 : Int32) (μ : xM) : Option ((Int32 × Int32) ⊕ ((Int32 × Int32) ⊕ (Int32))) := some (.inl ((s0, v5 + xc 1)))
theorem fM_isShown_77_ok {d : Nat} {v0 : Nat} {v1 : Int32} {v2 : Int32} {v4 : Int32} {v5 : Int32} {s0 : Int32} {μ : xM} {rv : Option Value} {μf : xM} {out : (Int32 × Int32) ⊕ ((Int32 × Int32) ⊕ (Int32))} (h : fM_isShown_77 v0 v1 v2 v4 v5 s0 μ = some out) (hK : fM_isShown_K26 v0 v1 v2 v4 μ d rv μf out) : xRun (d + 1) 186 77 [some (.ref v0), some (.int v1), some (.int v2), none, some (.int v4), some (.int v5)] [.int s0] μ rv μf := by
  unfold fM_isShown_77 at h
  refine xr_go 3 (pc' := 26) (lo' := [some (.ref v0), some (.int v1), some (.int v2), some (.int s0), some (.int v4), some (.int (v5 + xc 1))]) (st' := []) (μ' := μ) rfl ?_
  refine xr_forget (lo := [some (.ref v0), some (.int v1), some (.int v2), some (.int s0), some (.int v4), some (.int (v5 + xc 1))]) ⟨rfl, rfl, rfl, rfl, rfl, rfl, trivial⟩ ?_
  have ho := Option.some.inj h
  subst ho
  exact hK
noncomputable def fM_isShown_72  (v0 : Nat) (v1 : Int32) (v2 : Int32) (v4 : Int32) (v5 : Int32) (μ : xM) : Option ((Int32 × Int32) ⊕ ((Int32 × Int32) ⊕ (Int32))) := fM_isShown_77 v0 v1 v2 v4 v5 (xc 1) μ
theorem fM_isShown_72_ok {d : Nat} {v0 : Nat} {v1 : Int32} {v2 : Int32} {v4 : Int32} {v5 : Int32} {μ : xM} {rv : Option Value} {μf : xM} {out : (Int32 × Int32) ⊕ ((Int32 × Int32) ⊕ (Int32))} (h : fM_isShown_72 v0 v1 v2 v4 v5 μ = some out) (hK : fM_isShown_K26 v0 v1 v2 v4 μ d rv μf out) : xRun (d + 1) 186 72 [some (.ref v0), some (.int v1), some (.int v2), none, some (.int v4), some (.int v5)] [] μ rv μf := by
  unfold fM_isShown_72 at h
  refine xr_go 2 (pc' := 77) (lo' := [some (.ref v0), some (.int v1), some (.int v2), none, some (.int v4), some (.int v5)]) (st' := [.int (xc 1)]) (μ' := μ) rfl ?_
  refine xr_forget (lo := [some (.ref v0), some (.int v1), some (.int v2), none, some (.int v4), some (.int v5)]) ⟨rfl, rfl, rfl, rfl, rfl, trivial⟩ ?_
  exact fM_isShown_77_ok h hK
noncomputable def fM_isShown_L26  (v0 : Nat) (v1 : Int32) (v2 : Int32) (v3 : Int32) (v4 : Int32) (v5 : Int32) (μ : xM) : Option ((Int32 × Int32) ⊕ ((Int32 × Int32) ⊕ (Int32))) := (ldFR μ v0 9 14).bind fun x1 => (ldFR μ v0 9 41).bind fun x2 => (ldA μ x2 v4).bind fun x3 => (ldA μ x1 ((xc 10) + x3)).bind fun x4 => if x4 ≤ v5 then ((fM_isShown_84 v0 v1 v2 v3 v4 μ).map (fun o => .inr o)) else (if ((v1 >>> (v4 &&& 31)) &&& (xc 1)) = (xc 1) then (if v3 = 0 then ((fM_termOf v0 v4 v5 μ).bind fun r5 => if r5 = v2 then (fM_isShown_72 v0 v1 v2 v4 v5 μ) else (fM_isShown_77 v0 v1 v2 v4 v5 (xc 0) μ)) else (fM_isShown_72 v0 v1 v2 v4 v5 μ)) else ((fM_isShown_84 v0 v1 v2 v3 v4 μ).map (fun o => .inr o)))
theorem fM_isShown_L26_ok {d : Nat} {v0 : Nat} {v1 : Int32} {v2 : Int32} {v3 : Int32} {v4 : Int32} {v5 : Int32} {μ : xM} {rv : Option Value} {μf : xM} {out : (Int32 × Int32) ⊕ ((Int32 × Int32) ⊕ (Int32))} (h : fM_isShown_L26 v0 v1 v2 v3 v4 v5 μ = some out) (hK : fM_isShown_K26 v0 v1 v2 v4 μ d rv μf out) : xRun (d + 1) 186 26 [some (.ref v0), some (.int v1), some (.int v2), some (.int v3), some (.int v4), some (.int v5)] [] μ rv μf := by
  unfold fM_isShown_L26 at h
  refine xr_go 2 (pc' := 29) (lo' := [some (.ref v0), some (.int v1), some (.int v2), some (.int v3), some (.int v4), some (.int v5)]) (st' := [.ref v0, .int v5]) (μ' := μ) rfl ?_
  obtain ⟨x1, hx1, h⟩ := Option.bind_eq_some_iff.mp h
  refine xr_opA (pc' := 32) (lo' := [some (.ref v0), some (.int v1), some (.int v2), some (.int v3), some (.int v4), some (.int v5)]) (st' := [.int v5]) (o := ldFR μ v0 9 14) rfl hx1 ?_
  refine xr_go 2 (pc' := 35) (lo' := [some (.ref v0), some (.int v1), some (.int v2), some (.int v3), some (.int v4), some (.int v5)]) (st' := [.ref v0, .int (xc 10), .ref x1, .int v5]) (μ' := μ) rfl ?_
  obtain ⟨x2, hx2, h⟩ := Option.bind_eq_some_iff.mp h
  refine xr_opA (pc' := 38) (lo' := [some (.ref v0), some (.int v1), some (.int v2), some (.int v3), some (.int v4), some (.int v5)]) (st' := [.int (xc 10), .ref x1, .int v5]) (o := ldFR μ v0 9 41) rfl hx2 ?_
  refine xr_go 1 (pc' := 40) (lo' := [some (.ref v0), some (.int v1), some (.int v2), some (.int v3), some (.int v4), some (.int v5)]) (st' := [.int v4, .ref x2, .int (xc 10), .ref x1, .int v5]) (μ' := μ) rfl ?_
  obtain ⟨x3, hx3, h⟩ := Option.bind_eq_some_iff.mp h
  refine xr_opI (pc' := 41) (lo' := [some (.ref v0), some (.int v1), some (.int v2), some (.int v3), some (.int v4), some (.int v5)]) (st' := [.int (xc 10), .ref x1, .int v5]) (o := ldA μ x2 v4) rfl hx3 ?_
  refine xr_go 1 (pc' := 42) (lo' := [some (.ref v0), some (.int v1), some (.int v2), some (.int v3), some (.int v4), some (.int v5)]) (st' := [.int ((xc 10) + x3), .ref x1, .int v5]) (μ' := μ) rfl ?_
  obtain ⟨x4, hx4, h⟩ := Option.bind_eq_some_iff.mp h
  refine xr_opI (pc' := 43) (lo' := [some (.ref v0), some (.int v1), some (.int v2), some (.int v3), some (.int v4), some (.int v5)]) (st' := [.int v5]) (o := ldA μ x1 ((xc 10) + x3)) rfl hx4 ?_
  refine xr_icmp (pct := 84) rfl rfl rfl (fun hc => ?_) (fun hc => ?_)
  · replace h := (if_pos (of_decide_eq_true hc)).symm.trans h
    refine xr_forget (lo := [some (.ref v0), some (.int v1), some (.int v2), some (.int v3), some (.int v4), none]) ⟨rfl, rfl, rfl, rfl, rfl, trivial⟩ ?_
    obtain ⟨o, h2, rfl⟩ := Option.map_eq_some_iff.mp h
    exact fM_isShown_84_ok h2 hK
  · replace h := (if_neg (of_decide_eq_false hc)).symm.trans h
    refine xr_go 6 (pc' := 53) (lo' := [some (.ref v0), some (.int v1), some (.int v2), some (.int v3), some (.int v4), some (.int v5)]) (st' := [.int (xc 1), .int ((v1 >>> (v4 &&& 31)) &&& (xc 1))]) (μ' := μ) rfl ?_
    refine xr_icmp (pct := 84) rfl rfl rfl (fun hc => ?_) (fun hc => ?_)
    · replace h := (if_neg (of_decide_eq_true hc)).symm.trans h
      refine xr_forget (lo := [some (.ref v0), some (.int v1), some (.int v2), some (.int v3), some (.int v4), none]) ⟨rfl, rfl, rfl, rfl, rfl, trivial⟩ ?_
      obtain ⟨o, h2, rfl⟩ := Option.map_eq_some_iff.mp h
      exact fM_isShown_84_ok h2 hK
    · replace h := (if_pos (Decidable.of_not_not (of_decide_eq_false hc))).symm.trans h
      refine xr_go 1 (pc' := 57) (lo' := [some (.ref v0), some (.int v1), some (.int v2), some (.int v3), some (.int v4), some (.int v5)]) (st' := [.int v3]) (μ' := μ) rfl ?_
      refine xr_ifc (pct := 72) rfl rfl rfl (fun hc => ?_) (fun hc => ?_)
      · replace h := (if_neg (of_decide_eq_true hc)).symm.trans h
        refine xr_forget (lo := [some (.ref v0), some (.int v1), some (.int v2), none, some (.int v4), some (.int v5)]) ⟨rfl, rfl, rfl, rfl, rfl, trivial⟩ ?_
        exact fM_isShown_72_ok h hK
      · replace h := (if_pos (Decidable.of_not_not (of_decide_eq_false hc))).symm.trans h
        refine xr_go 3 (pc' := 65) (lo' := [some (.ref v0), some (.int v1), some (.int v2), some (.int v3), some (.int v4), some (.int v5)]) (st' := [.int v5, .int v4, .ref v0]) (μ' := μ) rfl ?_
        obtain ⟨r5, hr5, h⟩ := Option.bind_eq_some_iff.mp h
        refine xr_callV (j := 181) (d' := (d + 0)) (rv1 := some (.int r5)) (μ1 := μ) (rest := []) (As := [.int v4, .int v5]) rfl rfl rfl rfl (Nat.le_of_ble_eq_true rfl) (fM_termOf_kd hr5) rfl (by exact (fM_termOf_ok (d := d + (0)) hr5)) ?_
        refine xr_go 1 (pc' := 69) (lo' := [some (.ref v0), some (.int v1), some (.int v2), some (.int v3), some (.int v4), some (.int v5)]) (st' := [.int v2, .int r5]) (μ' := μ) rfl ?_
        refine xr_icmp (pct := 76) rfl rfl rfl (fun hc => ?_) (fun hc => ?_)
        · replace h := (if_neg (of_decide_eq_true hc)).symm.trans h
          refine xr_go 1 (pc' := 77) (lo' := [some (.ref v0), some (.int v1), some (.int v2), some (.int v3), some (.int v4), some (.int v5)]) (st' := [.int (xc 0)]) (μ' := μ) rfl ?_
          refine xr_forget (lo := [some (.ref v0), some (.int v1), some (.int v2), none, some (.int v4), some (.int v5)]) ⟨rfl, rfl, rfl, rfl, rfl, trivial⟩ ?_
          exact fM_isShown_77_ok h hK
        · replace h := (if_pos (Decidable.of_not_not (of_decide_eq_false hc))).symm.trans h
          refine xr_forget (lo := [some (.ref v0), some (.int v1), some (.int v2), none, some (.int v4), some (.int v5)]) ⟨rfl, rfl, rfl, rfl, rfl, trivial⟩ ?_
          exact fM_isShown_72_ok h hK
theorem fM_isShown_L26_lp {d : Nat} {v0 : Nat} {v1 : Int32} {v2 : Int32} {v3 : Int32} {v4 : Int32} {v5 : Int32} {μ : xM} {rv : Option Value} {μf : xM} {out : (Int32 × Int32) ⊕ (Int32)} (h : xwh (fun s : Int32 × Int32 => fM_isShown_L26 v0 v1 v2 s.1 v4 s.2 μ) (v3, v5) = some out) (hK : fM_isShown_K14 v0 v1 v2 μ d rv μf out) : xRun (d + 1) 186 26 [some (.ref v0), some (.int v1), some (.int v2), some (.int v3), some (.int v4), some (.int v5)] [] μ rv μf :=
  xwh_ind (Rh := fun s : Int32 × Int32 => xRun (d + 1) 186 26 [some (.ref v0), some (.int v1), some (.int v2), some (.int s.1), some (.int v4), some (.int s.2)] [] μ rv μf) (Co := fM_isShown_K14 v0 v1 v2 μ d rv μf) (fun s o hb hk => fM_isShown_L26_ok hb hk) h hK
noncomputable def fM_isShown_L14  (v0 : Nat) (v1 : Int32) (v2 : Int32) (v3 : Int32) (v4 : Int32) (μ : xM) : Option ((Int32 × Int32) ⊕ (Int32)) := (ldF μ v0 9 39).bind fun x6 => if x6 ≤ v4 then ((fM_isShown_90 v3 μ).map (fun o => .inr o)) else (xwh (fun s : Int32 × Int32 => fM_isShown_L26 v0 v1 v2 s.1 v4 s.2 μ) (v3, xc 0))
theorem fM_isShown_L14_ok {d : Nat} {v0 : Nat} {v1 : Int32} {v2 : Int32} {v3 : Int32} {v4 : Int32} {μ : xM} {rv : Option Value} {μf : xM} {out : (Int32 × Int32) ⊕ (Int32)} (h : fM_isShown_L14 v0 v1 v2 v3 v4 μ = some out) (hK : fM_isShown_K14 v0 v1 v2 μ d rv μf out) : xRun (d + 1) 186 14 [some (.ref v0), some (.int v1), some (.int v2), some (.int v3), some (.int v4), none] [] μ rv μf := by
  unfold fM_isShown_L14 at h
  refine xr_go 2 (pc' := 17) (lo' := [some (.ref v0), some (.int v1), some (.int v2), some (.int v3), some (.int v4), none]) (st' := [.ref v0, .int v4]) (μ' := μ) rfl ?_
  obtain ⟨x6, hx6, h⟩ := Option.bind_eq_some_iff.mp h
  refine xr_opI (pc' := 20) (lo' := [some (.ref v0), some (.int v1), some (.int v2), some (.int v3), some (.int v4), none]) (st' := [.int v4]) (o := ldF μ v0 9 39) rfl hx6 ?_
  refine xr_icmp (pct := 90) rfl rfl rfl (fun hc => ?_) (fun hc => ?_)
  · replace h := (if_pos (of_decide_eq_true hc)).symm.trans h
    refine xr_forget (lo := [none, none, none, some (.int v3), none, none]) ⟨rfl, trivial⟩ ?_
    obtain ⟨o, h2, rfl⟩ := Option.map_eq_some_iff.mp h
    exact fM_isShown_90_ok h2 hK
  · replace h := (if_neg (of_decide_eq_false hc)).symm.trans h
    refine xr_go 2 (pc' := 26) (lo' := [some (.ref v0), some (.int v1), some (.int v2), some (.int v3), some (.int v4), some (.int (xc 0))]) (st' := []) (μ' := μ) rfl ?_
    refine xr_forget (lo := [some (.ref v0), some (.int v1), some (.int v2), some (.int v3), some (.int v4), some (.int (xc 0))]) ⟨rfl, rfl, rfl, rfl, rfl, rfl, trivial⟩ ?_
    exact fM_isShown_L26_lp h hK
theorem fM_isShown_L14_lp {d : Nat} {v0 : Nat} {v1 : Int32} {v2 : Int32} {v3 : Int32} {v4 : Int32} {μ : xM} {rv : Option Value} {μf : xM} {out : Int32} (h : xwh (fun s : Int32 × Int32 => fM_isShown_L14 v0 v1 v2 s.1 s.2 μ) (v3, v4) = some out) (hK : fM_isShown_K μ rv μf out) : xRun (d + 1) 186 14 [some (.ref v0), some (.int v1), some (.int v2), some (.int v3), some (.int v4), none] [] μ rv μf :=
  xwh_ind (Rh := fun s : Int32 × Int32 => xRun (d + 1) 186 14 [some (.ref v0), some (.int v1), some (.int v2), some (.int s.1), some (.int s.2), none] [] μ rv μf) (Co := fM_isShown_K μ rv μf) (fun s o hb hk => fM_isShown_L14_ok hb hk) h hK
noncomputable def fM_isShown_10  (v0 : Nat) (v1 : Int32) (v2 : Int32) (s0 : Int32) (μ : xM) : Option (Int32) := xwh (fun s : Int32 × Int32 => fM_isShown_L14 v0 v1 v2 s.1 s.2 μ) (s0, xc 0)
theorem fM_isShown_10_ok {d : Nat} {v0 : Nat} {v1 : Int32} {v2 : Int32} {s0 : Int32} {μ : xM} {rv : Option Value} {μf : xM} {out : Int32} (h : fM_isShown_10 v0 v1 v2 s0 μ = some out) (hK : fM_isShown_K μ rv μf out) : xRun (d + 1) 186 10 [some (.ref v0), some (.int v1), some (.int v2), none, none, none] [.int s0] μ rv μf := by
  unfold fM_isShown_10 at h
  refine xr_go 3 (pc' := 14) (lo' := [some (.ref v0), some (.int v1), some (.int v2), some (.int s0), some (.int (xc 0)), none]) (st' := []) (μ' := μ) rfl ?_
  refine xr_forget (lo := [some (.ref v0), some (.int v1), some (.int v2), some (.int s0), some (.int (xc 0)), none]) ⟨rfl, rfl, rfl, rfl, rfl, trivial⟩ ?_
  exact fM_isShown_L14_lp h hK
noncomputable def fM_isShown_0  (v0 : Nat) (v1 : Int32) (v2 : Int32) (μ : xM) : Option (Int32) := if (xc 2) ≤ v2 then (fM_isShown_10 v0 v1 v2 (xc 0) μ) else (fM_isShown_10 v0 v1 v2 (xc 1) μ)
theorem fM_isShown_0_ok {d : Nat} {v0 : Nat} {v1 : Int32} {v2 : Int32} {μ : xM} {rv : Option Value} {μf : xM} {out : Int32} (h : fM_isShown_0 v0 v1 v2 μ = some out) (hK : fM_isShown_K μ rv μf out) : xRun (d + 1) 186 0 [some (.ref v0), some (.int v1), some (.int v2), none, none, none] [] μ rv μf := by
  unfold fM_isShown_0 at h
  refine xr_go 2 (pc' := 2) (lo' := [some (.ref v0), some (.int v1), some (.int v2), none, none, none]) (st' := [.int (xc 2), .int v2]) (μ' := μ) rfl ?_
  refine xr_icmp (pct := 9) rfl rfl rfl (fun hc => ?_) (fun hc => ?_)
  · replace h := (if_pos (of_decide_eq_true hc)).symm.trans h
    refine xr_go 1 (pc' := 10) (lo' := [some (.ref v0), some (.int v1), some (.int v2), none, none, none]) (st' := [.int (xc 0)]) (μ' := μ) rfl ?_
    refine xr_forget (lo := [some (.ref v0), some (.int v1), some (.int v2), none, none, none]) ⟨rfl, rfl, rfl, trivial⟩ ?_
    exact fM_isShown_10_ok h hK
  · replace h := (if_neg (of_decide_eq_false hc)).symm.trans h
    refine xr_go 2 (pc' := 10) (lo' := [some (.ref v0), some (.int v1), some (.int v2), none, none, none]) (st' := [.int (xc 1)]) (μ' := μ) rfl ?_
    refine xr_forget (lo := [some (.ref v0), some (.int v1), some (.int v2), none, none, none]) ⟨rfl, rfl, rfl, trivial⟩ ?_
    exact fM_isShown_10_ok h hK
noncomputable def fM_isShown (a0 : Nat) (a1 : Int32) (a2 : Int32) (μ : xM) : Option (Int32) := xgd μ a0 9 (fM_isShown_0 a0 a1 a2 μ)
theorem fM_isShown_kd {a0 : Nat} {a1 : Int32} {a2 : Int32} {μ : xM} {o : Int32} (h : fM_isShown a0 a1 a2 μ = some o) : (xK μ a0).1 = 10 + 9 := (xgd_some h).1
theorem fM_isShown_ok {d : Nat} {a0 : Nat} {a1 : Int32} {a2 : Int32} {μ : xM} {o : Int32} (h : fM_isShown a0 a1 a2 μ = some o) : xRun (d + 1) 186 0 [some (.ref a0), some (.int a1), some (.int a2), none, none, none] [] μ (some (.int o)) μ :=
  xr_forget (lo := [some (.ref a0), some (.int a1), some (.int a2), none, none, none]) (⟨rfl, rfl, rfl, trivial⟩) (fM_isShown_0_ok (d := d) (xgd_some h).2 (show fM_isShown_K μ _ _ o from ⟨rfl, rfl⟩))
-- KeptAnswersModel.open(II)V 
def fM_open_K (rv : Option Value) (μf : xM) : (xM) → Prop := fun o => rv = none ∧ μf = o
def fM_open_K96 (v0 : Nat) (v3 : Int32) (d : Nat) (rv : Option Value) (μf : xM) : ((Int32 × xM) ⊕ (xM)) → Prop := Sum.elim (fun s : Int32 × xM => xRun (d + 1) 185 96 [some (.ref v0), none, none, some (.int v3), some (.int s.1)] [] s.2 rv μf) (fM_open_K rv μf)
def fM_open_K51 (v0 : Nat) (v1 : Int32) (v3 : Int32) (d : Nat) (rv : Option Value) (μf : xM) : ((Int32 × xM) ⊕ (xM)) → Prop := Sum.elim (fun s : Int32 × xM => xRun (d + 1) 185 51 [some (.ref v0), some (.int v1), none, some (.int v3), some (.int s.1)] [] s.2 rv μf) (fM_open_K rv μf)
def fM_open_K13 (v0 : Nat) (v1 : Int32) (v2 : Int32) (v3 : Int32) (d : Nat) (rv : Option Value) (μf : xM) : ((Int32 × xM) ⊕ (xM)) → Prop := Sum.elim (fun s : Int32 × xM => xRun (d + 1) 185 13 [some (.ref v0), some (.int v1), some (.int v2), some (.int v3), some (.int s.1)] [] s.2 rv μf) (fM_open_K rv μf)
noncomputable def fM_open_L96  (v0 : Nat) (v3 : Int32) (v4 : Int32) (μ : xM) : Option ((Int32 × xM) ⊕ (xM)) := (ldFR μ v0 9 10).bind fun x1 => (ldA μ x1 v3).bind fun x2 => if (((xc 4) * v3) + x2) ≤ v4 then (some (.inr μ)) else ((ldFR μ v0 9 30).bind fun x3 => (ldF μ v0 9 29).bind fun x4 => (ldFR μ v0 9 11).bind fun x5 => (ldA μ x5 v4).bind fun x6 => (stA μ x3 x4 x6).bind fun μ7 => (ldFR μ7 v0 9 31).bind fun x8 => (ldF μ7 v0 9 29).bind fun x9 => (ldFR μ7 v0 9 51).bind fun x10 => (ldFR μ7 v0 9 12).bind fun x11 => (ldA μ7 x11 v4).bind fun x12 => (ldA μ7 x10 x12).bind fun x13 => (stA μ7 x8 x9 x13).bind fun μ14 => (ldFR μ14 v0 9 32).bind fun x15 => (ldF μ14 v0 9 29).bind fun x16 => (ldFR μ14 v0 9 51).bind fun x17 => (ldFR μ14 v0 9 13).bind fun x18 => (ldA μ14 x18 v4).bind fun x19 => (ldA μ14 x17 x19).bind fun x20 => (stA μ14 x15 x16 x20).bind fun μ21 => (ldF μ21 v0 9 29).bind fun x22 => (stF μ21 v0 9 29 (x22 + (xc 1))).bind fun μ23 => some (.inl ((v4 + xc 1, μ23))))
theorem fM_open_L96_ok {d : Nat} {v0 : Nat} {v3 : Int32} {v4 : Int32} {μ : xM} {rv : Option Value} {μf : xM} {out : (Int32 × xM) ⊕ (xM)} (h : fM_open_L96 v0 v3 v4 μ = some out) (hK : fM_open_K96 v0 v3 d rv μf out) : xRun (d + 1) 185 96 [some (.ref v0), none, none, some (.int v3), some (.int v4)] [] μ rv μf := by
  unfold fM_open_L96 at h
  refine xr_go 5 (pc' := 102) (lo' := [some (.ref v0), none, none, some (.int v3), some (.int v4)]) (st' := [.ref v0, .int ((xc 4) * v3), .int v4]) (μ' := μ) rfl ?_
  obtain ⟨x1, hx1, h⟩ := Option.bind_eq_some_iff.mp h
  refine xr_opA (pc' := 105) (lo' := [some (.ref v0), none, none, some (.int v3), some (.int v4)]) (st' := [.int ((xc 4) * v3), .int v4]) (o := ldFR μ v0 9 10) rfl hx1 ?_
  refine xr_go 1 (pc' := 106) (lo' := [some (.ref v0), none, none, some (.int v3), some (.int v4)]) (st' := [.int v3, .ref x1, .int ((xc 4) * v3), .int v4]) (μ' := μ) rfl ?_
  obtain ⟨x2, hx2, h⟩ := Option.bind_eq_some_iff.mp h
  refine xr_opI (pc' := 107) (lo' := [some (.ref v0), none, none, some (.int v3), some (.int v4)]) (st' := [.int ((xc 4) * v3), .int v4]) (o := ldA μ x1 v3) rfl hx2 ?_
  refine xr_go 1 (pc' := 108) (lo' := [some (.ref v0), none, none, some (.int v3), some (.int v4)]) (st' := [.int (((xc 4) * v3) + x2), .int v4]) (μ' := μ) rfl ?_
  refine xr_icmp (pct := 185) rfl rfl rfl (fun hc => ?_) (fun hc => ?_)
  · replace h := (if_pos (of_decide_eq_true hc)).symm.trans h
    have ho := Option.some.inj h
    subst ho
    obtain ⟨rfl, rfl⟩ := hK
    exact xr_ret (rv := none) rfl rfl (rfl)
  · replace h := (if_neg (of_decide_eq_false hc)).symm.trans h
    refine xr_go 1 (pc' := 112) (lo' := [some (.ref v0), none, none, some (.int v3), some (.int v4)]) (st' := [.ref v0]) (μ' := μ) rfl ?_
    obtain ⟨x3, hx3, h⟩ := Option.bind_eq_some_iff.mp h
    refine xr_opA (pc' := 115) (lo' := [some (.ref v0), none, none, some (.int v3), some (.int v4)]) (st' := []) (o := ldFR μ v0 9 30) rfl hx3 ?_
    refine xr_go 1 (pc' := 116) (lo' := [some (.ref v0), none, none, some (.int v3), some (.int v4)]) (st' := [.ref v0, .ref x3]) (μ' := μ) rfl ?_
    obtain ⟨x4, hx4, h⟩ := Option.bind_eq_some_iff.mp h
    refine xr_opI (pc' := 119) (lo' := [some (.ref v0), none, none, some (.int v3), some (.int v4)]) (st' := [.ref x3]) (o := ldF μ v0 9 29) rfl hx4 ?_
    refine xr_go 1 (pc' := 120) (lo' := [some (.ref v0), none, none, some (.int v3), some (.int v4)]) (st' := [.ref v0, .int x4, .ref x3]) (μ' := μ) rfl ?_
    obtain ⟨x5, hx5, h⟩ := Option.bind_eq_some_iff.mp h
    refine xr_opA (pc' := 123) (lo' := [some (.ref v0), none, none, some (.int v3), some (.int v4)]) (st' := [.int x4, .ref x3]) (o := ldFR μ v0 9 11) rfl hx5 ?_
    refine xr_go 1 (pc' := 125) (lo' := [some (.ref v0), none, none, some (.int v3), some (.int v4)]) (st' := [.int v4, .ref x5, .int x4, .ref x3]) (μ' := μ) rfl ?_
    obtain ⟨x6, hx6, h⟩ := Option.bind_eq_some_iff.mp h
    refine xr_opI (pc' := 126) (lo' := [some (.ref v0), none, none, some (.int v3), some (.int v4)]) (st' := [.int x4, .ref x3]) (o := ldA μ x5 v4) rfl hx6 ?_
    obtain ⟨μ7, hμ7, h⟩ := Option.bind_eq_some_iff.mp h
    refine xr_opM (pc' := 127) (lo' := [some (.ref v0), none, none, some (.int v3), some (.int v4)]) (st' := []) (o := stA μ x3 x4 x6) rfl hμ7 ?_
    refine xr_go 1 (pc' := 128) (lo' := [some (.ref v0), none, none, some (.int v3), some (.int v4)]) (st' := [.ref v0]) (μ' := μ7) rfl ?_
    obtain ⟨x8, hx8, h⟩ := Option.bind_eq_some_iff.mp h
    refine xr_opA (pc' := 131) (lo' := [some (.ref v0), none, none, some (.int v3), some (.int v4)]) (st' := []) (o := ldFR μ7 v0 9 31) rfl hx8 ?_
    refine xr_go 1 (pc' := 132) (lo' := [some (.ref v0), none, none, some (.int v3), some (.int v4)]) (st' := [.ref v0, .ref x8]) (μ' := μ7) rfl ?_
    obtain ⟨x9, hx9, h⟩ := Option.bind_eq_some_iff.mp h
    refine xr_opI (pc' := 135) (lo' := [some (.ref v0), none, none, some (.int v3), some (.int v4)]) (st' := [.ref x8]) (o := ldF μ7 v0 9 29) rfl hx9 ?_
    refine xr_go 1 (pc' := 136) (lo' := [some (.ref v0), none, none, some (.int v3), some (.int v4)]) (st' := [.ref v0, .int x9, .ref x8]) (μ' := μ7) rfl ?_
    obtain ⟨x10, hx10, h⟩ := Option.bind_eq_some_iff.mp h
    refine xr_opA (pc' := 139) (lo' := [some (.ref v0), none, none, some (.int v3), some (.int v4)]) (st' := [.int x9, .ref x8]) (o := ldFR μ7 v0 9 51) rfl hx10 ?_
    refine xr_go 1 (pc' := 140) (lo' := [some (.ref v0), none, none, some (.int v3), some (.int v4)]) (st' := [.ref v0, .ref x10, .int x9, .ref x8]) (μ' := μ7) rfl ?_
    obtain ⟨x11, hx11, h⟩ := Option.bind_eq_some_iff.mp h
    refine xr_opA (pc' := 143) (lo' := [some (.ref v0), none, none, some (.int v3), some (.int v4)]) (st' := [.ref x10, .int x9, .ref x8]) (o := ldFR μ7 v0 9 12) rfl hx11 ?_
    refine xr_go 1 (pc' := 145) (lo' := [some (.ref v0), none, none, some (.int v3), some (.int v4)]) (st' := [.int v4, .ref x11, .ref x10, .int x9, .ref x8]) (μ' := μ7) rfl ?_
    obtain ⟨x12, hx12, h⟩ := Option.bind_eq_some_iff.mp h
    refine xr_opI (pc' := 146) (lo' := [some (.ref v0), none, none, some (.int v3), some (.int v4)]) (st' := [.ref x10, .int x9, .ref x8]) (o := ldA μ7 x11 v4) rfl hx12 ?_
    obtain ⟨x13, hx13, h⟩ := Option.bind_eq_some_iff.mp h
    refine xr_opI (pc' := 147) (lo' := [some (.ref v0), none, none, some (.int v3), some (.int v4)]) (st' := [.int x9, .ref x8]) (o := ldA μ7 x10 x12) rfl hx13 ?_
    obtain ⟨μ14, hμ14, h⟩ := Option.bind_eq_some_iff.mp h
    refine xr_opM (pc' := 148) (lo' := [some (.ref v0), none, none, some (.int v3), some (.int v4)]) (st' := []) (o := stA μ7 x8 x9 x13) rfl hμ14 ?_
    refine xr_go 1 (pc' := 149) (lo' := [some (.ref v0), none, none, some (.int v3), some (.int v4)]) (st' := [.ref v0]) (μ' := μ14) rfl ?_
    obtain ⟨x15, hx15, h⟩ := Option.bind_eq_some_iff.mp h
    refine xr_opA (pc' := 152) (lo' := [some (.ref v0), none, none, some (.int v3), some (.int v4)]) (st' := []) (o := ldFR μ14 v0 9 32) rfl hx15 ?_
    refine xr_go 1 (pc' := 153) (lo' := [some (.ref v0), none, none, some (.int v3), some (.int v4)]) (st' := [.ref v0, .ref x15]) (μ' := μ14) rfl ?_
    obtain ⟨x16, hx16, h⟩ := Option.bind_eq_some_iff.mp h
    refine xr_opI (pc' := 156) (lo' := [some (.ref v0), none, none, some (.int v3), some (.int v4)]) (st' := [.ref x15]) (o := ldF μ14 v0 9 29) rfl hx16 ?_
    refine xr_go 1 (pc' := 157) (lo' := [some (.ref v0), none, none, some (.int v3), some (.int v4)]) (st' := [.ref v0, .int x16, .ref x15]) (μ' := μ14) rfl ?_
    obtain ⟨x17, hx17, h⟩ := Option.bind_eq_some_iff.mp h
    refine xr_opA (pc' := 160) (lo' := [some (.ref v0), none, none, some (.int v3), some (.int v4)]) (st' := [.int x16, .ref x15]) (o := ldFR μ14 v0 9 51) rfl hx17 ?_
    refine xr_go 1 (pc' := 161) (lo' := [some (.ref v0), none, none, some (.int v3), some (.int v4)]) (st' := [.ref v0, .ref x17, .int x16, .ref x15]) (μ' := μ14) rfl ?_
    obtain ⟨x18, hx18, h⟩ := Option.bind_eq_some_iff.mp h
    refine xr_opA (pc' := 164) (lo' := [some (.ref v0), none, none, some (.int v3), some (.int v4)]) (st' := [.ref x17, .int x16, .ref x15]) (o := ldFR μ14 v0 9 13) rfl hx18 ?_
    refine xr_go 1 (pc' := 166) (lo' := [some (.ref v0), none, none, some (.int v3), some (.int v4)]) (st' := [.int v4, .ref x18, .ref x17, .int x16, .ref x15]) (μ' := μ14) rfl ?_
    obtain ⟨x19, hx19, h⟩ := Option.bind_eq_some_iff.mp h
    refine xr_opI (pc' := 167) (lo' := [some (.ref v0), none, none, some (.int v3), some (.int v4)]) (st' := [.ref x17, .int x16, .ref x15]) (o := ldA μ14 x18 v4) rfl hx19 ?_
    obtain ⟨x20, hx20, h⟩ := Option.bind_eq_some_iff.mp h
    refine xr_opI (pc' := 168) (lo' := [some (.ref v0), none, none, some (.int v3), some (.int v4)]) (st' := [.int x16, .ref x15]) (o := ldA μ14 x17 x19) rfl hx20 ?_
    obtain ⟨μ21, hμ21, h⟩ := Option.bind_eq_some_iff.mp h
    refine xr_opM (pc' := 169) (lo' := [some (.ref v0), none, none, some (.int v3), some (.int v4)]) (st' := []) (o := stA μ14 x15 x16 x20) rfl hμ21 ?_
    refine xr_go 2 (pc' := 171) (lo' := [some (.ref v0), none, none, some (.int v3), some (.int v4)]) (st' := [.ref v0, .ref v0]) (μ' := μ21) rfl ?_
    obtain ⟨x22, hx22, h⟩ := Option.bind_eq_some_iff.mp h
    refine xr_opI (pc' := 174) (lo' := [some (.ref v0), none, none, some (.int v3), some (.int v4)]) (st' := [.ref v0]) (o := ldF μ21 v0 9 29) rfl hx22 ?_
    refine xr_go 2 (pc' := 176) (lo' := [some (.ref v0), none, none, some (.int v3), some (.int v4)]) (st' := [.int (x22 + (xc 1)), .ref v0]) (μ' := μ21) rfl ?_
    obtain ⟨μ23, hμ23, h⟩ := Option.bind_eq_some_iff.mp h
    refine xr_opM (pc' := 179) (lo' := [some (.ref v0), none, none, some (.int v3), some (.int v4)]) (st' := []) (o := stF μ21 v0 9 29 (x22 + (xc 1))) rfl hμ23 ?_
    refine xr_go 2 (pc' := 96) (lo' := [some (.ref v0), none, none, some (.int v3), some (.int (v4 + xc 1))]) (st' := []) (μ' := μ23) rfl ?_
    refine xr_forget (lo := [some (.ref v0), none, none, some (.int v3), some (.int (v4 + xc 1))]) ⟨rfl, rfl, rfl, trivial⟩ ?_
    have ho := Option.some.inj h
    subst ho
    exact hK
theorem fM_open_L96_lp {d : Nat} {v0 : Nat} {v3 : Int32} {v4 : Int32} {μ : xM} {rv : Option Value} {μf : xM} {out : xM} (h : xwh (fun s : Int32 × xM => fM_open_L96 v0 v3 s.1 s.2) (v4, μ) = some out) (hK : fM_open_K rv μf out) : xRun (d + 1) 185 96 [some (.ref v0), none, none, some (.int v3), some (.int v4)] [] μ rv μf :=
  xwh_ind (Rh := fun s : Int32 × xM => xRun (d + 1) 185 96 [some (.ref v0), none, none, some (.int v3), some (.int s.1)] [] s.2 rv μf) (Co := fM_open_K rv μf) (fun s o hb hk => fM_open_L96_ok hb hk) h hK
noncomputable def fM_open_91  (v0 : Nat) (v3 : Int32) (μ : xM) : Option (xM) := xwh (fun s : Int32 × xM => fM_open_L96 v0 v3 s.1 s.2) ((xc 4) * v3, μ)
theorem fM_open_91_ok {d : Nat} {v0 : Nat} {v3 : Int32} {μ : xM} {rv : Option Value} {μf : xM} {out : xM} (h : fM_open_91 v0 v3 μ = some out) (hK : fM_open_K rv μf out) : xRun (d + 1) 185 91 [some (.ref v0), none, none, some (.int v3), none] [] μ rv μf := by
  unfold fM_open_91 at h
  refine xr_go 4 (pc' := 96) (lo' := [some (.ref v0), none, none, some (.int v3), some (.int ((xc 4) * v3))]) (st' := []) (μ' := μ) rfl ?_
  refine xr_forget (lo := [some (.ref v0), none, none, some (.int v3), some (.int ((xc 4) * v3))]) ⟨rfl, rfl, rfl, trivial⟩ ?_
  exact fM_open_L96_lp h hK
noncomputable def fM_open_L51  (v0 : Nat) (v1 : Int32) (v3 : Int32) (v4 : Int32) (μ : xM) : Option ((Int32 × xM) ⊕ (xM)) := (ldFR μ v0 9 14).bind fun x24 => (ldA μ x24 v3).bind fun x25 => if x25 ≤ v4 then ((fM_open_91 v0 v3 μ).map (fun o => .inr o)) else ((ldFR μ v0 9 51).bind fun x26 => (ldFR μ v0 9 15).bind fun x27 => (ldA μ x27 (((xc 3) * v3) + v4)).bind fun x28 => (fM_termOf v0 v1 v4 μ).bind fun r29 => (stA μ x26 x28 r29).bind fun μ30 => some (.inl ((v4 + xc 1, μ30))))
theorem fM_open_L51_ok {d : Nat} {v0 : Nat} {v1 : Int32} {v3 : Int32} {v4 : Int32} {μ : xM} {rv : Option Value} {μf : xM} {out : (Int32 × xM) ⊕ (xM)} (h : fM_open_L51 v0 v1 v3 v4 μ = some out) (hK : fM_open_K51 v0 v1 v3 d rv μf out) : xRun (d + 1) 185 51 [some (.ref v0), some (.int v1), none, some (.int v3), some (.int v4)] [] μ rv μf := by
  unfold fM_open_L51 at h
  refine xr_go 2 (pc' := 54) (lo' := [some (.ref v0), some (.int v1), none, some (.int v3), some (.int v4)]) (st' := [.ref v0, .int v4]) (μ' := μ) rfl ?_
  obtain ⟨x24, hx24, h⟩ := Option.bind_eq_some_iff.mp h
  refine xr_opA (pc' := 57) (lo' := [some (.ref v0), some (.int v1), none, some (.int v3), some (.int v4)]) (st' := [.int v4]) (o := ldFR μ v0 9 14) rfl hx24 ?_
  refine xr_go 1 (pc' := 58) (lo' := [some (.ref v0), some (.int v1), none, some (.int v3), some (.int v4)]) (st' := [.int v3, .ref x24, .int v4]) (μ' := μ) rfl ?_
  obtain ⟨x25, hx25, h⟩ := Option.bind_eq_some_iff.mp h
  refine xr_opI (pc' := 59) (lo' := [some (.ref v0), some (.int v1), none, some (.int v3), some (.int v4)]) (st' := [.int v4]) (o := ldA μ x24 v3) rfl hx25 ?_
  refine xr_icmp (pct := 91) rfl rfl rfl (fun hc => ?_) (fun hc => ?_)
  · replace h := (if_pos (of_decide_eq_true hc)).symm.trans h
    refine xr_forget (lo := [some (.ref v0), none, none, some (.int v3), none]) ⟨rfl, rfl, trivial⟩ ?_
    obtain ⟨o, h2, rfl⟩ := Option.map_eq_some_iff.mp h
    exact fM_open_91_ok h2 hK
  · replace h := (if_neg (of_decide_eq_false hc)).symm.trans h
    refine xr_go 1 (pc' := 63) (lo' := [some (.ref v0), some (.int v1), none, some (.int v3), some (.int v4)]) (st' := [.ref v0]) (μ' := μ) rfl ?_
    obtain ⟨x26, hx26, h⟩ := Option.bind_eq_some_iff.mp h
    refine xr_opA (pc' := 66) (lo' := [some (.ref v0), some (.int v1), none, some (.int v3), some (.int v4)]) (st' := []) (o := ldFR μ v0 9 51) rfl hx26 ?_
    refine xr_go 1 (pc' := 67) (lo' := [some (.ref v0), some (.int v1), none, some (.int v3), some (.int v4)]) (st' := [.ref v0, .ref x26]) (μ' := μ) rfl ?_
    obtain ⟨x27, hx27, h⟩ := Option.bind_eq_some_iff.mp h
    refine xr_opA (pc' := 70) (lo' := [some (.ref v0), some (.int v1), none, some (.int v3), some (.int v4)]) (st' := [.ref x26]) (o := ldFR μ v0 9 15) rfl hx27 ?_
    refine xr_go 5 (pc' := 76) (lo' := [some (.ref v0), some (.int v1), none, some (.int v3), some (.int v4)]) (st' := [.int (((xc 3) * v3) + v4), .ref x27, .ref x26]) (μ' := μ) rfl ?_
    obtain ⟨x28, hx28, h⟩ := Option.bind_eq_some_iff.mp h
    refine xr_opI (pc' := 77) (lo' := [some (.ref v0), some (.int v1), none, some (.int v3), some (.int v4)]) (st' := [.ref x26]) (o := ldA μ x27 (((xc 3) * v3) + v4)) rfl hx28 ?_
    refine xr_go 3 (pc' := 81) (lo' := [some (.ref v0), some (.int v1), none, some (.int v3), some (.int v4)]) (st' := [.int v4, .int v1, .ref v0, .int x28, .ref x26]) (μ' := μ) rfl ?_
    obtain ⟨r29, hr29, h⟩ := Option.bind_eq_some_iff.mp h
    refine xr_callV (j := 181) (d' := (d + 0)) (rv1 := some (.int r29)) (μ1 := μ) (rest := [.int x28, .ref x26]) (As := [.int v1, .int v4]) rfl rfl rfl rfl (Nat.le_of_ble_eq_true rfl) (fM_termOf_kd hr29) rfl (by exact (fM_termOf_ok (d := d + (0)) hr29)) ?_
    obtain ⟨μ30, hμ30, h⟩ := Option.bind_eq_some_iff.mp h
    refine xr_opM (pc' := 85) (lo' := [some (.ref v0), some (.int v1), none, some (.int v3), some (.int v4)]) (st' := []) (o := stA μ x26 x28 r29) rfl hμ30 ?_
    refine xr_go 2 (pc' := 51) (lo' := [some (.ref v0), some (.int v1), none, some (.int v3), some (.int (v4 + xc 1))]) (st' := []) (μ' := μ30) rfl ?_
    refine xr_forget (lo := [some (.ref v0), some (.int v1), none, some (.int v3), some (.int (v4 + xc 1))]) ⟨rfl, rfl, rfl, rfl, trivial⟩ ?_
    have ho := Option.some.inj h
    subst ho
    exact hK
theorem fM_open_L51_lp {d : Nat} {v0 : Nat} {v1 : Int32} {v3 : Int32} {v4 : Int32} {μ : xM} {rv : Option Value} {μf : xM} {out : xM} (h : xwh (fun s : Int32 × xM => fM_open_L51 v0 v1 v3 s.1 s.2) (v4, μ) = some out) (hK : fM_open_K rv μf out) : xRun (d + 1) 185 51 [some (.ref v0), some (.int v1), none, some (.int v3), some (.int v4)] [] μ rv μf :=
  xwh_ind (Rh := fun s : Int32 × xM => xRun (d + 1) 185 51 [some (.ref v0), some (.int v1), none, some (.int v3), some (.int s.1)] [] s.2 rv μf) (Co := fM_open_K rv μf) (fun s o hb hk => fM_open_L51_ok hb hk) h hK
noncomputable def fM_open_48  (v0 : Nat) (v1 : Int32) (v3 : Int32) (μ : xM) : Option (xM) := xwh (fun s : Int32 × xM => fM_open_L51 v0 v1 v3 s.1 s.2) (xc 0, μ)
theorem fM_open_48_ok {d : Nat} {v0 : Nat} {v1 : Int32} {v3 : Int32} {μ : xM} {rv : Option Value} {μf : xM} {out : xM} (h : fM_open_48 v0 v1 v3 μ = some out) (hK : fM_open_K rv μf out) : xRun (d + 1) 185 48 [some (.ref v0), some (.int v1), none, some (.int v3), none] [] μ rv μf := by
  unfold fM_open_48 at h
  refine xr_go 2 (pc' := 51) (lo' := [some (.ref v0), some (.int v1), none, some (.int v3), some (.int (xc 0))]) (st' := []) (μ' := μ) rfl ?_
  refine xr_forget (lo := [some (.ref v0), some (.int v1), none, some (.int v3), some (.int (xc 0))]) ⟨rfl, rfl, rfl, rfl, trivial⟩ ?_
  exact fM_open_L51_lp h hK
noncomputable def fM_open_41  (v0 : Nat) (v1 : Int32) (v2 : Int32) (v3 : Int32) (v4 : Int32) (s0 : Int32) (s1 : Int32) (s2 : Nat) (μ : xM) : Option ((Int32 × xM) ⊕ (xM)) := (stA μ s2 s1 s0).bind fun μ31 => some (.inl ((v4 + xc 1, μ31)))
theorem fM_open_41_ok {d : Nat} {v0 : Nat} {v1 : Int32} {v2 : Int32} {v3 : Int32} {v4 : Int32} {s0 : Int32} {s1 : Int32} {s2 : Nat} {μ : xM} {rv : Option Value} {μf : xM} {out : (Int32 × xM) ⊕ (xM)} (h : fM_open_41 v0 v1 v2 v3 v4 s0 s1 s2 μ = some out) (hK : fM_open_K13 v0 v1 v2 v3 d rv μf out) : xRun (d + 1) 185 41 [some (.ref v0), some (.int v1), some (.int v2), some (.int v3), some (.int v4)] [.int s0, .int s1, .ref s2] μ rv μf := by
  unfold fM_open_41 at h
  obtain ⟨μ31, hμ31, h⟩ := Option.bind_eq_some_iff.mp h
  refine xr_opM (pc' := 42) (lo' := [some (.ref v0), some (.int v1), some (.int v2), some (.int v3), some (.int v4)]) (st' := []) (o := stA μ s2 s1 s0) rfl hμ31 ?_
  refine xr_go 2 (pc' := 13) (lo' := [some (.ref v0), some (.int v1), some (.int v2), some (.int v3), some (.int (v4 + xc 1))]) (st' := []) (μ' := μ31) rfl ?_
  refine xr_forget (lo := [some (.ref v0), some (.int v1), some (.int v2), some (.int v3), some (.int (v4 + xc 1))]) ⟨rfl, rfl, rfl, rfl, rfl, trivial⟩ ?_
  have ho := Option.some.inj h
  subst ho
  exact hK
noncomputable def fM_open_L13  (v0 : Nat) (v1 : Int32) (v2 : Int32) (v3 : Int32) (v4 : Int32) (μ : xM) : Option ((Int32 × xM) ⊕ (xM)) := if (xc 7) ≤ v4 then ((fM_open_48 v0 v1 v3 μ).map (fun o => .inr o)) else ((ldFR μ v0 9 51).bind fun x32 => if (xc 2) ≤ v4 then (fM_open_41 v0 v1 v2 v3 v4 (v2 + v4) v4 x32 μ) else (fM_open_41 v0 v1 v2 v3 v4 v4 v4 x32 μ))
theorem fM_open_L13_ok {d : Nat} {v0 : Nat} {v1 : Int32} {v2 : Int32} {v3 : Int32} {v4 : Int32} {μ : xM} {rv : Option Value} {μf : xM} {out : (Int32 × xM) ⊕ (xM)} (h : fM_open_L13 v0 v1 v2 v3 v4 μ = some out) (hK : fM_open_K13 v0 v1 v2 v3 d rv μf out) : xRun (d + 1) 185 13 [some (.ref v0), some (.int v1), some (.int v2), some (.int v3), some (.int v4)] [] μ rv μf := by
  unfold fM_open_L13 at h
  refine xr_go 2 (pc' := 17) (lo' := [some (.ref v0), some (.int v1), some (.int v2), some (.int v3), some (.int v4)]) (st' := [.int (xc 7), .int v4]) (μ' := μ) rfl ?_
  refine xr_icmp (pct := 48) rfl rfl rfl (fun hc => ?_) (fun hc => ?_)
  · replace h := (if_pos (of_decide_eq_true hc)).symm.trans h
    refine xr_forget (lo := [some (.ref v0), some (.int v1), none, some (.int v3), none]) ⟨rfl, rfl, rfl, trivial⟩ ?_
    obtain ⟨o, h2, rfl⟩ := Option.map_eq_some_iff.mp h
    exact fM_open_48_ok h2 hK
  · replace h := (if_neg (of_decide_eq_false hc)).symm.trans h
    refine xr_go 1 (pc' := 21) (lo' := [some (.ref v0), some (.int v1), some (.int v2), some (.int v3), some (.int v4)]) (st' := [.ref v0]) (μ' := μ) rfl ?_
    obtain ⟨x32, hx32, h⟩ := Option.bind_eq_some_iff.mp h
    refine xr_opA (pc' := 24) (lo' := [some (.ref v0), some (.int v1), some (.int v2), some (.int v3), some (.int v4)]) (st' := []) (o := ldFR μ v0 9 51) rfl hx32 ?_
    refine xr_go 3 (pc' := 29) (lo' := [some (.ref v0), some (.int v1), some (.int v2), some (.int v3), some (.int v4)]) (st' := [.int (xc 2), .int v4, .int v4, .ref x32]) (μ' := μ) rfl ?_
    refine xr_icmp (pct := 37) rfl rfl rfl (fun hc => ?_) (fun hc => ?_)
    · replace h := (if_pos (of_decide_eq_true hc)).symm.trans h
      refine xr_go 3 (pc' := 41) (lo' := [some (.ref v0), some (.int v1), some (.int v2), some (.int v3), some (.int v4)]) (st' := [.int (v2 + v4), .int v4, .ref x32]) (μ' := μ) rfl ?_
      refine xr_forget (lo := [some (.ref v0), some (.int v1), some (.int v2), some (.int v3), some (.int v4)]) ⟨rfl, rfl, rfl, rfl, rfl, trivial⟩ ?_
      exact fM_open_41_ok h hK
    · replace h := (if_neg (of_decide_eq_false hc)).symm.trans h
      refine xr_go 2 (pc' := 41) (lo' := [some (.ref v0), some (.int v1), some (.int v2), some (.int v3), some (.int v4)]) (st' := [.int v4, .int v4, .ref x32]) (μ' := μ) rfl ?_
      refine xr_forget (lo := [some (.ref v0), some (.int v1), some (.int v2), some (.int v3), some (.int v4)]) ⟨rfl, rfl, rfl, rfl, rfl, trivial⟩ ?_
      exact fM_open_41_ok h hK
theorem fM_open_L13_lp {d : Nat} {v0 : Nat} {v1 : Int32} {v2 : Int32} {v3 : Int32} {v4 : Int32} {μ : xM} {rv : Option Value} {μf : xM} {out : xM} (h : xwh (fun s : Int32 × xM => fM_open_L13 v0 v1 v2 v3 s.1 s.2) (v4, μ) = some out) (hK : fM_open_K rv μf out) : xRun (d + 1) 185 13 [some (.ref v0), some (.int v1), some (.int v2), some (.int v3), some (.int v4)] [] μ rv μf :=
  xwh_ind (Rh := fun s : Int32 × xM => xRun (d + 1) 185 13 [some (.ref v0), some (.int v1), some (.int v2), some (.int v3), some (.int s.1)] [] s.2 rv μf) (Co := fM_open_K rv μf) (fun s o hb hk => fM_open_L13_ok hb hk) h hK
noncomputable def fM_open_0  (v0 : Nat) (v1 : Int32) (v2 : Int32) (μ : xM) : Option (xM) := (ldFR μ v0 9 41).bind fun x33 => (ldA μ x33 v1).bind fun x34 => xwh (fun s : Int32 × xM => fM_open_L13 v0 v1 v2 ((xc 10) + x34) s.1 s.2) (xc 0, μ)
theorem fM_open_0_ok {d : Nat} {v0 : Nat} {v1 : Int32} {v2 : Int32} {μ : xM} {rv : Option Value} {μf : xM} {out : xM} (h : fM_open_0 v0 v1 v2 μ = some out) (hK : fM_open_K rv μf out) : xRun (d + 1) 185 0 [some (.ref v0), some (.int v1), some (.int v2), none, none] [] μ rv μf := by
  unfold fM_open_0 at h
  refine xr_go 2 (pc' := 3) (lo' := [some (.ref v0), some (.int v1), some (.int v2), none, none]) (st' := [.ref v0, .int (xc 10)]) (μ' := μ) rfl ?_
  obtain ⟨x33, hx33, h⟩ := Option.bind_eq_some_iff.mp h
  refine xr_opA (pc' := 6) (lo' := [some (.ref v0), some (.int v1), some (.int v2), none, none]) (st' := [.int (xc 10)]) (o := ldFR μ v0 9 41) rfl hx33 ?_
  refine xr_go 1 (pc' := 7) (lo' := [some (.ref v0), some (.int v1), some (.int v2), none, none]) (st' := [.int v1, .ref x33, .int (xc 10)]) (μ' := μ) rfl ?_
  obtain ⟨x34, hx34, h⟩ := Option.bind_eq_some_iff.mp h
  refine xr_opI (pc' := 8) (lo' := [some (.ref v0), some (.int v1), some (.int v2), none, none]) (st' := [.int (xc 10)]) (o := ldA μ x33 v1) rfl hx34 ?_
  refine xr_go 4 (pc' := 13) (lo' := [some (.ref v0), some (.int v1), some (.int v2), some (.int ((xc 10) + x34)), some (.int (xc 0))]) (st' := []) (μ' := μ) rfl ?_
  refine xr_forget (lo := [some (.ref v0), some (.int v1), some (.int v2), some (.int ((xc 10) + x34)), some (.int (xc 0))]) ⟨rfl, rfl, rfl, rfl, rfl, trivial⟩ ?_
  exact fM_open_L13_lp h hK
noncomputable def fM_open (a0 : Nat) (a1 : Int32) (a2 : Int32) (μ : xM) : Option (xM) := xgd μ a0 9 (fM_open_0 a0 a1 a2 μ)
theorem fM_open_kd {a0 : Nat} {a1 : Int32} {a2 : Int32} {μ : xM} {o : xM} (h : fM_open a0 a1 a2 μ = some o) : (xK μ a0).1 = 10 + 9 := (xgd_some h).1
theorem fM_open_ok {d : Nat} {a0 : Nat} {a1 : Int32} {a2 : Int32} {μ : xM} {o : xM} (h : fM_open a0 a1 a2 μ = some o) : xRun (d + 1) 185 0 [some (.ref a0), some (.int a1), some (.int a2), none, none] [] μ none o :=
  xr_forget (lo := [some (.ref a0), some (.int a1), some (.int a2), none, none]) (⟨rfl, rfl, rfl, trivial⟩) (fM_open_0_ok (d := d) (xgd_some h).2 (show fM_open_K _ _ o from ⟨rfl, rfl⟩))
-- KeptAnswersModel.isCover(II)Z 
def fM_isCover_K (rv : Option Value) (μf : xM) : (Int32 × xM) → Prop := fun o => rv = some (.int o.1) ∧ μf = o.2
def fM_isCover_K107 (v0 : Nat) (v1 : Int32) (v2 : Int32) (d : Nat) (rv : Option Value) (μf : xM) : ((Int32 × Int32 × xM) ⊕ (Int32 × xM)) → Prop := Sum.elim (fun s : Int32 × Int32 × xM => xRun (d + 3) 187 107 [some (.ref v0), some (.int v1), some (.int v2), some (.int s.1), some (.int s.2.1)] [] s.2.2 rv μf) (fM_isCover_K rv μf)
def fM_isCover_K30 (v0 : Nat) (v1 : Int32) (v2 : Int32) (μ : xM) (d : Nat) (rv : Option Value) (μf : xM) : ((Int32) ⊕ (Int32 × xM)) → Prop := Sum.elim (fun s : Int32 => xRun (d + 3) 187 30 [some (.ref v0), some (.int v1), some (.int v2), some (.int s), none] [] μ rv μf) (fM_isCover_K rv μf)
def fM_isCover_K75 (v0 : Nat) (v1 : Int32) (v2 : Int32) (d : Nat) (rv : Option Value) (μf : xM) : ((Int32 × xM) ⊕ (Int32 × xM)) → Prop := Sum.elim (fun s : Int32 × xM => xRun (d + 3) 187 75 [some (.ref v0), some (.int v1), some (.int v2), some (.int s.1), none] [] s.2 rv μf) (fM_isCover_K rv μf)
noncomputable def fM_isCover_142  (v0 : Nat) (v1 : Int32) (μ : xM) : Option (Int32 × xM) := (fM_goToEnd v0 μ).bind fun r1 => (fM_liesWithin v0 v1 r1).bind fun r2 => if r2.1 = 0 ∨ r2.1 = 1 then some ((r2.1, r2.2)) else none
theorem fM_isCover_142_ok {d : Nat} {v0 : Nat} {v1 : Int32} {μ : xM} {rv : Option Value} {μf : xM} {out : Int32 × xM} (h : fM_isCover_142 v0 v1 μ = some out) (hK : fM_isCover_K rv μf out) : xRun (d + 3) 187 142 [some (.ref v0), some (.int v1), none, none, none] [] μ rv μf := by
  unfold fM_isCover_142 at h
  refine xr_go 1 (pc' := 143) (lo' := [some (.ref v0), some (.int v1), none, none, none]) (st' := [.ref v0]) (μ' := μ) rfl ?_
  obtain ⟨r1, hr1, h⟩ := Option.bind_eq_some_iff.mp h
  refine xr_callV (j := 170) (d' := (d + 2)) (rv1 := none) (μ1 := r1) (rest := []) (As := []) rfl rfl rfl rfl (Nat.le_of_ble_eq_true rfl) (fM_goToEnd_kd hr1) rfl (by exact (fM_goToEnd_ok (d := d + (0)) hr1)) ?_
  refine xr_go 2 (pc' := 148) (lo' := [some (.ref v0), some (.int v1), none, none, none]) (st' := [.int v1, .ref v0]) (μ' := r1) rfl ?_
  obtain ⟨r2, hr2, h⟩ := Option.bind_eq_some_iff.mp h
  refine xr_callV (j := 176) (d' := (d + 2)) (rv1 := some (.int r2.1)) (μ1 := r2.2) (rest := []) (As := [.int v1]) rfl rfl rfl rfl (Nat.le_of_ble_eq_true rfl) (fM_liesWithin_kd hr2) rfl (by exact (fM_liesWithin_ok (d := d + (0)) hr2)) ?_
  obtain ⟨hb, h⟩ := xifO h
  have ho := Option.some.inj h
  subst ho
  obtain ⟨rfl, rfl⟩ := hK
  exact xr_ret (rv := some (.int r2.1)) rfl rfl (Or.inr ⟨rfl, hb⟩)
noncomputable def fM_isCover_136  (v0 : Nat) (v1 : Int32) (v2 : Int32) (v3 : Int32) (v4 : Int32) (μ : xM) : Option ((Int32 × Int32 × xM) ⊕ (Int32 × xM)) := some (.inl ((v3, v4 + xc 1, μ)))
theorem fM_isCover_136_ok {d : Nat} {v0 : Nat} {v1 : Int32} {v2 : Int32} {v3 : Int32} {v4 : Int32} {μ : xM} {rv : Option Value} {μf : xM} {out : (Int32 × Int32 × xM) ⊕ (Int32 × xM)} (h : fM_isCover_136 v0 v1 v2 v3 v4 μ = some out) (hK : fM_isCover_K107 v0 v1 v2 d rv μf out) : xRun (d + 3) 187 136 [some (.ref v0), some (.int v1), some (.int v2), some (.int v3), some (.int v4)] [] μ rv μf := by
  unfold fM_isCover_136 at h
  refine xr_go 2 (pc' := 107) (lo' := [some (.ref v0), some (.int v1), some (.int v2), some (.int v3), some (.int (v4 + xc 1))]) (st' := []) (μ' := μ) rfl ?_
  refine xr_forget (lo := [some (.ref v0), some (.int v1), some (.int v2), some (.int v3), some (.int (v4 + xc 1))]) ⟨rfl, rfl, rfl, rfl, rfl, trivial⟩ ?_
  have ho := Option.some.inj h
  subst ho
  exact hK
noncomputable def fM_isCover_L107  (v0 : Nat) (v1 : Int32) (v2 : Int32) (v3 : Int32) (v4 : Int32) (μ : xM) : Option ((Int32 × Int32 × xM) ⊕ (Int32 × xM)) := (ldF μ v0 9 39).bind fun x3 => if x3 ≤ v4 then ((fM_isCover_142 v0 v1 μ).map (fun o => .inr o)) else (if ((v2 >>> (v4 &&& 31)) &&& (xc 1)) = (xc 1) then ((fM_open v0 v4 v3 μ).bind fun r4 => fM_isCover_136 v0 v1 v2 (v3 + xc 10) v4 r4) else (fM_isCover_136 v0 v1 v2 v3 v4 μ))
theorem fM_isCover_L107_ok {d : Nat} {v0 : Nat} {v1 : Int32} {v2 : Int32} {v3 : Int32} {v4 : Int32} {μ : xM} {rv : Option Value} {μf : xM} {out : (Int32 × Int32 × xM) ⊕ (Int32 × xM)} (h : fM_isCover_L107 v0 v1 v2 v3 v4 μ = some out) (hK : fM_isCover_K107 v0 v1 v2 d rv μf out) : xRun (d + 3) 187 107 [some (.ref v0), some (.int v1), some (.int v2), some (.int v3), some (.int v4)] [] μ rv μf := by
  unfold fM_isCover_L107 at h
  refine xr_go 2 (pc' := 110) (lo' := [some (.ref v0), some (.int v1), some (.int v2), some (.int v3), some (.int v4)]) (st' := [.ref v0, .int v4]) (μ' := μ) rfl ?_
  obtain ⟨x3, hx3, h⟩ := Option.bind_eq_some_iff.mp h
  refine xr_opI (pc' := 113) (lo' := [some (.ref v0), some (.int v1), some (.int v2), some (.int v3), some (.int v4)]) (st' := [.int v4]) (o := ldF μ v0 9 39) rfl hx3 ?_
  refine xr_icmp (pct := 142) rfl rfl rfl (fun hc => ?_) (fun hc => ?_)
  · replace h := (if_pos (of_decide_eq_true hc)).symm.trans h
    refine xr_forget (lo := [some (.ref v0), some (.int v1), none, none, none]) ⟨rfl, rfl, trivial⟩ ?_
    obtain ⟨o, h2, rfl⟩ := Option.map_eq_some_iff.mp h
    exact fM_isCover_142_ok h2 hK
  · replace h := (if_neg (of_decide_eq_false hc)).symm.trans h
    refine xr_go 6 (pc' := 123) (lo' := [some (.ref v0), some (.int v1), some (.int v2), some (.int v3), some (.int v4)]) (st' := [.int (xc 1), .int ((v2 >>> (v4 &&& 31)) &&& (xc 1))]) (μ' := μ) rfl ?_
    refine xr_icmp (pct := 136) rfl rfl rfl (fun hc => ?_) (fun hc => ?_)
    · replace h := (if_neg (of_decide_eq_true hc)).symm.trans h
      refine xr_forget (lo := [some (.ref v0), some (.int v1), some (.int v2), some (.int v3), some (.int v4)]) ⟨rfl, rfl, rfl, rfl, rfl, trivial⟩ ?_
      exact fM_isCover_136_ok h hK
    · replace h := (if_pos (Decidable.of_not_not (of_decide_eq_false hc))).symm.trans h
      refine xr_go 3 (pc' := 130) (lo' := [some (.ref v0), some (.int v1), some (.int v2), some (.int v3), some (.int v4)]) (st' := [.int v3, .int v4, .ref v0]) (μ' := μ) rfl ?_
      obtain ⟨r4, hr4, h⟩ := Option.bind_eq_some_iff.mp h
      refine xr_callV (j := 185) (d' := (d + 2)) (rv1 := none) (μ1 := r4) (rest := []) (As := [.int v4, .int v3]) rfl rfl rfl rfl (Nat.le_of_ble_eq_true rfl) (fM_open_kd hr4) rfl (by exact (fM_open_ok (d := d + (1)) hr4)) ?_
      refine xr_go 1 (pc' := 136) (lo' := [some (.ref v0), some (.int v1), some (.int v2), some (.int (v3 + xc 10)), some (.int v4)]) (st' := []) (μ' := r4) rfl ?_
      refine xr_forget (lo := [some (.ref v0), some (.int v1), some (.int v2), some (.int (v3 + xc 10)), some (.int v4)]) ⟨rfl, rfl, rfl, rfl, rfl, trivial⟩ ?_
      exact fM_isCover_136_ok h hK
theorem fM_isCover_L107_lp {d : Nat} {v0 : Nat} {v1 : Int32} {v2 : Int32} {v3 : Int32} {v4 : Int32} {μ : xM} {rv : Option Value} {μf : xM} {out : Int32 × xM} (h : xwh (fun s : Int32 × Int32 × xM => fM_isCover_L107 v0 v1 v2 s.1 s.2.1 s.2.2) (v3, v4, μ) = some out) (hK : fM_isCover_K rv μf out) : xRun (d + 3) 187 107 [some (.ref v0), some (.int v1), some (.int v2), some (.int v3), some (.int v4)] [] μ rv μf :=
  xwh_ind (Rh := fun s : Int32 × Int32 × xM => xRun (d + 3) 187 107 [some (.ref v0), some (.int v1), some (.int v2), some (.int s.1), some (.int s.2.1)] [] s.2.2 rv μf) (Co := fM_isCover_K rv μf) (fun s o hb hk => fM_isCover_L107_ok hb hk) h hK
noncomputable def fM_isCover_101  (v0 : Nat) (v1 : Int32) (v2 : Int32) (μ : xM) : Option (Int32 × xM) := xwh (fun s : Int32 × Int32 × xM => fM_isCover_L107 v0 v1 v2 s.1 s.2.1 s.2.2) (xc 10, xc 0, μ)
theorem fM_isCover_101_ok {d : Nat} {v0 : Nat} {v1 : Int32} {v2 : Int32} {μ : xM} {rv : Option Value} {μf : xM} {out : Int32 × xM} (h : fM_isCover_101 v0 v1 v2 μ = some out) (hK : fM_isCover_K rv μf out) : xRun (d + 3) 187 101 [some (.ref v0), some (.int v1), some (.int v2), none, none] [] μ rv μf := by
  unfold fM_isCover_101 at h
  refine xr_go 4 (pc' := 107) (lo' := [some (.ref v0), some (.int v1), some (.int v2), some (.int (xc 10)), some (.int (xc 0))]) (st' := []) (μ' := μ) rfl ?_
  refine xr_forget (lo := [some (.ref v0), some (.int v1), some (.int v2), some (.int (xc 10)), some (.int (xc 0))]) ⟨rfl, rfl, rfl, rfl, rfl, trivial⟩ ?_
  exact fM_isCover_L107_lp h hK
noncomputable def fM_isCover_L75  (v0 : Nat) (v1 : Int32) (v2 : Int32) (v3 : Int32) (μ : xM) : Option ((Int32 × xM) ⊕ (Int32 × xM)) := (ldF μ v0 9 47).bind fun x5 => if x5 ≤ v3 then ((fM_isCover_101 v0 v1 v2 μ).map (fun o => .inr o)) else ((ldFR μ v0 9 34).bind fun x6 => (ldFR μ v0 9 48).bind fun x7 => (ldA μ x7 v3).bind fun x8 => (stA μ x6 v3 x8).bind fun μ9 => some (.inl ((v3 + xc 1, μ9))))
theorem fM_isCover_L75_ok {d : Nat} {v0 : Nat} {v1 : Int32} {v2 : Int32} {v3 : Int32} {μ : xM} {rv : Option Value} {μf : xM} {out : (Int32 × xM) ⊕ (Int32 × xM)} (h : fM_isCover_L75 v0 v1 v2 v3 μ = some out) (hK : fM_isCover_K75 v0 v1 v2 d rv μf out) : xRun (d + 3) 187 75 [some (.ref v0), some (.int v1), some (.int v2), some (.int v3), none] [] μ rv μf := by
  unfold fM_isCover_L75 at h
  refine xr_go 2 (pc' := 77) (lo' := [some (.ref v0), some (.int v1), some (.int v2), some (.int v3), none]) (st' := [.ref v0, .int v3]) (μ' := μ) rfl ?_
  obtain ⟨x5, hx5, h⟩ := Option.bind_eq_some_iff.mp h
  refine xr_opI (pc' := 80) (lo' := [some (.ref v0), some (.int v1), some (.int v2), some (.int v3), none]) (st' := [.int v3]) (o := ldF μ v0 9 47) rfl hx5 ?_
  refine xr_icmp (pct := 101) rfl rfl rfl (fun hc => ?_) (fun hc => ?_)
  · replace h := (if_pos (of_decide_eq_true hc)).symm.trans h
    refine xr_forget (lo := [some (.ref v0), some (.int v1), some (.int v2), none, none]) ⟨rfl, rfl, rfl, trivial⟩ ?_
    obtain ⟨o, h2, rfl⟩ := Option.map_eq_some_iff.mp h
    exact fM_isCover_101_ok h2 hK
  · replace h := (if_neg (of_decide_eq_false hc)).symm.trans h
    refine xr_go 1 (pc' := 84) (lo' := [some (.ref v0), some (.int v1), some (.int v2), some (.int v3), none]) (st' := [.ref v0]) (μ' := μ) rfl ?_
    obtain ⟨x6, hx6, h⟩ := Option.bind_eq_some_iff.mp h
    refine xr_opA (pc' := 87) (lo' := [some (.ref v0), some (.int v1), some (.int v2), some (.int v3), none]) (st' := []) (o := ldFR μ v0 9 34) rfl hx6 ?_
    refine xr_go 2 (pc' := 89) (lo' := [some (.ref v0), some (.int v1), some (.int v2), some (.int v3), none]) (st' := [.ref v0, .int v3, .ref x6]) (μ' := μ) rfl ?_
    obtain ⟨x7, hx7, h⟩ := Option.bind_eq_some_iff.mp h
    refine xr_opA (pc' := 92) (lo' := [some (.ref v0), some (.int v1), some (.int v2), some (.int v3), none]) (st' := [.int v3, .ref x6]) (o := ldFR μ v0 9 48) rfl hx7 ?_
    refine xr_go 1 (pc' := 93) (lo' := [some (.ref v0), some (.int v1), some (.int v2), some (.int v3), none]) (st' := [.int v3, .ref x7, .int v3, .ref x6]) (μ' := μ) rfl ?_
    obtain ⟨x8, hx8, h⟩ := Option.bind_eq_some_iff.mp h
    refine xr_opI (pc' := 94) (lo' := [some (.ref v0), some (.int v1), some (.int v2), some (.int v3), none]) (st' := [.int v3, .ref x6]) (o := ldA μ x7 v3) rfl hx8 ?_
    obtain ⟨μ9, hμ9, h⟩ := Option.bind_eq_some_iff.mp h
    refine xr_opM (pc' := 95) (lo' := [some (.ref v0), some (.int v1), some (.int v2), some (.int v3), none]) (st' := []) (o := stA μ x6 v3 x8) rfl hμ9 ?_
    refine xr_go 2 (pc' := 75) (lo' := [some (.ref v0), some (.int v1), some (.int v2), some (.int (v3 + xc 1)), none]) (st' := []) (μ' := μ9) rfl ?_
    refine xr_forget (lo := [some (.ref v0), some (.int v1), some (.int v2), some (.int (v3 + xc 1)), none]) ⟨rfl, rfl, rfl, rfl, trivial⟩ ?_
    have ho := Option.some.inj h
    subst ho
    exact hK
theorem fM_isCover_L75_lp {d : Nat} {v0 : Nat} {v1 : Int32} {v2 : Int32} {v3 : Int32} {μ : xM} {rv : Option Value} {μf : xM} {out : Int32 × xM} (h : xwh (fun s : Int32 × xM => fM_isCover_L75 v0 v1 v2 s.1 s.2) (v3, μ) = some out) (hK : fM_isCover_K rv μf out) : xRun (d + 3) 187 75 [some (.ref v0), some (.int v1), some (.int v2), some (.int v3), none] [] μ rv μf :=
  xwh_ind (Rh := fun s : Int32 × xM => xRun (d + 3) 187 75 [some (.ref v0), some (.int v1), some (.int v2), some (.int s.1), none] [] s.2 rv μf) (Co := fM_isCover_K rv μf) (fun s o hb hk => fM_isCover_L75_ok hb hk) h hK
noncomputable def fM_isCover_60  (v0 : Nat) (v1 : Int32) (v2 : Int32) (μ : xM) : Option (Int32 × xM) := (stF μ v0 9 29 (xc 0)).bind fun μ10 => (ldF μ10 v0 9 47).bind fun x11 => (stF μ10 v0 9 33 x11).bind fun μ12 => xwh (fun s : Int32 × xM => fM_isCover_L75 v0 v1 v2 s.1 s.2) (xc 0, μ12)
theorem fM_isCover_60_ok {d : Nat} {v0 : Nat} {v1 : Int32} {v2 : Int32} {μ : xM} {rv : Option Value} {μf : xM} {out : Int32 × xM} (h : fM_isCover_60 v0 v1 v2 μ = some out) (hK : fM_isCover_K rv μf out) : xRun (d + 3) 187 60 [some (.ref v0), some (.int v1), some (.int v2), none, none] [] μ rv μf := by
  unfold fM_isCover_60 at h
  refine xr_go 2 (pc' := 62) (lo' := [some (.ref v0), some (.int v1), some (.int v2), none, none]) (st' := [.int (xc 0), .ref v0]) (μ' := μ) rfl ?_
  obtain ⟨μ10, hμ10, h⟩ := Option.bind_eq_some_iff.mp h
  refine xr_opM (pc' := 65) (lo' := [some (.ref v0), some (.int v1), some (.int v2), none, none]) (st' := []) (o := stF μ v0 9 29 (xc 0)) rfl hμ10 ?_
  refine xr_go 2 (pc' := 67) (lo' := [some (.ref v0), some (.int v1), some (.int v2), none, none]) (st' := [.ref v0, .ref v0]) (μ' := μ10) rfl ?_
  obtain ⟨x11, hx11, h⟩ := Option.bind_eq_some_iff.mp h
  refine xr_opI (pc' := 70) (lo' := [some (.ref v0), some (.int v1), some (.int v2), none, none]) (st' := [.ref v0]) (o := ldF μ10 v0 9 47) rfl hx11 ?_
  obtain ⟨μ12, hμ12, h⟩ := Option.bind_eq_some_iff.mp h
  refine xr_opM (pc' := 73) (lo' := [some (.ref v0), some (.int v1), some (.int v2), none, none]) (st' := []) (o := stF μ10 v0 9 33 x11) rfl hμ12 ?_
  refine xr_go 2 (pc' := 75) (lo' := [some (.ref v0), some (.int v1), some (.int v2), some (.int (xc 0)), none]) (st' := []) (μ' := μ12) rfl ?_
  refine xr_forget (lo := [some (.ref v0), some (.int v1), some (.int v2), some (.int (xc 0)), none]) ⟨rfl, rfl, rfl, rfl, trivial⟩ ?_
  exact fM_isCover_L75_lp h hK
noncomputable def fM_isCover_52  (μ : xM) : Option (Int32 × xM) := some ((xc 0, μ))
theorem fM_isCover_52_ok {d : Nat} {μ : xM} {rv : Option Value} {μf : xM} {out : Int32 × xM} (h : fM_isCover_52 μ = some out) (hK : fM_isCover_K rv μf out) : xRun (d + 3) 187 52 [none, none, none, none, none] [] μ rv μf := by
  unfold fM_isCover_52 at h
  refine xr_go 1 (pc' := 53) (lo' := [none, none, none, none, none]) (st' := [.int (xc 0)]) (μ' := μ) rfl ?_
  have ho := Option.some.inj h
  subst ho
  obtain ⟨rfl, rfl⟩ := hK
  exact xr_ret (rv := some (.int (xc 0))) rfl rfl (Or.inr ⟨rfl, Or.inl rfl⟩)
noncomputable def fM_isCover_L30  (v0 : Nat) (v1 : Int32) (v2 : Int32) (v3 : Int32) (μ : xM) : Option ((Int32) ⊕ (Int32 × xM)) := (ldF μ v0 9 47).bind fun x13 => if x13 ≤ v3 then ((fM_isCover_60 v0 v1 v2 μ).map (fun o => .inr o)) else ((ldFR μ v0 9 48).bind fun x14 => (ldA μ x14 v3).bind fun x15 => (fM_isShown v0 v2 x15 μ).bind fun r16 => if r16 = 0 then ((fM_isCover_52 μ).map (fun o => .inr o)) else (some (.inl ((v3 + xc 1)))))
theorem fM_isCover_L30_ok {d : Nat} {v0 : Nat} {v1 : Int32} {v2 : Int32} {v3 : Int32} {μ : xM} {rv : Option Value} {μf : xM} {out : (Int32) ⊕ (Int32 × xM)} (h : fM_isCover_L30 v0 v1 v2 v3 μ = some out) (hK : fM_isCover_K30 v0 v1 v2 μ d rv μf out) : xRun (d + 3) 187 30 [some (.ref v0), some (.int v1), some (.int v2), some (.int v3), none] [] μ rv μf := by
  unfold fM_isCover_L30 at h
  refine xr_go 2 (pc' := 32) (lo' := [some (.ref v0), some (.int v1), some (.int v2), some (.int v3), none]) (st' := [.ref v0, .int v3]) (μ' := μ) rfl ?_
  obtain ⟨x13, hx13, h⟩ := Option.bind_eq_some_iff.mp h
  refine xr_opI (pc' := 35) (lo' := [some (.ref v0), some (.int v1), some (.int v2), some (.int v3), none]) (st' := [.int v3]) (o := ldF μ v0 9 47) rfl hx13 ?_
  refine xr_icmp (pct := 60) rfl rfl rfl (fun hc => ?_) (fun hc => ?_)
  · replace h := (if_pos (of_decide_eq_true hc)).symm.trans h
    refine xr_forget (lo := [some (.ref v0), some (.int v1), some (.int v2), none, none]) ⟨rfl, rfl, rfl, trivial⟩ ?_
    obtain ⟨o, h2, rfl⟩ := Option.map_eq_some_iff.mp h
    exact fM_isCover_60_ok h2 hK
  · replace h := (if_neg (of_decide_eq_false hc)).symm.trans h
    refine xr_go 3 (pc' := 41) (lo' := [some (.ref v0), some (.int v1), some (.int v2), some (.int v3), none]) (st' := [.ref v0, .int v2, .ref v0]) (μ' := μ) rfl ?_
    obtain ⟨x14, hx14, h⟩ := Option.bind_eq_some_iff.mp h
    refine xr_opA (pc' := 44) (lo' := [some (.ref v0), some (.int v1), some (.int v2), some (.int v3), none]) (st' := [.int v2, .ref v0]) (o := ldFR μ v0 9 48) rfl hx14 ?_
    refine xr_go 1 (pc' := 45) (lo' := [some (.ref v0), some (.int v1), some (.int v2), some (.int v3), none]) (st' := [.int v3, .ref x14, .int v2, .ref v0]) (μ' := μ) rfl ?_
    obtain ⟨x15, hx15, h⟩ := Option.bind_eq_some_iff.mp h
    refine xr_opI (pc' := 46) (lo' := [some (.ref v0), some (.int v1), some (.int v2), some (.int v3), none]) (st' := [.int v2, .ref v0]) (o := ldA μ x14 v3) rfl hx15 ?_
    obtain ⟨r16, hr16, h⟩ := Option.bind_eq_some_iff.mp h
    refine xr_callV (j := 186) (d' := (d + 2)) (rv1 := some (.int r16)) (μ1 := μ) (rest := []) (As := [.int v2, .int x15]) rfl rfl rfl rfl (Nat.le_of_ble_eq_true rfl) (fM_isShown_kd hr16) rfl (by exact (fM_isShown_ok (d := d + (1)) hr16)) ?_
    refine xr_ifc (pct := 54) rfl rfl rfl (fun hc => ?_) (fun hc => ?_)
    · replace h := (if_neg (of_decide_eq_true hc)).symm.trans h
      refine xr_go 2 (pc' := 30) (lo' := [some (.ref v0), some (.int v1), some (.int v2), some (.int (v3 + xc 1)), none]) (st' := []) (μ' := μ) rfl ?_
      refine xr_forget (lo := [some (.ref v0), some (.int v1), some (.int v2), some (.int (v3 + xc 1)), none]) ⟨rfl, rfl, rfl, rfl, trivial⟩ ?_
      have ho := Option.some.inj h
      subst ho
      exact hK
    · replace h := (if_pos (Decidable.of_not_not (of_decide_eq_false hc))).symm.trans h
      refine xr_forget (lo := [none, none, none, none, none]) trivial ?_
      obtain ⟨o, h2, rfl⟩ := Option.map_eq_some_iff.mp h
      exact fM_isCover_52_ok h2 hK
theorem fM_isCover_L30_lp {d : Nat} {v0 : Nat} {v1 : Int32} {v2 : Int32} {v3 : Int32} {μ : xM} {rv : Option Value} {μf : xM} {out : Int32 × xM} (h : xwh (fun s : Int32 => fM_isCover_L30 v0 v1 v2 s μ) (v3) = some out) (hK : fM_isCover_K rv μf out) : xRun (d + 3) 187 30 [some (.ref v0), some (.int v1), some (.int v2), some (.int v3), none] [] μ rv μf :=
  xwh_ind (Rh := fun s : Int32 => xRun (d + 3) 187 30 [some (.ref v0), some (.int v1), some (.int v2), some (.int s), none] [] μ rv μf) (Co := fM_isCover_K rv μf) (fun s o hb hk => fM_isCover_L30_ok hb hk) h hK
noncomputable def fM_isCover_26  (μ : xM) : Option (Int32 × xM) := some ((xc 0, μ))
theorem fM_isCover_26_ok {d : Nat} {μ : xM} {rv : Option Value} {μf : xM} {out : Int32 × xM} (h : fM_isCover_26 μ = some out) (hK : fM_isCover_K rv μf out) : xRun (d + 3) 187 26 [none, none, none, none, none] [] μ rv μf := by
  unfold fM_isCover_26 at h
  refine xr_go 1 (pc' := 27) (lo' := [none, none, none, none, none]) (st' := [.int (xc 0)]) (μ' := μ) rfl ?_
  have ho := Option.some.inj h
  subst ho
  obtain ⟨rfl, rfl⟩ := hK
  exact xr_ret (rv := some (.int (xc 0))) rfl rfl (Or.inr ⟨rfl, Or.inl rfl⟩)
noncomputable def fM_isCover_11  (v0 : Nat) (v2 : Int32) (μ : xM) : Option (Int32 × xM) := (ldF μ v0 9 49).bind fun x17 => if x17 = 0 then (fM_isCover_26 μ) else (if v2 = 0 then (some ((xc 1, μ))) else (fM_isCover_26 μ))
theorem fM_isCover_11_ok {d : Nat} {v0 : Nat} {v2 : Int32} {μ : xM} {rv : Option Value} {μf : xM} {out : Int32 × xM} (h : fM_isCover_11 v0 v2 μ = some out) (hK : fM_isCover_K rv μf out) : xRun (d + 3) 187 11 [some (.ref v0), none, some (.int v2), none, none] [] μ rv μf := by
  unfold fM_isCover_11 at h
  refine xr_go 1 (pc' := 12) (lo' := [some (.ref v0), none, some (.int v2), none, none]) (st' := [.ref v0]) (μ' := μ) rfl ?_
  obtain ⟨x17, hx17, h⟩ := Option.bind_eq_some_iff.mp h
  refine xr_opI (pc' := 15) (lo' := [some (.ref v0), none, some (.int v2), none, none]) (st' := []) (o := ldF μ v0 9 49) rfl hx17 ?_
  refine xr_ifc (pct := 26) rfl rfl rfl (fun hc => ?_) (fun hc => ?_)
  · replace h := (if_pos (of_decide_eq_true hc)).symm.trans h
    refine xr_forget (lo := [none, none, none, none, none]) trivial ?_
    exact fM_isCover_26_ok h hK
  · replace h := (if_neg (of_decide_eq_false hc)).symm.trans h
    refine xr_go 1 (pc' := 19) (lo' := [some (.ref v0), none, some (.int v2), none, none]) (st' := [.int v2]) (μ' := μ) rfl ?_
    refine xr_ifc (pct := 26) rfl rfl rfl (fun hc => ?_) (fun hc => ?_)
    · replace h := (if_neg (of_decide_eq_true hc)).symm.trans h
      refine xr_forget (lo := [none, none, none, none, none]) trivial ?_
      exact fM_isCover_26_ok h hK
    · replace h := (if_pos (Decidable.of_not_not (of_decide_eq_false hc))).symm.trans h
      refine xr_go 2 (pc' := 27) (lo' := [some (.ref v0), none, some (.int v2), none, none]) (st' := [.int (xc 1)]) (μ' := μ) rfl ?_
      have ho := Option.some.inj h
      subst ho
      obtain ⟨rfl, rfl⟩ := hK
      exact xr_ret (rv := some (.int (xc 1))) rfl rfl (Or.inr ⟨rfl, Or.inr rfl⟩)
noncomputable def fM_isCover_0  (v0 : Nat) (v1 : Int32) (v2 : Int32) (μ : xM) : Option (Int32 × xM) := (ldF μ v0 9 49).bind fun x18 => if x18 = 0 then (if v2 = 0 then (fM_isCover_11 v0 v2 μ) else (xwh (fun s : Int32 => fM_isCover_L30 v0 v1 v2 s μ) (xc 0))) else (fM_isCover_11 v0 v2 μ)
theorem fM_isCover_0_ok {d : Nat} {v0 : Nat} {v1 : Int32} {v2 : Int32} {μ : xM} {rv : Option Value} {μf : xM} {out : Int32 × xM} (h : fM_isCover_0 v0 v1 v2 μ = some out) (hK : fM_isCover_K rv μf out) : xRun (d + 3) 187 0 [some (.ref v0), some (.int v1), some (.int v2), none, none] [] μ rv μf := by
  unfold fM_isCover_0 at h
  refine xr_go 1 (pc' := 1) (lo' := [some (.ref v0), some (.int v1), some (.int v2), none, none]) (st' := [.ref v0]) (μ' := μ) rfl ?_
  obtain ⟨x18, hx18, h⟩ := Option.bind_eq_some_iff.mp h
  refine xr_opI (pc' := 4) (lo' := [some (.ref v0), some (.int v1), some (.int v2), none, none]) (st' := []) (o := ldF μ v0 9 49) rfl hx18 ?_
  refine xr_ifc (pct := 11) rfl rfl rfl (fun hc => ?_) (fun hc => ?_)
  · replace h := (if_neg (of_decide_eq_true hc)).symm.trans h
    refine xr_forget (lo := [some (.ref v0), none, some (.int v2), none, none]) ⟨rfl, rfl, trivial⟩ ?_
    exact fM_isCover_11_ok h hK
  · replace h := (if_pos (Decidable.of_not_not (of_decide_eq_false hc))).symm.trans h
    refine xr_go 1 (pc' := 8) (lo' := [some (.ref v0), some (.int v1), some (.int v2), none, none]) (st' := [.int v2]) (μ' := μ) rfl ?_
    refine xr_ifc (pct := 28) rfl rfl rfl (fun hc => ?_) (fun hc => ?_)
    · replace h := (if_neg (of_decide_eq_true hc)).symm.trans h
      refine xr_go 2 (pc' := 30) (lo' := [some (.ref v0), some (.int v1), some (.int v2), some (.int (xc 0)), none]) (st' := []) (μ' := μ) rfl ?_
      refine xr_forget (lo := [some (.ref v0), some (.int v1), some (.int v2), some (.int (xc 0)), none]) ⟨rfl, rfl, rfl, rfl, trivial⟩ ?_
      exact fM_isCover_L30_lp h hK
    · replace h := (if_pos (Decidable.of_not_not (of_decide_eq_false hc))).symm.trans h
      refine xr_forget (lo := [some (.ref v0), none, some (.int v2), none, none]) ⟨rfl, rfl, trivial⟩ ?_
      exact fM_isCover_11_ok h hK
noncomputable def fM_isCover (a0 : Nat) (a1 : Int32) (a2 : Int32) (μ : xM) : Option (Int32 × xM) := xgd μ a0 9 (fM_isCover_0 a0 a1 a2 μ)
theorem fM_isCover_kd {a0 : Nat} {a1 : Int32} {a2 : Int32} {μ : xM} {o : Int32 × xM} (h : fM_isCover a0 a1 a2 μ = some o) : (xK μ a0).1 = 10 + 9 := (xgd_some h).1
theorem fM_isCover_ok {d : Nat} {a0 : Nat} {a1 : Int32} {a2 : Int32} {μ : xM} {o : Int32 × xM} (h : fM_isCover a0 a1 a2 μ = some o) : xRun (d + 3) 187 0 [some (.ref a0), some (.int a1), some (.int a2), none, none] [] μ (some (.int o.1)) o.2 :=
  xr_forget (lo := [some (.ref a0), some (.int a1), some (.int a2), none, none]) (⟨rfl, rfl, rfl, trivial⟩) (fM_isCover_0_ok (d := d) (xgd_some h).2 (show fM_isCover_K _ _ o from ⟨rfl, rfl⟩))
-- KeptAnswersModel.findCovers(I)Z 
def fM_findCovers_K (rv : Option Value) (μf : xM) : (Int32 × xM) → Prop := fun o => rv = some (.int o.1) ∧ μf = o.2
def fM_findCovers_K17 (v0 : Nat) (v1 : Int32) (d : Nat) (rv : Option Value) (μf : xM) : ((Int32 × xM) ⊕ (Int32 × xM)) → Prop := Sum.elim (fun s : Int32 × xM => xRun (d + 5) 188 17 [some (.ref v0), some (.int v1), some (.int s.1)] [] s.2 rv μf) (fM_findCovers_K rv μf)
noncomputable def fM_findCovers_70  (μ : xM) : Option (Int32 × xM) := some ((xc 1, μ))
theorem fM_findCovers_70_ok {d : Nat} {μ : xM} {rv : Option Value} {μf : xM} {out : Int32 × xM} (h : fM_findCovers_70 μ = some out) (hK : fM_findCovers_K rv μf out) : xRun (d + 5) 188 70 [none, none, none] [] μ rv μf := by
  unfold fM_findCovers_70 at h
  refine xr_go 1 (pc' := 71) (lo' := [none, none, none]) (st' := [.int (xc 1)]) (μ' := μ) rfl ?_
  have ho := Option.some.inj h
  subst ho
  obtain ⟨rfl, rfl⟩ := hK
  exact xr_ret (rv := some (.int (xc 1))) rfl rfl (Or.inr ⟨rfl, Or.inr rfl⟩)
noncomputable def fM_findCovers_64  (v0 : Nat) (v1 : Int32) (v2 : Int32) (μ : xM) : Option ((Int32 × xM) ⊕ (Int32 × xM)) := some (.inl ((v2 + xc 1, μ)))
theorem fM_findCovers_64_ok {d : Nat} {v0 : Nat} {v1 : Int32} {v2 : Int32} {μ : xM} {rv : Option Value} {μf : xM} {out : (Int32 × xM) ⊕ (Int32 × xM)} (h : fM_findCovers_64 v0 v1 v2 μ = some out) (hK : fM_findCovers_K17 v0 v1 d rv μf out) : xRun (d + 5) 188 64 [some (.ref v0), some (.int v1), some (.int v2)] [] μ rv μf := by
  unfold fM_findCovers_64 at h
  refine xr_go 2 (pc' := 17) (lo' := [some (.ref v0), some (.int v1), some (.int (v2 + xc 1))]) (st' := []) (μ' := μ) rfl ?_
  refine xr_forget (lo := [some (.ref v0), some (.int v1), some (.int (v2 + xc 1))]) ⟨rfl, rfl, rfl, trivial⟩ ?_
  have ho := Option.some.inj h
  subst ho
  exact hK
noncomputable def fM_findCovers_L17  (v0 : Nat) (v1 : Int32) (v2 : Int32) (μ : xM) : Option ((Int32 × xM) ⊕ (Int32 × xM)) := (ldF μ v0 9 39).bind fun x1 => if ((xc 1) <<< (x1 &&& 31)) ≤ v2 then ((fM_findCovers_70 μ).map (fun o => .inr o)) else ((fM_ones v2 μ).bind fun r2 => if (xc 3) < r2 then (fM_findCovers_64 v0 v1 v2 μ) else ((fM_isCover v0 v1 v2 μ).bind fun r3 => if r3.1 = 0 then (fM_findCovers_64 v0 v1 v2 r3.2) else ((ldFR r3.2 v0 9 53).bind fun x4 => (ldF r3.2 v0 9 52).bind fun x5 => (stA r3.2 x4 x5 v2).bind fun μ6 => (ldF μ6 v0 9 52).bind fun x7 => (stF μ6 v0 9 52 (x7 + (xc 1))).bind fun μ8 => fM_findCovers_64 v0 v1 v2 μ8)))
theorem fM_findCovers_L17_ok {d : Nat} {v0 : Nat} {v1 : Int32} {v2 : Int32} {μ : xM} {rv : Option Value} {μf : xM} {out : (Int32 × xM) ⊕ (Int32 × xM)} (h : fM_findCovers_L17 v0 v1 v2 μ = some out) (hK : fM_findCovers_K17 v0 v1 d rv μf out) : xRun (d + 5) 188 17 [some (.ref v0), some (.int v1), some (.int v2)] [] μ rv μf := by
  unfold fM_findCovers_L17 at h
  refine xr_go 3 (pc' := 20) (lo' := [some (.ref v0), some (.int v1), some (.int v2)]) (st' := [.ref v0, .int (xc 1), .int v2]) (μ' := μ) rfl ?_
  obtain ⟨x1, hx1, h⟩ := Option.bind_eq_some_iff.mp h
  refine xr_opI (pc' := 23) (lo' := [some (.ref v0), some (.int v1), some (.int v2)]) (st' := [.int (xc 1), .int v2]) (o := ldF μ v0 9 39) rfl hx1 ?_
  refine xr_go 1 (pc' := 24) (lo' := [some (.ref v0), some (.int v1), some (.int v2)]) (st' := [.int ((xc 1) <<< (x1 &&& 31)), .int v2]) (μ' := μ) rfl ?_
  refine xr_icmp (pct := 70) rfl rfl rfl (fun hc => ?_) (fun hc => ?_)
  · replace h := (if_pos (of_decide_eq_true hc)).symm.trans h
    refine xr_forget (lo := [none, none, none]) trivial ?_
    obtain ⟨o, h2, rfl⟩ := Option.map_eq_some_iff.mp h
    exact fM_findCovers_70_ok h2 hK
  · replace h := (if_neg (of_decide_eq_false hc)).symm.trans h
    refine xr_go 1 (pc' := 28) (lo' := [some (.ref v0), some (.int v1), some (.int v2)]) (st' := [.int v2]) (μ' := μ) rfl ?_
    obtain ⟨r2, hr2, h⟩ := Option.bind_eq_some_iff.mp h
    refine xr_callS (j := 141) (d' := (d + 4)) (rv1 := some (.int r2)) (μ1 := μ) (rest := []) (As := [.int v2]) rfl rfl rfl rfl (Nat.le_of_ble_eq_true rfl) rfl (by exact (fM_ones_ok (d := d + (4)) hr2)) ?_
    refine xr_go 1 (pc' := 32) (lo' := [some (.ref v0), some (.int v1), some (.int v2)]) (st' := [.int (xc 3), .int r2]) (μ' := μ) rfl ?_
    refine xr_icmp (pct := 64) rfl rfl rfl (fun hc => ?_) (fun hc => ?_)
    · replace h := (if_pos (of_decide_eq_true hc)).symm.trans h
      refine xr_forget (lo := [some (.ref v0), some (.int v1), some (.int v2)]) ⟨rfl, rfl, rfl, trivial⟩ ?_
      exact fM_findCovers_64_ok h hK
    · replace h := (if_neg (of_decide_eq_false hc)).symm.trans h
      refine xr_go 3 (pc' := 38) (lo' := [some (.ref v0), some (.int v1), some (.int v2)]) (st' := [.int v2, .int v1, .ref v0]) (μ' := μ) rfl ?_
      obtain ⟨r3, hr3, h⟩ := Option.bind_eq_some_iff.mp h
      refine xr_callV (j := 187) (d' := (d + 4)) (rv1 := some (.int r3.1)) (μ1 := r3.2) (rest := []) (As := [.int v1, .int v2]) rfl rfl rfl rfl (Nat.le_of_ble_eq_true rfl) (fM_isCover_kd hr3) rfl (by exact (fM_isCover_ok (d := d + (1)) hr3)) ?_
      refine xr_ifc (pct := 64) rfl rfl rfl (fun hc => ?_) (fun hc => ?_)
      · replace h := (if_pos (of_decide_eq_true hc)).symm.trans h
        refine xr_forget (lo := [some (.ref v0), some (.int v1), some (.int v2)]) ⟨rfl, rfl, rfl, trivial⟩ ?_
        exact fM_findCovers_64_ok h hK
      · replace h := (if_neg (of_decide_eq_false hc)).symm.trans h
        refine xr_go 1 (pc' := 45) (lo' := [some (.ref v0), some (.int v1), some (.int v2)]) (st' := [.ref v0]) (μ' := r3.2) rfl ?_
        obtain ⟨x4, hx4, h⟩ := Option.bind_eq_some_iff.mp h
        refine xr_opA (pc' := 48) (lo' := [some (.ref v0), some (.int v1), some (.int v2)]) (st' := []) (o := ldFR r3.2 v0 9 53) rfl hx4 ?_
        refine xr_go 1 (pc' := 49) (lo' := [some (.ref v0), some (.int v1), some (.int v2)]) (st' := [.ref v0, .ref x4]) (μ' := r3.2) rfl ?_
        obtain ⟨x5, hx5, h⟩ := Option.bind_eq_some_iff.mp h
        refine xr_opI (pc' := 52) (lo' := [some (.ref v0), some (.int v1), some (.int v2)]) (st' := [.ref x4]) (o := ldF r3.2 v0 9 52) rfl hx5 ?_
        refine xr_go 1 (pc' := 53) (lo' := [some (.ref v0), some (.int v1), some (.int v2)]) (st' := [.int v2, .int x5, .ref x4]) (μ' := r3.2) rfl ?_
        obtain ⟨μ6, hμ6, h⟩ := Option.bind_eq_some_iff.mp h
        refine xr_opM (pc' := 54) (lo' := [some (.ref v0), some (.int v1), some (.int v2)]) (st' := []) (o := stA r3.2 x4 x5 v2) rfl hμ6 ?_
        refine xr_go 2 (pc' := 56) (lo' := [some (.ref v0), some (.int v1), some (.int v2)]) (st' := [.ref v0, .ref v0]) (μ' := μ6) rfl ?_
        obtain ⟨x7, hx7, h⟩ := Option.bind_eq_some_iff.mp h
        refine xr_opI (pc' := 59) (lo' := [some (.ref v0), some (.int v1), some (.int v2)]) (st' := [.ref v0]) (o := ldF μ6 v0 9 52) rfl hx7 ?_
        refine xr_go 2 (pc' := 61) (lo' := [some (.ref v0), some (.int v1), some (.int v2)]) (st' := [.int (x7 + (xc 1)), .ref v0]) (μ' := μ6) rfl ?_
        obtain ⟨μ8, hμ8, h⟩ := Option.bind_eq_some_iff.mp h
        refine xr_opM (pc' := 64) (lo' := [some (.ref v0), some (.int v1), some (.int v2)]) (st' := []) (o := stF μ6 v0 9 52 (x7 + (xc 1))) rfl hμ8 ?_
        refine xr_forget (lo := [some (.ref v0), some (.int v1), some (.int v2)]) ⟨rfl, rfl, rfl, trivial⟩ ?_
        exact fM_findCovers_64_ok h hK
theorem fM_findCovers_L17_lp {d : Nat} {v0 : Nat} {v1 : Int32} {v2 : Int32} {μ : xM} {rv : Option Value} {μf : xM} {out : Int32 × xM} (h : xwh (fun s : Int32 × xM => fM_findCovers_L17 v0 v1 s.1 s.2) (v2, μ) = some out) (hK : fM_findCovers_K rv μf out) : xRun (d + 5) 188 17 [some (.ref v0), some (.int v1), some (.int v2)] [] μ rv μf :=
  xwh_ind (Rh := fun s : Int32 × xM => xRun (d + 5) 188 17 [some (.ref v0), some (.int v1), some (.int s.1)] [] s.2 rv μf) (Co := fM_findCovers_K rv μf) (fun s o hb hk => fM_findCovers_L17_ok hb hk) h hK
noncomputable def fM_findCovers_0  (v0 : Nat) (v1 : Int32) (μ : xM) : Option (Int32 × xM) := (stF μ v0 9 52 (xc 0)).bind fun μ9 => (fM_findShows v0 v1 μ9).bind fun r10 => if r10.1 = 0 then (some ((xc 0, r10.2))) else (xwh (fun s : Int32 × xM => fM_findCovers_L17 v0 v1 s.1 s.2) (xc 0, r10.2))
theorem fM_findCovers_0_ok {d : Nat} {v0 : Nat} {v1 : Int32} {μ : xM} {rv : Option Value} {μf : xM} {out : Int32 × xM} (h : fM_findCovers_0 v0 v1 μ = some out) (hK : fM_findCovers_K rv μf out) : xRun (d + 5) 188 0 [some (.ref v0), some (.int v1), none] [] μ rv μf := by
  unfold fM_findCovers_0 at h
  refine xr_go 2 (pc' := 2) (lo' := [some (.ref v0), some (.int v1), none]) (st' := [.int (xc 0), .ref v0]) (μ' := μ) rfl ?_
  obtain ⟨μ9, hμ9, h⟩ := Option.bind_eq_some_iff.mp h
  refine xr_opM (pc' := 5) (lo' := [some (.ref v0), some (.int v1), none]) (st' := []) (o := stF μ v0 9 52 (xc 0)) rfl hμ9 ?_
  refine xr_go 2 (pc' := 7) (lo' := [some (.ref v0), some (.int v1), none]) (st' := [.int v1, .ref v0]) (μ' := μ9) rfl ?_
  obtain ⟨r10, hr10, h⟩ := Option.bind_eq_some_iff.mp h
  refine xr_callV (j := 182) (d' := (d + 4)) (rv1 := some (.int r10.1)) (μ1 := r10.2) (rest := []) (As := [.int v1]) rfl rfl rfl rfl (Nat.le_of_ble_eq_true rfl) (fM_findShows_kd hr10) rfl (by exact (fM_findShows_ok (d := d + (0)) hr10)) ?_
  refine xr_ifc (pct := 15) rfl rfl rfl (fun hc => ?_) (fun hc => ?_)
  · replace h := (if_neg (of_decide_eq_true hc)).symm.trans h
    refine xr_go 2 (pc' := 17) (lo' := [some (.ref v0), some (.int v1), some (.int (xc 0))]) (st' := []) (μ' := r10.2) rfl ?_
    refine xr_forget (lo := [some (.ref v0), some (.int v1), some (.int (xc 0))]) ⟨rfl, rfl, rfl, trivial⟩ ?_
    exact fM_findCovers_L17_lp h hK
  · replace h := (if_pos (Decidable.of_not_not (of_decide_eq_false hc))).symm.trans h
    refine xr_go 1 (pc' := 14) (lo' := [some (.ref v0), some (.int v1), none]) (st' := [.int (xc 0)]) (μ' := r10.2) rfl ?_
    have ho := Option.some.inj h
    subst ho
    obtain ⟨rfl, rfl⟩ := hK
    exact xr_ret (rv := some (.int (xc 0))) rfl rfl (Or.inr ⟨rfl, Or.inl rfl⟩)
noncomputable def fM_findCovers (a0 : Nat) (a1 : Int32) (μ : xM) : Option (Int32 × xM) := xgd μ a0 9 (fM_findCovers_0 a0 a1 μ)
theorem fM_findCovers_kd {a0 : Nat} {a1 : Int32} {μ : xM} {o : Int32 × xM} (h : fM_findCovers a0 a1 μ = some o) : (xK μ a0).1 = 10 + 9 := (xgd_some h).1
theorem fM_findCovers_ok {d : Nat} {a0 : Nat} {a1 : Int32} {μ : xM} {o : Int32 × xM} (h : fM_findCovers a0 a1 μ = some o) : xRun (d + 5) 188 0 [some (.ref a0), some (.int a1), none] [] μ (some (.int o.1)) o.2 :=
  xr_forget (lo := [some (.ref a0), some (.int a1), none]) (⟨rfl, rfl, trivial⟩) (fM_findCovers_0_ok (d := d) (xgd_some h).2 (show fM_findCovers_K _ _ o from ⟨rfl, rfl⟩))
-- KeptAnswersModel.isBetter(II)Z 
def fM_isBetter_K (μ : xM) (rv : Option Value) (μf : xM) : (Int32) → Prop := fun o => rv = some (.int o) ∧ μf = μ
noncomputable def fM_isBetter_15  (μ : xM) : Option (Int32) := some (xc 1)
theorem fM_isBetter_15_ok {d : Nat} {μ : xM} {rv : Option Value} {μf : xM} {out : Int32} (h : fM_isBetter_15 μ = some out) (hK : fM_isBetter_K μ rv μf out) : xRun (d + 1) 190 15 [none, none] [] μ rv μf := by
  unfold fM_isBetter_15 at h
  refine xr_go 2 (pc' := 20) (lo' := [none, none]) (st' := [.int (xc 1)]) (μ' := μ) rfl ?_
  have ho := Option.some.inj h
  subst ho
  obtain ⟨rfl, rfl⟩ := hK
  exact xr_ret (rv := some (.int (xc 1))) rfl rfl (Or.inr ⟨rfl, Or.inr rfl⟩)
noncomputable def fM_isBetter_0  (v0 : Int32) (v1 : Int32) (μ : xM) : Option (Int32) := if v1 < 0 then (fM_isBetter_15 μ) else ((fM_ones v0 μ).bind fun r1 => (fM_ones v1 μ).bind fun r2 => if r2 ≤ r1 then (some (xc 0)) else (fM_isBetter_15 μ))
theorem fM_isBetter_0_ok {d : Nat} {v0 : Int32} {v1 : Int32} {μ : xM} {rv : Option Value} {μf : xM} {out : Int32} (h : fM_isBetter_0 v0 v1 μ = some out) (hK : fM_isBetter_K μ rv μf out) : xRun (d + 1) 190 0 [some (.int v0), some (.int v1)] [] μ rv μf := by
  unfold fM_isBetter_0 at h
  refine xr_go 1 (pc' := 1) (lo' := [some (.int v0), some (.int v1)]) (st' := [.int v1]) (μ' := μ) rfl ?_
  refine xr_ifc (pct := 15) rfl rfl rfl (fun hc => ?_) (fun hc => ?_)
  · replace h := (if_pos (of_decide_eq_true hc)).symm.trans h
    refine xr_forget (lo := [none, none]) trivial ?_
    exact fM_isBetter_15_ok h hK
  · replace h := (if_neg (of_decide_eq_false hc)).symm.trans h
    refine xr_go 1 (pc' := 5) (lo' := [some (.int v0), some (.int v1)]) (st' := [.int v0]) (μ' := μ) rfl ?_
    obtain ⟨r1, hr1, h⟩ := Option.bind_eq_some_iff.mp h
    refine xr_callS (j := 141) (d' := (d + 0)) (rv1 := some (.int r1)) (μ1 := μ) (rest := []) (As := [.int v0]) rfl rfl rfl rfl (Nat.le_of_ble_eq_true rfl) rfl (by exact (fM_ones_ok (d := d + (0)) hr1)) ?_
    refine xr_go 1 (pc' := 9) (lo' := [some (.int v0), some (.int v1)]) (st' := [.int v1, .int r1]) (μ' := μ) rfl ?_
    obtain ⟨r2, hr2, h⟩ := Option.bind_eq_some_iff.mp h
    refine xr_callS (j := 141) (d' := (d + 0)) (rv1 := some (.int r2)) (μ1 := μ) (rest := [.int r1]) (As := [.int v1]) rfl rfl rfl rfl (Nat.le_of_ble_eq_true rfl) rfl (by exact (fM_ones_ok (d := d + (0)) hr2)) ?_
    refine xr_icmp (pct := 19) rfl rfl rfl (fun hc => ?_) (fun hc => ?_)
    · replace h := (if_pos (of_decide_eq_true hc)).symm.trans h
      refine xr_go 1 (pc' := 20) (lo' := [some (.int v0), some (.int v1)]) (st' := [.int (xc 0)]) (μ' := μ) rfl ?_
      have ho := Option.some.inj h
      subst ho
      obtain ⟨rfl, rfl⟩ := hK
      exact xr_ret (rv := some (.int (xc 0))) rfl rfl (Or.inr ⟨rfl, Or.inl rfl⟩)
    · replace h := (if_neg (of_decide_eq_false hc)).symm.trans h
      refine xr_forget (lo := [none, none]) trivial ?_
      exact fM_isBetter_15_ok h hK
noncomputable def fM_isBetter (a0 : Int32) (a1 : Int32) (μ : xM) : Option (Int32) := fM_isBetter_0 a0 a1 μ
theorem fM_isBetter_ok {d : Nat} {a0 : Int32} {a1 : Int32} {μ : xM} {o : Int32} (h : fM_isBetter a0 a1 μ = some o) : xRun (d + 1) 190 0 [some (.int a0), some (.int a1)] [] μ (some (.int o)) μ :=
  xr_forget (lo := [some (.int a0), some (.int a1)]) (⟨rfl, rfl, trivial⟩) (fM_isBetter_0_ok (d := d) h (show fM_isBetter_K μ _ _ o from ⟨rfl, rfl⟩))
-- KeptAnswersModel.cover(II)I 
def fM_cover_K (rv : Option Value) (μf : xM) : (Int32 × xM) → Prop := fun o => rv = some (.int o.1) ∧ μf = o.2
def fM_cover_K56 (v0 : Nat) (v2 : Int32) (v4 : Int32) (μ : xM) (d : Nat) (rv : Option Value) (μf : xM) : ((Int32 × Int32) ⊕ (Int32 × xM)) → Prop := Sum.elim (fun s : Int32 × Int32 => xRun (d + 6) 191 56 [some (.ref v0), none, some (.int v2), some (.int s.1), some (.int v4), some (.int s.2)] [] μ rv μf) (fM_cover_K rv μf)
def fM_cover_K100 (v0 : Nat) (v2 : Int32) (v3 : Int32) (μ : xM) (d : Nat) (rv : Option Value) (μf : xM) : ((Int32 × Int32) ⊕ (Int32 × xM)) → Prop := Sum.elim (fun s : Int32 × Int32 => xRun (d + 6) 191 100 [some (.ref v0), none, some (.int v2), some (.int v3), some (.int s.1), some (.int s.2)] [] μ rv μf) (fM_cover_K rv μf)
noncomputable def fM_cover_142  (v2 : Int32) (v3 : Int32) (v4 : Int32) (μ : xM) : Option (Int32 × xM) := if 0 ≤ v3 then (if v2 = 0 then ((fM_ones v3 μ).bind fun r1 => some ((r1, μ))) else (if v2 = (xc 1) then (some ((v3, μ))) else (some ((v4, μ))))) else (some ((xc (-9), μ)))
theorem fM_cover_142_ok {d : Nat} {v2 : Int32} {v3 : Int32} {v4 : Int32} {μ : xM} {rv : Option Value} {μf : xM} {out : Int32 × xM} (h : fM_cover_142 v2 v3 v4 μ = some out) (hK : fM_cover_K rv μf out) : xRun (d + 6) 191 142 [none, none, some (.int v2), some (.int v3), some (.int v4), none] [] μ rv μf := by
  unfold fM_cover_142 at h
  refine xr_go 1 (pc' := 143) (lo' := [none, none, some (.int v2), some (.int v3), some (.int v4), none]) (st' := [.int v3]) (μ' := μ) rfl ?_
  refine xr_ifc (pct := 151) rfl rfl rfl (fun hc => ?_) (fun hc => ?_)
  · replace h := (if_pos (of_decide_eq_true hc)).symm.trans h
    refine xr_go 1 (pc' := 152) (lo' := [none, none, some (.int v2), some (.int v3), some (.int v4), none]) (st' := [.int v2]) (μ' := μ) rfl ?_
    refine xr_ifc (pct := 162) rfl rfl rfl (fun hc => ?_) (fun hc => ?_)
    · replace h := (if_neg (of_decide_eq_true hc)).symm.trans h
      refine xr_go 2 (pc' := 164) (lo' := [none, none, some (.int v2), some (.int v3), some (.int v4), none]) (st' := [.int (xc 1), .int v2]) (μ' := μ) rfl ?_
      refine xr_icmp (pct := 171) rfl rfl rfl (fun hc => ?_) (fun hc => ?_)
      · replace h := (if_neg (of_decide_eq_true hc)).symm.trans h
        refine xr_go 1 (pc' := 173) (lo' := [none, none, some (.int v2), some (.int v3), some (.int v4), none]) (st' := [.int v4]) (μ' := μ) rfl ?_
        have ho := Option.some.inj h
        subst ho
        obtain ⟨rfl, rfl⟩ := hK
        exact xr_ret (rv := some (.int v4)) rfl rfl (Or.inl rfl)
      · replace h := (if_pos (Decidable.of_not_not (of_decide_eq_false hc))).symm.trans h
        refine xr_go 2 (pc' := 173) (lo' := [none, none, some (.int v2), some (.int v3), some (.int v4), none]) (st' := [.int v3]) (μ' := μ) rfl ?_
        have ho := Option.some.inj h
        subst ho
        obtain ⟨rfl, rfl⟩ := hK
        exact xr_ret (rv := some (.int v3)) rfl rfl (Or.inl rfl)
    · replace h := (if_pos (Decidable.of_not_not (of_decide_eq_false hc))).symm.trans h
      refine xr_go 1 (pc' := 156) (lo' := [none, none, some (.int v2), some (.int v3), some (.int v4), none]) (st' := [.int v3]) (μ' := μ) rfl ?_
      obtain ⟨r1, hr1, h⟩ := Option.bind_eq_some_iff.mp h
      refine xr_callS (j := 141) (d' := (d + 5)) (rv1 := some (.int r1)) (μ1 := μ) (rest := []) (As := [.int v3]) rfl rfl rfl rfl (Nat.le_of_ble_eq_true rfl) rfl (by exact (fM_ones_ok (d := d + (5)) hr1)) ?_
      refine xr_go 1 (pc' := 173) (lo' := [none, none, some (.int v2), some (.int v3), some (.int v4), none]) (st' := [.int r1]) (μ' := μ) rfl ?_
      have ho := Option.some.inj h
      subst ho
      obtain ⟨rfl, rfl⟩ := hK
      exact xr_ret (rv := some (.int r1)) rfl rfl (Or.inl rfl)
  · replace h := (if_neg (of_decide_eq_false hc)).symm.trans h
    refine xr_go 2 (pc' := 173) (lo' := [none, none, some (.int v2), some (.int v3), some (.int v4), none]) (st' := [.int (xc (-9))]) (μ' := μ) rfl ?_
    have ho := Option.some.inj h
    subst ho
    obtain ⟨rfl, rfl⟩ := hK
    exact xr_ret (rv := some (.int (xc (-9)))) rfl rfl (Or.inl rfl)
noncomputable def fM_cover_133  (v0 : Nat) (v2 : Int32) (v3 : Int32) (v5 : Int32) (s0 : Int32) (s1 : Int32) (μ : xM) : Option ((Int32 × Int32) ⊕ (Int32 × xM)) := some (.inl ((s1 + s0, v5 + xc 1)))
theorem fM_cover_133_ok {d : Nat} {v0 : Nat} {v2 : Int32} {v3 : Int32} {v5 : Int32} {s0 : Int32} {s1 : Int32} {μ : xM} {rv : Option Value} {μf : xM} {out : (Int32 × Int32) ⊕ (Int32 × xM)} (h : fM_cover_133 v0 v2 v3 v5 s0 s1 μ = some out) (hK : fM_cover_K100 v0 v2 v3 μ d rv μf out) : xRun (d + 6) 191 133 [some (.ref v0), none, some (.int v2), some (.int v3), none, some (.int v5)] [.int s0, .int s1] μ rv μf := by
  unfold fM_cover_133 at h
  refine xr_go 4 (pc' := 100) (lo' := [some (.ref v0), none, some (.int v2), some (.int v3), some (.int (s1 + s0)), some (.int (v5 + xc 1))]) (st' := []) (μ' := μ) rfl ?_
  refine xr_forget (lo := [some (.ref v0), none, some (.int v2), some (.int v3), some (.int (s1 + s0)), some (.int (v5 + xc 1))]) ⟨rfl, rfl, rfl, rfl, rfl, trivial⟩ ?_
  have ho := Option.some.inj h
  subst ho
  exact hK
noncomputable def fM_cover_L100  (v0 : Nat) (v2 : Int32) (v3 : Int32) (v4 : Int32) (v5 : Int32) (μ : xM) : Option ((Int32 × Int32) ⊕ (Int32 × xM)) := (ldF μ v0 9 52).bind fun x2 => if x2 ≤ v5 then ((fM_cover_142 v2 v3 v4 μ).map (fun o => .inr o)) else ((ldFR μ v0 9 53).bind fun x3 => (ldA μ x3 v5).bind fun x4 => (fM_ones x4 μ).bind fun r5 => (fM_ones v3 μ).bind fun r6 => if r5 = r6 then (fM_cover_133 v0 v2 v3 v5 (xc 1) v4 μ) else (fM_cover_133 v0 v2 v3 v5 (xc 0) v4 μ))
theorem fM_cover_L100_ok {d : Nat} {v0 : Nat} {v2 : Int32} {v3 : Int32} {v4 : Int32} {v5 : Int32} {μ : xM} {rv : Option Value} {μf : xM} {out : (Int32 × Int32) ⊕ (Int32 × xM)} (h : fM_cover_L100 v0 v2 v3 v4 v5 μ = some out) (hK : fM_cover_K100 v0 v2 v3 μ d rv μf out) : xRun (d + 6) 191 100 [some (.ref v0), none, some (.int v2), some (.int v3), some (.int v4), some (.int v5)] [] μ rv μf := by
  unfold fM_cover_L100 at h
  refine xr_go 2 (pc' := 103) (lo' := [some (.ref v0), none, some (.int v2), some (.int v3), some (.int v4), some (.int v5)]) (st' := [.ref v0, .int v5]) (μ' := μ) rfl ?_
  obtain ⟨x2, hx2, h⟩ := Option.bind_eq_some_iff.mp h
  refine xr_opI (pc' := 106) (lo' := [some (.ref v0), none, some (.int v2), some (.int v3), some (.int v4), some (.int v5)]) (st' := [.int v5]) (o := ldF μ v0 9 52) rfl hx2 ?_
  refine xr_icmp (pct := 142) rfl rfl rfl (fun hc => ?_) (fun hc => ?_)
  · replace h := (if_pos (of_decide_eq_true hc)).symm.trans h
    refine xr_forget (lo := [none, none, some (.int v2), some (.int v3), some (.int v4), none]) ⟨rfl, rfl, rfl, trivial⟩ ?_
    obtain ⟨o, h2, rfl⟩ := Option.map_eq_some_iff.mp h
    exact fM_cover_142_ok h2 hK
  · replace h := (if_neg (of_decide_eq_false hc)).symm.trans h
    refine xr_go 2 (pc' := 112) (lo' := [some (.ref v0), none, some (.int v2), some (.int v3), some (.int v4), some (.int v5)]) (st' := [.ref v0, .int v4]) (μ' := μ) rfl ?_
    obtain ⟨x3, hx3, h⟩ := Option.bind_eq_some_iff.mp h
    refine xr_opA (pc' := 115) (lo' := [some (.ref v0), none, some (.int v2), some (.int v3), some (.int v4), some (.int v5)]) (st' := [.int v4]) (o := ldFR μ v0 9 53) rfl hx3 ?_
    refine xr_go 1 (pc' := 117) (lo' := [some (.ref v0), none, some (.int v2), some (.int v3), some (.int v4), some (.int v5)]) (st' := [.int v5, .ref x3, .int v4]) (μ' := μ) rfl ?_
    obtain ⟨x4, hx4, h⟩ := Option.bind_eq_some_iff.mp h
    refine xr_opI (pc' := 118) (lo' := [some (.ref v0), none, some (.int v2), some (.int v3), some (.int v4), some (.int v5)]) (st' := [.int v4]) (o := ldA μ x3 v5) rfl hx4 ?_
    obtain ⟨r5, hr5, h⟩ := Option.bind_eq_some_iff.mp h
    refine xr_callS (j := 141) (d' := (d + 5)) (rv1 := some (.int r5)) (μ1 := μ) (rest := [.int v4]) (As := [.int x4]) rfl rfl rfl rfl (Nat.le_of_ble_eq_true rfl) rfl (by exact (fM_ones_ok (d := d + (5)) hr5)) ?_
    refine xr_go 1 (pc' := 122) (lo' := [some (.ref v0), none, some (.int v2), some (.int v3), some (.int v4), some (.int v5)]) (st' := [.int v3, .int r5, .int v4]) (μ' := μ) rfl ?_
    obtain ⟨r6, hr6, h⟩ := Option.bind_eq_some_iff.mp h
    refine xr_callS (j := 141) (d' := (d + 5)) (rv1 := some (.int r6)) (μ1 := μ) (rest := [.int r5, .int v4]) (As := [.int v3]) rfl rfl rfl rfl (Nat.le_of_ble_eq_true rfl) rfl (by exact (fM_ones_ok (d := d + (5)) hr6)) ?_
    refine xr_icmp (pct := 132) rfl rfl rfl (fun hc => ?_) (fun hc => ?_)
    · replace h := (if_neg (of_decide_eq_true hc)).symm.trans h
      refine xr_go 1 (pc' := 133) (lo' := [some (.ref v0), none, some (.int v2), some (.int v3), some (.int v4), some (.int v5)]) (st' := [.int (xc 0), .int v4]) (μ' := μ) rfl ?_
      refine xr_forget (lo := [some (.ref v0), none, some (.int v2), some (.int v3), none, some (.int v5)]) ⟨rfl, rfl, rfl, rfl, trivial⟩ ?_
      exact fM_cover_133_ok h hK
    · replace h := (if_pos (Decidable.of_not_not (of_decide_eq_false hc))).symm.trans h
      refine xr_go 2 (pc' := 133) (lo' := [some (.ref v0), none, some (.int v2), some (.int v3), some (.int v4), some (.int v5)]) (st' := [.int (xc 1), .int v4]) (μ' := μ) rfl ?_
      refine xr_forget (lo := [some (.ref v0), none, some (.int v2), some (.int v3), none, some (.int v5)]) ⟨rfl, rfl, rfl, rfl, trivial⟩ ?_
      exact fM_cover_133_ok h hK
theorem fM_cover_L100_lp {d : Nat} {v0 : Nat} {v2 : Int32} {v3 : Int32} {v4 : Int32} {v5 : Int32} {μ : xM} {rv : Option Value} {μf : xM} {out : Int32 × xM} (h : xwh (fun s : Int32 × Int32 => fM_cover_L100 v0 v2 v3 s.1 s.2 μ) (v4, v5) = some out) (hK : fM_cover_K rv μf out) : xRun (d + 6) 191 100 [some (.ref v0), none, some (.int v2), some (.int v3), some (.int v4), some (.int v5)] [] μ rv μf :=
  xwh_ind (Rh := fun s : Int32 × Int32 => xRun (d + 6) 191 100 [some (.ref v0), none, some (.int v2), some (.int v3), some (.int s.1), some (.int s.2)] [] μ rv μf) (Co := fM_cover_K rv μf) (fun s o hb hk => fM_cover_L100_ok hb hk) h hK
noncomputable def fM_cover_97  (v0 : Nat) (v2 : Int32) (v3 : Int32) (v4 : Int32) (μ : xM) : Option (Int32 × xM) := xwh (fun s : Int32 × Int32 => fM_cover_L100 v0 v2 v3 s.1 s.2 μ) (v4, xc 0)
theorem fM_cover_97_ok {d : Nat} {v0 : Nat} {v2 : Int32} {v3 : Int32} {v4 : Int32} {μ : xM} {rv : Option Value} {μf : xM} {out : Int32 × xM} (h : fM_cover_97 v0 v2 v3 v4 μ = some out) (hK : fM_cover_K rv μf out) : xRun (d + 6) 191 97 [some (.ref v0), none, some (.int v2), some (.int v3), some (.int v4), none] [] μ rv μf := by
  unfold fM_cover_97 at h
  refine xr_go 2 (pc' := 100) (lo' := [some (.ref v0), none, some (.int v2), some (.int v3), some (.int v4), some (.int (xc 0))]) (st' := []) (μ' := μ) rfl ?_
  refine xr_forget (lo := [some (.ref v0), none, some (.int v2), some (.int v3), some (.int v4), some (.int (xc 0))]) ⟨rfl, rfl, rfl, rfl, rfl, trivial⟩ ?_
  exact fM_cover_L100_lp h hK
noncomputable def fM_cover_90  (v0 : Nat) (v2 : Int32) (v4 : Int32) (v5 : Int32) (s0 : Int32) (μ : xM) : Option ((Int32 × Int32) ⊕ (Int32 × xM)) := some (.inl ((s0, v5 + xc 1)))
theorem fM_cover_90_ok {d : Nat} {v0 : Nat} {v2 : Int32} {v4 : Int32} {v5 : Int32} {s0 : Int32} {μ : xM} {rv : Option Value} {μf : xM} {out : (Int32 × Int32) ⊕ (Int32 × xM)} (h : fM_cover_90 v0 v2 v4 v5 s0 μ = some out) (hK : fM_cover_K56 v0 v2 v4 μ d rv μf out) : xRun (d + 6) 191 90 [some (.ref v0), none, some (.int v2), none, some (.int v4), some (.int v5)] [.int s0] μ rv μf := by
  unfold fM_cover_90 at h
  refine xr_go 3 (pc' := 56) (lo' := [some (.ref v0), none, some (.int v2), some (.int s0), some (.int v4), some (.int (v5 + xc 1))]) (st' := []) (μ' := μ) rfl ?_
  refine xr_forget (lo := [some (.ref v0), none, some (.int v2), some (.int s0), some (.int v4), some (.int (v5 + xc 1))]) ⟨rfl, rfl, rfl, rfl, rfl, trivial⟩ ?_
  have ho := Option.some.inj h
  subst ho
  exact hK
noncomputable def fM_cover_L56  (v0 : Nat) (v2 : Int32) (v3 : Int32) (v4 : Int32) (v5 : Int32) (μ : xM) : Option ((Int32 × Int32) ⊕ (Int32 × xM)) := (ldF μ v0 9 52).bind fun x7 => if x7 ≤ v5 then ((fM_cover_97 v0 v2 v3 v4 μ).map (fun o => .inr o)) else ((ldFR μ v0 9 53).bind fun x8 => (ldA μ x8 v5).bind fun x9 => (fM_isBetter x9 v3 μ).bind fun r10 => if r10 = 0 then (fM_cover_90 v0 v2 v4 v5 v3 μ) else ((ldFR μ v0 9 53).bind fun x11 => (ldA μ x11 v5).bind fun x12 => fM_cover_90 v0 v2 v4 v5 x12 μ))
theorem fM_cover_L56_ok {d : Nat} {v0 : Nat} {v2 : Int32} {v3 : Int32} {v4 : Int32} {v5 : Int32} {μ : xM} {rv : Option Value} {μf : xM} {out : (Int32 × Int32) ⊕ (Int32 × xM)} (h : fM_cover_L56 v0 v2 v3 v4 v5 μ = some out) (hK : fM_cover_K56 v0 v2 v4 μ d rv μf out) : xRun (d + 6) 191 56 [some (.ref v0), none, some (.int v2), some (.int v3), some (.int v4), some (.int v5)] [] μ rv μf := by
  unfold fM_cover_L56 at h
  refine xr_go 2 (pc' := 59) (lo' := [some (.ref v0), none, some (.int v2), some (.int v3), some (.int v4), some (.int v5)]) (st' := [.ref v0, .int v5]) (μ' := μ) rfl ?_
  obtain ⟨x7, hx7, h⟩ := Option.bind_eq_some_iff.mp h
  refine xr_opI (pc' := 62) (lo' := [some (.ref v0), none, some (.int v2), some (.int v3), some (.int v4), some (.int v5)]) (st' := [.int v5]) (o := ldF μ v0 9 52) rfl hx7 ?_
  refine xr_icmp (pct := 97) rfl rfl rfl (fun hc => ?_) (fun hc => ?_)
  · replace h := (if_pos (of_decide_eq_true hc)).symm.trans h
    refine xr_forget (lo := [some (.ref v0), none, some (.int v2), some (.int v3), some (.int v4), none]) ⟨rfl, rfl, rfl, rfl, trivial⟩ ?_
    obtain ⟨o, h2, rfl⟩ := Option.map_eq_some_iff.mp h
    exact fM_cover_97_ok h2 hK
  · replace h := (if_neg (of_decide_eq_false hc)).symm.trans h
    refine xr_go 1 (pc' := 66) (lo' := [some (.ref v0), none, some (.int v2), some (.int v3), some (.int v4), some (.int v5)]) (st' := [.ref v0]) (μ' := μ) rfl ?_
    obtain ⟨x8, hx8, h⟩ := Option.bind_eq_some_iff.mp h
    refine xr_opA (pc' := 69) (lo' := [some (.ref v0), none, some (.int v2), some (.int v3), some (.int v4), some (.int v5)]) (st' := []) (o := ldFR μ v0 9 53) rfl hx8 ?_
    refine xr_go 1 (pc' := 71) (lo' := [some (.ref v0), none, some (.int v2), some (.int v3), some (.int v4), some (.int v5)]) (st' := [.int v5, .ref x8]) (μ' := μ) rfl ?_
    obtain ⟨x9, hx9, h⟩ := Option.bind_eq_some_iff.mp h
    refine xr_opI (pc' := 72) (lo' := [some (.ref v0), none, some (.int v2), some (.int v3), some (.int v4), some (.int v5)]) (st' := []) (o := ldA μ x8 v5) rfl hx9 ?_
    refine xr_go 1 (pc' := 73) (lo' := [some (.ref v0), none, some (.int v2), some (.int v3), some (.int v4), some (.int v5)]) (st' := [.int v3, .int x9]) (μ' := μ) rfl ?_
    obtain ⟨r10, hr10, h⟩ := Option.bind_eq_some_iff.mp h
    refine xr_callS (j := 190) (d' := (d + 5)) (rv1 := some (.int r10)) (μ1 := μ) (rest := []) (As := [.int x9, .int v3]) rfl rfl rfl rfl (Nat.le_of_ble_eq_true rfl) rfl (by exact (fM_isBetter_ok (d := d + (4)) hr10)) ?_
    refine xr_ifc (pct := 89) rfl rfl rfl (fun hc => ?_) (fun hc => ?_)
    · replace h := (if_pos (of_decide_eq_true hc)).symm.trans h
      refine xr_go 1 (pc' := 90) (lo' := [some (.ref v0), none, some (.int v2), some (.int v3), some (.int v4), some (.int v5)]) (st' := [.int v3]) (μ' := μ) rfl ?_
      refine xr_forget (lo := [some (.ref v0), none, some (.int v2), none, some (.int v4), some (.int v5)]) ⟨rfl, rfl, rfl, rfl, trivial⟩ ?_
      exact fM_cover_90_ok h hK
    · replace h := (if_neg (of_decide_eq_false hc)).symm.trans h
      refine xr_go 1 (pc' := 80) (lo' := [some (.ref v0), none, some (.int v2), some (.int v3), some (.int v4), some (.int v5)]) (st' := [.ref v0]) (μ' := μ) rfl ?_
      obtain ⟨x11, hx11, h⟩ := Option.bind_eq_some_iff.mp h
      refine xr_opA (pc' := 83) (lo' := [some (.ref v0), none, some (.int v2), some (.int v3), some (.int v4), some (.int v5)]) (st' := []) (o := ldFR μ v0 9 53) rfl hx11 ?_
      refine xr_go 1 (pc' := 85) (lo' := [some (.ref v0), none, some (.int v2), some (.int v3), some (.int v4), some (.int v5)]) (st' := [.int v5, .ref x11]) (μ' := μ) rfl ?_
      obtain ⟨x12, hx12, h⟩ := Option.bind_eq_some_iff.mp h
      refine xr_opI (pc' := 86) (lo' := [some (.ref v0), none, some (.int v2), some (.int v3), some (.int v4), some (.int v5)]) (st' := []) (o := ldA μ x11 v5) rfl hx12 ?_
      refine xr_go 1 (pc' := 90) (lo' := [some (.ref v0), none, some (.int v2), some (.int v3), some (.int v4), some (.int v5)]) (st' := [.int x12]) (μ' := μ) rfl ?_
      refine xr_forget (lo := [some (.ref v0), none, some (.int v2), none, some (.int v4), some (.int v5)]) ⟨rfl, rfl, rfl, rfl, trivial⟩ ?_
      exact fM_cover_90_ok h hK
theorem fM_cover_L56_lp {d : Nat} {v0 : Nat} {v2 : Int32} {v3 : Int32} {v4 : Int32} {v5 : Int32} {μ : xM} {rv : Option Value} {μf : xM} {out : Int32 × xM} (h : xwh (fun s : Int32 × Int32 => fM_cover_L56 v0 v2 s.1 v4 s.2 μ) (v3, v5) = some out) (hK : fM_cover_K rv μf out) : xRun (d + 6) 191 56 [some (.ref v0), none, some (.int v2), some (.int v3), some (.int v4), some (.int v5)] [] μ rv μf :=
  xwh_ind (Rh := fun s : Int32 × Int32 => xRun (d + 6) 191 56 [some (.ref v0), none, some (.int v2), some (.int s.1), some (.int v4), some (.int s.2)] [] μ rv μf) (Co := fM_cover_K rv μf) (fun s o hb hk => fM_cover_L56_ok hb hk) h hK
noncomputable def fM_cover_0  (v0 : Nat) (v1 : Int32) (v2 : Int32) (μ : xM) : Option (Int32 × xM) := (fM_isAsk v0 v1 μ).bind fun r13 => if r13 = 0 then ((fM_refuse v0 (xc (-1)) μ).bind fun r18 => some ((r18.1, r18.2))) else ((fM_isIn (Int32.toInt64 v2) (Int64.ofNat 0) (Int64.ofNat 2) μ).bind fun r14 => if r14 = 0 then ((fM_refuse v0 (xc (-2)) μ).bind fun r17 => some ((r17.1, r17.2))) else ((fM_findCovers v0 v1 μ).bind fun r15 => if r15.1 = 0 then ((fM_refuse v0 (xc (-5)) r15.2).bind fun r16 => some ((r16.1, r16.2))) else (xwh (fun s : Int32 × Int32 => fM_cover_L56 v0 v2 s.1 (xc 0) s.2 r15.2) (xc (-1), xc 0))))
theorem fM_cover_0_ok {d : Nat} {v0 : Nat} {v1 : Int32} {v2 : Int32} {μ : xM} {rv : Option Value} {μf : xM} {out : Int32 × xM} (h : fM_cover_0 v0 v1 v2 μ = some out) (hK : fM_cover_K rv μf out) : xRun (d + 6) 191 0 [some (.ref v0), some (.int v1), some (.int v2), none, none, none] [] μ rv μf := by
  unfold fM_cover_0 at h
  refine xr_go 2 (pc' := 2) (lo' := [some (.ref v0), some (.int v1), some (.int v2), none, none, none]) (st' := [.int v1, .ref v0]) (μ' := μ) rfl ?_
  obtain ⟨r13, hr13, h⟩ := Option.bind_eq_some_iff.mp h
  refine xr_callV (j := 139) (d' := (d + 5)) (rv1 := some (.int r13)) (μ1 := μ) (rest := []) (As := [.int v1]) rfl rfl rfl rfl (Nat.le_of_ble_eq_true rfl) (fM_isAsk_kd hr13) rfl (by exact (fM_isAsk_ok (d := d + (4)) hr13)) ?_
  refine xr_ifc (pct := 14) rfl rfl rfl (fun hc => ?_) (fun hc => ?_)
  · replace h := (if_neg (of_decide_eq_true hc)).symm.trans h
    refine xr_go 4 (pc' := 20) (lo' := [some (.ref v0), some (.int v1), some (.int v2), none, none, none]) (st' := [.long (Int64.ofNat 2), .long (Int64.ofNat 0), .long (Int32.toInt64 v2)]) (μ' := μ) rfl ?_
    obtain ⟨r14, hr14, h⟩ := Option.bind_eq_some_iff.mp h
    refine xr_callS (j := 137) (d' := (d + 5)) (rv1 := some (.int r14)) (μ1 := μ) (rest := []) (As := [.long (Int32.toInt64 v2), .long (Int64.ofNat 0), .long (Int64.ofNat 2)]) rfl rfl rfl rfl (Nat.le_of_ble_eq_true rfl) rfl (by exact (fM_isIn_ok (d := d + (5)) hr14)) ?_
    refine xr_ifc (pct := 33) rfl rfl rfl (fun hc => ?_) (fun hc => ?_)
    · replace h := (if_neg (of_decide_eq_true hc)).symm.trans h
      refine xr_go 2 (pc' := 35) (lo' := [some (.ref v0), some (.int v1), some (.int v2), none, none, none]) (st' := [.int v1, .ref v0]) (μ' := μ) rfl ?_
      obtain ⟨r15, hr15, h⟩ := Option.bind_eq_some_iff.mp h
      refine xr_callV (j := 188) (d' := (d + 5)) (rv1 := some (.int r15.1)) (μ1 := r15.2) (rest := []) (As := [.int v1]) rfl rfl rfl rfl (Nat.le_of_ble_eq_true rfl) (fM_findCovers_kd hr15) rfl (by exact (fM_findCovers_ok (d := d + (0)) hr15)) ?_
      refine xr_ifc (pct := 48) rfl rfl rfl (fun hc => ?_) (fun hc => ?_)
      · replace h := (if_neg (of_decide_eq_true hc)).symm.trans h
        refine xr_go 6 (pc' := 56) (lo' := [some (.ref v0), some (.int v1), some (.int v2), some (.int (xc (-1))), some (.int (xc 0)), some (.int (xc 0))]) (st' := []) (μ' := r15.2) rfl ?_
        refine xr_forget (lo := [some (.ref v0), none, some (.int v2), some (.int (xc (-1))), some (.int (xc 0)), some (.int (xc 0))]) ⟨rfl, rfl, rfl, rfl, rfl, trivial⟩ ?_
        exact fM_cover_L56_lp h hK
      · replace h := (if_pos (Decidable.of_not_not (of_decide_eq_false hc))).symm.trans h
        refine xr_go 2 (pc' := 44) (lo' := [some (.ref v0), some (.int v1), some (.int v2), none, none, none]) (st' := [.int (xc (-5)), .ref v0]) (μ' := r15.2) rfl ?_
        obtain ⟨r16, hr16, h⟩ := Option.bind_eq_some_iff.mp h
        refine xr_callV (j := 138) (d' := (d + 5)) (rv1 := some (.int r16.1)) (μ1 := r16.2) (rest := []) (As := [.int (xc (-5))]) rfl rfl rfl rfl (Nat.le_of_ble_eq_true rfl) (fM_refuse_kd hr16) rfl (by exact (fM_refuse_ok (d := d + (5)) hr16)) ?_
        have ho := Option.some.inj h
        subst ho
        obtain ⟨rfl, rfl⟩ := hK
        exact xr_ret (rv := some (.int r16.1)) rfl rfl (Or.inl rfl)
    · replace h := (if_pos (Decidable.of_not_not (of_decide_eq_false hc))).symm.trans h
      refine xr_go 2 (pc' := 29) (lo' := [some (.ref v0), some (.int v1), some (.int v2), none, none, none]) (st' := [.int (xc (-2)), .ref v0]) (μ' := μ) rfl ?_
      obtain ⟨r17, hr17, h⟩ := Option.bind_eq_some_iff.mp h
      refine xr_callV (j := 138) (d' := (d + 5)) (rv1 := some (.int r17.1)) (μ1 := r17.2) (rest := []) (As := [.int (xc (-2))]) rfl rfl rfl rfl (Nat.le_of_ble_eq_true rfl) (fM_refuse_kd hr17) rfl (by exact (fM_refuse_ok (d := d + (5)) hr17)) ?_
      have ho := Option.some.inj h
      subst ho
      obtain ⟨rfl, rfl⟩ := hK
      exact xr_ret (rv := some (.int r17.1)) rfl rfl (Or.inl rfl)
  · replace h := (if_pos (Decidable.of_not_not (of_decide_eq_false hc))).symm.trans h
    refine xr_go 2 (pc' := 10) (lo' := [some (.ref v0), some (.int v1), some (.int v2), none, none, none]) (st' := [.int (xc (-1)), .ref v0]) (μ' := μ) rfl ?_
    obtain ⟨r18, hr18, h⟩ := Option.bind_eq_some_iff.mp h
    refine xr_callV (j := 138) (d' := (d + 5)) (rv1 := some (.int r18.1)) (μ1 := r18.2) (rest := []) (As := [.int (xc (-1))]) rfl rfl rfl rfl (Nat.le_of_ble_eq_true rfl) (fM_refuse_kd hr18) rfl (by exact (fM_refuse_ok (d := d + (5)) hr18)) ?_
    have ho := Option.some.inj h
    subst ho
    obtain ⟨rfl, rfl⟩ := hK
    exact xr_ret (rv := some (.int r18.1)) rfl rfl (Or.inl rfl)
noncomputable def fM_cover (a0 : Nat) (a1 : Int32) (a2 : Int32) (μ : xM) : Option (Int32 × xM) := xgd μ a0 9 (fM_cover_0 a0 a1 a2 μ)
theorem fM_cover_kd {a0 : Nat} {a1 : Int32} {a2 : Int32} {μ : xM} {o : Int32 × xM} (h : fM_cover a0 a1 a2 μ = some o) : (xK μ a0).1 = 10 + 9 := (xgd_some h).1
theorem fM_cover_ok {d : Nat} {a0 : Nat} {a1 : Int32} {a2 : Int32} {μ : xM} {o : Int32 × xM} (h : fM_cover a0 a1 a2 μ = some o) : xRun (d + 6) 191 0 [some (.ref a0), some (.int a1), some (.int a2), none, none, none] [] μ (some (.int o.1)) o.2 :=
  xr_forget (lo := [some (.ref a0), some (.int a1), some (.int a2), none, none, none]) (⟨rfl, rfl, rfl, trivial⟩) (fM_cover_0_ok (d := d) (xgd_some h).2 (show fM_cover_K _ _ o from ⟨rfl, rfl⟩))
-- KeptAnswers.covers(II)I 
def fX_covers_K (rv : Option Value) (μf : xM) : (Int32 × xM) → Prop := fun o => rv = some (.int o.1) ∧ μf = o.2
noncomputable def fX_covers_0  (v0 : Nat) (v1 : Int32) (v2 : Int32) (μ : xM) : Option (Int32 × xM) := (fX_showsRefusal v0 v1 μ).bind fun r1 => if r1.1 = 0 then ((fX_seen v0 v1 r1.2).bind fun r2 => (ldF r2.2 r2.1 6 2).bind fun x3 => if (xshr v2 x3) = 0 then ((fJI_bitCount v2 r2.2).bind fun r4 => if r4 ≤ (xc 3) then ((fX_seenThrough v0 v1 r2.2).bind fun r5 => (fS_isCover r5.1 v2 r5.2).bind fun r6 => if r6 = 0 then (some ((xc 0, r5.2))) else (some ((xc 1, r5.2)))) else ((fX_refuse v0 (xc (-6)) r2.2).bind fun r7 => some ((r7.1, r7.2)))) else ((fX_refuse v0 (xc (-1)) r2.2).bind fun r8 => some ((r8.1, r8.2)))) else ((fX_refuse v0 r1.1 r1.2).bind fun r9 => some ((r9.1, r9.2)))
theorem fX_covers_0_ok {d : Nat} {v0 : Nat} {v1 : Int32} {v2 : Int32} {μ : xM} {rv : Option Value} {μf : xM} {out : Int32 × xM} (h : fX_covers_0 v0 v1 v2 μ = some out) (hK : fX_covers_K rv μf out) : xRun (d + 13) 19 0 [some (.ref v0), some (.int v1), some (.int v2), none] [] μ rv μf := by
  unfold fX_covers_0 at h
  refine xr_go 2 (pc' := 2) (lo' := [some (.ref v0), some (.int v1), some (.int v2), none]) (st' := [.int v1, .ref v0]) (μ' := μ) rfl ?_
  obtain ⟨r1, hr1, h⟩ := Option.bind_eq_some_iff.mp h
  refine xr_callV (j := 43) (d' := (d + 12)) (rv1 := some (.int r1.1)) (μ1 := r1.2) (rest := []) (As := [.int v1]) rfl rfl rfl rfl (Nat.le_of_ble_eq_true rfl) (fX_showsRefusal_kd hr1) rfl (by exact (fX_showsRefusal_ok (d := d + (0)) hr1)) ?_
  refine xr_go 2 (pc' := 7) (lo' := [some (.ref v0), some (.int v1), some (.int v2), some (.int r1.1)]) (st' := [.int r1.1]) (μ' := r1.2) rfl ?_
  refine xr_ifc (pct := 16) rfl rfl rfl (fun hc => ?_) (fun hc => ?_)
  · replace h := (if_pos (of_decide_eq_true hc)).symm.trans h
    refine xr_go 3 (pc' := 19) (lo' := [some (.ref v0), some (.int v1), some (.int v2), some (.int r1.1)]) (st' := [.int v1, .ref v0, .int v2]) (μ' := r1.2) rfl ?_
    obtain ⟨r2, hr2, h⟩ := Option.bind_eq_some_iff.mp h
    refine xr_callV (j := 47) (d' := (d + 12)) (rv1 := some (.ref r2.1)) (μ1 := r2.2) (rest := [.int v2]) (As := [.int v1]) rfl rfl rfl rfl (Nat.le_of_ble_eq_true rfl) (fX_seen_kd hr2) rfl (by exact (fX_seen_ok (d := d + (1)) hr2)) ?_
    obtain ⟨x3, hx3, h⟩ := Option.bind_eq_some_iff.mp h
    refine xr_opI (pc' := 25) (lo' := [some (.ref v0), some (.int v1), some (.int v2), some (.int r1.1)]) (st' := [.int v2]) (o := ldF r2.2 r2.1 6 2) rfl hx3 ?_
    refine xr_go 1 (pc' := 26) (lo' := [some (.ref v0), some (.int v1), some (.int v2), some (.int r1.1)]) (st' := [.int (xshr v2 x3)]) (μ' := r2.2) rfl ?_
    refine xr_ifc (pct := 35) rfl rfl rfl (fun hc => ?_) (fun hc => ?_)
    · replace h := (if_pos (of_decide_eq_true hc)).symm.trans h
      refine xr_go 1 (pc' := 36) (lo' := [some (.ref v0), some (.int v1), some (.int v2), some (.int r1.1)]) (st' := [.int v2]) (μ' := r2.2) rfl ?_
      obtain ⟨r4, hr4, h⟩ := Option.bind_eq_some_iff.mp h
      refine xr_callS (j := 221) (d' := (d + 12)) (rv1 := some (.int r4)) (μ1 := r2.2) (rest := []) (As := [.int v2]) rfl rfl rfl rfl (Nat.le_of_ble_eq_true rfl) rfl (by exact (fJI_bitCount_ok (d := d + (12)) hr4)) ?_
      refine xr_go 1 (pc' := 40) (lo' := [some (.ref v0), some (.int v1), some (.int v2), some (.int r1.1)]) (st' := [.int (xc 3), .int r4]) (μ' := r2.2) rfl ?_
      refine xr_icmp (pct := 50) rfl rfl rfl (fun hc => ?_) (fun hc => ?_)
      · replace h := (if_pos (of_decide_eq_true hc)).symm.trans h
        refine xr_go 2 (pc' := 52) (lo' := [some (.ref v0), some (.int v1), some (.int v2), some (.int r1.1)]) (st' := [.int v1, .ref v0]) (μ' := r2.2) rfl ?_
        obtain ⟨r5, hr5, h⟩ := Option.bind_eq_some_iff.mp h
        refine xr_callV (j := 48) (d' := (d + 12)) (rv1 := some (.ref r5.1)) (μ1 := r5.2) (rest := []) (As := [.int v1]) rfl rfl rfl rfl (Nat.le_of_ble_eq_true rfl) (fX_seenThrough_kd hr5) rfl (by exact (fX_seenThrough_ok (d := d + (1)) hr5)) ?_
        refine xr_go 1 (pc' := 56) (lo' := [some (.ref v0), some (.int v1), some (.int v2), some (.int r1.1)]) (st' := [.int v2, .ref r5.1]) (μ' := r5.2) rfl ?_
        obtain ⟨r6, hr6, h⟩ := Option.bind_eq_some_iff.mp h
        refine xr_callV (j := 104) (d' := (d + 12)) (rv1 := some (.int r6)) (μ1 := r5.2) (rest := []) (As := [.int v2]) rfl rfl rfl rfl (Nat.le_of_ble_eq_true rfl) (fS_isCover_kd hr6) rfl (by exact (fS_isCover_ok (d := d + (12)) hr6)) ?_
        refine xr_ifc (pct := 66) rfl rfl rfl (fun hc => ?_) (fun hc => ?_)
        · replace h := (if_pos (of_decide_eq_true hc)).symm.trans h
          refine xr_go 1 (pc' := 67) (lo' := [some (.ref v0), some (.int v1), some (.int v2), some (.int r1.1)]) (st' := [.int (xc 0)]) (μ' := r5.2) rfl ?_
          have ho := Option.some.inj h
          subst ho
          obtain ⟨rfl, rfl⟩ := hK
          exact xr_ret (rv := some (.int (xc 0))) rfl rfl (Or.inl rfl)
        · replace h := (if_neg (of_decide_eq_false hc)).symm.trans h
          refine xr_go 2 (pc' := 67) (lo' := [some (.ref v0), some (.int v1), some (.int v2), some (.int r1.1)]) (st' := [.int (xc 1)]) (μ' := r5.2) rfl ?_
          have ho := Option.some.inj h
          subst ho
          obtain ⟨rfl, rfl⟩ := hK
          exact xr_ret (rv := some (.int (xc 1))) rfl rfl (Or.inl rfl)
      · replace h := (if_neg (of_decide_eq_false hc)).symm.trans h
        refine xr_go 2 (pc' := 46) (lo' := [some (.ref v0), some (.int v1), some (.int v2), some (.int r1.1)]) (st' := [.int (xc (-6)), .ref v0]) (μ' := r2.2) rfl ?_
        obtain ⟨r7, hr7, h⟩ := Option.bind_eq_some_iff.mp h
        refine xr_callV (j := 37) (d' := (d + 12)) (rv1 := some (.int r7.1)) (μ1 := r7.2) (rest := []) (As := [.int (xc (-6))]) rfl rfl rfl rfl (Nat.le_of_ble_eq_true rfl) (fX_refuse_kd hr7) rfl (by exact (fX_refuse_ok (d := d + (12)) hr7)) ?_
        have ho := Option.some.inj h
        subst ho
        obtain ⟨rfl, rfl⟩ := hK
        exact xr_ret (rv := some (.int r7.1)) rfl rfl (Or.inl rfl)
    · replace h := (if_neg (of_decide_eq_false hc)).symm.trans h
      refine xr_go 2 (pc' := 31) (lo' := [some (.ref v0), some (.int v1), some (.int v2), some (.int r1.1)]) (st' := [.int (xc (-1)), .ref v0]) (μ' := r2.2) rfl ?_
      obtain ⟨r8, hr8, h⟩ := Option.bind_eq_some_iff.mp h
      refine xr_callV (j := 37) (d' := (d + 12)) (rv1 := some (.int r8.1)) (μ1 := r8.2) (rest := []) (As := [.int (xc (-1))]) rfl rfl rfl rfl (Nat.le_of_ble_eq_true rfl) (fX_refuse_kd hr8) rfl (by exact (fX_refuse_ok (d := d + (12)) hr8)) ?_
      have ho := Option.some.inj h
      subst ho
      obtain ⟨rfl, rfl⟩ := hK
      exact xr_ret (rv := some (.int r8.1)) rfl rfl (Or.inl rfl)
  · replace h := (if_neg (of_decide_eq_false hc)).symm.trans h
    refine xr_go 2 (pc' := 12) (lo' := [some (.ref v0), some (.int v1), some (.int v2), some (.int r1.1)]) (st' := [.int r1.1, .ref v0]) (μ' := r1.2) rfl ?_
    obtain ⟨r9, hr9, h⟩ := Option.bind_eq_some_iff.mp h
    refine xr_callV (j := 37) (d' := (d + 12)) (rv1 := some (.int r9.1)) (μ1 := r9.2) (rest := []) (As := [.int r1.1]) rfl rfl rfl rfl (Nat.le_of_ble_eq_true rfl) (fX_refuse_kd hr9) rfl (by exact (fX_refuse_ok (d := d + (12)) hr9)) ?_
    have ho := Option.some.inj h
    subst ho
    obtain ⟨rfl, rfl⟩ := hK
    exact xr_ret (rv := some (.int r9.1)) rfl rfl (Or.inl rfl)
noncomputable def fX_covers (a0 : Nat) (a1 : Int32) (a2 : Int32) (μ : xM) : Option (Int32 × xM) := xgd μ a0 0 (fX_covers_0 a0 a1 a2 μ)
theorem fX_covers_kd {a0 : Nat} {a1 : Int32} {a2 : Int32} {μ : xM} {o : Int32 × xM} (h : fX_covers a0 a1 a2 μ = some o) : (xK μ a0).1 = 10 + 0 := (xgd_some h).1
theorem fX_covers_ok {d : Nat} {a0 : Nat} {a1 : Int32} {a2 : Int32} {μ : xM} {o : Int32 × xM} (h : fX_covers a0 a1 a2 μ = some o) : xRun (d + 13) 19 0 [some (.ref a0), some (.int a1), some (.int a2), none] [] μ (some (.int o.1)) o.2 :=
  xr_forget (lo := [some (.ref a0), some (.int a1), some (.int a2), none]) (⟨rfl, rfl, rfl, trivial⟩) (fX_covers_0_ok (d := d) (xgd_some h).2 (show fX_covers_K _ _ o from ⟨rfl, rfl⟩))
-- KeptAnswersModel.covers(II)I 
def fM_covers_K (rv : Option Value) (μf : xM) : (Int32 × xM) → Prop := fun o => rv = some (.int o.1) ∧ μf = o.2
noncomputable def fM_covers_0  (v0 : Nat) (v1 : Int32) (v2 : Int32) (μ : xM) : Option (Int32 × xM) := (fM_isAsk v0 v1 μ).bind fun r1 => if r1 = 0 then ((fM_refuse v0 (xc (-1)) μ).bind fun r10 => some ((r10.1, r10.2))) else ((fM_findShows v0 v1 μ).bind fun r2 => if r2.1 = 0 then ((fM_refuse v0 (xc (-5)) r2.2).bind fun r9 => some ((r9.1, r9.2))) else ((ldF r2.2 v0 9 39).bind fun x3 => (fM_isIn (Int32.toInt64 v2) (Int64.ofNat 0) (Int32.toInt64 (((xc 1) <<< (x3 &&& 31)) - (xc 1))) r2.2).bind fun r4 => if r4 = 0 then ((fM_refuse v0 (xc (-1)) r2.2).bind fun r8 => some ((r8.1, r8.2))) else ((fM_ones v2 r2.2).bind fun r5 => if r5 ≤ (xc 3) then ((fM_isCover v0 v1 v2 r2.2).bind fun r6 => if r6.1 = 0 then (some ((xc 0, r6.2))) else (some ((xc 1, r6.2)))) else ((fM_refuse v0 (xc (-6)) r2.2).bind fun r7 => some ((r7.1, r7.2))))))
theorem fM_covers_0_ok {d : Nat} {v0 : Nat} {v1 : Int32} {v2 : Int32} {μ : xM} {rv : Option Value} {μf : xM} {out : Int32 × xM} (h : fM_covers_0 v0 v1 v2 μ = some out) (hK : fM_covers_K rv μf out) : xRun (d + 5) 192 0 [some (.ref v0), some (.int v1), some (.int v2)] [] μ rv μf := by
  unfold fM_covers_0 at h
  refine xr_go 2 (pc' := 2) (lo' := [some (.ref v0), some (.int v1), some (.int v2)]) (st' := [.int v1, .ref v0]) (μ' := μ) rfl ?_
  obtain ⟨r1, hr1, h⟩ := Option.bind_eq_some_iff.mp h
  refine xr_callV (j := 139) (d' := (d + 4)) (rv1 := some (.int r1)) (μ1 := μ) (rest := []) (As := [.int v1]) rfl rfl rfl rfl (Nat.le_of_ble_eq_true rfl) (fM_isAsk_kd hr1) rfl (by exact (fM_isAsk_ok (d := d + (3)) hr1)) ?_
  refine xr_ifc (pct := 14) rfl rfl rfl (fun hc => ?_) (fun hc => ?_)
  · replace h := (if_neg (of_decide_eq_true hc)).symm.trans h
    refine xr_go 2 (pc' := 16) (lo' := [some (.ref v0), some (.int v1), some (.int v2)]) (st' := [.int v1, .ref v0]) (μ' := μ) rfl ?_
    obtain ⟨r2, hr2, h⟩ := Option.bind_eq_some_iff.mp h
    refine xr_callV (j := 182) (d' := (d + 4)) (rv1 := some (.int r2.1)) (μ1 := r2.2) (rest := []) (As := [.int v1]) rfl rfl rfl rfl (Nat.le_of_ble_eq_true rfl) (fM_findShows_kd hr2) rfl (by exact (fM_findShows_ok (d := d + (0)) hr2)) ?_
    refine xr_ifc (pct := 29) rfl rfl rfl (fun hc => ?_) (fun hc => ?_)
    · replace h := (if_neg (of_decide_eq_true hc)).symm.trans h
      refine xr_go 5 (pc' := 34) (lo' := [some (.ref v0), some (.int v1), some (.int v2)]) (st' := [.ref v0, .int (xc 1), .long (Int64.ofNat 0), .long (Int32.toInt64 v2)]) (μ' := r2.2) rfl ?_
      obtain ⟨x3, hx3, h⟩ := Option.bind_eq_some_iff.mp h
      refine xr_opI (pc' := 37) (lo' := [some (.ref v0), some (.int v1), some (.int v2)]) (st' := [.int (xc 1), .long (Int64.ofNat 0), .long (Int32.toInt64 v2)]) (o := ldF r2.2 v0 9 39) rfl hx3 ?_
      refine xr_go 4 (pc' := 41) (lo' := [some (.ref v0), some (.int v1), some (.int v2)]) (st' := [.long (Int32.toInt64 (((xc 1) <<< (x3 &&& 31)) - (xc 1))), .long (Int64.ofNat 0), .long (Int32.toInt64 v2)]) (μ' := r2.2) rfl ?_
      obtain ⟨r4, hr4, h⟩ := Option.bind_eq_some_iff.mp h
      refine xr_callS (j := 137) (d' := (d + 4)) (rv1 := some (.int r4)) (μ1 := r2.2) (rest := []) (As := [.long (Int32.toInt64 v2), .long (Int64.ofNat 0), .long (Int32.toInt64 (((xc 1) <<< (x3 &&& 31)) - (xc 1)))]) rfl rfl rfl rfl (Nat.le_of_ble_eq_true rfl) rfl (by exact (fM_isIn_ok (d := d + (4)) hr4)) ?_
      refine xr_ifc (pct := 53) rfl rfl rfl (fun hc => ?_) (fun hc => ?_)
      · replace h := (if_neg (of_decide_eq_true hc)).symm.trans h
        refine xr_go 1 (pc' := 54) (lo' := [some (.ref v0), some (.int v1), some (.int v2)]) (st' := [.int v2]) (μ' := r2.2) rfl ?_
        obtain ⟨r5, hr5, h⟩ := Option.bind_eq_some_iff.mp h
        refine xr_callS (j := 141) (d' := (d + 4)) (rv1 := some (.int r5)) (μ1 := r2.2) (rest := []) (As := [.int v2]) rfl rfl rfl rfl (Nat.le_of_ble_eq_true rfl) rfl (by exact (fM_ones_ok (d := d + (4)) hr5)) ?_
        refine xr_go 1 (pc' := 58) (lo' := [some (.ref v0), some (.int v1), some (.int v2)]) (st' := [.int (xc 3), .int r5]) (μ' := r2.2) rfl ?_
        refine xr_icmp (pct := 68) rfl rfl rfl (fun hc => ?_) (fun hc => ?_)
        · replace h := (if_pos (of_decide_eq_true hc)).symm.trans h
          refine xr_go 3 (pc' := 71) (lo' := [some (.ref v0), some (.int v1), some (.int v2)]) (st' := [.int v2, .int v1, .ref v0]) (μ' := r2.2) rfl ?_
          obtain ⟨r6, hr6, h⟩ := Option.bind_eq_some_iff.mp h
          refine xr_callV (j := 187) (d' := (d + 4)) (rv1 := some (.int r6.1)) (μ1 := r6.2) (rest := []) (As := [.int v1, .int v2]) rfl rfl rfl rfl (Nat.le_of_ble_eq_true rfl) (fM_isCover_kd hr6) rfl (by exact (fM_isCover_ok (d := d + (1)) hr6)) ?_
          refine xr_ifc (pct := 81) rfl rfl rfl (fun hc => ?_) (fun hc => ?_)
          · replace h := (if_pos (of_decide_eq_true hc)).symm.trans h
            refine xr_go 1 (pc' := 82) (lo' := [some (.ref v0), some (.int v1), some (.int v2)]) (st' := [.int (xc 0)]) (μ' := r6.2) rfl ?_
            have ho := Option.some.inj h
            subst ho
            obtain ⟨rfl, rfl⟩ := hK
            exact xr_ret (rv := some (.int (xc 0))) rfl rfl (Or.inl rfl)
          · replace h := (if_neg (of_decide_eq_false hc)).symm.trans h
            refine xr_go 2 (pc' := 82) (lo' := [some (.ref v0), some (.int v1), some (.int v2)]) (st' := [.int (xc 1)]) (μ' := r6.2) rfl ?_
            have ho := Option.some.inj h
            subst ho
            obtain ⟨rfl, rfl⟩ := hK
            exact xr_ret (rv := some (.int (xc 1))) rfl rfl (Or.inl rfl)
        · replace h := (if_neg (of_decide_eq_false hc)).symm.trans h
          refine xr_go 2 (pc' := 64) (lo' := [some (.ref v0), some (.int v1), some (.int v2)]) (st' := [.int (xc (-6)), .ref v0]) (μ' := r2.2) rfl ?_
          obtain ⟨r7, hr7, h⟩ := Option.bind_eq_some_iff.mp h
          refine xr_callV (j := 138) (d' := (d + 4)) (rv1 := some (.int r7.1)) (μ1 := r7.2) (rest := []) (As := [.int (xc (-6))]) rfl rfl rfl rfl (Nat.le_of_ble_eq_true rfl) (fM_refuse_kd hr7) rfl (by exact (fM_refuse_ok (d := d + (4)) hr7)) ?_
          have ho := Option.some.inj h
          subst ho
          obtain ⟨rfl, rfl⟩ := hK
          exact xr_ret (rv := some (.int r7.1)) rfl rfl (Or.inl rfl)
      · replace h := (if_pos (Decidable.of_not_not (of_decide_eq_false hc))).symm.trans h
        refine xr_go 2 (pc' := 49) (lo' := [some (.ref v0), some (.int v1), some (.int v2)]) (st' := [.int (xc (-1)), .ref v0]) (μ' := r2.2) rfl ?_
        obtain ⟨r8, hr8, h⟩ := Option.bind_eq_some_iff.mp h
        refine xr_callV (j := 138) (d' := (d + 4)) (rv1 := some (.int r8.1)) (μ1 := r8.2) (rest := []) (As := [.int (xc (-1))]) rfl rfl rfl rfl (Nat.le_of_ble_eq_true rfl) (fM_refuse_kd hr8) rfl (by exact (fM_refuse_ok (d := d + (4)) hr8)) ?_
        have ho := Option.some.inj h
        subst ho
        obtain ⟨rfl, rfl⟩ := hK
        exact xr_ret (rv := some (.int r8.1)) rfl rfl (Or.inl rfl)
    · replace h := (if_pos (Decidable.of_not_not (of_decide_eq_false hc))).symm.trans h
      refine xr_go 2 (pc' := 25) (lo' := [some (.ref v0), some (.int v1), some (.int v2)]) (st' := [.int (xc (-5)), .ref v0]) (μ' := r2.2) rfl ?_
      obtain ⟨r9, hr9, h⟩ := Option.bind_eq_some_iff.mp h
      refine xr_callV (j := 138) (d' := (d + 4)) (rv1 := some (.int r9.1)) (μ1 := r9.2) (rest := []) (As := [.int (xc (-5))]) rfl rfl rfl rfl (Nat.le_of_ble_eq_true rfl) (fM_refuse_kd hr9) rfl (by exact (fM_refuse_ok (d := d + (4)) hr9)) ?_
      have ho := Option.some.inj h
      subst ho
      obtain ⟨rfl, rfl⟩ := hK
      exact xr_ret (rv := some (.int r9.1)) rfl rfl (Or.inl rfl)
  · replace h := (if_pos (Decidable.of_not_not (of_decide_eq_false hc))).symm.trans h
    refine xr_go 2 (pc' := 10) (lo' := [some (.ref v0), some (.int v1), some (.int v2)]) (st' := [.int (xc (-1)), .ref v0]) (μ' := μ) rfl ?_
    obtain ⟨r10, hr10, h⟩ := Option.bind_eq_some_iff.mp h
    refine xr_callV (j := 138) (d' := (d + 4)) (rv1 := some (.int r10.1)) (μ1 := r10.2) (rest := []) (As := [.int (xc (-1))]) rfl rfl rfl rfl (Nat.le_of_ble_eq_true rfl) (fM_refuse_kd hr10) rfl (by exact (fM_refuse_ok (d := d + (4)) hr10)) ?_
    have ho := Option.some.inj h
    subst ho
    obtain ⟨rfl, rfl⟩ := hK
    exact xr_ret (rv := some (.int r10.1)) rfl rfl (Or.inl rfl)
noncomputable def fM_covers (a0 : Nat) (a1 : Int32) (a2 : Int32) (μ : xM) : Option (Int32 × xM) := xgd μ a0 9 (fM_covers_0 a0 a1 a2 μ)
theorem fM_covers_kd {a0 : Nat} {a1 : Int32} {a2 : Int32} {μ : xM} {o : Int32 × xM} (h : fM_covers a0 a1 a2 μ = some o) : (xK μ a0).1 = 10 + 9 := (xgd_some h).1
theorem fM_covers_ok {d : Nat} {a0 : Nat} {a1 : Int32} {a2 : Int32} {μ : xM} {o : Int32 × xM} (h : fM_covers a0 a1 a2 μ = some o) : xRun (d + 5) 192 0 [some (.ref a0), some (.int a1), some (.int a2)] [] μ (some (.int o.1)) o.2 :=
  xr_forget (lo := [some (.ref a0), some (.int a1), some (.int a2)]) (⟨rfl, rfl, rfl, trivial⟩) (fM_covers_0_ok (d := d) (xgd_some h).2 (show fM_covers_K _ _ o from ⟨rfl, rfl⟩))
-- KeptAnswers.areViews(I)Z 
def fX_areViews_K (μ : xM) (rv : Option Value) (μf : xM) : (Int32) → Prop := fun o => rv = some (.int o) ∧ μf = μ
noncomputable def fX_areViews_0  (v0 : Nat) (v1 : Int32) (μ : xM) : Option (Int32) := (ldFR μ v0 0 0).bind fun x1 => (ldF μ x1 3 3).bind fun x2 => if (xshr v1 x2) = 0 then (some (xc 1)) else (some (xc 0))
theorem fX_areViews_0_ok {d : Nat} {v0 : Nat} {v1 : Int32} {μ : xM} {rv : Option Value} {μf : xM} {out : Int32} (h : fX_areViews_0 v0 v1 μ = some out) (hK : fX_areViews_K μ rv μf out) : xRun (d + 0) 41 0 [some (.ref v0), some (.int v1)] [] μ rv μf := by
  unfold fX_areViews_0 at h
  refine xr_go 2 (pc' := 2) (lo' := [some (.ref v0), some (.int v1)]) (st' := [.ref v0, .int v1]) (μ' := μ) rfl ?_
  obtain ⟨x1, hx1, h⟩ := Option.bind_eq_some_iff.mp h
  refine xr_opA (pc' := 5) (lo' := [some (.ref v0), some (.int v1)]) (st' := [.int v1]) (o := ldFR μ v0 0 0) rfl hx1 ?_
  obtain ⟨x2, hx2, h⟩ := Option.bind_eq_some_iff.mp h
  refine xr_opI (pc' := 8) (lo' := [some (.ref v0), some (.int v1)]) (st' := [.int v1]) (o := ldF μ x1 3 3) rfl hx2 ?_
  refine xr_go 1 (pc' := 9) (lo' := [some (.ref v0), some (.int v1)]) (st' := [.int (xshr v1 x2)]) (μ' := μ) rfl ?_
  refine xr_ifc (pct := 16) rfl rfl rfl (fun hc => ?_) (fun hc => ?_)
  · replace h := (if_neg (of_decide_eq_true hc)).symm.trans h
    refine xr_go 1 (pc' := 17) (lo' := [some (.ref v0), some (.int v1)]) (st' := [.int (xc 0)]) (μ' := μ) rfl ?_
    have ho := Option.some.inj h
    subst ho
    obtain ⟨rfl, rfl⟩ := hK
    exact xr_ret (rv := some (.int (xc 0))) rfl rfl (Or.inr ⟨rfl, Or.inl rfl⟩)
  · replace h := (if_pos (Decidable.of_not_not (of_decide_eq_false hc))).symm.trans h
    refine xr_go 2 (pc' := 17) (lo' := [some (.ref v0), some (.int v1)]) (st' := [.int (xc 1)]) (μ' := μ) rfl ?_
    have ho := Option.some.inj h
    subst ho
    obtain ⟨rfl, rfl⟩ := hK
    exact xr_ret (rv := some (.int (xc 1))) rfl rfl (Or.inr ⟨rfl, Or.inr rfl⟩)
noncomputable def fX_areViews (a0 : Nat) (a1 : Int32) (μ : xM) : Option (Int32) := xgd μ a0 0 (fX_areViews_0 a0 a1 μ)
theorem fX_areViews_kd {a0 : Nat} {a1 : Int32} {μ : xM} {o : Int32} (h : fX_areViews a0 a1 μ = some o) : (xK μ a0).1 = 10 + 0 := (xgd_some h).1
theorem fX_areViews_ok {d : Nat} {a0 : Nat} {a1 : Int32} {μ : xM} {o : Int32} (h : fX_areViews a0 a1 μ = some o) : xRun (d + 0) 41 0 [some (.ref a0), some (.int a1)] [] μ (some (.int o)) μ :=
  xr_forget (lo := [some (.ref a0), some (.int a1)]) (⟨rfl, rfl, trivial⟩) (fX_areViews_0_ok (d := d) (xgd_some h).2 (show fX_areViews_K μ _ _ o from ⟨rfl, rfl⟩))
-- KeptAnswers$Sight.isCoveredBy(I)Z 
def fS_isCoveredBy_K (μ : xM) (rv : Option Value) (μf : xM) : (Int32) → Prop := fun o => rv = some (.int o) ∧ μf = μ
noncomputable def fS_isCoveredBy_0  (v0 : Nat) (v1 : Int32) (μ : xM) : Option (Int32) := (ldFL μ v0 6 5).bind fun x1 => if (lg_cmp ((x1 >>> (Int32.toInt64 v1 &&& 63)) &&& (Int64.ofNat 1)) (Int64.ofNat 0)) = 0 then (some (xc 0)) else (some (xc 1))
theorem fS_isCoveredBy_0_ok {d : Nat} {v0 : Nat} {v1 : Int32} {μ : xM} {rv : Option Value} {μf : xM} {out : Int32} (h : fS_isCoveredBy_0 v0 v1 μ = some out) (hK : fS_isCoveredBy_K μ rv μf out) : xRun (d + 0) 105 0 [some (.ref v0), some (.int v1)] [] μ rv μf := by
  unfold fS_isCoveredBy_0 at h
  refine xr_go 1 (pc' := 1) (lo' := [some (.ref v0), some (.int v1)]) (st' := [.ref v0]) (μ' := μ) rfl ?_
  obtain ⟨x1, hx1, h⟩ := Option.bind_eq_some_iff.mp h
  refine xr_opJ (pc' := 4) (lo' := [some (.ref v0), some (.int v1)]) (st' := []) (o := ldFL μ v0 6 5) rfl hx1 ?_
  refine xr_go 6 (pc' := 10) (lo' := [some (.ref v0), some (.int v1)]) (st' := [.int (lg_cmp ((x1 >>> (Int32.toInt64 v1 &&& 63)) &&& (Int64.ofNat 1)) (Int64.ofNat 0))]) (μ' := μ) rfl ?_
  refine xr_ifc (pct := 17) rfl rfl rfl (fun hc => ?_) (fun hc => ?_)
  · replace h := (if_pos (of_decide_eq_true hc)).symm.trans h
    refine xr_go 1 (pc' := 18) (lo' := [some (.ref v0), some (.int v1)]) (st' := [.int (xc 0)]) (μ' := μ) rfl ?_
    have ho := Option.some.inj h
    subst ho
    obtain ⟨rfl, rfl⟩ := hK
    exact xr_ret (rv := some (.int (xc 0))) rfl rfl (Or.inr ⟨rfl, Or.inl rfl⟩)
  · replace h := (if_neg (of_decide_eq_false hc)).symm.trans h
    refine xr_go 2 (pc' := 18) (lo' := [some (.ref v0), some (.int v1)]) (st' := [.int (xc 1)]) (μ' := μ) rfl ?_
    have ho := Option.some.inj h
    subst ho
    obtain ⟨rfl, rfl⟩ := hK
    exact xr_ret (rv := some (.int (xc 1))) rfl rfl (Or.inr ⟨rfl, Or.inr rfl⟩)
noncomputable def fS_isCoveredBy (a0 : Nat) (a1 : Int32) (μ : xM) : Option (Int32) := xgd μ a0 6 (fS_isCoveredBy_0 a0 a1 μ)
theorem fS_isCoveredBy_kd {a0 : Nat} {a1 : Int32} {μ : xM} {o : Int32} (h : fS_isCoveredBy a0 a1 μ = some o) : (xK μ a0).1 = 10 + 6 := (xgd_some h).1
theorem fS_isCoveredBy_ok {d : Nat} {a0 : Nat} {a1 : Int32} {μ : xM} {o : Int32} (h : fS_isCoveredBy a0 a1 μ = some o) : xRun (d + 0) 105 0 [some (.ref a0), some (.int a1)] [] μ (some (.int o)) μ :=
  xr_forget (lo := [some (.ref a0), some (.int a1)]) (⟨rfl, rfl, trivial⟩) (fS_isCoveredBy_0_ok (d := d) (xgd_some h).2 (show fS_isCoveredBy_K μ _ _ o from ⟨rfl, rfl⟩))
